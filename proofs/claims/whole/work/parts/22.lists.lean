/-! THE RULES AS LISTS OF STEPS -/
def runS (co va : Nat → Int32) : Nat × (Nat → Int32) → Nat → Nat → Nat × (Nat → Int32)
  | s, _, 0 => s
  | s, a, k + 1 => runS co va (stepR co va s a) (a + 1) k
theorem runS_snoc (co va : Nat → Int32) : ∀ (k : Nat) (s : Nat × (Nat → Int32)) (a : Nat), runS co va s a (k + 1) = stepR co va (runS co va s a k) (a + k)
  | 0, _, _ => rfl
  | k + 1, s, a => by
    show runS co va (stepR co va s a) (a + 1) (k + 1) = _
    rw [runS_snoc co va k (stepR co va s a) (a + 1), show a + 1 + k = a + (k + 1) by omega]
    rfl
theorem evS_run (co va sk : Nat → Int32) (a0 : Nat) : ∀ k, evS co va sk a0 k = runS co va (0, sk) a0 k
  | 0 => rfl
  | k + 1 => by rw [runS_snoc, ← evS_run co va sk a0 k]; rfl
def stk (sk : Nat → Int32) : Nat → List Int32
  | 0 => []
  | t + 1 => sk t :: stk sk t
theorem stk_upd (sk : Nat → Int32) (i : Nat) (x : Int32) : ∀ t, t ≤ i → stk (upd sk i x) t = stk sk t
  | 0, _ => rfl
  | t + 1, h => by
    show upd sk i x t :: stk (upd sk i x) t = sk t :: stk sk t
    rw [upd_other _ _ (show ¬ t = i by omega), stk_upd sk i x t (by omega)]
def stepL (va : Nat → Int32) (st : List Int32) (c : Int32) : List Int32 :=
  if 100 ≤ c ∨ c < 7 then (if c < 100 then va c.toNatClampNeg else c - 100) :: st
  else if c = 18 then (match st with | x :: r => (if x = 0 then 1 else 0) :: r | [] => [])
  else (match st with | y :: x :: r => joinF c x y :: r | z => z)
def runL (va : Nat → Int32) : List Int32 → List Int32 → List Int32
  | [], st => st
  | c :: t, st => runL va t (stepL va st c)
/-- how many wait: k before, m behind; never more than 40 -/
def wfD : List Int32 → Nat → Nat → Prop
  | [], k, m => k = m
  | c :: t, k, m => 0 ≤ c ∧ (if 100 ≤ c ∨ c < 7 then k < 40 ∧ wfD t (k + 1) m else if c = 18 then 1 ≤ k ∧ wfD t k m else 10 ≤ c ∧ c ≤ 17 ∧ 2 ≤ k ∧ wfD t (k - 1) m)
def evL (L : List Int32) (va : Nat → Int32) : Int32 := (runL va L []).headD 0
theorem runS_eq (co va : Nat → Int32) : ∀ (L : List Int32) (s : Nat × (Nat → Int32)) (a m : Nat), (∀ i x, L[i]? = some x → co (a + i) = x) → wfD L s.1 m → (runS co va s a L.length).1 = m ∧ stk (runS co va s a L.length).2 m = runL va L (stk s.2 s.1)
  | [], s, a, m, _, hw => by
    have hw : s.1 = m := hw
    exact ⟨hw, by rw [← hw]; rfl⟩
  | c :: t, s, a, m, hc, hw => by
    have c0 : co a = c := hc 0 c rfl
    have ht : ∀ i x, t[i]? = some x → co (a + 1 + i) = x := fun i x h => by
      rw [show a + 1 + i = a + (i + 1) by omega]
      exact hc (i + 1) x h
    obtain ⟨h0, hw⟩ := hw
    have key : wfD t (stepR co va s a).1 m ∧ stk (stepR co va s a).2 (stepR co va s a).1 = stepL va (stk s.2 s.1) c := by
      unfold stepR stepL
      rw [c0]
      by_cases q1 : 100 ≤ c ∨ c < 7
      · rw [if_pos q1] at hw ⊢
        rw [if_pos hw.1, if_pos q1]
        refine ⟨hw.2, ?_⟩
        show upd s.2 s.1 _ s.1 :: stk (upd s.2 s.1 _) s.1 = _
        rw [upd_same, stk_upd _ _ _ _ (Nat.le_refl _)]
      · rw [if_neg q1] at hw ⊢
        by_cases q2 : c = 18
        · rw [if_pos q2] at hw
          rw [if_pos ⟨q2, hw.1⟩, if_neg q1, if_pos q2]
          refine ⟨hw.2, ?_⟩
          obtain ⟨u, hu⟩ : ∃ u, s.1 = u + 1 := ⟨s.1 - 1, by omega⟩
          show stk (upd s.2 (s.1 - 1) _) s.1 = _
          rw [hu]
          show upd s.2 u _ u :: stk (upd s.2 u _) u = _
          rw [upd_same, stk_upd _ _ _ _ (Nat.le_refl _)]
          rfl
        · rw [if_neg q2] at hw
          rw [if_neg (fun z => q2 z.1), if_pos hw.2.2.1, if_neg q1, if_neg q2]
          refine ⟨hw.2.2.2, ?_⟩
          obtain ⟨u, hu⟩ : ∃ u, s.1 = u + 2 := ⟨s.1 - 2, by omega⟩
          show stk (upd s.2 (s.1 - 2) _) (s.1 - 1) = _
          rw [hu]
          show upd s.2 u _ u :: stk (upd s.2 u _) u = _
          rw [upd_same, stk_upd _ _ _ _ (Nat.le_refl _)]
          rfl
    have := runS_eq co va t (stepR co va s a) (a + 1) m ht key.1
    rw [key.2] at this
    exact this
theorem evR_eq {co va sk : Nat → Int32} {a0 : Nat} {L : List Int32} (hc : ∀ i x, L[i]? = some x → co (a0 + i) = x) (hw : wfD L 0 1) : evR co va sk a0 L.length = evL L va := by
  unfold evR evL
  rw [evS_run]
  obtain ⟨h1, h2⟩ := runS_eq co va L (0, sk) a0 1 hc hw
  rw [if_pos h1, ← show stk _ 1 = runL va L [] from h2]
  rfl
theorem runL_congr {va va' : Nat → Int32} : ∀ (L st : List Int32), (∀ c ∈ L, c < 7 → va c.toNatClampNeg = va' c.toNatClampNeg) → runL va L st = runL va' L st
  | [], _, _ => rfl
  | c :: t, st, h => by
    have e : stepL va st c = stepL va' st c := by
      unfold stepL
      by_cases q1 : 100 ≤ c ∨ c < 7
      · rw [if_pos q1, if_pos q1]
        by_cases q2 : c < 100
        · rw [if_pos q2, if_pos q2]
          rcases q1 with q | q
          · exact absurd q2 (Int32.not_lt.mpr q)
          · rw [h c (List.mem_cons_self ..) q]
        · rw [if_neg q2, if_neg q2]
      · rw [if_neg q1, if_neg q1]
    show runL va t (stepL va st c) = runL va' t (stepL va' st c)
    rw [e]
    exact runL_congr t _ (fun x hx => h x (List.mem_cons_of_mem _ hx))
theorem wfD_pos : ∀ (L : List Int32) (k m : Nat), wfD L k m → ∀ c ∈ L, 0 ≤ c
  | [], _, _, _, c, h => absurd h (List.not_mem_nil)
  | x :: t, k, m, hw, c, h => by
    obtain ⟨h0, hw⟩ := hw
    rcases List.mem_cons.mp h with e | e
    · rw [e]; exact h0
    · by_cases q1 : 100 ≤ x ∨ x < 7
      · rw [if_pos q1] at hw; exact wfD_pos t _ _ hw.2 c e
      · rw [if_neg q1] at hw
        by_cases q2 : x = 18
        · rw [if_pos q2] at hw; exact wfD_pos t _ _ hw.2 c e
        · rw [if_neg q2] at hw; exact wfD_pos t _ _ hw.2.2.2 c e
theorem wfD_append : ∀ (L M : List Int32) (k i m : Nat), wfD L k i → wfD M i m → wfD (L ++ M) k m
  | [], M, k, i, m, h1, h2 => by
    have h1 : k = i := h1
    rw [h1]; exact h2
  | x :: t, M, k, i, m, h1, h2 => by
    refine ⟨h1.1, ?_⟩
    have hw := h1.2
    by_cases q1 : 100 ≤ x ∨ x < 7
    · rw [if_pos q1] at hw ⊢; exact ⟨hw.1, wfD_append t M _ i m hw.2 h2⟩
    · rw [if_neg q1] at hw ⊢
      by_cases q2 : x = 18
      · rw [if_pos q2] at hw ⊢; exact ⟨hw.1, wfD_append t M _ i m hw.2 h2⟩
      · rw [if_neg q2] at hw ⊢; exact ⟨hw.1, hw.2.1, hw.2.2.1, wfD_append t M _ i m hw.2.2.2 h2⟩
/-- both rules: names, spends -/
abbrev RU := List Int32 × List Int32
def ruOk (u : RU) : Prop := (u.1 = [] ∨ wfD u.1 0 1) ∧ (u.2 = [] ∨ wfD u.2 0 1) ∧ (∀ c ∈ u.1, c < 7 → c ≤ 4) ∧ (∀ c ∈ u.2, c < 7 → ¬ c = 4)
/-- a list in a row -/
def laid (co : Nat → Int32) (a : Nat) (L : List Int32) : Prop := ∀ i x, L[i]? = some x → co (a + i) = x
def repU (u : RU) (g co : Nat → Int32) (a4 a6 : Nat) : Prop := g 4 = nI a4 ∧ g 5 = nI (a4 + u.1.length) ∧ a4 + u.1.length ≤ 700 ∧ g 6 = nI a6 ∧ g 7 = nI (a6 + u.2.length) ∧ a6 + u.2.length ≤ 700 ∧ laid co a4 u.1 ∧ laid co a6 u.2
theorem laid_pos {co : Nat → Int32} {a : Nat} {L : List Int32} (h : laid co a L) (hw : L = [] ∨ wfD L 0 1) : ∀ b, a ≤ b → b < a + L.length → 0 ≤ co b := by
  intro b h1 h2
  have hi : L[b - a]? = some (L[b - a]'(by omega)) := List.getElem?_eq_getElem _
  have e := h _ _ hi
  rw [show a + (b - a) = b by omega] at e
  rw [e]
  rcases hw with q | q
  · rw [q] at h2; simp at h2; omega
  · exact wfD_pos L 0 1 q _ (List.getElem_mem _)
theorem repU_ok {u : RU} {g co : Nat → Int32} {a4 a6 : Nat} (h : repU u g co a4 a6) (ho : ruOk u) : ruleOk g co a4 u.1.length a6 u.2.length := by
  obtain ⟨h4, h5, h45, h6, h7, h67, l4, l6⟩ := h
  exact ⟨h4, h5, h45, h6, h7, h67, laid_pos l4 ho.1, laid_pos l6 ho.2.1⟩
