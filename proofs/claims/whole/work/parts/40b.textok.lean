section LinesD
variable {B : Nat → Int32} {n : Nat}
theorem nm_num {p : Nat} {a b : Int32} {M : Nat} (hM : M < 2 ^ 31) (hb : b.toInt = (M : Int)) (h : nmW B n p a b) (ha : ¬ a < 0) : ∃ x, x ≤ M ∧ vl B n p = nI x := by
  refine nI_of2 (n := M) (M := b) hb ?_ (Int32.not_lt.mp h.2.2)
  exact fun z => h.2.1 (Int32.lt_of_lt_of_le z (Int32.not_lt.mp ha))
theorem nm_lt (ht : txB B n) {p : Nat} {a b : Int32} (h : nmW B n p a b) : p < n := kd_lt ht (fun z => by rw [h.1] at z; exact absurd z (by decide))
/-- what is true of what a text tells -/
def okTx (t : TS) : Prop := (∀ i q, t.1[i]? = some q → (∃ x, x ≤ 9 ∧ q.1 = nI x) ∧ (∃ y, y ≤ 30 ∧ q.2.1 = nI y) ∧ (q.2.2.1 = -1 ∨ ∃ z, z < 8 ∧ q.2.2.1 = nI z ∧ ¬ z = i) ∧ (q.2.2.2 = 0 ∨ q.2.2.2 = 1)) ∧ (∀ q ∈ t.2.1, (∃ x, x ≤ 99 ∧ q.1 = nI x) ∧ ∃ z, z < t.1.length ∧ q.2 = nI z) ∧ (∃ m, m ≤ 9 ∧ t.2.2.1 = nI m) ∧ ruOk (t.2.2.2.1, t.2.2.2.2) ∧ t.1.length ≤ 8 ∧ t.2.1.length ≤ 12
def okL (p n : Nat) (R : LRs) : Prop := match R with
  | .inl e => ¬ e.1 = 0
  | .inr q => p < q.1 ∧ q.1 ≤ n ∧ okTx q.2
def eN (R : PRs) : Prop := match R with
  | .inl e => ¬ e.1 = 0
  | .inr _ => True
theorem nmF_ne {p : Nat} : ¬ nmF B n p = 0 := by unfold nmF; split <;> decide
theorem lpP_e {op : Nat → Option Int32} {sub : Nat → PRs} {nxt : Nat → Nat} (hs : ∀ p, eN (sub p)) : ∀ k p L, eN (lpP op sub nxt k p L)
  | 0, _, _ => trivial
  | k + 1, p, L => by
    rw [lpP]
    cases ho : op p with
    | none => exact trivial
    | some c =>
      show eN (match sub (nxt p) with
        | .inl e => .inl e
        | .inr q => lpP op sub nxt k q.1 (L ++ q.2 ++ [c]))
      have h1 := hs (nxt p)
      cases hz : sub (nxt p) with
      | inl e => rw [hz] at h1; exact h1
      | inr q => exact lpP_e hs k q.1 _
theorem lp_e {op : Nat → Option Int32} {sub : Nat → PRs} {nxt : Nat → Nat} {F p : Nat} (hs : ∀ p, eN (sub p)) : eN (match sub p with
    | .inl e => .inl e
    | .inr q => lpP op sub nxt F q.1 q.2) := by
  have h1 := hs p
  cases hz : sub p with
  | inl e => rw [hz] at h1; exact h1
  | inr q => exact lpP_e hs F q.1 _
theorem pPart_e {nm : Int32} {E : Nat → PRs} (hE : ∀ p, eN (E p)) (p : Nat) : eN (pPart B n nm E p) := by
  unfold pPart
  split
  · have h1 := hE (nx B n p)
    cases hz : E (nx B n p) with
    | inl e => rw [hz] at h1; exact h1
    | inr q =>
      show eN (if sgB B n q.1 41 = true then .inr (nx B n q.1, q.2) else .inl (1, q.1))
      split
      · trivial
      · exact show ¬ (1 : Int32) = 0 by decide
  · split
    · split
      · exact show ¬ (3 : Int32) = 0 by decide
      · trivial
    · split
      · split
        · exact show ¬ (2 : Int32) = 0 by decide
        · trivial
      · exact show ¬ (1 : Int32) = 0 by decide
theorem pNot_e {nm : Int32} {E : Nat → PRs} (hE : ∀ p, eN (pTest B n nm E p)) (p : Nat) : eN (pNot B n nm E p) := by
  unfold pNot
  split
  · exact show ¬ (2 : Int32) = 0 by decide
  · have h1 := hE (ntC B n 6 p).2
    cases hz : pTest B n nm E (ntC B n 6 p).2 with
    | inl e => rw [hz] at h1; exact h1
    | inr q => trivial
theorem pE_e {nm : Int32} : ∀ r p, eN (pE B n nm r p)
  | 0, p => by
    unfold pE
    show ¬ (if kd B n p = 2 ∨ kd B n p = 1 ∨ sgB B n p 40 = true then (2 : Int32) else 1) = 0
    split <;> decide
  | r + 1, p => by
    have h0 := pPart_e (B := B) (n := n) (nm := nm) (pE_e (nm := nm) r)
    have h1 : ∀ p, eN (pProd B n nm (pE B n nm r) p) := fun p => lp_e h0
    have h2 : ∀ p, eN (pSum B n nm (pE B n nm r) p) := fun p => lp_e h1
    have h3 : ∀ p, eN (pTest B n nm (pE B n nm r) p) := fun p => lp_e h2
    have h4 := pNot_e (B := B) (n := n) h3
    have h5 : ∀ p, eN (pAnd B n nm (pE B n nm r) p) := fun p => lp_e h4
    exact lp_e h5
theorem okL_e {p : Nat} {k : Int32} {q : Nat} (h : ¬ k = 0) : okL p n (.inl (k, q)) := h
theorem lnPerson_ok (ht : txB B n) {bg : Int32} (hb : bg = 0 ∨ bg = 1) {p : Nat} {t : TS} (hp : p < n) (h : okTx t) : okL p n (lnPerson B n bg p t) := by
  obtain ⟨h1, h2, h3, h4, h5, h6⟩ := h
  unfold lnPerson
  split
  · exact okL_e (by decide)
  rename_i hP
  unfold lnP1
  split
  · rename_i n1
    have n1 := nmB_t.mp n1
    unfold lnP2
    split
    · rename_i n2
      have n2 := nmB_t.mp n2
      obtain ⟨y1, y2⟩ := nx_lt ht hp
      obtain ⟨y3, y4⟩ := nx_lt ht (nm_lt ht n1)
      obtain ⟨y5, y6⟩ := nx_lt ht (nm_lt ht n2)
      have key : ∀ q z, nx B n (nx B n (nx B n p)) ≤ q → q ≤ n → (z = -1 ∨ ∃ x, x < 8 ∧ z = nI x ∧ ¬ x = t.1.length) → okL p n (.inr (q, addP t (vl B n (nx B n p), vl B n (nx B n (nx B n p)), z, bg))) := by
        intro q z hq hq2 hz
        have ln : (addP t (vl B n (nx B n p), vl B n (nx B n (nx B n p)), z, bg)).1.length = t.1.length + 1 := by simp [addP]
        refine ⟨by show p < q; omega, hq2, fun i w hw => ?_, fun w hw => ?_, h3, h4, by show (addP t _).1.length ≤ 8; rw [ln]; omega, h6⟩
        · rcases get_snoc (show (t.1 ++ [(vl B n (nx B n p), vl B n (nx B n (nx B n p)), z, bg)])[i]? = some w from hw) with ⟨hlt, hg⟩ | ⟨rfl, rfl⟩
          · exact h1 i w hg
          · exact ⟨nm_num (M := 9) (by decide) rfl n1 (by decide), nm_num (M := 30) (by decide) rfl n2 (by decide), hz, hb⟩
        · obtain ⟨a1, z, a2, a3⟩ := h2 w hw
          exact ⟨a1, z, by show z < (addP t _).1.length; rw [ln]; omega, a3⟩
      unfold lnP3
      split
      · rename_i w
        have w := wd_lt ht (wdB_t.mp w)
        obtain ⟨y7, y8⟩ := nx_lt ht w
        unfold lnPays
        split
        · rename_i n3
          have n3 := nmB_t.mp n3
          split
          · exact okL_e (by decide)
          · rename_i hne
            obtain ⟨y9, y10⟩ := nx_lt ht (nm_lt ht n3)
            obtain ⟨x, hx, ex⟩ := nm_num (M := 7) (by decide) rfl n3 (by decide)
            exact key _ _ (by omega) y10 (Or.inr ⟨x, by omega, ex, fun z => hne (by rw [ex, z])⟩)
        · exact okL_e nmF_ne
      · exact key _ _ (Nat.le_refl _) y6 (Or.inl rfl)
    · exact okL_e nmF_ne
  · exact okL_e nmF_ne
theorem lnCoin_ok (ht : txB B n) {p : Nat} {t : TS} (hp : p < n) (h : okTx t) : okL p n (lnCoin B n p t) := by
  obtain ⟨h1, h2, h3, h4, h5, h6⟩ := h
  unfold lnCoin
  split
  · exact okL_e (by decide)
  rename_i hC
  unfold lnC1
  split
  · rename_i n1
    have n1 := nmB_t.mp n1
    unfold lnC2
    split
    · rename_i n2
      have n2 := nmB_t.mp n2
      split
      · rename_i hv
        obtain ⟨y1, y2⟩ := nx_lt ht hp
        obtain ⟨y3, y4⟩ := nx_lt ht (nm_lt ht n1)
        obtain ⟨y5, y6⟩ := nx_lt ht (nm_lt ht n2)
        refine ⟨by show p < nx B n (nx B n (nx B n p)); omega, y6, h1, fun w hw => ?_, h3, h4, h5, by show (t.2.1 ++ [_]).length ≤ 12; simp; omega⟩
        rcases List.mem_append.mp (show w ∈ t.2.1 ++ [(vl B n (nx B n p), vl B n (nx B n (nx B n p)))] from hw) with z | z
        · exact h2 w z
        · rw [List.mem_singleton.mp z]
          obtain ⟨x, hx, ex⟩ := nm_num (M := 9999) (by decide) rfl n2 (by decide)
          refine ⟨nm_num (M := 99) (by decide) rfl n1 (by decide), x, ?_, ex⟩
          rw [ex] at hv
          have h5' : t.1.length ≤ 8 := h5
          exact (nI_ltI (b := t.1.length) (by omega) (by omega)).mp hv
      · exact okL_e (by decide)
    · exact okL_e nmF_ne
  · exact okL_e nmF_ne
theorem lnMint_ok (ht : txB B n) {p : Nat} {t : TS} (hp : p < n) (h : okTx t) : okL p n (lnMint B n p t) := by
  obtain ⟨h1, h2, h3, h4, h5, h6⟩ := h
  unfold lnMint
  split
  · unfold lnM1
    split
    · rename_i n1
      have n1 := nmB_t.mp n1
      obtain ⟨y1, y2⟩ := nx_lt ht hp
      obtain ⟨y3, y4⟩ := nx_lt ht (nm_lt ht n1)
      exact ⟨by show p < nx B n (nx B n p); omega, y4, h1, h2, nm_num (M := 9) (by decide) rfl n1 (by decide), h4, h5, h6⟩
    · exact okL_e nmF_ne
  · exact okL_e (by decide)
theorem lnRule_ok (ht : txB B n) {nm : Int32} {p : Nat} {t : TS} (hp : p < n) (h : okTx t) : okL p n (lnRule B n nm p t) := by
  obtain ⟨h1, h2, h3, h4, h5, h6⟩ := h
  unfold lnRule
  split
  · obtain ⟨y1, y2⟩ := nx_lt ht hp
    have hg := pE_ok (nm := nm) ht 6 (nx B n p) y2
    have he := pE_e (B := B) (n := n) (nm := nm) 6 (nx B n p)
    cases hz : pE B n nm 6 (nx B n p) with
    | inl e => rw [hz] at he; exact he
    | inr q =>
      rw [hz] at hg
      obtain ⟨a1, a2, a3, a4, a5, a6⟩ := hg
      have w1 : wfD q.2 0 1 := a6 0 (by decide)
      obtain ⟨r1, r2, r3, r4⟩ := h4
      refine ⟨by show p < q.1; omega, a2, h1, h2, h3, ?_, h5, h6⟩
      unfold setRu
      by_cases q0 : nm = 0
      · rw [if_pos q0]
        refine ⟨r1, Or.inr w1, r3, fun c hc h7 => ?_⟩
        have := (a5 c hc).2 h7
        rw [if_pos q0] at this
        exact this
      · rw [if_neg q0]
        refine ⟨Or.inr w1, r2, fun c hc h7 => ?_, r4⟩
        have := (a5 c hc).2 h7
        rw [if_neg q0] at this
        exact this
  · exact okL_e (by decide)
theorem lnLine_ok (ht : txB B n) {p : Nat} {t : TS} (hp : p ≤ n) (h : okTx t) : okL p n (lnLine B n p t) := by
  have hw : ∀ j, wdB B n p j = true → p < n := fun j z => wd_lt ht (wdB_t.mp z)
  unfold lnLine
  split
  · rename_i w; exact lnPerson_ok ht (Or.inl rfl) (hw _ w) h
  split
  · rename_i w; exact lnPerson_ok ht (Or.inr rfl) (hw _ w) h
  split
  · rename_i w; exact lnCoin_ok ht (hw _ w) h
  split
  · rename_i w; exact lnMint_ok ht (hw _ w) h
  split
  · rename_i w; exact lnRule_ok ht (hw _ w) h
  split
  · rename_i w; exact lnRule_ok ht (hw _ w) h
  · exact okL_e (by decide)
end LinesD
section LinesF
variable {B : Nat → Int32} {n : Nat}
theorem okT_0 : okTx t0 := ⟨fun i q hq => by simp [t0] at hq, fun q hq => by simp [t0] at hq, ⟨0, by decide, rfl⟩, ⟨Or.inl rfl, Or.inl rfl, fun c hc => by simp [t0] at hc, fun c hc => by simp [t0] at hc⟩, by decide, by decide⟩
def okA0 (R : (Int32 × Nat) ⊕ TS) : Prop := match R with
  | .inl e => ¬ e.1 = 0
  | .inr t => okTx t
theorem rdAll_ok (ht : txB B n) : ∀ k p t, p ≤ n → okTx t → okA0 (rdAll B n k p t)
  | 0, _, _, _, h => h
  | k + 1, p, t, hp, h => by
    rw [rdAll]
    split
    · exact h
    · have h1 := lnLine_ok ht hp h
      unfold lnS
      cases hz : lnLine B n p t with
      | inl e => rw [hz] at h1; exact h1
      | inr q =>
        rw [hz] at h1
        show okA0 (match (if sgB B n q.1 59 = true then Sum.inr (nx B n q.1, q.2) else Sum.inl (1, q.1) : LRs) with
          | .inl e => .inl e
          | .inr q => rdAll B n k q.1 q.2)
        by_cases hs : sgB B n q.1 59 = true
        · rw [if_pos hs]
          exact rdAll_ok ht k _ _ (nx_lt ht (sg_lt ht (sgB_t.mp hs))).2 h1.2.2
        · rw [if_neg hs]
          exact show ¬ (1 : Int32) = 0 by decide
end LinesF
