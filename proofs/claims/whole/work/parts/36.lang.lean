/-! THE LANGUAGE: what a text's expression says, by the place of the token at hand: a fault and its place, or the place behind it and its steps -/
abbrev PRs := (Int32 × Nat) ⊕ (Nat × List Int32)
noncomputable def wdB (B : Nat → Int32) (n p j : Nat) : Bool := @decide (wd B n p j) (Classical.propDecidable _)
noncomputable def sgB (B : Nat → Int32) (n p : Nat) (c : Int32) : Bool := @decide (sg B n p c) (Classical.propDecidable _)
theorem wdB_t {B : Nat → Int32} {n p j : Nat} : wdB B n p j = true ↔ wd B n p j := by unfold wdB; exact @decide_eq_true_iff _ (Classical.propDecidable _)
theorem sgB_t {B : Nat → Int32} {n p : Nat} {c : Int32} : sgB B n p c = true ↔ sg B n p c := by unfold sgB; exact @decide_eq_true_iff _ (Classical.propDecidable _)
theorem wdB_y {B : Nat → Int32} {n p j : Nat} (h : wd B n p j) : wdB B n p j = true := wdB_t.mpr h
theorem wdB_n {B : Nat → Int32} {n p j : Nat} (h : ¬ wd B n p j) : wdB B n p j = false := by
  cases e : wdB B n p j with
  | false => rfl
  | true => exact absurd (wdB_t.mp e) h
theorem sgB_y {B : Nat → Int32} {n p : Nat} {c : Int32} (h : sg B n p c) : sgB B n p c = true := sgB_t.mpr h
theorem sgB_n {B : Nat → Int32} {n p : Nat} {c : Int32} (h : ¬ sg B n p c) : sgB B n p c = false := by
  cases e : sgB B n p c with
  | false => rfl
  | true => exact absurd (sgB_t.mp e) h
def lpP (op : Nat → Option Int32) (sub : Nat → PRs) (nxt : Nat → Nat) : Nat → Nat → List Int32 → PRs
  | 0, p, L => .inr (p, L)
  | k + 1, p, L => match op p with
    | none => .inr (p, L)
    | some c => match sub (nxt p) with
      | .inl e => .inl e
      | .inr q => lpP op sub nxt k q.1 (L ++ q.2 ++ [c])
section Lang
variable (B : Nat → Int32) (n : Nat) (nm : Int32)
noncomputable def valO (p : Nat) : Int32 := if wdB B n p 8 = true then 0 else if wdB B n p 9 = true then 1 else if wdB B n p 10 = true then 2 else if wdB B n p 11 = true then 3 else if nm = 0 then (if wdB B n p 13 = true then 5 else if wdB B n p 14 = true then 6 else -1) else (if wdB B n p 12 = true then 4 else -1)
noncomputable def opMul (p : Nat) : Option Int32 := if sgB B n p 42 = true then some 12 else if sgB B n p 47 = true then some 13 else none
noncomputable def opAdd (p : Nat) : Option Int32 := if sgB B n p 43 = true then some 10 else if sgB B n p 45 = true then some 11 else none
noncomputable def opAnd (p : Nat) : Option Int32 := if wdB B n p 15 = true then some 16 else none
noncomputable def opOr (p : Nat) : Option Int32 := if wdB B n p 16 = true then some 17 else none
noncomputable def opCmp (p : Nat) : Option Int32 := if sgB B n p 60 = true then some 14 else if sgB B n p 61 = true then some 15 else none
noncomputable def pPart (E : Nat → PRs) (p : Nat) : PRs :=
  if sgB B n p 40 = true then (match E (nx B n p) with
    | .inl e => .inl e
    | .inr q => if sgB B n q.1 41 = true then .inr (nx B n q.1, q.2) else .inl (1, q.1))
  else if kd B n p = 1 then (if valO B n nm p = -1 then .inl (3, p) else .inr (nx B n p, [valO B n nm p]))
  else if kd B n p = 2 then (if vl B n p < 0 ∨ 9999 < vl B n p then .inl (2, p) else .inr (nx B n p, [100 + vl B n p]))
  else .inl (1, p)
noncomputable def pProd (E : Nat → PRs) (p : Nat) : PRs := match pPart B n nm E p with
  | .inl e => .inl e
  | .inr q => lpP (opMul B n) (pPart B n nm E) (nx B n) 700 q.1 q.2
noncomputable def pSum (E : Nat → PRs) (p : Nat) : PRs := match pProd B n nm E p with
  | .inl e => .inl e
  | .inr q => lpP (opAdd B n) (pProd B n nm E) (nx B n) 700 q.1 q.2
noncomputable def pTest (E : Nat → PRs) (p : Nat) : PRs := match pSum B n nm E p with
  | .inl e => .inl e
  | .inr q => lpP (opCmp B n) (pSum B n nm E) (nx B n) 1 q.1 q.2
noncomputable def ntC : Nat → Nat → Nat × Nat
  | 0, p => (0, p)
  | k + 1, p => if wdB B n p 7 = true then ((ntC k (nx B n p)).1 + 1, (ntC k (nx B n p)).2) else (0, p)
noncomputable def pNot (E : Nat → PRs) (p : Nat) : PRs :=
  if (ntC B n 6 p).1 = 6 ∧ wdB B n (ntC B n 6 p).2 7 = true then .inl (2, (ntC B n 6 p).2)
  else match pTest B n nm E (ntC B n 6 p).2 with
    | .inl e => .inl e
    | .inr q => .inr (q.1, q.2 ++ List.replicate (ntC B n 6 p).1 18)
noncomputable def pAnd (E : Nat → PRs) (p : Nat) : PRs := match pNot B n nm E p with
  | .inl e => .inl e
  | .inr q => lpP (opAnd B n) (pNot B n nm E) (nx B n) 700 q.1 q.2
noncomputable def pOr (E : Nat → PRs) (p : Nat) : PRs := match pAnd B n nm E p with
  | .inl e => .inl e
  | .inr q => lpP (opOr B n) (pAnd B n nm E) (nx B n) 700 q.1 q.2
noncomputable def pE : Nat → Nat → PRs
  | 0, p => .inl (if kd B n p = 2 ∨ kd B n p = 1 ∨ sgB B n p 40 = true then 2 else 1, p)
  | r + 1, p => pOr B n nm (pE r) p
end Lang
/-- a step that the rule may have -/
def okS1 (nm c : Int32) : Prop := 0 ≤ c ∧ (c < 7 → if nm = 0 then ¬ c = 4 else c ≤ 4)
/-- what is read from p on: it comes on, few steps, well built -/
def gP (n : Nat) (nm : Int32) (b p : Nat) : PRs → Prop
  | .inl _ => True
  | .inr q => p < q.1 ∧ q.1 ≤ n ∧ q.2.length ≤ q.1 - p ∧ 0 < q.2.length ∧ (∀ c ∈ q.2, okS1 nm c) ∧ ∀ k, k + b < 40 → wfD q.2 k (k + 1)
theorem wfD_op {c : Int32} (h1 : 10 ≤ c) (h2 : c ≤ 17) (k : Nat) : wfD [c] (k + 2) (k + 1) := by
  have q0 : 0 ≤ c := Int32.le_trans (by decide) h1
  have q1 : ¬ (100 ≤ c ∨ c < 7) := fun z => z.elim (fun z => absurd (Int32.le_trans z h2) (by decide)) (fun z => absurd (Int32.lt_of_le_of_lt h1 z) (by decide))
  have q2 : ¬ c = 18 := fun z => by rw [z] at h2; exact absurd h2 (by decide)
  refine ⟨q0, ?_⟩
  rw [if_neg q1, if_neg q2]
  exact ⟨h1, h2, by omega, rfl⟩
theorem ok_op {nm c : Int32} (h1 : 10 ≤ c) : okS1 nm c := ⟨Int32.le_trans (by decide) h1, fun z => absurd (Int32.lt_of_le_of_lt h1 z) (by decide)⟩
theorem lpP_ok {n : Nat} {nm : Int32} {b : Nat} {op : Nat → Option Int32} {sub : Nat → PRs} {nxt : Nat → Nat} (hop : ∀ p c, op p = some c → p < n ∧ 10 ≤ c ∧ c ≤ 17) (hnx : ∀ p, p < n → p < nxt p ∧ nxt p ≤ n) (hs : ∀ p, p ≤ n → gP n nm b p (sub p)) :
    ∀ (k p0 q : Nat) (L : List Int32), gP n nm (b + 1) p0 (.inr (q, L)) → gP n nm (b + 1) p0 (lpP op sub nxt k q L)
  | 0, _, _, _, h => h
  | k + 1, p0, q, L, h => by
    rw [lpP]
    cases ho : op q with
    | none => exact h
    | some c =>
      obtain ⟨o1, o2, o3⟩ := hop q c ho
      obtain ⟨x1, x2⟩ := hnx q o1
      have hs1 := hs (nxt q) x2
      show gP n nm (b + 1) p0 (match sub (nxt q) with
        | .inl e => .inl e
        | .inr q => lpP op sub nxt k q.1 (L ++ q.2 ++ [c]))
      cases hsub : sub (nxt q) with
      | inl e => exact trivial
      | inr z =>
        rw [hsub] at hs1
        obtain ⟨a1, a2, a3, a4, a5, a6⟩ := hs1
        obtain ⟨h1, h2, h3, h4, h5, h6⟩ := h
        dsimp only at h1 h2 h3 h4 h5 h6
        refine lpP_ok hop hnx hs k p0 z.1 (L ++ z.2 ++ [c]) ⟨?_, a2, ?_, ?_, ?_, ?_⟩
        · show p0 < z.1; omega
        · show (L ++ z.2 ++ [c]).length ≤ z.1 - p0
          simp only [List.length_append, List.length_cons, List.length_nil]; omega
        · show 0 < (L ++ z.2 ++ [c]).length
          simp only [List.length_append, List.length_cons, List.length_nil]; omega
        · intro x hx
          have hx : x ∈ L ++ z.2 ++ [c] := hx
          rcases List.mem_append.mp hx with y | y
          · rcases List.mem_append.mp y with y | y
            · exact h5 x y
            · exact a5 x y
          · rw [List.mem_singleton.mp y]; exact ok_op o2
        · intro j hj
          show wfD (L ++ z.2 ++ [c]) j (j + 1)
          exact wfD_append _ _ _ (j + 2) _ (wfD_append _ _ _ (j + 1) _ (h6 j hj) (a6 (j + 1) (by omega))) (wfD_op o2 o3 j)
section LangOk
variable {B : Nat → Int32} {n : Nat} {nm : Int32} (ht : txB B n)
theorem gP_up {b b' p : Nat} {R : PRs} (h : gP n nm b p R) (hb : b ≤ b') : gP n nm b' p R := by
  cases R with
  | inl e => exact trivial
  | inr q =>
    obtain ⟨a1, a2, a3, a4, a5, a6⟩ := h
    exact ⟨a1, a2, a3, a4, a5, fun k hk => a6 k (by omega)⟩
theorem sg_lt (ht : txB B n) {p : Nat} {c : Int32} (h : sg B n p c) : p < n := by
  rcases Nat.lt_or_ge p n with z | z
  · exact z
  · have := (kd_0 ht).mpr z
    rw [h.1] at this
    exact absurd this (by decide)
theorem kd_lt (ht : txB B n) {p : Nat} (h : ¬ kd B n p = 0) : p < n := by
  rcases Nat.lt_or_ge p n with z | z
  · exact z
  · exact absurd ((kd_0 ht).mpr z) h
theorem wd_lt (ht : txB B n) {p j : Nat} (h : wd B n p j) : p < n := kd_lt ht (fun z => by rw [h.1] at z; exact absurd z (by decide))
theorem nx_lt (ht : txB B n) {p : Nat} (h : p < n) : p < nx B n p ∧ nx B n p ≤ n := by
  obtain ⟨a, b, c⟩ := nx_at ht (p := p) (by omega)
  exact ⟨c h, b⟩
theorem wfD_num {x : Int32} (h : 100 ≤ x ∨ x < 7) (h0 : 0 ≤ x) {k : Nat} (hk : k < 40) : wfD [x] k (k + 1) := by
  refine ⟨h0, ?_⟩
  rw [if_pos h]
  exact ⟨hk, rfl⟩
theorem valO_ok (p : Nat) (h : ¬ valO B n nm p = -1) : okS1 nm (valO B n nm p) ∧ valO B n nm p < 7 := by
  unfold valO at h ⊢
  repeat' split
  all_goals first
    | (refine ⟨⟨by decide, fun _ => ?_⟩, by decide⟩; first | (rw [if_pos (by assumption)]; decide) | (rw [if_neg (by assumption)]; decide) | (split <;> decide))
    | (exfalso; simp_all)
theorem pPart_ok {b : Nat} {E : Nat → PRs} (ht : txB B n) (hE : ∀ p, p ≤ n → gP n nm b p (E p)) (p : Nat) (hp : p ≤ n) : gP n nm b p (pPart B n nm E p) := by
  unfold pPart
  by_cases q : sgB B n p 40 = true
  · rw [if_pos q]
    have hl := sg_lt ht (sgB_t.mp q)
    obtain ⟨x1, x2⟩ := nx_lt ht hl
    have hs := hE _ x2
    cases he : E (nx B n p) with
    | inl e => exact trivial
    | inr z =>
      rw [he] at hs
      obtain ⟨a1, a2, a3, a4, a5, a6⟩ := hs
      show gP n nm b p (if sgB B n z.1 41 = true then .inr (nx B n z.1, z.2) else .inl (1, z.1))
      by_cases q2 : sgB B n z.1 41 = true
      · rw [if_pos q2]
        obtain ⟨y1, y2⟩ := nx_lt ht (sg_lt ht (sgB_t.mp q2))
        exact ⟨by show p < nx B n z.1; omega, y2, by show z.2.length ≤ nx B n z.1 - p; omega, a4, a5, a6⟩
      · rw [if_neg q2]; exact trivial
  · rw [if_neg q]
    by_cases q1 : kd B n p = 1
    · rw [if_pos q1]
      obtain ⟨x1, x2⟩ := nx_lt ht (kd_lt ht (p := p) (fun z => by rw [q1] at z; exact absurd z (by decide)))
      by_cases q2 : valO B n nm p = -1
      · rw [if_pos q2]; exact trivial
      · rw [if_neg q2]
        obtain ⟨v1, v2⟩ := valO_ok p q2
        exact ⟨x1, x2, by show 1 ≤ nx B n p - p; omega, by show 0 < 1; omega, fun c hc => by rw [List.mem_singleton.mp hc]; exact v1, fun k hk => wfD_num (Or.inr v2) v1.1 (by omega)⟩
    · rw [if_neg q1]
      by_cases q2 : kd B n p = 2
      · rw [if_pos q2]
        obtain ⟨x1, x2⟩ := nx_lt ht (kd_lt ht (p := p) (fun z => by rw [q2] at z; exact absurd z (by decide)))
        by_cases q3 : vl B n p < 0 ∨ 9999 < vl B n p
        · rw [if_pos q3]; exact trivial
        · rw [if_neg q3]
          obtain ⟨v, hv, ev⟩ := nI_of2 (n := 9999) (M := 9999) rfl (fun z => q3 (Or.inl z)) (Int32.not_lt.mp (fun z => q3 (Or.inr z)))
          have e1 : 100 + vl B n p = nI (100 + v) := by rw [ev]; exact nI_add 100 v
          have g1 : 100 ≤ 100 + vl B n p := by rw [e1]; exact nI_le (a := 100) (by omega) (by omega)
          have g0 : 0 ≤ 100 + vl B n p := Int32.le_trans (by decide) g1
          exact ⟨x1, x2, by show 1 ≤ nx B n p - p; omega, by show 0 < 1; omega, fun c hc => by rw [List.mem_singleton.mp hc]; exact ok_op (Int32.le_trans (by decide) g1), fun k hk => wfD_num (Or.inl g1) g0 (by omega)⟩
      · rw [if_neg q2]; exact trivial
theorem opMul_ok (ht : txB B n) (p : Nat) (c : Int32) (h : opMul B n p = some c) : p < n ∧ 10 ≤ c ∧ c ≤ 17 := by
  unfold opMul at h
  split at h
  · rename_i q; cases h; exact ⟨sg_lt ht (sgB_t.mp q), by decide, by decide⟩
  · split at h
    · rename_i q; cases h; exact ⟨sg_lt ht (sgB_t.mp q), by decide, by decide⟩
    · cases h
theorem opAdd_ok (ht : txB B n) (p : Nat) (c : Int32) (h : opAdd B n p = some c) : p < n ∧ 10 ≤ c ∧ c ≤ 17 := by
  unfold opAdd at h
  split at h
  · rename_i q; cases h; exact ⟨sg_lt ht (sgB_t.mp q), by decide, by decide⟩
  · split at h
    · rename_i q; cases h; exact ⟨sg_lt ht (sgB_t.mp q), by decide, by decide⟩
    · cases h
theorem opCmp_ok (ht : txB B n) (p : Nat) (c : Int32) (h : opCmp B n p = some c) : p < n ∧ 10 ≤ c ∧ c ≤ 17 := by
  unfold opCmp at h
  split at h
  · rename_i q; cases h; exact ⟨sg_lt ht (sgB_t.mp q), by decide, by decide⟩
  · split at h
    · rename_i q; cases h; exact ⟨sg_lt ht (sgB_t.mp q), by decide, by decide⟩
    · cases h
theorem opAnd_ok (ht : txB B n) (p : Nat) (c : Int32) (h : opAnd B n p = some c) : p < n ∧ 10 ≤ c ∧ c ≤ 17 := by
  unfold opAnd at h
  split at h
  · rename_i q; cases h; exact ⟨wd_lt ht (wdB_t.mp q), by decide, by decide⟩
  · cases h
theorem opOr_ok (ht : txB B n) (p : Nat) (c : Int32) (h : opOr B n p = some c) : p < n ∧ 10 ≤ c ∧ c ≤ 17 := by
  unfold opOr at h
  split at h
  · rename_i q; cases h; exact ⟨wd_lt ht (wdB_t.mp q), by decide, by decide⟩
  · cases h
theorem lp_ok {b : Nat} {op : Nat → Option Int32} {sub : Nat → PRs} {F p : Nat} (ht : txB B n) (hop : ∀ p c, op p = some c → p < n ∧ 10 ≤ c ∧ c ≤ 17) (hs : ∀ p, p ≤ n → gP n nm b p (sub p)) (hp : p ≤ n) : gP n nm (b + 1) p (match sub p with
    | .inl e => .inl e
    | .inr q => lpP op sub (nx B n) F q.1 q.2) := by
  have h := hs p hp
  cases he : sub p with
  | inl e => exact trivial
  | inr q =>
    rw [he] at h
    exact lpP_ok hop (fun p hp => nx_lt ht hp) hs F p q.1 q.2 (gP_up (R := .inr q) h (by omega))
theorem pProd_ok {b : Nat} {E : Nat → PRs} (ht : txB B n) (hE : ∀ p, p ≤ n → gP n nm b p (E p)) (p : Nat) (hp : p ≤ n) : gP n nm (b + 1) p (pProd B n nm E p) := lp_ok ht (opMul_ok ht) (pPart_ok ht hE) hp
theorem pSum_ok {b : Nat} {E : Nat → PRs} (ht : txB B n) (hE : ∀ p, p ≤ n → gP n nm b p (E p)) (p : Nat) (hp : p ≤ n) : gP n nm (b + 2) p (pSum B n nm E p) := lp_ok ht (opAdd_ok ht) (pProd_ok ht hE) hp
theorem pTest_ok {b : Nat} {E : Nat → PRs} (ht : txB B n) (hE : ∀ p, p ≤ n → gP n nm b p (E p)) (p : Nat) (hp : p ≤ n) : gP n nm (b + 3) p (pTest B n nm E p) := lp_ok ht (opCmp_ok ht) (pSum_ok ht hE) hp
theorem ntC_ok (ht : txB B n) : ∀ k p, p ≤ n → p + (ntC B n k p).1 ≤ (ntC B n k p).2 ∧ (ntC B n k p).2 ≤ n ∧ (ntC B n k p).1 ≤ k
  | 0, p, hp => ⟨Nat.le_refl _, hp, Nat.le_refl _⟩
  | k + 1, p, hp => by
    unfold ntC
    by_cases q : wdB B n p 7 = true
    · rw [if_pos q]
      obtain ⟨x1, x2⟩ := nx_lt ht (wd_lt ht (wdB_t.mp q))
      obtain ⟨a, b, c⟩ := ntC_ok ht k (nx B n p) x2
      exact ⟨by show p + ((ntC B n k (nx B n p)).1 + 1) ≤ _; omega, b, by show (ntC B n k (nx B n p)).1 + 1 ≤ _; omega⟩
    · rw [if_neg q]; exact ⟨Nat.le_refl _, hp, Nat.zero_le _⟩
theorem wfD_nots (k : Nat) : ∀ c, wfD (List.replicate c 18) (k + 1) (k + 1)
  | 0 => rfl
  | c + 1 => by
    refine ⟨by decide, ?_⟩
    rw [if_neg (by decide), if_pos rfl]
    exact ⟨by omega, wfD_nots k c⟩
theorem pNot_ok {b : Nat} {E : Nat → PRs} (ht : txB B n) (hE : ∀ p, p ≤ n → gP n nm b p (E p)) (p : Nat) (hp : p ≤ n) : gP n nm (b + 3) p (pNot B n nm E p) := by
  obtain ⟨x1, x2, x3⟩ := ntC_ok ht 6 p hp
  unfold pNot
  by_cases q : (ntC B n 6 p).1 = 6 ∧ wdB B n (ntC B n 6 p).2 7 = true
  · rw [if_pos q]; exact trivial
  · rw [if_neg q]
    have h := pTest_ok ht hE (ntC B n 6 p).2 x2
    cases he : pTest B n nm E (ntC B n 6 p).2 with
    | inl e => exact trivial
    | inr z =>
      rw [he] at h
      obtain ⟨a1, a2, a3, a4, a5, a6⟩ := h
      refine ⟨by show p < z.1; omega, a2, ?_, ?_, ?_, fun k hk => wfD_append _ _ _ (k + 1) _ (a6 k hk) (wfD_nots k _)⟩
      · show (z.2 ++ List.replicate (ntC B n 6 p).1 18).length ≤ z.1 - p
        rw [List.length_append, List.length_replicate]; omega
      · show 0 < (z.2 ++ List.replicate (ntC B n 6 p).1 18).length
        rw [List.length_append]; omega
      · intro c hc
        have hc : c ∈ z.2 ++ List.replicate (ntC B n 6 p).1 18 := hc
        rcases List.mem_append.mp hc with y | y
        · exact a5 c y
        · rw [List.eq_of_mem_replicate y]; exact ok_op (by decide)
theorem pAnd_ok {b : Nat} {E : Nat → PRs} (ht : txB B n) (hE : ∀ p, p ≤ n → gP n nm b p (E p)) (p : Nat) (hp : p ≤ n) : gP n nm (b + 4) p (pAnd B n nm E p) := lp_ok ht (opAnd_ok ht) (pNot_ok ht hE) hp
theorem pOr_ok {b : Nat} {E : Nat → PRs} (ht : txB B n) (hE : ∀ p, p ≤ n → gP n nm b p (E p)) (p : Nat) (hp : p ≤ n) : gP n nm (b + 5) p (pOr B n nm E p) := lp_ok ht (opOr_ok ht) (pAnd_ok ht hE) hp
theorem pE_ok (ht : txB B n) : ∀ r p, p ≤ n → gP n nm (5 * r) p (pE B n nm r p)
  | 0, _, _ => trivial
  | r + 1, p, hp => pOr_ok ht (pE_ok ht r) p hp
end LangOk
