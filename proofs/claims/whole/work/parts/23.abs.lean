/-! THE WORLD AS ROWS: what a year does -/
abbrev AW := (Nat → Int32) × (Nat → Int32) × (Nat → Int32) × (Nat → Int32) × (Nat → Int32) × (Nat → Int32)
abbrev aF (a : AW) : Nat → Int32 := a.1
abbrev aNe (a : AW) : Nat → Int32 := a.2.1
abbrev aSo (a : AW) : Nat → Int32 := a.2.2.1
abbrev aPa (a : AW) : Nat → Int32 := a.2.2.2.1
abbrev aWo (a : AW) : Nat → Int32 := a.2.2.2.2.1
abbrev aHo (a : AW) : Nat → Int32 := a.2.2.2.2.2
def hasA (a : AW) (p : Nat) : Int32 := hasS (aF a) (aWo a) (aHo a) (cNf (aF a)) p
def poorA (a : AW) : Int32 := (pmC (cntW (aF a) (hasA a)) (pNf (aF a))).1
def richA (a : AW) : Int32 := (rmC (hasA a) (pNf (aF a))).1
def vaN (a : AW) (p : Nat) : Nat → Int32 := fun k => if k = 0 then aNe a p else if k = 1 then hasA a p else if k = 2 then aF a 1 - bcF (aF a 6) else if k = 3 then aF a 2 else aSo a p
def vaS (a : AW) (c p q : Nat) : Nat → Int32 := fun k => if k = 0 then aNe a p else if k = 1 then hasA a p else if k = 2 then aF a 1 - bcF (aF a 6) else if k = 3 then aF a 2 else if k = 5 then aWo a c else hasA a q
def namA (u : RU) (a : AW) (p : Nat) : Int32 := if u.1 = [] then 10 * aNe a p - hasA a p else evL u.1 (vaN a p)
abbrev dueA (a : AW) : Prop := 0 < aF a 3 ∧ aF a 2 - aF a 2 / aF a 3 * aF a 3 = aF a 3 - 1 ∧ 0 < aF a 0 ∧ aF a 1 < 12
def nameA (u : RU) (a : AW) : AW :=
  (upd (if aSo a (poorA a).toNatClampNeg = 0 then aF a else upd (aF a) 5 (aF a 5 ||| bit (cNf (aF a)))) 1 (aF a 1 + 1), aNe a, aSo a, aPa a, upd (aWo a) (cNf (aF a)) (clampV (namA u a (poorA a).toNatClampNeg)), upd (aHo a) (cNf (aF a)) (poorA a))
abbrev spA (u : RU) (a : AW) (c p q : Nat) : Prop := (u.2 = [] ∧ aWo a c ≤ hasA a p / 2) ∨ (¬ u.2 = [] ∧ 0 < evL u.2 (vaS a c p q))
abbrev movA (u : RU) (a : AW) (c : Nat) : Prop := isP (aF a 0) (aHo a c) ∧ isP (aF a 0) (aPa a (aHo a c).toNatClampNeg) ∧ (aWo a c = 0 ∨ spA u a c (aHo a c).toNatClampNeg (aPa a (aHo a c).toNatClampNeg).toNatClampNeg)
def passA (u : RU) (a : AW) (c : Nat) : AW := if movA u a c then (upd (aF a) 7 (aF a 7 + 1), aNe a, aSo a, aPa a, aWo a, upd (aHo a) c (aPa a (aHo a c).toNatClampNeg)) else a
def passS (u : RU) (a : AW) : Nat → AW
  | 0 => a
  | n + 1 => passA u (passS u a n) n
def wearA (a : AW) (c : Nat) : AW := if aF a 5 &&& bit c = 0 then a else (wearF (aF a) (aWo a) c, aNe a, aSo a, aPa a, upd (aWo a) c (wx (aWo a) c), wearH (aWo a) (aHo a) c)
def wearS (a : AW) : Nat → AW
  | 0 => a
  | n + 1 => wearA (wearS a n) n
def endA (a : AW) : AW := (upd (aF a) 2 (aF a 2 + 1), aNe a, aSo a, aPa a, aWo a, aHo a)
def mintA (u : RU) (a : AW) : AW := if dueA a then nameA u a else a
def yearA (u : RU) (a : AW) : AW := endA (wearS (passS u (mintA u a) (cNf (aF (mintA u a)))) (cNf (aF (mintA u a))))
def yearsA (u : RU) (a : AW) : Nat → AW
  | 0 => a
  | n + 1 => yearA u (yearsA u a n)
/-- people and coins are as many as their rows bear -/
def szA (a : AW) : Prop := aF a 0 = nI (pNf (aF a)) ∧ aF a 1 = nI (cNf (aF a))
theorem TL_has (a : AW) (we : Nat → Int32) {p : Nat} (h : p < 8) : TL (aF a) (aWo a) (aHo a) we p = hasA a p := by
  unfold TL hasA
  rw [if_pos h]
theorem pmC_congr {v v' : Nat → Int32} : ∀ n, (∀ p, p < n → v p = v' p) → pmC v n = pmC v' n
  | 0, _ => rfl
  | n + 1, h => by
    rw [pmC, pmC, pmC_congr n (fun p hp => h p (by omega)), h n (by omega)]
theorem rmC_congr {v v' : Nat → Int32} : ∀ n, (∀ p, p < n → v p = v' p) → rmC v n = rmC v' n
  | 0, _ => rfl
  | n + 1, h => by
    rw [rmC, rmC, rmC_congr n (fun p hp => h p (by omega)), h n (by omega)]
theorem poorS_eq (a : AW) (we : Nat → Int32) : poorS (aF a) (aWo a) (aHo a) we = poorA a := by
  unfold poorS poorA
  rw [pmC_congr (v' := cntW (aF a) (hasA a)) _ (fun p hp => ?_)]
  unfold cntW
  rw [TL_has a we (show p < 8 by unfold pNf at hp; omega)]
theorem richS_eq (a : AW) (we : Nat → Int32) : richS (aF a) (aWo a) (aHo a) we = richA a := by
  unfold richS richA
  rw [rmC_congr (v' := hasA a) _ (fun p hp => TL_has a we (show p < 8 by unfold pNf at hp; omega))]
theorem pmC_at {v : Nat → Int32} : ∀ n, n < 2 ^ 31 → 0 < n → ∃ p, p < n ∧ (pmC v n).1 = nI p
  | n + 1, hn, _ => by
    rw [pmC]
    by_cases h : (pmC v n).1 = -1 ∨ v n < (pmC v n).2
    · rw [if_pos h]; exact ⟨n, by omega, rfl⟩
    · rw [if_neg h]
      by_cases h0 : n = 0
      · exfalso; rw [h0] at h; exact h (Or.inl rfl)
      · obtain ⟨p, h1, h2⟩ := pmC_at n (by omega) (by omega)
        exact ⟨p, by omega, h2⟩
theorem poorA_at {a : AW} (h : 0 < pNf (aF a)) : ∃ p, p < pNf (aF a) ∧ poorA a = nI p := pmC_at _ (by unfold pNf; omega) h
theorem isPA {a : AW} (h : szA a) {p : Nat} (hp : p < 8) : isP (aF a 0) (nI p) ↔ p < pNf (aF a) := by
  rw [h.1]
  have := pNf (aF a)
  have hb : pNf (aF a) ≤ 8 := by unfold pNf; omega
  refine ⟨fun q => (nI_ltI (by omega) (by omega)).mp q.2.1, fun q => ⟨nI_le (Nat.zero_le _) (by omega), nI_lt q (by omega), nI_lt hp (by decide)⟩⟩
theorem isCA {a : AW} (h : szA a) {p : Nat} (hp : p < 12) : isC (aF a 1) (nI p) ↔ p < cNf (aF a) := by
  rw [h.2]
  have hb : cNf (aF a) ≤ 12 := by unfold cNf; omega
  refine ⟨fun q => (nI_ltI (by omega) (by omega)).mp q.2.1, fun q => ⟨nI_le (Nat.zero_le _) (by omega), nI_lt q (by omega), nI_lt hp (by decide)⟩⟩
theorem isP_of {n p : Int32} (h : isP n p) : ∃ j, j < 8 ∧ p = nI j := vp_in_of (isP_in h) (by decide)
theorem sz_upd {a : AW} (h : szA a) {k : Nat} (hk : 2 ≤ k) (x : Int32) (ne so pa wo ho : Nat → Int32) : szA (upd (aF a) k x, ne, so, pa, wo, ho) ∧ pNf (upd (aF a) k x) = pNf (aF a) ∧ cNf (upd (aF a) k x) = cNf (aF a) := by
  have e0 : upd (aF a) k x 0 = aF a 0 := upd_other _ _ (by omega)
  have e1 : upd (aF a) k x 1 = aF a 1 := upd_other _ _ (by omega)
  have p0 : pNf (upd (aF a) k x) = pNf (aF a) := by unfold pNf; rw [e0]
  have c0 : cNf (upd (aF a) k x) = cNf (aF a) := by unfold cNf; rw [e1]
  refine ⟨⟨?_, ?_⟩, p0, c0⟩
  · show upd (aF a) k x 0 = nI (pNf (upd (aF a) k x)); rw [e0, p0]; exact h.1
  · show upd (aF a) k x 1 = nI (cNf (upd (aF a) k x)); rw [e1, c0]; exact h.2
theorem sz_pass {u : RU} {a : AW} (h : szA a) (c : Nat) : szA (passA u a c) ∧ pNf (aF (passA u a c)) = pNf (aF a) ∧ cNf (aF (passA u a c)) = cNf (aF a) := by
  unfold passA
  split
  · exact sz_upd h (by decide) _ _ _ _ _ _
  · exact ⟨h, rfl, rfl⟩
theorem sz_passS {u : RU} {a : AW} (h : szA a) : ∀ n, szA (passS u a n) ∧ pNf (aF (passS u a n)) = pNf (aF a) ∧ cNf (aF (passS u a n)) = cNf (aF a)
  | 0 => ⟨h, rfl, rfl⟩
  | n + 1 => by
    obtain ⟨h1, h2, h3⟩ := sz_passS (u := u) h n
    obtain ⟨q1, q2, q3⟩ := sz_pass (u := u) h1 n
    exact ⟨q1, q2.trans h2, q3.trans h3⟩
theorem sz_wear {a : AW} (h : szA a) (c : Nat) : szA (wearA a c) ∧ pNf (aF (wearA a c)) = pNf (aF a) ∧ cNf (aF (wearA a c)) = cNf (aF a) := by
  unfold wearA
  split
  · exact ⟨h, rfl, rfl⟩
  · unfold wearF
    split
    · obtain ⟨h1, h2, h3⟩ := sz_upd (k := 5) h (by decide) (aF a 5 &&& (bit c ^^^ -1)) (aNe a) (aSo a) (aPa a) (aWo a) (aHo a)
      obtain ⟨q1, q2, q3⟩ := sz_upd (k := 6) h1 (by decide) (aF a 6 ||| bit c) (aNe a) (aSo a) (aPa a) (upd (aWo a) c (wx (aWo a) c)) (wearH (aWo a) (aHo a) c)
      exact ⟨q1, q2.trans h2, q3.trans h3⟩
    · exact ⟨h, rfl, rfl⟩
theorem sz_wearS {a : AW} (h : szA a) : ∀ n, szA (wearS a n) ∧ pNf (aF (wearS a n)) = pNf (aF a) ∧ cNf (aF (wearS a n)) = cNf (aF a)
  | 0 => ⟨h, rfl, rfl⟩
  | n + 1 => by
    obtain ⟨h1, h2, h3⟩ := sz_wearS h n
    obtain ⟨q1, q2, q3⟩ := sz_wear h1 n
    exact ⟨q1, q2.trans h2, q3.trans h3⟩
theorem sz_end {a : AW} (h : szA a) : szA (endA a) ∧ pNf (aF (endA a)) = pNf (aF a) ∧ cNf (aF (endA a)) = cNf (aF a) := sz_upd h (by decide) _ _ _ _ _ _
theorem due_c {a : AW} (h : szA a) (hd : dueA a) : cNf (aF a) < 12 := by
  have := hd.2.2.2
  rw [h.2] at this
  exact (nI_ltI (b := 12) (by unfold cNf; omega) (by decide)).mp this
theorem due_p {a : AW} (h : szA a) (hd : dueA a) : 0 < pNf (aF a) := by
  have := hd.2.2.1
  rw [h.1] at this
  exact (nI_ltI (a := 0) (by decide) (by unfold pNf; omega)).mp this
theorem sz_name {u : RU} {a : AW} (h : szA a) (hd : dueA a) : szA (nameA u a) ∧ pNf (aF (nameA u a)) = pNf (aF a) ∧ cNf (aF (nameA u a)) = cNf (aF a) + 1 := by
  have hc := due_c h hd
  have key : ∀ f : Nat → Int32, f 0 = aF a 0 → f 1 = aF a 1 → szA (upd f 1 (aF a 1 + 1), aNe a, aSo a, aPa a, aWo a, aHo a) ∧ pNf (upd f 1 (aF a 1 + 1)) = pNf (aF a) ∧ cNf (upd f 1 (aF a 1 + 1)) = cNf (aF a) + 1 := by
    intro f h0 h1
    have e0 : upd f 1 (aF a 1 + 1) 0 = aF a 0 := by rw [upd_other _ _ (by decide), h0]
    have e1 : upd f 1 (aF a 1 + 1) 1 = nI (cNf (aF a) + 1) := by rw [upd_same, h.2, nI_1]
    have p0 : pNf (upd f 1 (aF a 1 + 1)) = pNf (aF a) := by unfold pNf; rw [e0]
    have c0 : cNf (upd f 1 (aF a 1 + 1)) = cNf (aF a) + 1 := by
      show min (upd f 1 (aF a 1 + 1) 1).toNatClampNeg 12 = _
      rw [e1, nI_clamp (by omega)]; omega
    refine ⟨⟨?_, ?_⟩, p0, c0⟩
    · show upd f 1 (aF a 1 + 1) 0 = nI (pNf (upd f 1 (aF a 1 + 1))); rw [e0, p0]; exact h.1
    · show upd f 1 (aF a 1 + 1) 1 = nI (cNf (upd f 1 (aF a 1 + 1))); rw [e1, c0]
  unfold nameA
  by_cases q : aSo a (poorA a).toNatClampNeg = 0
  · rw [if_pos q]; exact key _ rfl rfl
  · rw [if_neg q]; exact key _ (upd_other _ _ (by decide)) (upd_other _ _ (by decide))
theorem sz_mint {u : RU} {a : AW} (h : szA a) : szA (mintA u a) ∧ pNf (aF (mintA u a)) = pNf (aF a) := by
  unfold mintA
  split
  · rename_i hd
    exact ⟨(sz_name h hd).1, (sz_name h hd).2.1⟩
  · exact ⟨h, rfl⟩
theorem sz_year {u : RU} {a : AW} (h : szA a) : szA (yearA u a) ∧ pNf (aF (yearA u a)) = pNf (aF a) := by
  obtain ⟨m1, m2⟩ := sz_mint (u := u) h
  obtain ⟨p1, p2, p3⟩ := sz_passS (u := u) m1 (cNf (aF (mintA u a)))
  obtain ⟨w1, w2, w3⟩ := sz_wearS p1 (cNf (aF (mintA u a)))
  obtain ⟨e1, e2, e3⟩ := sz_end w1
  exact ⟨e1, e2.trans (w2.trans (p2.trans m2))⟩
theorem sz_years {u : RU} {a : AW} (h : szA a) : ∀ n, szA (yearsA u a n) ∧ pNf (aF (yearsA u a n)) = pNf (aF a)
  | 0 => ⟨h, rfl⟩
  | n + 1 => by
    obtain ⟨h1, h2⟩ := sz_years (u := u) h n
    obtain ⟨q1, q2⟩ := sz_year (u := u) h1
    exact ⟨q1, q2.trans h2⟩
