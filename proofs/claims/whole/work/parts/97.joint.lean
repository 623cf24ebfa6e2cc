/-! BOTH SIDES TOGETHER: what holds between calls -/
def rowA (P : Nat) (mi : Int32) (r : Nat → Int32) (t : Nat) : AW := (fun k => if k = 0 then nI P else if k = 1 then r (t + 1) else if k = 2 then r t else if k = 3 then mi else if k = 5 then r (t + 2) else if k = 6 then r (t + 3) else 0, fun _ => 0, fun i => r (t + (28 + i)), fun i => r (t + (36 + i)), fun i => r (t + (4 + i)), fun i => r (t + (16 + i)))
def RW (P : Nat) (r : Nat → Int32) (s : Nat) (r' : Nat → Int32) (t : Nat) : Prop := r (s + 20) = r' (t + 2) ∧ r (s + 21) = r' (t + 3) ∧ r (s + 22) = r' (t + 1) ∧ r (s + 23) = r' t ∧ (∀ c, c < 12 → r (s + (8 + c)) / 16 = r' (t + (4 + c)) ∧ rem16 (r (s + (8 + c))) - 1 = r' (t + (16 + c))) ∧ ∀ p, p < P → r (s + p) / 16 = r' (t + (28 + p)) ∧ rem16 (r (s + p)) - 1 = r' (t + (36 + p))
def rwJ (P : Nat) (mi : Int32) (r : Nat → Int32) (s : Nat) (r' : Nat → Int32) (t : Nat) : Prop := RW P r s r' t ∧ okA (rowA P mi r' t)
def imW (P : Nat) (d : DS) : Prop := (d 19 0 = d 7 0 ∧ d 19 3 = d 7 3 ∧ d 19 4 = d 7 4 ∧ d 19 1 = d 82 1 ∧ d 19 2 = d 82 0 ∧ d 19 5 = d 82 2 ∧ d 19 6 = d 82 3) ∧ (∀ c, c < 12 → d 23 c = d 82 (4 + c) ∧ d 24 c = d 82 (16 + c)) ∧ ∀ p, p < P → d 20 p = d 8 p ∧ d 21 p = d 82 (28 + p) ∧ d 22 p = d 82 (36 + p)
def imJ (d : DS) : Prop := (d 0 14 = 0 ∧ d 52 51 = 0) ∨ (d 0 14 = 1 ∧ d 52 51 = 1 ∧ ∃ S A, (S ≤ 8 ∧ A ≤ 40 ∧ d 14 3 = nI S ∧ d 14 4 = nI A ∧ d 52 52 = nI A ∧ d 52 53 = nI S) ∧ (∀ i, i < S → d 15 i = d 84 i ∧ d 16 i = d 85 i ∧ ∃ y, y ≤ 20 ∧ d 16 i = nI y) ∧ (∀ k, k < A → rwJ (pNf (d 7)) (d 7 3) (d 17) (k * 24) (d 83) (k * 44)) ∧ (∀ i, i < 3 → d 18 i = d 86 i) ∧ imW (pNf (d 7)) d ∧ okA (rowA (pNf (d 7)) (d 7 3) (d 82) 0))
def JW (u : RU) (d : DS) : Prop := eqA 7 (nowW d) (mW d (d 7 4)) ∧ okA (mW d (d 7 4)) ∧ mK u (mF d (d 7 4)) d ∧ ∀ p, p < pNf (d 7) → d 57 p = 0 ∨ d 57 p = 1
def JM (S A : Nat) (d : DS) : Prop := d 52 37 = nI A ∧ d 52 38 = nI S ∧ (∀ i, i < S → d 4 i = d 77 i ∧ d 3 i = d 76 i) ∧ (∀ k, k < A → rwJ (pNf (d 7)) (d 7 3) (d 5) (k * 24) (d 72) (k * 44)) ∧ ∀ i, i < 3 → d 6 i = d 65 i
def JT (F : Nat) (d : DS) : Prop := F ≤ 700 ∧ d 0 12 = nI F ∧ d 52 17 = nI F ∧ (∀ i, d 67 i = d 1 i &&& 255) ∧ d 0 13 = d 52 26
def JC (u : RU) (S A F : Nat) (d : DS) : Prop := CI u S A d ∧ JW u d ∧ JM S A d ∧ JT F d ∧ imJ d
def JI (d : DS) : Prop := ∃ u S A F, JC u S A F d
section Joint
variable {a b : AW} {u : RU} {S A F : Nat} {d d1 d2 : DS}
theorem ok_congr (ho : okA a) (hF : ∀ k, k < 7 → k ≠ 2 → k ≠ 4 → aF b k = aF a k) (hp : ∀ p, p < pNf (aF a) → aSo b p = aSo a p ∧ aPa b p = aPa a p) (hc : ∀ c, c < 12 → aWo b c = aWo a c ∧ aHo b c = aHo a c) : okA b := by
  obtain ⟨h1, h2, h3, h4, h5, h6, h7, h8⟩ := ho
  have f0 := hF 0 (by decide) (by decide) (by decide)
  have f1 := hF 1 (by decide) (by decide) (by decide)
  have f3 := hF 3 (by decide) (by decide) (by decide)
  have f5 := hF 5 (by decide) (by decide) (by decide)
  have f6 := hF 6 (by decide) (by decide) (by decide)
  have p0 : pNf (aF b) = pNf (aF a) := by unfold pNf; rw [f0]
  have c0 : cNf (aF b) = cNf (aF a) := by unfold cNf; rw [f1]
  have c12 := cN12 (aF a)
  unfold okA szA
  rw [p0, c0, f0, f1, f3, f5, f6]
  refine ⟨h1, h2, fun c hcc => ?_, fun c h1 h2 => ?_, fun p hpp => ?_, fun c hcc => ?_, h7, h8⟩
  · rw [(hc c (by omega)).1, (hc c (by omega)).2]; exact h3 c hcc
  · rw [(hc c h2).1, (hc c h2).2]; exact h4 c h1 h2
  · rw [(hp p hpp).1, (hp p hpp).2]; exact h5 p hpp
  · rw [(hc c hcc).1]; exact h6 c hcc
theorem rwJ_congr {P : Nat} {mi : Int32} {r q r' q' : Nat → Int32} {s s2 t t2 : Nat} (h : rwJ P mi r s r' t) (hP : P ≤ 8) (h1 : ∀ i, i < 24 → q (s2 + i) = r (s + i)) (h2 : ∀ i, i < 44 → q' (t2 + i) = r' (t + i)) : rwJ P mi q s2 q' t2 := by
  obtain ⟨⟨a1, a2, a3, a4, a5, a6⟩, a7⟩ := h
  have z0 : q' t2 = r' t := h2 0 (by decide)
  refine ⟨⟨?_, ?_, ?_, ?_, fun c hc => ?_, fun p hp => ?_⟩, ?_⟩
  · rw [h1 20 (by decide), h2 2 (by decide)]; exact a1
  · rw [h1 21 (by decide), h2 3 (by decide)]; exact a2
  · rw [h1 22 (by decide), h2 1 (by decide)]; exact a3
  · rw [h1 23 (by decide), z0]; exact a4
  · rw [h1 (8 + c) (by omega), h2 (4 + c) (by omega), h2 (16 + c) (by omega)]; exact a5 c hc
  · rw [h1 p (by omega), h2 (28 + p) (by omega), h2 (36 + p) (by omega)]; exact a6 p hp
  · have e : rowA P mi q' t2 = (fun k => if k = 0 then nI P else if k = 1 then r' (t + 1) else if k = 2 then r' t else if k = 3 then mi else if k = 5 then r' (t + 2) else if k = 6 then r' (t + 3) else 0, fun _ => 0, fun i => q' (t2 + (28 + i)), fun i => q' (t2 + (36 + i)), fun i => q' (t2 + (4 + i)), fun i => q' (t2 + (16 + i))) := by
      unfold rowA
      rw [h2 1 (by decide), h2 2 (by decide), h2 3 (by decide), z0]
    rw [e]
    refine ok_congr a7 (fun k _ _ _ => rfl) (fun p hp => ⟨h2 (28 + p) ?_, h2 (36 + p) ?_⟩) (fun c hc => ⟨h2 (4 + c) (by omega), h2 (16 + c) (by omega)⟩)
    · have := pN8 (aF (rowA P mi r' t)); omega
    · have := pN8 (aF (rowA P mi r' t)); omega
/-- cells that no call leaves changed by itself -/
abbrev SCJ : List Nat := [13, 25, 26, 27, 28, 29, 30, 31, 32, 35, 36, 37, 38, 39, 40, 41, 42, 43, 44, 45, 46, 47, 48, 49, 50, 51, 52, 58, 59, 60, 61, 62, 73, 74, 75, 78, 79, 80, 81, 87]
def slJ (k : Nat) : Prop := k = 17 ∨ k = 26 ∨ (33 ≤ k ∧ k ≤ 38) ∨ (51 ≤ k ∧ k ≤ 53)
def jf (d d1 : DS) : Prop := fr SCJ d d1 ∧ (∀ k, slJ k → d1 52 k = d 52 k) ∧ d1 45 0 = 0 ∧ d1 46 0 = 0
theorem mF_lt {bg : Int32} (h56 : d1 56 = d 56) (h52 : ∀ k, slJ k → d1 52 k = d 52 k) : ∀ k, k < 7 → mF d1 bg k = mF d bg k := by
  intro k hk
  unfold mF
  rw [h56, h52 34 (by unfold slJ; decide), h52 33 (by unfold slJ; decide), h52 35 (by unfold slJ; decide), h52 36 (by unfold slJ; decide)]
  have : ¬ k ≥ 7 := by omega
  by_cases e0 : k = 0
  · rw [if_pos e0, if_pos e0]
  by_cases e1 : k = 1
  · rw [if_neg e0, if_neg e0, if_pos e1, if_pos e1]
  by_cases e2 : k = 2
  · rw [if_neg e0, if_neg e0, if_neg e1, if_neg e1, if_pos e2, if_pos e2]
  by_cases e3 : k = 3
  · rw [if_neg e0, if_neg e0, if_neg e1, if_neg e1, if_neg e2, if_neg e2, if_pos e3, if_pos e3]
  by_cases e4 : k = 4
  · rw [if_neg e0, if_neg e0, if_neg e1, if_neg e1, if_neg e2, if_neg e2, if_neg e3, if_neg e3, if_pos e4, if_pos e4]
  by_cases e5 : k = 5
  · rw [if_neg e0, if_neg e0, if_neg e1, if_neg e1, if_neg e2, if_neg e2, if_neg e3, if_neg e3, if_neg e4, if_neg e4, if_pos e5, if_pos e5]
  rw [if_neg e0, if_neg e0, if_neg e1, if_neg e1, if_neg e2, if_neg e2, if_neg e3, if_neg e3, if_neg e4, if_neg e4, if_neg e5, if_neg e5, if_pos (by omega), if_pos (by omega)]
theorem JC.keep (h : JC u S A F d) (hj : jf d d1) : JC u S A F d1 := by
  obtain ⟨⟨c1, c2, c3, c4, c5, c6⟩, ⟨w1, w2, w3, w4⟩, ⟨m1, m2, m3, m4, m5⟩, ⟨t1, t2, t3, t4, t5⟩, hi⟩ := h
  obtain ⟨f, f52, f45, f46⟩ := hj
  have e : ∀ c, c ∉ SCJ → d1 c = d c := fun c hc => f c hc
  have e7 := e 7 (by decide)
  have eN : nowW d1 = nowW d := by
    show (d1 7, d1 8, d1 9, d1 10, d1 11, d1 12) = (d 7, d 8, d 9, d 10, d 11, d 12)
    rw [e 7 (by decide), e 8 (by decide), e 9 (by decide), e 10 (by decide), e 11 (by decide), e 12 (by decide)]
  have eF := mF_lt (bg := d 7 4) (e 56 (by decide)) f52
  have eP : pNf (mF d1 (d 7 4)) = pNf (mF d (d 7 4)) := by unfold pNf; rw [eF 0 (by decide)]
  refine ⟨⟨?_, c2, by rw [eN]; exact c3, ⟨f45, f46⟩, ?_, ?_⟩, ⟨?_, ?_, ?_, ?_⟩, ⟨?_, ?_, ?_, ?_, ?_⟩, ⟨t1, ?_, ?_, ?_, ?_⟩, ?_⟩
  · rw [e 33 (by decide), e 34 (by decide)]; exact c1
  · rw [e 2 (by decide), e 4 (by decide)]; exact c5
  · rw [e 2 (by decide)]; exact c6
  · rw [eN, e7]
    refine w1.trans ⟨fun k hk => (eF k hk).symm, fun p hp => ?_, fun c hc => ?_⟩ (by decide)
    · show d 66 p = d1 66 p ∧ d 70 p = d1 70 p ∧ d 71 p = d1 71 p
      rw [e 66 (by decide), e 70 (by decide), e 71 (by decide)]; exact ⟨rfl, rfl, rfl⟩
    · show d 68 c = d1 68 c ∧ d 69 c = d1 69 c
      rw [e 68 (by decide), e 69 (by decide)]; exact ⟨rfl, rfl⟩
  · rw [e7]
    refine ok_congr w2 (fun k hk _ _ => eF k hk) (fun p hp => ?_) (fun c hc => ?_)
    · show d1 70 p = d 70 p ∧ d1 71 p = d 71 p
      rw [e 70 (by decide), e 71 (by decide)]; exact ⟨rfl, rfl⟩
    · show d1 68 c = d 68 c ∧ d1 69 c = d 69 c
      rw [e 68 (by decide), e 69 (by decide)]; exact ⟨rfl, rfl⟩
  · rw [e7]
    unfold mK
    rw [e 56 (by decide), e 57 (by decide), e 63 (by decide), e 64 (by decide), eF 0 (by decide), eF 3 (by decide), eF 4 (by decide), eP]
    exact w3
  · rw [e7, e 57 (by decide)]; exact w4
  · rw [f52 37 (by unfold slJ; decide)]; exact m1
  · rw [f52 38 (by unfold slJ; decide)]; exact m2
  · rw [e 4 (by decide), e 77 (by decide), e 3 (by decide), e 76 (by decide)]; exact m3
  · rw [e7, e 5 (by decide), e 72 (by decide)]; exact m4
  · rw [e 6 (by decide), e 65 (by decide)]; exact m5
  · rw [e 0 (by decide)]; exact t2
  · rw [f52 17 (by unfold slJ; decide)]; exact t3
  · rw [e 67 (by decide), e 1 (by decide)]; exact t4
  · rw [e 0 (by decide), f52 26 (by unfold slJ; decide)]; exact t5
  · unfold imJ imW
    rw [e 0 (by decide), f52 51 (by unfold slJ; decide), f52 52 (by unfold slJ; decide), f52 53 (by unfold slJ; decide), e7, e 8 (by decide), e 14 (by decide), e 15 (by decide), e 16 (by decide), e 17 (by decide), e 18 (by decide), e 19 (by decide), e 20 (by decide), e 21 (by decide), e 22 (by decide), e 23 (by decide), e 24 (by decide), e 82 (by decide), e 83 (by decide), e 84 (by decide), e 85 (by decide), e 86 (by decide)]
    exact hi
theorem jf.rfl (h : JC u S A F d) : jf d d := ⟨fr.rfl, fun _ _ => Eq.refl _, h.1.2.2.2.1.1, h.1.2.2.2.1.2⟩
theorem jf.trans (h : jf d d1) (h2 : jf d1 d2) : jf d d2 := ⟨h.1.trans h2.1, fun k hk => (h2.2.1 k hk).trans (h.2.1 k hk), h2.2.2⟩
theorem jf.qf (h : qf d d1) : jf d d1 := ⟨h.1.mono (by decide), fun k _ => by rw [h.1 52 (by decide)], h.2⟩
theorem jf.out (h : jf d d1) (i : Nat) (x : Int32) : jf d (dset d1 87 i x) := ⟨h.1.set (by decide) _ _, fun k hk => by rw [ds_n _ _ _ (by decide)]; exact h.2.1 k hk, by rw [ds_n _ _ _ (by decide)]; exact h.2.2.1, by rw [ds_n _ _ _ (by decide)]; exact h.2.2.2⟩
/-- the reference's world at hand -/
theorem setM_jf {D : DS} {p : Int32} {as sk : Nat → Int32} {bg : Int32} (h45 : d 45 0 = 0) (h46 : d 46 0 = 0) (hD : dOk d D) : jf d (setM D (a7 (mW d bg) p) as sk) := by
  obtain ⟨f1, f2⟩ := hD
  have g : ∀ c, c ∉ [52, 66, 68, 69, 70, 71, 73, 74] → setM D (a7 (mW d bg) p) as sk c = D c := fun c hc => by
    simp only [List.mem_cons, List.not_mem_nil, or_false, not_or] at hc
    exact st_c hc.1 hc.2.1 hc.2.2.1 hc.2.2.2.1 hc.2.2.2.2.1 hc.2.2.2.2.2.1 hc.2.2.2.2.2.2.1 hc.2.2.2.2.2.2.2
  refine ⟨fun c hc => ?_, fun k hk => ?_, ?_, ?_⟩
  · by_cases q6 : c = 66
    · subst q6; rw [sm_66]; rfl
    by_cases q8 : c = 68
    · subst q8; rw [sm_68]; rfl
    by_cases q9 : c = 69
    · subst q9; rw [sm_69]; rfl
    by_cases q0 : c = 70
    · subst q0; rw [sm_70]; rfl
    by_cases q1 : c = 71
    · subst q1; rw [sm_71]; rfl
    simp only [List.mem_cons, List.not_mem_nil, or_false, not_or] at hc
    rw [g c (by simp only [List.mem_cons, List.not_mem_nil, or_false, not_or]; omega)]
    exact f1 c (by simp only [List.mem_cons, List.not_mem_nil, or_false, not_or]; omega)
  · rw [sm_52]
    have hu : ∀ j, j ≠ 7 → aF (a7 (mW d bg) p) j = mF d bg j := fun j hj => upd_other _ _ hj
    unfold slJ at hk
    unfold mf
    by_cases q3 : k = 33
    · rw [if_pos q3, hu 2 (by decide), q3]; rfl
    by_cases q4 : k = 34
    · rw [if_neg q3, if_pos q4, hu 1 (by decide), q4]; rfl
    by_cases q5 : k = 35
    · rw [if_neg q3, if_neg q4, if_pos q5, hu 5 (by decide), q5]; rfl
    by_cases q6 : k = 36
    · rw [if_neg q3, if_neg q4, if_neg q5, if_pos q6, hu 6 (by decide), q6]; rfl
    rw [if_neg q3, if_neg q4, if_neg q5, if_neg q6, if_neg (by omega)]
    exact f2 k (by omega) (by omega) (by omega)
  · rw [g 45 (by decide), f1 45 (by decide)]; exact h45
  · rw [g 46 (by decide), f1 46 (by decide)]; exact h46
theorem sM_4 {D : DS} {a : AW} {as sk : Nat → Int32} : setM D a as sk 52 4 = D 52 4 := by rw [sm_52]; rfl
theorem sM_87 {D : DS} {a : AW} {as sk : Nat → Int32} : setM D a as sk 87 = D 87 := st_c (by decide) (by decide) (by decide) (by decide) (by decide) (by decide) (by decide) (by decide)
end Joint
