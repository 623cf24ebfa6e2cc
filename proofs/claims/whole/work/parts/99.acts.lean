/-! BOTH SIDES TOGETHER: acts -/
abbrev WCH : List Nat := [2, 5, 7, 8, 9, 10, 11, 12, 66, 68, 69, 70, 71, 72, 13, 25, 26, 27, 28, 29, 30, 31, 32, 35, 36, 37, 38, 39, 40, 41, 42, 43, 44, 45, 46, 47, 48, 49, 50, 51, 52, 58, 59, 60, 61, 62, 73, 74, 75, 78, 79, 80, 81, 87]
section Acts
variable {a b : AW} {u : RU} {S A F : Nat} {d d1 d2 : DS}
theorem ok_f5 (h : okA a) (y : Int32) : okA (upd (aF a) 5 (aF a 5 &&& y), aNe a, aSo a, aPa a, aWo a, aHo a) := by
  obtain ⟨h1, h2, h3, h4, h5, h6, h7, x5, h8, h8'⟩ := h
  have hb : ∀ c, c < 12 → aF a 5 &&& bit c = 0 → (aF a 5 &&& y) &&& bit c = 0 := fun c hc z => by
    rw [and_bit _ (by omega)] at z ⊢
    rw [b_and, z]; rfl
  have c12 := cN12 (aF a)
  refine ⟨h1, h2, fun c hc => ?_, fun c h1 h2 => ?_, h5, h6, h7, ?_⟩
  · have hc : c < cNf (aF a) := hc
    rcases h3 c hc with z | ⟨z1, z2, z3, z4⟩
    · exact Or.inl z
    · exact Or.inr ⟨z1, z2, z3, by show (upd (aF a) 5 (aF a 5 &&& y)) 5 &&& bit c = 0; rw [upd_same]; exact hb c (by omega) z4⟩
  · obtain ⟨z1, z2, z3, z4⟩ := h4 c h1 h2
    exact ⟨z1, z2, z3, by show (upd (aF a) 5 (aF a 5 &&& y)) 5 &&& bit c = 0; rw [upd_same]; exact hb c h2 z4⟩
  · show ∃ x, x < 4096 ∧ upd (aF a) 5 (aF a 5 &&& y) 5 = nI x
    rw [upd_same, h8']; exact and_lt h8 y
theorem dec16 : ∀ w, w < 100 → ∀ q, q < 9 → (nI w * 16 + (nI q - 1) + 1) / 16 = nI w ∧ rem16 (nI w * 16 + (nI q - 1) + 1) - 1 = nI q - 1 := by decide +kernel
theorem dec_at {x y : Int32} {w : Nat} (hw : w ≤ 99) (ex : x = nI w) (hy : y = -1 ∨ ∃ p, p < 8 ∧ y = nI p) : (x * 16 + y + 1) / 16 = x ∧ rem16 (x * 16 + y + 1) - 1 = y := by
  rcases hy with rfl | ⟨p, hp, rfl⟩
  · have := dec16 w (by omega) 0 (by decide)
    rw [ex]; exact this
  · have := dec16 w (by omega) (p + 1) (by omega)
    rw [← nI_1, Int32.add_sub_cancel] at this
    rw [ex]; exact this
theorem wr_at {b : AW} {h : Nat → Int32} {s i : Nat} (hi : i < 24) : wrN b h s 24 (s + i) = encR b i := by
  unfold wrN
  rw [if_pos (by omega), Nat.add_sub_cancel_left]
theorem ho_8 (ho : okA a) {c : Nat} (hc : c < 12) : aHo a c = -1 ∨ ∃ p, p < 8 ∧ aHo a c = nI p := by
  rcases Nat.lt_or_ge c (cNf (aF a)) with z | z
  · rcases ho.2.2.1 c z with ⟨-, p, hp, e⟩ | ⟨-, e, -⟩
    · exact Or.inr ⟨p, by have := pN8 (aF a); omega, e⟩
    · exact Or.inl e
  · exact Or.inl (ho.2.2.2.1 c z hc).1
theorem rw_keep {h r : Nat → Int32} {s t : Nat} (hr : rowM r t a) (he : eqA 7 b a) (ho : okA a) : rwJ (pNf (aF a)) (aF a 3) (wrN b h s 24) s r t := by
  obtain ⟨r1, r2, r3, r4, r5, r6⟩ := hr
  have p8 := pN8 (aF a)
  refine ⟨⟨?_, ?_, ?_, ?_, fun c hc => ?_, fun p hp => ?_⟩, ?_⟩
  · rw [wr_at (by decide), r3, ← he.1 5 (by decide)]; rfl
  · rw [wr_at (by decide), r4, ← he.1 6 (by decide)]; rfl
  · rw [wr_at (by decide), r2, ← he.1 1 (by decide)]; rfl
  · rw [wr_at (by decide), r1, ← he.1 2 (by decide)]; rfl
  · rw [wr_at (by omega), (r5 c hc).1, (r5 c hc).2]
    have e : encR b (8 + c) = aWo a c * 16 + aHo a c + 1 := by
      unfold encR
      rw [if_neg (by omega), if_pos (by omega), Nat.add_sub_cancel_left, (he.2.2 c hc).1, (he.2.2 c hc).2]
    rw [e]
    obtain ⟨w, hw, ew⟩ := ho.2.2.2.2.2.1 c hc
    exact dec_at hw ew (ho_8 ho hc)
  · rw [wr_at (by omega), (r6 p (by omega)).1, (r6 p (by omega)).2]
    obtain ⟨-, e2, e3⟩ := he.2.1 p (by rw [he.p (by decide)]; exact hp)
    have e : encR b p = aSo a p * 16 + aPa a p + 1 := by
      unfold encR
      rw [if_pos (by omega), e2, e3]
    rw [e]
    obtain ⟨h1, y, hy, ey⟩ := ho.2.2.2.2.1 p hp
    refine dec_at (w := y) (by omega) ey ?_
    rcases h1 with z | ⟨q, hq, -, z⟩
    · exact Or.inl z
    · exact Or.inr ⟨q, by omega, z⟩
  · refine ok_congr ho (fun k hk h2 h4 => ?_) (fun p hp => ⟨(r6 p (by omega)).1, (r6 p (by omega)).2⟩) (fun c hc => r5 c hc)
    show (if k = 0 then nI (pNf (aF a)) else if k = 1 then r (t + 1) else if k = 2 then r t else if k = 3 then aF a 3 else if k = 5 then r (t + 2) else if k = 6 then r (t + 3) else 0) = aF a k
    rw [r2, r3, r4]
    by_cases e0 : k = 0
    · rw [if_pos e0, e0]; exact ho.1.1.symm
    by_cases e1 : k = 1
    · rw [if_neg e0, if_pos e1, e1]
    by_cases e3 : k = 3
    · rw [if_neg e0, if_neg e1, if_neg h2, if_pos e3, e3]
    by_cases e5 : k = 5
    · rw [if_neg e0, if_neg e1, if_neg h2, if_neg e3, if_pos e5, e5]
    rw [if_neg e0, if_neg e1, if_neg h2, if_neg e3, if_neg e5, if_pos (by omega), show k = 6 by omega]
theorem rows_keep {r5 r72 g5 g72 : Nat → Int32} {P : Nat} {mi : Int32} (hA : A ≤ 40) (hold : ∀ k, k < A → rwJ P mi r5 (k * 24) r72 (k * 44)) (h5 : g5 = if A = 40 then wrN b (dwn r5) (39 * 24) 24 else wrN b r5 (A * 24) 24) (h72 : kpM A a r72 g72) (he : eqA 7 b a) (ho : okA a) (hP : P = pNf (aF a)) (hm : mi = aF a 3) : ∀ k, k < kpN A → rwJ P mi g5 (k * 24) g72 (k * 44) := by
  intro k hk
  have p8 := pN8 (aF a)
  unfold kpM at h72
  unfold kpN at hk
  by_cases q : A = 40
  · rw [if_pos q] at h5 h72 hk
    obtain ⟨o, rm⟩ := h72
    by_cases e : k = 39
    · subst e
      rw [h5, hP, hm]; exact rw_keep rm he ho
    · refine rwJ_congr (hold (k + 1) (by omega)) (by omega) (fun i hi => ?_) (fun i hi => ?_)
      · rw [h5]
        unfold wrN dwn
        rw [if_neg (by omega), if_pos (by omega), show k * 24 + i + 24 = (k + 1) * 24 + i by omega]
      · rw [o _ (Or.inl (by omega))]
        unfold dwM
        rw [if_pos (by omega), show k * 44 + i + 44 = (k + 1) * 44 + i by omega]
  · rw [if_neg q] at h5 h72 hk
    obtain ⟨o, rm⟩ := h72
    by_cases e : k = A
    · subst e
      rw [h5, hP, hm]; exact rw_keep rm he ho
    · refine rwJ_congr (hold k (by omega)) (by omega) (fun i hi => ?_) (fun i hi => o _ (Or.inl (by omega)))
      rw [h5]
      unfold wrN
      rw [if_neg (by omega)]
theorem JC.world {A2 : Nat} (h : JC u S A F d) (hfr : ∀ c, c ∉ WCH → d2 c = d c) (h2 : d2 2 3 = d 2 3) (hA2 : A2 ≤ 40) (h24 : d2 2 4 = nI A2) (h37 : d2 52 37 = nI A2) (h52 : ∀ k, (k = 17 ∨ k = 26 ∨ k = 38 ∨ (51 ≤ k ∧ k ≤ 53)) → d2 52 k = d 52 k) (h45 : d2 45 0 = 0) (h46 : d2 46 0 = 0) (hb : d2 7 0 = d 7 0 ∧ d2 7 3 = d 7 3 ∧ d2 7 4 = d 7 4 ∧ ∀ p, p < pNf (d 7) → d2 8 p = d 8 p) (he : eqA 7 (nowW d2) (mW d2 (d2 7 4))) (ho : okA (mW d2 (d2 7 4))) (hr : ∀ k, k < A2 → rwJ (pNf (d 7)) (d 7 3) (d2 5) (k * 24) (d2 72) (k * 44)) : JC u S A2 F d2 := by
  obtain ⟨⟨c1, c2, c3, c4, c5, c6⟩, ⟨w1, w2, w3, w4⟩, ⟨m1, m2, m3, m4, m5⟩, ⟨t1, t2, t3, t4, t5⟩, hi⟩ := h
  have e : ∀ c, c ∉ WCH → d2 c = d c := hfr
  obtain ⟨b0, b3, b4, b8⟩ := hb
  have eP : pNf (d2 7) = pNf (d 7) := by unfold pNf; rw [b0]
  have f0 : mF d2 (d2 7 4) 0 = mF d (d 7 4) 0 := by show d2 56 0 = d 56 0; rw [e 56 (by decide)]
  have f3 : mF d2 (d2 7 4) 3 = mF d (d 7 4) 3 := by show d2 56 2 = d 56 2; rw [e 56 (by decide)]
  have f4 : mF d2 (d2 7 4) 4 = mF d (d 7 4) 4 := b4
  have fP : pNf (mF d2 (d2 7 4)) = pNf (mF d (d 7 4)) := by unfold pNf; rw [f0]
  refine ⟨⟨?_, c2, sz_congr ho.1 (he.symm (by decide)) (by decide), ⟨h45, h46⟩, ?_, hA2, h24⟩, ⟨he, ho, ?_, ?_⟩, ⟨h37, ?_, ?_, ?_, ?_⟩, ⟨t1, ?_, ?_, ?_, ?_⟩, ?_⟩
  · rw [e 33 (by decide), e 34 (by decide)]; exact c1
  · rw [h2, e 4 (by decide)]; exact c5
  · unfold mK
    rw [e 56 (by decide), e 57 (by decide), e 63 (by decide), e 64 (by decide), f0, f3, f4, fP]
    exact w3
  · rw [eP, e 57 (by decide)]; exact w4
  · rw [h52 38 (by decide)]; exact m2
  · rw [e 4 (by decide), e 77 (by decide), e 3 (by decide), e 76 (by decide)]; exact m3
  · rw [eP, b3]; exact hr
  · rw [e 6 (by decide), e 65 (by decide)]; exact m5
  · rw [e 0 (by decide)]; exact t2
  · rw [h52 17 (by decide)]; exact t3
  · rw [e 67 (by decide), e 1 (by decide)]; exact t4
  · rw [e 0 (by decide), h52 26 (by decide)]; exact t5
  · unfold imJ imW at hi ⊢
    rw [e 0 (by decide), h52 51 (by decide), h52 52 (by decide), h52 53 (by decide), eP, b0, b3, b4, e 14 (by decide), e 15 (by decide), e 16 (by decide), e 17 (by decide), e 18 (by decide), e 19 (by decide), e 20 (by decide), e 21 (by decide), e 22 (by decide), e 23 (by decide), e 24 (by decide), e 82 (by decide), e 83 (by decide), e 84 (by decide), e 85 (by decide), e 86 (by decide)]
    rcases hi with hi | ⟨i1, i2, S', A', i3, i4, i5, i6, ⟨i7, i8, i9⟩, i10⟩
    · exact Or.inl hi
    · exact Or.inr ⟨i1, i2, S', A', i3, i4, i5, i6, ⟨i7, i8, fun p hp => ⟨by rw [b8 p hp]; exact (i9 p hp).1, (i9 p hp).2⟩⟩, i10⟩
/-- the reference's cells over a world of its own -/
theorem sM_out {D : DS} {a : AW} {as sk : Nat → Int32} {c : Nat} (h : c ∉ [52, 66, 68, 69, 70, 71, 73, 74]) : setM D a as sk c = D c := by
  simp only [List.mem_cons, List.not_mem_nil, or_false, not_or] at h
  exact st_c h.1 h.2.1 h.2.2.1 h.2.2.2.1 h.2.2.2.2.1 h.2.2.2.2.2.1 h.2.2.2.2.2.2.1 h.2.2.2.2.2.2.2
theorem sM_slot {D : DS} {a : AW} {as sk : Nat → Int32} {k : Nat} (h : k ≠ 33 ∧ k ≠ 34 ∧ k ≠ 35 ∧ k ≠ 36 ∧ k ≠ 41) : setM D a as sk 52 k = D 52 k := by
  rw [sm_52]
  unfold mf
  rw [if_neg h.1, if_neg h.2.1, if_neg h.2.2.1, if_neg h.2.2.2.1, if_neg h.2.2.2.2]
theorem sM_mW {D : DS} {a : AW} {as sk : Nat → Int32} {bg : Int32} (h0 : D 56 0 = aF a 0) (h3 : D 56 2 = aF a 3) : ∀ k, k < 7 → k ≠ 4 → mF (setM D a as sk) bg k = aF a k := by
  intro k hk h4
  unfold mF
  rw [sM_out (c := 56) (by decide), sm_52]
  unfold mf
  by_cases e0 : k = 0
  · rw [if_pos e0, e0]; exact h0
  by_cases e1 : k = 1
  · rw [if_neg e0, if_pos e1, e1]; rfl
  by_cases e2 : k = 2
  · rw [if_neg e0, if_neg e1, if_pos e2, e2]; rfl
  by_cases e3 : k = 3
  · rw [if_neg e0, if_neg e1, if_neg e2, if_pos e3, e3]; exact h3
  by_cases e5 : k = 5
  · rw [if_neg e0, if_neg e1, if_neg e2, if_neg e3, if_neg h4, if_pos e5, e5]; rfl
  rw [if_neg e0, if_neg e1, if_neg e2, if_neg e3, if_neg h4, if_neg e5, if_pos (by omega), show k = 6 by omega]; rfl
theorem sM_ok {D : DS} {a : AW} {as sk : Nat → Int32} {bg : Int32} (ho : okA a) (h0 : D 56 0 = aF a 0) (h3 : D 56 2 = aF a 3) : okA (mW (setM D a as sk) bg) := by
  refine ok_congr ho (fun k hk _ h4 => sM_mW h0 h3 k hk h4) (fun p _ => ?_) (fun c _ => ?_)
  · show setM D a as sk 70 p = aSo a p ∧ setM D a as sk 71 p = aPa a p
    rw [sm_70, sm_71]; exact ⟨rfl, rfl⟩
  · show setM D a as sk 68 c = aWo a c ∧ setM D a as sk 69 c = aHo a c
    rw [sm_68, sm_69]; exact ⟨rfl, rfl⟩
theorem sM_eq {D : DS} {a b : AW} {as sk : Nat → Int32} (he : eqA 7 b a) (h0 : D 56 0 = aF a 0) (h3 : D 56 2 = aF a 3) : eqA 7 b (mW (setM D a as sk) (aF b 4)) := by
  refine ⟨fun k hk => ?_, fun p hp => ?_, fun c hc => ?_⟩
  · by_cases e4 : k = 4
    · subst e4; rfl
    · rw [he.1 k hk]; exact (sM_mW h0 h3 k hk e4).symm
  · obtain ⟨e1, e2, e3⟩ := he.2.1 p hp
    show aNe b p = setM D a as sk 66 p ∧ aSo b p = setM D a as sk 70 p ∧ aPa b p = setM D a as sk 71 p
    rw [sm_66, sm_70, sm_71]; exact ⟨e1, e2, e3⟩
  · obtain ⟨e1, e2⟩ := he.2.2 c hc
    show aWo b c = setM D a as sk 68 c ∧ aHo b c = setM D a as sk 69 c
    rw [sm_68, sm_69]; exact ⟨e1, e2⟩
/-- what the law sees of a pair of calls: the code k and, where it is 0, the answer z -/
def PQ (k z : Int32) (d1 : DS) : Option Value → DS → Prop := fun v d2 => ∃ y, v = some (.int y) ∧ JI d2 ∧ d2 52 4 = k ∧ (k = 0 → z = y) ∧ d2 87 = d1 87
def rfO (i : Nat) (d d1 : DS) : Prop := fr [6, 87] d d1 ∧ d1 6 = upd (d 6) i (d 6 i + 1)
def acO (A : Nat) (a' : AW) (d d1 : DS) : Prop := fr (87 :: ACT) d d1 ∧ kpC A d d1 ∧ nowW d1 = a'
def HA (c1 rf : Prop) (no ans : Int32) (A : Nat) (a' : AW) (d : DS) (k z : Int32) (d1 : DS) : Prop := (c1 ∧ k = 0 ∧ ((rf ∧ z = no ∧ rfO 1 d d1) ∨ (¬ rf ∧ z = ans ∧ acO A a' d d1))) ∨ (¬ c1 ∧ k = 1 ∧ d1 = d)
theorem JC.refuse {i : Nat} (hi : i < 3) (h : JC u S A F d) (h1 : rfO i d d1) (hfr : ∀ c, c ∉ [52, 65, 73, 74, 87] → d2 c = d1 c) (h52 : ∀ k, slJ k → d2 52 k = d 52 k) (h65 : d2 65 = upd (d 65) i (d 65 i + 1)) : JC u S A F d2 := by
  obtain ⟨f1, f6⟩ := h1
  have e : ∀ c, c ∉ [6, 52, 65, 73, 74, 87] → d2 c = d c := fun c hc => by
    simp only [List.mem_cons, List.not_mem_nil, or_false, not_or] at hc
    rw [hfr c (by simp only [List.mem_cons, List.not_mem_nil, or_false, not_or]; omega), f1 c (by simp only [List.mem_cons, List.not_mem_nil, or_false, not_or]; omega)]
  have hk := h
  obtain ⟨⟨c1, c2, c3, c4, c5, c6⟩, ⟨w1, w2, w3, w4⟩, ⟨m1, m2, m3, m4, m5⟩, ⟨t1, t2, t3, t4, t5⟩, hi2⟩ := hk
  -- the same but for the refusals: put them back, keep, and set them anew
  have base : JC u S A F (drow (drow d2 6 (d 6)) 65 (d 65)) := by
    refine h.keep ⟨fun c hc => ?_, fun k hk => ?_, ?_, ?_⟩
    · simp only [List.mem_cons, List.not_mem_nil, or_false, not_or] at hc
      by_cases q : c = 65
      · subst q; rw [dr_s]
      by_cases q6 : c = 6
      · subst q6; rw [dr_n _ _ (by decide), dr_s]
      rw [dr_n _ _ q, dr_n _ _ q6]
      exact e c (by simp only [List.mem_cons, List.not_mem_nil, or_false, not_or]; omega)
    · rw [dr_n _ _ (by decide), dr_n _ _ (by decide)]; exact h52 k hk
    · rw [dr_n _ _ (by decide), dr_n _ _ (by decide), e 45 (by decide)]; exact c4.1
    · rw [dr_n _ _ (by decide), dr_n _ _ (by decide), e 46 (by decide)]; exact c4.2
  have g : ∀ c, c ≠ 6 → c ≠ 65 → d2 c = drow (drow d2 6 (d 6)) 65 (d 65) c := fun c x y => by rw [dr_n _ _ y, dr_n _ _ x]
  have e6 : d2 6 = upd (d 6) i (d 6 i + 1) := by rw [hfr 6 (by decide)]; exact f6
  generalize drow (drow d2 6 (d 6)) 65 (d 65) = D at base g
  obtain ⟨⟨c1, c2, c3, c4, c5, c6⟩, ⟨w1, w2, w3, w4⟩, ⟨m1, m2, m3, m4, -⟩, ⟨t1, t2, t3, t4, t5⟩, hi2⟩ := base
  have eN : nowW d2 = nowW D := by
    show (d2 7, d2 8, d2 9, d2 10, d2 11, d2 12) = (D 7, D 8, D 9, D 10, D 11, D 12)
    rw [g 7 (by decide) (by decide), g 8 (by decide) (by decide), g 9 (by decide) (by decide), g 10 (by decide) (by decide), g 11 (by decide) (by decide), g 12 (by decide) (by decide)]
  have eM : ∀ bg, mW d2 bg = mW D bg := fun bg => by
    unfold mW mF
    rw [g 52 (by decide) (by decide), g 56 (by decide) (by decide), g 66 (by decide) (by decide), g 68 (by decide) (by decide), g 69 (by decide) (by decide), g 70 (by decide) (by decide), g 71 (by decide) (by decide)]
  have eF : ∀ bg, mF d2 bg = mF D bg := fun bg => congrArg Prod.fst (eM bg)
  refine ⟨⟨?_, c2, by rw [eN]; exact c3, ?_, ?_, ?_⟩, ⟨?_, ?_, ?_, ?_⟩, ⟨?_, ?_, ?_, ?_, ?_⟩, ⟨t1, ?_, ?_, ?_, ?_⟩, ?_⟩
  · rw [g 33 (by decide) (by decide), g 34 (by decide) (by decide)]; exact c1
  · rw [g 45 (by decide) (by decide), g 46 (by decide) (by decide)]; exact c4
  · rw [g 2 (by decide) (by decide), g 4 (by decide) (by decide)]; exact c5
  · rw [g 2 (by decide) (by decide)]; exact c6
  · rw [eN, eM, g 7 (by decide) (by decide)]; exact w1
  · rw [eM, g 7 (by decide) (by decide)]; exact w2
  · unfold mK at w3 ⊢
    rw [g 7 (by decide) (by decide), eF, g 56 (by decide) (by decide), g 57 (by decide) (by decide), g 63 (by decide) (by decide), g 64 (by decide) (by decide)]; exact w3
  · rw [g 7 (by decide) (by decide), g 57 (by decide) (by decide)]; exact w4
  · rw [g 52 (by decide) (by decide)]; exact m1
  · rw [g 52 (by decide) (by decide)]; exact m2
  · rw [g 4 (by decide) (by decide), g 77 (by decide) (by decide), g 3 (by decide) (by decide), g 76 (by decide) (by decide)]; exact m3
  · rw [g 7 (by decide) (by decide), g 5 (by decide) (by decide), g 72 (by decide) (by decide)]; exact m4
  · intro j hj
    rw [e6, h65]
    exact upd_congr (fun _ => m5 j hj) (by rw [m5 i hi])
  · rw [g 0 (by decide) (by decide)]; exact t2
  · rw [g 52 (by decide) (by decide)]; exact t3
  · rw [g 67 (by decide) (by decide), g 1 (by decide) (by decide)]; exact t4
  · rw [g 0 (by decide) (by decide), g 52 (by decide) (by decide)]; exact t5
  · unfold imJ imW at hi2 ⊢
    rw [g 0 (by decide) (by decide), g 52 (by decide) (by decide), g 7 (by decide) (by decide), g 8 (by decide) (by decide), g 14 (by decide) (by decide), g 15 (by decide) (by decide), g 16 (by decide) (by decide), g 17 (by decide) (by decide), g 18 (by decide) (by decide), g 19 (by decide) (by decide), g 20 (by decide) (by decide), g 21 (by decide) (by decide), g 22 (by decide) (by decide), g 23 (by decide) (by decide), g 24 (by decide) (by decide), g 82 (by decide) (by decide), g 83 (by decide) (by decide), g 84 (by decide) (by decide), g 85 (by decide) (by decide), g 86 (by decide) (by decide)]
    exact hi2
end Acts
