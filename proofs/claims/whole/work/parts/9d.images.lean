/-! BOTH SIDES TOGETHER: images, feed -/
section Own4
variable {l : Launch} {n : Nat} {a b : AW} {u : RU} {S A F : Nat} {d d1 d2 : DS}
theorem JC.img {F2 : Nat} (h : JC u S A F d) (hfr : ∀ c, c ∉ 0 :: 1 :: 67 :: 14 :: 15 :: 16 :: 17 :: 18 :: 19 :: 20 :: 21 :: 22 :: 23 :: 24 :: 82 :: 83 :: 84 :: 85 :: 86 :: SCJ → d2 c = d c) (hT : JT F2 d2) (h52 : ∀ k, (33 ≤ k ∧ k ≤ 38) → d2 52 k = d 52 k) (h45 : d2 45 0 = 0) (h46 : d2 46 0 = 0) (hi : imJ d2) : JC u S A F2 d2 := by
  obtain ⟨⟨c1, c2, c3, c4, c5, c6⟩, ⟨w1, w2, w3, w4⟩, ⟨m1, m2, m3, m4, m5⟩, -, -⟩ := h
  have e := hfr
  have e7 := e 7 (by decide)
  have eN : nowW d2 = nowW d := by
    show (d2 7, d2 8, d2 9, d2 10, d2 11, d2 12) = (d 7, d 8, d 9, d 10, d 11, d 12)
    rw [e 7 (by decide), e 8 (by decide), e 9 (by decide), e 10 (by decide), e 11 (by decide), e 12 (by decide)]
  have eF : ∀ bg k, k < 7 → mF d2 bg k = mF d bg k := by
    intro bg k hk
    unfold mF
    rw [e 56 (by decide), h52 34 (by decide), h52 33 (by decide), h52 35 (by decide), h52 36 (by decide)]
    match k, hk with
    | 0, _ => rfl
    | 1, _ => rfl
    | 2, _ => rfl
    | 3, _ => rfl
    | 4, _ => rfl
    | 5, _ => rfl
    | 6, _ => rfl
  have eP : pNf (mF d2 (d 7 4)) = pNf (mF d (d 7 4)) := by unfold pNf; rw [eF _ 0 (by decide)]
  refine ⟨⟨?_, c2, by rw [eN]; exact c3, ⟨h45, h46⟩, by rw [e 2 (by decide), e 4 (by decide)]; exact c5, by rw [e 2 (by decide)]; exact c6⟩, ⟨?_, ?_, ?_, ?_⟩, ⟨?_, ?_, ?_, ?_, ?_⟩, hT, hi⟩
  · rw [e 33 (by decide), e 34 (by decide)]; exact c1
  · rw [eN, e7]
    refine w1.trans ⟨fun k hk => (eF _ k hk).symm, fun p hp => ?_, fun c hc => ?_⟩ (by decide)
    · show d 66 p = d2 66 p ∧ d 70 p = d2 70 p ∧ d 71 p = d2 71 p
      rw [e 66 (by decide), e 70 (by decide), e 71 (by decide)]; exact ⟨rfl, rfl, rfl⟩
    · show d 68 c = d2 68 c ∧ d 69 c = d2 69 c
      rw [e 68 (by decide), e 69 (by decide)]; exact ⟨rfl, rfl⟩
  · rw [e7]
    refine ok_congr w2 (fun k hk _ _ => eF _ k hk) (fun p hp => ?_) (fun c hc => ?_)
    · show d2 70 p = d 70 p ∧ d2 71 p = d 71 p
      rw [e 70 (by decide), e 71 (by decide)]; exact ⟨rfl, rfl⟩
    · show d2 68 c = d 68 c ∧ d2 69 c = d 69 c
      rw [e 68 (by decide), e 69 (by decide)]; exact ⟨rfl, rfl⟩
  · rw [e7]
    unfold mK
    rw [e 56 (by decide), e 57 (by decide), e 63 (by decide), e 64 (by decide), eF _ 0 (by decide), eF _ 3 (by decide), eF _ 4 (by decide), eP]
    exact w3
  · rw [e7, e 57 (by decide)]; exact w4
  · rw [h52 37 (by decide)]; exact m1
  · rw [h52 38 (by decide)]; exact m2
  · rw [e 4 (by decide), e 77 (by decide), e 3 (by decide), e 76 (by decide)]; exact m3
  · rw [e7, e 5 (by decide), e 72 (by decide)]; exact m4
  · rw [e 6 (by decide), e 65 (by decide)]; exact m5
theorem sM_3336 {D : DS} {bg : Int32} {as sk : Nat → Int32} (hD : D 52 37 = d 52 37 ∧ D 52 38 = d 52 38) : ∀ k, (33 ≤ k ∧ k ≤ 38) → setM D (mW d bg) as sk 52 k = d 52 k := by
  intro k hk
  rw [sm_52]
  unfold mf
  by_cases q3 : k = 33
  · rw [if_pos q3, q3]; rfl
  by_cases q4 : k = 34
  · rw [if_neg q3, if_pos q4, q4]; rfl
  by_cases q5 : k = 35
  · rw [if_neg q3, if_neg q4, if_pos q5, q5]; rfl
  by_cases q6 : k = 36
  · rw [if_neg q3, if_neg q4, if_neg q5, if_pos q6, q6]; rfl
  rw [if_neg q3, if_neg q4, if_neg q5, if_neg q6, if_neg (by omega)]
  rcases (show k = 37 ∨ k = 38 by omega) with rfl | rfl
  · exact hD.1
  · exact hD.2
theorem R_image (hl : l.stackTraces = false) (h : JC u S A F d) (hf : fr [0, 14, 15, 16, 17, 18, 19, 20, 21, 22, 23, 24] d d1) (h0 : d1 0 = upd (d 0) 14 1) (hm : cpM 14 19 2 7 d d1) : CM l mX11_image (n + 20) 0 [.ref 52] d1 (fun v d2 => v = none ∧ JI d2 ∧ d2 87 = d1 87) NX := by
  have hc : ∀ c, 52 ≤ c → c ≠ 87 → d1 c = d c := fun c hc _ => hf c (by simp only [List.mem_cons, List.not_mem_nil, or_false, not_or]; omega)
  have qq := q_image (n := n) (d := d1) (a := mW d1 (d 7 4)) (as := d1 73) (sk := d1 74) hl
  rw [setM_id, mW_same hc] at qq
  refine qq.mono (fun v d2 hz => ?_) (fun _ _ h => h.elim)
  obtain ⟨rfl, r, ⟨-, hr⟩, rfl⟩ := hz
  generalize d1 73 = as
  generalize d1 74 = sk
  have hA : A ≤ 40 := h.1.2.2.2.2.2.1
  have he := h.2.1.1
  have ho := h.2.1.2.1
  have gI : ∀ c, c ∉ [52, 82, 83, 84, 85, 86] → imD d1 r c = d1 c := fun c hc => by
    simp only [List.mem_cons, List.not_mem_nil, or_false, not_or] at hc
    unfold imD
    rw [dr_n _ _ (by omega), dr_n _ _ (by omega), dr_n _ _ (by omega), dr_n _ _ (by omega), dr_n _ _ (by omega), ds_n _ _ _ (by omega), ds_n _ _ _ (by omega), ds_n _ _ _ (by omega), ds_n _ _ _ (by omega)]
  have g : ∀ c, c ∉ [52, 66, 68, 69, 70, 71, 73, 74, 82, 83, 84, 85, 86] → setM (imD d1 r) (mW d (d 7 4)) as sk c = d1 c := fun c hc => by
    simp only [List.mem_cons, List.not_mem_nil, or_false, not_or] at hc
    rw [sM_out (by simp only [List.mem_cons, List.not_mem_nil, or_false, not_or]; omega)]
    exact gI c (by simp only [List.mem_cons, List.not_mem_nil, or_false, not_or]; omega)
  have e52 : imD d1 r 52 = upd (upd (upd (upd (d 52) 4 0) 51 1) 52 (d 52 37)) 53 (d 52 38) := by
    unfold imD
    rw [dr_n _ _ (by decide), dr_n _ _ (by decide), dr_n _ _ (by decide), dr_n _ _ (by decide), dr_n _ _ (by decide), ds_s, ds_s, ds_s, ds_s, hc 52 (by decide) (by decide)]
  have s82 : setM (imD d1 r) (mW d (d 7 4)) as sk 82 = r := by
    rw [sM_out (by decide)]; unfold imD
    rw [dr_n _ _ (by decide), dr_n _ _ (by decide), dr_n _ _ (by decide), dr_n _ _ (by decide), dr_s]
  have s83 : setM (imD d1 r) (mW d (d 7 4)) as sk 83 = cpR (d1 72) (d1 83) 1760 := by
    rw [sM_out (by decide)]; unfold imD
    rw [dr_n _ _ (by decide), dr_n _ _ (by decide), dr_n _ _ (by decide), dr_s]
  have s84 : setM (imD d1 r) (mW d (d 7 4)) as sk 84 = cpR (d1 76) (d1 84) 8 := by
    rw [sM_out (by decide)]; unfold imD
    rw [dr_n _ _ (by decide), dr_n _ _ (by decide), dr_s]
  have s85 : setM (imD d1 r) (mW d (d 7 4)) as sk 85 = cpR (d1 77) (d1 85) 8 := by
    rw [sM_out (by decide)]; unfold imD
    rw [dr_n _ _ (by decide), dr_s]
  have s86 : setM (imD d1 r) (mW d (d 7 4)) as sk 86 = cpR (d1 65) (d1 86) 3 := by
    rw [sM_out (by decide)]; unfold imD
    rw [dr_s]
  have sl : ∀ k, (k ≠ 33 ∧ k ≠ 34 ∧ k ≠ 35 ∧ k ≠ 36 ∧ k ≠ 41) → setM (imD d1 r) (mW d (d 7 4)) as sk 52 k = upd (upd (upd (upd (d 52) 4 0) 51 1) 52 (d 52 37)) 53 (d 52 38) k := fun k hk => by rw [sM_slot hk, e52]
  obtain ⟨m1, m2, m3, m4, m5, m6, m7, m8⟩ := hm
  have g7 : setM (imD d1 r) (mW d (d 7 4)) as sk 7 = d 7 := by rw [g 7 (by decide), hf 7 (by decide)]
  have g8 : setM (imD d1 r) (mW d (d 7 4)) as sk 8 = d 8 := by rw [g 8 (by decide), hf 8 (by decide)]
  have hk := rw_keep (h := fun _ => 0) (s := 0) hr he ho
  obtain ⟨r1, r2, r3, r4, r5, r6⟩ := hr
  have p8 := pN8 (d 7)
  refine ⟨rfl, ⟨u, S, A, F, h.img (fun c hc2 => ?_) ?_ (sM_3336 (by rw [e52]; exact ⟨rfl, rfl⟩)) ?_ ?_ ?_⟩, by rw [g 87 (by decide)]⟩
  · by_cases q : c = 66 ∨ c = 68 ∨ c = 69 ∨ c = 70 ∨ c = 71
    · exact sM_row q
    · simp only [List.mem_cons, List.not_mem_nil, or_false, not_or] at hc2
      rw [g c (by simp only [List.mem_cons, List.not_mem_nil, or_false, not_or]; omega)]
      exact hf c (by simp only [List.mem_cons, List.not_mem_nil, or_false, not_or]; omega)
  · obtain ⟨t1, t2, t3, t4, t5⟩ := h.2.2.2.1
    refine ⟨t1, ?_, ?_, ?_, ?_⟩
    · rw [g 0 (by decide), h0, upd_other _ _ (by decide)]; exact t2
    · rw [sl 17 (by decide)]; exact t3
    · rw [g 67 (by decide), g 1 (by decide), hf 67 (by decide), hf 1 (by decide)]; exact t4
    · rw [g 0 (by decide), h0, upd_other _ _ (by decide), sl 26 (by decide)]; exact t5
  · rw [g 45 (by decide), hf 45 (by decide)]; exact h.1.2.2.2.1.1
  · rw [g 46 (by decide), hf 46 (by decide)]; exact h.1.2.2.2.1.2
  · refine Or.inr ⟨?_, ?_, S, A, ⟨h.1.2.2.2.2.1.1, hA, ?_, ?_, ?_, ?_⟩, fun i hi => ?_, fun k hk2 => ?_, fun i hi => ?_, ⟨⟨?_, ?_, ?_, ?_, ?_, ?_, ?_⟩, fun c hc2 => ?_, fun p hp => ?_⟩, ?_⟩
    · rw [g 0 (by decide), h0, upd_same]
    · rw [sl 51 (by decide)]; rfl
    · rw [g 14 (by decide), m1]; exact h.1.2.2.2.2.1.2.1
    · rw [g 14 (by decide), m2]; exact h.1.2.2.2.2.2.2
    · rw [sl 52 (by decide)]; exact h.2.2.1.1
    · rw [sl 53 (by decide)]; exact h.2.2.1.2.1
    · have hS : S ≤ 8 := h.1.2.2.2.2.1.1
      rw [g 15 (by decide), g 16 (by decide), s84, s85, (m3 i (by omega)).1, (m3 i (by omega)).2, cpR_lt (by omega), cpR_lt (by omega), hc 76 (by decide) (by decide), hc 77 (by decide) (by decide)]
      exact ⟨(h.2.2.1.2.2.1 i hi).2, (h.2.2.1.2.2.1 i hi).1, h.1.2.2.2.2.1.2.2 i hi⟩
    · rw [g7, g 17 (by decide), s83]
      refine rwJ_congr (h.2.2.1.2.2.2.1 k hk2) p8 (fun i hi => m4 _ (by omega)) (fun i hi => ?_)
      rw [cpR_lt (by omega), hc 72 (by decide) (by decide)]
    · rw [g 18 (by decide), s86, m5 i hi, cpR_lt hi, hc 65 (by decide) (by decide)]
      exact h.2.2.1.2.2.2.2 i hi
    · rw [g 19 (by decide), g7]; exact m6 0 (by decide)
    · rw [g 19 (by decide), g7]; exact m6 3 (by decide)
    · rw [g 19 (by decide), g7]; exact m6 4 (by decide)
    · rw [g 19 (by decide), s82, m6 1 (by decide)]; exact (he.1 1 (by decide)).trans r2.symm
    · rw [g 19 (by decide), s82, m6 2 (by decide)]; exact (he.1 2 (by decide)).trans r1.symm
    · rw [g 19 (by decide), s82, m6 5 (by decide)]; exact (he.1 5 (by decide)).trans r3.symm
    · rw [g 19 (by decide), s82, m6 6 (by decide)]; exact (he.1 6 (by decide)).trans r4.symm
    · have x := r5 c hc2
      rw [Nat.zero_add, Nat.zero_add] at x
      rw [g 23 (by decide), g 24 (by decide), s82, (m8 c hc2).1, (m8 c hc2).2, x.1, x.2]
      exact he.2.2 c hc2
    · rw [g7] at hp
      have x := r6 p (by omega)
      rw [Nat.zero_add, Nat.zero_add] at x
      rw [g 20 (by decide), g 21 (by decide), g 22 (by decide), g8, s82, (m7 p (by omega)).1, (m7 p (by omega)).2.1, (m7 p (by omega)).2.2, x.1, x.2]
      exact ⟨rfl, (he.2.1 p hp).2⟩
    · rw [g7, s82, jP h, ← f0_eq h (k := 3) (by decide)]; exact hk.2
theorem R_restore (hl : l.stackTraces = false) (h : JC u S A F d) {z : Int32} (hz0 : z = d 0 14) (hr : (d 0 14 = 0 ∧ d1 = d) ∨ (d 0 14 = 1 ∧ fr [2, 3, 4, 5, 6, 7, 8, 9, 10, 11, 12] d d1 ∧ cpM 2 7 14 19 d d1)) : CM l mX11_restore (n + 20) 0 [.ref 52] d1 (PD z d1) NX := by
  have hc : ∀ c, 52 ≤ c → c ≠ 87 → d1 c = d c := fun c hc _ => by
    rcases hr with ⟨-, rfl⟩ | ⟨-, f, -⟩
    · rfl
    · exact f c (by simp only [List.mem_cons, List.not_mem_nil, or_false, not_or]; omega)
  have qq := q_restore (n := n) (d := d1) (a := mW d1 (d 7 4)) (as := d1 73) (sk := d1 74) hl
  rw [setM_id, mW_same hc] at qq
  refine qq.mono (fun v d2 hz => ?_) (fun _ _ h => h.elim)
  have hi := h.2.2.2.2
  rcases hz with ⟨z1, z2, rfl⟩ | ⟨z1, z2, rfl⟩
  · rw [hc 52 (by decide) (by decide)] at z1
    rcases hi with ⟨i1, i2⟩ | ⟨i1, i2, -⟩
    · rcases hr with ⟨r1, rfl⟩ | ⟨r1, -⟩
      · exact ⟨by rw [z2, hz0, r1], ⟨u, S, A, F, code_keep h⟩, by rw [sM_87, ds_n _ _ _ (by decide)]⟩
      · rw [i1] at r1; exact absurd r1 (by decide)
    · rw [z1] at i2; exact absurd i2 (by decide)
  · rw [hc 52 (by decide) (by decide)] at z1
    rcases hi with ⟨i1, i2⟩ | ⟨i1, i2, S', A', ⟨j1, j2, j3, j4, j5, j6⟩, j7, j8, j9, ⟨⟨k0, k3, k4, k1, k2, k5, k6⟩, kc, kp⟩, jo⟩
    · exact absurd i2 z1
    rcases hr with ⟨r1, -⟩ | ⟨r1, f, m1, m2, m3, m4, m5, m6, m7, m8⟩
    · rw [i1] at r1; exact absurd r1 (by decide)
    refine ⟨by rw [z2, hz0, r1], ⟨u, S', A', F, ?_⟩, ?_⟩
    rotate_left
    · rw [sM_87]; unfold rsD
      rw [dr_n _ _ (by decide), dr_n _ _ (by decide), dr_n _ _ (by decide), dr_n _ _ (by decide), ds_n _ _ _ (by decide), ds_n _ _ _ (by decide), ds_n _ _ _ (by decide)]
    rw [hc 82 (by decide) (by decide)]
    generalize d1 73 = as
    generalize d1 74 = sk
    have he := h.2.1.1
    have ho := h.2.1.2.1
    have p8 := pN8 (d 7)
    have s0 : d 7 0 = nI (pNf (d 7)) := h.1.2.2.1.1
    have xo : okA (unA (mW d (d 7 4)) (d 82) 0 12 8) := row_ok jo (by rw [f0_eq h (by decide)]; exact s0) (f0_eq h (by decide))
    have gR : ∀ c, c ∉ [52, 65, 72, 76, 77] → rsD d1 c = d1 c := fun c hc => by
      simp only [List.mem_cons, List.not_mem_nil, or_false, not_or] at hc
      unfold rsD
      rw [dr_n _ _ (by omega), dr_n _ _ (by omega), dr_n _ _ (by omega), dr_n _ _ (by omega), ds_n _ _ _ (by omega), ds_n _ _ _ (by omega), ds_n _ _ _ (by omega)]
    have xe : eqA 7 (nowW d1) (unA (mW d (d 7 4)) (d 82) 0 12 8) := by
      refine ⟨fun k hk => ?_, fun p hp => ?_, fun c hc2 => ?_⟩
      · show d1 7 k = upd (upd (upd (upd (mF d (d 7 4)) 2 (d 82 0)) 1 (d 82 (0 + 1))) 5 (d 82 (0 + 2))) 6 (d 82 (0 + 3)) k
        rw [m6 k hk]
        match k, hk with
        | 0, _ => exact k0.trans (f0_eq h (k := 0) (by decide)).symm
        | 1, _ => exact k1
        | 2, _ => exact k2
        | 3, _ => exact k3.trans (f0_eq h (k := 3) (by decide)).symm
        | 4, _ => exact k4
        | 5, _ => exact k5
        | 6, _ => exact k6
      · have hp : p < pNf (d1 7) := hp
        have ep : pNf (d1 7) = pNf (d 7) := by unfold pNf; rw [m6 0 (by decide), k0]
        rw [ep] at hp
        obtain ⟨x1, x2, x3⟩ := kp p hp
        obtain ⟨y1, y2, y3⟩ := m7 p (by omega)
        refine ⟨?_, ?_, ?_⟩
        · show d1 8 p = d 66 p
          rw [y1, x1]; exact (he.2.1 p hp).1
        · show d1 9 p = cpy0 (fun i => d 82 (0 + (28 + i))) (d 70) 8 p
          unfold cpy0
          rw [y2, x2, if_pos (by omega)]; exact congrArg (d 82) (Nat.zero_add _).symm
        · show d1 10 p = cpy0 (fun i => d 82 (0 + (36 + i))) (d 71) 8 p
          unfold cpy0
          rw [y3, x3, if_pos (by omega)]; exact congrArg (d 82) (Nat.zero_add _).symm
      · obtain ⟨x1, x2⟩ := kc c hc2
        obtain ⟨y1, y2⟩ := m8 c hc2
        refine ⟨?_, ?_⟩
        · show d1 11 c = cpy0 (fun i => d 82 (0 + (4 + i))) (d 68) 12 c
          unfold cpy0
          rw [y1, x1, if_pos hc2]; exact congrArg (d 82) (Nat.zero_add _).symm
        · show d1 12 c = cpy0 (fun i => d 82 (0 + (16 + i))) (d 69) 12 c
          unfold cpy0
          rw [y2, x2, if_pos hc2]; exact congrArg (d 82) (Nat.zero_add _).symm
    have sa : aF (unA (mW d (d 7 4)) (d 82) 0 12 8) 0 = d 56 0 ∧ aF (unA (mW d (d 7 4)) (d 82) 0 12 8) 3 = d 56 2 := ⟨rfl, rfl⟩
    generalize unA (mW d (d 7 4)) (d 82) 0 12 8 = a'' at xe xo sa ⊢
    have g : ∀ c, c ∉ [52, 65, 66, 68, 69, 70, 71, 72, 73, 74, 76, 77] → setM (rsD d1) a'' as sk c = d1 c := fun c hc => by
      simp only [List.mem_cons, List.not_mem_nil, or_false, not_or] at hc
      rw [sM_out (by simp only [List.mem_cons, List.not_mem_nil, or_false, not_or]; omega)]
      exact gR c (by simp only [List.mem_cons, List.not_mem_nil, or_false, not_or]; omega)
    have e52 : rsD d1 52 = upd (upd (upd (d 52) 4 0) 37 (d 52 52)) 38 (d 52 53) := by
      unfold rsD
      rw [dr_n _ _ (by decide), dr_n _ _ (by decide), dr_n _ _ (by decide), dr_n _ _ (by decide), ds_s, ds_s, ds_s, hc 52 (by decide) (by decide)]
    have sl : ∀ k, (k ≠ 33 ∧ k ≠ 34 ∧ k ≠ 35 ∧ k ≠ 36 ∧ k ≠ 41) → setM (rsD d1) a'' as sk 52 k = upd (upd (upd (d 52) 4 0) 37 (d 52 52)) 38 (d 52 53) k := fun k hk => by rw [sM_slot hk, e52]
    have e0 : rsD d1 56 0 = aF a'' 0 := by rw [gR 56 (by decide), hc 56 (by decide) (by decide)]; exact sa.1.symm
    have e3 : rsD d1 56 2 = aF a'' 3 := by rw [gR 56 (by decide), hc 56 (by decide) (by decide)]; exact sa.2.symm
    have b0 : d1 7 0 = d 7 0 := (m6 0 (by decide)).trans k0
    have b3 : d1 7 3 = d 7 3 := (m6 3 (by decide)).trans k3
    have b4 : d1 7 4 = d 7 4 := (m6 4 (by decide)).trans k4
    have g7 : setM (rsD d1) a'' as sk 7 = d1 7 := g 7 (by decide)
    have eP : pNf (d1 7) = pNf (d 7) := by unfold pNf; rw [b0]
    have gN : nowW (setM (rsD d1) a'' as sk) = nowW d1 := by
      show (setM (rsD d1) a'' as sk 7, setM (rsD d1) a'' as sk 8, setM (rsD d1) a'' as sk 9, setM (rsD d1) a'' as sk 10, setM (rsD d1) a'' as sk 11, setM (rsD d1) a'' as sk 12) = (d1 7, d1 8, d1 9, d1 10, d1 11, d1 12)
      rw [g 7 (by decide), g 8 (by decide), g 9 (by decide), g 10 (by decide), g 11 (by decide), g 12 (by decide)]
    have s65 : setM (rsD d1) a'' as sk 65 = cpR (d1 86) (d1 65) 3 := by
      rw [sM_out (by decide)]; unfold rsD; rw [dr_s]
    have s77 : setM (rsD d1) a'' as sk 77 = cpR (d1 85) (d1 77) 8 := by
      rw [sM_out (by decide)]; unfold rsD; rw [dr_n _ _ (by decide), dr_s]
    have s76 : setM (rsD d1) a'' as sk 76 = cpR (d1 84) (d1 76) 8 := by
      rw [sM_out (by decide)]; unfold rsD; rw [dr_n _ _ (by decide), dr_n _ _ (by decide), dr_s]
    have s72 : setM (rsD d1) a'' as sk 72 = cpR (d1 83) (d1 72) 1760 := by
      rw [sM_out (by decide)]; unfold rsD; rw [dr_n _ _ (by decide), dr_n _ _ (by decide), dr_n _ _ (by decide), dr_s]
    have w3 := h.2.1.2.2.1
    have w4 := h.2.1.2.2.2
    have f0 : mF (setM (rsD d1) a'' as sk) (d1 7 4) 0 = mF d (d 7 4) 0 := by show setM (rsD d1) a'' as sk 56 0 = d 56 0; rw [g 56 (by decide), hc 56 (by decide) (by decide)]
    have f3 : mF (setM (rsD d1) a'' as sk) (d1 7 4) 3 = mF d (d 7 4) 3 := by show setM (rsD d1) a'' as sk 56 2 = d 56 2; rw [g 56 (by decide), hc 56 (by decide) (by decide)]
    have f4 : mF (setM (rsD d1) a'' as sk) (d1 7 4) 4 = mF d (d 7 4) 4 := b4
    have fP : pNf (mF (setM (rsD d1) a'' as sk) (d1 7 4)) = pNf (mF d (d 7 4)) := by unfold pNf; rw [f0]
    obtain ⟨t1, t2, t3, t4, t5⟩ := h.2.2.2.1
    refine ⟨⟨?_, h.1.2.1, by rw [gN]; exact sz_congr xo.1 (xe.symm (by decide)) (by decide), ⟨?_, ?_⟩, ⟨j1, ?_, fun i hi => ?_⟩, j2, ?_⟩, ⟨?_, ?_, ?_, ?_⟩, ⟨?_, ?_, fun i hi => ?_, fun k hk => ?_, fun i hi => ?_⟩, ⟨t1, ?_, ?_, ?_, ?_⟩, ?_⟩
    · rw [g 33 (by decide), g 34 (by decide), f 33 (by decide), f 34 (by decide)]; exact h.1.1
    · rw [g 45 (by decide), f 45 (by decide)]; exact h.1.2.2.2.1.1
    · rw [g 46 (by decide), f 46 (by decide)]; exact h.1.2.2.2.1.2
    · rw [g 2 (by decide), m1]; exact j3
    · rw [g 4 (by decide), (m3 i (by omega)).2]; exact (j7 i hi).2.2
    · rw [g 2 (by decide), m2]; exact j4
    · rw [gN, g7]; exact sM_eq xe e0 e3
    · exact sM_ok xo e0 e3
    · rw [g7]
      unfold mK
      rw [g 56 (by decide), g 57 (by decide), g 63 (by decide), g 64 (by decide), hc 56 (by decide) (by decide), hc 57 (by decide) (by decide), hc 63 (by decide) (by decide), hc 64 (by decide) (by decide), f0, f3, f4, fP]
      exact w3
    · rw [g7, eP, g 57 (by decide), hc 57 (by decide) (by decide)]; exact w4
    · rw [sl 37 (by decide)]; exact j5
    · rw [sl 38 (by decide)]; exact j6
    · rw [g 4 (by decide), g 3 (by decide), s76, s77, (m3 i (by omega)).1, (m3 i (by omega)).2, cpR_lt (by omega), cpR_lt (by omega), hc 84 (by decide) (by decide), hc 85 (by decide) (by decide)]
      exact ⟨(j7 i hi).2.1, (j7 i hi).1⟩
    · rw [g7, eP, b3, g 5 (by decide), s72]
      refine rwJ_congr (j8 k hk) p8 (fun i hi => m4 _ (by omega)) (fun i hi => ?_)
      rw [cpR_lt (by omega), hc 83 (by decide) (by decide)]
    · rw [g 6 (by decide), s65, m5 i hi, cpR_lt hi, hc 86 (by decide) (by decide)]
      exact j9 i hi
    · rw [g 0 (by decide), f 0 (by decide)]; exact t2
    · rw [sl 17 (by decide)]; exact t3
    · rw [g 67 (by decide), g 1 (by decide), hc 67 (by decide) (by decide), f 1 (by decide)]; exact t4
    · rw [g 0 (by decide), f 0 (by decide), sl 26 (by decide)]; exact t5
    · have hi := h.2.2.2.2
      unfold imJ imW at hi ⊢
      rw [g 0 (by decide), sl 51 (by decide), sl 52 (by decide), sl 53 (by decide), g7, eP, b0, b3, b4, g 8 (by decide), g 14 (by decide), g 15 (by decide), g 16 (by decide), g 17 (by decide), g 18 (by decide), g 19 (by decide), g 20 (by decide), g 21 (by decide), g 22 (by decide), g 23 (by decide), g 24 (by decide), g 82 (by decide), g 83 (by decide), g 84 (by decide), g 85 (by decide), g 86 (by decide)]
      rw [f 0 (by decide), f 14 (by decide), f 15 (by decide), f 16 (by decide), f 17 (by decide), f 18 (by decide), f 19 (by decide), f 20 (by decide), f 21 (by decide), f 22 (by decide), f 23 (by decide), f 24 (by decide), f 82 (by decide), f 83 (by decide), f 84 (by decide), f 85 (by decide), f 86 (by decide)]
      rcases hi with hi | ⟨x1, x2, y1, y2, x3, x4, x5, x6, ⟨x7, x8, x9⟩, x10⟩
      · exact Or.inl hi
      · exact Or.inr ⟨x1, x2, y1, y2, x3, x4, x5, x6, ⟨x7, x8, fun p hp => ⟨by rw [(m7 p (by omega)).1], (x9 p hp).2⟩⟩, x10⟩
theorem R_feed (hl : l.stackTraces = false) (h : JC u S A F d) {x b c e f z : Int32} (hf : fdQ2 F x b c e f d (some (.int z)) d1) : CM l mX11_feed (n + 20) 0 [.ref 52, .int x, .int b, .int c, .int e, .int f] d1 (PD z d1) NX := by
  have hc : ∀ c, 52 ≤ c → c ≠ 87 → d1 c = d c := fun c hc _ => by
    rcases hf with ⟨-, -, rfl⟩ | ⟨-, -, g, -⟩
    · rfl
    · exact g c (by simp only [List.mem_cons, List.not_mem_nil, or_false, not_or]; omega)
  obtain ⟨t1, t2, t3, t4, t5⟩ := h.2.2.2.1
  have qq := q_feed (n := n) (d := d1) (a := mW d1 (d 7 4)) (as := d1 73) (sk := d1 74) (F := F) (x := x) (b := b) (c := c) (e := e) (f := f) hl t1 (by rw [hc 52 (by decide) (by decide)]; exact t3)
  rw [setM_id, mW_same hc] at qq
  refine qq.mono (fun v d2 hz => ?_) (fun _ _ h => h.elim)
  rcases hz with ⟨z1, z2, rfl⟩ | ⟨z1, z2, rfl⟩
  · rcases hf with ⟨w1, w2, rfl⟩ | ⟨w1, -⟩
    · exact ⟨by rw [z2]; exact w2.symm, ⟨u, S, A, F, code_keep h⟩, by rw [sM_87, ds_n _ _ _ (by decide)]⟩
    · omega
  · rcases hf with ⟨w1, -⟩ | ⟨w1, w2, g, w3, w4, w5⟩
    · omega
    generalize d1 73 = as
    generalize d1 74 = sk
    have gF : ∀ k, k ∉ [52, 67] → fdD F (pick5 x b c e f) d1 20 k = d1 k := fun k hc => by
      simp only [List.mem_cons, List.not_mem_nil, or_false, not_or] at hc
      unfold fdD
      rw [ds_n _ _ _ hc.1, dr_n _ _ hc.2, ds_n _ _ _ hc.1]
    have gs : ∀ k, k ∉ [52, 66, 67, 68, 69, 70, 71, 73, 74] → setM (fdD F (pick5 x b c e f) d1 20) (mW d (d 7 4)) as sk k = d1 k := fun k hc => by
      simp only [List.mem_cons, List.not_mem_nil, or_false, not_or] at hc
      rw [sM_out (by simp only [List.mem_cons, List.not_mem_nil, or_false, not_or]; omega)]
      exact gF k (by simp only [List.mem_cons, List.not_mem_nil, or_false, not_or]; omega)
    have e52 : fdD F (pick5 x b c e f) d1 20 52 = upd (upd (d 52) 4 0) 17 (nI (F + 20)) := by
      unfold fdD
      rw [ds_s, dr_n _ _ (by decide), ds_s, hc 52 (by decide) (by decide)]
    have sl : ∀ k, (k ≠ 33 ∧ k ≠ 34 ∧ k ≠ 35 ∧ k ≠ 36 ∧ k ≠ 41) → setM (fdD F (pick5 x b c e f) d1 20) (mW d (d 7 4)) as sk 52 k = upd (upd (d 52) 4 0) 17 (nI (F + 20)) k := fun k hk => by rw [sM_slot hk, e52]
    have s67 : setM (fdD F (pick5 x b c e f) d1 20) (mW d (d 7 4)) as sk 67 = tpJ F (pick5 x b c e f) (d 67) 20 := by
      rw [sM_out (by decide)]
      unfold fdD
      rw [ds_n _ _ _ (by decide), dr_s, hc 67 (by decide) (by decide)]
    refine ⟨by rw [z2]; exact w2.symm, ⟨u, S, A, F + 20, h.img (fun k hk => ?_) ⟨w1, ?_, ?_, fun i => ?_, ?_⟩ (sM_3336 (by rw [e52]; exact ⟨rfl, rfl⟩)) ?_ ?_ ?_⟩, by rw [gs 87 (by decide)]⟩
    · by_cases q : k = 66 ∨ k = 68 ∨ k = 69 ∨ k = 70 ∨ k = 71
      · exact sM_row q
      · simp only [List.mem_cons, List.not_mem_nil, or_false, not_or] at hk
        rw [gs k (by simp only [List.mem_cons, List.not_mem_nil, or_false, not_or]; omega)]
        exact g k (by simp only [List.mem_cons, List.not_mem_nil, or_false, not_or]; omega)
    · rw [gs 0 (by decide), w3, upd_same]
    · rw [sl 17 (by decide), upd_same]
    · rw [s67, gs 1 (by decide)]
      unfold tpJ
      by_cases q : F ≤ i ∧ i < F + 20
      · rw [if_pos q]
        have := w5 ((i - F) / 4) (by omega) ((i - F) % 4) (by omega)
        rw [show F + 4 * ((i - F) / 4) + (i - F) % 4 = i by omega] at this
        exact this.symm
      · rw [if_neg q, w4 i (by omega)]; exact t4 i
    · rw [gs 0 (by decide), w3, upd_other _ _ (by decide), sl 26 (by decide)]; exact t5
    · rw [gs 45 (by decide), g 45 (by decide)]; exact h.1.2.2.2.1.1
    · rw [gs 46 (by decide), g 46 (by decide)]; exact h.1.2.2.2.1.2
    · have hi := h.2.2.2.2
      unfold imJ imW at hi ⊢
      rw [gs 0 (by decide), w3, upd_other _ _ (by decide), sl 51 (by decide), sl 52 (by decide), sl 53 (by decide), gs 7 (by decide), gs 8 (by decide), gs 14 (by decide), gs 15 (by decide), gs 16 (by decide), gs 17 (by decide), gs 18 (by decide), gs 19 (by decide), gs 20 (by decide), gs 21 (by decide), gs 22 (by decide), gs 23 (by decide), gs 24 (by decide), gs 82 (by decide), gs 83 (by decide), gs 84 (by decide), gs 85 (by decide), gs 86 (by decide)]
      rw [g 7 (by decide), g 8 (by decide), g 14 (by decide), g 15 (by decide), g 16 (by decide), g 17 (by decide), g 18 (by decide), g 19 (by decide), g 20 (by decide), g 21 (by decide), g 22 (by decide), g 23 (by decide), g 24 (by decide), g 82 (by decide), g 83 (by decide), g 84 (by decide), g 85 (by decide), g 86 (by decide)]
      exact hi
end Own4
