/-! BOTH SIDES TOGETHER: sights, images -/
section Own3
variable {l : Launch} {n : Nat} {a b : AW} {u : RU} {S A F : Nat} {d d1 d2 : DS}
theorem JC.sight {S2 : Nat} (h : JC u S A F d) (hfr : ∀ c, c ∉ 2 :: 3 :: 4 :: 76 :: 77 :: SCJ → d2 c = d c) (h24 : d2 2 4 = d 2 4) (hS2 : S2 ≤ 8) (h23 : d2 2 3 = nI S2) (h38 : d2 52 38 = nI S2) (h52 : ∀ k, slJ k → k ≠ 38 → d2 52 k = d 52 k) (h45 : d2 45 0 = 0) (h46 : d2 46 0 = 0) (hs : ∀ i, i < S2 → (∃ y, y ≤ 20 ∧ d2 4 i = nI y) ∧ d2 4 i = d2 77 i ∧ d2 3 i = d2 76 i) : JC u S2 A F d2 := by
  obtain ⟨⟨c1, c2, c3, c4, c5, c6⟩, ⟨w1, w2, w3, w4⟩, ⟨m1, m2, m3, m4, m5⟩, ⟨t1, t2, t3, t4, t5⟩, hi⟩ := h
  have e : ∀ c, c ∉ 2 :: 3 :: 4 :: 76 :: 77 :: SCJ → d2 c = d c := hfr
  have e7 := e 7 (by decide)
  have eN : nowW d2 = nowW d := by
    show (d2 7, d2 8, d2 9, d2 10, d2 11, d2 12) = (d 7, d 8, d 9, d 10, d 11, d 12)
    rw [e 7 (by decide), e 8 (by decide), e 9 (by decide), e 10 (by decide), e 11 (by decide), e 12 (by decide)]
  have s : ∀ k, (k = 17 ∨ k = 26 ∨ (33 ≤ k ∧ k ≤ 37) ∨ (51 ≤ k ∧ k ≤ 53)) → d2 52 k = d 52 k := fun k hk => h52 k (by unfold slJ; omega) (by omega)
  have eF : ∀ bg k, k < 7 → mF d2 bg k = mF d bg k := by
    intro bg k hk
    unfold mF
    rw [e 56 (by decide), s 34 (by decide), s 33 (by decide), s 35 (by decide), s 36 (by decide)]
    match k, hk with
    | 0, _ => rfl
    | 1, _ => rfl
    | 2, _ => rfl
    | 3, _ => rfl
    | 4, _ => rfl
    | 5, _ => rfl
    | 6, _ => rfl
  have eP : pNf (mF d2 (d 7 4)) = pNf (mF d (d 7 4)) := by unfold pNf; rw [eF _ 0 (by decide)]
  refine ⟨⟨?_, c2, by rw [eN]; exact c3, ⟨h45, h46⟩, ⟨hS2, h23, fun i hi => (hs i hi).1⟩, c6.1, by rw [h24]; exact c6.2⟩, ⟨?_, ?_, ?_, ?_⟩, ⟨?_, h38, fun i hi => (hs i hi).2, ?_, ?_⟩, ⟨t1, ?_, ?_, ?_, ?_⟩, ?_⟩
  · rw [e 33 (by decide), e 34 (by decide)]; exact c1
  · rw [eN, e7]
    refine w1.trans ⟨fun k hk => (eF _ k hk).symm, fun p hp => ?_, fun c hc => ?_⟩ (by decide)
    · show d 66 p = d2 66 p ∧ d 70 p = d2 70 p ∧ d 71 p = d2 71 p
      rw [e 66 (by decide), e 70 (by decide), e 71 (by decide)]; exact ⟨rfl, rfl, rfl⟩
    · show d 68 c = d2 68 c ∧ d 69 c = d2 69 c
      rw [e 68 (by decide), e 69 (by decide)]; exact ⟨rfl, rfl⟩
  · rw [e7]
    refine ok_congr w2 (fun k hk _ _ => eF _ k hk) (fun p hp => ?_) (fun c hc => ?_)
    · show d2 70 p = d 70 p ∧ d2 71 p = d 71 p
      rw [e 70 (by decide), e 71 (by decide)]; exact ⟨rfl, rfl⟩
    · show d2 68 c = d 68 c ∧ d2 69 c = d 69 c
      rw [e 68 (by decide), e 69 (by decide)]; exact ⟨rfl, rfl⟩
  · rw [e7]
    unfold mK
    rw [e 56 (by decide), e 57 (by decide), e 63 (by decide), e 64 (by decide), eF _ 0 (by decide), eF _ 3 (by decide), eF _ 4 (by decide), eP]
    exact w3
  · rw [e7, e 57 (by decide)]; exact w4
  · rw [s 37 (by decide)]; exact m1
  · rw [e7, e 5 (by decide), e 72 (by decide)]; exact m4
  · rw [e 6 (by decide), e 65 (by decide)]; exact m5
  · rw [e 0 (by decide)]; exact t2
  · rw [s 17 (by decide)]; exact t3
  · rw [e 67 (by decide), e 1 (by decide)]; exact t4
  · rw [e 0 (by decide), s 26 (by decide)]; exact t5
  · unfold imJ imW at hi ⊢
    rw [e 0 (by decide), s 51 (by decide), s 52 (by decide), s 53 (by decide), e7, e 8 (by decide), e 14 (by decide), e 15 (by decide), e 16 (by decide), e 17 (by decide), e 18 (by decide), e 19 (by decide), e 20 (by decide), e 21 (by decide), e 22 (by decide), e 23 (by decide), e 24 (by decide), e 82 (by decide), e 83 (by decide), e 84 (by decide), e 85 (by decide), e 86 (by decide)]
    exact hi
def HS (S : Nat) (p y : Int32) (d : DS) (k z : Int32) (d1 : DS) : Prop := (isP (d 7 0) p ∧ k = 0 ∧ ((seR S y ∧ z = -1 ∧ rfO 2 d d1) ∨ (¬ seR S y ∧ z = nI (S + 1) ∧ fr [2, 3, 4, 87] d d1 ∧ d1 2 = upd (d 2) 3 (nI (S + 1)) ∧ d1 3 = upd (d 3) S p ∧ d1 4 = upd (d 4) S y))) ∨ (¬ isP (d 7 0) p ∧ k = 1 ∧ d1 = d)
theorem R_see (hl : l.stackTraces = false) (h : JC u S A F d) {p y k z : Int32} (hA : HS S p y d k z d1) : CM l mX11_see (n + 20) 0 [.ref 52, .int p, .int y] d1 (PQ k z d1) NX := by
  have hc : ∀ c, 52 ≤ c → c ≠ 87 → d1 c = d c := by
    intro c hc h87
    rcases hA with ⟨-, -, ⟨-, -, f, -⟩ | ⟨-, -, f, -⟩⟩ | ⟨-, -, rfl⟩
    · exact f c (by simp only [List.mem_cons, List.not_mem_nil, or_false, not_or]; omega)
    · exact f c (by simp only [List.mem_cons, List.not_mem_nil, or_false, not_or]; omega)
    · rfl
  have hS8 : S ≤ 8 := h.1.2.2.2.2.1.1
  have qq := q_see (n := n) (d := d1) (a := mW d1 (d 7 4)) (u := u) (S := S) (as := d1 73) (sk := d1 74) (p := p) (y := y) hl (by rw [mW_same hc]; exact mK_same hc h.2.1.2.2.1) (by rw [mW_same hc]; exact h.2.1.2.1) hS8 (by rw [hc 52 (by decide) (by decide)]; exact h.2.2.1.2.1)
  rw [setM_id, mW_same hc] at qq
  have hR : (S = 8 ∨ ¬ (0 ≤ y ∧ y ≤ 20)) ↔ seR S y := by
    unfold seR
    constructor
    · rintro (x | x)
      · exact Or.inl (by omega)
      · by_cases q : 0 ≤ y
        · exact Or.inr (Or.inr (Int32.not_le.mp (fun q2 => x ⟨q, q2⟩)))
        · exact Or.inr (Or.inl (Int32.not_le.mp q))
    · rintro (x | x | x)
      · exact Or.inl (by omega)
      · exact Or.inr (fun q => absurd q.1 (Int32.not_le.mpr x))
      · exact Or.inr (fun q => absurd q.2 (Int32.not_le.mpr x))
  refine qq.mono (fun v d2 hz => ?_) (fun _ _ h => h.elim)
  obtain ⟨x, as, sk, rfl, hz⟩ := hz
  rw [f0_eq h (by decide), hR] at hz
  rcases hz with ⟨z1, rfl⟩ | ⟨z1, z2, z3, rfl⟩ | ⟨z1, z2, z3, rfl⟩
  · rcases hA with ⟨w1, -⟩ | ⟨w1, rfl, rfl⟩
    · exact absurd w1 z1
    · refine ⟨x, rfl, ⟨u, S, A, F, code_keep h⟩, ?_, fun w => absurd w (by decide), ?_⟩
      · rw [sM_4, ds_s, upd_same]
      · rw [sM_87, ds_n _ _ _ (by decide)]
  · rcases hA with ⟨w1, rfl, ⟨w2, w3, w4⟩ | ⟨w2, w3, w4⟩⟩ | ⟨w1, rfl, rfl⟩
    · refine ⟨x, rfl, ⟨u, S, A, F, refuse_J (by decide) h w4⟩, ?_, fun _ => by rw [w3, z3], ?_⟩
      · rw [sM_4, ds_n _ _ _ (by decide), ds_s, upd_same]
      · rw [sM_87, ds_n _ _ _ (by decide), ds_n _ _ _ (by decide)]
    · exact absurd z2 w2
    · exact absurd z1 w1
  · rcases hA with ⟨w1, rfl, ⟨w2, w3, w4⟩ | ⟨w2, w3, w4, w5, w6, w7⟩⟩ | ⟨w1, rfl, rfl⟩
    · exact absurd w2 z2
    · have hlt : S < 8 := by
        rcases Nat.lt_or_ge S 8 with q | q
        · exact q
        · exact absurd (Or.inl q) z2
      obtain ⟨t, ht, et⟩ := nI_of2 (x := y) (n := 20) (M := 20) rfl (fun q => z2 (Or.inr (Or.inl q))) (Int32.not_lt.mp (fun q => z2 (Or.inr (Or.inr q))))
      have g : ∀ c, c ∉ [52, 66, 68, 69, 70, 71, 73, 74, 76, 77] → setM (dset (dset (dset (dset d1 52 4 0) 76 S p) 77 S y) 52 38 (nI (S + 1))) (mW d (d 7 4)) as sk c = d1 c := fun c hc => by
        simp only [List.mem_cons, List.not_mem_nil, or_false, not_or] at hc
        rw [sM_out (by simp only [List.mem_cons, List.not_mem_nil, or_false, not_or]; omega), ds_n _ _ _ (by omega), ds_n _ _ _ (by omega), ds_n _ _ _ (by omega), ds_n _ _ _ (by omega)]
      have g76 : setM (dset (dset (dset (dset d1 52 4 0) 76 S p) 77 S y) 52 38 (nI (S + 1))) (mW d (d 7 4)) as sk 76 = upd (d 76) S p := by
        rw [sM_out (by decide), ds_n _ _ _ (by decide), ds_n _ _ _ (by decide), ds_s, ds_n _ _ _ (by decide), hc 76 (by decide) (by decide)]
      have g77 : setM (dset (dset (dset (dset d1 52 4 0) 76 S p) 77 S y) 52 38 (nI (S + 1))) (mW d (d 7 4)) as sk 77 = upd (d 77) S y := by
        rw [sM_out (by decide), ds_n _ _ _ (by decide), ds_s, ds_n _ _ _ (by decide), ds_n _ _ _ (by decide), hc 77 (by decide) (by decide)]
      have gs : ∀ k, slJ k → k ≠ 38 → setM (dset (dset (dset (dset d1 52 4 0) 76 S p) 77 S y) 52 38 (nI (S + 1))) (mW d (d 7 4)) as sk 52 k = d 52 k := by
        intro k hk h38
        by_cases q : k = 33 ∨ k = 34 ∨ k = 35 ∨ k = 36
        · rw [sm_52]
          unfold mf
          rcases q with rfl | rfl | rfl | rfl
          · rw [if_pos rfl]; rfl
          · rw [if_neg (by decide), if_pos rfl]; rfl
          · rw [if_neg (by decide), if_neg (by decide), if_pos rfl]; rfl
          · rw [if_neg (by decide), if_neg (by decide), if_neg (by decide), if_pos rfl]; rfl
        · unfold slJ at hk
          rw [sM_slot (by omega), ds_s, upd_other _ _ h38, ds_n _ _ _ (by decide), ds_n _ _ _ (by decide), ds_s, upd_other _ _ (by omega), hc 52 (by decide) (by decide)]
      refine ⟨x, rfl, ⟨u, S + 1, A, F, h.sight (fun c hc2 => ?_) ?_ (by omega) ?_ ?_ gs ?_ ?_ (fun i hi => ?_)⟩, ?_, fun _ => by rw [w3, z3], ?_⟩
      · by_cases q : c = 66 ∨ c = 68 ∨ c = 69 ∨ c = 70 ∨ c = 71
        · exact sM_row q
        · simp only [List.mem_cons, List.not_mem_nil, or_false, not_or] at hc2
          rw [g c (by simp only [List.mem_cons, List.not_mem_nil, or_false, not_or]; omega)]
          exact w4 c (by simp only [List.mem_cons, List.not_mem_nil, or_false, not_or]; omega)
      · rw [g 2 (by decide), w5, upd_other _ _ (by decide)]
      · rw [g 2 (by decide), w5, upd_same]
      · rw [sM_slot (by decide), ds_s, upd_same]
      · rw [g 45 (by decide), w4 45 (by decide)]; exact h.1.2.2.2.1.1
      · rw [g 46 (by decide), w4 46 (by decide)]; exact h.1.2.2.2.1.2
      · rw [g 4 (by decide), g 3 (by decide), g76, g77, w6, w7]
        by_cases q : i = S
        · subst q; rw [upd_same, upd_same, upd_same, upd_same]; exact ⟨⟨t, ht, et⟩, rfl, rfl⟩
        · rw [upd_other _ _ q, upd_other _ _ q, upd_other _ _ q, upd_other _ _ q]
          exact ⟨h.1.2.2.2.2.1.2.2 i (by omega), h.2.2.1.2.2.1 i (by omega)⟩
      · rw [sM_4, ds_s, upd_other _ _ (by decide), ds_n _ _ _ (by decide), ds_n _ _ _ (by decide), ds_s, upd_same]
      · rw [sM_87, ds_n _ _ _ (by decide), ds_n _ _ _ (by decide), ds_n _ _ _ (by decide), ds_n _ _ _ (by decide)]
    · exact absurd z1 w1
theorem R_forget (hl : l.stackTraces = false) (h : JC u S A F d) : CM l mX11_forget (n + 20) 0 [.ref 52] (dset d 2 3 0) (fun v d2 => v = none ∧ JI d2 ∧ d2 87 = d 87) NX := by
  have hc : ∀ c, 52 ≤ c → c ≠ 87 → dset d 2 3 0 c = d c := fun c hc _ => ds_n _ _ _ (by omega)
  have qq := q_forget (n := n) (d := dset d 2 3 0) (a := mW (dset d 2 3 0) (d 7 4)) (as := dset d 2 3 0 73) (sk := dset d 2 3 0 74) hl
  rw [setM_id, mW_same hc] at qq
  refine qq.mono (fun v d2 hz => ?_) (fun _ _ h => h.elim)
  obtain ⟨rfl, rfl⟩ := hz
  generalize dset d 2 3 0 73 = as
  generalize dset d 2 3 0 74 = sk
  have g : ∀ c, c ∉ [2, 52, 66, 68, 69, 70, 71, 73, 74] → setM (dset (dset (dset d 2 3 0) 52 4 0) 52 38 0) (mW d (d 7 4)) as sk c = d c := fun c hc => by
    simp only [List.mem_cons, List.not_mem_nil, or_false, not_or] at hc
    rw [sM_out (by simp only [List.mem_cons, List.not_mem_nil, or_false, not_or]; omega), ds_n _ _ _ (by omega), ds_n _ _ _ (by omega), ds_n _ _ _ (by omega)]
  have g2 : setM (dset (dset (dset d 2 3 0) 52 4 0) 52 38 0) (mW d (d 7 4)) as sk 2 = upd (d 2) 3 0 := by
    rw [sM_out (by decide), ds_n _ _ _ (by decide), ds_n _ _ _ (by decide), ds_s]
  have gs : ∀ k, slJ k → k ≠ 38 → setM (dset (dset (dset d 2 3 0) 52 4 0) 52 38 0) (mW d (d 7 4)) as sk 52 k = d 52 k := by
    intro k hk h38
    by_cases q : k = 33 ∨ k = 34 ∨ k = 35 ∨ k = 36
    · rw [sm_52]
      unfold mf
      rcases q with rfl | rfl | rfl | rfl
      · rw [if_pos rfl]; rfl
      · rw [if_neg (by decide), if_pos rfl]; rfl
      · rw [if_neg (by decide), if_neg (by decide), if_pos rfl]; rfl
      · rw [if_neg (by decide), if_neg (by decide), if_neg (by decide), if_pos rfl]; rfl
    · unfold slJ at hk
      rw [sM_slot (by omega), ds_s, upd_other _ _ h38, ds_s, upd_other _ _ (by omega), ds_n _ _ _ (by decide)]
  refine ⟨rfl, ⟨u, 0, A, F, h.sight (fun c hc2 => ?_) ?_ (by omega) ?_ ?_ gs ?_ ?_ (fun i hi => absurd hi (by omega))⟩, by rw [g 87 (by decide)]⟩
  · by_cases q : c = 66 ∨ c = 68 ∨ c = 69 ∨ c = 70 ∨ c = 71
    · exact sM_row q
    · simp only [List.mem_cons, List.not_mem_nil, or_false, not_or] at hc2
      exact g c (by simp only [List.mem_cons, List.not_mem_nil, or_false, not_or]; omega)
  · rw [g2, upd_other _ _ (by decide)]
  · rw [g2, upd_same]; rfl
  · rw [sM_slot (by decide), ds_s, upd_same]; rfl
  · rw [g 45 (by decide)]; exact h.1.2.2.2.1.1
  · rw [g 46 (by decide)]; exact h.1.2.2.2.1.2
theorem R_fault (hl : l.stackTraces = false) (h : JC u S A F d) : CM l mX11_fault (n + 20) 0 [.ref 52] d (PD (d 0 13) d) NX := by
  have qq := q_fault (n := n) (d := d) (a := mW d (d 7 4)) (as := d 73) (sk := d 74) hl
  rw [setM_id] at qq
  refine qq.mono (fun v d2 hz => ?_) (fun _ _ h => h.elim)
  obtain ⟨rfl, rfl⟩ := hz
  refine ⟨?_, ⟨u, S, A, F, code_keep h⟩, by rw [sM_87, ds_n _ _ _ (by decide)]⟩
  rw [ds_s, upd_other _ _ (by decide), h.2.2.2.1.2.2.2.2]
end Own3
