/-! BOTH SIDES TOGETHER: acts, one by one -/
section Acts2
variable {l : Launch} {n : Nat} {a b : AW} {u : RU} {S A F : Nat} {d d1 d2 : DS}
theorem mW_same (hc : ∀ c, 52 ≤ c → c ≠ 87 → d1 c = d c) (bg : Int32) : mW d1 bg = mW d bg := by
  unfold mW mF
  rw [hc 52 (by decide) (by decide), hc 56 (by decide) (by decide), hc 66 (by decide) (by decide), hc 68 (by decide) (by decide), hc 69 (by decide) (by decide), hc 70 (by decide) (by decide), hc 71 (by decide) (by decide)]
theorem mK_same (hc : ∀ c, 52 ≤ c → c ≠ 87 → d1 c = d c) {G : Nat → Int32} (h : mK u G d) : mK u G d1 := by
  unfold mK
  rw [hc 56 (by decide) (by decide), hc 57 (by decide) (by decide), hc 63 (by decide) (by decide), hc 64 (by decide) (by decide)]
  exact h
theorem sM_row {D : DS} {bg : Int32} {as sk : Nat → Int32} {c : Nat} (h : c = 66 ∨ c = 68 ∨ c = 69 ∨ c = 70 ∨ c = 71) : setM D (mW d bg) as sk c = d c := by
  rcases h with rfl | rfl | rfl | rfl | rfl
  · rw [sm_66]; rfl
  · rw [sm_68]; rfl
  · rw [sm_69]; rfl
  · rw [sm_70]; rfl
  · rw [sm_71]; rfl
theorem sM_sl {D : DS} {bg : Int32} {as sk : Nat → Int32} (hD : ∀ k, slJ k → D 52 k = d 52 k) : ∀ k, slJ k → setM D (mW d bg) as sk 52 k = d 52 k := by
  intro k hk
  rw [sm_52]
  have hd := hD k hk
  unfold slJ at hk
  unfold mf
  by_cases q3 : k = 33
  · rw [if_pos q3, q3]; rfl
  by_cases q4 : k = 34
  · rw [if_neg q3, if_pos q4, q4]; rfl
  by_cases q5 : k = 35
  · rw [if_neg q3, if_neg q4, if_pos q5, q5]; rfl
  by_cases q6 : k = 36
  · rw [if_neg q3, if_neg q4, if_neg q5, if_pos q6, q6]; rfl
  rw [if_neg q3, if_neg q4, if_neg q5, if_neg q6, if_neg (by omega)]
  exact hd
theorem HA.ref {c1 rf : Prop} {no ans k z : Int32} {a' : AW} (h : HA c1 rf no ans A a' d k z d1) : ∀ c, 52 ≤ c → c ≠ 87 → d1 c = d c := by
  intro c hc h87
  rcases h with ⟨-, -, ⟨-, -, f, -⟩ | ⟨-, -, f, -⟩⟩ | ⟨-, -, rfl⟩
  · exact f c (by simp only [List.mem_cons, List.not_mem_nil, or_false, not_or]; omega)
  · exact f c (by simp only [List.mem_cons, List.not_mem_nil, or_false, not_or]; omega)
  · rfl
theorem code_jf (h : JC u S A F d) {x : Int32} {as sk : Nat → Int32} : jf d (setM (dset d 52 4 x) (mW d (d 7 4)) as sk) := by
  have e := a7_id (mW d (d 7 4))
  rw [← e]
  exact setM_jf h.1.2.2.2.1.1 h.1.2.2.2.1.2 ⟨fr.rfl.set (by decide) _ _, fun k h4 _ _ => by rw [ds_s, upd_other _ _ h4]⟩
theorem refuse_J {i : Nat} (hi : i < 3) (h : JC u S A F d) (h1 : rfO i d d1) {as sk : Nat → Int32} : JC u S A F (setM (dset (dset d1 52 4 0) 65 i (d1 65 i + 1)) (mW d (d 7 4)) as sk) := by
  have hc : ∀ c, c ≠ 6 → c ≠ 87 → d1 c = d c := fun c x y => h1.1 c (by simp [x, y])
  refine h.refuse hi h1 (fun c hc2 => ?_) (sM_sl (fun k hk => ?_)) ?_
  · simp only [List.mem_cons, List.not_mem_nil, or_false, not_or] at hc2
    by_cases q : c = 66 ∨ c = 68 ∨ c = 69 ∨ c = 70 ∨ c = 71
    · rw [sM_row q, hc c (by omega) (by omega)]
    · rw [sM_out (by simp only [List.mem_cons, List.not_mem_nil, or_false, not_or]; omega), ds_n _ _ _ (by omega), ds_n _ _ _ (by omega)]
  · rw [ds_n _ _ _ (by decide), ds_s, upd_other _ _ (by unfold slJ at hk; omega), hc 52 (by decide) (by decide)]
  · rw [sM_out (by decide), ds_s, ds_n _ _ _ (by decide), hc 65 (by decide) (by decide)]
theorem act_J {a' a'' : AW} (h : JC u S A F d) (h1 : acO A a' d d1) {r as sk : Nat → Int32} (hr : kpM A (mW d (d 7 4)) (d 72) r) (he : eqA 7 a' a'') (ho : okA a'') (hs : stA (mW d (d 7 4)) a'') (hs' : stA (nowW d) a') : JC u S (kpN A) F (setM (kpD A r (dset d1 52 4 0)) a'' as sk) := by
  obtain ⟨f, ⟨k5, k2⟩, hN⟩ := h1
  have hA : A ≤ 40 := h.1.2.2.2.2.2.1
  have hc : ∀ c, c ∉ 87 :: ACT → d1 c = d c := f
  have n7 : d1 7 = aF a' := by rw [← hN]; rfl
  have n8 : d1 8 = aNe a' := by rw [← hN]; rfl
  have g : ∀ c, c ∉ [52, 66, 68, 69, 70, 71, 72, 73, 74] → setM (kpD A r (dset d1 52 4 0)) a'' as sk c = d1 c := fun c hc => by
    simp only [List.mem_cons, List.not_mem_nil, or_false, not_or] at hc
    rw [sM_out (by simp only [List.mem_cons, List.not_mem_nil, or_false, not_or]; omega)]
    unfold kpD
    rw [ds_n _ _ _ (by omega), dr_n _ _ (by omega), ds_n _ _ _ (by omega)]
  have h56 : kpD A r (dset d1 52 4 0) 56 = d 56 := by
    unfold kpD
    rw [ds_n _ _ _ (by decide), dr_n _ _ (by decide), ds_n _ _ _ (by decide), hc 56 (by decide)]
  have e0 : kpD A r (dset d1 52 4 0) 56 0 = aF a'' 0 := by rw [h56, hs.1]; rfl
  have e3 : kpD A r (dset d1 52 4 0) 56 2 = aF a'' 3 := by rw [h56, hs.2.1]; rfl
  have g7 : setM (kpD A r (dset d1 52 4 0)) a'' as sk 7 = aF a' := by rw [g 7 (by decide), n7]
  have gN : nowW (setM (kpD A r (dset d1 52 4 0)) a'' as sk) = a' := by
    rw [← hN]
    show (setM (kpD A r (dset d1 52 4 0)) a'' as sk 7, setM (kpD A r (dset d1 52 4 0)) a'' as sk 8, setM (kpD A r (dset d1 52 4 0)) a'' as sk 9, setM (kpD A r (dset d1 52 4 0)) a'' as sk 10, setM (kpD A r (dset d1 52 4 0)) a'' as sk 11, setM (kpD A r (dset d1 52 4 0)) a'' as sk 12) = (d1 7, d1 8, d1 9, d1 10, d1 11, d1 12)
    rw [g 7 (by decide), g 8 (by decide), g 9 (by decide), g 10 (by decide), g 11 (by decide), g 12 (by decide)]
  have s37 : setM (kpD A r (dset d1 52 4 0)) a'' as sk 52 37 = nI (kpN A) := by
    rw [sM_slot (by decide)]
    unfold kpD
    rw [ds_s, upd_same]
  refine h.world (A2 := kpN A) (fun c hc2 => ?_) ?_ ?_ ?_ s37 (fun k hk => ?_) ?_ ?_ ⟨?_, ?_, ?_, fun p hp => ?_⟩ ?_ ?_ ?_
  · rw [g c (fun z => hc2 (by revert z; simp only [List.mem_cons, List.not_mem_nil, or_false]; omega))]
    exact hc c (fun z => hc2 (by revert z; simp only [List.mem_cons, List.not_mem_nil, or_false]; omega))
  · rw [g 2 (by decide), k2, upd_other _ _ (by decide)]
  · unfold kpN; split <;> omega
  · rw [g 2 (by decide), k2, upd_same]; rfl
  · rw [sM_slot (by omega)]
    unfold kpD
    rw [ds_s, upd_other _ _ (by omega), dr_n _ _ (by decide), ds_s, upd_other _ _ (by omega), hc 52 (by decide)]
  · rw [g 45 (by decide), hc 45 (by decide)]; exact h.1.2.2.2.1.1
  · rw [g 46 (by decide), hc 46 (by decide)]; exact h.1.2.2.2.1.2
  · rw [g7]; exact hs'.1
  · rw [g7]; exact hs'.2.1
  · rw [g7]; exact hs'.2.2.1
  · rw [g 8 (by decide), n8, hs'.2.2.2]; rfl
  · rw [gN, g7]; exact sM_eq he e0 e3
  · exact sM_ok ho e0 e3
  · have s72 : setM (kpD A r (dset d1 52 4 0)) a'' as sk 72 = r := by
      rw [sM_out (by decide)]
      unfold kpD
      rw [ds_n _ _ _ (by decide), dr_s]
    have s5 : setM (kpD A r (dset d1 52 4 0)) a'' as sk 5 = if A = 40 then wrN (nowW d) (dwn (d 5)) (39 * 24) 24 else wrN (nowW d) (d 5) (A * 24) 24 := by rw [g 5 (by decide)]; exact k5
    exact rows_keep hA h.2.2.1.2.2.2.1 s5 (by rw [s72]; exact hr) h.2.1.1 h.2.1.2.1 (by rw [show pNf (d 7) = pNf (aF (nowW d)) from rfl, h.2.1.1.p (by decide)]) (f0_eq h (by decide)).symm
theorem az_end {c1 rf e1 rf' : Prop} {no ans ans' k z : Int32} {a' a'' : AW} {v : Option Value} (h : JC u S A F d) (hA : HA c1 rf no ans A a' d k z d1) (hz : AZ e1 rf' no ans' A a'' d1 (mW d1 (d 7 4)) v d2) (q1 : e1 ↔ c1) (q2 : c1 → (rf' ↔ rf)) (q3 : c1 → ¬ rf → ans' = ans) (q4 : c1 → ¬ rf → eqA 7 a' a'' ∧ okA a'' ∧ stA (mW d (d 7 4)) a'' ∧ stA (nowW d) a') : PQ k z d1 v d2 := by
  have hc := hA.ref
  rw [mW_same hc] at hz
  obtain ⟨y, as, sk, rfl, hz⟩ := hz
  rcases hz with ⟨z1, rfl⟩ | ⟨z1, z2, z3, rfl⟩ | ⟨z1, z2, z3, r, z4, rfl⟩
  · rcases hA with ⟨w1, -⟩ | ⟨w1, rfl, rfl⟩
    · exact absurd (q1.mpr w1) z1
    · refine ⟨y, rfl, ⟨u, S, A, F, h.keep (code_jf h)⟩, ?_, fun w => absurd w (by decide), ?_⟩
      · rw [sM_4, ds_s, upd_same]
      · rw [sM_87, ds_n _ _ _ (by decide)]
  · rcases hA with ⟨w1, rfl, ⟨w2, w3, w4⟩ | ⟨w2, w3, w4⟩⟩ | ⟨w1, rfl, rfl⟩
    · refine ⟨y, rfl, ⟨u, S, A, F, refuse_J (by decide) h w4⟩, ?_, fun _ => by rw [w3, z3], ?_⟩
      · rw [sM_4, ds_n _ _ _ (by decide), ds_s, upd_same]
      · rw [sM_87, ds_n _ _ _ (by decide), ds_n _ _ _ (by decide)]
    · exact absurd ((q2 w1).mp z2) w2
    · exact absurd (q1.mp z1) w1
  · rcases hA with ⟨w1, rfl, ⟨w2, w3, w4⟩ | ⟨w2, w3, w4⟩⟩ | ⟨w1, rfl, rfl⟩
    · exact absurd ((q2 w1).mpr w2) z2
    · obtain ⟨x1, x2, x3, x4⟩ := q4 w1 w2
      rw [hc 72 (by decide) (by decide)] at z4
      refine ⟨y, rfl, ⟨u, S, kpN A, F, act_J h w4 z4 x1 x2 x3 x4⟩, ?_, fun _ => by rw [w3, z3]; exact (q3 w1 w2).symm, ?_⟩
      · rw [sM_4]; unfold kpD; rw [ds_s, upd_other _ _ (by decide), dr_n _ _ (by decide), ds_s, upd_same]
      · rw [sM_87]; unfold kpD; rw [ds_n _ _ _ (by decide), dr_n _ _ (by decide), ds_n _ _ _ (by decide)]
    · exact absurd (q1.mp z1) w1
theorem R_years (hl : l.stackTraces = false) (h : JC u S A F d) {y k z : Int32} (hA : HA True (yrR d y) (-1) (aF (yearsA u (nowW d) y.toNatClampNeg) 2) A (yearsA u (nowW d) y.toNatClampNeg) d k z d1) : CM l mX11_years (n + 20) 0 [.ref 52, .int y] d1 (PQ k z d1) NX := by
  have hc := hA.ref
  have he := h.2.1.1
  have ho := h.2.1.2.1
  have qq := q_years (n := n) (d := d1) (a := mW d1 (d 7 4)) (u := u) (A := A) (as := d1 73) (sk := d1 74) (y := y) hl (by rw [mW_same hc]; exact mK_same hc h.2.1.2.2.1) h.1.2.1 (by rw [mW_same hc]; exact ho) h.1.2.2.2.2.2.1 (by rw [hc 52 (by decide) (by decide)]; exact h.2.2.1.1)
  rw [setM_id] at qq
  refine qq.mono (fun v d' hz => az_end h hA hz Iff.rfl (fun _ => ?_) (fun _ _ => ?_) (fun _ _ => ?_)) (fun _ _ h => h.elim)
  · rw [mW_same hc]
    unfold yrZ yrR
    rw [f0_eq h (by decide), Int32.not_le.symm, Int32.not_le.symm, Int32.not_le.symm]
    constructor
    · intro w
      by_cases q1 : 1 ≤ y
      · by_cases q2 : y ≤ 20
        · exact Or.inr (Or.inr (fun q3 => w ⟨⟨q1, q2⟩, q3⟩))
        · exact Or.inr (Or.inl q2)
      · exact Or.inl q1
    · rintro (w | w | w) x
      · exact w x.1.1
      · exact w x.1.2
      · exact w x.2
  · rw [mW_same hc]; exact ((yearsA_congr (u := u) h.1.2.2.1 he (by decide) y.toNatClampNeg).1 2 (by decide)).symm
  · rw [mW_same hc]; exact ⟨yearsA_congr h.1.2.2.1 he (by decide) _, ok_years ho _, st_years _, st_years _⟩
theorem R_give (hl : l.stackTraces = false) (h : JC u S A F d) {c p k z : Int32} (hA : HA (isC (d 7 1) c ∧ isP (d 7 0) p) (crB d c ∨ d 12 c.toNatClampNeg = p) (-1) (d 12 c.toNatClampNeg) A (handA (nowW d) c p) d k z d1) : CM l mX11_give (n + 20) 0 [.ref 52, .int c, .int p] d1 (PQ k z d1) NX := by
  have hc := hA.ref
  have he := h.2.1.1
  have ho := h.2.1.2.1
  have qq := q_give (n := n) (d := d1) (a := mW d1 (d 7 4)) (u := u) (A := A) (as := d1 73) (sk := d1 74) (c := c) (p := p) hl (by rw [mW_same hc]; exact mK_same hc h.2.1.2.2.1) (by rw [mW_same hc]; exact ho) h.1.2.2.2.2.2.1 (by rw [hc 52 (by decide) (by decide)]; exact h.2.2.1.1)
  rw [setM_id] at qq
  have hq : isC (d 7 1) c → aHo (mW d (d 7 4)) c.toNatClampNeg = d 12 c.toNatClampNeg := fun w => by
    have := (he.2.2 c.toNatClampNeg (Nat.lt_of_lt_of_le (isC_lt (f := d 7) w) (cN12 _))).2
    exact this.symm
  refine qq.mono (fun v d' hz => az_end h hA hz ?_ (fun w => ?_) (fun w _ => ?_) (fun w w2 => ?_)) (fun _ _ h => h.elim)
  · rw [mW_same hc, f0_eq h (by decide), f0_eq h (by decide)]
  · rw [mW_same hc]; unfold gvZ; rw [f0_eq h (by decide), hq w.1]
  · rw [mW_same hc]; exact hq w.1
  · rw [mW_same hc]
    have n6 : d 7 6 &&& (1 <<< (c &&& 31)) = 0 := Classical.byContradiction (fun q => w2 (Or.inl q))
    have e : handA (mW d (d 7 4)) c p = gvA (mW d (d 7 4)) c p := by
      unfold handA gvA
      rw [if_pos ⟨by rw [f0_eq h (by decide)]; exact w.1, by rw [f0_eq h (by decide)]; exact w.2, by rw [f0_eq h (by decide)]; exact n6⟩]
    rw [← e]
    exact ⟨handA_al he _ _, ok_hand ho _ _, ⟨rfl, rfl, rfl, rfl⟩, ⟨rfl, rfl, rfl, rfl⟩⟩
theorem R_search (hl : l.stackTraces = false) (h : JC u S A F d) {p k z : Int32} (hA : HA (isP (d 7 0) p) (d 9 p.toNatClampNeg = 0) (-1) (d 9 p.toNatClampNeg) A (d 7, d 8, upd (d 9) p.toNatClampNeg 0, d 10, d 11, d 12) d k z d1) : CM l mX11_search (n + 20) 0 [.ref 52, .int p] d1 (PQ k z d1) NX := by
  have hc := hA.ref
  have he := h.2.1.1
  have ho := h.2.1.2.1
  have qq := q_search (n := n) (d := d1) (a := mW d1 (d 7 4)) (u := u) (A := A) (as := d1 73) (sk := d1 74) (p := p) hl (by rw [mW_same hc]; exact mK_same hc h.2.1.2.2.1) (by rw [mW_same hc]; exact ho) h.1.2.2.2.2.2.1 (by rw [hc 52 (by decide) (by decide)]; exact h.2.2.1.1)
  rw [setM_id] at qq
  have hq : isP (d 7 0) p → aSo (mW d (d 7 4)) p.toNatClampNeg = d 9 p.toNatClampNeg := fun w => ((he.2.1 p.toNatClampNeg (isP_lt (f := d 7) w)).2.1).symm
  refine qq.mono (fun v d' hz => az_end h hA hz ?_ (fun w => ?_) (fun w _ => ?_) (fun w w2 => ?_)) (fun _ _ h => h.elim)
  · rw [mW_same hc, f0_eq h (by decide)]
  · rw [mW_same hc, hq w]
  · rw [mW_same hc]; exact hq w
  · rw [mW_same hc]
    have hp := isP_lt (f := d 7) w
    refine ⟨⟨he.1, fun q hq2 => ⟨(he.2.1 q hq2).1, upd_congr (fun _ => (he.2.1 q hq2).2.1) rfl, (he.2.1 q hq2).2.2⟩, he.2.2⟩, ok_putSo (w := 0) ho ?_ (by decide), ⟨rfl, rfl, rfl, rfl⟩, ⟨rfl, rfl, rfl, rfl⟩⟩
    rw [← he.p (by decide)]; exact hp
theorem R_pays (hl : l.stackTraces = false) (h : JC u S A F d) {p o k z : Int32} (hA : HA (isP (d 7 0) p ∧ (o = -1 ∨ isP (d 7 0) o)) (d 10 p.toNatClampNeg = o ∨ o = p) (-2) (d 10 p.toNatClampNeg) A (d 7, d 8, d 9, upd (d 10) p.toNatClampNeg o, d 11, d 12) d k z d1) : CM l mX11_pays (n + 20) 0 [.ref 52, .int p, .int o] d1 (PQ k z d1) NX := by
  have hc := hA.ref
  have he := h.2.1.1
  have ho := h.2.1.2.1
  have qq := q_pays (n := n) (d := d1) (a := mW d1 (d 7 4)) (u := u) (A := A) (as := d1 73) (sk := d1 74) (p := p) (o := o) hl (by rw [mW_same hc]; exact mK_same hc h.2.1.2.2.1) (by rw [mW_same hc]; exact ho) h.1.2.2.2.2.2.1 (by rw [hc 52 (by decide) (by decide)]; exact h.2.2.1.1)
  rw [setM_id] at qq
  have hq : isP (d 7 0) p → aPa (mW d (d 7 4)) p.toNatClampNeg = d 10 p.toNatClampNeg := fun w => ((he.2.1 p.toNatClampNeg (isP_lt (f := d 7) w)).2.2).symm
  have hP8 := pN8 (d 7)
  have s0 : d 7 0 = nI (pNf (d 7)) := h.1.2.2.1.1
  have hr : (-1 ≤ o ∧ o ≤ d 7 0 - 1) ↔ (o = -1 ∨ isP (d 7 0) o) := by
    rw [s0]
    have := isIn_P (x := o) hP8
    constructor
    · rintro ⟨x, y⟩
      by_cases q : 0 ≤ o
      · exact Or.inr (this.mp ⟨q, y⟩)
      · left
        have q1 : o.toInt < 0 := Int32.lt_iff_toInt_lt.mp (Int32.not_le.mp q)
        have q2 : (-1 : Int32).toInt ≤ o.toInt := Int32.le_iff_toInt_le.mp x
        have q3 : (-1 : Int32).toInt = -1 := by decide
        exact Int32.toInt_inj.mp (by rw [q3]; omega)
    · rintro (rfl | x)
      · refine ⟨Int32.le_refl _, ?_⟩
        have : ∀ P, P ≤ 8 → (-1 : Int32) ≤ nI P - 1 := by decide
        exact this _ hP8
      · have := this.mpr x
        exact ⟨Int32.le_trans (by decide) this.1, this.2⟩
  refine qq.mono (fun v d' hz => az_end h hA hz ?_ (fun w => ?_) (fun w _ => ?_) (fun w w2 => ?_)) (fun _ _ h => h.elim)
  · rw [mW_same hc, f0_eq h (by decide), hr]
  · rw [mW_same hc]; unfold pyZ; rw [hq w.1]
    exact or_congr Iff.rfl ⟨fun x => x.symm, fun x => x.symm⟩
  · rw [mW_same hc]; exact hq w.1
  · rw [mW_same hc]
    have hp := isP_lt (f := d 7) w.1
    refine ⟨⟨he.1, fun q hq2 => ⟨(he.2.1 q hq2).1, (he.2.1 q hq2).2.1, upd_congr (fun _ => (he.2.1 q hq2).2.2) rfl⟩, he.2.2⟩, ok_putPa ho ?_ ?_, ⟨rfl, rfl, rfl, rfl⟩, ⟨rfl, rfl, rfl, rfl⟩⟩
    · rw [← he.p (by decide)]; exact hp
    · rcases w.2 with x | x
      · exact Or.inl x
      · right
        obtain ⟨j, hj, ej⟩ := isP_of x
        have hl2 := isP_lt (f := d 7) x
        rw [ej, nI_clamp (by omega)] at hl2
        refine ⟨j, by rw [← he.p (by decide)]; exact hl2, fun q => w2 (Or.inr ?_), ej⟩
        obtain ⟨i, hi, ei⟩ := isP_of w.1
        rw [ei, nI_clamp (by omega)] at q
        rw [ej, ei, q]
theorem R_anew (hl : l.stackTraces = false) (h : JC u S A F d) {c w k z : Int32} (hA : HA (isC (d 7 1) c) (w < 0 ∨ 99 < w ∨ crB d c) (-1) (d 11 c.toNatClampNeg) A (upd (d 7) 5 (d 7 5 &&& (1 <<< (c &&& 31) ^^^ -1)), d 8, d 9, d 10, upd (d 11) c.toNatClampNeg w, d 12) d k z d1) : CM l mX11_anew (n + 20) 0 [.ref 52, .int c, .int w] d1 (PQ k z d1) NX := by
  have hc := hA.ref
  have he := h.2.1.1
  have ho := h.2.1.2.1
  have qq := q_anew (n := n) (d := d1) (a := mW d1 (d 7 4)) (u := u) (A := A) (as := d1 73) (sk := d1 74) (c := c) (w := w) hl (by rw [mW_same hc]; exact mK_same hc h.2.1.2.2.1) (by rw [mW_same hc]; exact ho) h.1.2.2.2.2.2.1 (by rw [hc 52 (by decide) (by decide)]; exact h.2.2.1.1)
  rw [setM_id] at qq
  have hq : isC (d 7 1) c → aWo (mW d (d 7 4)) c.toNatClampNeg = d 11 c.toNatClampNeg := fun x => ((he.2.2 c.toNatClampNeg (Nat.lt_of_lt_of_le (isC_lt (f := d 7) x) (cN12 _))).1).symm
  refine qq.mono (fun v d' hz => az_end h hA hz ?_ (fun x => ?_) (fun x _ => ?_) (fun x x2 => ?_)) (fun _ _ h => h.elim)
  · rw [mW_same hc, f0_eq h (by decide)]
  · rw [mW_same hc]; unfold awZ; rw [f0_eq h (by decide)]
    constructor
    · rintro (y | y)
      · by_cases q : 0 ≤ w
        · exact Or.inr (Or.inl (Int32.not_le.mp (fun q2 => y ⟨q, q2⟩)))
        · exact Or.inl (Int32.not_le.mp q)
      · exact Or.inr (Or.inr y)
    · rintro (y | y | y)
      · exact Or.inl (fun q => absurd q.1 (Int32.not_le.mpr y))
      · exact Or.inl (fun q => absurd q.2 (Int32.not_le.mpr y))
      · exact Or.inr y
  · rw [mW_same hc]; exact hq x
  · rw [mW_same hc]
    have hlt := isC_lt (f := d 7) x
    have n6 : d 7 6 &&& (1 <<< (c &&& 31)) = 0 := Classical.byContradiction (fun q => x2 (Or.inr (Or.inr q)))
    obtain ⟨y, hy, ey⟩ := nI_of2 (x := w) (n := 99) (M := 99) rfl (fun q => x2 (Or.inl q)) (Int32.not_lt.mp (fun q => x2 (Or.inr (Or.inl q))))
    have o1 := ok_putWo (c := c.toNatClampNeg) (w := y) ho (by rw [← he.c (by decide)]; exact hlt) (by rw [f0_eq h (by decide), bit_c x]; exact n6) hy
    have o2 := ok_f5 o1 (1 <<< (c &&& 31) ^^^ -1)
    refine ⟨⟨fun q hq2 => ?_, fun q hq2 => he.2.1 q hq2, fun q hq2 => ⟨upd_congr (fun _ => (he.2.2 q hq2).1) rfl, (he.2.2 q hq2).2⟩⟩, ?_, ⟨rfl, rfl, rfl, rfl⟩, ⟨rfl, rfl, rfl, rfl⟩⟩
    · exact upd_congr (fun _ => he.1 q hq2) (by rw [f0_eq h (by decide)])
    · rw [ey]; exact o2
end Acts2
