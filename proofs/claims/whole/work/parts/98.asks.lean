/-! BOTH SIDES TOGETHER: questions -/
def AK (c1 c2 : Prop) (ans : Int32) (d : DS) : Option Value → DS → Prop := fun v d1 => jf d d1 ∧ ((c1 ∧ c2 ∧ v = some (.int 0) ∧ d1 87 0 = ans) ∨ (¬ c1 ∧ v = some (.int 1)) ∨ (c1 ∧ ¬ c2 ∧ v = some (.int 2)))
def RK (c1 c2 : Prop) (ans : Int32) (d : DS) : Option Value → DS → Prop := fun v d2 => jf d d2 ∧ d2 87 = d 87 ∧ ∃ y, v = some (.int y) ∧ ((c1 ∧ c2 ∧ d2 52 4 = 0 ∧ y = ans) ∨ (¬ c1 ∧ d2 52 4 = 1) ∨ (c1 ∧ ¬ c2 ∧ d2 52 4 = 2))
section Asks
variable {l : Launch} {n S A F : Nat} {u : RU} {d d1 : DS}
theorem rk_of {c1 c2 e1 e2 : Prop} {ans ans' : Int32} {v : Option Value} {d d1 d' : DS} (hJ : JC u S A F d1) (hm : mW d1 (d 7 4) = mW d (d 7 4)) (h : MZ e1 e2 ans' d1 (mW d (d 7 4)) v d') (q1 : e1 ↔ c1) (q2 : c1 → (e2 ↔ c2)) (q3 : c1 → c2 → ans' = ans) : RK c1 c2 ans d1 v d' := by
  rw [← hm] at h
  obtain ⟨y, D, p, as, sk, rfl, rfl, hD, hr⟩ := h
  refine ⟨setM_jf hJ.1.2.2.2.1.1 hJ.1.2.2.2.1.2 hD, ?_, y, rfl, ?_⟩
  · rw [sM_87]; exact hD.1 87 (by decide)
  · rw [sM_4]
    rcases hr with ⟨z1, z2⟩ | ⟨z1, z2, z3⟩ | ⟨z1, z2, z3, z4⟩
    · exact Or.inr (Or.inl ⟨fun w => z1 (q1.mpr w), z2⟩)
    · have w := q1.mp z1
      exact Or.inr (Or.inr ⟨w, fun x => z2 ((q2 w).mpr x), z3⟩)
    · have w := q1.mp z1
      have w2 := (q2 w).mp z2
      exact Or.inl ⟨w, w2, z3, z4.trans (q3 w w2)⟩
theorem ak_of {c1 c2 : Prop} {ans : Int32} {d d1 : DS} {x : Int32} (h : QK c1 c2 ans d (some (.int x)) d1) : AK c1 c2 ans d (some (.int 0)) (dset d1 87 0 x) := by
  obtain ⟨h1, h2, h3, h4⟩ := h
  cases h3
  exact ⟨(jf.qf h4).out 0 _, Or.inl ⟨h1, h2, rfl, by rw [ds_s, upd_same]⟩⟩
theorem mW_s (hc : ∀ c, 52 ≤ c → c ≠ 87 → d1 c = d c) (bg : Int32) : mW d1 bg = mW d bg := by
  unfold mW mF
  rw [hc 52 (by decide) (by decide), hc 56 (by decide) (by decide), hc 66 (by decide) (by decide), hc 68 (by decide) (by decide), hc 69 (by decide) (by decide), hc 70 (by decide) (by decide), hc 71 (by decide) (by decide)]
theorem mK_s (hc : ∀ c, 52 ≤ c → c ≠ 87 → d1 c = d c) {G : Nat → Int32} (h : mK u G d) : mK u G d1 := by
  unfold mK
  rw [hc 56 (by decide) (by decide), hc 57 (by decide) (by decide), hc 63 (by decide) (by decide), hc 64 (by decide) (by decide)]
  exact h
theorem f0_eq (h : JC u S A F d) {k : Nat} (hk : k < 7) : aF (mW d (d 7 4)) k = d 7 k := (h.2.1.1.1 k hk).symm
theorem inI_3 {x : Int32} : inW x 3 ↔ inI x 3 := by
  show (0 ≤ x ∧ x ≤ 3) ↔ _
  rw [Int32.le_iff_toInt_le, Int32.le_iff_toInt_le]
  exact Iff.rfl
theorem bit_c {c n : Int32} (h : isC n c) : bit c.toNatClampNeg = 1 <<< (c &&& 31) := by
  obtain ⟨j, hj, e⟩ := isC_of h
  rw [e, nI_clamp (by omega)]
  rfl
theorem R_count (hl : l.stackTraces = false) (h : JC u S A F d) (h1 : JC u S A F d1) (hc : ∀ c, 52 ≤ c → c ≠ 87 → d1 c = d c) {x : Int32} : CM l mX11_count (n + 20) 0 [.ref 52, .int x] d1 (RK (inI x 16) True (ctC d x) d1) NX := by
  have ho := h.2.1.2.1
  have ho' : okA (mW d1 (d 7 4)) := by rw [mW_s hc]; exact ho
  have hu := h.1.2.1
  have hk := h.2.1.2.2.1
  have hk' : mK u (aF (mW d1 (d 7 4))) d1 := by rw [mW_s hc]; exact mK_s hc hk
  have he := h.2.1.1
  have hs := h.1.2.2.1
  have qq := q_count (n := n) (d := d1) (a := mW d1 (d 7 4)) (as := d1 73) (sk := d1 74) (x := x) hl hk' ho'
  rw [setM_id, mW_s hc] at qq
  refine qq.mono (fun v d' hz => rk_of h1 (mW_s hc _) hz ?_ ?_ ?_) (fun _ _ h => h.elim)
  · exact Iff.rfl
  · exact fun _ => Iff.rfl
  · exact fun _ _ => (al_count ho he rfl (by rw [hc 52 (by decide) (by decide), h.2.2.1.1]; exact h.1.2.2.2.2.2.2) (by rw [hc 52 (by decide) (by decide), h.2.2.1.2.1]; exact h.1.2.2.2.2.1.2.1) (by rw [hc 52 (by decide) (by decide), h.2.2.2.1.2.2.1]; exact h.2.2.2.1.2.1) (by rw [hc 65 (by decide) (by decide)]; exact h.2.2.1.2.2.2.2) x).symm
theorem R_person (hl : l.stackTraces = false) (h : JC u S A F d) (h1 : JC u S A F d1) (hc : ∀ c, 52 ≤ c → c ≠ 87 → d1 c = d c) {p x : Int32} : CM l mX11_person (n + 20) 0 [.ref 52, .int p, .int x] d1 (RK (isP (d 7 0) p ∧ inI x 6) True (psC d p x) d1) NX := by
  have ho := h.2.1.2.1
  have ho' : okA (mW d1 (d 7 4)) := by rw [mW_s hc]; exact ho
  have hu := h.1.2.1
  have hk := h.2.1.2.2.1
  have hk' : mK u (aF (mW d1 (d 7 4))) d1 := by rw [mW_s hc]; exact mK_s hc hk
  have he := h.2.1.1
  have hs := h.1.2.2.1
  have qq := q_person (n := n) (d := d1) (a := mW d1 (d 7 4)) (as := d1 73) (sk := d1 74) (p := p) (x := x) hl hk' ho'
  rw [setM_id, mW_s hc] at qq
  refine qq.mono (fun v d' hz => rk_of h1 (mW_s hc _) hz ?_ ?_ ?_) (fun _ _ h => h.elim)
  · rw [f0_eq h (by decide)]
  · exact fun _ => Iff.rfl
  · exact fun w _ => (al_person he rfl w.1 (fun i hi => by rw [hc 57 (by decide) (by decide)]; exact ⟨hk.2.2.2.2.1 i hi, h.2.1.2.2.2 i (by rw [show pNf (d 7) = pNf (aF (nowW d)) from rfl, he.p (by decide)]; exact hi)⟩)).symm
theorem R_coin (hl : l.stackTraces = false) (h : JC u S A F d) (h1 : JC u S A F d1) (hc : ∀ c, 52 ≤ c → c ≠ 87 → d1 c = d c) {c x : Int32} : CM l mX11_coin (n + 20) 0 [.ref 52, .int c, .int x] d1 (RK (isC (d 7 1) c ∧ inI x 3) True (cnC d c x) d1) NX := by
  have ho := h.2.1.2.1
  have ho' : okA (mW d1 (d 7 4)) := by rw [mW_s hc]; exact ho
  have hu := h.1.2.1
  have hk := h.2.1.2.2.1
  have hk' : mK u (aF (mW d1 (d 7 4))) d1 := by rw [mW_s hc]; exact mK_s hc hk
  have he := h.2.1.1
  have hs := h.1.2.2.1
  have qq := q_coin (n := n) (d := d1) (a := mW d1 (d 7 4)) (as := d1 73) (sk := d1 74) (c := c) (x := x) hl hk' ho'
  rw [setM_id, mW_s hc] at qq
  refine qq.mono (fun v d' hz => rk_of h1 (mW_s hc _) hz ?_ ?_ ?_) (fun _ _ h => h.elim)
  · rw [f0_eq h (by decide), inI_3]
  · exact fun _ => Iff.rfl
  · exact fun w _ => (al_coin he rfl w.1).symm
theorem R_then (hl : l.stackTraces = false) (h : JC u S A F d) (h1 : JC u S A F d1) (hc : ∀ c, 52 ≤ c → c ≠ 87 → d1 c = d c) {c y x : Int32} : CM l mX11_then (n + 20) 0 [.ref 52, .int c, .int y, .int x] d1 (RK (isC 12 c ∧ inW x 1) (inF y) (thC (aft u d y) c x) d1) NX := by
  have ho := h.2.1.2.1
  have ho' : okA (mW d1 (d 7 4)) := by rw [mW_s hc]; exact ho
  have hu := h.1.2.1
  have hk := h.2.1.2.2.1
  have hk' : mK u (aF (mW d1 (d 7 4))) d1 := by rw [mW_s hc]; exact mK_s hc hk
  have he := h.2.1.1
  have hs := h.1.2.2.1
  have qq := q_then (n := n) (d := d1) (a := mW d1 (d 7 4)) (as := d1 73) (sk := d1 74) (c := c) (y := y) (x := x) hl hk' hu ho'
  rw [setM_id, mW_s hc] at qq
  refine qq.mono (fun v d' hz => rk_of h1 (mW_s hc _) hz ?_ ?_ ?_) (fun _ _ h => h.elim)
  · exact Iff.rfl
  · exact fun _ => Iff.rfl
  · exact fun w _ => (al_then hs he _ w.1).symm
theorem R_has (hl : l.stackTraces = false) (h : JC u S A F d) (h1 : JC u S A F d1) (hc : ∀ c, 52 ≤ c → c ≠ 87 → d1 c = d c) {p y : Int32} : CM l mX11_has (n + 20) 0 [.ref 52, .int p, .int y] d1 (RK (isP (d 7 0) p) (inF y) (hasA (aft u d y) p.toNatClampNeg) d1) NX := by
  have ho := h.2.1.2.1
  have ho' : okA (mW d1 (d 7 4)) := by rw [mW_s hc]; exact ho
  have hu := h.1.2.1
  have hk := h.2.1.2.2.1
  have hk' : mK u (aF (mW d1 (d 7 4))) d1 := by rw [mW_s hc]; exact mK_s hc hk
  have he := h.2.1.1
  have hs := h.1.2.2.1
  have qq := q_has (n := n) (d := d1) (a := mW d1 (d 7 4)) (as := d1 73) (sk := d1 74) (p := p) (y := y) hl hk' hu ho'
  rw [setM_id, mW_s hc] at qq
  refine qq.mono (fun v d' hz => rk_of h1 (mW_s hc _) hz ?_ ?_ ?_) (fun _ _ h => h.elim)
  · rw [f0_eq h (by decide)]
  · exact fun _ => Iff.rfl
  · exact fun _ _ => (hasA_congr (yr_al hs he _) (by decide) _).symm
theorem R_later (hl : l.stackTraces = false) (h : JC u S A F d) (h1 : JC u S A F d1) (hc : ∀ c, 52 ≤ c → c ≠ 87 → d1 c = d c) {y x : Int32} : CM l mX11_later (n + 20) 0 [.ref 52, .int y, .int x] d1 (RK (inW x 3) (inF y) (ltC d (aft u d y) x) d1) NX := by
  have ho := h.2.1.2.1
  have ho' : okA (mW d1 (d 7 4)) := by rw [mW_s hc]; exact ho
  have hu := h.1.2.1
  have hk := h.2.1.2.2.1
  have hk' : mK u (aF (mW d1 (d 7 4))) d1 := by rw [mW_s hc]; exact mK_s hc hk
  have he := h.2.1.1
  have hs := h.1.2.2.1
  have qq := q_later (n := n) (d := d1) (a := mW d1 (d 7 4)) (as := d1 73) (sk := d1 74) (y := y) (x := x) hl hk' hu ho'
  rw [setM_id, mW_s hc] at qq
  refine qq.mono (fun v d' hz => rk_of h1 (mW_s hc _) hz ?_ ?_ ?_) (fun _ _ h => h.elim)
  · exact Iff.rfl
  · exact fun _ => Iff.rfl
  · exact fun _ _ => (al_later hs he rfl _).symm
theorem R_next (hl : l.stackTraces = false) (h : JC u S A F d) (h1 : JC u S A F d1) (hc : ∀ c, 52 ≤ c → c ≠ 87 → d1 c = d c) : CM l mX11_next (n + 20) 0 [.ref 52] d1 (RK True True (nxF u (d 7 1) 60 (nrmA (nowW d))) d1) NX := by
  have ho := h.2.1.2.1
  have ho' : okA (mW d1 (d 7 4)) := by rw [mW_s hc]; exact ho
  have hu := h.1.2.1
  have hk := h.2.1.2.2.1
  have hk' : mK u (aF (mW d1 (d 7 4))) d1 := by rw [mW_s hc]; exact mK_s hc hk
  have he := h.2.1.1
  have hs := h.1.2.2.1
  have qq := q_next (n := n) (d := d1) (a := mW d1 (d 7 4)) (as := d1 73) (sk := d1 74) hl hk' hu ho'
  rw [setM_id, mW_s hc] at qq
  refine qq.mono (fun v d' hz => rk_of h1 (mW_s hc _) hz ?_ ?_ ?_) (fun _ _ h => h.elim)
  · exact Iff.rfl
  · exact fun _ => Iff.rfl
  · exact fun _ _ => by rw [f0_eq h (by decide)]; exact (nxF_al 60 (nrm_sz hs) (nrm_to he)).symm
theorem R_gets (hl : l.stackTraces = false) (h : JC u S A F d) (h1 : JC u S A F d1) (hc : ∀ c, 52 ≤ c → c ≠ 87 → d1 c = d c) {p c : Int32} : CM l mX11_gets (n + 20) 0 [.ref 52, .int p, .int c] d1 (RK (isP (d 7 0) p ∧ isC (d 7 1) c) True (uhF u c.toNatClampNeg p 61 0 (nrmA (nowW d))) d1) NX := by
  have ho := h.2.1.2.1
  have ho' : okA (mW d1 (d 7 4)) := by rw [mW_s hc]; exact ho
  have hu := h.1.2.1
  have hk := h.2.1.2.2.1
  have hk' : mK u (aF (mW d1 (d 7 4))) d1 := by rw [mW_s hc]; exact mK_s hc hk
  have he := h.2.1.1
  have hs := h.1.2.2.1
  have qq := q_gets (n := n) (d := d1) (a := mW d1 (d 7 4)) (as := d1 73) (sk := d1 74) (p := p) (c := c) hl hk' hu ho'
  rw [setM_id, mW_s hc] at qq
  refine qq.mono (fun v d' hz => rk_of h1 (mW_s hc _) hz ?_ ?_ ?_) (fun _ _ h => h.elim)
  · rw [f0_eq h (by decide), f0_eq h (by decide)]
  · exact fun _ => Iff.rfl
  · exact fun w _ => (uhF_al (Nat.lt_of_lt_of_le (isC_lt w.2) (cN12 _)) 61 0 (nrm_sz hs) (nrm_to he)).symm
theorem R_hands (hl : l.stackTraces = false) (h : JC u S A F d) (h1 : JC u S A F d1) (hc : ∀ c, 52 ≤ c → c ≠ 87 → d1 c = d c) {c y : Int32} : CM l mX11_hands (n + 20) 0 [.ref 52, .int c, .int y] d1 (RK (isC (d 7 1) c) (inF y) (hwF u c.toNatClampNeg (y.toNatClampNeg + 1) 0 (nrmA (nowW d))) d1) NX := by
  have ho := h.2.1.2.1
  have ho' : okA (mW d1 (d 7 4)) := by rw [mW_s hc]; exact ho
  have hu := h.1.2.1
  have hk := h.2.1.2.2.1
  have hk' : mK u (aF (mW d1 (d 7 4))) d1 := by rw [mW_s hc]; exact mK_s hc hk
  have he := h.2.1.1
  have hs := h.1.2.2.1
  have qq := q_hands (n := n) (d := d1) (a := mW d1 (d 7 4)) (as := d1 73) (sk := d1 74) (c := c) (y := y) hl hk' hu ho'
  rw [setM_id, mW_s hc] at qq
  refine qq.mono (fun v d' hz => rk_of h1 (mW_s hc _) hz ?_ ?_ ?_) (fun _ _ h => h.elim)
  · rw [f0_eq h (by decide)]
  · exact fun _ => Iff.rfl
  · exact fun w _ => (hwF_al (Nat.lt_of_lt_of_le (isC_lt w) (cN12 _)) _ 0 (nrm_sz hs) (nrm_to he)).symm
theorem R_crumbles (hl : l.stackTraces = false) (h : JC u S A F d) (h1 : JC u S A F d1) (hc : ∀ c, 52 ≤ c → c ≠ 87 → d1 c = d c) {c : Int32} : CM l mX11_crumbles (n + 20) 0 [.ref 52, .int c] d1 (RK (isC (d 7 1) c) True (if crB d c then -1 else uhF u c.toNatClampNeg (-1) 61 0 (nrmA (nowW d))) d1) NX := by
  have ho := h.2.1.2.1
  have ho' : okA (mW d1 (d 7 4)) := by rw [mW_s hc]; exact ho
  have hu := h.1.2.1
  have hk := h.2.1.2.2.1
  have hk' : mK u (aF (mW d1 (d 7 4))) d1 := by rw [mW_s hc]; exact mK_s hc hk
  have he := h.2.1.1
  have hs := h.1.2.2.1
  have qq := q_crumbles (n := n) (d := d1) (a := mW d1 (d 7 4)) (as := d1 73) (sk := d1 74) (c := c) hl hk' hu ho'
  rw [setM_id, mW_s hc] at qq
  refine qq.mono (fun v d' hz => rk_of h1 (mW_s hc _) hz ?_ ?_ ?_) (fun _ _ h => h.elim)
  · rw [f0_eq h (by decide)]
  · exact fun _ => Iff.rfl
  · exact fun w _ => by
      rw [uhF_al (Nat.lt_of_lt_of_le (isC_lt w) (cN12 _)) 61 0 (nrm_sz hs) (nrm_to he), f0_eq h (by decide), bit_c w]
      by_cases z : d 7 6 &&& (1 <<< (c &&& 31)) = 0
      · rw [if_pos z, if_neg (fun y => y z)]
      · rw [if_neg z, if_pos z]
theorem R_toName (hl : l.stackTraces = false) (h : JC u S A F d) (h1 : JC u S A F d1) (hc : ∀ c, 52 ≤ c → c ≠ 87 → d1 c = d c) {c p y : Int32} : CM l mX11_toName (n + 20) 0 [.ref 52, .int c, .int p, .int y] d1 (RK (isC (d 7 1) c ∧ isP (d 7 0) p) (inF y) (if crB d c then -1 else wfF u (nowW d) c.toNatClampNeg p y.toNatClampNeg 100 0) d1) NX := by
  have ho := h.2.1.2.1
  have ho' : okA (mW d1 (d 7 4)) := by rw [mW_s hc]; exact ho
  have hu := h.1.2.1
  have hk := h.2.1.2.2.1
  have hk' : mK u (aF (mW d1 (d 7 4))) d1 := by rw [mW_s hc]; exact mK_s hc hk
  have he := h.2.1.1
  have hs := h.1.2.2.1
  have qq := q_toName (n := n) (d := d1) (a := mW d1 (d 7 4)) (as := d1 73) (sk := d1 74) (c := c) (p := p) (y := y) hl hk' hu ho'
  rw [setM_id, mW_s hc] at qq
  refine qq.mono (fun v d' hz => rk_of h1 (mW_s hc _) hz ?_ ?_ ?_) (fun _ _ h => h.elim)
  · rw [f0_eq h (by decide), f0_eq h (by decide)]
  · exact fun _ => Iff.rfl
  · exact fun w _ => by
      rw [wfF_al hs he 100 0, f0_eq h (by decide), bit_c w.1]
      by_cases z : d 7 6 &&& (1 <<< (c &&& 31)) = 0
      · rw [if_pos z, if_neg (fun y => y z)]
      · rw [if_neg z, if_pos z]
theorem R_comesTo (hl : l.stackTraces = false) (h : JC u S A F d) (h1 : JC u S A F d1) (hc : ∀ c, 52 ≤ c → c ≠ 87 → d1 c = d c) {p : Int32} : CM l mX11_comesTo (n + 20) 0 [.ref 52, .int p] d1 (RK (isP (d 7 0) p) True (rcF (d 7 0) (d 10) 8 (po (d 7 0) (d 10) p) 0) d1) NX := by
  have ho := h.2.1.2.1
  have ho' : okA (mW d1 (d 7 4)) := by rw [mW_s hc]; exact ho
  have hu := h.1.2.1
  have hk := h.2.1.2.2.1
  have hk' : mK u (aF (mW d1 (d 7 4))) d1 := by rw [mW_s hc]; exact mK_s hc hk
  have he := h.2.1.1
  have hs := h.1.2.2.1
  have qq := q_comesTo (n := n) (d := d1) (a := mW d1 (d 7 4)) (as := d1 73) (sk := d1 74) (p := p) hl hk' ho'
  rw [setM_id, mW_s hc] at qq
  refine qq.mono (fun v d' hz => rk_of h1 (mW_s hc _) hz ?_ ?_ ?_) (fun _ _ h => h.elim)
  · rw [f0_eq h (by decide)]
  · exact fun _ => Iff.rfl
  · exact fun _ _ => by rw [← po_al he]; exact (rcF_al he _ _ _).symm
theorem R_steps (hl : l.stackTraces = false) (h : JC u S A F d) (h1 : JC u S A F d1) (hc : ∀ c, 52 ≤ c → c ≠ 87 → d1 c = d c) {p o : Int32} : CM l mX11_steps (n + 20) 0 [.ref 52, .int p, .int o] d1 (RK (isP (d 7 0) p ∧ isP (d 7 0) o) True (dsF (d 7 0) (d 10) o 8 0 p) d1) NX := by
  have ho := h.2.1.2.1
  have ho' : okA (mW d1 (d 7 4)) := by rw [mW_s hc]; exact ho
  have hu := h.1.2.1
  have hk := h.2.1.2.2.1
  have hk' : mK u (aF (mW d1 (d 7 4))) d1 := by rw [mW_s hc]; exact mK_s hc hk
  have he := h.2.1.1
  have hs := h.1.2.2.1
  have qq := q_steps (n := n) (d := d1) (a := mW d1 (d 7 4)) (as := d1 73) (sk := d1 74) (p := p) (o := o) hl hk' ho'
  rw [setM_id, mW_s hc] at qq
  refine qq.mono (fun v d' hz => rk_of h1 (mW_s hc _) hz ?_ ?_ ?_) (fun _ _ h => h.elim)
  · rw [f0_eq h (by decide)]
  · exact fun _ => Iff.rfl
  · exact fun w _ => (al_steps ho he w.1 w.2).symm
theorem R_toPay (hl : l.stackTraces = false) (h : JC u S A F d) (h1 : JC u S A F d1) (hc : ∀ c, 52 ≤ c → c ≠ 87 → d1 c = d c) {p sum x : Int32} : CM l mX11_toPay (n + 20) 0 [.ref 52, .int p, .int sum, .int x] d1 (RK (isP (d 7 0) p ∧ inW x 1) (inS 1 sum) (tyC (nowW d) p sum x) d1) NX := by
  have ho := h.2.1.2.1
  have ho' : okA (mW d1 (d 7 4)) := by rw [mW_s hc]; exact ho
  have hu := h.1.2.1
  have hk := h.2.1.2.2.1
  have hk' : mK u (aF (mW d1 (d 7 4))) d1 := by rw [mW_s hc]; exact mK_s hc hk
  have he := h.2.1.1
  have hs := h.1.2.2.1
  have qq := q_toPay (n := n) (d := d1) (a := mW d1 (d 7 4)) (as := d1 73) (sk := d1 74) (p := p) (sum := sum) (x := x) hl hk' ho'
  rw [setM_id, mW_s hc] at qq
  refine qq.mono (fun v d' hz => rk_of h1 (mW_s hc _) hz ?_ ?_ ?_) (fun _ _ h => h.elim)
  · rw [f0_eq h (by decide)]
  · exact fun _ => Iff.rfl
  · exact fun _ _ => (al_toPay ho he p sum x).symm
theorem R_change (hl : l.stackTraces = false) (h : JC u S A F d) (h1 : JC u S A F d1) (hc : ∀ c, 52 ≤ c → c ≠ 87 → d1 c = d c) {p o sum x : Int32} : CM l mX11_change (n + 20) 0 [.ref 52, .int p, .int o, .int sum, .int x] d1 (RK (isP (d 7 0) p ∧ isP (d 7 0) o ∧ inW x 1) (¬ p = o ∧ inS 0 sum) (cgC (nowW d) p o sum x) d1) NX := by
  have ho := h.2.1.2.1
  have ho' : okA (mW d1 (d 7 4)) := by rw [mW_s hc]; exact ho
  have hu := h.1.2.1
  have hk := h.2.1.2.2.1
  have hk' : mK u (aF (mW d1 (d 7 4))) d1 := by rw [mW_s hc]; exact mK_s hc hk
  have he := h.2.1.1
  have hs := h.1.2.2.1
  have qq := q_change (n := n) (d := d1) (a := mW d1 (d 7 4)) (as := d1 73) (sk := d1 74) (p := p) (o := o) (sum := sum) (x := x) hl hk' ho'
  rw [setM_id, mW_s hc] at qq
  refine qq.mono (fun v d' hz => rk_of h1 (mW_s hc _) hz ?_ ?_ ?_) (fun _ _ h => h.elim)
  · rw [f0_eq h (by decide)]
  · exact fun _ => Iff.rfl
  · exact fun w w2 => (al_change ho he (isP_m1 w.1) (isP_m1 w.2.1) w2.1 sum x).symm
theorem R_share (hl : l.stackTraces = false) (h : JC u S A F d) (h1 : JC u S A F d1) (hc : ∀ c, 52 ≤ c → c ≠ 87 → d1 c = d c) {p o x : Int32} : CM l mX11_share (n + 20) 0 [.ref 52, .int p, .int o, .int x] d1 (RK (isP (d 7 0) p ∧ isP (d 7 0) o ∧ inW x 1) (¬ p = o) (shC (nowW d) p o x) d1) NX := by
  have ho := h.2.1.2.1
  have ho' : okA (mW d1 (d 7 4)) := by rw [mW_s hc]; exact ho
  have hu := h.1.2.1
  have hk := h.2.1.2.2.1
  have hk' : mK u (aF (mW d1 (d 7 4))) d1 := by rw [mW_s hc]; exact mK_s hc hk
  have he := h.2.1.1
  have hs := h.1.2.2.1
  have qq := q_share (n := n) (d := d1) (a := mW d1 (d 7 4)) (as := d1 73) (sk := d1 74) (p := p) (o := o) (x := x) hl hk' ho'
  rw [setM_id, mW_s hc] at qq
  refine qq.mono (fun v d' hz => rk_of h1 (mW_s hc _) hz ?_ ?_ ?_) (fun _ _ h => h.elim)
  · rw [f0_eq h (by decide)]
  · exact fun _ => Iff.rfl
  · exact fun w _ => (al_share ho he p o w.2.2).symm
theorem R_lacks (hl : l.stackTraces = false) (h : JC u S A F d) (h1 : JC u S A F d1) (hc : ∀ c, 52 ≤ c → c ≠ 87 → d1 c = d c) {p : Int32} : CM l mX11_lacks (n + 20) 0 [.ref 52, .int p] d1 (RK (isP (d 7 0) p) True (luR (d 11) (1, monA (nowW d) p) 12).1 d1) NX := by
  have ho := h.2.1.2.1
  have ho' : okA (mW d1 (d 7 4)) := by rw [mW_s hc]; exact ho
  have hu := h.1.2.1
  have hk := h.2.1.2.2.1
  have hk' : mK u (aF (mW d1 (d 7 4))) d1 := by rw [mW_s hc]; exact mK_s hc hk
  have he := h.2.1.1
  have hs := h.1.2.2.1
  have qq := q_lacks (n := n) (d := d1) (a := mW d1 (d 7 4)) (as := d1 73) (sk := d1 74) (p := p) hl hk' ho'
  rw [setM_id, mW_s hc] at qq
  refine qq.mono (fun v d' hz => rk_of h1 (mW_s hc _) hz ?_ ?_ ?_) (fun _ _ h => h.elim)
  · rw [f0_eq h (by decide)]
  · exact fun _ => Iff.rfl
  · exact fun w _ => (al_lacks ho he (isP_m1 w)).symm
theorem R_needy (hl : l.stackTraces = false) (h : JC u S A F d) (h1 : JC u S A F d1) (hc : ∀ c, 52 ≤ c → c ≠ 87 → d1 c = d c) {x : Int32} : CM l mX11_needy (n + 20) 0 [.ref 52, .int x] d1 (RK (inW x 2) True (nyC u d S x) d1) NX := by
  have ho := h.2.1.2.1
  have ho' : okA (mW d1 (d 7 4)) := by rw [mW_s hc]; exact ho
  have hu := h.1.2.1
  have hk := h.2.1.2.2.1
  have hk' : mK u (aF (mW d1 (d 7 4))) d1 := by rw [mW_s hc]; exact mK_s hc hk
  have he := h.2.1.1
  have hs := h.1.2.2.1
  have qq := q_needy (n := n) (d := d1) (a := mW d1 (d 7 4)) (as := d1 73) (sk := d1 74) (x := x) hl hk' hu ho' h.1.2.2.2.2.1.1 (by rw [hc 52 (by decide) (by decide)]; exact h.2.2.1.2.1) (fun i hi => by rw [hc 77 (by decide) (by decide), ← (h.2.2.1.2.2.1 i hi).1]; exact h.1.2.2.2.2.1.2.2 i hi)
  rw [setM_id, mW_s hc] at qq
  refine qq.mono (fun v d' hz => rk_of h1 (mW_s hc _) hz ?_ ?_ ?_) (fun _ _ h => h.elim)
  · exact Iff.rfl
  · exact fun _ => Iff.rfl
  · rw [hc 77 (by decide) (by decide), hc 76 (by decide) (by decide)]; exact fun w _ => (al_needy hs he h.2.2.1.2.2.1 h.1.2.2.2.2.1.2.2 rfl rfl rfl w).symm
theorem R_look (hl : l.stackTraces = false) (h : JC u S A F d) (h1 : JC u S A F d1) (hc : ∀ c, 52 ≤ c → c ≠ 87 → d1 c = d c) {x : Int32} : CM l mX11_look (n + 20) 0 [.ref 52, .int x] d1 (RK (inW x 1) True (lkC u d S x) d1) NX := by
  have ho := h.2.1.2.1
  have ho' : okA (mW d1 (d 7 4)) := by rw [mW_s hc]; exact ho
  have hu := h.1.2.1
  have hk := h.2.1.2.2.1
  have hk' : mK u (aF (mW d1 (d 7 4))) d1 := by rw [mW_s hc]; exact mK_s hc hk
  have he := h.2.1.1
  have hs := h.1.2.2.1
  have qq := q_look (n := n) (d := d1) (a := mW d1 (d 7 4)) (as := d1 73) (sk := d1 74) (x := x) hl hk' hu ho' h.1.2.2.2.2.1.1 (by rw [hc 52 (by decide) (by decide)]; exact h.2.2.1.2.1) (fun i hi => by rw [hc 77 (by decide) (by decide), ← (h.2.2.1.2.2.1 i hi).1]; exact h.1.2.2.2.2.1.2.2 i hi)
  rw [setM_id, mW_s hc] at qq
  refine qq.mono (fun v d' hz => rk_of h1 (mW_s hc _) hz ?_ ?_ ?_) (fun _ _ h => h.elim)
  · exact Iff.rfl
  · exact fun _ => Iff.rfl
  · rw [hc 77 (by decide) (by decide), hc 76 (by decide) (by decide)]; exact fun _ _ => (al_look hs he h.2.2.1.2.2.1 h.1.2.2.2.2.1.2.2 rfl rfl rfl x).symm
theorem R_thieves (hl : l.stackTraces = false) (h : JC u S A F d) (h1 : JC u S A F d1) (hc : ∀ c, 52 ≤ c → c ≠ 87 → d1 c = d c) {p y th : Int32} : CM l mX11_thieves (n + 20) 0 [.ref 52, .int p, .int y, .int th] d1 (RK (isP (d 7 0) p) ((1 ≤ y ∧ y ≤ 5) ∧ 0 ≤ th ∧ th ≤ 10) (chF u (nowW d) p th y.toNatClampNeg (2 ^ y.toNatClampNeg)) d1) NX := by
  have ho := h.2.1.2.1
  have ho' : okA (mW d1 (d 7 4)) := by rw [mW_s hc]; exact ho
  have hu := h.1.2.1
  have hk := h.2.1.2.2.1
  have hk' : mK u (aF (mW d1 (d 7 4))) d1 := by rw [mW_s hc]; exact mK_s hc hk
  have he := h.2.1.1
  have hs := h.1.2.2.1
  have qq := q_thieves (n := n) (d := d1) (a := mW d1 (d 7 4)) (as := d1 73) (sk := d1 74) (p := p) (y := y) (th := th) hl hk' hu ho'
  rw [setM_id, mW_s hc] at qq
  refine qq.mono (fun v d' hz => rk_of h1 (mW_s hc _) hz ?_ ?_ ?_) (fun _ _ h => h.elim)
  · rw [f0_eq h (by decide)]
  · exact fun _ => Iff.rfl
  · exact fun _ w => by
      obtain ⟨k, hk5, ek⟩ := nI_of2 (x := y) (n := 5) (M := 5) rfl (fun z => absurd w.1.1 (Int32.not_le.mpr (Int32.lt_trans z (by decide)))) w.1.2
      exact (chF_al hs he w.2.1 w.2.2 (by rw [ek, nI_clamp (by omega)]; exact hk5) _).symm
theorem R_game (hl : l.stackTraces = false) (h : JC u S A F d) (h1 : JC u S A F d1) (hc : ∀ c, 52 ≤ c → c ≠ 87 → d1 c = d c) {p q x : Int32} : CM l mX11_game (n + 20) 0 [.ref 52, .int p, .int q, .int x] d1 (RK (isP (d 7 0) p ∧ isP (d 7 0) q ∧ inW x 1) (¬ p = q) (gmC u d p q x) d1) NX := by
  have ho := h.2.1.2.1
  have ho' : okA (mW d1 (d 7 4)) := by rw [mW_s hc]; exact ho
  have hu := h.1.2.1
  have hk := h.2.1.2.2.1
  have hk' : mK u (aF (mW d1 (d 7 4))) d1 := by rw [mW_s hc]; exact mK_s hc hk
  have he := h.2.1.1
  have hs := h.1.2.2.1
  have qq := q_game (n := n) (d := d1) (a := mW d1 (d 7 4)) (as := d1 73) (sk := d1 74) (p := p) (q := q) (x := x) hl hk' hu ho'
  rw [setM_id, mW_s hc] at qq
  refine qq.mono (fun v d' hz => rk_of h1 (mW_s hc _) hz ?_ ?_ ?_) (fun _ _ h => h.elim)
  · rw [f0_eq h (by decide)]
  · exact fun _ => Iff.rfl
  · exact fun _ _ => (al_game hs ho he rfl p q x).symm
theorem R_ages (hl : l.stackTraces = false) (h : JC u S A F d) (h1 : JC u S A F d1) (hc : ∀ c, 52 ≤ c → c ≠ 87 → d1 c = d c) {s0 y x : Int32} : CM l mX11_ages (n + 20) 0 [.ref 52, .int s0, .int y, .int x] d1 (RK (inW x 2) (inF y) (agC d (ageA u (nowW d) s0 y.toNatClampNeg).1 x) d1) NX := by
  have ho := h.2.1.2.1
  have ho' : okA (mW d1 (d 7 4)) := by rw [mW_s hc]; exact ho
  have hu := h.1.2.1
  have hk := h.2.1.2.2.1
  have hk' : mK u (aF (mW d1 (d 7 4))) d1 := by rw [mW_s hc]; exact mK_s hc hk
  have he := h.2.1.1
  have hs := h.1.2.2.1
  have qq := q_ages (n := n) (d := d1) (a := mW d1 (d 7 4)) (as := d1 73) (sk := d1 74) (s0 := s0) (y := y) (x := x) hl hk' hu ho'
  rw [setM_id, mW_s hc] at qq
  refine qq.mono (fun v d' hz => rk_of h1 (mW_s hc _) hz ?_ ?_ ?_) (fun _ _ h => h.elim)
  · exact Iff.rfl
  · exact fun _ => Iff.rfl
  · exact fun _ _ => (al_ages hs ho he rfl _).symm
end Asks
