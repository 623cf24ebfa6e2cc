/-! BOTH SIDES TOGETHER: mint -/
section Own5
variable {l : Launch} {n : Nat} {a b : AW} {u : RU} {S A F : Nat} {d d1 d2 : DS}
def HM (F : Nat) (x : Int32) (d : DS) (k z : Int32) (d1 : DS) : Prop := ((0 ≤ x ∧ x ≤ nI F) ∧ k = 0 ∧ ∃ dC, mtQ d x.toNatClampNeg (some (.int z)) dC ∧ d1 = dset dC 87 0 z) ∨ (¬ (0 ≤ x ∧ x ≤ nI F) ∧ k = 1 ∧ d1 = d)
theorem tape_eq (h : JC u S A F d) : d 67 = byD d := funext (fun i => h.2.2.2.1.2.2.2.1 i)
theorem JC.badT (h : JC u S A F d) {e : Int32 × Nat} (f1 : fr (87 :: 0 :: 6 :: CSL) d d1) (h0 : d1 0 = upd (upd (d 0) 12 0) 13 (nI e.2)) (h6 : d1 6 = upd (d 6) 0 (d 6 0 + 1)) (hb : badM d1 e d2) : JC u S A 0 d2 := by
  obtain ⟨b1, b2, b3, b4, b5, b6, b7⟩ := hb
  obtain ⟨⟨c1, c2, c3, c4, c5, c6⟩, ⟨w1, w2, w3, w4⟩, ⟨m1, m2, m3, m4, m5⟩, ⟨t1, t2, t3, t4, t5⟩, hi⟩ := h
  have g : ∀ c, c ∉ 87 :: 0 :: 6 :: 65 :: (CSL ++ CSM) → d2 c = d c := fun c hc => by
    rw [b1 c (fun z => hc (by revert z; simp only [List.mem_cons, List.mem_append, List.not_mem_nil, or_false]; omega)), f1 c (fun z => hc (by revert z; simp only [List.mem_cons, List.mem_append, List.not_mem_nil, or_false]; omega))]
  have e1 : ∀ c, 50 ≤ c → c ≠ 87 → d1 c = d c := fun c h5 h8 => f1 c (by simp only [List.mem_cons, List.not_mem_nil, or_false, not_or]; omega)
  have hh : ∀ c, 56 ≤ c → c ≤ 64 → ∀ i, i < hfM c → d2 c i = d c i := fun c x y i hi => by rw [b2 c x y i hi, e1 c (by omega) (by omega)]
  have s : ∀ k, k ≤ 2 ∨ (5 ≤ k ∧ k ≤ 16) ∨ 28 ≤ k → d2 52 k = d 52 k := fun k hk => by rw [b4 k hk, e1 52 (by decide) (by decide)]
  have e7 := g 7 (by decide)
  have eN : nowW d2 = nowW d := by
    show (d2 7, d2 8, d2 9, d2 10, d2 11, d2 12) = (d 7, d 8, d 9, d 10, d 11, d 12)
    rw [g 7 (by decide), g 8 (by decide), g 9 (by decide), g 10 (by decide), g 11 (by decide), g 12 (by decide)]
  have eF : ∀ bg k, k < 7 → mF d2 bg k = mF d bg k := by
    intro bg k hk
    unfold mF
    rw [hh 56 (by decide) (by decide) 0 (by decide), hh 56 (by decide) (by decide) 2 (by decide), s 34 (by decide), s 33 (by decide), s 35 (by decide), s 36 (by decide)]
    match k, hk with
    | 0, _ => rfl
    | 1, _ => rfl
    | 2, _ => rfl
    | 3, _ => rfl
    | 4, _ => rfl
    | 5, _ => rfl
    | 6, _ => rfl
  have eP : pNf (mF d2 (d 7 4)) = pNf (mF d (d 7 4)) := by unfold pNf; rw [eF _ 0 (by decide)]
  have p8 := pN8 (mF d (d 7 4))
  have p8' := pN8 (d 7)
  have d20 : d2 0 = upd (upd (d 0) 12 0) 13 (nI e.2) := by rw [b1 0 (by decide), h0]
  refine ⟨⟨?_, c2, by rw [eN]; exact c3, ?_, by rw [g 2 (by decide), g 4 (by decide)]; exact c5, by rw [g 2 (by decide)]; exact c6⟩, ⟨?_, ?_, ?_, ?_⟩, ⟨?_, ?_, ?_, ?_, ?_⟩, ⟨Nat.zero_le _, ?_, ?_, ?_, ?_⟩, ?_⟩
  · rw [g 33 (by decide), g 34 (by decide)]; exact c1
  · rw [g 45 (by decide), g 46 (by decide)]; exact c4
  · rw [eN, e7]
    refine w1.trans ⟨fun k hk => (eF _ k hk).symm, fun p hp => ?_, fun c hc => ?_⟩ (by decide)
    · show d 66 p = d2 66 p ∧ d 70 p = d2 70 p ∧ d 71 p = d2 71 p
      rw [g 66 (by decide), g 70 (by decide), g 71 (by decide)]; exact ⟨rfl, rfl, rfl⟩
    · show d 68 c = d2 68 c ∧ d 69 c = d2 69 c
      rw [g 68 (by decide), g 69 (by decide)]; exact ⟨rfl, rfl⟩
  · rw [e7]
    refine ok_congr w2 (fun k hk _ _ => eF _ k hk) (fun p hp => ?_) (fun c hc => ?_)
    · show d2 70 p = d 70 p ∧ d2 71 p = d 71 p
      rw [g 70 (by decide), g 71 (by decide)]; exact ⟨rfl, rfl⟩
    · show d2 68 c = d 68 c ∧ d2 69 c = d 69 c
      rw [g 68 (by decide), g 69 (by decide)]; exact ⟨rfl, rfl⟩
  · rw [e7]
    obtain ⟨k1, k2, k3, k4, k5, k6, k7, k8, k9⟩ := w3
    unfold mK
    rw [eF _ 0 (by decide), eF _ 3 (by decide), eF _ 4 (by decide), eP, hh 56 (by decide) (by decide) 0 (by decide), hh 56 (by decide) (by decide) 2 (by decide), hh 56 (by decide) (by decide) 3 (by decide), hh 56 (by decide) (by decide) 4 (by decide)]
    refine ⟨k1, k2, k3, k4, fun p hp => ?_, fun i x hx => ?_, fun i x hx => ?_, k8, k9⟩
    · rw [hh 57 (by decide) (by decide) p (by show p < 8; omega)]; exact k5 p hp
    · have hl : i < u.1.length := by have := (List.getElem?_eq_some_iff.mp hx).1; rwa [List.length_map] at this
      rw [hh 63 (by decide) (by decide) (0 + i) (by show 0 + i < 700; omega)]; exact k6 i x hx
    · have hl : i < u.2.length := by have := (List.getElem?_eq_some_iff.mp hx).1; rwa [List.length_map] at this
      rw [hh 64 (by decide) (by decide) (0 + i) (by show 0 + i < 700; omega)]; exact k7 i x hx
  · rw [e7]
    intro p hp
    rw [hh 57 (by decide) (by decide) p (by show p < 8; omega)]; exact w4 p hp
  · rw [s 37 (by decide)]; exact m1
  · rw [s 38 (by decide)]; exact m2
  · rw [g 4 (by decide), g 77 (by decide), g 3 (by decide), g 76 (by decide)]; exact m3
  · rw [e7, g 5 (by decide), g 72 (by decide)]; exact m4
  · intro i hi3
    rw [b1 6 (by decide), h6, b3, e1 65 (by decide) (by decide)]
    exact upd_congr (fun _ => m5 i hi3) (by rw [m5 0 (by decide)])
  · rw [d20, upd_other _ _ (by decide), upd_same]; rfl
  · rw [b6]; rfl
  · rw [g 67 (by decide), g 1 (by decide)]; exact t4
  · rw [d20, upd_same, b7]
  · unfold imJ imW at hi ⊢
    rw [d20, upd_other _ _ (by decide), upd_other _ _ (by decide), s 51 (by decide), s 52 (by decide), s 53 (by decide), e7, g 8 (by decide), g 14 (by decide), g 15 (by decide), g 16 (by decide), g 17 (by decide), g 18 (by decide), g 19 (by decide), g 20 (by decide), g 21 (by decide), g 22 (by decide), g 23 (by decide), g 24 (by decide), g 82 (by decide), g 83 (by decide), g 84 (by decide), g 85 (by decide), g 86 (by decide)]
    exact hi
theorem get_lt {α : Type} {L : List α} {i : Nat} (h : i < L.length) : ∃ q, L[i]? = some q := ⟨L[i], List.getElem?_eq_getElem h⟩
theorem JC.newT (h : JC u S A F d) {t : TS} (hok : okTx t) (f1 : fr (87 :: ([0, 2, 7, 8, 9, 10, 11, 12, 33, 34] ++ CSL)) d d1) (h0 : d1 0 = upd (upd (upd (d 0) 12 0) 13 (-1)) 14 0) (h2 : d1 2 = upd (upd (d 2) 4 0) 3 0) (h7 : tF7 t d1) (hn : newM d1 t d2) : JC (t.2.2.2.1, t.2.2.2.2) 0 0 0 d2 := by
  obtain ⟨n1, n2, ⟨n4, n17, n26, n33, n34, n35, n36, n37, n38, n51⟩, ⟨q0, q2, q3, q4⟩, qn, qs, qp, qP, qc, qC, t8, t12⟩ := hn
  obtain ⟨⟨v0, v1, v2, v3, v5, v6, -, -⟩, vp, vc, vC, vr⟩ := h7
  obtain ⟨o1, o2, ⟨mm, o3, o3'⟩, o4, -, -⟩ := hok
  have g : ∀ c, c ∉ 87 :: 0 :: 2 :: 7 :: 8 :: 9 :: 10 :: 11 :: 12 :: 33 :: 34 :: 52 :: 56 :: 57 :: 58 :: 59 :: 60 :: 61 :: 62 :: 63 :: 64 :: 66 :: 68 :: 69 :: 70 :: 71 :: CSL → d2 c = d c := fun c hc => by
    rw [n1 c (fun z => hc (by revert z; simp only [List.mem_cons, List.mem_append, List.not_mem_nil, or_false]; omega)), f1 c (fun z => hc (by revert z; simp only [List.mem_cons, List.mem_append, List.not_mem_nil, or_false]; omega))]
  have k : ∀ c, c ∉ [52, 56, 57, 58, 59, 60, 61, 62, 63, 64, 66, 68, 69, 70, 71] → d2 c = d1 c := n1
  have e7 := k 7 (by decide)
  have pN : pNf (d1 7) = t.1.length := by unfold pNf; rw [v0, nI_clamp (by omega)]; omega
  have cN : cNf (d1 7) = t.2.1.length := by unfold cNf; rw [v1, nI_clamp (by omega)]; omega
  have mP : pNf (mF d2 (d2 7 4)) = t.1.length := by unfold pNf; rw [show mF d2 (d2 7 4) 0 = d2 56 0 from rfl, q0, nI_clamp (by omega)]; omega
  have mC : cNf (mF d2 (d2 7 4)) = t.2.1.length := by unfold cNf; rw [show mF d2 (d2 7 4) 1 = d2 52 34 from rfl, n34, nI_clamp (by omega)]; omega
  have eN : nowW d2 = nowW d1 := by
    show (d2 7, d2 8, d2 9, d2 10, d2 11, d2 12) = (d1 7, d1 8, d1 9, d1 10, d1 11, d1 12)
    rw [k 7 (by decide), k 8 (by decide), k 9 (by decide), k 10 (by decide), k 11 (by decide), k 12 (by decide)]
  have hz : ∀ c, (0 : Int32) &&& bit c = 0 := fun c => Int32.zero_and
  have pay : ∀ i q, t.1[i]? = some q → (if isP (nI t.1.length) q.2.2.1 then q.2.2.1 else -1) = (if nI t.1.length ≤ q.2.2.1 then -1 else q.2.2.1) ∧ ((if isP (nI t.1.length) q.2.2.1 then q.2.2.1 else -1) = -1 ∨ ∃ z, z < t.1.length ∧ ¬ z = i ∧ (if isP (nI t.1.length) q.2.2.1 then q.2.2.1 else -1) = nI z) := by
    intro i q hq
    rcases (o1 i q hq).2.2.1 with e | ⟨z, hz8, e, hne⟩
    · rw [e, if_neg not_isP]
      exact ⟨by split <;> rfl, Or.inl rfl⟩
    · rw [e]
      rcases Nat.lt_or_ge z t.1.length with y | y
      · rw [if_pos (isP_mk t8 y), if_neg (nI_ge y (by omega))]
        exact ⟨rfl, Or.inr ⟨z, y, hne, rfl⟩⟩
      · rw [if_neg (fun w => absurd w.2.1 (Int32.not_lt.mpr (nI_leq y (by omega)))), if_pos (nI_leq y (by omega))]
        exact ⟨rfl, Or.inl rfl⟩
  obtain ⟨a4, a6, vr⟩ := vr
  refine ⟨⟨⟨a4, a6, by rw [k 33 (by decide), k 34 (by decide)]; exact vr⟩, o4, ?_, ?_, ⟨by decide, ?_, fun i hi => absurd hi (by omega)⟩, by decide, ?_⟩, ⟨?_, ?_, ?_, ?_⟩, ⟨n37, n38, fun i hi => absurd hi (by omega), fun i hi => absurd hi (by omega), ?_⟩, ⟨by decide, ?_, n17, ?_, ?_⟩, Or.inl ⟨?_, n51⟩⟩
  · rw [eN]
    show d1 7 0 = nI (pNf (d1 7)) ∧ d1 7 1 = nI (cNf (d1 7))
    rw [pN, cN]; exact ⟨v0, v1⟩
  · rw [g 45 (by decide), g 46 (by decide)]; exact h.1.2.2.2.1
  · rw [k 2 (by decide), h2, upd_same]; rfl
  · rw [k 2 (by decide), h2, upd_other _ _ (by decide), upd_same]; rfl
  · rw [eN]
    refine ⟨fun j hj => ?_, fun p hp => ?_, fun c hc => ?_⟩
    · show d1 7 j = mF d2 (d2 7 4) j
      match j, hj with
      | 0, _ => exact v0.trans q0.symm
      | 1, _ => exact v1.trans n34.symm
      | 2, _ => exact v2.trans n33.symm
      | 3, _ => exact v3.trans q2.symm
      | 4, _ => exact (congrFun e7 4).symm
      | 5, _ => exact v5.trans n35.symm
      | 6, _ => exact v6.trans n36.symm
    · have hp : p < pNf (d1 7) := hp
      rw [pN] at hp
      obtain ⟨q, hq⟩ := get_lt hp
      obtain ⟨x1, x2, x3, -⟩ := vp p q hq
      obtain ⟨-, y1, y2, y3⟩ := qp p q hq
      show d1 8 p = d2 66 p ∧ d1 9 p = d2 70 p ∧ d1 10 p = d2 71 p
      rw [x1, x2, x3, y1, y2, y3]
      exact ⟨rfl, rfl, (pay p q hq).1⟩
    · show d1 11 c = d2 68 c ∧ d1 12 c = d2 69 c
      rcases Nat.lt_or_ge c t.2.1.length with y | y
      · obtain ⟨q, hq⟩ := get_lt y
        rw [(vc c q hq).1, (vc c q hq).2, (qc c q hq).1, (qc c q hq).2]; exact ⟨rfl, rfl⟩
      · rw [(vC c y hc).1, (vC c y hc).2, (qC c y hc).1, (qC c y hc).2]; exact ⟨rfl, rfl⟩
  · refine ⟨⟨?_, ?_⟩, ?_, fun c hc => ?_, fun c h1 h3 => ?_, fun p hp => ?_, fun c hc => ?_, ⟨0, by decide, n36⟩, ⟨0, by decide, n35⟩⟩
    · show d2 56 0 = nI (pNf (mF d2 (d2 7 4))); rw [mP]; exact q0
    · show d2 52 34 = nI (cNf (mF d2 (d2 7 4))); rw [mC]; exact n34
    · show ∃ m, 1 ≤ m ∧ m ≤ 9 ∧ d2 56 2 = nI m
      rw [q2]
      by_cases z : t.2.2.1 = 0
      · rw [if_pos z]; exact ⟨4, by decide, by decide, rfl⟩
      · rw [if_neg z]
        refine ⟨mm, ?_, o3, o3'⟩
        rcases Nat.eq_zero_or_pos mm with y | y
        · rw [y] at o3'; exact absurd o3' z
        · exact y
    · have hc : c < cNf (mF d2 (d2 7 4)) := hc
      rw [mC] at hc
      obtain ⟨q, hq⟩ := get_lt hc
      obtain ⟨-, z, hz1, hz2⟩ := o2 q (List.mem_of_getElem? hq)
      refine Or.inl ⟨?_, z, ?_, ?_⟩
      · show d2 52 36 &&& bit c = 0; rw [n36]; exact hz c
      · show z < pNf (mF d2 (d2 7 4)); rw [mP]; exact hz1
      · show d2 69 c = nI z; rw [(qc c q hq).2]; exact hz2
    · have h1 : cNf (mF d2 (d2 7 4)) ≤ c := h1
      rw [mC] at h1
      refine ⟨(qC c h1 h3).2, (qC c h1 h3).1, ?_, ?_⟩
      · show d2 52 36 &&& bit c = 0; rw [n36]; exact hz c
      · show d2 52 35 &&& bit c = 0; rw [n35]; exact hz c
    · have hp : p < pNf (mF d2 (d2 7 4)) := hp
      rw [mP] at hp
      obtain ⟨q, hq⟩ := get_lt hp
      obtain ⟨-, y1, y2, y3⟩ := qp p q hq
      have hpay := pay p q hq
      refine ⟨?_, ?_⟩
      · show d2 71 p = -1 ∨ ∃ z, z < pNf (mF d2 (d2 7 4)) ∧ ¬ z = p ∧ d2 71 p = nI z
        rw [mP, y3, ← hpay.1]; exact hpay.2
      · show ∃ y, y ≤ 30 ∧ d2 70 p = nI y
        rw [y2]; exact (o1 p q hq).2.1
    · show ∃ w, w ≤ 99 ∧ d2 68 c = nI w
      rcases Nat.lt_or_ge c t.2.1.length with y | y
      · obtain ⟨q, hq⟩ := get_lt y
        rw [(qc c q hq).1]; exact (o2 q (List.mem_of_getElem? hq)).1
      · rw [(qC c y hc).1]; exact ⟨0, by decide, rfl⟩
  · have hl4 : a4 + t.2.2.2.1.length ≤ 700 := vr.2.2.1
    have hl6 : a6 + t.2.2.2.2.length ≤ 700 := vr.2.2.2.2.2.1
    refine ⟨rfl, rfl, q3, q4, fun p hp => ?_, fun i x hx => ?_, fun i x hx => ?_, ?_, ?_⟩
    · rw [mP] at hp
      obtain ⟨q, hq⟩ := get_lt hp
      obtain ⟨y0, -⟩ := qp p q hq
      obtain ⟨-, -, -, x4⟩ := vp p q hq
      rw [y0]
      show q.2.2.2 = 1 ↔ ¬ d2 7 4 &&& bit p = 0
      rw [e7, x4]
      rcases (o1 p q hq).2.2.2 with z | z
      · rw [z]; exact ⟨fun w => absurd w (by decide), fun w => absurd rfl w⟩
      · rw [z]; exact ⟨fun _ => by decide, fun _ => rfl⟩
    · have hl : i < t.2.2.2.1.length := by have := (List.getElem?_eq_some_iff.mp hx).1; rwa [List.length_map] at this
      rw [Nat.zero_add]; exact qn i x (by omega) hx
    · have hl : i < t.2.2.2.2.length := by have := (List.getElem?_eq_some_iff.mp hx).1; rwa [List.length_map] at this
      rw [Nat.zero_add]; exact qs i x (by omega) hx
    · show t.2.2.2.1.length ≤ 700; omega
    · show t.2.2.2.2.length ≤ 700; omega
  · intro p hp
    rw [e7, pN] at hp
    obtain ⟨q, hq⟩ := get_lt hp
    rw [(qp p q hq).1]; exact (o1 p q hq).2.2.2
  · intro i hi
    rw [g 6 (by decide), g 65 (by decide)]; exact h.2.2.1.2.2.2.2 i hi
  · rw [k 0 (by decide), h0, upd_other _ _ (by decide), upd_other _ _ (by decide), upd_same]; rfl
  · rw [g 67 (by decide), g 1 (by decide)]; exact h.2.2.2.1.2.2.2.1
  · rw [k 0 (by decide), h0, upd_other _ _ (by decide), upd_same, n26]
  · rw [k 0 (by decide), h0, upd_same]
theorem R_mint (hl : l.stackTraces = false) (h : JC u S A F d) {x k z : Int32} (hA : HM F x d k z d1) : CM l mX11_mint (n + 60) 0 [.ref 52, .int x] d1 (PQ k z d1) NX := by
  have t1 : F ≤ 700 := h.2.2.2.1.1
  have hc : ∀ c, 50 ≤ c → c ≠ 87 → d1 c = d c := by
    intro c hc h87
    rcases hA with ⟨-, -, dC, hq, rfl⟩ | ⟨-, -, rfl⟩
    · rw [ds_n _ _ _ h87]
      unfold mtQ at hq
      generalize rdD d x.toNatClampNeg = R at hq
      cases R with
      | inl e => exact hq.2.2.1 c (by simp only [List.mem_cons, List.not_mem_nil, or_false, not_or]; omega)
      | inr t => exact hq.2.2.1 c (by simp only [List.mem_cons, List.mem_append, List.not_mem_nil, or_false, not_or]; omega)
    · rfl
  have e67 : d1 67 = byD d := (hc 67 (by decide) (by decide)).trans (tape_eq h)
  have e52 : d1 52 17 = nI F := by rw [hc 52 (by decide) (by decide)]; exact h.2.2.2.1.2.2.1
  refine (m_mint (n := n) (F := F) (x := x) hl t1 e52 (fun N hN => by rw [e67]; exact byD_tx d hN)).mono (fun v d2 hz => ?_) (fun _ _ h => h.elim)
  rcases hz with ⟨z1, rfl, rfl⟩ | ⟨z1, hz⟩
  · rcases hA with ⟨w1, -⟩ | ⟨w1, rfl, rfl⟩
    · exact absurd w1 z1
    · refine ⟨0, rfl, ⟨u, S, A, F, h.keep ⟨fr.rfl.set (by decide) _ _, fun j hj => ?_, ?_, ?_⟩⟩, by rw [ds_s, upd_same], fun w => absurd w (by decide), ds_n _ _ _ (by decide)⟩
      · rw [ds_s, upd_other _ _ (by unfold slJ at hj; omega)]
      · rw [ds_n _ _ _ (by decide)]; exact h.1.2.2.2.1.1
      · rw [ds_n _ _ _ (by decide)]; exact h.1.2.2.2.1.2
  · rcases hA with ⟨-, rfl, dC, hq, rfl⟩ | ⟨w1, -⟩
    rotate_left
    · exact absurd z1 w1
    have er : rdM0 (dset dC 87 0 z) x.toNatClampNeg = rdD d x.toNatClampNeg := by unfold rdM0; rw [e67]
    rw [er] at hz
    unfold mtQ at hq
    unfold mtM at hz
    generalize rdD d x.toNatClampNeg = R at hq hz
    cases R with
    | inl e =>
      obtain ⟨-, q1, q2, q3, q4⟩ := hq
      obtain ⟨p1, p2⟩ := hz
      have hb := p2
      obtain ⟨b1, -, -, -, b4, -⟩ := hb
      have ez : z = e.1 := by cases q1; rfl
      refine ⟨e.1, p1, ⟨u, S, A, 0, h.badT (e := e) (d1 := dset dC 87 0 z) ?_ ?_ ?_ p2⟩, b4, fun _ => ez, b1 87 (by decide)⟩
      · exact (q2.mono (fun c hc => List.mem_cons_of_mem _ hc)).set (List.mem_cons_self) _ _
      · rw [ds_n _ _ _ (by decide)]; exact q3
      · rw [ds_n _ _ _ (by decide)]; exact q4
    | inr t =>
      obtain ⟨q0, q1, q2, q3, q4, q5⟩ := hq
      obtain ⟨p1, p2⟩ := hz
      have hb := p2
      obtain ⟨b1, -, ⟨b4, -⟩, -⟩ := hb
      have ez : z = 0 := by cases q1; rfl
      refine ⟨0, p1, ⟨_, 0, 0, 0, h.newT (d1 := dset dC 87 0 z) q0 ?_ ?_ ?_ ?_ p2⟩, b4, fun _ => ez, b1 87 (by decide)⟩
      · exact (q2.mono (fun c hc => List.mem_cons_of_mem _ hc)).set (List.mem_cons_self) _ _
      · rw [ds_n _ _ _ (by decide)]; exact q3
      · rw [ds_n _ _ _ (by decide)]; exact q4
      · unfold tF7 at q5 ⊢
        rw [ds_n _ _ _ (by decide), ds_n _ _ _ (by decide), ds_n _ _ _ (by decide), ds_n _ _ _ (by decide), ds_n _ _ _ (by decide), ds_n _ _ _ (by decide), ds_n _ _ _ (by decide), ds_n _ _ _ (by decide)]
        exact q5
end Own5
