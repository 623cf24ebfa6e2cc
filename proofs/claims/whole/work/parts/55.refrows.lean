/-! THE REFERENCE: rows that keep a world -/
def rowM (r : Nat → Int32) (t : Nat) (a : AW) : Prop := r t = aF a 2 ∧ r (t + 1) = aF a 1 ∧ r (t + 2) = aF a 5 ∧ r (t + 3) = aF a 6 ∧ (∀ c, c < 12 → r (t + (4 + c)) = aWo a c ∧ r (t + (16 + c)) = aHo a c) ∧ ∀ p, p < 8 → r (t + (28 + p)) = aSo a p ∧ r (t + (36 + p)) = aPa a p
def pkR (a : AW) (t : Nat) (h r : Nat → Int32) : Prop := (∀ i, i < t ∨ t + 44 ≤ i → r i = h i) ∧ rowM r t a
def a7 (a : AW) (p : Int32) : AW := (upd (aF a) 7 p, aNe a, aSo a, aPa a, aWo a, aHo a)
theorem a7_eq (a : AW) (p : Int32) : eqA 7 (a7 a p) a := ⟨fun k hk => upd_other _ _ (by omega), fun _ _ => ⟨rfl, rfl, rfl⟩, fun _ _ => ⟨rfl, rfl⟩⟩
theorem ok_a7 {a : AW} (h : okA a) (p : Int32) : okA (a7 a p) := ok_set h (up_lt (by decide)) rfl (fun _ _ => Or.inl rfl)
theorem st_a7 {a : AW} (p : Int32) : stA a (a7 a p) := ⟨upd_other (aF a) (k := 7) (j := 0) p (by decide), upd_other (aF a) (k := 7) (j := 3) p (by decide), upd_other (aF a) (k := 7) (j := 4) p (by decide), rfl⟩
def mq (d d' : DS) : Prop := fr [52, 73, 74, 75, 78, 79, 80, 81] d d' ∧ ∀ k, k ≠ 4 → k ≠ 41 → k ≠ 48 → k ≠ 50 → d' 52 k = d 52 k
theorem mf_a7 {g f : Nat → Int32} {p : Int32} {k : Nat} (h : k ≠ 41) : mf g (upd f 7 p) k = mf g f k := by
  unfold mf
  rw [upd_other _ _ (by decide), upd_other _ _ (by decide), upd_other _ _ (by decide), upd_other _ _ (by decide), if_neg h, if_neg h]
theorem mf_mF (d : DS) (bg : Int32) (k : Nat) : mf (d 52) (mF d bg) k = d 52 k := by
  have := congrArg (fun z : DS => z 52 k) (setM_id d bg)
  simp only [sm_52] at this
  exact this
theorem mq_fin {d D : DS} {bg p : Int32} {as sk : Nat → Int32} (hf : fr [52, 75, 78, 79, 80, 81] d D) (h52 : ∀ k, k ≠ 4 → k ≠ 48 → k ≠ 50 → D 52 k = d 52 k) : mq d (setM D (a7 (mW d bg) p) as sk) ∧ setM D (a7 (mW d bg) p) as sk 52 4 = D 52 4 := by
  refine ⟨⟨fun c hc => ?_, fun k h4 h41 h48 h50 => ?_⟩, by rw [sm_52, mf_r4]⟩
  · have n52 : c ≠ 52 := fun z => hc (by rw [z]; decide)
    have n73 : c ≠ 73 := fun z => hc (by rw [z]; decide)
    have n74 : c ≠ 74 := fun z => hc (by rw [z]; decide)
    by_cases e : c = 66
    · subst e; rw [sm_66]; rfl
    by_cases e1 : c = 68
    · subst e1; rw [sm_68]; rfl
    by_cases e2 : c = 69
    · subst e2; rw [sm_69]; rfl
    by_cases e3 : c = 70
    · subst e3; rw [sm_70]; rfl
    by_cases e4 : c = 71
    · subst e4; rw [sm_71]; rfl
    unfold setM
    rw [if_neg n52, if_neg e, if_neg e1, if_neg e2, if_neg e3, if_neg e4, if_neg n73, if_neg n74]
    refine hf c (fun z => hc ?_)
    revert z
    simp only [List.mem_cons, List.not_mem_nil, or_false]
    omega
  · rw [sm_52]
    show mf (D 52) (upd (mF d bg) 7 p) k = d 52 k
    rw [mf_a7 h41, ← mf_mF d bg k]
    unfold mf
    by_cases e1 : k = 33
    · rw [if_pos e1, if_pos e1]
    by_cases e2 : k = 34
    · rw [if_neg e1, if_neg e1, if_pos e2, if_pos e2]
    by_cases e3 : k = 35
    · rw [if_neg e1, if_neg e1, if_neg e2, if_neg e2, if_pos e3, if_pos e3]
    by_cases e4 : k = 36
    · rw [if_neg e1, if_neg e1, if_neg e2, if_neg e2, if_neg e3, if_neg e3, if_pos e4, if_pos e4]
    rw [if_neg e1, if_neg e1, if_neg e2, if_neg e2, if_neg e3, if_neg e3, if_neg e4, if_neg e4, if_neg h41, if_neg h41]
    exact h52 k h4 h48 h50
section RefE
variable {l : Launch} {n : Nat} {d : DS} {a : AW} {u : RU} {as sk : Nat → Int32}
set_option maxRecDepth 100000 in
set_option maxHeartbeats 4000000 in
theorem m_pack (hl : l.stackTraces = false) {c len t : Nat} (hc : lay[c]? = some (1, len, [])) (h1 : c ≠ 52) (h2 : c ≠ 66) (h3 : c ≠ 68) (h4 : c ≠ 69) (h5 : c ≠ 70) (h6 : c ≠ 71) (h7 : c ≠ 73) (h8 : c ≠ 74) (ht : t + 44 ≤ len) (hlen : len < 2 ^ 31) : CM l mX11_pack (n + 1) 0 [.ref 52, .ref c, .int (nI t)] (setM d a as sk) (fun v d' => v = none ∧ ∃ r, d' = setM (drow d c r) a as sk ∧ pkR a t (d c) r) NX := by
  refine CM.tree2 4 none _ rfl rfl hl BX11_pack [36, 79] (by decide +kernel) OKX11_pack (Nat.le_of_ble_eq_true rfl) rfl (fun K hK hm => ?_)
  show K 0 [some (.ref 52), some (.ref c), some (.int (nI t)), none] [] _ 0
  have os : ∀ (r : Nat → Int32) i x, dset (setM (drow d c r) a as sk) c i x = setM (drow d c (upd r i x)) a as sk := by
    intro r i x
    rw [ss_c _ _ _ _ h1 h2 h3 h4 h5 h6 h7 h8, dset_eq, dr_s, drow_drow]
  have od : setM d a as sk = setM (drow d c (d c)) a as sk := by rw [drow_id]
  have ix : ∀ k, k < 44 → vp_in (nI (t + k)) len ∧ (nI (t + k)).toNatClampNeg = t + k := fun k hk => ⟨vp_in_nI (by omega) hlen, nI_clamp (by omega)⟩
  have key2 : ∀ r, (∀ i, i < t ∨ t + 44 ≤ i → r i = d c i) → r t = aF a 2 → r (t + 1) = aF a 1 → r (t + 2) = aF a 5 → r (t + 3) = aF a 6 → (∀ e, e < 12 → r (t + (4 + e)) = aWo a e ∧ r (t + (16 + e)) = aHo a e) → K 79 [some (.ref 52), some (.ref c), some (.int (nI t)), some (.int 0)] [] (setM (drow d c r) a as sk) 0 := by
    have key := dec_ind (P := fun j => ∀ r, (∀ i, i < t ∨ t + 44 ≤ i → r i = d c i) → r t = aF a 2 → r (t + 1) = aF a 1 → r (t + 2) = aF a 5 → r (t + 3) = aF a 6 → (∀ e, e < 12 → r (t + (4 + e)) = aWo a e ∧ r (t + (16 + e)) = aHo a e) → (∀ p, p < j → r (t + (28 + p)) = aSo a p ∧ r (t + (36 + p)) = aPa a p) → K 79 [some (.ref 52), some (.ref c), some (.int (nI t)), some (.int (nI j))] [] (setM (drow d c r) a as sk) 0) 8 ?_ ?_ 0 (Nat.zero_le _)
    · intro r g0 g1 g2 g3 g4 g5
      exact key r g0 g1 g2 g3 g4 g5 (fun p hp => absurd hp (Nat.not_lt_zero _))
    · intro r g0 g1 g2 g3 g4 g5 g6
      have e4 : (8 : Int32) ≤ nI 8 := Int32.le_refl _
      refine hK 4 _ _ _ _ _ ?_
      simp only [↓bX11_pack_0, ↓bX11_pack_36, ↓bX11_pack_77, ↓bX11_pack_79, ↓bX11_pack_126, ↓vh_go bkX11_pack_0, ↓vh_go bkX11_pack_36, ↓vh_go bkX11_pack_77, ↓vh_go bkX11_pack_79, ↓vh_go bkX11_pack_126, ↓vt_go (heads := [36, 79]) bkX11_pack_0 (by decide), ↓vt_go (heads := [36, 79]) bkX11_pack_77 (by decide), ↓vt_go (heads := [36, 79]) bkX11_pack_126 (by decide), ↓vt_stop (pc := 36) (heads := [36, 79]) (by decide), ↓vt_stop (pc := 79) (heads := [36, 79]) (by decide), e4, ↓vz_iconst, ↓vz_bipush, ↓vz_sipush, ↓vz_lconst, ↓vz_iload_n, ↓vz_iload, ↓vz_aload_n, ↓vz_aload, ↓vz_lload_n, ↓vz_lload, ↓vz_istore_n, ↓vz_istore, ↓vz_astore_n, ↓vz_astore, ↓vz_iinc, ↓vz_iadd, ↓vz_isub, ↓vz_imul, ↓vz_iand, ↓vz_ior, ↓vz_ixor, ↓vz_ishl, ↓vz_ishr, ↓vz_iushr, ↓vz_idiv, ↓vz_irem, ↓vz_ineg, ↓vz_i2l, ↓vz_i2b, ↓vz_lcmp, ↓vz_dup2, ↓vz_getfield, ↓vz_iaload, ↓vz_baload, ↓vz_laload, ↓vz_iastore, ↓vz_bastore, ↓vz_ifCond, ↓vz_if_icmp, ↓vz_goto, ↓vz_tableswitch, ↓vz_lookupswitch, ↓vz_return_, ↓vz_ldc, ↓vz_ldc_w, ↓vz_ldc2_w, ↓vz_new, ↓vz_nil, ↓vz_callV, ↓vz_callS, ↓vz_max, ↓vz_min, ↓vz_abs, ↓vz_copy, ↓vz_dup, ↓vz_putI, ↓vz_putR, ↓vz_ireturn, ↓vz_alen, ↓vz_aaload, ↓cnt_some, ↓cnt_none, ↓pI_c, ↓pII_c, ↓pLL_c, ↓pR_c, ↓pIR_c, ↓pIIR_c, ↓lI_0, ↓lI_s, ↓lR_0, ↓lR_s, ↓lL_0, ↓lL_s, ↓dR_0, ↓dR_s, ↓nK_0, ↓nK_s, ↓vt_0, ↓reduceIte, List.mem_cons, List.not_mem_nil, or_false, false_or, or_self, Nat.reduceEqDiff, rok, exn, i01, i10, lok, cnd, slv_ref, slv_int, List.getElem?_cons_zero, List.getElem?_cons_succ, List.set_cons_zero, List.set_cons_succ, List.cons_append, List.nil_append, List.take_succ_cons, List.take_zero, List.drop_succ_cons, List.drop_zero, List.reverse_cons, List.reverse_nil, Option.toList_some, Option.toList_none, List.length_cons, List.length_nil, catL, List.map_cons, List.map_nil, List.sum_cons, List.sum_nil, Value.category, Nat.reduceAdd, Nat.reduceLT, Nat.reduceLeDiff, Fin.isValue, tgt, Int.cast_ofNat_Int, Int.reduceAdd, Int.reduceNeg, Int.reduceToNat, Int.zero_add, f4_0, f4_1, f4_2, f4_3, true_and, and_true, Classical.not_not, implies_true, true_implies, false_implies, not_false_eq_true, not_true_eq_false, and_self, true_or, or_true, beq_self_eq_true, ic_m8, ic_m1, ic_0, ic_1, ic_2, ic_3, ic_4, ic_5, ic_8, ic_16, bp_m28, bp_m27, bp_m26, bp_m25, bp_m24, bp_m23, bp_m22, bp_m21, bp_m20, bp_m2, bp_6, bp_7, bp_8, bp_9, bp_10, bp_11, bp_12, bp_13, bp_14, bp_15, bp_16, bp_17, bp_18, bp_20, bp_21, bp_22, bp_23, bp_24, bp_30, bp_32, bp_39, bp_40, bp_41, bp_42, bp_43, bp_44, bp_45, bp_47, bp_48, bp_57, bp_59, bp_60, bp_61, bp_63, bp_64, bp_97, bp_99, bp_100, bp_122, sp_255, sp_256, sp_700, sp_936, sp_960, sp_999, sp_4096, sp_9999, sp_10000, sp_12345, sp_32767]
      exact ⟨r, rfl, g0, g1, g2, g3, g4, g5, g6⟩
    · intro j hj ih r g0 g1 g2 g3 g4 g5 g6
      have e4 : ¬ (8 : Int32) ≤ nI j := nI_ge hj (by decide)
      have i1 : vp_in (nI j) 8 := vp_in_nI hj (by decide)
      have c1 : (nI j).toNatClampNeg = j := nI_clamp (by omega)
      have a1 : nI t + 4 + 24 + nI j = nI (t + (28 + j)) := by rw [show (4 : Int32) = nI 4 from rfl, show (24 : Int32) = nI 24 from rfl, nI_add, nI_add, nI_add]; congr 1; omega
      have a2 : nI t + 4 + 24 + 8 + nI j = nI (t + (36 + j)) := by rw [show (4 : Int32) = nI 4 from rfl, show (24 : Int32) = nI 24 from rfl, show (8 : Int32) = nI 8 from rfl, nI_add, nI_add, nI_add, nI_add]; congr 1; omega
      obtain ⟨x1, y1⟩ := ix (28 + j) (by omega)
      obtain ⟨x2, y2⟩ := ix (36 + j) (by omega)
      refine hK 4 _ _ _ _ _ ?_
      simp only [↓bX11_pack_0, ↓bX11_pack_36, ↓bX11_pack_77, ↓bX11_pack_79, ↓bX11_pack_126, ↓vh_go bkX11_pack_0, ↓vh_go bkX11_pack_36, ↓vh_go bkX11_pack_77, ↓vh_go bkX11_pack_79, ↓vh_go bkX11_pack_126, ↓vt_go (heads := [36, 79]) bkX11_pack_0 (by decide), ↓vt_go (heads := [36, 79]) bkX11_pack_77 (by decide), ↓vt_go (heads := [36, 79]) bkX11_pack_126 (by decide), ↓vt_stop (pc := 36) (heads := [36, 79]) (by decide), ↓vt_stop (pc := 79) (heads := [36, 79]) (by decide), ↓fK_of L52, ↓aK_of L56, ↓aK_of L57, ↓aK_of L63, ↓aK_of L64, ↓aK_of L65, ↓aK_of L66, ↓aK_of L68, ↓aK_of L69, ↓aK_of L70, ↓aK_of L71, ↓aK_of L72, ↓aK_of L73, ↓aK_of L74, sm_52, sm_56, sm_57, sm_63, sm_64, sm_65, sm_66, sm_68, sm_69, sm_70, sm_71, sm_72, sm_73, sm_74, mf_r33, mf_r34, mf_r35, mf_r36, mf_r41, mf_r37, mf_r38, mf_r4, ss_33, ss_34, ss_35, ss_36, ss_41, ss_66, ss_68, ss_69, ss_70, ss_71, ss_73, ss_74, pj_F, pj_Ne, pj_So, pj_Pa, pj_Wo, pj_Ho, ↓aK_of hc, e4, i1, c1, a1, a2, x1, y1, x2, y2, os, nI_1, ↓vz_iconst, ↓vz_bipush, ↓vz_sipush, ↓vz_lconst, ↓vz_iload_n, ↓vz_iload, ↓vz_aload_n, ↓vz_aload, ↓vz_lload_n, ↓vz_lload, ↓vz_istore_n, ↓vz_istore, ↓vz_astore_n, ↓vz_astore, ↓vz_iinc, ↓vz_iadd, ↓vz_isub, ↓vz_imul, ↓vz_iand, ↓vz_ior, ↓vz_ixor, ↓vz_ishl, ↓vz_ishr, ↓vz_iushr, ↓vz_idiv, ↓vz_irem, ↓vz_ineg, ↓vz_i2l, ↓vz_i2b, ↓vz_lcmp, ↓vz_dup2, ↓vz_getfield, ↓vz_iaload, ↓vz_baload, ↓vz_laload, ↓vz_iastore, ↓vz_bastore, ↓vz_ifCond, ↓vz_if_icmp, ↓vz_goto, ↓vz_tableswitch, ↓vz_lookupswitch, ↓vz_return_, ↓vz_ldc, ↓vz_ldc_w, ↓vz_ldc2_w, ↓vz_new, ↓vz_nil, ↓vz_callV, ↓vz_callS, ↓vz_max, ↓vz_min, ↓vz_abs, ↓vz_copy, ↓vz_dup, ↓vz_putI, ↓vz_putR, ↓vz_ireturn, ↓vz_alen, ↓vz_aaload, ↓cnt_some, ↓cnt_none, ↓pI_c, ↓pII_c, ↓pLL_c, ↓pR_c, ↓pIR_c, ↓pIIR_c, ↓lI_0, ↓lI_s, ↓lR_0, ↓lR_s, ↓lL_0, ↓lL_s, ↓dR_0, ↓dR_s, ↓nK_0, ↓nK_s, ↓vt_0, ↓reduceIte, List.mem_cons, List.not_mem_nil, or_false, false_or, or_self, Nat.reduceEqDiff, rok, exn, i01, i10, lok, cnd, slv_ref, slv_int, List.getElem?_cons_zero, List.getElem?_cons_succ, List.set_cons_zero, List.set_cons_succ, List.cons_append, List.nil_append, List.take_succ_cons, List.take_zero, List.drop_succ_cons, List.drop_zero, List.reverse_cons, List.reverse_nil, Option.toList_some, Option.toList_none, List.length_cons, List.length_nil, catL, List.map_cons, List.map_nil, List.sum_cons, List.sum_nil, Value.category, Nat.reduceAdd, Nat.reduceLT, Nat.reduceLeDiff, Fin.isValue, tgt, Int.cast_ofNat_Int, Int.reduceAdd, Int.reduceNeg, Int.reduceToNat, Int.zero_add, f4_0, f4_1, f4_2, f4_3, true_and, and_true, Classical.not_not, implies_true, true_implies, false_implies, not_false_eq_true, not_true_eq_false, and_self, true_or, or_true, beq_self_eq_true, ic_m8, ic_m1, ic_0, ic_1, ic_2, ic_3, ic_4, ic_5, ic_8, ic_16, bp_m28, bp_m27, bp_m26, bp_m25, bp_m24, bp_m23, bp_m22, bp_m21, bp_m20, bp_m2, bp_6, bp_7, bp_8, bp_9, bp_10, bp_11, bp_12, bp_13, bp_14, bp_15, bp_16, bp_17, bp_18, bp_20, bp_21, bp_22, bp_23, bp_24, bp_30, bp_32, bp_39, bp_40, bp_41, bp_42, bp_43, bp_44, bp_45, bp_47, bp_48, bp_57, bp_59, bp_60, bp_61, bp_63, bp_64, bp_97, bp_99, bp_100, bp_122, sp_255, sp_256, sp_700, sp_936, sp_960, sp_999, sp_4096, sp_9999, sp_10000, sp_12345, sp_32767]
      refine ih _ ?_ ?_ ?_ ?_ ?_ ?_ ?_
      · intro i hi; rw [upd_other _ _ (by omega), upd_other _ _ (by omega)]; exact g0 i hi
      · rw [upd_other _ _ (by omega), upd_other _ _ (by omega)]; exact g1
      · rw [upd_other _ _ (by omega), upd_other _ _ (by omega)]; exact g2
      · rw [upd_other _ _ (by omega), upd_other _ _ (by omega)]; exact g3
      · rw [upd_other _ _ (by omega), upd_other _ _ (by omega)]; exact g4
      · intro e he; rw [upd_other _ _ (by omega), upd_other _ _ (by omega), upd_other _ _ (by omega), upd_other _ _ (by omega)]; exact g5 e he
      · intro p hp
        by_cases q : p = j
        · rw [q, upd_other _ _ (by omega), upd_same, upd_same]; exact ⟨rfl, rfl⟩
        · rw [upd_other _ _ (by omega), upd_other _ _ (by omega), upd_other _ _ (by omega), upd_other _ _ (by omega)]; exact g6 p (by omega)
  have key1 := dec_ind (P := fun j => ∀ r, (∀ i, i < t ∨ t + 44 ≤ i → r i = d c i) → r t = aF a 2 → r (t + 1) = aF a 1 → r (t + 2) = aF a 5 → r (t + 3) = aF a 6 → (∀ e, e < j → r (t + (4 + e)) = aWo a e ∧ r (t + (16 + e)) = aHo a e) → K 36 [some (.ref 52), some (.ref c), some (.int (nI t)), some (.int (nI j))] [] (setM (drow d c r) a as sk) 0) 12 ?_ ?_ 0 (Nat.zero_le _)
  · have a1 : nI t + 1 = nI (t + 1) := nI_1 t
    have a2 : nI t + 2 = nI (t + 2) := nI_add t 2
    have a3 : nI t + 3 = nI (t + 3) := nI_add t 3
    obtain ⟨x0, y0⟩ := ix 0 (by omega)
    obtain ⟨x1, y1⟩ := ix 1 (by omega)
    obtain ⟨x2, y2⟩ := ix 2 (by omega)
    obtain ⟨x3, y3⟩ := ix 3 (by omega)
    rw [Nat.add_zero] at x0 y0
    rw [od]
    refine hK 4 _ _ _ _ _ ?_
    simp only [↓bX11_pack_0, ↓bX11_pack_36, ↓bX11_pack_77, ↓bX11_pack_79, ↓bX11_pack_126, ↓vh_go bkX11_pack_0, ↓vh_go bkX11_pack_36, ↓vh_go bkX11_pack_77, ↓vh_go bkX11_pack_79, ↓vh_go bkX11_pack_126, ↓vt_go (heads := [36, 79]) bkX11_pack_0 (by decide), ↓vt_go (heads := [36, 79]) bkX11_pack_77 (by decide), ↓vt_go (heads := [36, 79]) bkX11_pack_126 (by decide), ↓vt_stop (pc := 36) (heads := [36, 79]) (by decide), ↓vt_stop (pc := 79) (heads := [36, 79]) (by decide), ↓fK_of L52, ↓aK_of L56, ↓aK_of L57, ↓aK_of L63, ↓aK_of L64, ↓aK_of L65, ↓aK_of L66, ↓aK_of L68, ↓aK_of L69, ↓aK_of L70, ↓aK_of L71, ↓aK_of L72, ↓aK_of L73, ↓aK_of L74, sm_52, sm_56, sm_57, sm_63, sm_64, sm_65, sm_66, sm_68, sm_69, sm_70, sm_71, sm_72, sm_73, sm_74, mf_r33, mf_r34, mf_r35, mf_r36, mf_r41, mf_r37, mf_r38, mf_r4, ss_33, ss_34, ss_35, ss_36, ss_41, ss_66, ss_68, ss_69, ss_70, ss_71, ss_73, ss_74, pj_F, pj_Ne, pj_So, pj_Pa, pj_Wo, pj_Ho, ↓aK_of hc, a1, a2, a3, x0, y0, x1, y1, x2, y2, x3, y3, os, ↓vz_iconst, ↓vz_bipush, ↓vz_sipush, ↓vz_lconst, ↓vz_iload_n, ↓vz_iload, ↓vz_aload_n, ↓vz_aload, ↓vz_lload_n, ↓vz_lload, ↓vz_istore_n, ↓vz_istore, ↓vz_astore_n, ↓vz_astore, ↓vz_iinc, ↓vz_iadd, ↓vz_isub, ↓vz_imul, ↓vz_iand, ↓vz_ior, ↓vz_ixor, ↓vz_ishl, ↓vz_ishr, ↓vz_iushr, ↓vz_idiv, ↓vz_irem, ↓vz_ineg, ↓vz_i2l, ↓vz_i2b, ↓vz_lcmp, ↓vz_dup2, ↓vz_getfield, ↓vz_iaload, ↓vz_baload, ↓vz_laload, ↓vz_iastore, ↓vz_bastore, ↓vz_ifCond, ↓vz_if_icmp, ↓vz_goto, ↓vz_tableswitch, ↓vz_lookupswitch, ↓vz_return_, ↓vz_ldc, ↓vz_ldc_w, ↓vz_ldc2_w, ↓vz_new, ↓vz_nil, ↓vz_callV, ↓vz_callS, ↓vz_max, ↓vz_min, ↓vz_abs, ↓vz_copy, ↓vz_dup, ↓vz_putI, ↓vz_putR, ↓vz_ireturn, ↓vz_alen, ↓vz_aaload, ↓cnt_some, ↓cnt_none, ↓pI_c, ↓pII_c, ↓pLL_c, ↓pR_c, ↓pIR_c, ↓pIIR_c, ↓lI_0, ↓lI_s, ↓lR_0, ↓lR_s, ↓lL_0, ↓lL_s, ↓dR_0, ↓dR_s, ↓nK_0, ↓nK_s, ↓vt_0, ↓reduceIte, List.mem_cons, List.not_mem_nil, or_false, false_or, or_self, Nat.reduceEqDiff, rok, exn, i01, i10, lok, cnd, slv_ref, slv_int, List.getElem?_cons_zero, List.getElem?_cons_succ, List.set_cons_zero, List.set_cons_succ, List.cons_append, List.nil_append, List.take_succ_cons, List.take_zero, List.drop_succ_cons, List.drop_zero, List.reverse_cons, List.reverse_nil, Option.toList_some, Option.toList_none, List.length_cons, List.length_nil, catL, List.map_cons, List.map_nil, List.sum_cons, List.sum_nil, Value.category, Nat.reduceAdd, Nat.reduceLT, Nat.reduceLeDiff, Fin.isValue, tgt, Int.cast_ofNat_Int, Int.reduceAdd, Int.reduceNeg, Int.reduceToNat, Int.zero_add, f4_0, f4_1, f4_2, f4_3, true_and, and_true, Classical.not_not, implies_true, true_implies, false_implies, not_false_eq_true, not_true_eq_false, and_self, true_or, or_true, beq_self_eq_true, ic_m8, ic_m1, ic_0, ic_1, ic_2, ic_3, ic_4, ic_5, ic_8, ic_16, bp_m28, bp_m27, bp_m26, bp_m25, bp_m24, bp_m23, bp_m22, bp_m21, bp_m20, bp_m2, bp_6, bp_7, bp_8, bp_9, bp_10, bp_11, bp_12, bp_13, bp_14, bp_15, bp_16, bp_17, bp_18, bp_20, bp_21, bp_22, bp_23, bp_24, bp_30, bp_32, bp_39, bp_40, bp_41, bp_42, bp_43, bp_44, bp_45, bp_47, bp_48, bp_57, bp_59, bp_60, bp_61, bp_63, bp_64, bp_97, bp_99, bp_100, bp_122, sp_255, sp_256, sp_700, sp_936, sp_960, sp_999, sp_4096, sp_9999, sp_10000, sp_12345, sp_32767]
    refine key1 _ ?_ ?_ ?_ ?_ ?_ (fun e he => absurd he (Nat.not_lt_zero _))
    · intro i hi; rw [upd_other _ _ (by omega), upd_other _ _ (by omega), upd_other _ _ (by omega), upd_other _ _ (by omega)]
    · rw [upd_other _ _ (by omega), upd_other _ _ (by omega), upd_other _ _ (by omega), upd_same]
    · rw [upd_other _ _ (by omega), upd_other _ _ (by omega), upd_same]
    · rw [upd_other _ _ (by omega), upd_same]
    · rw [upd_same]
  · intro r g0 g1 g2 g3 g4 g5
    have e4 : (12 : Int32) ≤ nI 12 := Int32.le_refl _
    refine hK 4 _ _ _ _ _ ?_
    simp only [↓bX11_pack_0, ↓bX11_pack_36, ↓bX11_pack_77, ↓bX11_pack_79, ↓bX11_pack_126, ↓vh_go bkX11_pack_0, ↓vh_go bkX11_pack_36, ↓vh_go bkX11_pack_77, ↓vh_go bkX11_pack_79, ↓vh_go bkX11_pack_126, ↓vt_go (heads := [36, 79]) bkX11_pack_0 (by decide), ↓vt_go (heads := [36, 79]) bkX11_pack_77 (by decide), ↓vt_go (heads := [36, 79]) bkX11_pack_126 (by decide), ↓vt_stop (pc := 36) (heads := [36, 79]) (by decide), ↓vt_stop (pc := 79) (heads := [36, 79]) (by decide), e4, ↓vz_iconst, ↓vz_bipush, ↓vz_sipush, ↓vz_lconst, ↓vz_iload_n, ↓vz_iload, ↓vz_aload_n, ↓vz_aload, ↓vz_lload_n, ↓vz_lload, ↓vz_istore_n, ↓vz_istore, ↓vz_astore_n, ↓vz_astore, ↓vz_iinc, ↓vz_iadd, ↓vz_isub, ↓vz_imul, ↓vz_iand, ↓vz_ior, ↓vz_ixor, ↓vz_ishl, ↓vz_ishr, ↓vz_iushr, ↓vz_idiv, ↓vz_irem, ↓vz_ineg, ↓vz_i2l, ↓vz_i2b, ↓vz_lcmp, ↓vz_dup2, ↓vz_getfield, ↓vz_iaload, ↓vz_baload, ↓vz_laload, ↓vz_iastore, ↓vz_bastore, ↓vz_ifCond, ↓vz_if_icmp, ↓vz_goto, ↓vz_tableswitch, ↓vz_lookupswitch, ↓vz_return_, ↓vz_ldc, ↓vz_ldc_w, ↓vz_ldc2_w, ↓vz_new, ↓vz_nil, ↓vz_callV, ↓vz_callS, ↓vz_max, ↓vz_min, ↓vz_abs, ↓vz_copy, ↓vz_dup, ↓vz_putI, ↓vz_putR, ↓vz_ireturn, ↓vz_alen, ↓vz_aaload, ↓cnt_some, ↓cnt_none, ↓pI_c, ↓pII_c, ↓pLL_c, ↓pR_c, ↓pIR_c, ↓pIIR_c, ↓lI_0, ↓lI_s, ↓lR_0, ↓lR_s, ↓lL_0, ↓lL_s, ↓dR_0, ↓dR_s, ↓nK_0, ↓nK_s, ↓vt_0, ↓reduceIte, List.mem_cons, List.not_mem_nil, or_false, false_or, or_self, Nat.reduceEqDiff, rok, exn, i01, i10, lok, cnd, slv_ref, slv_int, List.getElem?_cons_zero, List.getElem?_cons_succ, List.set_cons_zero, List.set_cons_succ, List.cons_append, List.nil_append, List.take_succ_cons, List.take_zero, List.drop_succ_cons, List.drop_zero, List.reverse_cons, List.reverse_nil, Option.toList_some, Option.toList_none, List.length_cons, List.length_nil, catL, List.map_cons, List.map_nil, List.sum_cons, List.sum_nil, Value.category, Nat.reduceAdd, Nat.reduceLT, Nat.reduceLeDiff, Fin.isValue, tgt, Int.cast_ofNat_Int, Int.reduceAdd, Int.reduceNeg, Int.reduceToNat, Int.zero_add, f4_0, f4_1, f4_2, f4_3, true_and, and_true, Classical.not_not, implies_true, true_implies, false_implies, not_false_eq_true, not_true_eq_false, and_self, true_or, or_true, beq_self_eq_true, ic_m8, ic_m1, ic_0, ic_1, ic_2, ic_3, ic_4, ic_5, ic_8, ic_16, bp_m28, bp_m27, bp_m26, bp_m25, bp_m24, bp_m23, bp_m22, bp_m21, bp_m20, bp_m2, bp_6, bp_7, bp_8, bp_9, bp_10, bp_11, bp_12, bp_13, bp_14, bp_15, bp_16, bp_17, bp_18, bp_20, bp_21, bp_22, bp_23, bp_24, bp_30, bp_32, bp_39, bp_40, bp_41, bp_42, bp_43, bp_44, bp_45, bp_47, bp_48, bp_57, bp_59, bp_60, bp_61, bp_63, bp_64, bp_97, bp_99, bp_100, bp_122, sp_255, sp_256, sp_700, sp_936, sp_960, sp_999, sp_4096, sp_9999, sp_10000, sp_12345, sp_32767]
    exact key2 r g0 g1 g2 g3 g4 g5
  · intro j hj ih r g0 g1 g2 g3 g4 g5
    have e4 : ¬ (12 : Int32) ≤ nI j := nI_ge hj (by decide)
    have i1 : vp_in (nI j) 12 := vp_in_nI hj (by decide)
    have c1 : (nI j).toNatClampNeg = j := nI_clamp (by omega)
    have a1 : nI t + 4 + nI j = nI (t + (4 + j)) := by rw [show (4 : Int32) = nI 4 from rfl, nI_add, nI_add]; congr 1; omega
    have a2 : nI t + 4 + 12 + nI j = nI (t + (16 + j)) := by rw [show (4 : Int32) = nI 4 from rfl, show (12 : Int32) = nI 12 from rfl, nI_add, nI_add, nI_add]; congr 1; omega
    obtain ⟨x1, y1⟩ := ix (4 + j) (by omega)
    obtain ⟨x2, y2⟩ := ix (16 + j) (by omega)
    refine hK 4 _ _ _ _ _ ?_
    simp only [↓bX11_pack_0, ↓bX11_pack_36, ↓bX11_pack_77, ↓bX11_pack_79, ↓bX11_pack_126, ↓vh_go bkX11_pack_0, ↓vh_go bkX11_pack_36, ↓vh_go bkX11_pack_77, ↓vh_go bkX11_pack_79, ↓vh_go bkX11_pack_126, ↓vt_go (heads := [36, 79]) bkX11_pack_0 (by decide), ↓vt_go (heads := [36, 79]) bkX11_pack_77 (by decide), ↓vt_go (heads := [36, 79]) bkX11_pack_126 (by decide), ↓vt_stop (pc := 36) (heads := [36, 79]) (by decide), ↓vt_stop (pc := 79) (heads := [36, 79]) (by decide), ↓fK_of L52, ↓aK_of L56, ↓aK_of L57, ↓aK_of L63, ↓aK_of L64, ↓aK_of L65, ↓aK_of L66, ↓aK_of L68, ↓aK_of L69, ↓aK_of L70, ↓aK_of L71, ↓aK_of L72, ↓aK_of L73, ↓aK_of L74, sm_52, sm_56, sm_57, sm_63, sm_64, sm_65, sm_66, sm_68, sm_69, sm_70, sm_71, sm_72, sm_73, sm_74, mf_r33, mf_r34, mf_r35, mf_r36, mf_r41, mf_r37, mf_r38, mf_r4, ss_33, ss_34, ss_35, ss_36, ss_41, ss_66, ss_68, ss_69, ss_70, ss_71, ss_73, ss_74, pj_F, pj_Ne, pj_So, pj_Pa, pj_Wo, pj_Ho, ↓aK_of hc, e4, i1, c1, a1, a2, x1, y1, x2, y2, os, nI_1, ↓vz_iconst, ↓vz_bipush, ↓vz_sipush, ↓vz_lconst, ↓vz_iload_n, ↓vz_iload, ↓vz_aload_n, ↓vz_aload, ↓vz_lload_n, ↓vz_lload, ↓vz_istore_n, ↓vz_istore, ↓vz_astore_n, ↓vz_astore, ↓vz_iinc, ↓vz_iadd, ↓vz_isub, ↓vz_imul, ↓vz_iand, ↓vz_ior, ↓vz_ixor, ↓vz_ishl, ↓vz_ishr, ↓vz_iushr, ↓vz_idiv, ↓vz_irem, ↓vz_ineg, ↓vz_i2l, ↓vz_i2b, ↓vz_lcmp, ↓vz_dup2, ↓vz_getfield, ↓vz_iaload, ↓vz_baload, ↓vz_laload, ↓vz_iastore, ↓vz_bastore, ↓vz_ifCond, ↓vz_if_icmp, ↓vz_goto, ↓vz_tableswitch, ↓vz_lookupswitch, ↓vz_return_, ↓vz_ldc, ↓vz_ldc_w, ↓vz_ldc2_w, ↓vz_new, ↓vz_nil, ↓vz_callV, ↓vz_callS, ↓vz_max, ↓vz_min, ↓vz_abs, ↓vz_copy, ↓vz_dup, ↓vz_putI, ↓vz_putR, ↓vz_ireturn, ↓vz_alen, ↓vz_aaload, ↓cnt_some, ↓cnt_none, ↓pI_c, ↓pII_c, ↓pLL_c, ↓pR_c, ↓pIR_c, ↓pIIR_c, ↓lI_0, ↓lI_s, ↓lR_0, ↓lR_s, ↓lL_0, ↓lL_s, ↓dR_0, ↓dR_s, ↓nK_0, ↓nK_s, ↓vt_0, ↓reduceIte, List.mem_cons, List.not_mem_nil, or_false, false_or, or_self, Nat.reduceEqDiff, rok, exn, i01, i10, lok, cnd, slv_ref, slv_int, List.getElem?_cons_zero, List.getElem?_cons_succ, List.set_cons_zero, List.set_cons_succ, List.cons_append, List.nil_append, List.take_succ_cons, List.take_zero, List.drop_succ_cons, List.drop_zero, List.reverse_cons, List.reverse_nil, Option.toList_some, Option.toList_none, List.length_cons, List.length_nil, catL, List.map_cons, List.map_nil, List.sum_cons, List.sum_nil, Value.category, Nat.reduceAdd, Nat.reduceLT, Nat.reduceLeDiff, Fin.isValue, tgt, Int.cast_ofNat_Int, Int.reduceAdd, Int.reduceNeg, Int.reduceToNat, Int.zero_add, f4_0, f4_1, f4_2, f4_3, true_and, and_true, Classical.not_not, implies_true, true_implies, false_implies, not_false_eq_true, not_true_eq_false, and_self, true_or, or_true, beq_self_eq_true, ic_m8, ic_m1, ic_0, ic_1, ic_2, ic_3, ic_4, ic_5, ic_8, ic_16, bp_m28, bp_m27, bp_m26, bp_m25, bp_m24, bp_m23, bp_m22, bp_m21, bp_m20, bp_m2, bp_6, bp_7, bp_8, bp_9, bp_10, bp_11, bp_12, bp_13, bp_14, bp_15, bp_16, bp_17, bp_18, bp_20, bp_21, bp_22, bp_23, bp_24, bp_30, bp_32, bp_39, bp_40, bp_41, bp_42, bp_43, bp_44, bp_45, bp_47, bp_48, bp_57, bp_59, bp_60, bp_61, bp_63, bp_64, bp_97, bp_99, bp_100, bp_122, sp_255, sp_256, sp_700, sp_936, sp_960, sp_999, sp_4096, sp_9999, sp_10000, sp_12345, sp_32767]
    refine ih _ ?_ ?_ ?_ ?_ ?_ ?_
    · intro i hi; rw [upd_other _ _ (by omega), upd_other _ _ (by omega)]; exact g0 i hi
    · rw [upd_other _ _ (by omega), upd_other _ _ (by omega)]; exact g1
    · rw [upd_other _ _ (by omega), upd_other _ _ (by omega)]; exact g2
    · rw [upd_other _ _ (by omega), upd_other _ _ (by omega)]; exact g3
    · rw [upd_other _ _ (by omega), upd_other _ _ (by omega)]; exact g4
    · intro e he
      by_cases q : e = j
      · rw [q, upd_other _ _ (by omega), upd_same, upd_same]; exact ⟨rfl, rfl⟩
      · rw [upd_other _ _ (by omega), upd_other _ _ (by omega), upd_other _ _ (by omega), upd_other _ _ (by omega)]; exact g5 e (by omega)
def unA (a : AW) (r : Nat → Int32) (t j k : Nat) : AW := (upd (upd (upd (upd (aF a) 2 (r t)) 1 (r (t + 1))) 5 (r (t + 2))) 6 (r (t + 3)), aNe a, cpy0 (fun i => r (t + (28 + i))) (aSo a) k, cpy0 (fun i => r (t + (36 + i))) (aPa a) k, cpy0 (fun i => r (t + (4 + i))) (aWo a) j, cpy0 (fun i => r (t + (16 + i))) (aHo a) j)
set_option maxRecDepth 100000 in
set_option maxHeartbeats 4000000 in
theorem m_unpack0 (hl : l.stackTraces = false) {c len t : Nat} (hc : lay[c]? = some (1, len, [])) (h1 : c ≠ 52) (h2 : c ≠ 66) (h3 : c ≠ 68) (h4 : c ≠ 69) (h5 : c ≠ 70) (h6 : c ≠ 71) (h7 : c ≠ 73) (h8 : c ≠ 74) (ht : t + 44 ≤ len) (hlen : len < 2 ^ 31) : CM l mX11_unpack (n + 1) 0 [.ref 52, .ref c, .int (nI t)] (setM d a as sk) (fun v d' => v = none ∧ d' = setM d (unA a (d c) t 12 8) as sk) NX := by
  refine CM.tree2 4 none _ rfl rfl hl BX11_unpack [36, 79] (by decide +kernel) OKX11_unpack (Nat.le_of_ble_eq_true rfl) rfl (fun K hK hm => ?_)
  show K 0 [some (.ref 52), some (.ref c), some (.int (nI t)), none] [] _ 0
  have oc : ∀ b, setM d b as sk c = d c := fun b => by unfold setM; rw [if_neg h1, if_neg h2, if_neg h3, if_neg h4, if_neg h5, if_neg h6, if_neg h7, if_neg h8]
  have ix : ∀ k, k < 44 → vp_in (nI (t + k)) len ∧ (nI (t + k)).toNatClampNeg = t + k := fun k hk => ⟨vp_in_nI (by omega) hlen, nI_clamp (by omega)⟩
  have key2 : K 79 [some (.ref 52), some (.ref c), some (.int (nI t)), some (.int 0)] [] (setM d (unA a (d c) t 12 0) as sk) 0 := by
    refine dec_ind (P := fun j => K 79 [some (.ref 52), some (.ref c), some (.int (nI t)), some (.int (nI j))] [] (setM d (unA a (d c) t 12 j) as sk) 0) 8 ?_ ?_ 0 (Nat.zero_le _)
    · have e4 : (8 : Int32) ≤ nI 8 := Int32.le_refl _
      refine hK 4 _ _ _ _ _ ?_
      simp only [↓bX11_unpack_0, ↓bX11_unpack_36, ↓bX11_unpack_77, ↓bX11_unpack_79, ↓bX11_unpack_126, ↓vh_go bkX11_unpack_0, ↓vh_go bkX11_unpack_36, ↓vh_go bkX11_unpack_77, ↓vh_go bkX11_unpack_79, ↓vh_go bkX11_unpack_126, ↓vt_go (heads := [36, 79]) bkX11_unpack_0 (by decide), ↓vt_go (heads := [36, 79]) bkX11_unpack_77 (by decide), ↓vt_go (heads := [36, 79]) bkX11_unpack_126 (by decide), ↓vt_stop (pc := 36) (heads := [36, 79]) (by decide), ↓vt_stop (pc := 79) (heads := [36, 79]) (by decide), e4, ↓vz_iconst, ↓vz_bipush, ↓vz_sipush, ↓vz_lconst, ↓vz_iload_n, ↓vz_iload, ↓vz_aload_n, ↓vz_aload, ↓vz_lload_n, ↓vz_lload, ↓vz_istore_n, ↓vz_istore, ↓vz_astore_n, ↓vz_astore, ↓vz_iinc, ↓vz_iadd, ↓vz_isub, ↓vz_imul, ↓vz_iand, ↓vz_ior, ↓vz_ixor, ↓vz_ishl, ↓vz_ishr, ↓vz_iushr, ↓vz_idiv, ↓vz_irem, ↓vz_ineg, ↓vz_i2l, ↓vz_i2b, ↓vz_lcmp, ↓vz_dup2, ↓vz_getfield, ↓vz_iaload, ↓vz_baload, ↓vz_laload, ↓vz_iastore, ↓vz_bastore, ↓vz_ifCond, ↓vz_if_icmp, ↓vz_goto, ↓vz_tableswitch, ↓vz_lookupswitch, ↓vz_return_, ↓vz_ldc, ↓vz_ldc_w, ↓vz_ldc2_w, ↓vz_new, ↓vz_nil, ↓vz_callV, ↓vz_callS, ↓vz_max, ↓vz_min, ↓vz_abs, ↓vz_copy, ↓vz_dup, ↓vz_putI, ↓vz_putR, ↓vz_ireturn, ↓vz_alen, ↓vz_aaload, ↓cnt_some, ↓cnt_none, ↓pI_c, ↓pII_c, ↓pLL_c, ↓pR_c, ↓pIR_c, ↓pIIR_c, ↓lI_0, ↓lI_s, ↓lR_0, ↓lR_s, ↓lL_0, ↓lL_s, ↓dR_0, ↓dR_s, ↓nK_0, ↓nK_s, ↓vt_0, ↓reduceIte, List.mem_cons, List.not_mem_nil, or_false, false_or, or_self, Nat.reduceEqDiff, rok, exn, i01, i10, lok, cnd, slv_ref, slv_int, List.getElem?_cons_zero, List.getElem?_cons_succ, List.set_cons_zero, List.set_cons_succ, List.cons_append, List.nil_append, List.take_succ_cons, List.take_zero, List.drop_succ_cons, List.drop_zero, List.reverse_cons, List.reverse_nil, Option.toList_some, Option.toList_none, List.length_cons, List.length_nil, catL, List.map_cons, List.map_nil, List.sum_cons, List.sum_nil, Value.category, Nat.reduceAdd, Nat.reduceLT, Nat.reduceLeDiff, Fin.isValue, tgt, Int.cast_ofNat_Int, Int.reduceAdd, Int.reduceNeg, Int.reduceToNat, Int.zero_add, f4_0, f4_1, f4_2, f4_3, true_and, and_true, Classical.not_not, implies_true, true_implies, false_implies, not_false_eq_true, not_true_eq_false, and_self, true_or, or_true, beq_self_eq_true, ic_m8, ic_m1, ic_0, ic_1, ic_2, ic_3, ic_4, ic_5, ic_8, ic_16, bp_m28, bp_m27, bp_m26, bp_m25, bp_m24, bp_m23, bp_m22, bp_m21, bp_m20, bp_m2, bp_6, bp_7, bp_8, bp_9, bp_10, bp_11, bp_12, bp_13, bp_14, bp_15, bp_16, bp_17, bp_18, bp_20, bp_21, bp_22, bp_23, bp_24, bp_30, bp_32, bp_39, bp_40, bp_41, bp_42, bp_43, bp_44, bp_45, bp_47, bp_48, bp_57, bp_59, bp_60, bp_61, bp_63, bp_64, bp_97, bp_99, bp_100, bp_122, sp_255, sp_256, sp_700, sp_936, sp_960, sp_999, sp_4096, sp_9999, sp_10000, sp_12345, sp_32767]
    · intro j hj ih
      have e4 : ¬ (8 : Int32) ≤ nI j := nI_ge hj (by decide)
      have i1 : vp_in (nI j) 8 := vp_in_nI hj (by decide)
      have c1 : (nI j).toNatClampNeg = j := nI_clamp (by omega)
      have a1 : nI t + 4 + 24 + nI j = nI (t + (28 + j)) := by rw [show (4 : Int32) = nI 4 from rfl, show (24 : Int32) = nI 24 from rfl, nI_add, nI_add, nI_add]; congr 1; omega
      have a2 : nI t + 4 + 24 + 8 + nI j = nI (t + (36 + j)) := by rw [show (4 : Int32) = nI 4 from rfl, show (24 : Int32) = nI 24 from rfl, show (8 : Int32) = nI 8 from rfl, nI_add, nI_add, nI_add, nI_add]; congr 1; omega
      obtain ⟨x1, y1⟩ := ix (28 + j) (by omega)
      obtain ⟨x2, y2⟩ := ix (36 + j) (by omega)
      unfold unA at ih ⊢
      refine hK 4 _ _ _ _ _ ?_
      simp only [↓bX11_unpack_0, ↓bX11_unpack_36, ↓bX11_unpack_77, ↓bX11_unpack_79, ↓bX11_unpack_126, ↓vh_go bkX11_unpack_0, ↓vh_go bkX11_unpack_36, ↓vh_go bkX11_unpack_77, ↓vh_go bkX11_unpack_79, ↓vh_go bkX11_unpack_126, ↓vt_go (heads := [36, 79]) bkX11_unpack_0 (by decide), ↓vt_go (heads := [36, 79]) bkX11_unpack_77 (by decide), ↓vt_go (heads := [36, 79]) bkX11_unpack_126 (by decide), ↓vt_stop (pc := 36) (heads := [36, 79]) (by decide), ↓vt_stop (pc := 79) (heads := [36, 79]) (by decide), ↓fK_of L52, ↓aK_of L56, ↓aK_of L57, ↓aK_of L63, ↓aK_of L64, ↓aK_of L65, ↓aK_of L66, ↓aK_of L68, ↓aK_of L69, ↓aK_of L70, ↓aK_of L71, ↓aK_of L72, ↓aK_of L73, ↓aK_of L74, sm_52, sm_56, sm_57, sm_63, sm_64, sm_65, sm_66, sm_68, sm_69, sm_70, sm_71, sm_72, sm_73, sm_74, mf_r33, mf_r34, mf_r35, mf_r36, mf_r41, mf_r37, mf_r38, mf_r4, ss_33, ss_34, ss_35, ss_36, ss_41, ss_66, ss_68, ss_69, ss_70, ss_71, ss_73, ss_74, pj_F, pj_Ne, pj_So, pj_Pa, pj_Wo, pj_Ho, ↓aK_of hc, oc, e4, i1, c1, a1, a2, x1, y1, x2, y2, nI_1, ↓vz_iconst, ↓vz_bipush, ↓vz_sipush, ↓vz_lconst, ↓vz_iload_n, ↓vz_iload, ↓vz_aload_n, ↓vz_aload, ↓vz_lload_n, ↓vz_lload, ↓vz_istore_n, ↓vz_istore, ↓vz_astore_n, ↓vz_astore, ↓vz_iinc, ↓vz_iadd, ↓vz_isub, ↓vz_imul, ↓vz_iand, ↓vz_ior, ↓vz_ixor, ↓vz_ishl, ↓vz_ishr, ↓vz_iushr, ↓vz_idiv, ↓vz_irem, ↓vz_ineg, ↓vz_i2l, ↓vz_i2b, ↓vz_lcmp, ↓vz_dup2, ↓vz_getfield, ↓vz_iaload, ↓vz_baload, ↓vz_laload, ↓vz_iastore, ↓vz_bastore, ↓vz_ifCond, ↓vz_if_icmp, ↓vz_goto, ↓vz_tableswitch, ↓vz_lookupswitch, ↓vz_return_, ↓vz_ldc, ↓vz_ldc_w, ↓vz_ldc2_w, ↓vz_new, ↓vz_nil, ↓vz_callV, ↓vz_callS, ↓vz_max, ↓vz_min, ↓vz_abs, ↓vz_copy, ↓vz_dup, ↓vz_putI, ↓vz_putR, ↓vz_ireturn, ↓vz_alen, ↓vz_aaload, ↓cnt_some, ↓cnt_none, ↓pI_c, ↓pII_c, ↓pLL_c, ↓pR_c, ↓pIR_c, ↓pIIR_c, ↓lI_0, ↓lI_s, ↓lR_0, ↓lR_s, ↓lL_0, ↓lL_s, ↓dR_0, ↓dR_s, ↓nK_0, ↓nK_s, ↓vt_0, ↓reduceIte, List.mem_cons, List.not_mem_nil, or_false, false_or, or_self, Nat.reduceEqDiff, rok, exn, i01, i10, lok, cnd, slv_ref, slv_int, List.getElem?_cons_zero, List.getElem?_cons_succ, List.set_cons_zero, List.set_cons_succ, List.cons_append, List.nil_append, List.take_succ_cons, List.take_zero, List.drop_succ_cons, List.drop_zero, List.reverse_cons, List.reverse_nil, Option.toList_some, Option.toList_none, List.length_cons, List.length_nil, catL, List.map_cons, List.map_nil, List.sum_cons, List.sum_nil, Value.category, Nat.reduceAdd, Nat.reduceLT, Nat.reduceLeDiff, Fin.isValue, tgt, Int.cast_ofNat_Int, Int.reduceAdd, Int.reduceNeg, Int.reduceToNat, Int.zero_add, f4_0, f4_1, f4_2, f4_3, true_and, and_true, Classical.not_not, implies_true, true_implies, false_implies, not_false_eq_true, not_true_eq_false, and_self, true_or, or_true, beq_self_eq_true, ic_m8, ic_m1, ic_0, ic_1, ic_2, ic_3, ic_4, ic_5, ic_8, ic_16, bp_m28, bp_m27, bp_m26, bp_m25, bp_m24, bp_m23, bp_m22, bp_m21, bp_m20, bp_m2, bp_6, bp_7, bp_8, bp_9, bp_10, bp_11, bp_12, bp_13, bp_14, bp_15, bp_16, bp_17, bp_18, bp_20, bp_21, bp_22, bp_23, bp_24, bp_30, bp_32, bp_39, bp_40, bp_41, bp_42, bp_43, bp_44, bp_45, bp_47, bp_48, bp_57, bp_59, bp_60, bp_61, bp_63, bp_64, bp_97, bp_99, bp_100, bp_122, sp_255, sp_256, sp_700, sp_936, sp_960, sp_999, sp_4096, sp_9999, sp_10000, sp_12345, sp_32767]
      rw [← cpy0_s, ← cpy0_s] at ih
      exact ih
  have key1 := dec_ind (P := fun j => K 36 [some (.ref 52), some (.ref c), some (.int (nI t)), some (.int (nI j))] [] (setM d (unA a (d c) t j 0) as sk) 0) 12 ?_ ?_ 0 (Nat.zero_le _)
  · have a1 : nI t + 1 = nI (t + 1) := nI_1 t
    have a2 : nI t + 2 = nI (t + 2) := nI_add t 2
    have a3 : nI t + 3 = nI (t + 3) := nI_add t 3
    obtain ⟨x0, y0⟩ := ix 0 (by omega)
    obtain ⟨x1, y1⟩ := ix 1 (by omega)
    obtain ⟨x2, y2⟩ := ix 2 (by omega)
    obtain ⟨x3, y3⟩ := ix 3 (by omega)
    rw [Nat.add_zero] at x0 y0
    unfold unA at key1
    rw [cpy0_0, cpy0_0, cpy0_0, cpy0_0] at key1
    refine hK 4 _ _ _ _ _ ?_
    simp only [↓bX11_unpack_0, ↓bX11_unpack_36, ↓bX11_unpack_77, ↓bX11_unpack_79, ↓bX11_unpack_126, ↓vh_go bkX11_unpack_0, ↓vh_go bkX11_unpack_36, ↓vh_go bkX11_unpack_77, ↓vh_go bkX11_unpack_79, ↓vh_go bkX11_unpack_126, ↓vt_go (heads := [36, 79]) bkX11_unpack_0 (by decide), ↓vt_go (heads := [36, 79]) bkX11_unpack_77 (by decide), ↓vt_go (heads := [36, 79]) bkX11_unpack_126 (by decide), ↓vt_stop (pc := 36) (heads := [36, 79]) (by decide), ↓vt_stop (pc := 79) (heads := [36, 79]) (by decide), ↓fK_of L52, ↓aK_of L56, ↓aK_of L57, ↓aK_of L63, ↓aK_of L64, ↓aK_of L65, ↓aK_of L66, ↓aK_of L68, ↓aK_of L69, ↓aK_of L70, ↓aK_of L71, ↓aK_of L72, ↓aK_of L73, ↓aK_of L74, sm_52, sm_56, sm_57, sm_63, sm_64, sm_65, sm_66, sm_68, sm_69, sm_70, sm_71, sm_72, sm_73, sm_74, mf_r33, mf_r34, mf_r35, mf_r36, mf_r41, mf_r37, mf_r38, mf_r4, ss_33, ss_34, ss_35, ss_36, ss_41, ss_66, ss_68, ss_69, ss_70, ss_71, ss_73, ss_74, pj_F, pj_Ne, pj_So, pj_Pa, pj_Wo, pj_Ho, ↓aK_of hc, oc, a1, a2, a3, x0, y0, x1, y1, x2, y2, x3, y3, ↓vz_iconst, ↓vz_bipush, ↓vz_sipush, ↓vz_lconst, ↓vz_iload_n, ↓vz_iload, ↓vz_aload_n, ↓vz_aload, ↓vz_lload_n, ↓vz_lload, ↓vz_istore_n, ↓vz_istore, ↓vz_astore_n, ↓vz_astore, ↓vz_iinc, ↓vz_iadd, ↓vz_isub, ↓vz_imul, ↓vz_iand, ↓vz_ior, ↓vz_ixor, ↓vz_ishl, ↓vz_ishr, ↓vz_iushr, ↓vz_idiv, ↓vz_irem, ↓vz_ineg, ↓vz_i2l, ↓vz_i2b, ↓vz_lcmp, ↓vz_dup2, ↓vz_getfield, ↓vz_iaload, ↓vz_baload, ↓vz_laload, ↓vz_iastore, ↓vz_bastore, ↓vz_ifCond, ↓vz_if_icmp, ↓vz_goto, ↓vz_tableswitch, ↓vz_lookupswitch, ↓vz_return_, ↓vz_ldc, ↓vz_ldc_w, ↓vz_ldc2_w, ↓vz_new, ↓vz_nil, ↓vz_callV, ↓vz_callS, ↓vz_max, ↓vz_min, ↓vz_abs, ↓vz_copy, ↓vz_dup, ↓vz_putI, ↓vz_putR, ↓vz_ireturn, ↓vz_alen, ↓vz_aaload, ↓cnt_some, ↓cnt_none, ↓pI_c, ↓pII_c, ↓pLL_c, ↓pR_c, ↓pIR_c, ↓pIIR_c, ↓lI_0, ↓lI_s, ↓lR_0, ↓lR_s, ↓lL_0, ↓lL_s, ↓dR_0, ↓dR_s, ↓nK_0, ↓nK_s, ↓vt_0, ↓reduceIte, List.mem_cons, List.not_mem_nil, or_false, false_or, or_self, Nat.reduceEqDiff, rok, exn, i01, i10, lok, cnd, slv_ref, slv_int, List.getElem?_cons_zero, List.getElem?_cons_succ, List.set_cons_zero, List.set_cons_succ, List.cons_append, List.nil_append, List.take_succ_cons, List.take_zero, List.drop_succ_cons, List.drop_zero, List.reverse_cons, List.reverse_nil, Option.toList_some, Option.toList_none, List.length_cons, List.length_nil, catL, List.map_cons, List.map_nil, List.sum_cons, List.sum_nil, Value.category, Nat.reduceAdd, Nat.reduceLT, Nat.reduceLeDiff, Fin.isValue, tgt, Int.cast_ofNat_Int, Int.reduceAdd, Int.reduceNeg, Int.reduceToNat, Int.zero_add, f4_0, f4_1, f4_2, f4_3, true_and, and_true, Classical.not_not, implies_true, true_implies, false_implies, not_false_eq_true, not_true_eq_false, and_self, true_or, or_true, beq_self_eq_true, ic_m8, ic_m1, ic_0, ic_1, ic_2, ic_3, ic_4, ic_5, ic_8, ic_16, bp_m28, bp_m27, bp_m26, bp_m25, bp_m24, bp_m23, bp_m22, bp_m21, bp_m20, bp_m2, bp_6, bp_7, bp_8, bp_9, bp_10, bp_11, bp_12, bp_13, bp_14, bp_15, bp_16, bp_17, bp_18, bp_20, bp_21, bp_22, bp_23, bp_24, bp_30, bp_32, bp_39, bp_40, bp_41, bp_42, bp_43, bp_44, bp_45, bp_47, bp_48, bp_57, bp_59, bp_60, bp_61, bp_63, bp_64, bp_97, bp_99, bp_100, bp_122, sp_255, sp_256, sp_700, sp_936, sp_960, sp_999, sp_4096, sp_9999, sp_10000, sp_12345, sp_32767]
    exact key1
  · have e4 : (12 : Int32) ≤ nI 12 := Int32.le_refl _
    refine hK 4 _ _ _ _ _ ?_
    simp only [↓bX11_unpack_0, ↓bX11_unpack_36, ↓bX11_unpack_77, ↓bX11_unpack_79, ↓bX11_unpack_126, ↓vh_go bkX11_unpack_0, ↓vh_go bkX11_unpack_36, ↓vh_go bkX11_unpack_77, ↓vh_go bkX11_unpack_79, ↓vh_go bkX11_unpack_126, ↓vt_go (heads := [36, 79]) bkX11_unpack_0 (by decide), ↓vt_go (heads := [36, 79]) bkX11_unpack_77 (by decide), ↓vt_go (heads := [36, 79]) bkX11_unpack_126 (by decide), ↓vt_stop (pc := 36) (heads := [36, 79]) (by decide), ↓vt_stop (pc := 79) (heads := [36, 79]) (by decide), e4, ↓vz_iconst, ↓vz_bipush, ↓vz_sipush, ↓vz_lconst, ↓vz_iload_n, ↓vz_iload, ↓vz_aload_n, ↓vz_aload, ↓vz_lload_n, ↓vz_lload, ↓vz_istore_n, ↓vz_istore, ↓vz_astore_n, ↓vz_astore, ↓vz_iinc, ↓vz_iadd, ↓vz_isub, ↓vz_imul, ↓vz_iand, ↓vz_ior, ↓vz_ixor, ↓vz_ishl, ↓vz_ishr, ↓vz_iushr, ↓vz_idiv, ↓vz_irem, ↓vz_ineg, ↓vz_i2l, ↓vz_i2b, ↓vz_lcmp, ↓vz_dup2, ↓vz_getfield, ↓vz_iaload, ↓vz_baload, ↓vz_laload, ↓vz_iastore, ↓vz_bastore, ↓vz_ifCond, ↓vz_if_icmp, ↓vz_goto, ↓vz_tableswitch, ↓vz_lookupswitch, ↓vz_return_, ↓vz_ldc, ↓vz_ldc_w, ↓vz_ldc2_w, ↓vz_new, ↓vz_nil, ↓vz_callV, ↓vz_callS, ↓vz_max, ↓vz_min, ↓vz_abs, ↓vz_copy, ↓vz_dup, ↓vz_putI, ↓vz_putR, ↓vz_ireturn, ↓vz_alen, ↓vz_aaload, ↓cnt_some, ↓cnt_none, ↓pI_c, ↓pII_c, ↓pLL_c, ↓pR_c, ↓pIR_c, ↓pIIR_c, ↓lI_0, ↓lI_s, ↓lR_0, ↓lR_s, ↓lL_0, ↓lL_s, ↓dR_0, ↓dR_s, ↓nK_0, ↓nK_s, ↓vt_0, ↓reduceIte, List.mem_cons, List.not_mem_nil, or_false, false_or, or_self, Nat.reduceEqDiff, rok, exn, i01, i10, lok, cnd, slv_ref, slv_int, List.getElem?_cons_zero, List.getElem?_cons_succ, List.set_cons_zero, List.set_cons_succ, List.cons_append, List.nil_append, List.take_succ_cons, List.take_zero, List.drop_succ_cons, List.drop_zero, List.reverse_cons, List.reverse_nil, Option.toList_some, Option.toList_none, List.length_cons, List.length_nil, catL, List.map_cons, List.map_nil, List.sum_cons, List.sum_nil, Value.category, Nat.reduceAdd, Nat.reduceLT, Nat.reduceLeDiff, Fin.isValue, tgt, Int.cast_ofNat_Int, Int.reduceAdd, Int.reduceNeg, Int.reduceToNat, Int.zero_add, f4_0, f4_1, f4_2, f4_3, true_and, and_true, Classical.not_not, implies_true, true_implies, false_implies, not_false_eq_true, not_true_eq_false, and_self, true_or, or_true, beq_self_eq_true, ic_m8, ic_m1, ic_0, ic_1, ic_2, ic_3, ic_4, ic_5, ic_8, ic_16, bp_m28, bp_m27, bp_m26, bp_m25, bp_m24, bp_m23, bp_m22, bp_m21, bp_m20, bp_m2, bp_6, bp_7, bp_8, bp_9, bp_10, bp_11, bp_12, bp_13, bp_14, bp_15, bp_16, bp_17, bp_18, bp_20, bp_21, bp_22, bp_23, bp_24, bp_30, bp_32, bp_39, bp_40, bp_41, bp_42, bp_43, bp_44, bp_45, bp_47, bp_48, bp_57, bp_59, bp_60, bp_61, bp_63, bp_64, bp_97, bp_99, bp_100, bp_122, sp_255, sp_256, sp_700, sp_936, sp_960, sp_999, sp_4096, sp_9999, sp_10000, sp_12345, sp_32767]
    exact key2
  · intro j hj ih
    have e4 : ¬ (12 : Int32) ≤ nI j := nI_ge hj (by decide)
    have i1 : vp_in (nI j) 12 := vp_in_nI hj (by decide)
    have c1 : (nI j).toNatClampNeg = j := nI_clamp (by omega)
    have a1 : nI t + 4 + nI j = nI (t + (4 + j)) := by rw [show (4 : Int32) = nI 4 from rfl, nI_add, nI_add]; congr 1; omega
    have a2 : nI t + 4 + 12 + nI j = nI (t + (16 + j)) := by rw [show (4 : Int32) = nI 4 from rfl, show (12 : Int32) = nI 12 from rfl, nI_add, nI_add, nI_add]; congr 1; omega
    obtain ⟨x1, y1⟩ := ix (4 + j) (by omega)
    obtain ⟨x2, y2⟩ := ix (16 + j) (by omega)
    unfold unA at ih ⊢
    refine hK 4 _ _ _ _ _ ?_
    simp only [↓bX11_unpack_0, ↓bX11_unpack_36, ↓bX11_unpack_77, ↓bX11_unpack_79, ↓bX11_unpack_126, ↓vh_go bkX11_unpack_0, ↓vh_go bkX11_unpack_36, ↓vh_go bkX11_unpack_77, ↓vh_go bkX11_unpack_79, ↓vh_go bkX11_unpack_126, ↓vt_go (heads := [36, 79]) bkX11_unpack_0 (by decide), ↓vt_go (heads := [36, 79]) bkX11_unpack_77 (by decide), ↓vt_go (heads := [36, 79]) bkX11_unpack_126 (by decide), ↓vt_stop (pc := 36) (heads := [36, 79]) (by decide), ↓vt_stop (pc := 79) (heads := [36, 79]) (by decide), ↓fK_of L52, ↓aK_of L56, ↓aK_of L57, ↓aK_of L63, ↓aK_of L64, ↓aK_of L65, ↓aK_of L66, ↓aK_of L68, ↓aK_of L69, ↓aK_of L70, ↓aK_of L71, ↓aK_of L72, ↓aK_of L73, ↓aK_of L74, sm_52, sm_56, sm_57, sm_63, sm_64, sm_65, sm_66, sm_68, sm_69, sm_70, sm_71, sm_72, sm_73, sm_74, mf_r33, mf_r34, mf_r35, mf_r36, mf_r41, mf_r37, mf_r38, mf_r4, ss_33, ss_34, ss_35, ss_36, ss_41, ss_66, ss_68, ss_69, ss_70, ss_71, ss_73, ss_74, pj_F, pj_Ne, pj_So, pj_Pa, pj_Wo, pj_Ho, ↓aK_of hc, oc, e4, i1, c1, a1, a2, x1, y1, x2, y2, nI_1, ↓vz_iconst, ↓vz_bipush, ↓vz_sipush, ↓vz_lconst, ↓vz_iload_n, ↓vz_iload, ↓vz_aload_n, ↓vz_aload, ↓vz_lload_n, ↓vz_lload, ↓vz_istore_n, ↓vz_istore, ↓vz_astore_n, ↓vz_astore, ↓vz_iinc, ↓vz_iadd, ↓vz_isub, ↓vz_imul, ↓vz_iand, ↓vz_ior, ↓vz_ixor, ↓vz_ishl, ↓vz_ishr, ↓vz_iushr, ↓vz_idiv, ↓vz_irem, ↓vz_ineg, ↓vz_i2l, ↓vz_i2b, ↓vz_lcmp, ↓vz_dup2, ↓vz_getfield, ↓vz_iaload, ↓vz_baload, ↓vz_laload, ↓vz_iastore, ↓vz_bastore, ↓vz_ifCond, ↓vz_if_icmp, ↓vz_goto, ↓vz_tableswitch, ↓vz_lookupswitch, ↓vz_return_, ↓vz_ldc, ↓vz_ldc_w, ↓vz_ldc2_w, ↓vz_new, ↓vz_nil, ↓vz_callV, ↓vz_callS, ↓vz_max, ↓vz_min, ↓vz_abs, ↓vz_copy, ↓vz_dup, ↓vz_putI, ↓vz_putR, ↓vz_ireturn, ↓vz_alen, ↓vz_aaload, ↓cnt_some, ↓cnt_none, ↓pI_c, ↓pII_c, ↓pLL_c, ↓pR_c, ↓pIR_c, ↓pIIR_c, ↓lI_0, ↓lI_s, ↓lR_0, ↓lR_s, ↓lL_0, ↓lL_s, ↓dR_0, ↓dR_s, ↓nK_0, ↓nK_s, ↓vt_0, ↓reduceIte, List.mem_cons, List.not_mem_nil, or_false, false_or, or_self, Nat.reduceEqDiff, rok, exn, i01, i10, lok, cnd, slv_ref, slv_int, List.getElem?_cons_zero, List.getElem?_cons_succ, List.set_cons_zero, List.set_cons_succ, List.cons_append, List.nil_append, List.take_succ_cons, List.take_zero, List.drop_succ_cons, List.drop_zero, List.reverse_cons, List.reverse_nil, Option.toList_some, Option.toList_none, List.length_cons, List.length_nil, catL, List.map_cons, List.map_nil, List.sum_cons, List.sum_nil, Value.category, Nat.reduceAdd, Nat.reduceLT, Nat.reduceLeDiff, Fin.isValue, tgt, Int.cast_ofNat_Int, Int.reduceAdd, Int.reduceNeg, Int.reduceToNat, Int.zero_add, f4_0, f4_1, f4_2, f4_3, true_and, and_true, Classical.not_not, implies_true, true_implies, false_implies, not_false_eq_true, not_true_eq_false, and_self, true_or, or_true, beq_self_eq_true, ic_m8, ic_m1, ic_0, ic_1, ic_2, ic_3, ic_4, ic_5, ic_8, ic_16, bp_m28, bp_m27, bp_m26, bp_m25, bp_m24, bp_m23, bp_m22, bp_m21, bp_m20, bp_m2, bp_6, bp_7, bp_8, bp_9, bp_10, bp_11, bp_12, bp_13, bp_14, bp_15, bp_16, bp_17, bp_18, bp_20, bp_21, bp_22, bp_23, bp_24, bp_30, bp_32, bp_39, bp_40, bp_41, bp_42, bp_43, bp_44, bp_45, bp_47, bp_48, bp_57, bp_59, bp_60, bp_61, bp_63, bp_64, bp_97, bp_99, bp_100, bp_122, sp_255, sp_256, sp_700, sp_936, sp_960, sp_999, sp_4096, sp_9999, sp_10000, sp_12345, sp_32767]
    rw [← cpy0_s _ (aWo a), ← cpy0_s _ (aHo a)] at ih
    exact ih
-- the world b is put back to a, that the row tells
set_option maxRecDepth 100000 in
set_option maxHeartbeats 4000000 in
theorem m_unpack (hl : l.stackTraces = false) {c len t : Nat} {b : AW} (hc : lay[c]? = some (1, len, [])) (h1 : c ≠ 52) (h2 : c ≠ 66) (h3 : c ≠ 68) (h4 : c ≠ 69) (h5 : c ≠ 70) (h6 : c ≠ 71) (h7 : c ≠ 73) (h8 : c ≠ 74) (ht : t + 44 ≤ len) (hlen : len < 2 ^ 31) (hr : rowM (d c) t a) (hn : aNe b = aNe a) : CM l mX11_unpack (n + 1) 0 [.ref 52, .ref c, .int (nI t)] (setM d b as sk) (fun v d' => v = none ∧ d' = setM d (a7 a (aF b 7)) as sk) NX := by
  refine (m_unpack0 hl hc h1 h2 h3 h4 h5 h6 h7 h8 ht hlen).norm (fun v d' e => ?_) (fun _ _ h => h.elim)
  obtain ⟨rfl, rfl⟩ := e
  obtain ⟨r0, r1, r2, r3, r4, r5⟩ := hr
  refine ⟨_, fun k q hq => ?_, rfl, rfl⟩
  by_cases e : k = 52
  · subst e
    rw [sm_52, sm_52]
    have : mf (d 52) (aF (unA b (d c) t 12 8)) = mf (d 52) (aF (a7 a (aF b 7))) := by
      funext i
      show mf (d 52) (upd (upd (upd (upd (aF b) 2 (d c t)) 1 (d c (t + 1))) 5 (d c (t + 2))) 6 (d c (t + 3))) i = mf (d 52) (upd (aF a) 7 (aF b 7)) i
      rw [r0, r1, r2, r3]
      unfold mf
      rfl
    rw [this]
    exact ⟨fun _ _ _ _ => rfl, fun _ _ _ => rfl⟩
  by_cases e1 : k = 68
  · subst e1
    rw [sm_68, sm_68]
    rw [L68] at hq
    cases hq
    exact ⟨fun z => absurd z (by decide), fun _ i hi => by
      have hi : i < 12 := hi
      rw [show aWo (unA b (d c) t 12 8) i = d c (t + (4 + i)) from cpy0_at (fun i => d c (t + (4 + i))) (aWo b) hi]
      exact (r4 i hi).1⟩
  by_cases e2 : k = 69
  · subst e2
    rw [sm_69, sm_69]
    rw [L69] at hq
    cases hq
    exact ⟨fun z => absurd z (by decide), fun _ i hi => by
      have hi : i < 12 := hi
      rw [show aHo (unA b (d c) t 12 8) i = d c (t + (16 + i)) from cpy0_at (fun i => d c (t + (16 + i))) (aHo b) hi]
      exact (r4 i hi).2⟩
  by_cases e3 : k = 70
  · subst e3
    rw [sm_70, sm_70]
    rw [L70] at hq
    cases hq
    exact ⟨fun z => absurd z (by decide), fun _ i hi => by
      have hi : i < 8 := hi
      rw [show aSo (unA b (d c) t 12 8) i = d c (t + (28 + i)) from cpy0_at (fun i => d c (t + (28 + i))) (aSo b) hi]
      exact (r5 i hi).1⟩
  by_cases e4 : k = 71
  · subst e4
    rw [sm_71, sm_71]
    rw [L71] at hq
    cases hq
    exact ⟨fun z => absurd z (by decide), fun _ i hi => by
      have hi : i < 8 := hi
      rw [show aPa (unA b (d c) t 12 8) i = d c (t + (36 + i)) from cpy0_at (fun i => d c (t + (36 + i))) (aPa b) hi]
      exact (r5 i hi).2⟩
  have : setM d (unA b (d c) t 12 8) as sk k = setM d (a7 a (aF b 7)) as sk k := by
    unfold setM
    rw [if_neg e, if_neg e, if_neg e1, if_neg e1, if_neg e2, if_neg e2, if_neg e3, if_neg e3, if_neg e4, if_neg e4]
    have : aNe (unA b (d c) t 12 8) = aNe (a7 a (aF b 7)) := hn
    rw [this]
  rw [this]
  exact ⟨fun _ _ _ _ => rfl, fun _ _ _ => rfl⟩
end RefE
