section Memory3
variable {l : Launch} {n : Nat} {d : DS}
set_option maxRecDepth 100000 in
set_option maxHeartbeats 4000000 in
theorem n_copyTo (hl : l.stackTraces = false) : CM l mX2_copyFrom (n + 3) 0 [.ref 14, .ref 2] d (fun v d' => v = none ∧ fr [14, 15, 16, 17, 18, 19, 20, 21, 22, 23, 24] d d' ∧ d' 14 = upd (upd (d 14) 3 (d 2 3)) 4 (d 2 4) ∧ d' 15 = cpy0 (d 3) (d 15) 8 ∧ d' 16 = cpy0 (d 4) (d 16) 8 ∧ d' 17 = cpy0 (d 5) (d 17) 960 ∧ d' 18 = cpy0 (d 6) (d 18) 3 ∧ d' 19 = upd (upd (upd (upd (upd (upd (upd (upd (d 19) 0 (d 7 0)) 1 (d 7 1)) 2 (d 7 2)) 3 (d 7 3)) 4 (d 7 4)) 5 (d 7 5)) 6 (d 7 6)) 7 0 ∧ d' 20 = cpy0 (d 8) (d 20) 8 ∧ d' 21 = cpy0 (d 9) (d 21) 8 ∧ d' 22 = cpy0 (d 10) (d 22) 8 ∧ d' 23 = cpy0 (d 11) (d 23) 12 ∧ d' 24 = cpy0 (d 12) (d 24) 12) NX := by
  refine CM.tree2 2 none _ rfl rfl hl BX2_copyFrom [] (by decide +kernel) OKX2_copyFrom (Nat.le_of_ble_eq_true rfl) rfl (fun K hK hm => ?_)
  show K 0 [some (.ref 14), some (.ref 2)] [] _ 0
  have rw1 : rcv 8 19 := isW_19.rcv
  have c0 : (0 : Int32).toNatClampNeg = 0 := rfl
  have c3 : (3 : Int32).toNatClampNeg = 3 := by decide
  have c8 : (8 : Int32).toNatClampNeg = 8 := by decide
  have c960 : (960 : Int32).toNatClampNeg = 960 := by decide
  have s0 : ¬ (0 : Int32) < 0 := by decide
  have s3 : ¬ (3 : Int32) < 0 := by decide
  have s8 : ¬ (8 : Int32) < 0 := by decide
  have s960 : ¬ (960 : Int32) < 0 := by decide
  refine hK 4 _ _ _ _ _ ?_
  simp only [↓bX2_copyFrom_0, ↓vh_go bkX2_copyFrom_0, ↓vt_go (heads := []) bkX2_copyFrom_0 (by decide), ↓fK_of L14, ↓fK_of L2, rw1, ↓vz_iconst, ↓vz_bipush, ↓vz_sipush, ↓vz_lconst, ↓vz_iload_n, ↓vz_iload, ↓vz_aload_n, ↓vz_aload, ↓vz_lload_n, ↓vz_lload, ↓vz_istore_n, ↓vz_istore, ↓vz_astore_n, ↓vz_astore, ↓vz_iinc, ↓vz_iadd, ↓vz_isub, ↓vz_imul, ↓vz_iand, ↓vz_ior, ↓vz_ixor, ↓vz_ishl, ↓vz_ishr, ↓vz_iushr, ↓vz_idiv, ↓vz_irem, ↓vz_ineg, ↓vz_i2l, ↓vz_i2b, ↓vz_lcmp, ↓vz_dup2, ↓vz_getfield, ↓vz_iaload, ↓vz_baload, ↓vz_laload, ↓vz_iastore, ↓vz_bastore, ↓vz_ifCond, ↓vz_if_icmp, ↓vz_goto, ↓vz_tableswitch, ↓vz_lookupswitch, ↓vz_return_, ↓vz_ldc, ↓vz_ldc_w, ↓vz_ldc2_w, ↓vz_new, ↓vz_nil, ↓vz_callV, ↓vz_callS, ↓vz_max, ↓vz_min, ↓vz_abs, ↓vz_copy, ↓vz_dup, ↓vz_putI, ↓vz_putR, ↓vz_ireturn, ↓vz_alen, ↓vz_aaload, ↓cnt_some, ↓cnt_none, ↓pI_c, ↓pII_c, ↓pLL_c, ↓pR_c, ↓pIR_c, ↓pIIR_c, ↓lI_0, ↓lI_s, ↓lR_0, ↓lR_s, ↓lL_0, ↓lL_s, ↓dR_0, ↓dR_s, ↓nK_0, ↓nK_s, ↓vt_0, ↓reduceIte, List.mem_cons, List.not_mem_nil, or_false, false_or, or_self, Nat.reduceEqDiff, rok, exn, i01, i10, lok, cnd, slv_ref, slv_int, List.getElem?_cons_zero, List.getElem?_cons_succ, List.set_cons_zero, List.set_cons_succ, List.cons_append, List.nil_append, List.take_succ_cons, List.take_zero, List.drop_succ_cons, List.drop_zero, List.reverse_cons, List.reverse_nil, Option.toList_some, Option.toList_none, List.length_cons, List.length_nil, catL, List.map_cons, List.map_nil, List.sum_cons, List.sum_nil, Value.category, Nat.reduceAdd, Nat.reduceLT, Nat.reduceLeDiff, Fin.isValue, tgt, Int.cast_ofNat_Int, Int.reduceAdd, Int.reduceNeg, Int.reduceToNat, Int.zero_add, f4_0, f4_1, f4_2, f4_3, true_and, and_true, Classical.not_not, implies_true, true_implies, false_implies, not_false_eq_true, not_true_eq_false, and_self, true_or, or_true, beq_self_eq_true, ic_m8, ic_m1, ic_0, ic_1, ic_2, ic_3, ic_4, ic_5, ic_8, ic_16, bp_m28, bp_m27, bp_m26, bp_m25, bp_m24, bp_m23, bp_m22, bp_m21, bp_m20, bp_m2, bp_6, bp_7, bp_8, bp_9, bp_10, bp_11, bp_12, bp_13, bp_14, bp_15, bp_16, bp_17, bp_18, bp_20, bp_21, bp_22, bp_23, bp_24, bp_30, bp_32, bp_39, bp_40, bp_41, bp_42, bp_43, bp_44, bp_45, bp_47, bp_48, bp_57, bp_59, bp_60, bp_61, bp_63, bp_64, bp_97, bp_99, bp_100, bp_122, sp_255, sp_256, sp_700, sp_936, sp_960, sp_999, sp_4096, sp_9999, sp_10000, sp_12345, sp_32767]
  have cp := v_copyFrom (n := n) (d := d) (f := d 19) (ne := d 20) (so := d 21) (pa := d 22) (wo := d 23) (ho := d 24) (we := d 25) hl isW_19 isW_7 (by decide) rfl rfl rfl rfl rfl rfl
  rw [setW_id d 19] at cp
  refine cp.mono (fun v d1 h => ?_) (fun _ _ h => h.elim)
  obtain ⟨rfl, h1⟩ := h
  have hf : fr [19, 20, 21, 22, 23, 24] d d1 := by
    intro c hc
    rw [h1]
    unfold setW
    by_cases q6 : c = 19 + 6
    · rw [if_neg (by omega), if_neg (by omega), if_neg (by omega), if_neg (by omega), if_neg (by omega), if_neg (by omega), if_pos q6, q6]
    · rw [if_neg (fun z => hc (by rw [z]; decide)), if_neg (fun z => hc (by rw [z]; decide)), if_neg (fun z => hc (by rw [z]; decide)), if_neg (fun z => hc (by rw [z]; decide)), if_neg (fun z => hc (by rw [z]; decide)), if_neg (fun z => hc (by rw [z]; decide)), if_neg q6]
  have g0 : d1 19 = upd (upd (upd (upd (upd (upd (upd (upd (d 19) 0 (d 7 0)) 1 (d 7 1)) 2 (d 7 2)) 3 (d 7 3)) 4 (d 7 4)) 5 (d 7 5)) 6 (d 7 6)) 7 0 := by rw [h1]; rfl
  have g1 : d1 20 = cpy0 (d 8) (d 20) 8 := by rw [h1]; rfl
  have g2 : d1 21 = cpy0 (d 9) (d 21) 8 := by rw [h1]; rfl
  have g3 : d1 22 = cpy0 (d 10) (d 22) 8 := by rw [h1]; rfl
  have g4 : d1 23 = cpy0 (d 11) (d 23) 12 := by rw [h1]; rfl
  have g5 : d1 24 = cpy0 (d 12) (d 24) 12 := by rw [h1]; rfl
  have o14 : d1 14 = d 14 := hf 14 (by decide)
  have o15 : d1 15 = d 15 := hf 15 (by decide)
  have o16 : d1 16 = d 16 := hf 16 (by decide)
  have o17 : d1 17 = d 17 := hf 17 (by decide)
  have o18 : d1 18 = d 18 := hf 18 (by decide)
  have o2 : d1 2 = d 2 := hf 2 (by decide)
  have o3 : d1 3 = d 3 := hf 3 (by decide)
  have o4 : d1 4 = d 4 := hf 4 (by decide)
  have o5 : d1 5 = d 5 := hf 5 (by decide)
  have o6 : d1 6 = d 6 := hf 6 (by decide)
  simp only [↓bX2_copyFrom_0, ↓vh_go bkX2_copyFrom_0, ↓vt_go (heads := []) bkX2_copyFrom_0 (by decide), ↓fK_of L14, ↓fK_of L2, ↓aK_of L15, ↓aK_of L16, ↓aK_of L17, ↓aK_of L18, ↓aK_of L3, ↓aK_of L4, ↓aK_of L5, ↓aK_of L6, ne_eq, ds_s, ds_n, dr_s, dr_n, up_s, o14, o15, o16, o17, o18, o2, o3, o4, o5, o6, c0, c3, c8, c960, s0, s3, s8, s960, cpy0_eq, ↓vz_iconst, ↓vz_bipush, ↓vz_sipush, ↓vz_lconst, ↓vz_iload_n, ↓vz_iload, ↓vz_aload_n, ↓vz_aload, ↓vz_lload_n, ↓vz_lload, ↓vz_istore_n, ↓vz_istore, ↓vz_astore_n, ↓vz_astore, ↓vz_iinc, ↓vz_iadd, ↓vz_isub, ↓vz_imul, ↓vz_iand, ↓vz_ior, ↓vz_ixor, ↓vz_ishl, ↓vz_ishr, ↓vz_iushr, ↓vz_idiv, ↓vz_irem, ↓vz_ineg, ↓vz_i2l, ↓vz_i2b, ↓vz_lcmp, ↓vz_dup2, ↓vz_getfield, ↓vz_iaload, ↓vz_baload, ↓vz_laload, ↓vz_iastore, ↓vz_bastore, ↓vz_ifCond, ↓vz_if_icmp, ↓vz_goto, ↓vz_tableswitch, ↓vz_lookupswitch, ↓vz_return_, ↓vz_ldc, ↓vz_ldc_w, ↓vz_ldc2_w, ↓vz_new, ↓vz_nil, ↓vz_callV, ↓vz_callS, ↓vz_max, ↓vz_min, ↓vz_abs, ↓vz_copy, ↓vz_dup, ↓vz_putI, ↓vz_putR, ↓vz_ireturn, ↓vz_alen, ↓vz_aaload, ↓cnt_some, ↓cnt_none, ↓pI_c, ↓pII_c, ↓pLL_c, ↓pR_c, ↓pIR_c, ↓pIIR_c, ↓lI_0, ↓lI_s, ↓lR_0, ↓lR_s, ↓lL_0, ↓lL_s, ↓dR_0, ↓dR_s, ↓nK_0, ↓nK_s, ↓vt_0, ↓reduceIte, List.mem_cons, List.not_mem_nil, or_false, false_or, or_self, Nat.reduceEqDiff, rok, exn, i01, i10, lok, cnd, slv_ref, slv_int, List.getElem?_cons_zero, List.getElem?_cons_succ, List.set_cons_zero, List.set_cons_succ, List.cons_append, List.nil_append, List.take_succ_cons, List.take_zero, List.drop_succ_cons, List.drop_zero, List.reverse_cons, List.reverse_nil, Option.toList_some, Option.toList_none, List.length_cons, List.length_nil, catL, List.map_cons, List.map_nil, List.sum_cons, List.sum_nil, Value.category, Nat.reduceAdd, Nat.reduceLT, Nat.reduceLeDiff, Fin.isValue, tgt, Int.cast_ofNat_Int, Int.reduceAdd, Int.reduceNeg, Int.reduceToNat, Int.zero_add, f4_0, f4_1, f4_2, f4_3, true_and, and_true, Classical.not_not, implies_true, true_implies, false_implies, not_false_eq_true, not_true_eq_false, and_self, true_or, or_true, beq_self_eq_true, ic_m8, ic_m1, ic_0, ic_1, ic_2, ic_3, ic_4, ic_5, ic_8, ic_16, bp_m28, bp_m27, bp_m26, bp_m25, bp_m24, bp_m23, bp_m22, bp_m21, bp_m20, bp_m2, bp_6, bp_7, bp_8, bp_9, bp_10, bp_11, bp_12, bp_13, bp_14, bp_15, bp_16, bp_17, bp_18, bp_20, bp_21, bp_22, bp_23, bp_24, bp_30, bp_32, bp_39, bp_40, bp_41, bp_42, bp_43, bp_44, bp_45, bp_47, bp_48, bp_57, bp_59, bp_60, bp_61, bp_63, bp_64, bp_97, bp_99, bp_100, bp_122, sp_255, sp_256, sp_700, sp_936, sp_960, sp_999, sp_4096, sp_9999, sp_10000, sp_12345, sp_32767]
  exact ⟨fr.row (fr.row (fr.row (fr.row (fr.set (fr.set ((hf.mono (by decide))) (by decide) _ _) (by decide) _ _) (by decide) _) (by decide) _) (by decide) _) (by decide) _, g0, g1, g2, g3, g4, g5⟩
set_option maxRecDepth 100000 in
set_option maxHeartbeats 4000000 in
theorem n_copyBack (hl : l.stackTraces = false) : CM l mX2_copyFrom (n + 3) 0 [.ref 2, .ref 14] d (fun v d' => v = none ∧ fr [2, 3, 4, 5, 6, 7, 8, 9, 10, 11, 12] d d' ∧ d' 2 = upd (upd (d 2) 3 (d 14 3)) 4 (d 14 4) ∧ d' 3 = cpy0 (d 15) (d 3) 8 ∧ d' 4 = cpy0 (d 16) (d 4) 8 ∧ d' 5 = cpy0 (d 17) (d 5) 960 ∧ d' 6 = cpy0 (d 18) (d 6) 3 ∧ d' 7 = upd (upd (upd (upd (upd (upd (upd (upd (d 7) 0 (d 19 0)) 1 (d 19 1)) 2 (d 19 2)) 3 (d 19 3)) 4 (d 19 4)) 5 (d 19 5)) 6 (d 19 6)) 7 0 ∧ d' 8 = cpy0 (d 20) (d 8) 8 ∧ d' 9 = cpy0 (d 21) (d 9) 8 ∧ d' 10 = cpy0 (d 22) (d 10) 8 ∧ d' 11 = cpy0 (d 23) (d 11) 12 ∧ d' 12 = cpy0 (d 24) (d 12) 12) NX := by
  refine CM.tree2 2 none _ rfl rfl hl BX2_copyFrom [] (by decide +kernel) OKX2_copyFrom (Nat.le_of_ble_eq_true rfl) rfl (fun K hK hm => ?_)
  show K 0 [some (.ref 2), some (.ref 14)] [] _ 0
  have rw1 : rcv 8 7 := isW_7.rcv
  have c0 : (0 : Int32).toNatClampNeg = 0 := rfl
  have c3 : (3 : Int32).toNatClampNeg = 3 := by decide
  have c8 : (8 : Int32).toNatClampNeg = 8 := by decide
  have c960 : (960 : Int32).toNatClampNeg = 960 := by decide
  have s0 : ¬ (0 : Int32) < 0 := by decide
  have s3 : ¬ (3 : Int32) < 0 := by decide
  have s8 : ¬ (8 : Int32) < 0 := by decide
  have s960 : ¬ (960 : Int32) < 0 := by decide
  refine hK 4 _ _ _ _ _ ?_
  simp only [↓bX2_copyFrom_0, ↓vh_go bkX2_copyFrom_0, ↓vt_go (heads := []) bkX2_copyFrom_0 (by decide), ↓fK_of L2, ↓fK_of L14, rw1, ↓vz_iconst, ↓vz_bipush, ↓vz_sipush, ↓vz_lconst, ↓vz_iload_n, ↓vz_iload, ↓vz_aload_n, ↓vz_aload, ↓vz_lload_n, ↓vz_lload, ↓vz_istore_n, ↓vz_istore, ↓vz_astore_n, ↓vz_astore, ↓vz_iinc, ↓vz_iadd, ↓vz_isub, ↓vz_imul, ↓vz_iand, ↓vz_ior, ↓vz_ixor, ↓vz_ishl, ↓vz_ishr, ↓vz_iushr, ↓vz_idiv, ↓vz_irem, ↓vz_ineg, ↓vz_i2l, ↓vz_i2b, ↓vz_lcmp, ↓vz_dup2, ↓vz_getfield, ↓vz_iaload, ↓vz_baload, ↓vz_laload, ↓vz_iastore, ↓vz_bastore, ↓vz_ifCond, ↓vz_if_icmp, ↓vz_goto, ↓vz_tableswitch, ↓vz_lookupswitch, ↓vz_return_, ↓vz_ldc, ↓vz_ldc_w, ↓vz_ldc2_w, ↓vz_new, ↓vz_nil, ↓vz_callV, ↓vz_callS, ↓vz_max, ↓vz_min, ↓vz_abs, ↓vz_copy, ↓vz_dup, ↓vz_putI, ↓vz_putR, ↓vz_ireturn, ↓vz_alen, ↓vz_aaload, ↓cnt_some, ↓cnt_none, ↓pI_c, ↓pII_c, ↓pLL_c, ↓pR_c, ↓pIR_c, ↓pIIR_c, ↓lI_0, ↓lI_s, ↓lR_0, ↓lR_s, ↓lL_0, ↓lL_s, ↓dR_0, ↓dR_s, ↓nK_0, ↓nK_s, ↓vt_0, ↓reduceIte, List.mem_cons, List.not_mem_nil, or_false, false_or, or_self, Nat.reduceEqDiff, rok, exn, i01, i10, lok, cnd, slv_ref, slv_int, List.getElem?_cons_zero, List.getElem?_cons_succ, List.set_cons_zero, List.set_cons_succ, List.cons_append, List.nil_append, List.take_succ_cons, List.take_zero, List.drop_succ_cons, List.drop_zero, List.reverse_cons, List.reverse_nil, Option.toList_some, Option.toList_none, List.length_cons, List.length_nil, catL, List.map_cons, List.map_nil, List.sum_cons, List.sum_nil, Value.category, Nat.reduceAdd, Nat.reduceLT, Nat.reduceLeDiff, Fin.isValue, tgt, Int.cast_ofNat_Int, Int.reduceAdd, Int.reduceNeg, Int.reduceToNat, Int.zero_add, f4_0, f4_1, f4_2, f4_3, true_and, and_true, Classical.not_not, implies_true, true_implies, false_implies, not_false_eq_true, not_true_eq_false, and_self, true_or, or_true, beq_self_eq_true, ic_m8, ic_m1, ic_0, ic_1, ic_2, ic_3, ic_4, ic_5, ic_8, ic_16, bp_m28, bp_m27, bp_m26, bp_m25, bp_m24, bp_m23, bp_m22, bp_m21, bp_m20, bp_m2, bp_6, bp_7, bp_8, bp_9, bp_10, bp_11, bp_12, bp_13, bp_14, bp_15, bp_16, bp_17, bp_18, bp_20, bp_21, bp_22, bp_23, bp_24, bp_30, bp_32, bp_39, bp_40, bp_41, bp_42, bp_43, bp_44, bp_45, bp_47, bp_48, bp_57, bp_59, bp_60, bp_61, bp_63, bp_64, bp_97, bp_99, bp_100, bp_122, sp_255, sp_256, sp_700, sp_936, sp_960, sp_999, sp_4096, sp_9999, sp_10000, sp_12345, sp_32767]
  have cp := v_copyFrom (n := n) (d := d) (f := d 7) (ne := d 8) (so := d 9) (pa := d 10) (wo := d 11) (ho := d 12) (we := d 13) hl isW_7 isW_19 (by decide) rfl rfl rfl rfl rfl rfl
  rw [setW_id d 7] at cp
  refine cp.mono (fun v d1 h => ?_) (fun _ _ h => h.elim)
  obtain ⟨rfl, h1⟩ := h
  have hf : fr [7, 8, 9, 10, 11, 12] d d1 := by
    intro c hc
    rw [h1]
    unfold setW
    by_cases q6 : c = 7 + 6
    · rw [if_neg (by omega), if_neg (by omega), if_neg (by omega), if_neg (by omega), if_neg (by omega), if_neg (by omega), if_pos q6, q6]
    · rw [if_neg (fun z => hc (by rw [z]; decide)), if_neg (fun z => hc (by rw [z]; decide)), if_neg (fun z => hc (by rw [z]; decide)), if_neg (fun z => hc (by rw [z]; decide)), if_neg (fun z => hc (by rw [z]; decide)), if_neg (fun z => hc (by rw [z]; decide)), if_neg q6]
  have g0 : d1 7 = upd (upd (upd (upd (upd (upd (upd (upd (d 7) 0 (d 19 0)) 1 (d 19 1)) 2 (d 19 2)) 3 (d 19 3)) 4 (d 19 4)) 5 (d 19 5)) 6 (d 19 6)) 7 0 := by rw [h1]; rfl
  have g1 : d1 8 = cpy0 (d 20) (d 8) 8 := by rw [h1]; rfl
  have g2 : d1 9 = cpy0 (d 21) (d 9) 8 := by rw [h1]; rfl
  have g3 : d1 10 = cpy0 (d 22) (d 10) 8 := by rw [h1]; rfl
  have g4 : d1 11 = cpy0 (d 23) (d 11) 12 := by rw [h1]; rfl
  have g5 : d1 12 = cpy0 (d 24) (d 12) 12 := by rw [h1]; rfl
  have o2 : d1 2 = d 2 := hf 2 (by decide)
  have o3 : d1 3 = d 3 := hf 3 (by decide)
  have o4 : d1 4 = d 4 := hf 4 (by decide)
  have o5 : d1 5 = d 5 := hf 5 (by decide)
  have o6 : d1 6 = d 6 := hf 6 (by decide)
  have o14 : d1 14 = d 14 := hf 14 (by decide)
  have o15 : d1 15 = d 15 := hf 15 (by decide)
  have o16 : d1 16 = d 16 := hf 16 (by decide)
  have o17 : d1 17 = d 17 := hf 17 (by decide)
  have o18 : d1 18 = d 18 := hf 18 (by decide)
  simp only [↓bX2_copyFrom_0, ↓vh_go bkX2_copyFrom_0, ↓vt_go (heads := []) bkX2_copyFrom_0 (by decide), ↓fK_of L2, ↓fK_of L14, ↓aK_of L3, ↓aK_of L4, ↓aK_of L5, ↓aK_of L6, ↓aK_of L15, ↓aK_of L16, ↓aK_of L17, ↓aK_of L18, ne_eq, ds_s, ds_n, dr_s, dr_n, up_s, o2, o3, o4, o5, o6, o14, o15, o16, o17, o18, c0, c3, c8, c960, s0, s3, s8, s960, cpy0_eq, ↓vz_iconst, ↓vz_bipush, ↓vz_sipush, ↓vz_lconst, ↓vz_iload_n, ↓vz_iload, ↓vz_aload_n, ↓vz_aload, ↓vz_lload_n, ↓vz_lload, ↓vz_istore_n, ↓vz_istore, ↓vz_astore_n, ↓vz_astore, ↓vz_iinc, ↓vz_iadd, ↓vz_isub, ↓vz_imul, ↓vz_iand, ↓vz_ior, ↓vz_ixor, ↓vz_ishl, ↓vz_ishr, ↓vz_iushr, ↓vz_idiv, ↓vz_irem, ↓vz_ineg, ↓vz_i2l, ↓vz_i2b, ↓vz_lcmp, ↓vz_dup2, ↓vz_getfield, ↓vz_iaload, ↓vz_baload, ↓vz_laload, ↓vz_iastore, ↓vz_bastore, ↓vz_ifCond, ↓vz_if_icmp, ↓vz_goto, ↓vz_tableswitch, ↓vz_lookupswitch, ↓vz_return_, ↓vz_ldc, ↓vz_ldc_w, ↓vz_ldc2_w, ↓vz_new, ↓vz_nil, ↓vz_callV, ↓vz_callS, ↓vz_max, ↓vz_min, ↓vz_abs, ↓vz_copy, ↓vz_dup, ↓vz_putI, ↓vz_putR, ↓vz_ireturn, ↓vz_alen, ↓vz_aaload, ↓cnt_some, ↓cnt_none, ↓pI_c, ↓pII_c, ↓pLL_c, ↓pR_c, ↓pIR_c, ↓pIIR_c, ↓lI_0, ↓lI_s, ↓lR_0, ↓lR_s, ↓lL_0, ↓lL_s, ↓dR_0, ↓dR_s, ↓nK_0, ↓nK_s, ↓vt_0, ↓reduceIte, List.mem_cons, List.not_mem_nil, or_false, false_or, or_self, Nat.reduceEqDiff, rok, exn, i01, i10, lok, cnd, slv_ref, slv_int, List.getElem?_cons_zero, List.getElem?_cons_succ, List.set_cons_zero, List.set_cons_succ, List.cons_append, List.nil_append, List.take_succ_cons, List.take_zero, List.drop_succ_cons, List.drop_zero, List.reverse_cons, List.reverse_nil, Option.toList_some, Option.toList_none, List.length_cons, List.length_nil, catL, List.map_cons, List.map_nil, List.sum_cons, List.sum_nil, Value.category, Nat.reduceAdd, Nat.reduceLT, Nat.reduceLeDiff, Fin.isValue, tgt, Int.cast_ofNat_Int, Int.reduceAdd, Int.reduceNeg, Int.reduceToNat, Int.zero_add, f4_0, f4_1, f4_2, f4_3, true_and, and_true, Classical.not_not, implies_true, true_implies, false_implies, not_false_eq_true, not_true_eq_false, and_self, true_or, or_true, beq_self_eq_true, ic_m8, ic_m1, ic_0, ic_1, ic_2, ic_3, ic_4, ic_5, ic_8, ic_16, bp_m28, bp_m27, bp_m26, bp_m25, bp_m24, bp_m23, bp_m22, bp_m21, bp_m20, bp_m2, bp_6, bp_7, bp_8, bp_9, bp_10, bp_11, bp_12, bp_13, bp_14, bp_15, bp_16, bp_17, bp_18, bp_20, bp_21, bp_22, bp_23, bp_24, bp_30, bp_32, bp_39, bp_40, bp_41, bp_42, bp_43, bp_44, bp_45, bp_47, bp_48, bp_57, bp_59, bp_60, bp_61, bp_63, bp_64, bp_97, bp_99, bp_100, bp_122, sp_255, sp_256, sp_700, sp_936, sp_960, sp_999, sp_4096, sp_9999, sp_10000, sp_12345, sp_32767]
  exact ⟨fr.row (fr.row (fr.row (fr.row (fr.set (fr.set ((hf.mono (by decide))) (by decide) _ _) (by decide) _ _) (by decide) _) (by decide) _) (by decide) _) (by decide) _, g0, g1, g2, g3, g4, g5⟩
end Memory3
