/-! BOTH SIDES TOGETHER: feed (with what lies behind the bytes), undo, see, forget, fault, images -/
section OwnE
variable {l : Launch} {n : Nat} {d : DS} {u : RU} {S A : Nat}
theorem z_putBytes2 (hl : l.stackTraces = false) {F : Nat} (hF : F + 4 ≤ 700) (h12 : d 0 12 = nI F) {x : Int32} : CM l mX10_putBytes (n + 1) 0 [.ref 0, .int x] d (fun v d' => v = none ∧ fr [0, 1] d d' ∧ d' 0 = upd (d 0) 12 (nI (F + 4)) ∧ (∀ i, i < F ∨ F + 4 ≤ i → d' 1 i = d 1 i) ∧ ∀ j, j < 4 → d' 1 (F + j) &&& 255 = byB x j) NX := by
  refine CM.tree2 3 none _ rfl rfl hl BX10_putBytes [3, 42] (by decide +kernel) OKX10_putBytes (Nat.le_of_ble_eq_true rfl) rfl (fun K hK hm => ?_)
  show K 0 [some (.ref 0), some (.int x), none] [] _ 0
  have key := dec_ind (P := fun k => ∀ d1, fr [0, 1] d d1 → d1 0 = upd (d 0) 12 (nI (F + k)) → (∀ i, i < F ∨ F + 4 ≤ i → d1 1 i = d 1 i) → (∀ j, j < k → d1 1 (F + j) &&& 255 = byB x j) → K 3 [some (.ref 0), some (.int x), some (.int (shB k))] [] d1 0) 4 ?_ ?_ 0 (Nat.zero_le _)
  · refine hK 4 _ _ _ _ _ ?_
    simp only [↓bX10_putBytes_0, ↓bX10_putBytes_3, ↓bX10_putBytes_42, ↓bX10_putBytes_48, ↓vh_go bkX10_putBytes_0, ↓vh_go bkX10_putBytes_3, ↓vh_go bkX10_putBytes_42, ↓vh_go bkX10_putBytes_48, ↓vt_go (heads := [3, 42]) bkX10_putBytes_0 (by decide), ↓vt_go (heads := [3, 42]) bkX10_putBytes_48 (by decide), ↓vt_stop (pc := 3) (heads := [3, 42]) (by decide), ↓vt_stop (pc := 42) (heads := [3, 42]) (by decide), ↓vz_iconst, ↓vz_bipush, ↓vz_sipush, ↓vz_lconst, ↓vz_iload_n, ↓vz_iload, ↓vz_aload_n, ↓vz_aload, ↓vz_lload_n, ↓vz_lload, ↓vz_istore_n, ↓vz_istore, ↓vz_astore_n, ↓vz_astore, ↓vz_iinc, ↓vz_iadd, ↓vz_isub, ↓vz_imul, ↓vz_iand, ↓vz_ior, ↓vz_ixor, ↓vz_ishl, ↓vz_ishr, ↓vz_iushr, ↓vz_idiv, ↓vz_irem, ↓vz_ineg, ↓vz_i2l, ↓vz_i2b, ↓vz_lcmp, ↓vz_dup2, ↓vz_getfield, ↓vz_iaload, ↓vz_baload, ↓vz_laload, ↓vz_iastore, ↓vz_bastore, ↓vz_ifCond, ↓vz_if_icmp, ↓vz_goto, ↓vz_tableswitch, ↓vz_lookupswitch, ↓vz_return_, ↓vz_ldc, ↓vz_ldc_w, ↓vz_ldc2_w, ↓vz_new, ↓vz_nil, ↓vz_callV, ↓vz_callS, ↓vz_max, ↓vz_min, ↓vz_abs, ↓vz_copy, ↓vz_dup, ↓vz_putI, ↓vz_putR, ↓vz_ireturn, ↓vz_alen, ↓vz_aaload, ↓cnt_some, ↓cnt_none, ↓pI_c, ↓pII_c, ↓pLL_c, ↓pR_c, ↓pIR_c, ↓pIIR_c, ↓lI_0, ↓lI_s, ↓lR_0, ↓lR_s, ↓lL_0, ↓lL_s, ↓dR_0, ↓dR_s, ↓nK_0, ↓nK_s, ↓vt_0, ↓reduceIte, List.mem_cons, List.not_mem_nil, or_false, false_or, or_self, Nat.reduceEqDiff, rok, exn, i01, i10, lok, cnd, slv_ref, slv_int, List.getElem?_cons_zero, List.getElem?_cons_succ, List.set_cons_zero, List.set_cons_succ, List.cons_append, List.nil_append, List.take_succ_cons, List.take_zero, List.drop_succ_cons, List.drop_zero, List.reverse_cons, List.reverse_nil, Option.toList_some, Option.toList_none, List.length_cons, List.length_nil, catL, List.map_cons, List.map_nil, List.sum_cons, List.sum_nil, Value.category, Nat.reduceAdd, Nat.reduceLT, Nat.reduceLeDiff, Fin.isValue, tgt, Int.cast_ofNat_Int, Int.reduceAdd, Int.reduceNeg, Int.reduceToNat, Int.zero_add, f4_0, f4_1, f4_2, f4_3, true_and, and_true, Classical.not_not, implies_true, true_implies, false_implies, not_false_eq_true, not_true_eq_false, and_self, true_or, or_true, beq_self_eq_true, ic_m8, ic_m1, ic_0, ic_1, ic_2, ic_3, ic_4, ic_5, ic_8, ic_16, bp_m28, bp_m27, bp_m26, bp_m25, bp_m24, bp_m23, bp_m22, bp_m21, bp_m20, bp_m2, bp_6, bp_7, bp_8, bp_9, bp_10, bp_11, bp_12, bp_13, bp_14, bp_15, bp_16, bp_17, bp_18, bp_20, bp_21, bp_22, bp_23, bp_24, bp_30, bp_32, bp_39, bp_40, bp_41, bp_42, bp_43, bp_44, bp_45, bp_47, bp_48, bp_57, bp_59, bp_60, bp_61, bp_63, bp_64, bp_97, bp_99, bp_100, bp_122, sp_255, sp_256, sp_700, sp_936, sp_960, sp_999, sp_4096, sp_9999, sp_10000, sp_12345, sp_32767]
    refine key d fr.rfl ?_ (fun _ _ => rfl) (fun j hj => absurd hj (Nat.not_lt_zero _))
    funext i
    by_cases q : i = 12
    · rw [q, upd_same, h12]; rfl
    · rw [upd_other _ _ q]
  · intro d1 f1 e0 e1 e2
    have s4 : shB 4 < 0 := by decide
    refine hK 4 _ _ _ _ _ ?_
    simp only [↓bX10_putBytes_0, ↓bX10_putBytes_3, ↓bX10_putBytes_42, ↓bX10_putBytes_48, ↓vh_go bkX10_putBytes_0, ↓vh_go bkX10_putBytes_3, ↓vh_go bkX10_putBytes_42, ↓vh_go bkX10_putBytes_48, ↓vt_go (heads := [3, 42]) bkX10_putBytes_0 (by decide), ↓vt_go (heads := [3, 42]) bkX10_putBytes_48 (by decide), ↓vt_stop (pc := 3) (heads := [3, 42]) (by decide), ↓vt_stop (pc := 42) (heads := [3, 42]) (by decide), s4, ↓vz_iconst, ↓vz_bipush, ↓vz_sipush, ↓vz_lconst, ↓vz_iload_n, ↓vz_iload, ↓vz_aload_n, ↓vz_aload, ↓vz_lload_n, ↓vz_lload, ↓vz_istore_n, ↓vz_istore, ↓vz_astore_n, ↓vz_astore, ↓vz_iinc, ↓vz_iadd, ↓vz_isub, ↓vz_imul, ↓vz_iand, ↓vz_ior, ↓vz_ixor, ↓vz_ishl, ↓vz_ishr, ↓vz_iushr, ↓vz_idiv, ↓vz_irem, ↓vz_ineg, ↓vz_i2l, ↓vz_i2b, ↓vz_lcmp, ↓vz_dup2, ↓vz_getfield, ↓vz_iaload, ↓vz_baload, ↓vz_laload, ↓vz_iastore, ↓vz_bastore, ↓vz_ifCond, ↓vz_if_icmp, ↓vz_goto, ↓vz_tableswitch, ↓vz_lookupswitch, ↓vz_return_, ↓vz_ldc, ↓vz_ldc_w, ↓vz_ldc2_w, ↓vz_new, ↓vz_nil, ↓vz_callV, ↓vz_callS, ↓vz_max, ↓vz_min, ↓vz_abs, ↓vz_copy, ↓vz_dup, ↓vz_putI, ↓vz_putR, ↓vz_ireturn, ↓vz_alen, ↓vz_aaload, ↓cnt_some, ↓cnt_none, ↓pI_c, ↓pII_c, ↓pLL_c, ↓pR_c, ↓pIR_c, ↓pIIR_c, ↓lI_0, ↓lI_s, ↓lR_0, ↓lR_s, ↓lL_0, ↓lL_s, ↓dR_0, ↓dR_s, ↓nK_0, ↓nK_s, ↓vt_0, ↓reduceIte, List.mem_cons, List.not_mem_nil, or_false, false_or, or_self, Nat.reduceEqDiff, rok, exn, i01, i10, lok, cnd, slv_ref, slv_int, List.getElem?_cons_zero, List.getElem?_cons_succ, List.set_cons_zero, List.set_cons_succ, List.cons_append, List.nil_append, List.take_succ_cons, List.take_zero, List.drop_succ_cons, List.drop_zero, List.reverse_cons, List.reverse_nil, Option.toList_some, Option.toList_none, List.length_cons, List.length_nil, catL, List.map_cons, List.map_nil, List.sum_cons, List.sum_nil, Value.category, Nat.reduceAdd, Nat.reduceLT, Nat.reduceLeDiff, Fin.isValue, tgt, Int.cast_ofNat_Int, Int.reduceAdd, Int.reduceNeg, Int.reduceToNat, Int.zero_add, f4_0, f4_1, f4_2, f4_3, true_and, and_true, Classical.not_not, implies_true, true_implies, false_implies, not_false_eq_true, not_true_eq_false, and_self, true_or, or_true, beq_self_eq_true, ic_m8, ic_m1, ic_0, ic_1, ic_2, ic_3, ic_4, ic_5, ic_8, ic_16, bp_m28, bp_m27, bp_m26, bp_m25, bp_m24, bp_m23, bp_m22, bp_m21, bp_m20, bp_m2, bp_6, bp_7, bp_8, bp_9, bp_10, bp_11, bp_12, bp_13, bp_14, bp_15, bp_16, bp_17, bp_18, bp_20, bp_21, bp_22, bp_23, bp_24, bp_30, bp_32, bp_39, bp_40, bp_41, bp_42, bp_43, bp_44, bp_45, bp_47, bp_48, bp_57, bp_59, bp_60, bp_61, bp_63, bp_64, bp_97, bp_99, bp_100, bp_122, sp_255, sp_256, sp_700, sp_936, sp_960, sp_999, sp_4096, sp_9999, sp_10000, sp_12345, sp_32767]
    exact ⟨f1, e0, e1, e2⟩
  · intro k hk ih d1 f1 e0 e1 e2
    obtain ⟨s1, s2, s3⟩ := shB_at k hk
    have g12 : d1 0 12 = nI (F + k) := by rw [e0, upd_same]
    have q1 : ¬ nI 700 ≤ nI (F + k) := nI_ge (by omega) (by decide)
    have i1 : vp_in (nI (F + k)) 700 := vp_in_nI (by omega) (by decide)
    have c1 : (nI (F + k)).toNatClampNeg = F + k := nI_clamp (by omega)
    refine hK 4 _ _ _ _ _ ?_
    simp only [↓bX10_putBytes_0, ↓bX10_putBytes_3, ↓bX10_putBytes_42, ↓bX10_putBytes_48, ↓vh_go bkX10_putBytes_0, ↓vh_go bkX10_putBytes_3, ↓vh_go bkX10_putBytes_42, ↓vh_go bkX10_putBytes_48, ↓vt_go (heads := [3, 42]) bkX10_putBytes_0 (by decide), ↓vt_go (heads := [3, 42]) bkX10_putBytes_48 (by decide), ↓vt_stop (pc := 3) (heads := [3, 42]) (by decide), ↓vt_stop (pc := 42) (heads := [3, 42]) (by decide), ↓fK_of L0, ↓aK_of L1, ↓bK_of L1 (by decide), s1, g12, q1, i1, c1, ne_eq, ds_n, ds_s, up_s, nI_1, ↓vz_iconst, ↓vz_bipush, ↓vz_sipush, ↓vz_lconst, ↓vz_iload_n, ↓vz_iload, ↓vz_aload_n, ↓vz_aload, ↓vz_lload_n, ↓vz_lload, ↓vz_istore_n, ↓vz_istore, ↓vz_astore_n, ↓vz_astore, ↓vz_iinc, ↓vz_iadd, ↓vz_isub, ↓vz_imul, ↓vz_iand, ↓vz_ior, ↓vz_ixor, ↓vz_ishl, ↓vz_ishr, ↓vz_iushr, ↓vz_idiv, ↓vz_irem, ↓vz_ineg, ↓vz_i2l, ↓vz_i2b, ↓vz_lcmp, ↓vz_dup2, ↓vz_getfield, ↓vz_iaload, ↓vz_baload, ↓vz_laload, ↓vz_iastore, ↓vz_bastore, ↓vz_ifCond, ↓vz_if_icmp, ↓vz_goto, ↓vz_tableswitch, ↓vz_lookupswitch, ↓vz_return_, ↓vz_ldc, ↓vz_ldc_w, ↓vz_ldc2_w, ↓vz_new, ↓vz_nil, ↓vz_callV, ↓vz_callS, ↓vz_max, ↓vz_min, ↓vz_abs, ↓vz_copy, ↓vz_dup, ↓vz_putI, ↓vz_putR, ↓vz_ireturn, ↓vz_alen, ↓vz_aaload, ↓cnt_some, ↓cnt_none, ↓pI_c, ↓pII_c, ↓pLL_c, ↓pR_c, ↓pIR_c, ↓pIIR_c, ↓lI_0, ↓lI_s, ↓lR_0, ↓lR_s, ↓lL_0, ↓lL_s, ↓dR_0, ↓dR_s, ↓nK_0, ↓nK_s, ↓vt_0, ↓reduceIte, List.mem_cons, List.not_mem_nil, or_false, false_or, or_self, Nat.reduceEqDiff, rok, exn, i01, i10, lok, cnd, slv_ref, slv_int, List.getElem?_cons_zero, List.getElem?_cons_succ, List.set_cons_zero, List.set_cons_succ, List.cons_append, List.nil_append, List.take_succ_cons, List.take_zero, List.drop_succ_cons, List.drop_zero, List.reverse_cons, List.reverse_nil, Option.toList_some, Option.toList_none, List.length_cons, List.length_nil, catL, List.map_cons, List.map_nil, List.sum_cons, List.sum_nil, Value.category, Nat.reduceAdd, Nat.reduceLT, Nat.reduceLeDiff, Fin.isValue, tgt, Int.cast_ofNat_Int, Int.reduceAdd, Int.reduceNeg, Int.reduceToNat, Int.zero_add, f4_0, f4_1, f4_2, f4_3, true_and, and_true, Classical.not_not, implies_true, true_implies, false_implies, not_false_eq_true, not_true_eq_false, and_self, true_or, or_true, beq_self_eq_true, ic_m8, ic_m1, ic_0, ic_1, ic_2, ic_3, ic_4, ic_5, ic_8, ic_16, bp_m28, bp_m27, bp_m26, bp_m25, bp_m24, bp_m23, bp_m22, bp_m21, bp_m20, bp_m2, bp_6, bp_7, bp_8, bp_9, bp_10, bp_11, bp_12, bp_13, bp_14, bp_15, bp_16, bp_17, bp_18, bp_20, bp_21, bp_22, bp_23, bp_24, bp_30, bp_32, bp_39, bp_40, bp_41, bp_42, bp_43, bp_44, bp_45, bp_47, bp_48, bp_57, bp_59, bp_60, bp_61, bp_63, bp_64, bp_97, bp_99, bp_100, bp_122, sp_255, sp_256, sp_700, sp_936, sp_960, sp_999, sp_4096, sp_9999, sp_10000, sp_12345, sp_32767]
    refine hK 4 _ _ _ _ _ ?_
    simp only [↓bX10_putBytes_0, ↓bX10_putBytes_3, ↓bX10_putBytes_42, ↓bX10_putBytes_48, ↓vh_go bkX10_putBytes_0, ↓vh_go bkX10_putBytes_3, ↓vh_go bkX10_putBytes_42, ↓vh_go bkX10_putBytes_48, ↓vt_go (heads := [3, 42]) bkX10_putBytes_0 (by decide), ↓vt_go (heads := [3, 42]) bkX10_putBytes_48 (by decide), ↓vt_stop (pc := 3) (heads := [3, 42]) (by decide), ↓vt_stop (pc := 42) (heads := [3, 42]) (by decide), s2, ↓vz_iconst, ↓vz_bipush, ↓vz_sipush, ↓vz_lconst, ↓vz_iload_n, ↓vz_iload, ↓vz_aload_n, ↓vz_aload, ↓vz_lload_n, ↓vz_lload, ↓vz_istore_n, ↓vz_istore, ↓vz_astore_n, ↓vz_astore, ↓vz_iinc, ↓vz_iadd, ↓vz_isub, ↓vz_imul, ↓vz_iand, ↓vz_ior, ↓vz_ixor, ↓vz_ishl, ↓vz_ishr, ↓vz_iushr, ↓vz_idiv, ↓vz_irem, ↓vz_ineg, ↓vz_i2l, ↓vz_i2b, ↓vz_lcmp, ↓vz_dup2, ↓vz_getfield, ↓vz_iaload, ↓vz_baload, ↓vz_laload, ↓vz_iastore, ↓vz_bastore, ↓vz_ifCond, ↓vz_if_icmp, ↓vz_goto, ↓vz_tableswitch, ↓vz_lookupswitch, ↓vz_return_, ↓vz_ldc, ↓vz_ldc_w, ↓vz_ldc2_w, ↓vz_new, ↓vz_nil, ↓vz_callV, ↓vz_callS, ↓vz_max, ↓vz_min, ↓vz_abs, ↓vz_copy, ↓vz_dup, ↓vz_putI, ↓vz_putR, ↓vz_ireturn, ↓vz_alen, ↓vz_aaload, ↓cnt_some, ↓cnt_none, ↓pI_c, ↓pII_c, ↓pLL_c, ↓pR_c, ↓pIR_c, ↓pIIR_c, ↓lI_0, ↓lI_s, ↓lR_0, ↓lR_s, ↓lL_0, ↓lL_s, ↓dR_0, ↓dR_s, ↓nK_0, ↓nK_s, ↓vt_0, ↓reduceIte, List.mem_cons, List.not_mem_nil, or_false, false_or, or_self, Nat.reduceEqDiff, rok, exn, i01, i10, lok, cnd, slv_ref, slv_int, List.getElem?_cons_zero, List.getElem?_cons_succ, List.set_cons_zero, List.set_cons_succ, List.cons_append, List.nil_append, List.take_succ_cons, List.take_zero, List.drop_succ_cons, List.drop_zero, List.reverse_cons, List.reverse_nil, Option.toList_some, Option.toList_none, List.length_cons, List.length_nil, catL, List.map_cons, List.map_nil, List.sum_cons, List.sum_nil, Value.category, Nat.reduceAdd, Nat.reduceLT, Nat.reduceLeDiff, Fin.isValue, tgt, Int.cast_ofNat_Int, Int.reduceAdd, Int.reduceNeg, Int.reduceToNat, Int.zero_add, f4_0, f4_1, f4_2, f4_3, true_and, and_true, Classical.not_not, implies_true, true_implies, false_implies, not_false_eq_true, not_true_eq_false, and_self, true_or, or_true, beq_self_eq_true, ic_m8, ic_m1, ic_0, ic_1, ic_2, ic_3, ic_4, ic_5, ic_8, ic_16, bp_m28, bp_m27, bp_m26, bp_m25, bp_m24, bp_m23, bp_m22, bp_m21, bp_m20, bp_m2, bp_6, bp_7, bp_8, bp_9, bp_10, bp_11, bp_12, bp_13, bp_14, bp_15, bp_16, bp_17, bp_18, bp_20, bp_21, bp_22, bp_23, bp_24, bp_30, bp_32, bp_39, bp_40, bp_41, bp_42, bp_43, bp_44, bp_45, bp_47, bp_48, bp_57, bp_59, bp_60, bp_61, bp_63, bp_64, bp_97, bp_99, bp_100, bp_122, sp_255, sp_256, sp_700, sp_936, sp_960, sp_999, sp_4096, sp_9999, sp_10000, sp_12345, sp_32767]
    have b8 : ∀ z : Int32, z.toInt8.toInt32.toInt8.toInt32 = z.toInt8.toInt32 := fun z => by simp
    refine ih _ ((f1.set (by decide) _ _).set (by decide) _ _) ?_ ?_ ?_
    · rw [ds_s, ds_n _ _ _ (by decide), e0, upd_upd]; rfl
    · intro i hi
      rw [ds_n _ _ _ (by decide), ds_s, upd_other _ _ (by omega)]
      exact e1 i hi
    · intro j hj
      rw [ds_n _ _ _ (by decide), ds_s]
      by_cases q : j = k
      · rw [q, upd_same, bp_b, bp_b, s3]; rfl
      · rw [upd_other _ _ (by omega)]
        exact e2 j (by omega)
def fdQ2 (F : Nat) (a b c e f : Int32) (d : DS) : Option Value → DS → Prop := fun v d' => (700 < F + 20 ∧ v = some (.int (-1)) ∧ d' = d) ∨ (F + 20 ≤ 700 ∧ v = some (.int (nI (F + 20))) ∧ fr [0, 1] d d' ∧ d' 0 = upd (d 0) 12 (nI (F + 20)) ∧ (∀ i, i < F ∨ F + 20 ≤ i → d' 1 i = d 1 i) ∧ ∀ m, m < 5 → ∀ j, j < 4 → d' 1 (F + 4 * m + j) &&& 255 = byB (pick5 a b c e f m) j)
theorem o_feed2 (hl : l.stackTraces = false) {F : Nat} (hF : F ≤ 700) (h12 : d 0 12 = nI F) {a b c e f : Int32} : CM l mX10_feed (n + 60) 0 [.ref 0, .int a, .int b, .int c, .int e, .int f] d (fdQ2 F a b c e f d) NX := by
  refine CM.tree2 6 (some .int) _ rfl rfl hl BX10_feed [15] (by decide +kernel) OKX10_feed (Nat.le_of_ble_eq_true rfl) rfl (fun K hK hm => ?_)
  show K 0 [some (.ref 0), some (.int a), some (.int b), some (.int c), some (.int e), some (.int f)] [] _ 0
  have r0 : rcv 9 0 := Or.inr ⟨_, L0⟩
  have a20 : nI F + 20 = nI (F + 20) := nI_add F 20
  refine hK 4 _ _ _ _ _ ?_
  simp only [↓bX10_feed_0, ↓bX10_feed_15, ↓vh_go bkX10_feed_0, ↓vh_go bkX10_feed_15, ↓vt_go (heads := [15]) bkX10_feed_0 (by decide), ↓vt_stop (pc := 15) (heads := [15]) (by decide), ↓fK_of L0, h12, a20, ↓vz_iconst, ↓vz_bipush, ↓vz_sipush, ↓vz_lconst, ↓vz_iload_n, ↓vz_iload, ↓vz_aload_n, ↓vz_aload, ↓vz_lload_n, ↓vz_lload, ↓vz_istore_n, ↓vz_istore, ↓vz_astore_n, ↓vz_astore, ↓vz_iinc, ↓vz_iadd, ↓vz_isub, ↓vz_imul, ↓vz_iand, ↓vz_ior, ↓vz_ixor, ↓vz_ishl, ↓vz_ishr, ↓vz_iushr, ↓vz_idiv, ↓vz_irem, ↓vz_ineg, ↓vz_i2l, ↓vz_i2b, ↓vz_lcmp, ↓vz_dup2, ↓vz_getfield, ↓vz_iaload, ↓vz_baload, ↓vz_laload, ↓vz_iastore, ↓vz_bastore, ↓vz_ifCond, ↓vz_if_icmp, ↓vz_goto, ↓vz_tableswitch, ↓vz_lookupswitch, ↓vz_return_, ↓vz_ldc, ↓vz_ldc_w, ↓vz_ldc2_w, ↓vz_new, ↓vz_nil, ↓vz_callV, ↓vz_callS, ↓vz_max, ↓vz_min, ↓vz_abs, ↓vz_copy, ↓vz_dup, ↓vz_putI, ↓vz_putR, ↓vz_ireturn, ↓vz_alen, ↓vz_aaload, ↓cnt_some, ↓cnt_none, ↓pI_c, ↓pII_c, ↓pLL_c, ↓pR_c, ↓pIR_c, ↓pIIR_c, ↓lI_0, ↓lI_s, ↓lR_0, ↓lR_s, ↓lL_0, ↓lL_s, ↓dR_0, ↓dR_s, ↓nK_0, ↓nK_s, ↓vt_0, ↓reduceIte, List.mem_cons, List.not_mem_nil, or_false, false_or, or_self, Nat.reduceEqDiff, rok, exn, i01, i10, lok, cnd, slv_ref, slv_int, List.getElem?_cons_zero, List.getElem?_cons_succ, List.set_cons_zero, List.set_cons_succ, List.cons_append, List.nil_append, List.take_succ_cons, List.take_zero, List.drop_succ_cons, List.drop_zero, List.reverse_cons, List.reverse_nil, Option.toList_some, Option.toList_none, List.length_cons, List.length_nil, catL, List.map_cons, List.map_nil, List.sum_cons, List.sum_nil, Value.category, Nat.reduceAdd, Nat.reduceLT, Nat.reduceLeDiff, Fin.isValue, tgt, Int.cast_ofNat_Int, Int.reduceAdd, Int.reduceNeg, Int.reduceToNat, Int.zero_add, f4_0, f4_1, f4_2, f4_3, true_and, and_true, Classical.not_not, implies_true, true_implies, false_implies, not_false_eq_true, not_true_eq_false, and_self, true_or, or_true, beq_self_eq_true, ic_m8, ic_m1, ic_0, ic_1, ic_2, ic_3, ic_4, ic_5, ic_8, ic_16, bp_m28, bp_m27, bp_m26, bp_m25, bp_m24, bp_m23, bp_m22, bp_m21, bp_m20, bp_m2, bp_6, bp_7, bp_8, bp_9, bp_10, bp_11, bp_12, bp_13, bp_14, bp_15, bp_16, bp_17, bp_18, bp_20, bp_21, bp_22, bp_23, bp_24, bp_30, bp_32, bp_39, bp_40, bp_41, bp_42, bp_43, bp_44, bp_45, bp_47, bp_48, bp_57, bp_59, bp_60, bp_61, bp_63, bp_64, bp_97, bp_99, bp_100, bp_122, sp_255, sp_256, sp_700, sp_936, sp_960, sp_999, sp_4096, sp_9999, sp_10000, sp_12345, sp_32767]
  have e7 : nI (F + 20) ≤ 700 ↔ F + 20 ≤ 700 := nI_leI (b := 700) (by omega) (by decide)
  refine ⟨fun h => ?_, fun h => Or.inl ⟨Nat.lt_of_not_le (fun z => h (e7.mpr z)), rfl, rfl⟩⟩
  have h := e7.mp h
  refine hK 4 _ _ _ _ _ ?_
  simp only [↓bX10_feed_0, ↓bX10_feed_15, ↓vh_go bkX10_feed_0, ↓vh_go bkX10_feed_15, ↓vt_go (heads := [15]) bkX10_feed_0 (by decide), ↓vt_stop (pc := 15) (heads := [15]) (by decide), r0, ↓vz_iconst, ↓vz_bipush, ↓vz_sipush, ↓vz_lconst, ↓vz_iload_n, ↓vz_iload, ↓vz_aload_n, ↓vz_aload, ↓vz_lload_n, ↓vz_lload, ↓vz_istore_n, ↓vz_istore, ↓vz_astore_n, ↓vz_astore, ↓vz_iinc, ↓vz_iadd, ↓vz_isub, ↓vz_imul, ↓vz_iand, ↓vz_ior, ↓vz_ixor, ↓vz_ishl, ↓vz_ishr, ↓vz_iushr, ↓vz_idiv, ↓vz_irem, ↓vz_ineg, ↓vz_i2l, ↓vz_i2b, ↓vz_lcmp, ↓vz_dup2, ↓vz_getfield, ↓vz_iaload, ↓vz_baload, ↓vz_laload, ↓vz_iastore, ↓vz_bastore, ↓vz_ifCond, ↓vz_if_icmp, ↓vz_goto, ↓vz_tableswitch, ↓vz_lookupswitch, ↓vz_return_, ↓vz_ldc, ↓vz_ldc_w, ↓vz_ldc2_w, ↓vz_new, ↓vz_nil, ↓vz_callV, ↓vz_callS, ↓vz_max, ↓vz_min, ↓vz_abs, ↓vz_copy, ↓vz_dup, ↓vz_putI, ↓vz_putR, ↓vz_ireturn, ↓vz_alen, ↓vz_aaload, ↓cnt_some, ↓cnt_none, ↓pI_c, ↓pII_c, ↓pLL_c, ↓pR_c, ↓pIR_c, ↓pIIR_c, ↓lI_0, ↓lI_s, ↓lR_0, ↓lR_s, ↓lL_0, ↓lL_s, ↓dR_0, ↓dR_s, ↓nK_0, ↓nK_s, ↓vt_0, ↓reduceIte, List.mem_cons, List.not_mem_nil, or_false, false_or, or_self, Nat.reduceEqDiff, rok, exn, i01, i10, lok, cnd, slv_ref, slv_int, List.getElem?_cons_zero, List.getElem?_cons_succ, List.set_cons_zero, List.set_cons_succ, List.cons_append, List.nil_append, List.take_succ_cons, List.take_zero, List.drop_succ_cons, List.drop_zero, List.reverse_cons, List.reverse_nil, Option.toList_some, Option.toList_none, List.length_cons, List.length_nil, catL, List.map_cons, List.map_nil, List.sum_cons, List.sum_nil, Value.category, Nat.reduceAdd, Nat.reduceLT, Nat.reduceLeDiff, Fin.isValue, tgt, Int.cast_ofNat_Int, Int.reduceAdd, Int.reduceNeg, Int.reduceToNat, Int.zero_add, f4_0, f4_1, f4_2, f4_3, true_and, and_true, Classical.not_not, implies_true, true_implies, false_implies, not_false_eq_true, not_true_eq_false, and_self, true_or, or_true, beq_self_eq_true, ic_m8, ic_m1, ic_0, ic_1, ic_2, ic_3, ic_4, ic_5, ic_8, ic_16, bp_m28, bp_m27, bp_m26, bp_m25, bp_m24, bp_m23, bp_m22, bp_m21, bp_m20, bp_m2, bp_6, bp_7, bp_8, bp_9, bp_10, bp_11, bp_12, bp_13, bp_14, bp_15, bp_16, bp_17, bp_18, bp_20, bp_21, bp_22, bp_23, bp_24, bp_30, bp_32, bp_39, bp_40, bp_41, bp_42, bp_43, bp_44, bp_45, bp_47, bp_48, bp_57, bp_59, bp_60, bp_61, bp_63, bp_64, bp_97, bp_99, bp_100, bp_122, sp_255, sp_256, sp_700, sp_936, sp_960, sp_999, sp_4096, sp_9999, sp_10000, sp_12345, sp_32767]
  refine (z_putBytes2 hl (F := F) (by omega) h12).mono (fun v d1 hh => ?_) (fun _ _ h => h.elim)
  obtain ⟨rfl, f1, x1, y1, z1⟩ := hh
  simp only [↓bX10_feed_0, ↓bX10_feed_15, ↓vh_go bkX10_feed_0, ↓vh_go bkX10_feed_15, ↓vt_go (heads := [15]) bkX10_feed_0 (by decide), ↓vt_stop (pc := 15) (heads := [15]) (by decide), r0, ↓vz_iconst, ↓vz_bipush, ↓vz_sipush, ↓vz_lconst, ↓vz_iload_n, ↓vz_iload, ↓vz_aload_n, ↓vz_aload, ↓vz_lload_n, ↓vz_lload, ↓vz_istore_n, ↓vz_istore, ↓vz_astore_n, ↓vz_astore, ↓vz_iinc, ↓vz_iadd, ↓vz_isub, ↓vz_imul, ↓vz_iand, ↓vz_ior, ↓vz_ixor, ↓vz_ishl, ↓vz_ishr, ↓vz_iushr, ↓vz_idiv, ↓vz_irem, ↓vz_ineg, ↓vz_i2l, ↓vz_i2b, ↓vz_lcmp, ↓vz_dup2, ↓vz_getfield, ↓vz_iaload, ↓vz_baload, ↓vz_laload, ↓vz_iastore, ↓vz_bastore, ↓vz_ifCond, ↓vz_if_icmp, ↓vz_goto, ↓vz_tableswitch, ↓vz_lookupswitch, ↓vz_return_, ↓vz_ldc, ↓vz_ldc_w, ↓vz_ldc2_w, ↓vz_new, ↓vz_nil, ↓vz_callV, ↓vz_callS, ↓vz_max, ↓vz_min, ↓vz_abs, ↓vz_copy, ↓vz_dup, ↓vz_putI, ↓vz_putR, ↓vz_ireturn, ↓vz_alen, ↓vz_aaload, ↓cnt_some, ↓cnt_none, ↓pI_c, ↓pII_c, ↓pLL_c, ↓pR_c, ↓pIR_c, ↓pIIR_c, ↓lI_0, ↓lI_s, ↓lR_0, ↓lR_s, ↓lL_0, ↓lL_s, ↓dR_0, ↓dR_s, ↓nK_0, ↓nK_s, ↓vt_0, ↓reduceIte, List.mem_cons, List.not_mem_nil, or_false, false_or, or_self, Nat.reduceEqDiff, rok, exn, i01, i10, lok, cnd, slv_ref, slv_int, List.getElem?_cons_zero, List.getElem?_cons_succ, List.set_cons_zero, List.set_cons_succ, List.cons_append, List.nil_append, List.take_succ_cons, List.take_zero, List.drop_succ_cons, List.drop_zero, List.reverse_cons, List.reverse_nil, Option.toList_some, Option.toList_none, List.length_cons, List.length_nil, catL, List.map_cons, List.map_nil, List.sum_cons, List.sum_nil, Value.category, Nat.reduceAdd, Nat.reduceLT, Nat.reduceLeDiff, Fin.isValue, tgt, Int.cast_ofNat_Int, Int.reduceAdd, Int.reduceNeg, Int.reduceToNat, Int.zero_add, f4_0, f4_1, f4_2, f4_3, true_and, and_true, Classical.not_not, implies_true, true_implies, false_implies, not_false_eq_true, not_true_eq_false, and_self, true_or, or_true, beq_self_eq_true, ic_m8, ic_m1, ic_0, ic_1, ic_2, ic_3, ic_4, ic_5, ic_8, ic_16, bp_m28, bp_m27, bp_m26, bp_m25, bp_m24, bp_m23, bp_m22, bp_m21, bp_m20, bp_m2, bp_6, bp_7, bp_8, bp_9, bp_10, bp_11, bp_12, bp_13, bp_14, bp_15, bp_16, bp_17, bp_18, bp_20, bp_21, bp_22, bp_23, bp_24, bp_30, bp_32, bp_39, bp_40, bp_41, bp_42, bp_43, bp_44, bp_45, bp_47, bp_48, bp_57, bp_59, bp_60, bp_61, bp_63, bp_64, bp_97, bp_99, bp_100, bp_122, sp_255, sp_256, sp_700, sp_936, sp_960, sp_999, sp_4096, sp_9999, sp_10000, sp_12345, sp_32767]
  refine (z_putBytes2 hl (F := F + 4) (by omega) (by rw [x1, upd_same])).mono (fun v d2 hh => ?_) (fun _ _ h => h.elim)
  obtain ⟨rfl, f2, x2, y2, z2⟩ := hh
  simp only [↓bX10_feed_0, ↓bX10_feed_15, ↓vh_go bkX10_feed_0, ↓vh_go bkX10_feed_15, ↓vt_go (heads := [15]) bkX10_feed_0 (by decide), ↓vt_stop (pc := 15) (heads := [15]) (by decide), r0, ↓vz_iconst, ↓vz_bipush, ↓vz_sipush, ↓vz_lconst, ↓vz_iload_n, ↓vz_iload, ↓vz_aload_n, ↓vz_aload, ↓vz_lload_n, ↓vz_lload, ↓vz_istore_n, ↓vz_istore, ↓vz_astore_n, ↓vz_astore, ↓vz_iinc, ↓vz_iadd, ↓vz_isub, ↓vz_imul, ↓vz_iand, ↓vz_ior, ↓vz_ixor, ↓vz_ishl, ↓vz_ishr, ↓vz_iushr, ↓vz_idiv, ↓vz_irem, ↓vz_ineg, ↓vz_i2l, ↓vz_i2b, ↓vz_lcmp, ↓vz_dup2, ↓vz_getfield, ↓vz_iaload, ↓vz_baload, ↓vz_laload, ↓vz_iastore, ↓vz_bastore, ↓vz_ifCond, ↓vz_if_icmp, ↓vz_goto, ↓vz_tableswitch, ↓vz_lookupswitch, ↓vz_return_, ↓vz_ldc, ↓vz_ldc_w, ↓vz_ldc2_w, ↓vz_new, ↓vz_nil, ↓vz_callV, ↓vz_callS, ↓vz_max, ↓vz_min, ↓vz_abs, ↓vz_copy, ↓vz_dup, ↓vz_putI, ↓vz_putR, ↓vz_ireturn, ↓vz_alen, ↓vz_aaload, ↓cnt_some, ↓cnt_none, ↓pI_c, ↓pII_c, ↓pLL_c, ↓pR_c, ↓pIR_c, ↓pIIR_c, ↓lI_0, ↓lI_s, ↓lR_0, ↓lR_s, ↓lL_0, ↓lL_s, ↓dR_0, ↓dR_s, ↓nK_0, ↓nK_s, ↓vt_0, ↓reduceIte, List.mem_cons, List.not_mem_nil, or_false, false_or, or_self, Nat.reduceEqDiff, rok, exn, i01, i10, lok, cnd, slv_ref, slv_int, List.getElem?_cons_zero, List.getElem?_cons_succ, List.set_cons_zero, List.set_cons_succ, List.cons_append, List.nil_append, List.take_succ_cons, List.take_zero, List.drop_succ_cons, List.drop_zero, List.reverse_cons, List.reverse_nil, Option.toList_some, Option.toList_none, List.length_cons, List.length_nil, catL, List.map_cons, List.map_nil, List.sum_cons, List.sum_nil, Value.category, Nat.reduceAdd, Nat.reduceLT, Nat.reduceLeDiff, Fin.isValue, tgt, Int.cast_ofNat_Int, Int.reduceAdd, Int.reduceNeg, Int.reduceToNat, Int.zero_add, f4_0, f4_1, f4_2, f4_3, true_and, and_true, Classical.not_not, implies_true, true_implies, false_implies, not_false_eq_true, not_true_eq_false, and_self, true_or, or_true, beq_self_eq_true, ic_m8, ic_m1, ic_0, ic_1, ic_2, ic_3, ic_4, ic_5, ic_8, ic_16, bp_m28, bp_m27, bp_m26, bp_m25, bp_m24, bp_m23, bp_m22, bp_m21, bp_m20, bp_m2, bp_6, bp_7, bp_8, bp_9, bp_10, bp_11, bp_12, bp_13, bp_14, bp_15, bp_16, bp_17, bp_18, bp_20, bp_21, bp_22, bp_23, bp_24, bp_30, bp_32, bp_39, bp_40, bp_41, bp_42, bp_43, bp_44, bp_45, bp_47, bp_48, bp_57, bp_59, bp_60, bp_61, bp_63, bp_64, bp_97, bp_99, bp_100, bp_122, sp_255, sp_256, sp_700, sp_936, sp_960, sp_999, sp_4096, sp_9999, sp_10000, sp_12345, sp_32767]
  refine (z_putBytes2 hl (F := F + 4 + 4) (by omega) (by rw [x2, upd_same])).mono (fun v d3 hh => ?_) (fun _ _ h => h.elim)
  obtain ⟨rfl, f3, x3, y3, z3⟩ := hh
  simp only [↓bX10_feed_0, ↓bX10_feed_15, ↓vh_go bkX10_feed_0, ↓vh_go bkX10_feed_15, ↓vt_go (heads := [15]) bkX10_feed_0 (by decide), ↓vt_stop (pc := 15) (heads := [15]) (by decide), r0, ↓vz_iconst, ↓vz_bipush, ↓vz_sipush, ↓vz_lconst, ↓vz_iload_n, ↓vz_iload, ↓vz_aload_n, ↓vz_aload, ↓vz_lload_n, ↓vz_lload, ↓vz_istore_n, ↓vz_istore, ↓vz_astore_n, ↓vz_astore, ↓vz_iinc, ↓vz_iadd, ↓vz_isub, ↓vz_imul, ↓vz_iand, ↓vz_ior, ↓vz_ixor, ↓vz_ishl, ↓vz_ishr, ↓vz_iushr, ↓vz_idiv, ↓vz_irem, ↓vz_ineg, ↓vz_i2l, ↓vz_i2b, ↓vz_lcmp, ↓vz_dup2, ↓vz_getfield, ↓vz_iaload, ↓vz_baload, ↓vz_laload, ↓vz_iastore, ↓vz_bastore, ↓vz_ifCond, ↓vz_if_icmp, ↓vz_goto, ↓vz_tableswitch, ↓vz_lookupswitch, ↓vz_return_, ↓vz_ldc, ↓vz_ldc_w, ↓vz_ldc2_w, ↓vz_new, ↓vz_nil, ↓vz_callV, ↓vz_callS, ↓vz_max, ↓vz_min, ↓vz_abs, ↓vz_copy, ↓vz_dup, ↓vz_putI, ↓vz_putR, ↓vz_ireturn, ↓vz_alen, ↓vz_aaload, ↓cnt_some, ↓cnt_none, ↓pI_c, ↓pII_c, ↓pLL_c, ↓pR_c, ↓pIR_c, ↓pIIR_c, ↓lI_0, ↓lI_s, ↓lR_0, ↓lR_s, ↓lL_0, ↓lL_s, ↓dR_0, ↓dR_s, ↓nK_0, ↓nK_s, ↓vt_0, ↓reduceIte, List.mem_cons, List.not_mem_nil, or_false, false_or, or_self, Nat.reduceEqDiff, rok, exn, i01, i10, lok, cnd, slv_ref, slv_int, List.getElem?_cons_zero, List.getElem?_cons_succ, List.set_cons_zero, List.set_cons_succ, List.cons_append, List.nil_append, List.take_succ_cons, List.take_zero, List.drop_succ_cons, List.drop_zero, List.reverse_cons, List.reverse_nil, Option.toList_some, Option.toList_none, List.length_cons, List.length_nil, catL, List.map_cons, List.map_nil, List.sum_cons, List.sum_nil, Value.category, Nat.reduceAdd, Nat.reduceLT, Nat.reduceLeDiff, Fin.isValue, tgt, Int.cast_ofNat_Int, Int.reduceAdd, Int.reduceNeg, Int.reduceToNat, Int.zero_add, f4_0, f4_1, f4_2, f4_3, true_and, and_true, Classical.not_not, implies_true, true_implies, false_implies, not_false_eq_true, not_true_eq_false, and_self, true_or, or_true, beq_self_eq_true, ic_m8, ic_m1, ic_0, ic_1, ic_2, ic_3, ic_4, ic_5, ic_8, ic_16, bp_m28, bp_m27, bp_m26, bp_m25, bp_m24, bp_m23, bp_m22, bp_m21, bp_m20, bp_m2, bp_6, bp_7, bp_8, bp_9, bp_10, bp_11, bp_12, bp_13, bp_14, bp_15, bp_16, bp_17, bp_18, bp_20, bp_21, bp_22, bp_23, bp_24, bp_30, bp_32, bp_39, bp_40, bp_41, bp_42, bp_43, bp_44, bp_45, bp_47, bp_48, bp_57, bp_59, bp_60, bp_61, bp_63, bp_64, bp_97, bp_99, bp_100, bp_122, sp_255, sp_256, sp_700, sp_936, sp_960, sp_999, sp_4096, sp_9999, sp_10000, sp_12345, sp_32767]
  refine (z_putBytes2 hl (F := F + 4 + 4 + 4) (by omega) (by rw [x3, upd_same])).mono (fun v d4 hh => ?_) (fun _ _ h => h.elim)
  obtain ⟨rfl, f4, x4, y4, z4⟩ := hh
  simp only [↓bX10_feed_0, ↓bX10_feed_15, ↓vh_go bkX10_feed_0, ↓vh_go bkX10_feed_15, ↓vt_go (heads := [15]) bkX10_feed_0 (by decide), ↓vt_stop (pc := 15) (heads := [15]) (by decide), r0, ↓vz_iconst, ↓vz_bipush, ↓vz_sipush, ↓vz_lconst, ↓vz_iload_n, ↓vz_iload, ↓vz_aload_n, ↓vz_aload, ↓vz_lload_n, ↓vz_lload, ↓vz_istore_n, ↓vz_istore, ↓vz_astore_n, ↓vz_astore, ↓vz_iinc, ↓vz_iadd, ↓vz_isub, ↓vz_imul, ↓vz_iand, ↓vz_ior, ↓vz_ixor, ↓vz_ishl, ↓vz_ishr, ↓vz_iushr, ↓vz_idiv, ↓vz_irem, ↓vz_ineg, ↓vz_i2l, ↓vz_i2b, ↓vz_lcmp, ↓vz_dup2, ↓vz_getfield, ↓vz_iaload, ↓vz_baload, ↓vz_laload, ↓vz_iastore, ↓vz_bastore, ↓vz_ifCond, ↓vz_if_icmp, ↓vz_goto, ↓vz_tableswitch, ↓vz_lookupswitch, ↓vz_return_, ↓vz_ldc, ↓vz_ldc_w, ↓vz_ldc2_w, ↓vz_new, ↓vz_nil, ↓vz_callV, ↓vz_callS, ↓vz_max, ↓vz_min, ↓vz_abs, ↓vz_copy, ↓vz_dup, ↓vz_putI, ↓vz_putR, ↓vz_ireturn, ↓vz_alen, ↓vz_aaload, ↓cnt_some, ↓cnt_none, ↓pI_c, ↓pII_c, ↓pLL_c, ↓pR_c, ↓pIR_c, ↓pIIR_c, ↓lI_0, ↓lI_s, ↓lR_0, ↓lR_s, ↓lL_0, ↓lL_s, ↓dR_0, ↓dR_s, ↓nK_0, ↓nK_s, ↓vt_0, ↓reduceIte, List.mem_cons, List.not_mem_nil, or_false, false_or, or_self, Nat.reduceEqDiff, rok, exn, i01, i10, lok, cnd, slv_ref, slv_int, List.getElem?_cons_zero, List.getElem?_cons_succ, List.set_cons_zero, List.set_cons_succ, List.cons_append, List.nil_append, List.take_succ_cons, List.take_zero, List.drop_succ_cons, List.drop_zero, List.reverse_cons, List.reverse_nil, Option.toList_some, Option.toList_none, List.length_cons, List.length_nil, catL, List.map_cons, List.map_nil, List.sum_cons, List.sum_nil, Value.category, Nat.reduceAdd, Nat.reduceLT, Nat.reduceLeDiff, Fin.isValue, tgt, Int.cast_ofNat_Int, Int.reduceAdd, Int.reduceNeg, Int.reduceToNat, Int.zero_add, f4_0, f4_1, f4_2, f4_3, true_and, and_true, Classical.not_not, implies_true, true_implies, false_implies, not_false_eq_true, not_true_eq_false, and_self, true_or, or_true, beq_self_eq_true, ic_m8, ic_m1, ic_0, ic_1, ic_2, ic_3, ic_4, ic_5, ic_8, ic_16, bp_m28, bp_m27, bp_m26, bp_m25, bp_m24, bp_m23, bp_m22, bp_m21, bp_m20, bp_m2, bp_6, bp_7, bp_8, bp_9, bp_10, bp_11, bp_12, bp_13, bp_14, bp_15, bp_16, bp_17, bp_18, bp_20, bp_21, bp_22, bp_23, bp_24, bp_30, bp_32, bp_39, bp_40, bp_41, bp_42, bp_43, bp_44, bp_45, bp_47, bp_48, bp_57, bp_59, bp_60, bp_61, bp_63, bp_64, bp_97, bp_99, bp_100, bp_122, sp_255, sp_256, sp_700, sp_936, sp_960, sp_999, sp_4096, sp_9999, sp_10000, sp_12345, sp_32767]
  refine (z_putBytes2 hl (F := F + 4 + 4 + 4 + 4) (by omega) (by rw [x4, upd_same])).mono (fun v d5 hh => ?_) (fun _ _ h => h.elim)
  obtain ⟨rfl, f5, x5, y5, z5⟩ := hh
  have e5 : d5 0 = upd (d 0) 12 (nI (F + 20)) := by rw [x5, x4, upd_upd, x3, upd_upd, x2, upd_upd, x1, upd_upd]
  have g12 : d5 0 12 = nI (F + 20) := by rw [e5, upd_same]
  simp only [↓bX10_feed_0, ↓bX10_feed_15, ↓vh_go bkX10_feed_0, ↓vh_go bkX10_feed_15, ↓vt_go (heads := [15]) bkX10_feed_0 (by decide), ↓vt_stop (pc := 15) (heads := [15]) (by decide), ↓fK_of L0, g12, ↓vz_iconst, ↓vz_bipush, ↓vz_sipush, ↓vz_lconst, ↓vz_iload_n, ↓vz_iload, ↓vz_aload_n, ↓vz_aload, ↓vz_lload_n, ↓vz_lload, ↓vz_istore_n, ↓vz_istore, ↓vz_astore_n, ↓vz_astore, ↓vz_iinc, ↓vz_iadd, ↓vz_isub, ↓vz_imul, ↓vz_iand, ↓vz_ior, ↓vz_ixor, ↓vz_ishl, ↓vz_ishr, ↓vz_iushr, ↓vz_idiv, ↓vz_irem, ↓vz_ineg, ↓vz_i2l, ↓vz_i2b, ↓vz_lcmp, ↓vz_dup2, ↓vz_getfield, ↓vz_iaload, ↓vz_baload, ↓vz_laload, ↓vz_iastore, ↓vz_bastore, ↓vz_ifCond, ↓vz_if_icmp, ↓vz_goto, ↓vz_tableswitch, ↓vz_lookupswitch, ↓vz_return_, ↓vz_ldc, ↓vz_ldc_w, ↓vz_ldc2_w, ↓vz_new, ↓vz_nil, ↓vz_callV, ↓vz_callS, ↓vz_max, ↓vz_min, ↓vz_abs, ↓vz_copy, ↓vz_dup, ↓vz_putI, ↓vz_putR, ↓vz_ireturn, ↓vz_alen, ↓vz_aaload, ↓cnt_some, ↓cnt_none, ↓pI_c, ↓pII_c, ↓pLL_c, ↓pR_c, ↓pIR_c, ↓pIIR_c, ↓lI_0, ↓lI_s, ↓lR_0, ↓lR_s, ↓lL_0, ↓lL_s, ↓dR_0, ↓dR_s, ↓nK_0, ↓nK_s, ↓vt_0, ↓reduceIte, List.mem_cons, List.not_mem_nil, or_false, false_or, or_self, Nat.reduceEqDiff, rok, exn, i01, i10, lok, cnd, slv_ref, slv_int, List.getElem?_cons_zero, List.getElem?_cons_succ, List.set_cons_zero, List.set_cons_succ, List.cons_append, List.nil_append, List.take_succ_cons, List.take_zero, List.drop_succ_cons, List.drop_zero, List.reverse_cons, List.reverse_nil, Option.toList_some, Option.toList_none, List.length_cons, List.length_nil, catL, List.map_cons, List.map_nil, List.sum_cons, List.sum_nil, Value.category, Nat.reduceAdd, Nat.reduceLT, Nat.reduceLeDiff, Fin.isValue, tgt, Int.cast_ofNat_Int, Int.reduceAdd, Int.reduceNeg, Int.reduceToNat, Int.zero_add, f4_0, f4_1, f4_2, f4_3, true_and, and_true, Classical.not_not, implies_true, true_implies, false_implies, not_false_eq_true, not_true_eq_false, and_self, true_or, or_true, beq_self_eq_true, ic_m8, ic_m1, ic_0, ic_1, ic_2, ic_3, ic_4, ic_5, ic_8, ic_16, bp_m28, bp_m27, bp_m26, bp_m25, bp_m24, bp_m23, bp_m22, bp_m21, bp_m20, bp_m2, bp_6, bp_7, bp_8, bp_9, bp_10, bp_11, bp_12, bp_13, bp_14, bp_15, bp_16, bp_17, bp_18, bp_20, bp_21, bp_22, bp_23, bp_24, bp_30, bp_32, bp_39, bp_40, bp_41, bp_42, bp_43, bp_44, bp_45, bp_47, bp_48, bp_57, bp_59, bp_60, bp_61, bp_63, bp_64, bp_97, bp_99, bp_100, bp_122, sp_255, sp_256, sp_700, sp_936, sp_960, sp_999, sp_4096, sp_9999, sp_10000, sp_12345, sp_32767]
  refine Or.inr ⟨h, rfl, (((f1.trans f2).trans f3).trans f4).trans f5, e5, fun i hi => by rw [y5 i (by omega), y4 i (by omega), y3 i (by omega), y2 i (by omega), y1 i (by omega)], fun m hm j hj => ?_⟩
  match m, hm with
  | 0, _ =>
    rw [show F + 4 * 0 + j = F + j by omega, y5 _ (by omega), y4 _ (by omega), y3 _ (by omega), y2 _ (by omega)]
    exact z1 j hj
  | 1, _ =>
    rw [show F + 4 * 1 + j = F + 4 + j by omega, y5 _ (by omega), y4 _ (by omega), y3 _ (by omega)]
    exact z2 j hj
  | 2, _ =>
    rw [show F + 4 * 2 + j = F + 4 + 4 + j by omega, y5 _ (by omega), y4 _ (by omega)]
    exact z3 j hj
  | 3, _ =>
    rw [show F + 4 * 3 + j = F + 4 + 4 + 4 + j by omega, y5 _ (by omega)]
    exact z4 j hj
  | 4, _ =>
    rw [show F + 4 * 4 + j = F + 4 + 4 + 4 + 4 + j by omega]
    exact z5 j hj
end OwnE
/-- two calls whose answers are compared at once -/
def PD (z : Int32) (d1 : DS) : Option Value → DS → Prop := fun v d2 => v = some (.int z) ∧ JI d2 ∧ d2 87 = d1 87
section Own2
variable {l : Launch} {n : Nat} {a b : AW} {u : RU} {S A F : Nat} {d d1 d2 : DS}
theorem code_keep (h : JC u S A F d) {x : Int32} {as sk : Nat → Int32} : JC u S A F (setM (dset d 52 4 x) (mW d (d 7 4)) as sk) := h.keep (code_jf h)
theorem row_eq {r r' : Nat → Int32} {s t P : Nat} (h : RW P r s r' t) (he : eqA 7 b a) (hP : P = pNf (aF a)) : eqA 7 (decR b r s) (unA a r' t 12 8) := by
  obtain ⟨h1, h2, h3, h4, h5, h6⟩ := h
  have p8 := pN8 (aF a)
  refine ⟨fun k hk => ?_, fun p hp => ?_, fun c hc => ?_⟩
  · show upd (upd (upd (upd (aF b) 5 (r (s + 20))) 6 (r (s + 21))) 1 (r (s + 22))) 2 (r (s + 23)) k = upd (upd (upd (upd (aF a) 2 (r' t)) 1 (r' (t + 1))) 5 (r' (t + 2))) 6 (r' (t + 3)) k
    by_cases e2 : k = 2
    · subst e2; rw [upd_same, upd_other _ _ (by decide), upd_other _ _ (by decide), upd_other _ _ (by decide), upd_same]; exact h4
    rw [upd_other _ _ e2]
    by_cases e1 : k = 1
    · subst e1; rw [upd_same, upd_other _ _ (by decide), upd_other _ _ (by decide), upd_same]; exact h3
    rw [upd_other _ _ e1]
    by_cases e6 : k = 6
    · subst e6; rw [upd_same, upd_same]; exact h2
    rw [upd_other _ _ e6, upd_other _ _ e6]
    by_cases e5 : k = 5
    · subst e5; rw [upd_same, upd_same]; exact h1
    rw [upd_other _ _ e5, upd_other _ _ e5, upd_other _ _ e1, upd_other _ _ e2]
    exact he.1 k hk
  · have hp : p < pNf (aF b) := hp
    have hp2 : p < P := by rw [hP, ← he.p (by decide)]; exact hp
    refine ⟨(he.2.1 p hp).1, ?_, ?_⟩
    · show cpy0 (fun i => r (s + i) / 16) (aSo b) 8 p = cpy0 (fun i => r' (t + (28 + i))) (aSo a) 8 p
      unfold cpy0
      rw [if_pos (by omega), if_pos (by omega)]; exact (h6 p hp2).1
    · show cpy0 (fun i => rem16 (r (s + i)) - 1) (aPa b) 8 p = cpy0 (fun i => r' (t + (36 + i))) (aPa a) 8 p
      unfold cpy0
      rw [if_pos (by omega), if_pos (by omega)]; exact (h6 p hp2).2
  · refine ⟨?_, ?_⟩
    · show cpy0 (fun i => r (s + (8 + i)) / 16) (aWo b) 12 c = cpy0 (fun i => r' (t + (4 + i))) (aWo a) 12 c
      unfold cpy0
      rw [if_pos hc, if_pos hc]; exact (h5 c hc).1
    · show cpy0 (fun i => rem16 (r (s + (8 + i))) - 1) (aHo b) 12 c = cpy0 (fun i => r' (t + (16 + i))) (aHo a) 12 c
      unfold cpy0
      rw [if_pos hc, if_pos hc]; exact (h5 c hc).2
theorem row_ok {r' : Nat → Int32} {t P : Nat} {mi : Int32} (h : okA (rowA P mi r' t)) (h0 : aF a 0 = nI P) (h3 : aF a 3 = mi) : okA (unA a r' t 12 8) := by
  have p8 := pN8 (aF (rowA P mi r' t))
  refine ok_congr h (fun k hk h2 h4 => ?_) (fun p hp => ?_) (fun c hc => ?_)
  · show upd (upd (upd (upd (aF a) 2 (r' t)) 1 (r' (t + 1))) 5 (r' (t + 2))) 6 (r' (t + 3)) k = (if k = 0 then nI P else if k = 1 then r' (t + 1) else if k = 2 then r' t else if k = 3 then mi else if k = 5 then r' (t + 2) else if k = 6 then r' (t + 3) else 0)
    by_cases e6 : k = 6
    · subst e6; rw [upd_same]; rfl
    rw [upd_other _ _ e6]
    by_cases e5 : k = 5
    · subst e5; rw [upd_same]; rfl
    rw [upd_other _ _ e5]
    by_cases e1 : k = 1
    · subst e1; rw [upd_same]; rfl
    rw [upd_other _ _ e1, upd_other _ _ h2]
    by_cases e0 : k = 0
    · rw [if_pos e0, e0]; exact h0
    have e3 : k = 3 := by omega
    rw [if_neg e0, if_neg e1, if_neg h2, if_pos e3, e3]; exact h3
  · show cpy0 (fun i => r' (t + (28 + i))) (aSo a) 8 p = r' (t + (28 + p)) ∧ cpy0 (fun i => r' (t + (36 + i))) (aPa a) 8 p = r' (t + (36 + p))
    unfold cpy0
    rw [if_pos (by omega), if_pos (by omega)]; exact ⟨rfl, rfl⟩
  · show cpy0 (fun i => r' (t + (4 + i))) (aWo a) 12 c = r' (t + (4 + c)) ∧ cpy0 (fun i => r' (t + (16 + i))) (aHo a) 12 c = r' (t + (16 + c))
    unfold cpy0
    rw [if_pos hc, if_pos hc]; exact ⟨rfl, rfl⟩
theorem st_un {r : Nat → Int32} {t : Nat} : stA a (unA a r t 12 8) := ⟨rfl, rfl, rfl, rfl⟩
theorem st_dec {r : Nat → Int32} {t : Nat} : stA b (decR b r t) := ⟨rfl, rfl, rfl, rfl⟩
theorem jP (h : JC u S A F d) : pNf (d 7) = pNf (aF (mW d (d 7 4))) := h.2.1.1.p (by decide)
theorem R_undo (hl : l.stackTraces = false) (h : JC u S A F d) {z : Int32} (hu : unQ A d (some (.int z)) d1) : CM l mX11_undo (n + 20) 0 [.ref 52] d1 (PD z d1) NX := by
  have hc : ∀ c, 52 ≤ c → c ≠ 87 → d1 c = d c := fun c hc _ => by
    rcases hu with ⟨-, -, rfl⟩ | ⟨-, -, f, -⟩
    · rfl
    · exact f c (by simp only [List.mem_cons, List.not_mem_nil, or_false, not_or]; omega)
  have qq := q_undo (n := n) (d := d1) (a := mW d1 (d 7 4)) (A := A) (as := d1 73) (sk := d1 74) hl h.1.2.2.2.2.2.1 (by rw [hc 52 (by decide) (by decide)]; exact h.2.2.1.1)
  rw [setM_id, mW_same hc] at qq
  refine qq.mono (fun v d2 hz => ?_) (fun _ _ h => h.elim)
  rcases hz with ⟨z1, z2, rfl⟩ | ⟨z1, z2, rfl⟩
  · rcases hu with ⟨-, w2, rfl⟩ | ⟨w1, -⟩
    · refine ⟨by rw [z2]; exact w2.symm, ⟨u, S, A, F, code_keep h⟩, ?_⟩
      rw [sM_87, ds_n _ _ _ (by decide)]
    · omega
  · rcases hu with ⟨w1, -⟩ | ⟨w1, w2, f, w3, w4⟩
    · omega
    refine ⟨by rw [z2]; exact w2.symm, ⟨u, S, A - 1, F, ?_⟩, by rw [sM_87, ds_n _ _ _ (by decide), ds_n _ _ _ (by decide)]⟩
    rw [hc 72 (by decide) (by decide)]
    have hA : A ≤ 40 := h.1.2.2.2.2.2.1
    have he := h.2.1.1
    have hrow := h.2.2.1.2.2.2.1 (A - 1) (by omega)
    have s0 : d 7 0 = nI (pNf (d 7)) := h.1.2.2.1.1
    have xe := row_eq hrow.1 he (jP h)
    have xo : okA (unA (mW d (d 7 4)) (d 72) ((A - 1) * 44) 12 8) := row_ok hrow.2 (by rw [f0_eq h (by decide)]; exact s0) (f0_eq h (by decide))
    rw [← w4] at xe
    have sb : stA (nowW d) (nowW d1) := by rw [w4]; exact st_dec
    have n7 : d1 7 = aF (nowW d1) := rfl
    generalize unA (mW d (d 7 4)) (d 72) ((A - 1) * 44) 12 8 = a'' at xe xo ⊢
    have sa : aF a'' 0 = d 7 0 ∧ aF a'' 3 = d 7 3 := by
      refine ⟨?_, ?_⟩
      · rw [← xe.1 0 (by decide), sb.1]; rfl
      · rw [← xe.1 3 (by decide), sb.2.1]; rfl
    have g : ∀ c, c ∉ [52, 66, 68, 69, 70, 71, 73, 74] → setM (dset (dset d1 52 4 0) 52 37 (nI (A - 1))) a'' (d1 73) (d1 74) c = d1 c := fun c hc => by
      have h52 : c ≠ 52 := fun z => hc (by rw [z]; decide)
      rw [sM_out hc, ds_n _ _ _ h52, ds_n _ _ _ h52]
    have e0 : dset (dset d1 52 4 0) 52 37 (nI (A - 1)) 56 0 = aF a'' 0 := by
      rw [ds_n _ _ _ (by decide), ds_n _ _ _ (by decide), hc 56 (by decide) (by decide), sa.1]; exact f0_eq h (by decide) (k := 0)
    have e3 : dset (dset d1 52 4 0) 52 37 (nI (A - 1)) 56 2 = aF a'' 3 := by
      rw [ds_n _ _ _ (by decide), ds_n _ _ _ (by decide), hc 56 (by decide) (by decide), sa.2]; exact f0_eq h (by decide) (k := 3)
    have gN : nowW (setM (dset (dset d1 52 4 0) 52 37 (nI (A - 1))) a'' (d1 73) (d1 74)) = nowW d1 := by
      show (setM (dset (dset d1 52 4 0) 52 37 (nI (A - 1))) a'' (d1 73) (d1 74) 7, setM (dset (dset d1 52 4 0) 52 37 (nI (A - 1))) a'' (d1 73) (d1 74) 8, setM (dset (dset d1 52 4 0) 52 37 (nI (A - 1))) a'' (d1 73) (d1 74) 9, setM (dset (dset d1 52 4 0) 52 37 (nI (A - 1))) a'' (d1 73) (d1 74) 10, setM (dset (dset d1 52 4 0) 52 37 (nI (A - 1))) a'' (d1 73) (d1 74) 11, setM (dset (dset d1 52 4 0) 52 37 (nI (A - 1))) a'' (d1 73) (d1 74) 12) = (d1 7, d1 8, d1 9, d1 10, d1 11, d1 12)
      rw [g 7 (by decide), g 8 (by decide), g 9 (by decide), g 10 (by decide), g 11 (by decide), g 12 (by decide)]
    refine h.world (A2 := A - 1) (fun c hc2 => ?_) ?_ (by omega) ?_ ?_ (fun k hk => ?_) ?_ ?_ ⟨?_, ?_, ?_, fun p hp => ?_⟩ ?_ ?_ (fun k hk => ?_)
    · rw [g c (fun z => hc2 (by revert z; simp only [List.mem_cons, List.not_mem_nil, or_false]; omega))]
      exact f c (fun z => hc2 (by revert z; simp only [List.mem_cons, List.not_mem_nil, or_false]; omega))
    · rw [g 2 (by decide), w3, upd_other _ _ (by decide)]
    · rw [g 2 (by decide), w3, upd_same]
    · rw [sM_slot (by decide), ds_s, upd_same]
    · rw [sM_slot (by omega), ds_s, upd_other _ _ (by omega), ds_s, upd_other _ _ (by omega), hc 52 (by decide) (by decide)]
    · rw [g 45 (by decide), f 45 (by decide)]; exact h.1.2.2.2.1.1
    · rw [g 46 (by decide), f 46 (by decide)]; exact h.1.2.2.2.1.2
    · rw [g 7 (by decide)]; exact sb.1
    · rw [g 7 (by decide)]; exact sb.2.1
    · rw [g 7 (by decide)]; exact sb.2.2.1
    · rw [g 8 (by decide)]; exact congrFun sb.2.2.2 p
    · rw [gN, g 7 (by decide)]; exact sM_eq xe e0 e3
    · exact sM_ok xo e0 e3
    · rw [g 5 (by decide), g 72 (by decide), f 5 (by decide), hc 72 (by decide) (by decide)]; exact h.2.2.1.2.2.2.1 k (by omega)
end Own2
