/-! THE CLASS'S OWN METHODS: what they need -/
def wAt (d : DS) (w : Nat) : AW := (d w, d (w + 1), d (w + 2), d (w + 3), d (w + 4), d (w + 5))
abbrev nowW (d : DS) : AW := wAt d 7
theorem nowW_is (d : DS) : nowIs d (nowW d) := ⟨rfl, rfl, rfl, rfl, rfl, rfl⟩
theorem setX_id (d : DS) : setX d 26 33 (wAt d 26) (d 32) (d 33) (d 34) (d 35) (d 36) = d := by
  show setR (setW d 26 (d 26) (d (26 + 1)) (d (26 + 2)) (d (26 + 3)) (d (26 + 4)) (d (26 + 5)) (d (26 + 6))) 33 (d 33) (d (33 + 1)) (d (33 + 2)) (d (33 + 3)) = d
  rw [setW_id d 26]
  exact setR_id d 33
abbrev SCX : List Nat := [26, 27, 28, 29, 30, 31, 32, 35, 36]
abbrev SCR : List Nat := [13, 26, 27, 28, 29, 30, 31, 32, 35, 36, 37, 38, 39, 40, 41, 42, 45, 46, 48, 49, 50, 51]
theorem setX_fr (d : DS) (a : AW) (we va sk : Nat → Int32) : fr SCX d (setX d 26 33 a we (d 33) (d 34) va sk) := by
  unfold setX
  refine fr.trans (fr_setW (w := 26) (Or.inl (by decide)) (Or.inl (by decide)) (Or.inl (by decide)) (Or.inl (by decide)) (Or.inl (by decide)) (Or.inl (by decide)) (Or.inl (by decide))) (fr_setR (r := 33) (Or.inr ?_) (Or.inr ?_) (Or.inl (by decide)) (Or.inl (by decide)))
  · exact (setW_out _ _ _ _ _ _ _ _ _ (by decide)).symm
  · exact (setW_out _ _ _ _ _ _ _ _ _ (by decide)).symm
theorem setX_fr2 {d d1 : DS} {cs : List Nat} (a : AW) (we va sk : Nat → Int32) (h : fr cs d d1) (h33 : d1 33 = d 33) (h34 : d1 34 = d 34) (hc : ∀ c ∈ SCX, c ∈ cs) : fr cs d (setX d1 26 33 a we (d 33) (d 34) va sk) := by
  rw [← h33, ← h34]
  exact h.trans ((setX_fr d1 a we va sk).mono hc)
/-- what is asked leaves all as it was but scratch rows -/
def qf (d d' : DS) : Prop := fr SCR d d' ∧ d' 45 0 = 0 ∧ d' 46 0 = 0
def XK (c1 c2 : Prop) (d : DS) : String → DS → Prop := fun E d' => d' = d ∧ ((¬ c1 ∧ E = exn 0) ∨ (c1 ∧ ¬ c2 ∧ E = exn 1))
def QK (c1 c2 : Prop) (ans : Int32) (d : DS) : Option Value → DS → Prop := fun v d' => c1 ∧ c2 ∧ v = some (.int ans) ∧ qf d d'
def CI (u : RU) (S A : Nat) (d : DS) : Prop := (∃ a4 a6, repU u (d 33) (d 34) a4 a6) ∧ ruOk u ∧ szA (nowW d) ∧ (d 45 0 = 0 ∧ d 46 0 = 0) ∧ (S ≤ 8 ∧ d 2 3 = nI S ∧ ∀ i, i < S → ∃ y, y ≤ 20 ∧ d 4 i = nI y) ∧ A ≤ 40 ∧ d 2 4 = nI A
theorem qf_fr {d d' : DS} {cs : List Nat} (h : fr cs d d') (h45 : d 45 0 = 0 ∧ d 46 0 = 0) (hc : ∀ c ∈ cs, c ∈ SCR ∧ c ≠ 45 ∧ c ≠ 46) : qf d d' := by
  refine ⟨h.mono (fun c hx => (hc c hx).1), ?_, ?_⟩
  · rw [h 45 (fun z => (hc 45 z).2.1 rfl)]; exact h45.1
  · rw [h 46 (fun z => (hc 46 z).2.2 rfl)]; exact h45.2
abbrev inW (x m : Int32) : Prop := 0 ≤ x ∧ x ≤ m
abbrev inF (x : Int32) : Prop := 0 ≤ x ∧ x ≤ 60
theorem inF_at {x : Int32} (h : inF x) : ∃ N, N ≤ 60 ∧ x = nI N := nI_of2 (n := 60) (M := 60) rfl (fun z => absurd h.1 (Int32.not_le.mpr z)) h.2
theorem isC_of {n p : Int32} (h : isC n p) : ∃ j, j < 12 ∧ p = nI j := vp_in_of (isC_in h) (by decide)
theorem isC_lt {f : Nat → Int32} {x : Int32} (h : isC (f 1) x) : x.toNatClampNeg < cNf f := by
  obtain ⟨j, hj, e⟩ := isC_of h
  obtain ⟨h1, h2, h3⟩ := h
  have h4 : ¬ f 1 ≤ nI j := by rw [← e]; exact Int32.not_le.mpr h2
  rw [le_nI (by omega)] at h4
  rw [e, nI_clamp (by omega)]
  unfold cNf
  omega
section NeedA
variable {l : Launch} {n : Nat} {d : DS} {Q : Option Value → DS → Prop} {X : String → DS → Prop}
set_option maxRecDepth 100000 in
set_option maxHeartbeats 4000000 in
theorem k_needPerson (hl : l.stackTraces = false) {p : Int32} (hy : isP (d 7 0) p → Q none d) (hn : ¬ isP (d 7 0) p → X (exn 0) d) : CM l mX10_needPerson (n + 7) 1 [.ref 0, .int p] d Q X := by
  refine CM.tree2 2 none _ rfl rfl hl BX10_needPerson [] (by decide +kernel) OKX10_needPerson (Nat.le_of_ble_eq_true rfl) rfl (fun K hK hm => ?_)
  show K 0 [some (.ref 0), some (.int p)] [] _ 0
  refine hK 4 _ _ _ _ _ ?_
  simp only [↓bX10_needPerson_0, ↓bX10_needPerson_22, ↓vh_go bkX10_needPerson_0, ↓vh_go bkX10_needPerson_22, ↓vt_go (heads := []) bkX10_needPerson_0 (by decide), ↓vt_go (heads := []) bkX10_needPerson_22 (by decide), ↓fK_of L0, isW_7.rcv, ↓vz_iconst, ↓vz_bipush, ↓vz_sipush, ↓vz_lconst, ↓vz_iload_n, ↓vz_iload, ↓vz_aload_n, ↓vz_aload, ↓vz_lload_n, ↓vz_lload, ↓vz_istore_n, ↓vz_istore, ↓vz_astore_n, ↓vz_astore, ↓vz_iinc, ↓vz_iadd, ↓vz_isub, ↓vz_imul, ↓vz_iand, ↓vz_ior, ↓vz_ixor, ↓vz_ishl, ↓vz_ishr, ↓vz_iushr, ↓vz_idiv, ↓vz_irem, ↓vz_ineg, ↓vz_i2l, ↓vz_i2b, ↓vz_lcmp, ↓vz_dup2, ↓vz_getfield, ↓vz_iaload, ↓vz_baload, ↓vz_laload, ↓vz_iastore, ↓vz_bastore, ↓vz_ifCond, ↓vz_if_icmp, ↓vz_goto, ↓vz_tableswitch, ↓vz_lookupswitch, ↓vz_return_, ↓vz_ldc, ↓vz_ldc_w, ↓vz_ldc2_w, ↓vz_new, ↓vz_nil, ↓vz_callV, ↓vz_callS, ↓vz_max, ↓vz_min, ↓vz_abs, ↓vz_copy, ↓vz_dup, ↓vz_putI, ↓vz_putR, ↓vz_ireturn, ↓vz_alen, ↓vz_aaload, ↓cnt_some, ↓cnt_none, ↓pI_c, ↓pII_c, ↓pLL_c, ↓pR_c, ↓pIR_c, ↓pIIR_c, ↓lI_0, ↓lI_s, ↓lR_0, ↓lR_s, ↓lL_0, ↓lL_s, ↓dR_0, ↓dR_s, ↓nK_0, ↓nK_s, ↓vt_0, ↓reduceIte, List.mem_cons, List.not_mem_nil, or_false, false_or, or_self, Nat.reduceEqDiff, rok, exn, i01, i10, lok, cnd, slv_ref, slv_int, List.getElem?_cons_zero, List.getElem?_cons_succ, List.set_cons_zero, List.set_cons_succ, List.cons_append, List.nil_append, List.take_succ_cons, List.take_zero, List.drop_succ_cons, List.drop_zero, List.reverse_cons, List.reverse_nil, Option.toList_some, Option.toList_none, List.length_cons, List.length_nil, catL, List.map_cons, List.map_nil, List.sum_cons, List.sum_nil, Value.category, Nat.reduceAdd, Nat.reduceLT, Nat.reduceLeDiff, Fin.isValue, tgt, Int.cast_ofNat_Int, Int.reduceAdd, Int.reduceNeg, Int.reduceToNat, Int.zero_add, f4_0, f4_1, f4_2, f4_3, true_and, and_true, Classical.not_not, implies_true, true_implies, false_implies, not_false_eq_true, not_true_eq_false, and_self, true_or, or_true, beq_self_eq_true, ic_m8, ic_m1, ic_0, ic_1, ic_2, ic_3, ic_4, ic_5, ic_8, ic_16, bp_m28, bp_m27, bp_m26, bp_m25, bp_m24, bp_m23, bp_m22, bp_m21, bp_m20, bp_m2, bp_6, bp_7, bp_8, bp_9, bp_10, bp_11, bp_12, bp_13, bp_14, bp_15, bp_16, bp_17, bp_18, bp_20, bp_21, bp_22, bp_23, bp_24, bp_30, bp_32, bp_39, bp_40, bp_41, bp_42, bp_43, bp_44, bp_45, bp_47, bp_48, bp_57, bp_59, bp_60, bp_61, bp_63, bp_64, bp_97, bp_99, bp_100, bp_122, sp_255, sp_256, sp_700, sp_936, sp_960, sp_999, sp_4096, sp_9999, sp_10000, sp_12345, sp_32767]
  refine CM.use (w_isPerson hl isW_7) ?_
  simp only [↓bX10_needPerson_0, ↓bX10_needPerson_22, ↓vh_go bkX10_needPerson_0, ↓vh_go bkX10_needPerson_22, ↓vt_go (heads := []) bkX10_needPerson_0 (by decide), ↓vt_go (heads := []) bkX10_needPerson_22 (by decide), ↓fK_of L0, ↓vz_iconst, ↓vz_bipush, ↓vz_sipush, ↓vz_lconst, ↓vz_iload_n, ↓vz_iload, ↓vz_aload_n, ↓vz_aload, ↓vz_lload_n, ↓vz_lload, ↓vz_istore_n, ↓vz_istore, ↓vz_astore_n, ↓vz_astore, ↓vz_iinc, ↓vz_iadd, ↓vz_isub, ↓vz_imul, ↓vz_iand, ↓vz_ior, ↓vz_ixor, ↓vz_ishl, ↓vz_ishr, ↓vz_iushr, ↓vz_idiv, ↓vz_irem, ↓vz_ineg, ↓vz_i2l, ↓vz_i2b, ↓vz_lcmp, ↓vz_dup2, ↓vz_getfield, ↓vz_iaload, ↓vz_baload, ↓vz_laload, ↓vz_iastore, ↓vz_bastore, ↓vz_ifCond, ↓vz_if_icmp, ↓vz_goto, ↓vz_tableswitch, ↓vz_lookupswitch, ↓vz_return_, ↓vz_ldc, ↓vz_ldc_w, ↓vz_ldc2_w, ↓vz_new, ↓vz_nil, ↓vz_callV, ↓vz_callS, ↓vz_max, ↓vz_min, ↓vz_abs, ↓vz_copy, ↓vz_dup, ↓vz_putI, ↓vz_putR, ↓vz_ireturn, ↓vz_alen, ↓vz_aaload, ↓cnt_some, ↓cnt_none, ↓pI_c, ↓pII_c, ↓pLL_c, ↓pR_c, ↓pIR_c, ↓pIIR_c, ↓lI_0, ↓lI_s, ↓lR_0, ↓lR_s, ↓lL_0, ↓lL_s, ↓dR_0, ↓dR_s, ↓nK_0, ↓nK_s, ↓vt_0, ↓reduceIte, List.mem_cons, List.not_mem_nil, or_false, false_or, or_self, Nat.reduceEqDiff, rok, exn, i01, i10, lok, cnd, slv_ref, slv_int, List.getElem?_cons_zero, List.getElem?_cons_succ, List.set_cons_zero, List.set_cons_succ, List.cons_append, List.nil_append, List.take_succ_cons, List.take_zero, List.drop_succ_cons, List.drop_zero, List.reverse_cons, List.reverse_nil, Option.toList_some, Option.toList_none, List.length_cons, List.length_nil, catL, List.map_cons, List.map_nil, List.sum_cons, List.sum_nil, Value.category, Nat.reduceAdd, Nat.reduceLT, Nat.reduceLeDiff, Fin.isValue, tgt, Int.cast_ofNat_Int, Int.reduceAdd, Int.reduceNeg, Int.reduceToNat, Int.zero_add, f4_0, f4_1, f4_2, f4_3, true_and, and_true, Classical.not_not, implies_true, true_implies, false_implies, not_false_eq_true, not_true_eq_false, and_self, true_or, or_true, beq_self_eq_true, ic_m8, ic_m1, ic_0, ic_1, ic_2, ic_3, ic_4, ic_5, ic_8, ic_16, bp_m28, bp_m27, bp_m26, bp_m25, bp_m24, bp_m23, bp_m22, bp_m21, bp_m20, bp_m2, bp_6, bp_7, bp_8, bp_9, bp_10, bp_11, bp_12, bp_13, bp_14, bp_15, bp_16, bp_17, bp_18, bp_20, bp_21, bp_22, bp_23, bp_24, bp_30, bp_32, bp_39, bp_40, bp_41, bp_42, bp_43, bp_44, bp_45, bp_47, bp_48, bp_57, bp_59, bp_60, bp_61, bp_63, bp_64, bp_97, bp_99, bp_100, bp_122, sp_255, sp_256, sp_700, sp_936, sp_960, sp_999, sp_4096, sp_9999, sp_10000, sp_12345, sp_32767]
  exact ⟨hy, fun h => hn h⟩
set_option maxRecDepth 100000 in
set_option maxHeartbeats 4000000 in
theorem k_needCoin (hl : l.stackTraces = false) {p : Int32} (hy : isC (d 7 1) p → Q none d) (hn : ¬ isC (d 7 1) p → X (exn 0) d) : CM l mX10_needCoin (n + 7) 1 [.ref 0, .int p] d Q X := by
  refine CM.tree2 2 none _ rfl rfl hl BX10_needCoin [] (by decide +kernel) OKX10_needCoin (Nat.le_of_ble_eq_true rfl) rfl (fun K hK hm => ?_)
  show K 0 [some (.ref 0), some (.int p)] [] _ 0
  refine hK 4 _ _ _ _ _ ?_
  simp only [↓bX10_needCoin_0, ↓bX10_needCoin_21, ↓vh_go bkX10_needCoin_0, ↓vh_go bkX10_needCoin_21, ↓vt_go (heads := []) bkX10_needCoin_0 (by decide), ↓vt_go (heads := []) bkX10_needCoin_21 (by decide), ↓fK_of L0, isW_7.rcv, ↓vz_iconst, ↓vz_bipush, ↓vz_sipush, ↓vz_lconst, ↓vz_iload_n, ↓vz_iload, ↓vz_aload_n, ↓vz_aload, ↓vz_lload_n, ↓vz_lload, ↓vz_istore_n, ↓vz_istore, ↓vz_astore_n, ↓vz_astore, ↓vz_iinc, ↓vz_iadd, ↓vz_isub, ↓vz_imul, ↓vz_iand, ↓vz_ior, ↓vz_ixor, ↓vz_ishl, ↓vz_ishr, ↓vz_iushr, ↓vz_idiv, ↓vz_irem, ↓vz_ineg, ↓vz_i2l, ↓vz_i2b, ↓vz_lcmp, ↓vz_dup2, ↓vz_getfield, ↓vz_iaload, ↓vz_baload, ↓vz_laload, ↓vz_iastore, ↓vz_bastore, ↓vz_ifCond, ↓vz_if_icmp, ↓vz_goto, ↓vz_tableswitch, ↓vz_lookupswitch, ↓vz_return_, ↓vz_ldc, ↓vz_ldc_w, ↓vz_ldc2_w, ↓vz_new, ↓vz_nil, ↓vz_callV, ↓vz_callS, ↓vz_max, ↓vz_min, ↓vz_abs, ↓vz_copy, ↓vz_dup, ↓vz_putI, ↓vz_putR, ↓vz_ireturn, ↓vz_alen, ↓vz_aaload, ↓cnt_some, ↓cnt_none, ↓pI_c, ↓pII_c, ↓pLL_c, ↓pR_c, ↓pIR_c, ↓pIIR_c, ↓lI_0, ↓lI_s, ↓lR_0, ↓lR_s, ↓lL_0, ↓lL_s, ↓dR_0, ↓dR_s, ↓nK_0, ↓nK_s, ↓vt_0, ↓reduceIte, List.mem_cons, List.not_mem_nil, or_false, false_or, or_self, Nat.reduceEqDiff, rok, exn, i01, i10, lok, cnd, slv_ref, slv_int, List.getElem?_cons_zero, List.getElem?_cons_succ, List.set_cons_zero, List.set_cons_succ, List.cons_append, List.nil_append, List.take_succ_cons, List.take_zero, List.drop_succ_cons, List.drop_zero, List.reverse_cons, List.reverse_nil, Option.toList_some, Option.toList_none, List.length_cons, List.length_nil, catL, List.map_cons, List.map_nil, List.sum_cons, List.sum_nil, Value.category, Nat.reduceAdd, Nat.reduceLT, Nat.reduceLeDiff, Fin.isValue, tgt, Int.cast_ofNat_Int, Int.reduceAdd, Int.reduceNeg, Int.reduceToNat, Int.zero_add, f4_0, f4_1, f4_2, f4_3, true_and, and_true, Classical.not_not, implies_true, true_implies, false_implies, not_false_eq_true, not_true_eq_false, and_self, true_or, or_true, beq_self_eq_true, ic_m8, ic_m1, ic_0, ic_1, ic_2, ic_3, ic_4, ic_5, ic_8, ic_16, bp_m28, bp_m27, bp_m26, bp_m25, bp_m24, bp_m23, bp_m22, bp_m21, bp_m20, bp_m2, bp_6, bp_7, bp_8, bp_9, bp_10, bp_11, bp_12, bp_13, bp_14, bp_15, bp_16, bp_17, bp_18, bp_20, bp_21, bp_22, bp_23, bp_24, bp_30, bp_32, bp_39, bp_40, bp_41, bp_42, bp_43, bp_44, bp_45, bp_47, bp_48, bp_57, bp_59, bp_60, bp_61, bp_63, bp_64, bp_97, bp_99, bp_100, bp_122, sp_255, sp_256, sp_700, sp_936, sp_960, sp_999, sp_4096, sp_9999, sp_10000, sp_12345, sp_32767]
  refine CM.use (w_isCoin hl isW_7) ?_
  simp only [↓bX10_needCoin_0, ↓bX10_needCoin_21, ↓vh_go bkX10_needCoin_0, ↓vh_go bkX10_needCoin_21, ↓vt_go (heads := []) bkX10_needCoin_0 (by decide), ↓vt_go (heads := []) bkX10_needCoin_21 (by decide), ↓fK_of L0, ↓vz_iconst, ↓vz_bipush, ↓vz_sipush, ↓vz_lconst, ↓vz_iload_n, ↓vz_iload, ↓vz_aload_n, ↓vz_aload, ↓vz_lload_n, ↓vz_lload, ↓vz_istore_n, ↓vz_istore, ↓vz_astore_n, ↓vz_astore, ↓vz_iinc, ↓vz_iadd, ↓vz_isub, ↓vz_imul, ↓vz_iand, ↓vz_ior, ↓vz_ixor, ↓vz_ishl, ↓vz_ishr, ↓vz_iushr, ↓vz_idiv, ↓vz_irem, ↓vz_ineg, ↓vz_i2l, ↓vz_i2b, ↓vz_lcmp, ↓vz_dup2, ↓vz_getfield, ↓vz_iaload, ↓vz_baload, ↓vz_laload, ↓vz_iastore, ↓vz_bastore, ↓vz_ifCond, ↓vz_if_icmp, ↓vz_goto, ↓vz_tableswitch, ↓vz_lookupswitch, ↓vz_return_, ↓vz_ldc, ↓vz_ldc_w, ↓vz_ldc2_w, ↓vz_new, ↓vz_nil, ↓vz_callV, ↓vz_callS, ↓vz_max, ↓vz_min, ↓vz_abs, ↓vz_copy, ↓vz_dup, ↓vz_putI, ↓vz_putR, ↓vz_ireturn, ↓vz_alen, ↓vz_aaload, ↓cnt_some, ↓cnt_none, ↓pI_c, ↓pII_c, ↓pLL_c, ↓pR_c, ↓pIR_c, ↓pIIR_c, ↓lI_0, ↓lI_s, ↓lR_0, ↓lR_s, ↓lL_0, ↓lL_s, ↓dR_0, ↓dR_s, ↓nK_0, ↓nK_s, ↓vt_0, ↓reduceIte, List.mem_cons, List.not_mem_nil, or_false, false_or, or_self, Nat.reduceEqDiff, rok, exn, i01, i10, lok, cnd, slv_ref, slv_int, List.getElem?_cons_zero, List.getElem?_cons_succ, List.set_cons_zero, List.set_cons_succ, List.cons_append, List.nil_append, List.take_succ_cons, List.take_zero, List.drop_succ_cons, List.drop_zero, List.reverse_cons, List.reverse_nil, Option.toList_some, Option.toList_none, List.length_cons, List.length_nil, catL, List.map_cons, List.map_nil, List.sum_cons, List.sum_nil, Value.category, Nat.reduceAdd, Nat.reduceLT, Nat.reduceLeDiff, Fin.isValue, tgt, Int.cast_ofNat_Int, Int.reduceAdd, Int.reduceNeg, Int.reduceToNat, Int.zero_add, f4_0, f4_1, f4_2, f4_3, true_and, and_true, Classical.not_not, implies_true, true_implies, false_implies, not_false_eq_true, not_true_eq_false, and_self, true_or, or_true, beq_self_eq_true, ic_m8, ic_m1, ic_0, ic_1, ic_2, ic_3, ic_4, ic_5, ic_8, ic_16, bp_m28, bp_m27, bp_m26, bp_m25, bp_m24, bp_m23, bp_m22, bp_m21, bp_m20, bp_m2, bp_6, bp_7, bp_8, bp_9, bp_10, bp_11, bp_12, bp_13, bp_14, bp_15, bp_16, bp_17, bp_18, bp_20, bp_21, bp_22, bp_23, bp_24, bp_30, bp_32, bp_39, bp_40, bp_41, bp_42, bp_43, bp_44, bp_45, bp_47, bp_48, bp_57, bp_59, bp_60, bp_61, bp_63, bp_64, bp_97, bp_99, bp_100, bp_122, sp_255, sp_256, sp_700, sp_936, sp_960, sp_999, sp_4096, sp_9999, sp_10000, sp_12345, sp_32767]
  exact ⟨hy, fun h => hn h⟩
set_option maxRecDepth 100000 in
set_option maxHeartbeats 4000000 in
theorem k_needWhat (hl : l.stackTraces = false) {x m : Int32} (hy : inW x m → Q none d) (hn : ¬ inW x m → X (exn 0) d) : CM l mX10_needWhat (n + 7) 1 [.int x, .int m] d Q X := by
  refine CM.tree2 2 none _ rfl rfl hl BX10_needWhat [] (by decide +kernel) OKX10_needWhat (Nat.le_of_ble_eq_true rfl) rfl (fun K hK hm => ?_)
  show K 0 [some (.int x), some (.int m)] [] _ 0
  refine hK 4 _ _ _ _ _ ?_
  simp only [↓bX10_needWhat_0, ↓bX10_needWhat_9, ↓bX10_needWhat_20, ↓vh_go bkX10_needWhat_0, ↓vh_go bkX10_needWhat_9, ↓vh_go bkX10_needWhat_20, ↓vt_go (heads := []) bkX10_needWhat_0 (by decide), ↓vt_go (heads := []) bkX10_needWhat_9 (by decide), ↓vt_go (heads := []) bkX10_needWhat_20 (by decide), ↓vz_iconst, ↓vz_bipush, ↓vz_sipush, ↓vz_lconst, ↓vz_iload_n, ↓vz_iload, ↓vz_aload_n, ↓vz_aload, ↓vz_lload_n, ↓vz_lload, ↓vz_istore_n, ↓vz_istore, ↓vz_astore_n, ↓vz_astore, ↓vz_iinc, ↓vz_iadd, ↓vz_isub, ↓vz_imul, ↓vz_iand, ↓vz_ior, ↓vz_ixor, ↓vz_ishl, ↓vz_ishr, ↓vz_iushr, ↓vz_idiv, ↓vz_irem, ↓vz_ineg, ↓vz_i2l, ↓vz_i2b, ↓vz_lcmp, ↓vz_dup2, ↓vz_getfield, ↓vz_iaload, ↓vz_baload, ↓vz_laload, ↓vz_iastore, ↓vz_bastore, ↓vz_ifCond, ↓vz_if_icmp, ↓vz_goto, ↓vz_tableswitch, ↓vz_lookupswitch, ↓vz_return_, ↓vz_ldc, ↓vz_ldc_w, ↓vz_ldc2_w, ↓vz_new, ↓vz_nil, ↓vz_callV, ↓vz_callS, ↓vz_max, ↓vz_min, ↓vz_abs, ↓vz_copy, ↓vz_dup, ↓vz_putI, ↓vz_putR, ↓vz_ireturn, ↓vz_alen, ↓vz_aaload, ↓cnt_some, ↓cnt_none, ↓pI_c, ↓pII_c, ↓pLL_c, ↓pR_c, ↓pIR_c, ↓pIIR_c, ↓lI_0, ↓lI_s, ↓lR_0, ↓lR_s, ↓lL_0, ↓lL_s, ↓dR_0, ↓dR_s, ↓nK_0, ↓nK_s, ↓vt_0, ↓reduceIte, List.mem_cons, List.not_mem_nil, or_false, false_or, or_self, Nat.reduceEqDiff, rok, exn, i01, i10, lok, cnd, slv_ref, slv_int, List.getElem?_cons_zero, List.getElem?_cons_succ, List.set_cons_zero, List.set_cons_succ, List.cons_append, List.nil_append, List.take_succ_cons, List.take_zero, List.drop_succ_cons, List.drop_zero, List.reverse_cons, List.reverse_nil, Option.toList_some, Option.toList_none, List.length_cons, List.length_nil, catL, List.map_cons, List.map_nil, List.sum_cons, List.sum_nil, Value.category, Nat.reduceAdd, Nat.reduceLT, Nat.reduceLeDiff, Fin.isValue, tgt, Int.cast_ofNat_Int, Int.reduceAdd, Int.reduceNeg, Int.reduceToNat, Int.zero_add, f4_0, f4_1, f4_2, f4_3, true_and, and_true, Classical.not_not, implies_true, true_implies, false_implies, not_false_eq_true, not_true_eq_false, and_self, true_or, or_true, beq_self_eq_true, ic_m8, ic_m1, ic_0, ic_1, ic_2, ic_3, ic_4, ic_5, ic_8, ic_16, bp_m28, bp_m27, bp_m26, bp_m25, bp_m24, bp_m23, bp_m22, bp_m21, bp_m20, bp_m2, bp_6, bp_7, bp_8, bp_9, bp_10, bp_11, bp_12, bp_13, bp_14, bp_15, bp_16, bp_17, bp_18, bp_20, bp_21, bp_22, bp_23, bp_24, bp_30, bp_32, bp_39, bp_40, bp_41, bp_42, bp_43, bp_44, bp_45, bp_47, bp_48, bp_57, bp_59, bp_60, bp_61, bp_63, bp_64, bp_97, bp_99, bp_100, bp_122, sp_255, sp_256, sp_700, sp_936, sp_960, sp_999, sp_4096, sp_9999, sp_10000, sp_12345, sp_32767]
  exact ⟨fun h => hn (fun z => absurd h (Int32.not_lt.mpr z.1)), fun h => ⟨fun h2 => hy ⟨Int32.not_lt.mp h, h2⟩, fun h2 => hn (fun z => h2 z.2)⟩⟩
set_option maxRecDepth 100000 in
set_option maxHeartbeats 4000000 in
theorem k_needForesight (hl : l.stackTraces = false) {x : Int32} (hy : inF x → Q none d) (hn : ¬ inF x → X (exn 1) d) : CM l mX10_needForesight (n + 7) 1 [.int x] d Q X := by
  refine CM.tree2 1 none _ rfl rfl hl BX10_needForesight [] (by decide +kernel) OKX10_needForesight (Nat.le_of_ble_eq_true rfl) rfl (fun K hK hm => ?_)
  show K 0 [some (.int x)] [] _ 0
  refine hK 4 _ _ _ _ _ ?_
  simp only [↓bX10_needForesight_0, ↓bX10_needForesight_10, ↓bX10_needForesight_21, ↓vh_go bkX10_needForesight_0, ↓vh_go bkX10_needForesight_10, ↓vh_go bkX10_needForesight_21, ↓vt_go (heads := []) bkX10_needForesight_0 (by decide), ↓vt_go (heads := []) bkX10_needForesight_10 (by decide), ↓vt_go (heads := []) bkX10_needForesight_21 (by decide), ↓vz_iconst, ↓vz_bipush, ↓vz_sipush, ↓vz_lconst, ↓vz_iload_n, ↓vz_iload, ↓vz_aload_n, ↓vz_aload, ↓vz_lload_n, ↓vz_lload, ↓vz_istore_n, ↓vz_istore, ↓vz_astore_n, ↓vz_astore, ↓vz_iinc, ↓vz_iadd, ↓vz_isub, ↓vz_imul, ↓vz_iand, ↓vz_ior, ↓vz_ixor, ↓vz_ishl, ↓vz_ishr, ↓vz_iushr, ↓vz_idiv, ↓vz_irem, ↓vz_ineg, ↓vz_i2l, ↓vz_i2b, ↓vz_lcmp, ↓vz_dup2, ↓vz_getfield, ↓vz_iaload, ↓vz_baload, ↓vz_laload, ↓vz_iastore, ↓vz_bastore, ↓vz_ifCond, ↓vz_if_icmp, ↓vz_goto, ↓vz_tableswitch, ↓vz_lookupswitch, ↓vz_return_, ↓vz_ldc, ↓vz_ldc_w, ↓vz_ldc2_w, ↓vz_new, ↓vz_nil, ↓vz_callV, ↓vz_callS, ↓vz_max, ↓vz_min, ↓vz_abs, ↓vz_copy, ↓vz_dup, ↓vz_putI, ↓vz_putR, ↓vz_ireturn, ↓vz_alen, ↓vz_aaload, ↓cnt_some, ↓cnt_none, ↓pI_c, ↓pII_c, ↓pLL_c, ↓pR_c, ↓pIR_c, ↓pIIR_c, ↓lI_0, ↓lI_s, ↓lR_0, ↓lR_s, ↓lL_0, ↓lL_s, ↓dR_0, ↓dR_s, ↓nK_0, ↓nK_s, ↓vt_0, ↓reduceIte, List.mem_cons, List.not_mem_nil, or_false, false_or, or_self, Nat.reduceEqDiff, rok, exn, i01, i10, lok, cnd, slv_ref, slv_int, List.getElem?_cons_zero, List.getElem?_cons_succ, List.set_cons_zero, List.set_cons_succ, List.cons_append, List.nil_append, List.take_succ_cons, List.take_zero, List.drop_succ_cons, List.drop_zero, List.reverse_cons, List.reverse_nil, Option.toList_some, Option.toList_none, List.length_cons, List.length_nil, catL, List.map_cons, List.map_nil, List.sum_cons, List.sum_nil, Value.category, Nat.reduceAdd, Nat.reduceLT, Nat.reduceLeDiff, Fin.isValue, tgt, Int.cast_ofNat_Int, Int.reduceAdd, Int.reduceNeg, Int.reduceToNat, Int.zero_add, f4_0, f4_1, f4_2, f4_3, true_and, and_true, Classical.not_not, implies_true, true_implies, false_implies, not_false_eq_true, not_true_eq_false, and_self, true_or, or_true, beq_self_eq_true, ic_m8, ic_m1, ic_0, ic_1, ic_2, ic_3, ic_4, ic_5, ic_8, ic_16, bp_m28, bp_m27, bp_m26, bp_m25, bp_m24, bp_m23, bp_m22, bp_m21, bp_m20, bp_m2, bp_6, bp_7, bp_8, bp_9, bp_10, bp_11, bp_12, bp_13, bp_14, bp_15, bp_16, bp_17, bp_18, bp_20, bp_21, bp_22, bp_23, bp_24, bp_30, bp_32, bp_39, bp_40, bp_41, bp_42, bp_43, bp_44, bp_45, bp_47, bp_48, bp_57, bp_59, bp_60, bp_61, bp_63, bp_64, bp_97, bp_99, bp_100, bp_122, sp_255, sp_256, sp_700, sp_936, sp_960, sp_999, sp_4096, sp_9999, sp_10000, sp_12345, sp_32767]
  exact ⟨fun h => hn (fun z => absurd h (Int32.not_lt.mpr z.1)), fun h => ⟨fun h2 => hy ⟨Int32.not_lt.mp h, h2⟩, fun h2 => hn (fun z => h2 z.2)⟩⟩
set_option maxRecDepth 100000 in
set_option maxHeartbeats 4000000 in
theorem k_needTwo (hl : l.stackTraces = false) {x y : Int32} (hy : ¬ x = y → Q none d) (hn : x = y → X (exn 1) d) : CM l mX10_needTwo (n + 7) 1 [.int x, .int y] d Q X := by
  refine CM.tree2 2 none _ rfl rfl hl BX10_needTwo [] (by decide +kernel) OKX10_needTwo (Nat.le_of_ble_eq_true rfl) rfl (fun K hK hm => ?_)
  show K 0 [some (.int x), some (.int y)] [] _ 0
  refine hK 4 _ _ _ _ _ ?_
  simp only [↓bX10_needTwo_0, ↓bX10_needTwo_16, ↓vh_go bkX10_needTwo_0, ↓vh_go bkX10_needTwo_16, ↓vt_go (heads := []) bkX10_needTwo_0 (by decide), ↓vt_go (heads := []) bkX10_needTwo_16 (by decide), ↓vz_iconst, ↓vz_bipush, ↓vz_sipush, ↓vz_lconst, ↓vz_iload_n, ↓vz_iload, ↓vz_aload_n, ↓vz_aload, ↓vz_lload_n, ↓vz_lload, ↓vz_istore_n, ↓vz_istore, ↓vz_astore_n, ↓vz_astore, ↓vz_iinc, ↓vz_iadd, ↓vz_isub, ↓vz_imul, ↓vz_iand, ↓vz_ior, ↓vz_ixor, ↓vz_ishl, ↓vz_ishr, ↓vz_iushr, ↓vz_idiv, ↓vz_irem, ↓vz_ineg, ↓vz_i2l, ↓vz_i2b, ↓vz_lcmp, ↓vz_dup2, ↓vz_getfield, ↓vz_iaload, ↓vz_baload, ↓vz_laload, ↓vz_iastore, ↓vz_bastore, ↓vz_ifCond, ↓vz_if_icmp, ↓vz_goto, ↓vz_tableswitch, ↓vz_lookupswitch, ↓vz_return_, ↓vz_ldc, ↓vz_ldc_w, ↓vz_ldc2_w, ↓vz_new, ↓vz_nil, ↓vz_callV, ↓vz_callS, ↓vz_max, ↓vz_min, ↓vz_abs, ↓vz_copy, ↓vz_dup, ↓vz_putI, ↓vz_putR, ↓vz_ireturn, ↓vz_alen, ↓vz_aaload, ↓cnt_some, ↓cnt_none, ↓pI_c, ↓pII_c, ↓pLL_c, ↓pR_c, ↓pIR_c, ↓pIIR_c, ↓lI_0, ↓lI_s, ↓lR_0, ↓lR_s, ↓lL_0, ↓lL_s, ↓dR_0, ↓dR_s, ↓nK_0, ↓nK_s, ↓vt_0, ↓reduceIte, List.mem_cons, List.not_mem_nil, or_false, false_or, or_self, Nat.reduceEqDiff, rok, exn, i01, i10, lok, cnd, slv_ref, slv_int, List.getElem?_cons_zero, List.getElem?_cons_succ, List.set_cons_zero, List.set_cons_succ, List.cons_append, List.nil_append, List.take_succ_cons, List.take_zero, List.drop_succ_cons, List.drop_zero, List.reverse_cons, List.reverse_nil, Option.toList_some, Option.toList_none, List.length_cons, List.length_nil, catL, List.map_cons, List.map_nil, List.sum_cons, List.sum_nil, Value.category, Nat.reduceAdd, Nat.reduceLT, Nat.reduceLeDiff, Fin.isValue, tgt, Int.cast_ofNat_Int, Int.reduceAdd, Int.reduceNeg, Int.reduceToNat, Int.zero_add, f4_0, f4_1, f4_2, f4_3, true_and, and_true, Classical.not_not, implies_true, true_implies, false_implies, not_false_eq_true, not_true_eq_false, and_self, true_or, or_true, beq_self_eq_true, ic_m8, ic_m1, ic_0, ic_1, ic_2, ic_3, ic_4, ic_5, ic_8, ic_16, bp_m28, bp_m27, bp_m26, bp_m25, bp_m24, bp_m23, bp_m22, bp_m21, bp_m20, bp_m2, bp_6, bp_7, bp_8, bp_9, bp_10, bp_11, bp_12, bp_13, bp_14, bp_15, bp_16, bp_17, bp_18, bp_20, bp_21, bp_22, bp_23, bp_24, bp_30, bp_32, bp_39, bp_40, bp_41, bp_42, bp_43, bp_44, bp_45, bp_47, bp_48, bp_57, bp_59, bp_60, bp_61, bp_63, bp_64, bp_97, bp_99, bp_100, bp_122, sp_255, sp_256, sp_700, sp_936, sp_960, sp_999, sp_4096, sp_9999, sp_10000, sp_12345, sp_32767]
  exact ⟨hy, fun h => hn h⟩
end NeedA
section NeedB
variable {l : Launch} {n : Nat} {d : DS} {u : RU} {a4 a6 S : Nat}
theorem z_goTo (hl : l.stackTraces = false) (hu : repU u (d 33) (d 34) a4 a6) (hk : ruOk u) (hs : szA (nowW d)) {N : Nat} (hN : N ≤ 60) : CM l mX0_goTo (n + 8) 0 [.ref 43, .int (nI N)] d (fun v d' => v = none ∧ ∃ we va sk, d' = setX d 26 33 (yearsA u (nrmA (nowW d)) N) we (d 33) (d 34) va sk) NX := by
  have h := c_goTo (n := n) (d := d) (a := wAt d 26) (we := d 32) (g := d 33) (co := d 34) (va := d 35) (sk := d 36) hl (nowW_is d) hu hk hs (N := N) (by omega)
  rw [setX_id] at h
  exact h
theorem same_fr {d' : DS} (h : ∃ a', sameX d 26 33 a' (d 33) (d 34) d') : fr SCX d d' := by
  obtain ⟨a', we, va, sk, rfl⟩ := h
  exact setX_fr d a' we va sk
theorem z_nextNamer (hl : l.stackTraces = false) (hu : repU u (d 33) (d 34) a4 a6) (hk : ruOk u) (hs : szA (nowW d)) : CM l mX0_nextNamer (n + 7) 0 [.ref 43] d (fun v d' => v = some (.int (nxF u (d 7 1) 60 (nrmA (nowW d)))) ∧ fr SCX d d') NX := by
  have h := c_nextNamer (n := n) (d := d) (a := wAt d 26) (we := d 32) (g := d 33) (co := d 34) (va := d 35) (sk := d 36) hl (nowW_is d) hu hk hs
  rw [setX_id] at h
  exact h.mono (fun v d' e => ⟨e.1, same_fr e.2⟩) (fun _ _ h => h.elim)
theorem z_yearsUntilHeld (hl : l.stackTraces = false) (hu : repU u (d 33) (d 34) a4 a6) (hk : ruOk u) (hs : szA (nowW d)) {c : Nat} (hc12 : c < 12) (hc : c < cNf (d 7)) {p : Int32} : CM l mX0_yearsUntilHeld (n + 7) 0 [.ref 43, .int (nI c), .int p] d (fun v d' => v = some (.int (uhF u c p 61 0 (nrmA (nowW d)))) ∧ fr SCX d d') NX := by
  have h := c_yearsUntilHeld (n := n) (d := d) (a := wAt d 26) (we := d 32) (g := d 33) (co := d 34) (va := d 35) (sk := d 36) hl (nowW_is d) hu hk hs hc12 hc (p := p)
  rw [setX_id] at h
  exact h.mono (fun v d' e => ⟨e.1, same_fr e.2⟩) (fun _ _ h => h.elim)
theorem z_holdersWithin (hl : l.stackTraces = false) (hu : repU u (d 33) (d 34) a4 a6) (hk : ruOk u) (hs : szA (nowW d)) {c N : Nat} (hc12 : c < 12) (hc : c < cNf (d 7)) (hN : N ≤ 60) : CM l mX0_holdersWithin (n + 7) 0 [.ref 43, .int (nI c), .int (nI N)] d (fun v d' => v = some (.int (hwF u c (N + 1) 0 (nrmA (nowW d)))) ∧ fr SCX d d') NX := by
  have h := c_holdersWithin (n := n) (d := d) (a := wAt d 26) (we := d 32) (g := d 33) (co := d 34) (va := d 35) (sk := d 36) hl (nowW_is d) hu hk hs hc12 hc hN
  rw [setX_id] at h
  exact h.mono (fun v d' e => ⟨e.1, same_fr e.2⟩) (fun _ _ h => h.elim)
theorem z_worthFor (hl : l.stackTraces = false) (hu : repU u (d 33) (d 34) a4 a6) (hk : ruOk u) (hs : szA (nowW d)) {c N : Nat} {p : Int32} (hc12 : c < 12) (hc : c < cNf (d 7)) (hN : N ≤ 60) : CM l mX0_worthFor (n + 8) 0 [.ref 43, .int (nI c), .int p, .int (nI N)] d (fun v d' => v = some (.int (wfF u (nowW d) c p N 100 0)) ∧ fr SCX d d') NX := by
  have h := c_worthFor (n := n) (d := d) (a := wAt d 26) (we := d 32) (g := d 33) (co := d 34) (va := d 35) (sk := d 36) hl (nowW_is d) hu hk hs (p := p) hc12 hc hN
  rw [setX_id] at h
  exact h.mono (fun v d' e => ⟨e.1, same_fr e.2⟩) (fun _ _ h => h.elim)
theorem z_isSeenWithout (hl : l.stackTraces = false) (hu : repU u (d 33) (d 34) a4 a6) (hk : ruOk u) (hs : szA (nowW d)) (hS : S ≤ 8) (h2 : d 2 3 = nI S) (hy : ∀ i, i < S → ∃ y, y ≤ 20 ∧ d 4 i = nI y) : CM l mX1_isSeenWithout (n + 8) 0 [.ref 47] d (fun v d' => v = some (.int (asG u S (d 4) (d 3) (lsN (d 4) S) 0 (nrmA (nowW d)))) ∧ fr SCX d d') NX := by
  have h := g_isSeenWithout (n := n) (d := d) (a := wAt d 26) (we := d 32) (g := d 33) (co := d 34) (va := d 35) (sk := d 36) hl (nowW_is d) hu hk hs hS h2 hy
  rw [setX_id] at h
  exact h.mono (fun v d' e => ⟨e.1, same_fr e.2⟩) (fun _ _ h => h.elim)
theorem z_countNeedy (hl : l.stackTraces = false) (hu : repU u (d 33) (d 34) a4 a6) (hk : ruOk u) (hs : szA (nowW d)) (hS : S ≤ 8) (h2 : d 2 3 = nI S) (hy : ∀ i, i < S → ∃ y, y ≤ 20 ∧ d 4 i = nI y) : CM l mX1_countNeedy (n + 8) 0 [.ref 47] d (fun v d' => v = some (.int (cnG u (nowW d) S (d 4) (d 3) (pNf (d 7) * 10))) ∧ fr SCX d d') NX := by
  have h := g_countNeedy (n := n) (d := d) (a := wAt d 26) (we := d 32) (g := d 33) (co := d 34) (va := d 35) (sk := d 36) hl (nowW_is d) hu hk hs hS h2 hy
  rw [setX_id] at h
  exact h.mono (fun v d' e => ⟨e.1, same_fr e.2⟩) (fun _ _ h => h.elim)
theorem z_firstNeedy (hl : l.stackTraces = false) (hu : repU u (d 33) (d 34) a4 a6) (hk : ruOk u) (hs : szA (nowW d)) (hS : S ≤ 8) (h2 : d 2 3 = nI S) (hy : ∀ i, i < S → ∃ y, y ≤ 20 ∧ d 4 i = nI y) : CM l mX1_firstNeedy (n + 8) 0 [.ref 47] d (fun v d' => v = some (.int (fnG u (nowW d) S (d 4) (d 3) (pNf (d 7) * 10) 0)) ∧ fr SCX d d') NX := by
  have h := g_firstNeedy (n := n) (d := d) (a := wAt d 26) (we := d 32) (g := d 33) (co := d 34) (va := d 35) (sk := d 36) hl (nowW_is d) hu hk hs hS h2 hy
  rw [setX_id] at h
  exact h.mono (fun v d' e => ⟨e.1, same_fr e.2⟩) (fun _ _ h => h.elim)
/-- who would hold each coin, by the needs that fit -/
abbrev hdC (u : RU) (d : DS) (S : Nat) : Nat → Int32 := hdG u (nowW d) S (d 4) (d 3) (fun i => if i < 12 then 0 else d 48 i) (pNf (d 7) * 10)
theorem z_coinToLookAt (hl : l.stackTraces = false) (hu : repU u (d 33) (d 34) a4 a6) (hk : ruOk u) (hs : szA (nowW d)) (hS : S ≤ 8) (h2 : d 2 3 = nI S) (hy : ∀ i, i < S → ∃ y, y ≤ 20 ∧ d 4 i = nI y) : CM l mX1_coinToLookAt (n + 8) 0 [.ref 47] d (fun v d' => v = some (.int (bsG (hdC u d S) 12)) ∧ fr (48 :: SCX) d d' ∧ d' 48 = hdC u d S) NX := by
  have h := g_coinToLookAt (n := n) (d := d) (a := wAt d 26) (we := d 32) (g := d 33) (co := d 34) (va := d 35) (sk := d 36) hl (nowW_is d) hu hk hs hS h2 hy
  rw [setX_id] at h
  refine h.mono (fun v d' e => ?_) (fun _ _ h => h.elim)
  obtain ⟨rfl, a', we, va, sk, rfl⟩ := e
  refine ⟨rfl, setX_fr2 _ _ _ _ ((fr.rfl (d := d)).row (by decide) _) (dr_n _ _ (by decide)) (dr_n _ _ (by decide)) (by decide), ?_⟩
  rw [sx_48, dr_s]
  rfl
theorem z_unlike (hl : l.stackTraces = false) {c : Int32} : CM l mX1_unlikeHolders (n + 2) 0 [.ref 47, .int c] d (fun v d' => v = some (.int (ulF (d 48) c)) ∧ d' = d) NX := by
  have h := g_unlike (n := n) (d := d) (a := wAt d 26) (we := d 32) (g := d 33) (co := d 34) (va := d 35) (sk := d 36) hl (c := c)
  rw [setX_id] at h
  exact h
theorem z_chancePoorest (hl : l.stackTraces = false) (hu : repU u (d 33) (d 34) a4 a6) (hk : ruOk u) (hs : szA (nowW d)) {p th : Int32} {N : Nat} (hN : N ≤ 5) : CM l mX4_chancePoorest (n + 8) 0 [.ref 49, .int p, .int (nI N), .int th] d (fun v d' => v = some (.int (chF u (nowW d) p th N (2 ^ N))) ∧ fr SCX d d') NX := by
  have h := y_chancePoorest (n := n) (d := d) (a := wAt d 26) (we := d 32) (g := d 33) (co := d 34) (va := d 35) (sk := d 36) hl (nowW_is d) hu hk hs (p := p) (th := th) hN
  rw [setX_id] at h
  exact h.mono (fun v d' e => ⟨e.1, same_fr e.2⟩) (fun _ _ h => h.elim)
theorem z_playOut (hl : l.stackTraces = false) (hu : repU u (d 33) (d 34) a4 a6) (hk : ruOk u) (hs : szA (nowW d)) {p q : Int32} : CM l mX4_playOut (n + 8) 0 [.ref 49, .int p, .int q] d (fun v d' => v = none ∧ fr (49 :: 50 :: 51 :: SCX) d d' ∧ d' 49 5 = chcF (fcA (nowW d) p) ∧ d' 49 6 = chcF (fcA (nowW d) q) ∧ d' 50 = gsF u (nowW d) p q p (d 50) 4 ∧ d' 51 = gsF u (nowW d) p q q (d 51) 4) NX := by
  have h := y_playOut (n := n) (d := d) (a := wAt d 26) (we := d 32) (g := d 33) (co := d 34) (va := d 35) (sk := d 36) hl (nowW_is d) hu hk hs (p := p) (q := q)
  rw [setX_id] at h
  refine h.mono (fun v d' e => ?_) (fun _ _ h => h.elim)
  obtain ⟨rfl, a', we, va, sk, rfl⟩ := e
  refine ⟨rfl, setX_fr2 _ _ _ _ ((((fr.rfl (d := d)).row (by decide) _).row (by decide) _).row (by decide) _) ?_ ?_ (by decide), ?_, ?_, ?_, ?_⟩
  · rw [dr_n _ _ (by decide), dr_n _ _ (by decide), dr_n _ _ (by decide)]
  · rw [dr_n _ _ (by decide), dr_n _ _ (by decide), dr_n _ _ (by decide)]
  · rw [sx_49, dr_n _ _ (by decide), dr_n _ _ (by decide), dr_s, up_n _ _ (by decide), up_s]
  · rw [sx_49, dr_n _ _ (by decide), dr_n _ _ (by decide), dr_s, up_s]
  · rw [sx_50, dr_n _ _ (by decide), dr_s]
  · rw [sx_51, dr_s]
theorem z_goAges (hl : l.stackTraces = false) (hu : repU u (d 33) (d 34) a4 a6) (hk : ruOk u) (hs : szA (nowW d)) {s0 : Int32} {N : Nat} (hN : N ≤ 60) : CM l mX4_goAges (n + 7) 0 [.ref 49, .int s0, .int (nI N)] d (fun v d' => v = none ∧ fr (49 :: SCX) d d' ∧ wAt d' 26 = (ageA u (nowW d) s0 N).1) NX := by
  have h := y_goAges (n := n) (d := d) (a := wAt d 26) (we := d 32) (g := d 33) (co := d 34) (va := d 35) (sk := d 36) hl (nowW_is d) hu hk hs (s0 := s0) hN
  rw [setX_id] at h
  refine h.mono (fun v d' e => ?_) (fun _ _ h => h.elim)
  obtain ⟨rfl, we, va, sk, rfl⟩ := e
  refine ⟨rfl, setX_fr2 _ _ _ _ ((fr.rfl (d := d)).row (by decide) _) (dr_n _ _ (by decide)) (dr_n _ _ (by decide)) (by decide), ?_⟩
  unfold wAt
  rw [sx_26, sx_27, sx_28, sx_29, sx_30, sx_31]
theorem z_poorest7 (hl : l.stackTraces = false) : CM l mX9_poorest (n + 3) 0 [.ref 7] d (fun v d' => v = some (.int (poorA (nowW d))) ∧ fr [13] d d') NX := by
  have h := v_poorest (n := n) (d := d) (f := d 7) (ne := d (7 + 1)) (so := d (7 + 2)) (pa := d (7 + 3)) (wo := d (7 + 4)) (ho := d (7 + 5)) (we := d (7 + 6)) hl isW_7
  rw [setW_id d 7] at h
  refine h.mono (fun v d' e => ?_) (fun _ _ h => h.elim)
  obtain ⟨rfl, rfl⟩ := e
  exact ⟨by rw [← poorS_eq (nowW d) (d (7 + 6))]; rfl, fr_setW (Or.inr rfl) (Or.inr rfl) (Or.inr rfl) (Or.inr rfl) (Or.inr rfl) (Or.inr rfl) (Or.inl (by decide))⟩
theorem z_wealth7 (hl : l.stackTraces = false) {p : Int32} (hp : isP (d 7 0) p) : CM l mX9_wealthOf (n + 3) 0 [.ref 7, .int p] d (fun v d' => v = some (.int (hasA (nowW d) p.toNatClampNeg)) ∧ fr [13] d d') NX := by
  have h := v_wealthOf (n := n) (d := d) (f := d 7) (ne := d (7 + 1)) (so := d (7 + 2)) (pa := d (7 + 3)) (wo := d (7 + 4)) (ho := d (7 + 5)) (we := d (7 + 6)) hl isW_7 (p := p)
  rw [setW_id d 7] at h
  refine h.mono (fun v d' e => ?_) (fun _ _ h => h.elim)
  obtain ⟨rfl, rfl⟩ := e
  obtain ⟨j, hj, ej⟩ := isP_of hp
  refine ⟨?_, fr_setW (Or.inr rfl) (Or.inr rfl) (Or.inr rfl) (Or.inr rfl) (Or.inr rfl) (Or.inr rfl) (Or.inl (by decide))⟩
  rw [if_pos hp]
  congr 2
  exact TL_has (nowW d) _ (by rw [ej, nI_clamp (by omega)]; exact hj)
theorem z_rich26 (hl : l.stackTraces = false) {a : AW} {we g co va sk : Nat → Int32} : CM l mX9_richest (n + 3) 0 [.ref 26] (setX d 26 33 a we g co va sk) (fun v d' => v = some (.int (richA a)) ∧ d' = setX d 26 33 a (TL (aF a) (aWo a) (aHo a) we) g co va sk) NX := by
  have h := v_richest (n := n) (f := aF a) (ne := aNe a) (so := aSo a) (pa := aPa a) (wo := aWo a) (ho := aHo a) (we := we) (d := setR d 33 g co va sk) hl isW_26
  rw [setWR d (by decide), setWR d (by decide), richS_eq] at h
  exact h
theorem z_isFalse7 (hl : l.stackTraces = false) {p : Int32} : CM l mX9_isFalse (n + 1) 0 [.ref 7, .int p] d (fun v d' => v = some (.int (if d 7 5 &&& (1 <<< (p &&& 31)) = 0 then 0 else 1)) ∧ d' = d) NX := by
  have h := v_isFalse (n := n) (d := d) (f := d 7) (ne := d (7 + 1)) (so := d (7 + 2)) (pa := d (7 + 3)) (wo := d (7 + 4)) (ho := d (7 + 5)) (we := d (7 + 6)) hl isW_7 (p := p)
  rw [setW_id d 7] at h
  exact h
theorem z_isCrumbled7 (hl : l.stackTraces = false) {p : Int32} : CM l mX9_isCrumbled (n + 1) 0 [.ref 7, .int p] d (fun v d' => v = some (.int (if d 7 6 &&& (1 <<< (p &&& 31)) = 0 then 0 else 1)) ∧ d' = d) NX := by
  have h := v_isCrumbled (n := n) (d := d) (f := d 7) (ne := d (7 + 1)) (so := d (7 + 2)) (pa := d (7 + 3)) (wo := d (7 + 4)) (ho := d (7 + 5)) (we := d (7 + 6)) hl isW_7 (p := p)
  rw [setW_id d 7] at h
  exact h
theorem z_allWealth26 (hl : l.stackTraces = false) : CM l mX9_allWealth (n + 2) 0 [.ref 26] d (fun v d' => v = some (.int (sumN (fun c => if isP (d 26 0) (d 31 c) then d 30 c else 0) 12)) ∧ d' = d) NX := by
  have h := v_allWealth (n := n) (d := d) (f := d 26) (ne := d (26 + 1)) (so := d (26 + 2)) (pa := d (26 + 3)) (wo := d (26 + 4)) (ho := d (26 + 5)) (we := d (26 + 6)) hl isW_26
  rw [setW_id d 26] at h
  exact h
end NeedB
