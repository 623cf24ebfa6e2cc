/-! RULES: setR; its methods -/
def isR (r : Nat) : Prop := lay[r]? = some (0, 5, [r + 1 + 2, r + 2 + 2, r + 3 + 2, 0, 0, 0, 0, 0]) ∧ lay[r + 1]? = some (1, 700, []) ∧ lay[r + 2]? = some (1, 7, []) ∧ lay[r + 3]? = some (1, 40, [])
theorem isR_33 : isR 33 := ⟨rfl, rfl, rfl, rfl⟩
theorem isR_37 : isR 37 := ⟨rfl, rfl, rfl, rfl⟩
theorem isR.rcv {r : Nat} (hr : isR r) : rcv 5 r := Or.inr ⟨_, hr.1⟩
def setR (d : DS) (r : Nat) (g co va sk : Nat → Int32) : DS := fun c => if c = r then g else if c = r + 1 then co else if c = r + 2 then va else if c = r + 3 then sk else d c
theorem setR_0 (d : DS) (r : Nat) (g co va sk : Nat → Int32) : setR d r g co va sk (r) = g := by unfold setR; rw [if_pos rfl]
theorem setR_1 (d : DS) (r : Nat) (g co va sk : Nat → Int32) : setR d r g co va sk (r + 1) = co := by unfold setR; rw [if_neg (show ¬ (r + 1 = r) by omega)]; rw [if_pos rfl]
theorem setR_2 (d : DS) (r : Nat) (g co va sk : Nat → Int32) : setR d r g co va sk (r + 2) = va := by unfold setR; rw [if_neg (show ¬ (r + 2 = r) by omega), if_neg (show ¬ (r + 2 = r + 1) by omega)]; rw [if_pos rfl]
theorem setR_3 (d : DS) (r : Nat) (g co va sk : Nat → Int32) : setR d r g co va sk (r + 3) = sk := by unfold setR; rw [if_neg (show ¬ (r + 3 = r) by omega), if_neg (show ¬ (r + 3 = r + 1) by omega), if_neg (show ¬ (r + 3 = r + 2) by omega)]; rw [if_pos rfl]
theorem setR_r0 (d : DS) (r : Nat) (g co va sk : Nat → Int32) (h : Nat → Int32) : drow (setR d r g co va sk) r h = setR d r h co va sk := by
  funext c
  by_cases hc : c = r
  · rw [hc, drow_self, setR_0]
  · rw [drow_other c hc]
    unfold setR
    simp only [hc, if_false]
theorem setR_s0 (d : DS) (r : Nat) (g co va sk : Nat → Int32) (i : Nat) (x : Int32) : dset (setR d r g co va sk) r i x = setR d r (upd g i x) co va sk := by rw [dset_eq, setR_0, setR_r0]
theorem setR_r1 (d : DS) (r : Nat) (g co va sk : Nat → Int32) (h : Nat → Int32) : drow (setR d r g co va sk) (r + 1) h = setR d r g h va sk := by
  funext c
  by_cases hc : c = r + 1
  · rw [hc, drow_self, setR_1]
  · rw [drow_other c hc]
    unfold setR
    simp only [hc, if_false]
theorem setR_s1 (d : DS) (r : Nat) (g co va sk : Nat → Int32) (i : Nat) (x : Int32) : dset (setR d r g co va sk) (r + 1) i x = setR d r g (upd co i x) va sk := by rw [dset_eq, setR_1, setR_r1]
theorem setR_r2 (d : DS) (r : Nat) (g co va sk : Nat → Int32) (h : Nat → Int32) : drow (setR d r g co va sk) (r + 2) h = setR d r g co h sk := by
  funext c
  by_cases hc : c = r + 2
  · rw [hc, drow_self, setR_2]
  · rw [drow_other c hc]
    unfold setR
    simp only [hc, if_false]
theorem setR_s2 (d : DS) (r : Nat) (g co va sk : Nat → Int32) (i : Nat) (x : Int32) : dset (setR d r g co va sk) (r + 2) i x = setR d r g co (upd va i x) sk := by rw [dset_eq, setR_2, setR_r2]
theorem setR_r3 (d : DS) (r : Nat) (g co va sk : Nat → Int32) (h : Nat → Int32) : drow (setR d r g co va sk) (r + 3) h = setR d r g co va h := by
  funext c
  by_cases hc : c = r + 3
  · rw [hc, drow_self, setR_3]
  · rw [drow_other c hc]
    unfold setR
    simp only [hc, if_false]
theorem setR_s3 (d : DS) (r : Nat) (g co va sk : Nat → Int32) (i : Nat) (x : Int32) : dset (setR d r g co va sk) (r + 3) i x = setR d r g co va (upd sk i x) := by rw [dset_eq, setR_3, setR_r3]
theorem setR_out (d : DS) (r : Nat) (g co va sk : Nat → Int32) {c : Nat} (h : c < r ∨ r + 3 < c) : setR d r g co va sk c = d c := by
  unfold setR
  rw [if_neg (by omega), if_neg (by omega), if_neg (by omega), if_neg (by omega)]
theorem setR_id (d : DS) (r : Nat) : setR d r (d r) (d (r + 1)) (d (r + 2)) (d (r + 3)) = d := by
  funext c
  unfold setR
  by_cases h0 : c = r
  · rw [if_pos h0, h0]
  · rw [if_neg h0]
    by_cases h1 : c = r + 1
    · rw [if_pos h1, h1]
    · rw [if_neg h1]
      by_cases h2 : c = r + 2
      · rw [if_pos h2, h2]
      · rw [if_neg h2]
        by_cases h3 : c = r + 3
        · rw [if_pos h3, h3]
        · rw [if_neg h3]
theorem setWR (d : DS) {w r : Nat} (h : w + 6 < r) (f ne so pa wo ho we g co va sk : Nat → Int32) : setW (setR d r g co va sk) w f ne so pa wo ho we = setR (setW d w f ne so pa wo ho we) r g co va sk := by
  funext c
  by_cases h1 : c < w ∨ w + 6 < c
  · rw [setW_out _ _ _ _ _ _ _ _ _ h1]
    unfold setR
    rw [setW_out _ _ _ _ _ _ _ _ _ h1]
  · rw [setR_out (c := c) _ _ _ _ _ _ (by omega)]
    unfold setW
    rw [setR_out (c := c) _ _ _ _ _ _ (by omega)]
def joinF (s a b : Int32) : Int32 :=
  if s = 10 then a + b else if s = 11 then a - b else if s = 12 then a * b else if s = 13 then (if b = 0 then 0 else a / b)
  else if s = 14 then (if a < b then 1 else 0) else if s = 15 then (if a = b then 1 else 0)
  else if s = 16 then (if ¬ a = 0 ∧ ¬ b = 0 then 1 else 0) else (if ¬ a = 0 ∨ ¬ b = 0 then 1 else 0)
section Rules6
variable {l : Launch} {n r : Nat} {d : DS} {g co va sk : Nat → Int32}
set_option maxRecDepth 100000 in
set_option maxHeartbeats 4000000 in
theorem r_isTold (hl : l.stackTraces = false) (hr : isR r) {b : Int32} : CM l mX6_isTold (n + 1) 0 [.ref r, .int b] (setR d r g co va sk) (fun v d' => v = some (.int (if b = 0 then (if g 6 < g 7 then 1 else 0) else (if g 4 < g 5 then 1 else 0))) ∧ d' = setR d r g co va sk) NX := by
  refine CM.tree hl BX6_isTold [] (by decide +kernel) OKX6_isTold (Nat.le_of_ble_eq_true rfl) (fun K hK hm => ?_)
  show K 0 [some (.ref r), some (.int b)] [] _ 0
  refine hK 9 _ _ _ _ _ ?_
  simp only [bX6_isTold_0, bX6_isTold_19, bX6_isTold_23, bX6_isTold_38, bX6_isTold_39, bkX6_isTold_0, bkX6_isTold_19, bkX6_isTold_23, bkX6_isTold_38, bkX6_isTold_39, hn_nil, mX6_isTold, hr.1, hr.2.1, hr.2.2.1, hr.2.2.2, hr.rcv, setR_0, setR_1, setR_2, setR_3, setR_r0, setR_r1, setR_r2, setR_r3, setR_s0, setR_s1, setR_s2, setR_s3, vcH, vcT, ↓reduceIte, List.mem_cons, List.not_mem_nil, or_false, false_or, or_self, Nat.reduceEqDiff, rok, exn, i01, i10, vcB, vcI, pI, pII, pLL, pR, pIR, pIIR, lI, lR, lL, aK, fK, ilen, lok, cnd, slv_ref, slv_int, List.getElem?_cons_zero, List.getElem?_cons_succ, List.set_cons_zero, List.set_cons_succ, List.cons_append, List.nil_append, List.take_succ_cons, List.take_zero, List.drop_succ_cons, List.drop_zero, List.reverse_cons, List.reverse_nil, Option.toList_some, Option.toList_none, List.length_cons, List.length_nil, catL, List.map_cons, List.map_nil, List.sum_cons, List.sum_nil, Value.category, Nat.reduceAdd, Nat.reduceLT, Nat.reduceLeDiff, Nat.reduceEqDiff, Fin.isValue, tgt, Int.cast_ofNat_Int, Int.reduceAdd, Int.reduceNeg, Int.reduceToNat, Int.zero_add, f4_0, f4_1, f4_2, f4_3, true_and, and_true, Classical.not_not, implies_true, true_implies, false_implies, not_false_eq_true, not_true_eq_false, and_self, true_or, or_true, beq_self_eq_true, ic_m8, ic_m1, ic_0, ic_1, ic_2, ic_3, ic_4, ic_5, ic_8, ic_16, bp_m28, bp_m27, bp_m26, bp_m25, bp_m24, bp_m23, bp_m22, bp_m21, bp_m20, bp_m2, bp_6, bp_7, bp_8, bp_9, bp_10, bp_11, bp_12, bp_13, bp_14, bp_15, bp_16, bp_17, bp_18, bp_20, bp_21, bp_22, bp_23, bp_24, bp_30, bp_32, bp_39, bp_40, bp_41, bp_42, bp_43, bp_44, bp_45, bp_47, bp_48, bp_57, bp_59, bp_60, bp_61, bp_63, bp_64, bp_97, bp_99, bp_100, bp_122, sp_255, sp_256, sp_700, sp_936, sp_960, sp_999, sp_4096, sp_9999, sp_10000, sp_12345, sp_32767]
  refine ⟨fun h => ⟨fun h2 => ?_, fun h2 => ?_⟩, fun h => ⟨fun h2 => ?_, fun h2 => ?_⟩⟩
  · rw [if_pos h, if_neg (Int32.not_lt.mpr h2)]
  · rw [if_pos h, if_pos (Int32.not_le.mp h2)]
  · rw [if_neg h, if_neg (Int32.not_lt.mpr h2)]
  · rw [if_neg h, if_pos (Int32.not_le.mp h2)]
set_option maxRecDepth 100000 in
set_option maxHeartbeats 4000000 in
theorem r_clear (hl : l.stackTraces = false) (hr : isR r) : CM l mX6_clear (n + 1) 0 [.ref r] (setR d r g co va sk) (fun v d' => v = none ∧ d' = setR d r (upd (upd (upd (upd (upd g 3 0) 4 0) 5 0) 6 0) 7 0) co va sk) NX := by
  refine CM.tree hl BX6_clear [] (by decide +kernel) OKX6_clear (Nat.le_of_ble_eq_true rfl) (fun K hK hm => ?_)
  show K 0 [some (.ref r)] [] _ 0
  refine hK 9 _ _ _ _ _ ?_
  simp only [bX6_clear_0, bkX6_clear_0, hn_nil, mX6_clear, hr.1, hr.2.1, hr.2.2.1, hr.2.2.2, hr.rcv, setR_0, setR_1, setR_2, setR_3, setR_r0, setR_r1, setR_r2, setR_r3, setR_s0, setR_s1, setR_s2, setR_s3, vcH, vcT, ↓reduceIte, List.mem_cons, List.not_mem_nil, or_false, false_or, or_self, Nat.reduceEqDiff, rok, exn, i01, i10, vcB, vcI, pI, pII, pLL, pR, pIR, pIIR, lI, lR, lL, aK, fK, ilen, lok, cnd, slv_ref, slv_int, List.getElem?_cons_zero, List.getElem?_cons_succ, List.set_cons_zero, List.set_cons_succ, List.cons_append, List.nil_append, List.take_succ_cons, List.take_zero, List.drop_succ_cons, List.drop_zero, List.reverse_cons, List.reverse_nil, Option.toList_some, Option.toList_none, List.length_cons, List.length_nil, catL, List.map_cons, List.map_nil, List.sum_cons, List.sum_nil, Value.category, Nat.reduceAdd, Nat.reduceLT, Nat.reduceLeDiff, Nat.reduceEqDiff, Fin.isValue, tgt, Int.cast_ofNat_Int, Int.reduceAdd, Int.reduceNeg, Int.reduceToNat, Int.zero_add, f4_0, f4_1, f4_2, f4_3, true_and, and_true, Classical.not_not, implies_true, true_implies, false_implies, not_false_eq_true, not_true_eq_false, and_self, true_or, or_true, beq_self_eq_true, ic_m8, ic_m1, ic_0, ic_1, ic_2, ic_3, ic_4, ic_5, ic_8, ic_16, bp_m28, bp_m27, bp_m26, bp_m25, bp_m24, bp_m23, bp_m22, bp_m21, bp_m20, bp_m2, bp_6, bp_7, bp_8, bp_9, bp_10, bp_11, bp_12, bp_13, bp_14, bp_15, bp_16, bp_17, bp_18, bp_20, bp_21, bp_22, bp_23, bp_24, bp_30, bp_32, bp_39, bp_40, bp_41, bp_42, bp_43, bp_44, bp_45, bp_47, bp_48, bp_57, bp_59, bp_60, bp_61, bp_63, bp_64, bp_97, bp_99, bp_100, bp_122, sp_255, sp_256, sp_700, sp_936, sp_960, sp_999, sp_4096, sp_9999, sp_10000, sp_12345, sp_32767]
set_option maxRecDepth 100000 in
set_option maxHeartbeats 4000000 in
theorem r_begin (hl : l.stackTraces = false) (hr : isR r) {b : Int32} : CM l mX6_begin (n + 1) 0 [.ref r, .int b] (setR d r g co va sk) (fun v d' => v = none ∧ d' = setR d r (if b = 0 then upd g 6 (g 3) else upd g 4 (g 3)) co va sk) NX := by
  refine CM.tree hl BX6_begin [] (by decide +kernel) OKX6_begin (Nat.le_of_ble_eq_true rfl) (fun K hK hm => ?_)
  show K 0 [some (.ref r), some (.int b)] [] _ 0
  refine hK 9 _ _ _ _ _ ?_
  simp only [bX6_begin_0, bX6_begin_15, bX6_begin_23, bkX6_begin_0, bkX6_begin_15, bkX6_begin_23, hn_nil, mX6_begin, hr.1, hr.2.1, hr.2.2.1, hr.2.2.2, hr.rcv, setR_0, setR_1, setR_2, setR_3, setR_r0, setR_r1, setR_r2, setR_r3, setR_s0, setR_s1, setR_s2, setR_s3, vcH, vcT, ↓reduceIte, List.mem_cons, List.not_mem_nil, or_false, false_or, or_self, Nat.reduceEqDiff, rok, exn, i01, i10, vcB, vcI, pI, pII, pLL, pR, pIR, pIIR, lI, lR, lL, aK, fK, ilen, lok, cnd, slv_ref, slv_int, List.getElem?_cons_zero, List.getElem?_cons_succ, List.set_cons_zero, List.set_cons_succ, List.cons_append, List.nil_append, List.take_succ_cons, List.take_zero, List.drop_succ_cons, List.drop_zero, List.reverse_cons, List.reverse_nil, Option.toList_some, Option.toList_none, List.length_cons, List.length_nil, catL, List.map_cons, List.map_nil, List.sum_cons, List.sum_nil, Value.category, Nat.reduceAdd, Nat.reduceLT, Nat.reduceLeDiff, Nat.reduceEqDiff, Fin.isValue, tgt, Int.cast_ofNat_Int, Int.reduceAdd, Int.reduceNeg, Int.reduceToNat, Int.zero_add, f4_0, f4_1, f4_2, f4_3, true_and, and_true, Classical.not_not, implies_true, true_implies, false_implies, not_false_eq_true, not_true_eq_false, and_self, true_or, or_true, beq_self_eq_true, ic_m8, ic_m1, ic_0, ic_1, ic_2, ic_3, ic_4, ic_5, ic_8, ic_16, bp_m28, bp_m27, bp_m26, bp_m25, bp_m24, bp_m23, bp_m22, bp_m21, bp_m20, bp_m2, bp_6, bp_7, bp_8, bp_9, bp_10, bp_11, bp_12, bp_13, bp_14, bp_15, bp_16, bp_17, bp_18, bp_20, bp_21, bp_22, bp_23, bp_24, bp_30, bp_32, bp_39, bp_40, bp_41, bp_42, bp_43, bp_44, bp_45, bp_47, bp_48, bp_57, bp_59, bp_60, bp_61, bp_63, bp_64, bp_97, bp_99, bp_100, bp_122, sp_255, sp_256, sp_700, sp_936, sp_960, sp_999, sp_4096, sp_9999, sp_10000, sp_12345, sp_32767]
  exact ⟨fun h => by rw [if_pos h], fun h => by rw [if_neg h]⟩
set_option maxRecDepth 100000 in
set_option maxHeartbeats 4000000 in
theorem r_end (hl : l.stackTraces = false) (hr : isR r) {b : Int32} : CM l mX6_end (n + 1) 0 [.ref r, .int b] (setR d r g co va sk) (fun v d' => v = none ∧ d' = setR d r (if b = 0 then upd g 7 (g 3) else upd g 5 (g 3)) co va sk) NX := by
  refine CM.tree hl BX6_end [] (by decide +kernel) OKX6_end (Nat.le_of_ble_eq_true rfl) (fun K hK hm => ?_)
  show K 0 [some (.ref r), some (.int b)] [] _ 0
  refine hK 9 _ _ _ _ _ ?_
  simp only [bX6_end_0, bX6_end_15, bX6_end_23, bkX6_end_0, bkX6_end_15, bkX6_end_23, hn_nil, mX6_end, hr.1, hr.2.1, hr.2.2.1, hr.2.2.2, hr.rcv, setR_0, setR_1, setR_2, setR_3, setR_r0, setR_r1, setR_r2, setR_r3, setR_s0, setR_s1, setR_s2, setR_s3, vcH, vcT, ↓reduceIte, List.mem_cons, List.not_mem_nil, or_false, false_or, or_self, Nat.reduceEqDiff, rok, exn, i01, i10, vcB, vcI, pI, pII, pLL, pR, pIR, pIIR, lI, lR, lL, aK, fK, ilen, lok, cnd, slv_ref, slv_int, List.getElem?_cons_zero, List.getElem?_cons_succ, List.set_cons_zero, List.set_cons_succ, List.cons_append, List.nil_append, List.take_succ_cons, List.take_zero, List.drop_succ_cons, List.drop_zero, List.reverse_cons, List.reverse_nil, Option.toList_some, Option.toList_none, List.length_cons, List.length_nil, catL, List.map_cons, List.map_nil, List.sum_cons, List.sum_nil, Value.category, Nat.reduceAdd, Nat.reduceLT, Nat.reduceLeDiff, Nat.reduceEqDiff, Fin.isValue, tgt, Int.cast_ofNat_Int, Int.reduceAdd, Int.reduceNeg, Int.reduceToNat, Int.zero_add, f4_0, f4_1, f4_2, f4_3, true_and, and_true, Classical.not_not, implies_true, true_implies, false_implies, not_false_eq_true, not_true_eq_false, and_self, true_or, or_true, beq_self_eq_true, ic_m8, ic_m1, ic_0, ic_1, ic_2, ic_3, ic_4, ic_5, ic_8, ic_16, bp_m28, bp_m27, bp_m26, bp_m25, bp_m24, bp_m23, bp_m22, bp_m21, bp_m20, bp_m2, bp_6, bp_7, bp_8, bp_9, bp_10, bp_11, bp_12, bp_13, bp_14, bp_15, bp_16, bp_17, bp_18, bp_20, bp_21, bp_22, bp_23, bp_24, bp_30, bp_32, bp_39, bp_40, bp_41, bp_42, bp_43, bp_44, bp_45, bp_47, bp_48, bp_57, bp_59, bp_60, bp_61, bp_63, bp_64, bp_97, bp_99, bp_100, bp_122, sp_255, sp_256, sp_700, sp_936, sp_960, sp_999, sp_4096, sp_9999, sp_10000, sp_12345, sp_32767]
  exact ⟨fun h => by rw [if_pos h], fun h => by rw [if_neg h]⟩
set_option maxRecDepth 100000 in
set_option maxHeartbeats 4000000 in
theorem r_add (hl : l.stackTraces = false) (hr : isR r) {u : Nat} {x : Int32} (hu : u < 700) (hg : g 3 = nI u) : CM l mX6_add (n + 1) 0 [.ref r, .int x] (setR d r g co va sk) (fun v d' => v = none ∧ d' = setR d r (upd g 3 (nI (u + 1))) (upd co u x) va sk) NX := by
  refine CM.tree hl BX6_add [] (by decide +kernel) OKX6_add (Nat.le_of_ble_eq_true rfl) (fun K hK hm => ?_)
  show K 0 [some (.ref r), some (.int x)] [] _ 0
  refine hK 9 _ _ _ _ _ ?_
  have e1 : (nI u).toNatClampNeg = u := nI_clamp (by omega)
  have e3 : vp_in (nI u) 700 := vp_in_nI hu (by decide)
  have e4 : ¬ nI 700 ≤ nI u := nI_ge hu (by decide)
  simp only [bX6_add_0, bX6_add_32, bkX6_add_0, bkX6_add_32, hn_nil, mX6_add, hr.1, hr.2.1, hr.2.2.1, hr.2.2.2, hr.rcv, setR_0, setR_1, setR_2, setR_3, setR_r0, setR_r1, setR_r2, setR_r3, setR_s0, setR_s1, setR_s2, setR_s3, hg, e1, e3, e4, nI_1, vcH, vcT, ↓reduceIte, List.mem_cons, List.not_mem_nil, or_false, false_or, or_self, Nat.reduceEqDiff, rok, exn, i01, i10, vcB, vcI, pI, pII, pLL, pR, pIR, pIIR, lI, lR, lL, aK, fK, ilen, lok, cnd, slv_ref, slv_int, List.getElem?_cons_zero, List.getElem?_cons_succ, List.set_cons_zero, List.set_cons_succ, List.cons_append, List.nil_append, List.take_succ_cons, List.take_zero, List.drop_succ_cons, List.drop_zero, List.reverse_cons, List.reverse_nil, Option.toList_some, Option.toList_none, List.length_cons, List.length_nil, catL, List.map_cons, List.map_nil, List.sum_cons, List.sum_nil, Value.category, Nat.reduceAdd, Nat.reduceLT, Nat.reduceLeDiff, Nat.reduceEqDiff, Fin.isValue, tgt, Int.cast_ofNat_Int, Int.reduceAdd, Int.reduceNeg, Int.reduceToNat, Int.zero_add, f4_0, f4_1, f4_2, f4_3, true_and, and_true, Classical.not_not, implies_true, true_implies, false_implies, not_false_eq_true, not_true_eq_false, and_self, true_or, or_true, beq_self_eq_true, ic_m8, ic_m1, ic_0, ic_1, ic_2, ic_3, ic_4, ic_5, ic_8, ic_16, bp_m28, bp_m27, bp_m26, bp_m25, bp_m24, bp_m23, bp_m22, bp_m21, bp_m20, bp_m2, bp_6, bp_7, bp_8, bp_9, bp_10, bp_11, bp_12, bp_13, bp_14, bp_15, bp_16, bp_17, bp_18, bp_20, bp_21, bp_22, bp_23, bp_24, bp_30, bp_32, bp_39, bp_40, bp_41, bp_42, bp_43, bp_44, bp_45, bp_47, bp_48, bp_57, bp_59, bp_60, bp_61, bp_63, bp_64, bp_97, bp_99, bp_100, bp_122, sp_255, sp_256, sp_700, sp_936, sp_960, sp_999, sp_4096, sp_9999, sp_10000, sp_12345, sp_32767]
set_option maxRecDepth 100000 in
set_option maxHeartbeats 4000000 in
theorem r_join (hl : l.stackTraces = false) {s a b : Int32} : CM l mX6_join (n + 1) 0 [.int s, .int a, .int b] d (fun v d' => v = some (.int (joinF s a b)) ∧ d' = d) NX := by
  refine CM.tree hl BX6_join [] (by decide +kernel) OKX6_join (Nat.le_of_ble_eq_true rfl) (fun K hK hm => ?_)
  show K 0 [some (.int s), some (.int a), some (.int b)] [] _ 0
  refine hK 9 _ _ _ _ _ ?_
  simp only [bX6_join_0, bX6_join_44, bX6_join_48, bX6_join_52, bX6_join_56, bX6_join_64, bX6_join_67, bX6_join_68, bX6_join_77, bX6_join_78, bX6_join_79, bX6_join_88, bX6_join_89, bX6_join_90, bX6_join_102, bX6_join_103, bX6_join_104, bX6_join_112, bX6_join_116, bX6_join_117, bkX6_join_0, bkX6_join_44, bkX6_join_48, bkX6_join_52, bkX6_join_56, bkX6_join_64, bkX6_join_67, bkX6_join_68, bkX6_join_77, bkX6_join_78, bkX6_join_79, bkX6_join_88, bkX6_join_89, bkX6_join_90, bkX6_join_102, bkX6_join_103, bkX6_join_104, bkX6_join_112, bkX6_join_116, bkX6_join_117, hn_nil, mX6_join, vcH, vcT, ↓reduceIte, List.mem_cons, List.not_mem_nil, or_false, false_or, or_self, Nat.reduceEqDiff, rok, exn, i01, i10, vcB, vcI, pI, pII, pLL, pR, pIR, pIIR, lI, lR, lL, aK, fK, ilen, lok, cnd, slv_ref, slv_int, List.getElem?_cons_zero, List.getElem?_cons_succ, List.set_cons_zero, List.set_cons_succ, List.cons_append, List.nil_append, List.take_succ_cons, List.take_zero, List.drop_succ_cons, List.drop_zero, List.reverse_cons, List.reverse_nil, Option.toList_some, Option.toList_none, List.length_cons, List.length_nil, catL, List.map_cons, List.map_nil, List.sum_cons, List.sum_nil, Value.category, Nat.reduceAdd, Nat.reduceLT, Nat.reduceLeDiff, Nat.reduceEqDiff, Fin.isValue, tgt, Int.cast_ofNat_Int, Int.reduceAdd, Int.reduceNeg, Int.reduceToNat, Int.zero_add, f4_0, f4_1, f4_2, f4_3, true_and, and_true, Classical.not_not, implies_true, true_implies, false_implies, not_false_eq_true, not_true_eq_false, and_self, true_or, or_true, beq_self_eq_true, ic_m8, ic_m1, ic_0, ic_1, ic_2, ic_3, ic_4, ic_5, ic_8, ic_16, bp_m28, bp_m27, bp_m26, bp_m25, bp_m24, bp_m23, bp_m22, bp_m21, bp_m20, bp_m2, bp_6, bp_7, bp_8, bp_9, bp_10, bp_11, bp_12, bp_13, bp_14, bp_15, bp_16, bp_17, bp_18, bp_20, bp_21, bp_22, bp_23, bp_24, bp_30, bp_32, bp_39, bp_40, bp_41, bp_42, bp_43, bp_44, bp_45, bp_47, bp_48, bp_57, bp_59, bp_60, bp_61, bp_63, bp_64, bp_97, bp_99, bp_100, bp_122, sp_255, sp_256, sp_700, sp_936, sp_960, sp_999, sp_4096, sp_9999, sp_10000, sp_12345, sp_32767]
  trace_state
  sorry
end Rules6

