/-! HELP: sums, bits, counts; USE of a contract -/
def NX : String → DS → Prop := fun _ _ => False
theorem CM.use {l : Launch} {me : ME} {n k : Nat} {as : List Value} {d : DS} {v0 : Option Value} {d0 : DS} {Q : Option Value → DS → Prop} {X : String → DS → Prop} (h : CM l me n k as d (fun v d' => v = v0 ∧ d' = d0) NX) (hq : Q v0 d0) : CM l me n k as d Q X :=
  h.mono (fun v d' e => by obtain ⟨rfl, rfl⟩ := e; exact hq) (fun _ _ h => h.elim)
theorem dset_eq (d : DS) (a i : Nat) (x : Int32) : dset d a i x = drow d a (upd (d a) i x) := rfl
theorem drow_drow (d : DS) (a : Nat) (f h : Nat → Int32) : drow (drow d a f) a h = drow d a h := by
  funext c
  by_cases hc : c = a
  · rw [hc, drow_self, drow_self]
  · rw [drow_other c hc, drow_other c hc, drow_other c hc]
theorem drow_id (d : DS) (a : Nat) : drow d a (d a) = d := by
  funext c
  by_cases hc : c = a
  · rw [hc, drow_self]
  · rw [drow_other c hc]
theorem upd_same (f : Nat → Int32) (k : Nat) (x : Int32) : upd f k x k = x := by simp [upd]
theorem upd_other (f : Nat → Int32) {k j : Nat} (x : Int32) (h : j ≠ k) : upd f k x j = f j := by simp [upd, h]
def sumN (f : Nat → Int32) : Nat → Int32
  | 0 => 0
  | n + 1 => sumN f n + f n
def orN (f : Nat → Int32) : Nat → Int32
  | 0 => 0
  | n + 1 => orN f n ||| f n
def bit (k : Nat) : Int32 := (1 : Int32) <<< (nI k &&& 31)
theorem le_nI {c : Int32} {j : Nat} (hj : j < 2 ^ 31) : c ≤ nI j ↔ c.toNatClampNeg ≤ j := by
  rw [Int32.le_iff_toInt_le, nI_toInt hj]
  show _ ↔ c.toInt.toNat ≤ j
  omega
theorem nI_lit (n : Nat) : (OfNat.ofNat n : Int32) = nI n := rfl
theorem isW.rcv {w : Nat} (hw : isW w) : rcv 8 w := Or.inr ⟨_, hw.1⟩
theorem isP_in {n p : Int32} (h : isP n p) : vp_in p 8 := by
  obtain ⟨h1, -, h2⟩ := h
  rw [vp_in_iff]
  rw [Int32.le_iff_toInt_le] at h1
  rw [Int32.lt_iff_toInt_lt] at h2
  exact ⟨h1, h2⟩
theorem isC_in {n p : Int32} (h : isC n p) : vp_in p 12 := by
  obtain ⟨h1, -, h2⟩ := h
  rw [vp_in_iff]
  rw [Int32.le_iff_toInt_le] at h1
  rw [Int32.lt_iff_toInt_lt] at h2
  exact ⟨h1, h2⟩
set_option maxRecDepth 100000 in
set_option maxHeartbeats 4000000 in
theorem w_isPerson {l : Launch} {n w : Nat} {p : Int32} {d : DS} (hl : l.stackTraces = false) (hw : isW w) : CM l mX9_isPerson (n + 1) 0 [.ref w, .int p] d (fun v d' => v = some (.int (if isP (d w 0) p then 1 else 0)) ∧ d' = d) NX := by
  refine CM.tree hl BX9_isPerson [] (by decide +kernel) OKX9_isPerson (Nat.le_of_ble_eq_true rfl) (fun K hK hm => ?_)
  show K 0 [some (.ref w), some (.int p)] [] d 0
  refine hK 9 _ _ _ _ _ ?_
  simp only [bX9_isPerson_0, bX9_isPerson_22, bX9_isPerson_23, bkX9_isPerson_0, bkX9_isPerson_22, bkX9_isPerson_23, hn_nil, mX9_isPerson, hw.1, vcH, vcT, ↓reduceIte, List.mem_cons, List.not_mem_nil, or_false, false_or, or_self, Nat.reduceEqDiff, rok, exn, i01, i10, vcB, vcI, pI, pII, pLL, pR, pIR, pIIR, lI, lR, lL, aK, fK, ilen, lok, cnd, slv_ref, slv_int, List.getElem?_cons_zero, List.getElem?_cons_succ, List.set_cons_zero, List.set_cons_succ, List.cons_append, List.nil_append, List.take_succ_cons, List.take_zero, List.drop_succ_cons, List.drop_zero, List.reverse_cons, List.reverse_nil, Option.toList_some, Option.toList_none, List.length_cons, List.length_nil, catL, List.map_cons, List.map_nil, List.sum_cons, List.sum_nil, Value.category, Nat.reduceAdd, Nat.reduceLT, Nat.reduceLeDiff, Nat.reduceEqDiff, Fin.isValue, tgt, Int.cast_ofNat_Int, Int.reduceAdd, Int.reduceNeg, Int.reduceToNat, Int.zero_add, f4_0, f4_1, f4_2, f4_3, true_and, and_true, Classical.not_not, implies_true, true_implies, false_implies, not_false_eq_true, not_true_eq_false, and_self, true_or, or_true, beq_self_eq_true, ic_m8, ic_m1, ic_0, ic_1, ic_2, ic_3, ic_4, ic_5, ic_8, ic_16, bp_m28, bp_m27, bp_m26, bp_m25, bp_m24, bp_m23, bp_m22, bp_m21, bp_m20, bp_m2, bp_6, bp_7, bp_8, bp_9, bp_10, bp_11, bp_12, bp_13, bp_14, bp_15, bp_16, bp_17, bp_18, bp_20, bp_21, bp_22, bp_23, bp_24, bp_30, bp_32, bp_39, bp_40, bp_41, bp_42, bp_43, bp_44, bp_45, bp_47, bp_48, bp_57, bp_59, bp_60, bp_61, bp_63, bp_64, bp_97, bp_99, bp_100, bp_122, sp_255, sp_256, sp_700, sp_936, sp_960, sp_999, sp_4096, sp_9999, sp_10000, sp_12345, sp_32767]
  refine ⟨fun h => ?_, fun h => ⟨fun h1 => ?_, fun h1 => ⟨fun h2 => ?_, fun h2 => ?_⟩⟩⟩
  · rw [if_neg (fun q => absurd h (Int32.not_lt.mpr q.1))]
  · rw [if_neg (fun q => absurd q.2.1 (Int32.not_lt.mpr h1))]
  · rw [if_neg (fun q => absurd q.2.2 (Int32.not_lt.mpr h2))]
  · rw [if_pos ⟨Int32.not_lt.mp h, Int32.not_le.mp h1, Int32.not_le.mp h2⟩]
set_option maxRecDepth 100000 in
set_option maxHeartbeats 4000000 in
theorem w_isCoin {l : Launch} {n w : Nat} {p : Int32} {d : DS} (hl : l.stackTraces = false) (hw : isW w) : CM l mX9_isCoin (n + 1) 0 [.ref w, .int p] d (fun v d' => v = some (.int (if isC (d w 1) p then 1 else 0)) ∧ d' = d) NX := by
  refine CM.tree hl BX9_isCoin [] (by decide +kernel) OKX9_isCoin (Nat.le_of_ble_eq_true rfl) (fun K hK hm => ?_)
  show K 0 [some (.ref w), some (.int p)] [] d 0
  refine hK 9 _ _ _ _ _ ?_
  simp only [bX9_isCoin_0, bX9_isCoin_22, bX9_isCoin_23, bkX9_isCoin_0, bkX9_isCoin_22, bkX9_isCoin_23, hn_nil, mX9_isCoin, hw.1, vcH, vcT, ↓reduceIte, List.mem_cons, List.not_mem_nil, or_false, false_or, or_self, Nat.reduceEqDiff, rok, exn, i01, i10, vcB, vcI, pI, pII, pLL, pR, pIR, pIIR, lI, lR, lL, aK, fK, ilen, lok, cnd, slv_ref, slv_int, List.getElem?_cons_zero, List.getElem?_cons_succ, List.set_cons_zero, List.set_cons_succ, List.cons_append, List.nil_append, List.take_succ_cons, List.take_zero, List.drop_succ_cons, List.drop_zero, List.reverse_cons, List.reverse_nil, Option.toList_some, Option.toList_none, List.length_cons, List.length_nil, catL, List.map_cons, List.map_nil, List.sum_cons, List.sum_nil, Value.category, Nat.reduceAdd, Nat.reduceLT, Nat.reduceLeDiff, Nat.reduceEqDiff, Fin.isValue, tgt, Int.cast_ofNat_Int, Int.reduceAdd, Int.reduceNeg, Int.reduceToNat, Int.zero_add, f4_0, f4_1, f4_2, f4_3, true_and, and_true, Classical.not_not, implies_true, true_implies, false_implies, not_false_eq_true, not_true_eq_false, and_self, true_or, or_true, beq_self_eq_true, ic_m8, ic_m1, ic_0, ic_1, ic_2, ic_3, ic_4, ic_5, ic_8, ic_16, bp_m28, bp_m27, bp_m26, bp_m25, bp_m24, bp_m23, bp_m22, bp_m21, bp_m20, bp_m2, bp_6, bp_7, bp_8, bp_9, bp_10, bp_11, bp_12, bp_13, bp_14, bp_15, bp_16, bp_17, bp_18, bp_20, bp_21, bp_22, bp_23, bp_24, bp_30, bp_32, bp_39, bp_40, bp_41, bp_42, bp_43, bp_44, bp_45, bp_47, bp_48, bp_57, bp_59, bp_60, bp_61, bp_63, bp_64, bp_97, bp_99, bp_100, bp_122, sp_255, sp_256, sp_700, sp_936, sp_960, sp_999, sp_4096, sp_9999, sp_10000, sp_12345, sp_32767]
  refine ⟨fun h => ?_, fun h => ⟨fun h1 => ?_, fun h1 => ⟨fun h2 => ?_, fun h2 => ?_⟩⟩⟩
  · rw [if_neg (fun q => absurd h (Int32.not_lt.mpr q.1))]
  · rw [if_neg (fun q => absurd q.2.1 (Int32.not_lt.mpr h1))]
  · rw [if_neg (fun q => absurd q.2.2 (Int32.not_lt.mpr h2))]
  · rw [if_pos ⟨Int32.not_lt.mp h, Int32.not_le.mp h1, Int32.not_le.mp h2⟩]
set_option maxRecDepth 100000 in
set_option maxHeartbeats 4000000 in
theorem w_isBeggar {l : Launch} {n w : Nat} {p : Int32} {d : DS} (hl : l.stackTraces = false) (hw : isW w) : CM l mX9_isBeggar (n + 1) 0 [.ref w, .int p] d (fun v d' => v = some (.int (if d w 4 &&& (1 <<< (p &&& 31)) = 0 then 0 else 1)) ∧ d' = d) NX := by
  refine CM.tree hl BX9_isBeggar [] (by decide +kernel) OKX9_isBeggar (Nat.le_of_ble_eq_true rfl) (fun K hK hm => ?_)
  show K 0 [some (.ref w), some (.int p)] [] d 0
  refine hK 9 _ _ _ _ _ ?_
  simp only [bX9_isBeggar_0, bX9_isBeggar_15, bX9_isBeggar_16, bkX9_isBeggar_0, bkX9_isBeggar_15, bkX9_isBeggar_16, hn_nil, mX9_isBeggar, hw.1, vcH, vcT, ↓reduceIte, List.mem_cons, List.not_mem_nil, or_false, false_or, or_self, Nat.reduceEqDiff, rok, exn, i01, i10, vcB, vcI, pI, pII, pLL, pR, pIR, pIIR, lI, lR, lL, aK, fK, ilen, lok, cnd, slv_ref, slv_int, List.getElem?_cons_zero, List.getElem?_cons_succ, List.set_cons_zero, List.set_cons_succ, List.cons_append, List.nil_append, List.take_succ_cons, List.take_zero, List.drop_succ_cons, List.drop_zero, List.reverse_cons, List.reverse_nil, Option.toList_some, Option.toList_none, List.length_cons, List.length_nil, catL, List.map_cons, List.map_nil, List.sum_cons, List.sum_nil, Value.category, Nat.reduceAdd, Nat.reduceLT, Nat.reduceLeDiff, Nat.reduceEqDiff, Fin.isValue, tgt, Int.cast_ofNat_Int, Int.reduceAdd, Int.reduceNeg, Int.reduceToNat, Int.zero_add, f4_0, f4_1, f4_2, f4_3, true_and, and_true, Classical.not_not, implies_true, true_implies, false_implies, not_false_eq_true, not_true_eq_false, and_self, true_or, or_true, beq_self_eq_true, ic_m8, ic_m1, ic_0, ic_1, ic_2, ic_3, ic_4, ic_5, ic_8, ic_16, bp_m28, bp_m27, bp_m26, bp_m25, bp_m24, bp_m23, bp_m22, bp_m21, bp_m20, bp_m2, bp_6, bp_7, bp_8, bp_9, bp_10, bp_11, bp_12, bp_13, bp_14, bp_15, bp_16, bp_17, bp_18, bp_20, bp_21, bp_22, bp_23, bp_24, bp_30, bp_32, bp_39, bp_40, bp_41, bp_42, bp_43, bp_44, bp_45, bp_47, bp_48, bp_57, bp_59, bp_60, bp_61, bp_63, bp_64, bp_97, bp_99, bp_100, bp_122, sp_255, sp_256, sp_700, sp_936, sp_960, sp_999, sp_4096, sp_9999, sp_10000, sp_12345, sp_32767]
  exact ⟨fun h => by rw [if_pos h], fun h => by rw [if_neg h]⟩
set_option maxRecDepth 100000 in
set_option maxHeartbeats 4000000 in
theorem w_payeeOf {l : Launch} {n w : Nat} {p : Int32} {d : DS} (hl : l.stackTraces = false) (hw : isW w) : CM l mX9_payeeOf (n + 2) 0 [.ref w, .int p] d (fun v d' => v = some (.int (if isP (d w 0) p then d (w + 3) p.toNatClampNeg else -1)) ∧ d' = d) NX := by
  refine CM.tree hl BX9_payeeOf [] (by decide +kernel) OKX9_payeeOf (Nat.le_of_ble_eq_true rfl) (fun K hK hm => ?_)
  show K 0 [some (.ref w), some (.int p)] [] d 0
  refine hK 9 _ _ _ _ _ ?_
  simp only [bX9_payeeOf_0, bX9_payeeOf_17, bX9_payeeOf_18, bkX9_payeeOf_0, bkX9_payeeOf_17, bkX9_payeeOf_18, hn_nil, mX9_payeeOf, hw.1, hw.rcv, vcH, vcT, ↓reduceIte, List.mem_cons, List.not_mem_nil, or_false, false_or, or_self, Nat.reduceEqDiff, rok, exn, i01, i10, vcB, vcI, pI, pII, pLL, pR, pIR, pIIR, lI, lR, lL, aK, fK, ilen, lok, cnd, slv_ref, slv_int, List.getElem?_cons_zero, List.getElem?_cons_succ, List.set_cons_zero, List.set_cons_succ, List.cons_append, List.nil_append, List.take_succ_cons, List.take_zero, List.drop_succ_cons, List.drop_zero, List.reverse_cons, List.reverse_nil, Option.toList_some, Option.toList_none, List.length_cons, List.length_nil, catL, List.map_cons, List.map_nil, List.sum_cons, List.sum_nil, Value.category, Nat.reduceAdd, Nat.reduceLT, Nat.reduceLeDiff, Nat.reduceEqDiff, Fin.isValue, tgt, Int.cast_ofNat_Int, Int.reduceAdd, Int.reduceNeg, Int.reduceToNat, Int.zero_add, f4_0, f4_1, f4_2, f4_3, true_and, and_true, Classical.not_not, implies_true, true_implies, false_implies, not_false_eq_true, not_true_eq_false, and_self, true_or, or_true, beq_self_eq_true, ic_m8, ic_m1, ic_0, ic_1, ic_2, ic_3, ic_4, ic_5, ic_8, ic_16, bp_m28, bp_m27, bp_m26, bp_m25, bp_m24, bp_m23, bp_m22, bp_m21, bp_m20, bp_m2, bp_6, bp_7, bp_8, bp_9, bp_10, bp_11, bp_12, bp_13, bp_14, bp_15, bp_16, bp_17, bp_18, bp_20, bp_21, bp_22, bp_23, bp_24, bp_30, bp_32, bp_39, bp_40, bp_41, bp_42, bp_43, bp_44, bp_45, bp_47, bp_48, bp_57, bp_59, bp_60, bp_61, bp_63, bp_64, bp_97, bp_99, bp_100, bp_122, sp_255, sp_256, sp_700, sp_936, sp_960, sp_999, sp_4096, sp_9999, sp_10000, sp_12345, sp_32767]
  refine CM.use (w_isPerson hl hw) ?_
  simp only [bX9_payeeOf_0, bX9_payeeOf_17, bX9_payeeOf_18, bkX9_payeeOf_0, bkX9_payeeOf_17, bkX9_payeeOf_18, hn_nil, mX9_payeeOf, hw.1, hw.2.2.2.1, vcH, vcT, ↓reduceIte, List.mem_cons, List.not_mem_nil, or_false, false_or, or_self, Nat.reduceEqDiff, rok, exn, i01, i10, vcB, vcI, pI, pII, pLL, pR, pIR, pIIR, lI, lR, lL, aK, fK, ilen, lok, cnd, slv_ref, slv_int, List.getElem?_cons_zero, List.getElem?_cons_succ, List.set_cons_zero, List.set_cons_succ, List.cons_append, List.nil_append, List.take_succ_cons, List.take_zero, List.drop_succ_cons, List.drop_zero, List.reverse_cons, List.reverse_nil, Option.toList_some, Option.toList_none, List.length_cons, List.length_nil, catL, List.map_cons, List.map_nil, List.sum_cons, List.sum_nil, Value.category, Nat.reduceAdd, Nat.reduceLT, Nat.reduceLeDiff, Nat.reduceEqDiff, Fin.isValue, tgt, Int.cast_ofNat_Int, Int.reduceAdd, Int.reduceNeg, Int.reduceToNat, Int.zero_add, f4_0, f4_1, f4_2, f4_3, true_and, and_true, Classical.not_not, implies_true, true_implies, false_implies, not_false_eq_true, not_true_eq_false, and_self, true_or, or_true, beq_self_eq_true, ic_m8, ic_m1, ic_0, ic_1, ic_2, ic_3, ic_4, ic_5, ic_8, ic_16, bp_m28, bp_m27, bp_m26, bp_m25, bp_m24, bp_m23, bp_m22, bp_m21, bp_m20, bp_m2, bp_6, bp_7, bp_8, bp_9, bp_10, bp_11, bp_12, bp_13, bp_14, bp_15, bp_16, bp_17, bp_18, bp_20, bp_21, bp_22, bp_23, bp_24, bp_30, bp_32, bp_39, bp_40, bp_41, bp_42, bp_43, bp_44, bp_45, bp_47, bp_48, bp_57, bp_59, bp_60, bp_61, bp_63, bp_64, bp_97, bp_99, bp_100, bp_122, sp_255, sp_256, sp_700, sp_936, sp_960, sp_999, sp_4096, sp_9999, sp_10000, sp_12345, sp_32767]
  exact ⟨fun h => by rw [if_neg h], fun q => ⟨isP_in q, by rw [if_pos q]⟩⟩
theorem or_if (x y : Int32) (p : Prop) [Decidable p] (P : Int32 → Prop) (h : P (x ||| if p then y else 0)) : (¬ p → P x) ∧ (p → P (x ||| y)) := by
  by_cases hp : p
  · rw [if_pos hp] at h
    exact ⟨fun q => absurd hp q, fun _ => h⟩
  · rw [if_neg hp, Int32.or_zero] at h
    exact ⟨fun _ => h, fun q => absurd q hp⟩
set_option maxRecDepth 100000 in
set_option maxHeartbeats 4000000 in
theorem w_heldBy {l : Launch} {n w : Nat} {p : Int32} {d : DS} (hl : l.stackTraces = false) (hw : isW w) : CM l mX9_heldBy (n + 1) 0 [.ref w, .int p] d (fun v d' => v = some (.int (orN (fun c => if d (w + 5) c = p then bit c else 0) 12)) ∧ d' = d) NX := by
  refine CM.tree hl BX9_heldBy [4] (by decide +kernel) OKX9_heldBy (Nat.le_of_ble_eq_true rfl) (fun K hK hm => ?_)
  show K 0 [some (.ref w), some (.int p), none, none] [] d 0
  refine hK 9 _ _ _ _ _ ?_
  simp only [bX9_heldBy_0, bX9_heldBy_4, bX9_heldBy_26, bX9_heldBy_32, bkX9_heldBy_0, bkX9_heldBy_4, bkX9_heldBy_26, bkX9_heldBy_32, hnX9_heldBy_0, hnX9_heldBy_4, hnX9_heldBy_26, hnX9_heldBy_32, mX9_heldBy, hw.1, vcH, vcT, ↓reduceIte, List.mem_cons, List.not_mem_nil, or_false, false_or, or_self, Nat.reduceEqDiff, rok, exn, i01, i10, vcB, vcI, pI, pII, pLL, pR, pIR, pIIR, lI, lR, lL, aK, fK, ilen, lok, cnd, slv_ref, slv_int, List.getElem?_cons_zero, List.getElem?_cons_succ, List.set_cons_zero, List.set_cons_succ, List.cons_append, List.nil_append, List.take_succ_cons, List.take_zero, List.drop_succ_cons, List.drop_zero, List.reverse_cons, List.reverse_nil, Option.toList_some, Option.toList_none, List.length_cons, List.length_nil, catL, List.map_cons, List.map_nil, List.sum_cons, List.sum_nil, Value.category, Nat.reduceAdd, Nat.reduceLT, Nat.reduceLeDiff, Nat.reduceEqDiff, Fin.isValue, tgt, Int.cast_ofNat_Int, Int.reduceAdd, Int.reduceNeg, Int.reduceToNat, Int.zero_add, f4_0, f4_1, f4_2, f4_3, true_and, and_true, Classical.not_not, implies_true, true_implies, false_implies, not_false_eq_true, not_true_eq_false, and_self, true_or, or_true, beq_self_eq_true, ic_m8, ic_m1, ic_0, ic_1, ic_2, ic_3, ic_4, ic_5, ic_8, ic_16, bp_m28, bp_m27, bp_m26, bp_m25, bp_m24, bp_m23, bp_m22, bp_m21, bp_m20, bp_m2, bp_6, bp_7, bp_8, bp_9, bp_10, bp_11, bp_12, bp_13, bp_14, bp_15, bp_16, bp_17, bp_18, bp_20, bp_21, bp_22, bp_23, bp_24, bp_30, bp_32, bp_39, bp_40, bp_41, bp_42, bp_43, bp_44, bp_45, bp_47, bp_48, bp_57, bp_59, bp_60, bp_61, bp_63, bp_64, bp_97, bp_99, bp_100, bp_122, sp_255, sp_256, sp_700, sp_936, sp_960, sp_999, sp_4096, sp_9999, sp_10000, sp_12345, sp_32767]
  refine dec_ind (P := fun j => K 4 [some (.ref w), some (.int p), some (.int (orN (fun c => if d (w + 5) c = p then bit c else 0) j)), some (.int (nI j))] [] d 0) 12 ?_ ?_ 0 (Nat.zero_le _)
  · refine hK 9 _ _ _ _ _ ?_
    simp only [bX9_heldBy_0, bX9_heldBy_4, bX9_heldBy_26, bX9_heldBy_32, bkX9_heldBy_0, bkX9_heldBy_4, bkX9_heldBy_26, bkX9_heldBy_32, hnX9_heldBy_0, hnX9_heldBy_4, hnX9_heldBy_26, hnX9_heldBy_32, mX9_heldBy, hw.1, hw.2.2.2.2.2.1, vcH, vcT, ↓reduceIte, List.mem_cons, List.not_mem_nil, or_false, false_or, or_self, Nat.reduceEqDiff, rok, exn, i01, i10, vcB, vcI, pI, pII, pLL, pR, pIR, pIIR, lI, lR, lL, aK, fK, ilen, lok, cnd, slv_ref, slv_int, List.getElem?_cons_zero, List.getElem?_cons_succ, List.set_cons_zero, List.set_cons_succ, List.cons_append, List.nil_append, List.take_succ_cons, List.take_zero, List.drop_succ_cons, List.drop_zero, List.reverse_cons, List.reverse_nil, Option.toList_some, Option.toList_none, List.length_cons, List.length_nil, catL, List.map_cons, List.map_nil, List.sum_cons, List.sum_nil, Value.category, Nat.reduceAdd, Nat.reduceLT, Nat.reduceLeDiff, Nat.reduceEqDiff, Fin.isValue, tgt, Int.cast_ofNat_Int, Int.reduceAdd, Int.reduceNeg, Int.reduceToNat, Int.zero_add, f4_0, f4_1, f4_2, f4_3, true_and, and_true, Classical.not_not, implies_true, true_implies, false_implies, not_false_eq_true, not_true_eq_false, and_self, true_or, or_true, beq_self_eq_true, ic_m8, ic_m1, ic_0, ic_1, ic_2, ic_3, ic_4, ic_5, ic_8, ic_16, bp_m28, bp_m27, bp_m26, bp_m25, bp_m24, bp_m23, bp_m22, bp_m21, bp_m20, bp_m2, bp_6, bp_7, bp_8, bp_9, bp_10, bp_11, bp_12, bp_13, bp_14, bp_15, bp_16, bp_17, bp_18, bp_20, bp_21, bp_22, bp_23, bp_24, bp_30, bp_32, bp_39, bp_40, bp_41, bp_42, bp_43, bp_44, bp_45, bp_47, bp_48, bp_57, bp_59, bp_60, bp_61, bp_63, bp_64, bp_97, bp_99, bp_100, bp_122, sp_255, sp_256, sp_700, sp_936, sp_960, sp_999, sp_4096, sp_9999, sp_10000, sp_12345, sp_32767]
    exact fun q => absurd (nI_le (Nat.le_refl 12) (by decide)) q
  · intro j hj ih
    refine hK 9 _ _ _ _ _ ?_
    have e1 : (nI j).toNatClampNeg = j := nI_clamp (by omega)
    have e3 : vp_in (nI j) 12 := vp_in_nI hj (by decide)
    have e4 : ¬ (12 : Int32) ≤ nI j := nI_ge hj (by decide)
    simp only [bX9_heldBy_0, bX9_heldBy_4, bX9_heldBy_26, bX9_heldBy_32, bkX9_heldBy_0, bkX9_heldBy_4, bkX9_heldBy_26, bkX9_heldBy_32, hnX9_heldBy_0, hnX9_heldBy_4, hnX9_heldBy_26, hnX9_heldBy_32, mX9_heldBy, hw.1, hw.2.2.2.2.2.1, e1, nI_1, e3, e4, vcH, vcT, ↓reduceIte, List.mem_cons, List.not_mem_nil, or_false, false_or, or_self, Nat.reduceEqDiff, rok, exn, i01, i10, vcB, vcI, pI, pII, pLL, pR, pIR, pIIR, lI, lR, lL, aK, fK, ilen, lok, cnd, slv_ref, slv_int, List.getElem?_cons_zero, List.getElem?_cons_succ, List.set_cons_zero, List.set_cons_succ, List.cons_append, List.nil_append, List.take_succ_cons, List.take_zero, List.drop_succ_cons, List.drop_zero, List.reverse_cons, List.reverse_nil, Option.toList_some, Option.toList_none, List.length_cons, List.length_nil, catL, List.map_cons, List.map_nil, List.sum_cons, List.sum_nil, Value.category, Nat.reduceAdd, Nat.reduceLT, Nat.reduceLeDiff, Nat.reduceEqDiff, Fin.isValue, tgt, Int.cast_ofNat_Int, Int.reduceAdd, Int.reduceNeg, Int.reduceToNat, Int.zero_add, f4_0, f4_1, f4_2, f4_3, true_and, and_true, Classical.not_not, implies_true, true_implies, false_implies, not_false_eq_true, not_true_eq_false, and_self, true_or, or_true, beq_self_eq_true, ic_m8, ic_m1, ic_0, ic_1, ic_2, ic_3, ic_4, ic_5, ic_8, ic_16, bp_m28, bp_m27, bp_m26, bp_m25, bp_m24, bp_m23, bp_m22, bp_m21, bp_m20, bp_m2, bp_6, bp_7, bp_8, bp_9, bp_10, bp_11, bp_12, bp_13, bp_14, bp_15, bp_16, bp_17, bp_18, bp_20, bp_21, bp_22, bp_23, bp_24, bp_30, bp_32, bp_39, bp_40, bp_41, bp_42, bp_43, bp_44, bp_45, bp_47, bp_48, bp_57, bp_59, bp_60, bp_61, bp_63, bp_64, bp_97, bp_99, bp_100, bp_122, sp_255, sp_256, sp_700, sp_936, sp_960, sp_999, sp_4096, sp_9999, sp_10000, sp_12345, sp_32767]
    exact or_if _ _ _ (fun z => K 4 [some (.ref w), some (.int p), some (.int z), some (.int (nI (j + 1)))] [] d 0) ih
set_option maxRecDepth 100000 in
set_option maxHeartbeats 4000000 in
theorem w_gifts {l : Launch} {n w : Nat} {d : DS} (hl : l.stackTraces = false) (hw : isW w) : CM l mX9_gifts (n + 2) 0 [.ref w] d (fun v d' => v = some (.int (orN (fun c => if d (w + 4) c = 0 ∧ isP (d w 0) (d (w + 5) c) then bit c else 0) 12)) ∧ d' = d) NX := by
  refine CM.tree hl BX9_gifts [4] (by decide +kernel) OKX9_gifts (Nat.le_of_ble_eq_true rfl) (fun K hK hm => ?_)
  show K 0 [some (.ref w), none, none] [] d 0
  refine hK 9 _ _ _ _ _ ?_
  simp only [bX9_gifts_0, bX9_gifts_4, bX9_gifts_38, bX9_gifts_44, bkX9_gifts_0, bkX9_gifts_4, bkX9_gifts_38, bkX9_gifts_44, hnX9_gifts_0, hnX9_gifts_4, hnX9_gifts_38, hnX9_gifts_44, mX9_gifts, hw.1, vcH, vcT, ↓reduceIte, List.mem_cons, List.not_mem_nil, or_false, false_or, or_self, Nat.reduceEqDiff, rok, exn, i01, i10, vcB, vcI, pI, pII, pLL, pR, pIR, pIIR, lI, lR, lL, aK, fK, ilen, lok, cnd, slv_ref, slv_int, List.getElem?_cons_zero, List.getElem?_cons_succ, List.set_cons_zero, List.set_cons_succ, List.cons_append, List.nil_append, List.take_succ_cons, List.take_zero, List.drop_succ_cons, List.drop_zero, List.reverse_cons, List.reverse_nil, Option.toList_some, Option.toList_none, List.length_cons, List.length_nil, catL, List.map_cons, List.map_nil, List.sum_cons, List.sum_nil, Value.category, Nat.reduceAdd, Nat.reduceLT, Nat.reduceLeDiff, Nat.reduceEqDiff, Fin.isValue, tgt, Int.cast_ofNat_Int, Int.reduceAdd, Int.reduceNeg, Int.reduceToNat, Int.zero_add, f4_0, f4_1, f4_2, f4_3, true_and, and_true, Classical.not_not, implies_true, true_implies, false_implies, not_false_eq_true, not_true_eq_false, and_self, true_or, or_true, beq_self_eq_true, ic_m8, ic_m1, ic_0, ic_1, ic_2, ic_3, ic_4, ic_5, ic_8, ic_16, bp_m28, bp_m27, bp_m26, bp_m25, bp_m24, bp_m23, bp_m22, bp_m21, bp_m20, bp_m2, bp_6, bp_7, bp_8, bp_9, bp_10, bp_11, bp_12, bp_13, bp_14, bp_15, bp_16, bp_17, bp_18, bp_20, bp_21, bp_22, bp_23, bp_24, bp_30, bp_32, bp_39, bp_40, bp_41, bp_42, bp_43, bp_44, bp_45, bp_47, bp_48, bp_57, bp_59, bp_60, bp_61, bp_63, bp_64, bp_97, bp_99, bp_100, bp_122, sp_255, sp_256, sp_700, sp_936, sp_960, sp_999, sp_4096, sp_9999, sp_10000, sp_12345, sp_32767]
  refine dec_ind (P := fun j => K 4 [some (.ref w), some (.int (orN (fun c => if d (w + 4) c = 0 ∧ isP (d w 0) (d (w + 5) c) then bit c else 0) j)), some (.int (nI j))] [] d 0) 12 ?_ ?_ 0 (Nat.zero_le _)
  · refine hK 9 _ _ _ _ _ ?_
    have e4 : (12 : Int32) ≤ nI 12 := nI_le (Nat.le_refl 12) (by decide)
    simp only [bX9_gifts_0, bX9_gifts_4, bX9_gifts_38, bX9_gifts_44, bkX9_gifts_0, bkX9_gifts_4, bkX9_gifts_38, bkX9_gifts_44, hnX9_gifts_0, hnX9_gifts_4, hnX9_gifts_38, hnX9_gifts_44, mX9_gifts, hw.1, hw.2.2.2.2.2.1, hw.2.2.2.2.1, e4, vcH, vcT, ↓reduceIte, List.mem_cons, List.not_mem_nil, or_false, false_or, or_self, Nat.reduceEqDiff, rok, exn, i01, i10, vcB, vcI, pI, pII, pLL, pR, pIR, pIIR, lI, lR, lL, aK, fK, ilen, lok, cnd, slv_ref, slv_int, List.getElem?_cons_zero, List.getElem?_cons_succ, List.set_cons_zero, List.set_cons_succ, List.cons_append, List.nil_append, List.take_succ_cons, List.take_zero, List.drop_succ_cons, List.drop_zero, List.reverse_cons, List.reverse_nil, Option.toList_some, Option.toList_none, List.length_cons, List.length_nil, catL, List.map_cons, List.map_nil, List.sum_cons, List.sum_nil, Value.category, Nat.reduceAdd, Nat.reduceLT, Nat.reduceLeDiff, Nat.reduceEqDiff, Fin.isValue, tgt, Int.cast_ofNat_Int, Int.reduceAdd, Int.reduceNeg, Int.reduceToNat, Int.zero_add, f4_0, f4_1, f4_2, f4_3, true_and, and_true, Classical.not_not, implies_true, true_implies, false_implies, not_false_eq_true, not_true_eq_false, and_self, true_or, or_true, beq_self_eq_true, ic_m8, ic_m1, ic_0, ic_1, ic_2, ic_3, ic_4, ic_5, ic_8, ic_16, bp_m28, bp_m27, bp_m26, bp_m25, bp_m24, bp_m23, bp_m22, bp_m21, bp_m20, bp_m2, bp_6, bp_7, bp_8, bp_9, bp_10, bp_11, bp_12, bp_13, bp_14, bp_15, bp_16, bp_17, bp_18, bp_20, bp_21, bp_22, bp_23, bp_24, bp_30, bp_32, bp_39, bp_40, bp_41, bp_42, bp_43, bp_44, bp_45, bp_47, bp_48, bp_57, bp_59, bp_60, bp_61, bp_63, bp_64, bp_97, bp_99, bp_100, bp_122, sp_255, sp_256, sp_700, sp_936, sp_960, sp_999, sp_4096, sp_9999, sp_10000, sp_12345, sp_32767]
  · intro j hj ih
    refine hK 9 _ _ _ _ _ ?_
    have e1 : (nI j).toNatClampNeg = j := nI_clamp (by omega)
    have e3 : vp_in (nI j) 12 := vp_in_nI hj (by decide)
    have e4 : ¬ (12 : Int32) ≤ nI j := nI_ge hj (by decide)
    simp only [bX9_gifts_0, bX9_gifts_4, bX9_gifts_38, bX9_gifts_44, bkX9_gifts_0, bkX9_gifts_4, bkX9_gifts_38, bkX9_gifts_44, hnX9_gifts_0, hnX9_gifts_4, hnX9_gifts_38, hnX9_gifts_44, mX9_gifts, hw.1, hw.2.2.2.2.2.1, hw.2.2.2.2.1, e1, nI_1, e3, e4, hw.rcv, vcH, vcT, ↓reduceIte, List.mem_cons, List.not_mem_nil, or_false, false_or, or_self, Nat.reduceEqDiff, rok, exn, i01, i10, vcB, vcI, pI, pII, pLL, pR, pIR, pIIR, lI, lR, lL, aK, fK, ilen, lok, cnd, slv_ref, slv_int, List.getElem?_cons_zero, List.getElem?_cons_succ, List.set_cons_zero, List.set_cons_succ, List.cons_append, List.nil_append, List.take_succ_cons, List.take_zero, List.drop_succ_cons, List.drop_zero, List.reverse_cons, List.reverse_nil, Option.toList_some, Option.toList_none, List.length_cons, List.length_nil, catL, List.map_cons, List.map_nil, List.sum_cons, List.sum_nil, Value.category, Nat.reduceAdd, Nat.reduceLT, Nat.reduceLeDiff, Nat.reduceEqDiff, Fin.isValue, tgt, Int.cast_ofNat_Int, Int.reduceAdd, Int.reduceNeg, Int.reduceToNat, Int.zero_add, f4_0, f4_1, f4_2, f4_3, true_and, and_true, Classical.not_not, implies_true, true_implies, false_implies, not_false_eq_true, not_true_eq_false, and_self, true_or, or_true, beq_self_eq_true, ic_m8, ic_m1, ic_0, ic_1, ic_2, ic_3, ic_4, ic_5, ic_8, ic_16, bp_m28, bp_m27, bp_m26, bp_m25, bp_m24, bp_m23, bp_m22, bp_m21, bp_m20, bp_m2, bp_6, bp_7, bp_8, bp_9, bp_10, bp_11, bp_12, bp_13, bp_14, bp_15, bp_16, bp_17, bp_18, bp_20, bp_21, bp_22, bp_23, bp_24, bp_30, bp_32, bp_39, bp_40, bp_41, bp_42, bp_43, bp_44, bp_45, bp_47, bp_48, bp_57, bp_59, bp_60, bp_61, bp_63, bp_64, bp_97, bp_99, bp_100, bp_122, sp_255, sp_256, sp_700, sp_936, sp_960, sp_999, sp_4096, sp_9999, sp_10000, sp_12345, sp_32767]
    have key := or_if (orN (fun c => if d (w + 4) c = 0 ∧ isP (d w 0) (d (w + 5) c) then bit c else 0) j) (bit j) (d (w + 4) j = 0 ∧ isP (d w 0) (d (w + 5) j)) (fun z => K 4 [some (.ref w), some (.int z), some (.int (nI (j + 1)))] [] d 0) ih
    refine ⟨fun h => key.1 (fun q => h q.1), fun h => CM.use (w_isPerson hl hw) ?_⟩
    simp only [bX9_gifts_0, bX9_gifts_4, bX9_gifts_38, bX9_gifts_44, bkX9_gifts_0, bkX9_gifts_4, bkX9_gifts_38, bkX9_gifts_44, hnX9_gifts_0, hnX9_gifts_4, hnX9_gifts_38, hnX9_gifts_44, mX9_gifts, hw.1, e1, nI_1, vcH, vcT, ↓reduceIte, List.mem_cons, List.not_mem_nil, or_false, false_or, or_self, Nat.reduceEqDiff, rok, exn, i01, i10, vcB, vcI, pI, pII, pLL, pR, pIR, pIIR, lI, lR, lL, aK, fK, ilen, lok, cnd, slv_ref, slv_int, List.getElem?_cons_zero, List.getElem?_cons_succ, List.set_cons_zero, List.set_cons_succ, List.cons_append, List.nil_append, List.take_succ_cons, List.take_zero, List.drop_succ_cons, List.drop_zero, List.reverse_cons, List.reverse_nil, Option.toList_some, Option.toList_none, List.length_cons, List.length_nil, catL, List.map_cons, List.map_nil, List.sum_cons, List.sum_nil, Value.category, Nat.reduceAdd, Nat.reduceLT, Nat.reduceLeDiff, Nat.reduceEqDiff, Fin.isValue, tgt, Int.cast_ofNat_Int, Int.reduceAdd, Int.reduceNeg, Int.reduceToNat, Int.zero_add, f4_0, f4_1, f4_2, f4_3, true_and, and_true, Classical.not_not, implies_true, true_implies, false_implies, not_false_eq_true, not_true_eq_false, and_self, true_or, or_true, beq_self_eq_true, ic_m8, ic_m1, ic_0, ic_1, ic_2, ic_3, ic_4, ic_5, ic_8, ic_16, bp_m28, bp_m27, bp_m26, bp_m25, bp_m24, bp_m23, bp_m22, bp_m21, bp_m20, bp_m2, bp_6, bp_7, bp_8, bp_9, bp_10, bp_11, bp_12, bp_13, bp_14, bp_15, bp_16, bp_17, bp_18, bp_20, bp_21, bp_22, bp_23, bp_24, bp_30, bp_32, bp_39, bp_40, bp_41, bp_42, bp_43, bp_44, bp_45, bp_47, bp_48, bp_57, bp_59, bp_60, bp_61, bp_63, bp_64, bp_97, bp_99, bp_100, bp_122, sp_255, sp_256, sp_700, sp_936, sp_960, sp_999, sp_4096, sp_9999, sp_10000, sp_12345, sp_32767]
    exact ⟨fun h2 => key.1 (fun q => h2 q.2), fun h2 => key.2 ⟨h, h2⟩⟩
-- Arrays.fill
set_option maxRecDepth 100000 in
set_option maxHeartbeats 4000000 in
theorem j_fill {l : Launch} {n a len : Nat} {q : List Nat} {v : Int32} {d : DS} (hl : l.stackTraces = false) (ha : lay[a]? = some (1, len, q)) (hlen : len < 2 ^ 31) : CM l mJ7_fill_53178 (n + 1) 0 [.ref a, .int v] d (fun r d' => r = none ∧ d' = drow d a (fun i => if i < len then v else d a i)) NX := by
  refine CM.tree hl BJ7_fill_53178 [5] (by decide +kernel) OKJ7_fill_53178 (Nat.le_of_ble_eq_true rfl) (fun K hK hm => ?_)
  show K 0 [some (.ref a), some (.int v), none, none] [] d 0
  refine hK 9 _ _ _ _ _ ?_
  simp only [bJ7_fill_53178_0, bJ7_fill_53178_5, bJ7_fill_53178_20, bkJ7_fill_53178_0, bkJ7_fill_53178_5, bkJ7_fill_53178_20, hnJ7_fill_53178_0, hnJ7_fill_53178_5, hnJ7_fill_53178_20, mJ7_fill_53178, ha, vcH, vcT, ↓reduceIte, List.mem_cons, List.not_mem_nil, or_false, false_or, or_self, Nat.reduceEqDiff, rok, exn, i01, i10, vcB, vcI, pI, pII, pLL, pR, pIR, pIIR, lI, lR, lL, aK, fK, ilen, lok, cnd, slv_ref, slv_int, List.getElem?_cons_zero, List.getElem?_cons_succ, List.set_cons_zero, List.set_cons_succ, List.cons_append, List.nil_append, List.take_succ_cons, List.take_zero, List.drop_succ_cons, List.drop_zero, List.reverse_cons, List.reverse_nil, Option.toList_some, Option.toList_none, List.length_cons, List.length_nil, catL, List.map_cons, List.map_nil, List.sum_cons, List.sum_nil, Value.category, Nat.reduceAdd, Nat.reduceLT, Nat.reduceLeDiff, Nat.reduceEqDiff, Fin.isValue, tgt, Int.cast_ofNat_Int, Int.reduceAdd, Int.reduceNeg, Int.reduceToNat, Int.zero_add, f4_0, f4_1, f4_2, f4_3, true_and, and_true, Classical.not_not, implies_true, true_implies, false_implies, not_false_eq_true, not_true_eq_false, and_self, true_or, or_true, beq_self_eq_true, ic_m8, ic_m1, ic_0, ic_1, ic_2, ic_3, ic_4, ic_5, ic_8, ic_16, bp_m28, bp_m27, bp_m26, bp_m25, bp_m24, bp_m23, bp_m22, bp_m21, bp_m20, bp_m2, bp_6, bp_7, bp_8, bp_9, bp_10, bp_11, bp_12, bp_13, bp_14, bp_15, bp_16, bp_17, bp_18, bp_20, bp_21, bp_22, bp_23, bp_24, bp_30, bp_32, bp_39, bp_40, bp_41, bp_42, bp_43, bp_44, bp_45, bp_47, bp_48, bp_57, bp_59, bp_60, bp_61, bp_63, bp_64, bp_97, bp_99, bp_100, bp_122, sp_255, sp_256, sp_700, sp_936, sp_960, sp_999, sp_4096, sp_9999, sp_10000, sp_12345, sp_32767]
  have h0 : drow d a (fun i => if i < 0 then v else d a i) = d := by
    simp only [Nat.not_lt_zero, if_false]
    exact drow_id d a
  have key := dec_ind (P := fun j => K 5 [some (.ref a), some (.int v), some (.int (nI j)), some (.int (nI len))] [] (drow d a (fun i => if i < j then v else d a i)) 0) len ?_ ?_ 0 (Nat.zero_le _)
  · rw [h0] at key; exact key
  · refine hK 9 _ _ _ _ _ ?_
    simp only [bJ7_fill_53178_0, bJ7_fill_53178_5, bJ7_fill_53178_20, bkJ7_fill_53178_0, bkJ7_fill_53178_5, bkJ7_fill_53178_20, hnJ7_fill_53178_0, hnJ7_fill_53178_5, hnJ7_fill_53178_20, mJ7_fill_53178, ha, nI_le (Nat.le_refl len) hlen, vcH, vcT, ↓reduceIte, List.mem_cons, List.not_mem_nil, or_false, false_or, or_self, Nat.reduceEqDiff, rok, exn, i01, i10, vcB, vcI, pI, pII, pLL, pR, pIR, pIIR, lI, lR, lL, aK, fK, ilen, lok, cnd, slv_ref, slv_int, List.getElem?_cons_zero, List.getElem?_cons_succ, List.set_cons_zero, List.set_cons_succ, List.cons_append, List.nil_append, List.take_succ_cons, List.take_zero, List.drop_succ_cons, List.drop_zero, List.reverse_cons, List.reverse_nil, Option.toList_some, Option.toList_none, List.length_cons, List.length_nil, catL, List.map_cons, List.map_nil, List.sum_cons, List.sum_nil, Value.category, Nat.reduceAdd, Nat.reduceLT, Nat.reduceLeDiff, Nat.reduceEqDiff, Fin.isValue, tgt, Int.cast_ofNat_Int, Int.reduceAdd, Int.reduceNeg, Int.reduceToNat, Int.zero_add, f4_0, f4_1, f4_2, f4_3, true_and, and_true, Classical.not_not, implies_true, true_implies, false_implies, not_false_eq_true, not_true_eq_false, and_self, true_or, or_true, beq_self_eq_true, ic_m8, ic_m1, ic_0, ic_1, ic_2, ic_3, ic_4, ic_5, ic_8, ic_16, bp_m28, bp_m27, bp_m26, bp_m25, bp_m24, bp_m23, bp_m22, bp_m21, bp_m20, bp_m2, bp_6, bp_7, bp_8, bp_9, bp_10, bp_11, bp_12, bp_13, bp_14, bp_15, bp_16, bp_17, bp_18, bp_20, bp_21, bp_22, bp_23, bp_24, bp_30, bp_32, bp_39, bp_40, bp_41, bp_42, bp_43, bp_44, bp_45, bp_47, bp_48, bp_57, bp_59, bp_60, bp_61, bp_63, bp_64, bp_97, bp_99, bp_100, bp_122, sp_255, sp_256, sp_700, sp_936, sp_960, sp_999, sp_4096, sp_9999, sp_10000, sp_12345, sp_32767]
  · intro j hj ih
    refine hK 9 _ _ _ _ _ ?_
    have e1 : (nI j).toNatClampNeg = j := nI_clamp (by omega)
    have e3 : vp_in (nI j) len := vp_in_nI hj hlen
    have e4 : ¬ nI len ≤ nI j := nI_ge hj hlen
    have e5 : dset (drow d a (fun i => if i < j then v else d a i)) a j v = drow d a (fun i => if i < j + 1 then v else d a i) := by
      rw [dset_eq, drow_drow, drow_self]
      congr 1
      funext i
      unfold upd
      by_cases h1 : i = j
      · rw [if_pos h1, if_pos (by omega)]
      · rw [if_neg h1]
        show (if i < j then v else d a i) = _
        by_cases h2 : i < j
        · rw [if_pos h2, if_pos (by omega)]
        · rw [if_neg h2, if_neg (by omega)]
    simp only [bJ7_fill_53178_0, bJ7_fill_53178_5, bJ7_fill_53178_20, bkJ7_fill_53178_0, bkJ7_fill_53178_5, bkJ7_fill_53178_20, hnJ7_fill_53178_0, hnJ7_fill_53178_5, hnJ7_fill_53178_20, mJ7_fill_53178, ha, e1, nI_1, e3, e4, e5, vcH, vcT, ↓reduceIte, List.mem_cons, List.not_mem_nil, or_false, false_or, or_self, Nat.reduceEqDiff, rok, exn, i01, i10, vcB, vcI, pI, pII, pLL, pR, pIR, pIIR, lI, lR, lL, aK, fK, ilen, lok, cnd, slv_ref, slv_int, List.getElem?_cons_zero, List.getElem?_cons_succ, List.set_cons_zero, List.set_cons_succ, List.cons_append, List.nil_append, List.take_succ_cons, List.take_zero, List.drop_succ_cons, List.drop_zero, List.reverse_cons, List.reverse_nil, Option.toList_some, Option.toList_none, List.length_cons, List.length_nil, catL, List.map_cons, List.map_nil, List.sum_cons, List.sum_nil, Value.category, Nat.reduceAdd, Nat.reduceLT, Nat.reduceLeDiff, Nat.reduceEqDiff, Fin.isValue, tgt, Int.cast_ofNat_Int, Int.reduceAdd, Int.reduceNeg, Int.reduceToNat, Int.zero_add, f4_0, f4_1, f4_2, f4_3, true_and, and_true, Classical.not_not, implies_true, true_implies, false_implies, not_false_eq_true, not_true_eq_false, and_self, true_or, or_true, beq_self_eq_true, ic_m8, ic_m1, ic_0, ic_1, ic_2, ic_3, ic_4, ic_5, ic_8, ic_16, bp_m28, bp_m27, bp_m26, bp_m25, bp_m24, bp_m23, bp_m22, bp_m21, bp_m20, bp_m2, bp_6, bp_7, bp_8, bp_9, bp_10, bp_11, bp_12, bp_13, bp_14, bp_15, bp_16, bp_17, bp_18, bp_20, bp_21, bp_22, bp_23, bp_24, bp_30, bp_32, bp_39, bp_40, bp_41, bp_42, bp_43, bp_44, bp_45, bp_47, bp_48, bp_57, bp_59, bp_60, bp_61, bp_63, bp_64, bp_97, bp_99, bp_100, bp_122, sp_255, sp_256, sp_700, sp_936, sp_960, sp_999, sp_4096, sp_9999, sp_10000, sp_12345, sp_32767]
    exact ih
/-- how many coins a loop over them goes through -/
def cN (d : DS) (w : Nat) : Nat := min (d w 1).toNatClampNeg 12
/-- what one has, by the coins before N -/
def hasW (d : DS) (w N : Nat) (i : Nat) : Int32 := sumN (fun c => if isP (d w 0) (d (w + 5) c) ∧ d (w + 5) c = nI i then d (w + 4) c else 0) N
def tlRow (d : DS) (w N : Nat) : Nat → Int32 := fun i => if i < 8 then hasW d w N i else d (w + 6) i
theorem cN_12 (d : DS) (w : Nat) : cN d w ≤ 12 := Nat.min_le_right _ _
theorem cN_in {d : DS} {w j : Nat} (h : j < cN d w) : j < 12 ∧ ¬ (d w 1 ≤ nI j) ∧ ¬ (12 : Int32) ≤ nI j := by
  unfold cN at h
  refine ⟨by omega, fun q => ?_, nI_ge (b := 12) (by omega) (by decide)⟩
  rw [le_nI (by omega)] at q
  omega
theorem cN_out (d : DS) (w : Nat) : d w 1 ≤ nI (cN d w) ∨ (12 : Int32) ≤ nI (cN d w) := by
  by_cases h : (d w 1).toNatClampNeg ≤ 12
  · left
    rw [le_nI (by have := cN_12 d w; omega)]
    unfold cN; omega
  · right
    rw [show cN d w = 12 by unfold cN; omega]
    exact nI_le (Nat.le_refl 12) (by decide)
theorem isP_nI {n p : Int32} (h : isP n p) : p.toNatClampNeg < 8 ∧ p = nI p.toNatClampNeg := by
  obtain ⟨j, h1, h2⟩ := vp_in_of (isP_in h) (by decide)
  rw [h2, nI_clamp (by omega)]
  exact ⟨h1, rfl⟩
set_option maxRecDepth 100000 in
set_option maxHeartbeats 4000000 in
theorem w_tally {l : Launch} {n w : Nat} {d : DS} (hl : l.stackTraces = false) (hw : isW w) : CM l mX9_tally (n + 2) 0 [.ref w] d (fun v d' => v = none ∧ d' = drow d (w + 6) (tlRow d w (cN d w))) NX := by
  refine CM.tree hl BX9_tally [10] (by decide +kernel) OKX9_tally (Nat.le_of_ble_eq_true rfl) (fun K hK hm => ?_)
  show K 0 [some (.ref w), none] [] d 0
  refine hK 9 _ _ _ _ _ ?_
  simp only [bX9_tally_0, bX9_tally_10, bX9_tally_57, bX9_tally_63, bkX9_tally_0, bkX9_tally_10, bkX9_tally_57, bkX9_tally_63, hnX9_tally_0, hnX9_tally_10, hnX9_tally_57, hnX9_tally_63, mX9_tally, hw.1, vcH, vcT, ↓reduceIte, List.mem_cons, List.not_mem_nil, or_false, false_or, or_self, Nat.reduceEqDiff, rok, exn, i01, i10, vcB, vcI, pI, pII, pLL, pR, pIR, pIIR, lI, lR, lL, aK, fK, ilen, lok, cnd, slv_ref, slv_int, List.getElem?_cons_zero, List.getElem?_cons_succ, List.set_cons_zero, List.set_cons_succ, List.cons_append, List.nil_append, List.take_succ_cons, List.take_zero, List.drop_succ_cons, List.drop_zero, List.reverse_cons, List.reverse_nil, Option.toList_some, Option.toList_none, List.length_cons, List.length_nil, catL, List.map_cons, List.map_nil, List.sum_cons, List.sum_nil, Value.category, Nat.reduceAdd, Nat.reduceLT, Nat.reduceLeDiff, Nat.reduceEqDiff, Fin.isValue, tgt, Int.cast_ofNat_Int, Int.reduceAdd, Int.reduceNeg, Int.reduceToNat, Int.zero_add, f4_0, f4_1, f4_2, f4_3, true_and, and_true, Classical.not_not, implies_true, true_implies, false_implies, not_false_eq_true, not_true_eq_false, and_self, true_or, or_true, beq_self_eq_true, ic_m8, ic_m1, ic_0, ic_1, ic_2, ic_3, ic_4, ic_5, ic_8, ic_16, bp_m28, bp_m27, bp_m26, bp_m25, bp_m24, bp_m23, bp_m22, bp_m21, bp_m20, bp_m2, bp_6, bp_7, bp_8, bp_9, bp_10, bp_11, bp_12, bp_13, bp_14, bp_15, bp_16, bp_17, bp_18, bp_20, bp_21, bp_22, bp_23, bp_24, bp_30, bp_32, bp_39, bp_40, bp_41, bp_42, bp_43, bp_44, bp_45, bp_47, bp_48, bp_57, bp_59, bp_60, bp_61, bp_63, bp_64, bp_97, bp_99, bp_100, bp_122, sp_255, sp_256, sp_700, sp_936, sp_960, sp_999, sp_4096, sp_9999, sp_10000, sp_12345, sp_32767]
  refine CM.use (j_fill hl hw.2.2.2.2.2.2 (by decide)) ?_
  simp only [bX9_tally_0, bX9_tally_10, bX9_tally_57, bX9_tally_63, bkX9_tally_0, bkX9_tally_10, bkX9_tally_57, bkX9_tally_63, hnX9_tally_0, hnX9_tally_10, hnX9_tally_57, hnX9_tally_63, mX9_tally, hw.1, vcH, vcT, ↓reduceIte, List.mem_cons, List.not_mem_nil, or_false, false_or, or_self, Nat.reduceEqDiff, rok, exn, i01, i10, vcB, vcI, pI, pII, pLL, pR, pIR, pIIR, lI, lR, lL, aK, fK, ilen, lok, cnd, slv_ref, slv_int, List.getElem?_cons_zero, List.getElem?_cons_succ, List.set_cons_zero, List.set_cons_succ, List.cons_append, List.nil_append, List.take_succ_cons, List.take_zero, List.drop_succ_cons, List.drop_zero, List.reverse_cons, List.reverse_nil, Option.toList_some, Option.toList_none, List.length_cons, List.length_nil, catL, List.map_cons, List.map_nil, List.sum_cons, List.sum_nil, Value.category, Nat.reduceAdd, Nat.reduceLT, Nat.reduceLeDiff, Nat.reduceEqDiff, Fin.isValue, tgt, Int.cast_ofNat_Int, Int.reduceAdd, Int.reduceNeg, Int.reduceToNat, Int.zero_add, f4_0, f4_1, f4_2, f4_3, true_and, and_true, Classical.not_not, implies_true, true_implies, false_implies, not_false_eq_true, not_true_eq_false, and_self, true_or, or_true, beq_self_eq_true, ic_m8, ic_m1, ic_0, ic_1, ic_2, ic_3, ic_4, ic_5, ic_8, ic_16, bp_m28, bp_m27, bp_m26, bp_m25, bp_m24, bp_m23, bp_m22, bp_m21, bp_m20, bp_m2, bp_6, bp_7, bp_8, bp_9, bp_10, bp_11, bp_12, bp_13, bp_14, bp_15, bp_16, bp_17, bp_18, bp_20, bp_21, bp_22, bp_23, bp_24, bp_30, bp_32, bp_39, bp_40, bp_41, bp_42, bp_43, bp_44, bp_45, bp_47, bp_48, bp_57, bp_59, bp_60, bp_61, bp_63, bp_64, bp_97, bp_99, bp_100, bp_122, sp_255, sp_256, sp_700, sp_936, sp_960, sp_999, sp_4096, sp_9999, sp_10000, sp_12345, sp_32767]
  have h0 : (fun i => if i < 8 then (0 : Int32) else d (w + 6) i) = tlRow d w 0 := by
    funext i
    simp [tlRow, hasW, sumN]
  rw [h0]
  have n0 : ∀ f, drow d (w + 6) f w = d w := fun f => drow_other w (by omega)
  have n5 : ∀ f, drow d (w + 6) f (w + 5) = d (w + 5) := fun f => drow_other _ (by omega)
  have n4 : ∀ f, drow d (w + 6) f (w + 4) = d (w + 4) := fun f => drow_other _ (by omega)
  refine dec_ind (P := fun j => K 10 [some (.ref w), some (.int (nI j))] [] (drow d (w + 6) (tlRow d w j)) 0) (cN d w) ?_ ?_ 0 (Nat.zero_le _)
  · refine hK 9 _ _ _ _ _ ?_
    simp only [bX9_tally_0, bX9_tally_10, bX9_tally_57, bX9_tally_63, bkX9_tally_0, bkX9_tally_10, bkX9_tally_57, bkX9_tally_63, hnX9_tally_0, hnX9_tally_10, hnX9_tally_57, hnX9_tally_63, mX9_tally, hw.1, n0, vcH, vcT, ↓reduceIte, List.mem_cons, List.not_mem_nil, or_false, false_or, or_self, Nat.reduceEqDiff, rok, exn, i01, i10, vcB, vcI, pI, pII, pLL, pR, pIR, pIIR, lI, lR, lL, aK, fK, ilen, lok, cnd, slv_ref, slv_int, List.getElem?_cons_zero, List.getElem?_cons_succ, List.set_cons_zero, List.set_cons_succ, List.cons_append, List.nil_append, List.take_succ_cons, List.take_zero, List.drop_succ_cons, List.drop_zero, List.reverse_cons, List.reverse_nil, Option.toList_some, Option.toList_none, List.length_cons, List.length_nil, catL, List.map_cons, List.map_nil, List.sum_cons, List.sum_nil, Value.category, Nat.reduceAdd, Nat.reduceLT, Nat.reduceLeDiff, Nat.reduceEqDiff, Fin.isValue, tgt, Int.cast_ofNat_Int, Int.reduceAdd, Int.reduceNeg, Int.reduceToNat, Int.zero_add, f4_0, f4_1, f4_2, f4_3, true_and, and_true, Classical.not_not, implies_true, true_implies, false_implies, not_false_eq_true, not_true_eq_false, and_self, true_or, or_true, beq_self_eq_true, ic_m8, ic_m1, ic_0, ic_1, ic_2, ic_3, ic_4, ic_5, ic_8, ic_16, bp_m28, bp_m27, bp_m26, bp_m25, bp_m24, bp_m23, bp_m22, bp_m21, bp_m20, bp_m2, bp_6, bp_7, bp_8, bp_9, bp_10, bp_11, bp_12, bp_13, bp_14, bp_15, bp_16, bp_17, bp_18, bp_20, bp_21, bp_22, bp_23, bp_24, bp_30, bp_32, bp_39, bp_40, bp_41, bp_42, bp_43, bp_44, bp_45, bp_47, bp_48, bp_57, bp_59, bp_60, bp_61, bp_63, bp_64, bp_97, bp_99, bp_100, bp_122, sp_255, sp_256, sp_700, sp_936, sp_960, sp_999, sp_4096, sp_9999, sp_10000, sp_12345, sp_32767]
    intro h1 h2
    exact ((cN_out d w).elim h1 h2).elim
  · intro j hj ih
    obtain ⟨q1, q2, q3⟩ := cN_in hj
    refine hK 9 _ _ _ _ _ ?_
    have e1 : (nI j).toNatClampNeg = j := nI_clamp (by omega)
    have e3 : vp_in (nI j) 12 := vp_in_nI q1 (by decide)
    simp only [bX9_tally_0, bX9_tally_10, bX9_tally_57, bX9_tally_63, bkX9_tally_0, bkX9_tally_10, bkX9_tally_57, bkX9_tally_63, hnX9_tally_0, hnX9_tally_10, hnX9_tally_57, hnX9_tally_63, mX9_tally, hw.1, hw.2.2.2.2.2.1, e1, nI_1, e3, q2, q3, n0, n5, hw.rcv, vcH, vcT, ↓reduceIte, List.mem_cons, List.not_mem_nil, or_false, false_or, or_self, Nat.reduceEqDiff, rok, exn, i01, i10, vcB, vcI, pI, pII, pLL, pR, pIR, pIIR, lI, lR, lL, aK, fK, ilen, lok, cnd, slv_ref, slv_int, List.getElem?_cons_zero, List.getElem?_cons_succ, List.set_cons_zero, List.set_cons_succ, List.cons_append, List.nil_append, List.take_succ_cons, List.take_zero, List.drop_succ_cons, List.drop_zero, List.reverse_cons, List.reverse_nil, Option.toList_some, Option.toList_none, List.length_cons, List.length_nil, catL, List.map_cons, List.map_nil, List.sum_cons, List.sum_nil, Value.category, Nat.reduceAdd, Nat.reduceLT, Nat.reduceLeDiff, Nat.reduceEqDiff, Fin.isValue, tgt, Int.cast_ofNat_Int, Int.reduceAdd, Int.reduceNeg, Int.reduceToNat, Int.zero_add, f4_0, f4_1, f4_2, f4_3, true_and, and_true, Classical.not_not, implies_true, true_implies, false_implies, not_false_eq_true, not_true_eq_false, and_self, true_or, or_true, beq_self_eq_true, ic_m8, ic_m1, ic_0, ic_1, ic_2, ic_3, ic_4, ic_5, ic_8, ic_16, bp_m28, bp_m27, bp_m26, bp_m25, bp_m24, bp_m23, bp_m22, bp_m21, bp_m20, bp_m2, bp_6, bp_7, bp_8, bp_9, bp_10, bp_11, bp_12, bp_13, bp_14, bp_15, bp_16, bp_17, bp_18, bp_20, bp_21, bp_22, bp_23, bp_24, bp_30, bp_32, bp_39, bp_40, bp_41, bp_42, bp_43, bp_44, bp_45, bp_47, bp_48, bp_57, bp_59, bp_60, bp_61, bp_63, bp_64, bp_97, bp_99, bp_100, bp_122, sp_255, sp_256, sp_700, sp_936, sp_960, sp_999, sp_4096, sp_9999, sp_10000, sp_12345, sp_32767]
    refine CM.use (w_isPerson hl hw) ?_
    simp only [bX9_tally_0, bX9_tally_10, bX9_tally_57, bX9_tally_63, bkX9_tally_0, bkX9_tally_10, bkX9_tally_57, bkX9_tally_63, hnX9_tally_0, hnX9_tally_10, hnX9_tally_57, hnX9_tally_63, mX9_tally, hw.1, hw.2.2.2.2.2.1, hw.2.2.2.2.1, hw.2.2.2.2.2.2, e1, nI_1, e3, n0, n5, n4, drow_self, vcH, vcT, ↓reduceIte, List.mem_cons, List.not_mem_nil, or_false, false_or, or_self, Nat.reduceEqDiff, rok, exn, i01, i10, vcB, vcI, pI, pII, pLL, pR, pIR, pIIR, lI, lR, lL, aK, fK, ilen, lok, cnd, slv_ref, slv_int, List.getElem?_cons_zero, List.getElem?_cons_succ, List.set_cons_zero, List.set_cons_succ, List.cons_append, List.nil_append, List.take_succ_cons, List.take_zero, List.drop_succ_cons, List.drop_zero, List.reverse_cons, List.reverse_nil, Option.toList_some, Option.toList_none, List.length_cons, List.length_nil, catL, List.map_cons, List.map_nil, List.sum_cons, List.sum_nil, Value.category, Nat.reduceAdd, Nat.reduceLT, Nat.reduceLeDiff, Nat.reduceEqDiff, Fin.isValue, tgt, Int.cast_ofNat_Int, Int.reduceAdd, Int.reduceNeg, Int.reduceToNat, Int.zero_add, f4_0, f4_1, f4_2, f4_3, true_and, and_true, Classical.not_not, implies_true, true_implies, false_implies, not_false_eq_true, not_true_eq_false, and_self, true_or, or_true, beq_self_eq_true, ic_m8, ic_m1, ic_0, ic_1, ic_2, ic_3, ic_4, ic_5, ic_8, ic_16, bp_m28, bp_m27, bp_m26, bp_m25, bp_m24, bp_m23, bp_m22, bp_m21, bp_m20, bp_m2, bp_6, bp_7, bp_8, bp_9, bp_10, bp_11, bp_12, bp_13, bp_14, bp_15, bp_16, bp_17, bp_18, bp_20, bp_21, bp_22, bp_23, bp_24, bp_30, bp_32, bp_39, bp_40, bp_41, bp_42, bp_43, bp_44, bp_45, bp_47, bp_48, bp_57, bp_59, bp_60, bp_61, bp_63, bp_64, bp_97, bp_99, bp_100, bp_122, sp_255, sp_256, sp_700, sp_936, sp_960, sp_999, sp_4096, sp_9999, sp_10000, sp_12345, sp_32767]
    refine ⟨fun h => ?_, fun h => ⟨isP_in h, isP_in h, ?_⟩⟩
    · have e5 : tlRow d w j = tlRow d w (j + 1) := by
        funext i
        simp only [tlRow, hasW, sumN, h, false_and, if_false, Int32.add_zero]
      rw [e5]
      exact ih
    · have e5 : dset (drow d (w + 6) (tlRow d w j)) (w + 6) (d (w + 5) j).toNatClampNeg (tlRow d w j (d (w + 5) j).toNatClampNeg + d (w + 4) j) = drow d (w + 6) (tlRow d w (j + 1)) := by
        obtain ⟨p1, p2⟩ := isP_nI h
        rw [dset_eq, drow_drow, drow_self]
        congr 1
        funext i
        by_cases hi : i = (d (w + 5) j).toNatClampNeg
        · rw [hi, upd_same]
          simp only [tlRow, p1, if_true, hasW, sumN]
          rw [if_pos ⟨h, p2⟩]
        · rw [upd_other _ _ hi]
          simp only [tlRow, hasW, sumN]
          by_cases h8 : i < 8
          · simp only [h8, if_true]
            rw [if_neg (fun q => hi (by rw [q.2, nI_clamp (by omega)])), Int32.add_zero]
          · simp only [h8, if_false]
      rw [e5]
      exact ih
