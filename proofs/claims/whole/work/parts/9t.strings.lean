/-! THE STRINGS AT THE START -/
def sfst : List (String × Nat) := [("NamedCoins", 109), ("NamedCoins$Reader", 76), ("NamedCoins$Reader", 136), ("NamedCoins$Reader", 86), ("NamedCoins$Reader", 88), ("NamedCoins$Reader", 93), ("NamedCoins$Reader", 98), ("NamedCoins$Reader", 179), ("NamedCoins$Reader", 197), ("NamedCoins$Reader", 198), ("NamedCoins$Reader", 200), ("NamedCoins$Reader", 201), ("NamedCoins$Reader", 203), ("NamedCoins$Reader", 204), ("NamedCoins$Reader", 206), ("NamedCoins$Reader", 177), ("NamedCoins$Reader", 169), ("NamedCoins$Reader", 103), ("NamedCoins", 179), ("NamedCoins", 357), ("NamedCoins", 209), ("NamedCoins", 245), ("NamedCoins", 226), ("NamedCoins", 362), ("NamedCoins", 364), ("NamedCoins", 279), ("NamedCoins", 366), ("NamedCoins", 331)]
def tmF (i : Nat) : Term := .string (sfst.getD i ("", 0)).1 (sfst.getD i ("", 0)).2
abbrev gvn : Cond := Jvm.Cond.and given_1 narrow_1
def sExp (i : Nat) : List Cond := Cond.exactly (tmF i) "java/lang/String" :: Cond.eq (.field (tmF i) "java/lang/String" "coder" "B") (.int 0) :: Cond.arrayOf (.field (tmF i) "java/lang/String" "value" "[B") .byte :: Cond.eq (.length (.field (tmF i) "java/lang/String" "value" "[B")) (.int (Int32.ofNat (slen.getD i 0))) :: (List.range (slen.getD i 0)).map (fun j => Cond.eq (.elem (.field (tmF i) "java/lang/String" "value" "[B") (.int (Int32.ofNat j))) (.int ((sbyt.getD i []).getD j 0)))
theorem sxq0 : ((flatC gvn).drop 35).take 34 = sExp 0 := by decide +kernel
theorem sxq1 : ((flatC gvn).drop 69).take 10 = sExp 1 := by decide +kernel
theorem sxq2 : ((flatC gvn).drop 79).take 8 = sExp 2 := by decide +kernel
theorem sxq3 : ((flatC gvn).drop 87).take 10 = sExp 3 := by decide +kernel
theorem sxq4 : ((flatC gvn).drop 97).take 8 = sExp 4 := by decide +kernel
theorem sxq5 : ((flatC gvn).drop 105).take 11 = sExp 5 := by decide +kernel
theorem sxq6 : ((flatC gvn).drop 116).take 9 = sExp 6 := by decide +kernel
theorem sxq7 : ((flatC gvn).drop 125).take 7 = sExp 7 := by decide +kernel
theorem sxq8 : ((flatC gvn).drop 132).take 8 = sExp 8 := by decide +kernel
theorem sxq9 : ((flatC gvn).drop 140).take 7 = sExp 9 := by decide +kernel
theorem sxq10 : ((flatC gvn).drop 147).take 9 = sExp 10 := by decide +kernel
theorem sxq11 : ((flatC gvn).drop 156).take 8 = sExp 11 := by decide +kernel
theorem sxq12 : ((flatC gvn).drop 164).take 12 = sExp 12 := by decide +kernel
theorem sxq13 : ((flatC gvn).drop 176).take 9 = sExp 13 := by decide +kernel
theorem sxq14 : ((flatC gvn).drop 185).take 10 = sExp 14 := by decide +kernel
theorem sxq15 : ((flatC gvn).drop 195).take 7 = sExp 15 := by decide +kernel
theorem sxq16 : ((flatC gvn).drop 202).take 6 = sExp 16 := by decide +kernel
theorem sxq17 : ((flatC gvn).drop 208).take 10 = sExp 17 := by decide +kernel
theorem sxq18 : ((flatC gvn).drop 218).take 17 = sExp 18 := by decide +kernel
theorem sxq19 : ((flatC gvn).drop 235).take 18 = sExp 19 := by decide +kernel
theorem sxq20 : ((flatC gvn).drop 253).take 29 = sExp 20 := by decide +kernel
theorem sxq21 : ((flatC gvn).drop 282).take 16 = sExp 21 := by decide +kernel
theorem sxq22 : ((flatC gvn).drop 298).take 27 = sExp 22 := by decide +kernel
theorem sxq23 : ((flatC gvn).drop 325).take 20 = sExp 23 := by decide +kernel
theorem sxq24 : ((flatC gvn).drop 345).take 21 = sExp 24 := by decide +kernel
theorem sxq25 : ((flatC gvn).drop 366).take 15 = sExp 25 := by decide +kernel
theorem sxq26 : ((flatC gvn).drop 381).take 16 = sExp 26 := by decide +kernel
theorem sxq27 : ((flatC gvn).drop 397).take 27 = sExp 27 := by decide +kernel
theorem sx_in : ∀ i, i < 28 → ∀ w ∈ sExp i, w ∈ flatC gvn
  | 0, _, w, h => List.mem_of_mem_drop (List.mem_of_mem_take (by rw [sxq0]; exact h))
  | 1, _, w, h => List.mem_of_mem_drop (List.mem_of_mem_take (by rw [sxq1]; exact h))
  | 2, _, w, h => List.mem_of_mem_drop (List.mem_of_mem_take (by rw [sxq2]; exact h))
  | 3, _, w, h => List.mem_of_mem_drop (List.mem_of_mem_take (by rw [sxq3]; exact h))
  | 4, _, w, h => List.mem_of_mem_drop (List.mem_of_mem_take (by rw [sxq4]; exact h))
  | 5, _, w, h => List.mem_of_mem_drop (List.mem_of_mem_take (by rw [sxq5]; exact h))
  | 6, _, w, h => List.mem_of_mem_drop (List.mem_of_mem_take (by rw [sxq6]; exact h))
  | 7, _, w, h => List.mem_of_mem_drop (List.mem_of_mem_take (by rw [sxq7]; exact h))
  | 8, _, w, h => List.mem_of_mem_drop (List.mem_of_mem_take (by rw [sxq8]; exact h))
  | 9, _, w, h => List.mem_of_mem_drop (List.mem_of_mem_take (by rw [sxq9]; exact h))
  | 10, _, w, h => List.mem_of_mem_drop (List.mem_of_mem_take (by rw [sxq10]; exact h))
  | 11, _, w, h => List.mem_of_mem_drop (List.mem_of_mem_take (by rw [sxq11]; exact h))
  | 12, _, w, h => List.mem_of_mem_drop (List.mem_of_mem_take (by rw [sxq12]; exact h))
  | 13, _, w, h => List.mem_of_mem_drop (List.mem_of_mem_take (by rw [sxq13]; exact h))
  | 14, _, w, h => List.mem_of_mem_drop (List.mem_of_mem_take (by rw [sxq14]; exact h))
  | 15, _, w, h => List.mem_of_mem_drop (List.mem_of_mem_take (by rw [sxq15]; exact h))
  | 16, _, w, h => List.mem_of_mem_drop (List.mem_of_mem_take (by rw [sxq16]; exact h))
  | 17, _, w, h => List.mem_of_mem_drop (List.mem_of_mem_take (by rw [sxq17]; exact h))
  | 18, _, w, h => List.mem_of_mem_drop (List.mem_of_mem_take (by rw [sxq18]; exact h))
  | 19, _, w, h => List.mem_of_mem_drop (List.mem_of_mem_take (by rw [sxq19]; exact h))
  | 20, _, w, h => List.mem_of_mem_drop (List.mem_of_mem_take (by rw [sxq20]; exact h))
  | 21, _, w, h => List.mem_of_mem_drop (List.mem_of_mem_take (by rw [sxq21]; exact h))
  | 22, _, w, h => List.mem_of_mem_drop (List.mem_of_mem_take (by rw [sxq22]; exact h))
  | 23, _, w, h => List.mem_of_mem_drop (List.mem_of_mem_take (by rw [sxq23]; exact h))
  | 24, _, w, h => List.mem_of_mem_drop (List.mem_of_mem_take (by rw [sxq24]; exact h))
  | 25, _, w, h => List.mem_of_mem_drop (List.mem_of_mem_take (by rw [sxq25]; exact h))
  | 26, _, w, h => List.mem_of_mem_drop (List.mem_of_mem_take (by rw [sxq26]; exact h))
  | 27, _, w, h => List.mem_of_mem_drop (List.mem_of_mem_take (by rw [sxq27]; exact h))
  | i + 28, h, _, _ => absurd h (by omega)
theorem gv_ex : ∀ i, i < 28 → Cond.exactly (tmF i) "java/lang/String" ∈ flatC gvn := fun i h => sx_in i h _ List.mem_cons_self
theorem gv_co : ∀ i, i < 28 → Cond.eq (.field (tmF i) "java/lang/String" "coder" "B") (.int 0) ∈ flatC gvn := fun i h => sx_in i h _ (List.mem_cons_of_mem _ List.mem_cons_self)
theorem gv_ar : ∀ i, i < 28 → Cond.arrayOf (.field (tmF i) "java/lang/String" "value" "[B") .byte ∈ flatC gvn := fun i h => sx_in i h _ (List.mem_cons_of_mem _ (List.mem_cons_of_mem _ List.mem_cons_self))
theorem gv_le : ∀ i, i < 28 → Cond.eq (.length (.field (tmF i) "java/lang/String" "value" "[B")) (.int (Int32.ofNat (slen.getD i 0))) ∈ flatC gvn := fun i h => sx_in i h _ (List.mem_cons_of_mem _ (List.mem_cons_of_mem _ (List.mem_cons_of_mem _ List.mem_cons_self)))
theorem gv_el : ∀ i, i < 28 → ∀ j, j < slen.getD i 0 → Cond.eq (.elem (.field (tmF i) "java/lang/String" "value" "[B") (.int (Int32.ofNat j))) (.int ((sbyt.getD i []).getD j 0)) ∈ flatC gvn := fun i h j hj => sx_in i h _ (List.mem_cons_of_mem _ (List.mem_cons_of_mem _ (List.mem_cons_of_mem _ (List.mem_cons_of_mem _ (List.mem_map.mpr ⟨j, List.mem_range.mpr hj, rfl⟩)))))
theorem gv_eq : ∀ q ∈ strs, tmF q.2.2.2 = .string q.1 q.2.1 ∨ Cond.eq (tmF q.2.2.2) (.string q.1 q.2.1) ∈ flatC gvn := by decide +kernel
theorem gv_sr : ∀ q ∈ strs, Cond.stringRef q.1 q.2.1 q.2.2.1 ∈ lw_tbl := by decide +kernel
theorem gv_28 : ∀ q ∈ strs, q.2.2.2 < 28 := by decide +kernel
theorem gv_sz : ∀ i, i < 28 → slen.getD i 0 < 2 ^ 31 := by decide +kernel
theorem st_str {s : State} {b : Nat} (hgv : gvn.before #[Value.ref b] s = true) {i : Nat} (hi : i < 28) : ∃ aK aV : Nat, vk_S 1 [slen.getD i 0] [sbyt.getD i []] (fun _ => aK) (fun _ => aV) (fun q => s.heap.size ≤ q) s s.heap ∧ (tmF i).eval #[Value.ref b] s none [] s = some (.ref aK) := by
  have hs := flat_of_before _ hgv
  have one : ∀ k : Nat, k < 1 → k = 0 := fun k h => by omega
  obtain ⟨adK, adV, h1, h2⟩ := vk_Sof (args := #[Value.ref b]) (s := s) (N := 1) (tm := fun _ => tmF i) (len := [slen.getD i 0]) (byt := [sbyt.getD i []]) (A := fun q => s.heap.size ≤ q)
    (fun k hk => by rw [one k hk]; exact gv_sz i hi) (fun k _ => hs _ (gv_ex i hi)) (fun k _ => hs _ (gv_co i hi)) (fun k _ => hs _ (gv_ar i hi)) (fun k hk => by rw [one k hk]; exact hs _ (gv_le i hi)) (fun k hk j hj => by rw [one k hk] at hj ⊢; exact hs _ (gv_el i hi j hj)) (fun k j hk hj hne => absurd ((one k hk).trans (one j hj).symm) hne) (fun a ha h => by omega)
  refine ⟨adK 0, adV 0, ⟨fun k hk => ?_, fun k j hk hj _ => (one k hk).trans (one j hj).symm⟩, h2 0 (by decide)⟩
  rw [one k hk]
  exact h1.1 0 (by decide)
