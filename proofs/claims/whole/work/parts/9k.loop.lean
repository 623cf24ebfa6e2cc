/-! THE LAW'S LOOP -/
section Loop
variable {p : Program} {l : Launch} {e : Env} {R : Room} {s : State} {m : MethodId} {args : Array Value} {below : List Frame} {meth : Method} {c : Code} {g : GG} {ad : Nat → Nat} {A : Nat → Prop} {Z : State → Prop} {d : DS} {u L : Nat} {xs : Nat → Int32}
theorem lw_gt {i0 L : Nat} (hL : L ≤ 3072) (hi : i0 ≤ 3078) : nI L - (Int8.ofInt 6).toInt32 < nI i0 ↔ L < i0 + 6 := by
  have e6 : (Int8.ofInt 6).toInt32 = nI 6 := by decide +kernel
  rw [e6]
  by_cases h : 6 ≤ L
  · obtain ⟨j, rfl⟩ : ∃ j, L = j + 6 := ⟨L - 6, by omega⟩
    rw [← nI_add, Int32.add_sub_cancel, nI_ltI (by omega) (by omega)]
    omega
  · have h1 : nI L - nI 6 < 0 := by
      match L, h with
      | 0, _ => decide +kernel
      | 1, _ => decide +kernel
      | 2, _ => decide +kernel
      | 3, _ => decide +kernel
      | 4, _ => decide +kernel
      | 5, _ => decide +kernel
      | L + 6, h => exact absurd (by omega) h
    have h2 : 0 ≤ nI i0 := nI_pos' (by omega)
    rw [Int32.lt_iff_toInt_lt] at h1 ⊢
    rw [Int32.le_iff_toInt_le] at h2
    exact ⟨fun _ => by omega, fun _ => by omega⟩
theorem lw_head (cy : Cy p l e R s m args meth c RL code 7 100 10000 ret g ad A) (hX : va_X (ad 2000) L xs s s.heap) (hbl : ad 2000 < s.heap.size) (hbA : ¬ A (ad 2000)) (hL : L ≤ 3072) {i0 : Nat} (hi : i0 ≤ 3078)
    (h1 : L < i0 + 6 → WF p l e R s m args below meth c 7 g ad A Z 2222 [some (.ref 2000), some (.ref 0), some (.ref 52), some (.ref 87), some (.int (nI i0)), none, none] [] d u) (h2 : ¬ L < i0 + 6 → WF p l e R s m args below meth c 7 g ad A Z 33 [some (.ref 2000), some (.ref 0), some (.ref 52), some (.ref 87), some (.int (nI i0)), none, none] [] d u) : WF p l e R s m args below meth c 7 g ad A Z 23 [some (.ref 2000), some (.ref 0), some (.ref 52), some (.ref 87), some (.int (nI i0)), none, none] [] d u := by
  refine yr_iload cy (j := 4) (by decide +kernel) rfl ?_
  refine yr_aload_n cy (j := 0) (by decide +kernel) rfl ?_
  refine yr_slen cy hX hbl hbA (by decide +kernel) ?_
  refine yr_bipush cy (v := 6) (by decide +kernel) ?_
  refine yr_isub cy (by decide +kernel) ?_
  refine yr_icmp cy (q := .gt) (t := 2222) (off := 2192) (by decide +kernel) (by decide) (fun q => h1 ((lw_gt hL hi).mp q)) (fun q => h2 (fun z => q ((lw_gt hL hi).mpr z)))
theorem lw_round (cy : Cy p l e R s m args meth c RL code 7 100 10000 ret g ad A) (hl : l.stackTraces = false) (hX : va_X (ad 2000) L xs s s.heap) (hbl : ad 2000 < s.heap.size) (hbA : ¬ A (ad 2000)) (hL : L ≤ 3072) {i0 : Nat} (hi : ¬ L < i0 + 6) (hj : JI d) (hu : u + 5 ≤ 10000)
    (K : ∀ d' u', JI d' → u' ≤ u + 5 → WF p l e R s m args below meth c 7 g ad A Z 23 [some (.ref 2000), some (.ref 0), some (.ref 52), some (.ref 87), some (.int (nI (i0 + 6))), none, none] [] d' u') : WF p l e R s m args below meth c 7 g ad A Z 33 [some (.ref 2000), some (.ref 0), some (.ref 52), some (.ref 87), some (.int (nI i0)), none, none] [] d u := by
  have hin : ∀ j : Int, 0 ≤ j ∧ j ≤ 5 → vp_in (nI i0 + Int32.ofInt j) L := by
    intro j hj
    have key : ∀ k : Nat, k ≤ 5 → vp_in (nI i0 + nI k) L := fun k hk => by
      rw [nI_add]
      exact vp_in_nI (by omega) (by omega)
    have h6 : j = 0 ∨ j = 1 ∨ j = 2 ∨ j = 3 ∨ j = 4 ∨ j = 5 := by omega
    rcases h6 with rfl | rfl | rfl | rfl | rfl | rfl
    · exact key 0 (by decide)
    · exact key 1 (by decide)
    · exact key 2 (by decide)
    · exact key 3 (by decide)
    · exact key 4 (by decide)
    · exact key 5 (by decide)
  have hK : ∀ d' u', JI d' → u' ≤ u + 5 → WF p l e R s m args below meth c 7 g ad A Z 2216 [some (.ref 2000), some (.ref 0), some (.ref 52), some (.ref 87), some (.int (nI i0)), none, none] [] d' u' := by
    intro d' u' hj' hu'
    refine yr_iinc cy (j := 4) (v := 6) (by decide +kernel) rfl (by decide) rfl ?_
    refine yr_goto cy (t := 23) (off := -2196) (by decide +kernel) (by decide) ?_
    have := K d' u' hj' hu'
    rw [← nI_add] at this
    exact this
  refine yr_aload_n cy (j := 0) (by decide +kernel) rfl ?_
  refine yr_iload cy (j := 4) (by decide +kernel) rfl ?_
  refine yr_sld cy hX hbl hbA (vp_in_nI (by omega) (by omega)) (by decide +kernel) ?_
  refine yr_bipush cy (v := 63) (by decide +kernel) ?_
  refine yr_iand cy (by decide +kernel) ?_
  refine yr_table cy (dflt := 2176) (lo := 0) (hi := 34) (offs := #[156, 229, 285, 298, 354, 422, 490, 515, 583, 639, 707, 775, 788, 868, 936, 1004, 1017, 1085, 1153, 1209, 1265, 1333, 1413, 1505, 1585, 1641, 1721, 1789, 1845, 1901, 1912, 1992, 2072, 2152, 2163]) (len := 156) (by decide +kernel) (by decide) (fun j off ho => ?_) (by decide) (fun j off ho _ => ?_) (fun _ => hK d u hj (by omega))
  · have hall : ∀ off ∈ [156, 229, 285, 298, 354, 422, 490, 515, 583, 639, 707, 775, 788, 868, 936, 1004, 1017, 1085, 1153, 1209, 1265, 1333, 1413, 1505, 1585, 1641, 1721, 1789, 1845, 1901, 1912, 1992, 2072, 2152, 2163], (0 : Int) ≤ off := by decide
    have := hall off (List.mem_of_getElem? (i := j) (by rw [← ho]; simp))
    omega
  · match j, ho with
    | 0, ho => obtain rfl : (156 : Int) = off := Option.some.inj ho; exact cs_feed cy hl hX hbl hbA hin hj (by omega) hK
    | 1, ho => obtain rfl : (229 : Int) = off := Option.some.inj ho; exact cs_mint cy hl hX hbl hbA hin hj (by omega) hK
    | 2, ho => obtain rfl : (285 : Int) = off := Option.some.inj ho; exact cs_fault cy hl hX hbl hbA hin hj (by omega) hK
    | 3, ho => obtain rfl : (298 : Int) = off := Option.some.inj ho; exact cs_count cy hl hX hbl hbA hin hj (by omega) hK
    | 4, ho => obtain rfl : (354 : Int) = off := Option.some.inj ho; exact cs_person cy hl hX hbl hbA hin hj (by omega) hK
    | 5, ho => obtain rfl : (422 : Int) = off := Option.some.inj ho; exact cs_coin cy hl hX hbl hbA hin hj (by omega) hK
    | 6, ho => obtain rfl : (490 : Int) = off := Option.some.inj ho; exact cs_years cy hl hX hbl hbA hin hj (by omega) hK
    | 7, ho => obtain rfl : (515 : Int) = off := Option.some.inj ho; exact cs_give cy hl hX hbl hbA hin hj (by omega) hK
    | 8, ho => obtain rfl : (583 : Int) = off := Option.some.inj ho; exact cs_search cy hl hX hbl hbA hin hj (by omega) hK
    | 9, ho => obtain rfl : (639 : Int) = off := Option.some.inj ho; exact cs_pays cy hl hX hbl hbA hin hj (by omega) hK
    | 10, ho => obtain rfl : (707 : Int) = off := Option.some.inj ho; exact cs_anew cy hl hX hbl hbA hin hj (by omega) hK
    | 11, ho => obtain rfl : (775 : Int) = off := Option.some.inj ho; exact cs_undo cy hl hX hbl hbA hin hj (by omega) hK
    | 12, ho => obtain rfl : (788 : Int) = off := Option.some.inj ho; exact cs_then cy hl hX hbl hbA hin hj (by omega) hK
    | 13, ho => obtain rfl : (868 : Int) = off := Option.some.inj ho; exact cs_has cy hl hX hbl hbA hin hj (by omega) hK
    | 14, ho => obtain rfl : (936 : Int) = off := Option.some.inj ho; exact cs_later cy hl hX hbl hbA hin hj (by omega) hK
    | 15, ho => obtain rfl : (1004 : Int) = off := Option.some.inj ho; exact cs_next cy hl hX hbl hbA hin hj (by omega) hK
    | 16, ho => obtain rfl : (1017 : Int) = off := Option.some.inj ho; exact cs_gets cy hl hX hbl hbA hin hj (by omega) hK
    | 17, ho => obtain rfl : (1085 : Int) = off := Option.some.inj ho; exact cs_hands cy hl hX hbl hbA hin hj (by omega) hK
    | 18, ho => obtain rfl : (1153 : Int) = off := Option.some.inj ho; exact cs_crumbles cy hl hX hbl hbA hin hj (by omega) hK
    | 19, ho => obtain rfl : (1209 : Int) = off := Option.some.inj ho; exact cs_comesTo cy hl hX hbl hbA hin hj (by omega) hK
    | 20, ho => obtain rfl : (1265 : Int) = off := Option.some.inj ho; exact cs_steps cy hl hX hbl hbA hin hj (by omega) hK
    | 21, ho => obtain rfl : (1333 : Int) = off := Option.some.inj ho; exact cs_toPay cy hl hX hbl hbA hin hj (by omega) hK
    | 22, ho => obtain rfl : (1413 : Int) = off := Option.some.inj ho; exact cs_change cy hl hX hbl hbA hin hj (by omega) hK
    | 23, ho => obtain rfl : (1505 : Int) = off := Option.some.inj ho; exact cs_share cy hl hX hbl hbA hin hj (by omega) hK
    | 24, ho => obtain rfl : (1585 : Int) = off := Option.some.inj ho; exact cs_lacks cy hl hX hbl hbA hin hj (by omega) hK
    | 25, ho => obtain rfl : (1641 : Int) = off := Option.some.inj ho; exact cs_toName cy hl hX hbl hbA hin hj (by omega) hK
    | 26, ho => obtain rfl : (1721 : Int) = off := Option.some.inj ho; exact cs_see cy hl hX hbl hbA hin hj (by omega) hK
    | 27, ho => obtain rfl : (1789 : Int) = off := Option.some.inj ho; exact cs_needy cy hl hX hbl hbA hin hj (by omega) hK
    | 28, ho => obtain rfl : (1845 : Int) = off := Option.some.inj ho; exact cs_look cy hl hX hbl hbA hin hj (by omega) hK
    | 29, ho => obtain rfl : (1901 : Int) = off := Option.some.inj ho; exact cs_forget cy hl hX hbl hbA hin hj (by omega) hK
    | 30, ho => obtain rfl : (1912 : Int) = off := Option.some.inj ho; exact cs_thieves cy hl hX hbl hbA hin hj (by omega) hK
    | 31, ho => obtain rfl : (1992 : Int) = off := Option.some.inj ho; exact cs_game cy hl hX hbl hbA hin hj (by omega) hK
    | 32, ho => obtain rfl : (2072 : Int) = off := Option.some.inj ho; exact cs_ages cy hl hX hbl hbA hin hj (by omega) hK
    | 33, ho => obtain rfl : (2152 : Int) = off := Option.some.inj ho; exact cs_image cy hl hX hbl hbA hin hj (by omega) hK
    | 34, ho => obtain rfl : (2163 : Int) = off := Option.some.inj ho; exact cs_restore cy hl hX hbl hbA hin hj (by omega) hK
    | j + 35, ho => simp at ho
theorem lw_loop (cy : Cy p l e R s m args meth c RL code 7 100 10000 ret g ad A) (hl : l.stackTraces = false) (hX : va_X (ad 2000) L xs s s.heap) (hbl : ad 2000 < s.heap.size) (hbA : ¬ A (ad 2000)) (hL : L ≤ 3072)
    (hE : ∀ (i : Int32) (d : DS) (u : Nat), u ≤ 10000 → WF p l e R s m args below meth c 7 g ad A Z 2222 [some (.ref 2000), some (.ref 0), some (.ref 52), some (.ref 87), some (.int i), none, none] [] d u) : ∀ (f i0 u : Nat) (d : DS), JI d → L ≤ i0 + 6 * f + 5 → i0 ≤ 3078 → u + 5 * f ≤ 10000 → WF p l e R s m args below meth c 7 g ad A Z 23 [some (.ref 2000), some (.ref 0), some (.ref 52), some (.ref 87), some (.int (nI i0)), none, none] [] d u := by
  intro f
  induction f with
  | zero => exact fun i0 u d hj h1 h2 h3 => lw_head cy hX hbl hbA hL h2 (fun _ => hE _ _ _ (by omega)) (fun h => absurd (by omega) h)
  | succ f ih =>
    intro i0 u d hj h1 h2 h3
    refine lw_head cy hX hbl hbA hL h2 (fun _ => hE _ _ _ (by omega)) (fun h => ?_)
    exact lw_round cy hl hX hbl hbA hL h hj (by omega) (fun d' u' hj' hu' => ih (i0 + 6) u' d' hj' (by omega) (by omega) (by omega))
end Loop
