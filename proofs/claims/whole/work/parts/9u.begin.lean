/-! WHAT HOLDS AT THE START -/
theorem gw_sub {w : Cond} (h : w ∈ gw) : w ∈ lw_tbl := (List.mem_filter.mp h).1
theorem vw_inst : ∀ q ∈ vwCl, Cond.instantiable q.1 q.2.2 ∈ lw_tbl := List.forall_mem_cons.mpr ⟨List.mem_of_getElem? (i := 364) (by decide +kernel), List.forall_mem_cons.mpr ⟨List.mem_of_getElem? (i := 393) (by decide +kernel), List.forall_mem_cons.mpr ⟨List.mem_of_getElem? (i := 139) (by decide +kernel), List.forall_mem_cons.mpr ⟨List.mem_of_getElem? (i := 415) (by decide +kernel), List.forall_mem_cons.mpr ⟨List.mem_of_getElem? (i := 308) (by decide +kernel), List.forall_mem_cons.mpr ⟨List.mem_of_getElem? (i := 277) (by decide +kernel), List.forall_mem_cons.mpr ⟨List.mem_of_getElem? (i := 380) (by decide +kernel), List.forall_mem_cons.mpr ⟨List.mem_of_getElem? (i := 310) (by decide +kernel), List.forall_mem_cons.mpr ⟨List.mem_of_getElem? (i := 145) (by decide +kernel), List.forall_mem_cons.mpr ⟨List.mem_of_getElem? (i := 131) (by decide +kernel), List.forall_mem_cons.mpr ⟨List.mem_of_getElem? (i := 1424) (by decide +kernel), fun _ h => absurd h List.not_mem_nil⟩⟩⟩⟩⟩⟩⟩⟩⟩⟩⟩
theorem st_cls {s : State} {b : Nat} (hts : ∀ w ∈ lw_tbl, w.before #[Value.ref b] s = true) : ∃ D : va_G, ∀ (c : Nat) (q : vw_C), vwCl[c]? = some q → u_Kn s q.1 q.2.1 q.2.2 (D.1 c) (D.2 c) := by
  have h0 : ∀ c : Nat, ∃ x : ClassId × (Nat → Nat), ∀ q : vw_C, vwCl[c]? = some q → u_Kn s q.1 q.2.1 q.2.2 x.1 x.2 := by
    intro c
    cases hq : vwCl[c]? with
    | none => exact ⟨(default, fun _ => 0), fun q h => by cases h⟩
    | some q =>
      obtain ⟨C, T, N⟩ := q
      have hi : Cond.instantiable C N ∈ lw_tbl := by
        have hall : ∀ q ∈ vwCl, Cond.instantiable q.1 q.2.2 ∈ lw_tbl := vw_inst
        exact hall _ (List.mem_of_getElem? hq)
      obtain ⟨cC, iS, h⟩ := u_known (ws := lw_tbl) (C := C) (T := T) (N := N) hts (fun w hw => gw_sub (vw_in c C T N hq w hw)) (hts _ hi)
      exact ⟨(cC, iS), fun q h2 => by cases h2; exact h⟩
  exact ⟨(fun c => (Classical.choose (h0 c)).1, fun c => (Classical.choose (h0 c)).2), fun c q hq => Classical.choose_spec (h0 c) q hq⟩
theorem st_arr {s : State} {args : Array Value} {ty : FieldType} (h : (Cond.arrayClass ty).before args s = true) : ∃ c : ClassId, ArrOfT s c ty ∧ s.vm.findClass ("[" ++ ty.toString) = some c := by
  obtain ⟨c, k, comp, h1, h2, h3⟩ := Cond.arrayClass_spec h
  exact ⟨c, fun n z => ⟨fun k h => (by cases h), k, h2, comp, h3⟩, h1⟩
theorem start_GI {s : State} {b : Nat} (hts : ∀ w ∈ lw_tbl, w.before #[Value.ref b] s = true) (hgv : gvn.before #[Value.ref b] s = true) : ∃ (g : GG) (ad : Nat → Nat), ad 2000 = b ∧ GI g ad (fun q => s.heap.size ≤ q) s s.heap ∧ NW s := by
  obtain ⟨D, hD⟩ := st_cls hts
  obtain ⟨cI, i1, i2⟩ := st_arr (hts _ (List.mem_of_getElem? (i := 244) (by decide +kernel) : Cond.arrayClass .int ∈ lw_tbl))
  obtain ⟨cB, b1, b2⟩ := st_arr (hts _ (List.mem_of_getElem? (i := 243) (by decide +kernel) : Cond.arrayClass .byte ∈ lw_tbl))
  obtain ⟨cJ, j1, j2⟩ := st_arr (hts _ (List.mem_of_getElem? (i := 2043) (by decide +kernel) : Cond.arrayClass .long ∈ lw_tbl))
  have hao := hts _ (List.mem_of_getElem? (i := 1430) (by decide +kernel) : Cond.arrayOver (.object "java/lang/String") ∈ lw_tbl)
  obtain ⟨comp, cS, kS, s1, s2, s3, s4, s5⟩ := Cond.arrayOver_spec hao
  have hst : ∀ i : Nat, ∃ x : Nat × Nat, i < 28 → vk_S 1 [slen.getD i 0] [sbyt.getD i []] (fun _ => x.1) (fun _ => x.2) (fun q => s.heap.size ≤ q) s s.heap ∧ (tmF i).eval #[Value.ref b] s none [] s = some (.ref x.1) := by
    intro i
    by_cases hi : i < 28
    · obtain ⟨aK, aV, h⟩ := st_str hgv hi
      exact ⟨(aK, aV), fun _ => h⟩
    · exact ⟨(0, 0), fun h => absurd h hi⟩
  obtain ⟨aK, aV, hA⟩ : ∃ aK aV : Nat → Nat, ∀ i, i < 28 → vk_S 1 [slen.getD i 0] [sbyt.getD i []] (fun _ => aK i) (fun _ => aV i) (fun q => s.heap.size ≤ q) s s.heap ∧ (tmF i).eval #[Value.ref b] s none [] s = some (.ref (aK i)) :=
    ⟨fun i => (Classical.choose (hst i)).1, fun i => (Classical.choose (hst i)).2, fun i hi => Classical.choose_spec (hst i) hi⟩
  have hs := flat_of_before _ hgv
  have hA0 : ∀ a : Nat, a < s.heap.size → ¬ s.heap.size ≤ a := fun a h => by omega
  have had : ∀ i, i < 28 → (fun a : Nat => if a = 2000 then b else aK (a - 1000)) (1000 + i) = aK i := fun i hi => by
    show (if 1000 + i = 2000 then b else aK (1000 + i - 1000)) = aK i
    rw [if_neg (by omega), Nat.add_sub_cancel_left]
  refine ⟨(D, cI, cB, cJ, cS, aV), fun a => if a = 2000 then b else aK (a - 1000), if_pos rfl, ⟨⟨hD, fun k q hk => ?_⟩, fun q hq => ?_, fun i hi => ?_, ?_, ?_, ?_, ?_, fun w hw => ?_, ?_, ?_⟩, fun w hw => ?_, va_AO.of hao⟩
  · match k, hk with
    | 0, hk => cases hk; exact ⟨i1, i2⟩
    | 1, hk => cases hk; exact ⟨b1, b2⟩
    | 2, hk => cases hk; exact ⟨j1, j2⟩
    | 3, hk => cases hk; exact ⟨fun n z => ⟨fun k h => (by cases h), kS, s3, comp, s4⟩, kS, comp, s3, s4, s1, s5⟩
    | k + 4, hk => cases hk
  · have h28 := gv_28 q hq
    rw [had _ h28]
    have he : (Term.string q.1 q.2.1).eval #[Value.ref b] s none [] s = some (.ref (aK q.2.2.2)) := by
      rcases gv_eq q hq with h | h
      · rw [← h]; exact (hA _ h28).2
      · exact va_eqR (hs _ h) (hA _ h28).2
    exact vk_R.of (A := #[Value.ref b]) (hts _ (gv_sr q hq)) he
  · rw [had _ hi]
    exact (hA i hi).1
  · exact vx_Zqof (hts _ (List.mem_of_getElem? (i := 697) (by decide +kernel))) (hts _ (List.mem_of_getElem? (i := 117) (by decide +kernel))) (hs _ (by decide +kernel)) hA0
  · exact vx_Zqof (hts _ (List.mem_of_getElem? (i := 699) (by decide +kernel))) (hts _ (List.mem_of_getElem? (i := 117) (by decide +kernel))) (hs _ (by decide +kernel)) hA0
  · exact va_Zof (hts _ (List.mem_of_getElem? (i := 799) (by decide +kernel))) (hts _ (List.mem_of_getElem? (i := 121) (by decide +kernel))) (va_eqi (hs _ (by decide +kernel))) hA0
  · exact va_Zqof (hts _ (List.mem_of_getElem? (i := 815) (by decide +kernel))) (hts _ (List.mem_of_getElem? (i := 123) (by decide +kernel))) (hs _ (by decide +kernel)) hA0
  · have h1 := (List.mem_filter.mp hw).2
    have h2 := hts w (List.mem_filter.mp hw).1
    refine va_Nw.of ?_ h2
    cases w <;> first | rfl | cases h1
  · exact va_Nc.of (hs _ (by decide +kernel))
  · exact va_Nc.of (hs _ (by decide +kernel))
  · have h1 := (List.mem_filter.mp hw).2
    have h2 := hts w (List.mem_filter.mp hw).1
    refine va_Nw.of ?_ h2
    cases w <;> first | rfl | cases h1
