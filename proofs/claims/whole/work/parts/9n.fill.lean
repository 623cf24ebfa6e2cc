/-! THE JDK'S fill AND A LOOP THAT FILLS, over a growing world -/
theorem arrV_cong {cI : ClassId} {N : Nat} {f f' : Nat → Value} (h : ∀ j, j < N → f j = f' j) : arrV cI N f = arrV cI N f' := by
  have hs : (arrV cI N f).slots = (arrV cI N f').slots := by
    apply Array.ext_getElem?
    intro j
    by_cases hj : j < N
    · rw [arrV_read _ _ hj, arrV_read _ _ hj, h j hj]
    · rw [Array.getElem?_eq_none (by rw [arrV_size]; omega), Array.getElem?_eq_none (by rw [arrV_size]; omega)]
  have e : arrV cI N f = { arrV cI N f' with slots := (arrV cI N f).slots } := rfl
  rw [e, hs]
theorem cell_cong {cA : ClassId} {N : Nat} {f f' : Nat → Int32} (h : ∀ j, j < N → f j = f' j) : vp_cell cA (N, .inl f) = vp_cell cA (N, .inl f') := by
  show arrV cA N (fun j => .int (f j)) = arrV cA N (fun j => .int (f' j))
  exact arrV_cong (fun j hj => by rw [h j hj])
set_option maxRecDepth 100000 in
set_option maxHeartbeats 4000000 in
theorem c_fill {l : Launch} {n N a : Nat} {g : GG} {ad : Nat → Nat} {f0 : Nat → Int32} {v : Int32} (hN : N < 2 ^ 31) : nwC l mJ7_fill_53178 n 0 0 g ad [.ref a, .int v] [(a, .inl (g.2.1, N, .inl f0))] (fun w => w = [(a, aV g N v)]) := by
  refine nwC.walk (by decide +kernel) rfl (by show 2 ≤ 4; decide) (fun p e s m args below meth c A Z cx hin hret => ?_)
  show nwW p l e (nwR n 0 0) s m args below meth c 4 g A Z 0 [some (.ref a), some (.int v), none, none] [] [(a, .inl (g.2.1, N, .inl f0))] 0 0
  have loop : ∀ (r i : Nat) (f : Nat → Int32), r = N - i → i ≤ N → (∀ j, j < i → f j = v) → nwW p l e (nwR n 0 0) s m args below meth c 4 g A Z 5 [some (.ref a), some (.int v), some (.int (nI i)), some (.int (nI N))] [] [(a, .inl (g.2.1, N, .inl f))] 0 0 := by
    intro r
    induction r with
    | zero =>
      intro i f hr hi hf
      have hi : i = N := by omega
      subst hi
      refine n_iload_n cx (j := 2) (by decide +kernel) rfl ?_
      refine n_iload_n cx (j := 3) (by decide +kernel) rfl ?_
      refine n_icmpge cx (t := 20) (off := 13) (by decide +kernel) (by decide) (fun _ => ?_) (fun h => absurd (nI_leq (Nat.le_refl _) hN) h)
      refine n_same (q0 := 0) (x' := (i, .inl (fun _ => v))) rfl (cell_cong hf) ?_
      exact hret 20 _ _ _ _ (by decide +kernel) rfl (Nat.le_refl _) (Nat.le_refl _)
    | succ r ih =>
      intro i f hr hi hf
      refine n_iload_n cx (j := 2) (by decide +kernel) rfl ?_
      refine n_iload_n cx (j := 3) (by decide +kernel) rfl ?_
      refine n_icmpge cx (t := 20) (off := 13) (by decide +kernel) (by decide) (fun h => absurd h (nI_ge (by omega) hN)) (fun _ => ?_)
      refine n_aload_n cx (j := 0) (by decide +kernel) rfl ?_
      refine n_iload_n cx (j := 2) (by decide +kernel) rfl ?_
      refine n_iload_n cx (j := 1) (by decide +kernel) rfl ?_
      refine n_iast cx (q0 := 0) (by decide +kernel) rfl (vp_in_nI (by omega) hN) ?_
      refine n_iinc cx (j := 2) (v := 1) (by decide +kernel) rfl (by decide) rfl ?_
      refine n_goto cx (t := 5) (off := -12) (by decide +kernel) (by decide) ?_
      have := ih (i + 1) (upd f (nI i).toNatClampNeg v) (by omega) (by omega) (fun j hj => by
        rw [nI_clamp (by omega)]
        by_cases e : j = i
        · rw [e, upd_same]
        · rw [upd_other _ _ e]; exact hf j (by omega))
      rw [← nI_1] at this
      exact this
  refine n_iconst cx (v := 0) (by decide +kernel) ?_
  refine n_istore_n cx (j := 2) (by decide +kernel) (by decide) rfl ?_
  refine n_aload_n cx (j := 0) (by decide +kernel) rfl ?_
  refine n_alen cx (q0 := 0) (by decide +kernel) rfl ?_
  refine n_istore_n cx (j := 3) (by decide +kernel) (by decide) rfl ?_
  exact loop N 0 f0 (by omega) (by omega) (fun j hj => absurd hj (by omega))
