/-! THE CLASS'S CONSTRUCTORS -/
set_option maxRecDepth 100000 in
set_option maxHeartbeats 4000000 in
theorem c_World {l : Launch} {g : GG} {ad : Nat → Nat} {a : Nat} : nwC l mX9_init 2 6 56 g ad [.ref a] [(a, .inr (8, [.int 0, .int 0, .int 0, .int 0, .int 0, .int 0, .int 0, .int 0, .null, .null, .null, .null, .null, .null]))] (fun wz => ∃ q1 q2 q3 q4 q5 q6 : Nat, wz = [(a, .inr (8, [.int 0, .int 0, .int 0, .int 4, .int 0, .int 0, .int 0, .int 0, .ref q1, .ref q2, .ref q3, .ref q4, .ref q5, .ref q6])), (q1, aI g 8), (q2, aI g 8), (q4, aI g 12), (q6, aI g 8), (q3, aV g 8 (-1)), (q5, aV g 12 (-1))]) := by
  refine nwC.walk (by decide +kernel) rfl (by show 1 ≤ 1; decide) (fun p e s m args below meth c A Z cx hin hret => ?_)
  show nwW p l e _ s m args below meth c 1 g A Z 0 [some (.ref a)] [] [(a, .inr (8, [.int 0, .int 0, .int 0, .int 0, .int 0, .int 0, .int 0, .int 0, .null, .null, .null, .null, .null, .null]))] 0 0
  refine n_aload_n cx (j := 0) (by decide +kernel) rfl ?_
  refine n_objInit cx (idx := 3) (by decide +kernel) (gw_at 149 (by decide +kernel) (by decide +kernel)) (by decide) (by decide) ?_
  refine n_aload_n cx (j := 0) (by decide +kernel) rfl ?_
  refine n_iconst cx (v := 0) (by decide +kernel) ?_
  refine n_put cx (idx := 9) (q0 := 0) (ty := .int) hin (by decide +kernel) lf_RX9_9 ⟨_, _, _, rfl, by decide +kernel, Or.inl rfl⟩ rfl rfl rfl (Nat.le_of_ble_eq_true rfl) ?_
  show nwW p l e _ s m args below meth c 1 g A Z 9 [some (.ref a)] [] [(a, .inr (8, [.int 0, .int 0, .int 0, .int 0, .int 0, .int 0, .int 0, .int 0, .null, .null, .null, .null, .null, .null]))] 0 0
  refine n_aload_n cx (j := 0) (by decide +kernel) rfl ?_
  refine n_iconst cx (v := 0) (by decide +kernel) ?_
  refine n_put cx (idx := 15) (q0 := 0) (ty := .int) hin (by decide +kernel) lf_RX9_15 ⟨_, _, _, rfl, by decide +kernel, Or.inl rfl⟩ rfl rfl rfl (Nat.le_of_ble_eq_true rfl) ?_
  show nwW p l e _ s m args below meth c 1 g A Z 14 [some (.ref a)] [] [(a, .inr (8, [.int 0, .int 0, .int 0, .int 0, .int 0, .int 0, .int 0, .int 0, .null, .null, .null, .null, .null, .null]))] 0 0
  refine n_aload_n cx (j := 0) (by decide +kernel) rfl ?_
  refine n_iconst cx (v := 0) (by decide +kernel) ?_
  refine n_put cx (idx := 18) (q0 := 0) (ty := .int) hin (by decide +kernel) lf_RX9_18 ⟨_, _, _, rfl, by decide +kernel, Or.inl rfl⟩ rfl rfl rfl (Nat.le_of_ble_eq_true rfl) ?_
  show nwW p l e _ s m args below meth c 1 g A Z 19 [some (.ref a)] [] [(a, .inr (8, [.int 0, .int 0, .int 0, .int 0, .int 0, .int 0, .int 0, .int 0, .null, .null, .null, .null, .null, .null]))] 0 0
  refine n_aload_n cx (j := 0) (by decide +kernel) rfl ?_
  refine n_iconst cx (v := 4) (by decide +kernel) ?_
  refine n_put cx (idx := 21) (q0 := 0) (ty := .int) hin (by decide +kernel) lf_RX9_21 ⟨_, _, _, rfl, by decide +kernel, Or.inl rfl⟩ rfl rfl rfl (Nat.le_of_ble_eq_true rfl) ?_
  show nwW p l e _ s m args below meth c 1 g A Z 24 [some (.ref a)] [] [(a, .inr (8, [.int 0, .int 0, .int 0, .int 4, .int 0, .int 0, .int 0, .int 0, .null, .null, .null, .null, .null, .null]))] 0 0
  refine n_aload_n cx (j := 0) (by decide +kernel) rfl ?_
  refine n_iconst cx (v := 0) (by decide +kernel) ?_
  refine n_put cx (idx := 24) (q0 := 0) (ty := .int) hin (by decide +kernel) lf_RX9_24 ⟨_, _, _, rfl, by decide +kernel, Or.inl rfl⟩ rfl rfl rfl (Nat.le_of_ble_eq_true rfl) ?_
  show nwW p l e _ s m args below meth c 1 g A Z 29 [some (.ref a)] [] [(a, .inr (8, [.int 0, .int 0, .int 0, .int 4, .int 0, .int 0, .int 0, .int 0, .null, .null, .null, .null, .null, .null]))] 0 0
  refine n_aload_n cx (j := 0) (by decide +kernel) rfl ?_
  refine n_iconst cx (v := 0) (by decide +kernel) ?_
  refine n_put cx (idx := 27) (q0 := 0) (ty := .int) hin (by decide +kernel) lf_RX9_27 ⟨_, _, _, rfl, by decide +kernel, Or.inl rfl⟩ rfl rfl rfl (Nat.le_of_ble_eq_true rfl) ?_
  show nwW p l e _ s m args below meth c 1 g A Z 34 [some (.ref a)] [] [(a, .inr (8, [.int 0, .int 0, .int 0, .int 4, .int 0, .int 0, .int 0, .int 0, .null, .null, .null, .null, .null, .null]))] 0 0
  refine n_aload_n cx (j := 0) (by decide +kernel) rfl ?_
  refine n_iconst cx (v := 0) (by decide +kernel) ?_
  refine n_put cx (idx := 30) (q0 := 0) (ty := .int) hin (by decide +kernel) lf_RX9_30 ⟨_, _, _, rfl, by decide +kernel, Or.inl rfl⟩ rfl rfl rfl (Nat.le_of_ble_eq_true rfl) ?_
  show nwW p l e _ s m args below meth c 1 g A Z 39 [some (.ref a)] [] [(a, .inr (8, [.int 0, .int 0, .int 0, .int 4, .int 0, .int 0, .int 0, .int 0, .null, .null, .null, .null, .null, .null]))] 0 0
  refine n_aload_n cx (j := 0) (by decide +kernel) rfl ?_
  refine n_iconst cx (v := 0) (by decide +kernel) ?_
  refine n_put cx (idx := 33) (q0 := 0) (ty := .int) hin (by decide +kernel) lf_RX9_33 ⟨_, _, _, rfl, by decide +kernel, Or.inl rfl⟩ rfl rfl rfl (Nat.le_of_ble_eq_true rfl) ?_
  show nwW p l e _ s m args below meth c 1 g A Z 44 [some (.ref a)] [] [(a, .inr (8, [.int 0, .int 0, .int 0, .int 4, .int 0, .int 0, .int 0, .int 0, .null, .null, .null, .null, .null, .null]))] 0 0
  refine n_aload_n cx (j := 0) (by decide +kernel) rfl ?_
  refine n_bipush cx (v := 8) (by decide +kernel) ?_
  refine n_newI cx (N := 8) (by decide +kernel) (by decide) (by decide) (by decide) (gw_at 244 (by decide +kernel) (by decide +kernel)) (by decide) (by decide) (fun q1 => ?_)
  show nwW p l e _ s m args below meth c 1 g A Z 49 [some (.ref a)] [.ref q1, .ref a] [(a, .inr (8, [.int 0, .int 0, .int 0, .int 4, .int 0, .int 0, .int 0, .int 0, .null, .null, .null, .null, .null, .null])), (q1, aI g 8)] 1 8
  refine n_put cx (idx := 36) (q0 := 0) (ty := (.array .int)) hin (by decide +kernel) lf_RX9_36 ⟨_, _, _, rfl, by decide +kernel, Or.inr ⟨rfl, rfl⟩⟩ rfl rfl rfl (Nat.le_of_ble_eq_true rfl) ?_
  show nwW p l e _ s m args below meth c 1 g A Z 52 [some (.ref a)] [] [(a, .inr (8, [.int 0, .int 0, .int 0, .int 4, .int 0, .int 0, .int 0, .int 0, .ref q1, .null, .null, .null, .null, .null])), (q1, aI g 8)] 1 8
  refine n_aload_n cx (j := 0) (by decide +kernel) rfl ?_
  refine n_bipush cx (v := 8) (by decide +kernel) ?_
  refine n_newI cx (N := 8) (by decide +kernel) (by decide) (by decide) (by decide) (gw_at 244 (by decide +kernel) (by decide +kernel)) (by decide) (by decide) (fun q2 => ?_)
  show nwW p l e _ s m args below meth c 1 g A Z 57 [some (.ref a)] [.ref q2, .ref a] [(a, .inr (8, [.int 0, .int 0, .int 0, .int 4, .int 0, .int 0, .int 0, .int 0, .ref q1, .null, .null, .null, .null, .null])), (q1, aI g 8), (q2, aI g 8)] 2 16
  refine n_put cx (idx := 40) (q0 := 0) (ty := (.array .int)) hin (by decide +kernel) lf_RX9_40 ⟨_, _, _, rfl, by decide +kernel, Or.inr ⟨rfl, rfl⟩⟩ rfl rfl rfl (Nat.le_of_ble_eq_true rfl) ?_
  show nwW p l e _ s m args below meth c 1 g A Z 60 [some (.ref a)] [] [(a, .inr (8, [.int 0, .int 0, .int 0, .int 4, .int 0, .int 0, .int 0, .int 0, .ref q1, .ref q2, .null, .null, .null, .null])), (q1, aI g 8), (q2, aI g 8)] 2 16
  refine n_aload_n cx (j := 0) (by decide +kernel) rfl ?_
  refine n_bipush cx (v := 8) (by decide +kernel) ?_
  refine n_newI cx (N := 8) (by decide +kernel) (by decide) (by decide) (by decide) (gw_at 244 (by decide +kernel) (by decide +kernel)) (by decide) (by decide) (fun q3 => ?_)
  show nwW p l e _ s m args below meth c 1 g A Z 65 [some (.ref a)] [.ref q3, .ref a] [(a, .inr (8, [.int 0, .int 0, .int 0, .int 4, .int 0, .int 0, .int 0, .int 0, .ref q1, .ref q2, .null, .null, .null, .null])), (q1, aI g 8), (q2, aI g 8), (q3, aI g 8)] 3 24
  refine n_put cx (idx := 43) (q0 := 0) (ty := (.array .int)) hin (by decide +kernel) lf_RX9_43 ⟨_, _, _, rfl, by decide +kernel, Or.inr ⟨rfl, rfl⟩⟩ rfl rfl rfl (Nat.le_of_ble_eq_true rfl) ?_
  show nwW p l e _ s m args below meth c 1 g A Z 68 [some (.ref a)] [] [(a, .inr (8, [.int 0, .int 0, .int 0, .int 4, .int 0, .int 0, .int 0, .int 0, .ref q1, .ref q2, .ref q3, .null, .null, .null])), (q1, aI g 8), (q2, aI g 8), (q3, aI g 8)] 3 24
  refine n_aload_n cx (j := 0) (by decide +kernel) rfl ?_
  refine n_bipush cx (v := 12) (by decide +kernel) ?_
  refine n_newI cx (N := 12) (by decide +kernel) (by decide) (by decide) (by decide) (gw_at 244 (by decide +kernel) (by decide +kernel)) (by decide) (by decide) (fun q4 => ?_)
  show nwW p l e _ s m args below meth c 1 g A Z 73 [some (.ref a)] [.ref q4, .ref a] [(a, .inr (8, [.int 0, .int 0, .int 0, .int 4, .int 0, .int 0, .int 0, .int 0, .ref q1, .ref q2, .ref q3, .null, .null, .null])), (q1, aI g 8), (q2, aI g 8), (q3, aI g 8), (q4, aI g 12)] 4 36
  refine n_put cx (idx := 46) (q0 := 0) (ty := (.array .int)) hin (by decide +kernel) lf_RX9_46 ⟨_, _, _, rfl, by decide +kernel, Or.inr ⟨rfl, rfl⟩⟩ rfl rfl rfl (Nat.le_of_ble_eq_true rfl) ?_
  show nwW p l e _ s m args below meth c 1 g A Z 76 [some (.ref a)] [] [(a, .inr (8, [.int 0, .int 0, .int 0, .int 4, .int 0, .int 0, .int 0, .int 0, .ref q1, .ref q2, .ref q3, .ref q4, .null, .null])), (q1, aI g 8), (q2, aI g 8), (q3, aI g 8), (q4, aI g 12)] 4 36
  refine n_aload_n cx (j := 0) (by decide +kernel) rfl ?_
  refine n_bipush cx (v := 12) (by decide +kernel) ?_
  refine n_newI cx (N := 12) (by decide +kernel) (by decide) (by decide) (by decide) (gw_at 244 (by decide +kernel) (by decide +kernel)) (by decide) (by decide) (fun q5 => ?_)
  show nwW p l e _ s m args below meth c 1 g A Z 81 [some (.ref a)] [.ref q5, .ref a] [(a, .inr (8, [.int 0, .int 0, .int 0, .int 4, .int 0, .int 0, .int 0, .int 0, .ref q1, .ref q2, .ref q3, .ref q4, .null, .null])), (q1, aI g 8), (q2, aI g 8), (q3, aI g 8), (q4, aI g 12), (q5, aI g 12)] 5 48
  refine n_put cx (idx := 49) (q0 := 0) (ty := (.array .int)) hin (by decide +kernel) lf_RX9_49 ⟨_, _, _, rfl, by decide +kernel, Or.inr ⟨rfl, rfl⟩⟩ rfl rfl rfl (Nat.le_of_ble_eq_true rfl) ?_
  show nwW p l e _ s m args below meth c 1 g A Z 84 [some (.ref a)] [] [(a, .inr (8, [.int 0, .int 0, .int 0, .int 4, .int 0, .int 0, .int 0, .int 0, .ref q1, .ref q2, .ref q3, .ref q4, .ref q5, .null])), (q1, aI g 8), (q2, aI g 8), (q3, aI g 8), (q4, aI g 12), (q5, aI g 12)] 5 48
  refine n_aload_n cx (j := 0) (by decide +kernel) rfl ?_
  refine n_bipush cx (v := 8) (by decide +kernel) ?_
  refine n_newI cx (N := 8) (by decide +kernel) (by decide) (by decide) (by decide) (gw_at 244 (by decide +kernel) (by decide +kernel)) (by decide) (by decide) (fun q6 => ?_)
  show nwW p l e _ s m args below meth c 1 g A Z 89 [some (.ref a)] [.ref q6, .ref a] [(a, .inr (8, [.int 0, .int 0, .int 0, .int 4, .int 0, .int 0, .int 0, .int 0, .ref q1, .ref q2, .ref q3, .ref q4, .ref q5, .null])), (q1, aI g 8), (q2, aI g 8), (q3, aI g 8), (q4, aI g 12), (q5, aI g 12), (q6, aI g 8)] 6 56
  refine n_put cx (idx := 52) (q0 := 0) (ty := (.array .int)) hin (by decide +kernel) lf_RX9_52 ⟨_, _, _, rfl, by decide +kernel, Or.inr ⟨rfl, rfl⟩⟩ rfl rfl rfl (Nat.le_of_ble_eq_true rfl) ?_
  show nwW p l e _ s m args below meth c 1 g A Z 92 [some (.ref a)] [] [(a, .inr (8, [.int 0, .int 0, .int 0, .int 4, .int 0, .int 0, .int 0, .int 0, .ref q1, .ref q2, .ref q3, .ref q4, .ref q5, .ref q6])), (q1, aI g 8), (q2, aI g 8), (q3, aI g 8), (q4, aI g 12), (q5, aI g 12), (q6, aI g 8)] 6 56
  refine n_aload_n cx (j := 0) (by decide +kernel) rfl ?_
  refine n_get cx (idx := 43) (q0 := 0) (ci := 8) (j := 10) (by decide +kernel) lf_RX9_43 rfl rfl ?_
  refine n_iconst cx (v := -1) (by decide +kernel) ?_
  refine n_callS cx (idx := 55) (as := [.ref q3, .int (-1)]) (rest := []) (n' := 1) (wr := [(a, .inr (8, [.int 0, .int 0, .int 0, .int 4, .int 0, .int 0, .int 0, .int 0, .ref q1, .ref q2, .ref q3, .ref q4, .ref q5, .ref q6])), (q1, aI g 8), (q2, aI g 8), (q4, aI g 12), (q5, aI g 12), (q6, aI g 8)]) [3] [0, 1, 2, 4, 5, 6] (by decide +kernel) lm_RX9_55 rfl (by decide) (by decide) (by decide) (by decide) (c_fill (f0 := fun _ => 0) (by decide)) rfl rfl rfl rfl (by decide) (fun w hB => ?_)
  subst hB
  show nwW p l e _ s m args below meth c 1 g A Z 100 [some (.ref a)] [] [(a, .inr (8, [.int 0, .int 0, .int 0, .int 4, .int 0, .int 0, .int 0, .int 0, .ref q1, .ref q2, .ref q3, .ref q4, .ref q5, .ref q6])), (q1, aI g 8), (q2, aI g 8), (q4, aI g 12), (q5, aI g 12), (q6, aI g 8), (q3, aV g 8 (-1))] 6 56
  refine n_aload_n cx (j := 0) (by decide +kernel) rfl ?_
  refine n_get cx (idx := 49) (q0 := 0) (ci := 8) (j := 12) (by decide +kernel) lf_RX9_49 rfl rfl ?_
  refine n_iconst cx (v := -1) (by decide +kernel) ?_
  refine n_callS cx (idx := 55) (as := [.ref q5, .int (-1)]) (rest := []) (n' := 1) (wr := [(a, .inr (8, [.int 0, .int 0, .int 0, .int 4, .int 0, .int 0, .int 0, .int 0, .ref q1, .ref q2, .ref q3, .ref q4, .ref q5, .ref q6])), (q1, aI g 8), (q2, aI g 8), (q4, aI g 12), (q6, aI g 8), (q3, aV g 8 (-1))]) [4] [0, 1, 2, 3, 5, 6] (by decide +kernel) lm_RX9_55 rfl (by decide) (by decide) (by decide) (by decide) (c_fill (f0 := fun _ => 0) (by decide)) rfl rfl rfl rfl (by decide) (fun w hB => ?_)
  subst hB
  show nwW p l e _ s m args below meth c 1 g A Z 108 [some (.ref a)] [] [(a, .inr (8, [.int 0, .int 0, .int 0, .int 4, .int 0, .int 0, .int 0, .int 0, .ref q1, .ref q2, .ref q3, .ref q4, .ref q5, .ref q6])), (q1, aI g 8), (q2, aI g 8), (q4, aI g 12), (q6, aI g 8), (q3, aV g 8 (-1)), (q5, aV g 12 (-1))] 6 56
  exact hret 108 _ _ _ _ (by decide +kernel) ⟨q1, q2, q3, q4, q5, q6, rfl⟩ (by decide) (by decide)
set_option maxRecDepth 100000 in
set_option maxHeartbeats 4000000 in
theorem c_Memory {l : Launch} {g : GG} {ad : Nat → Nat} {a : Nat} : nwC l mX2_init 3 11 1049 g ad [.ref a] [(a, .inr (2, [.null, .null, .null, .int 0, .int 0, .null, .null]))] (fun wz => ∃ q1 q2 q3 q4 q5 q6 q7 q8 q9 q10 q11 : Nat, wz = [(a, .inr (2, [.ref q1, .ref q8, .ref q9, .int 0, .int 0, .ref q10, .ref q11])), (q1, .inr (8, [.int 0, .int 0, .int 0, .int 4, .int 0, .int 0, .int 0, .int 0, .ref q2, .ref q3, .ref q4, .ref q5, .ref q6, .ref q7])), (q2, aI g 8), (q3, aI g 8), (q5, aI g 12), (q7, aI g 8), (q4, aV g 8 (-1)), (q6, aV g 12 (-1)), (q8, aI g 8), (q9, aI g 8), (q10, aI g 960), (q11, aI g 3)]) := by
  refine nwC.walk (by decide +kernel) rfl (by show 1 ≤ 1; decide) (fun p e s m args below meth c A Z cx hin hret => ?_)
  show nwW p l e _ s m args below meth c 1 g A Z 0 [some (.ref a)] [] [(a, .inr (2, [.null, .null, .null, .int 0, .int 0, .null, .null]))] 0 0
  refine n_aload_n cx (j := 0) (by decide +kernel) rfl ?_
  refine n_objInit cx (idx := 5) (by decide +kernel) (gw_at 143 (by decide +kernel) (by decide +kernel)) (by decide) (by decide) ?_
  refine n_aload_n cx (j := 0) (by decide +kernel) rfl ?_
  refine n_new cx (idx := 11) (ci := 8) (by decide +kernel) rfl tyX9 tyX9_ok (gw_at 144 (by decide +kernel) (by decide +kernel)) (gw_at 145 (by decide +kernel) (by decide +kernel)) tw107 (fs := [.int 0, .int 0, .int 0, .int 0, .int 0, .int 0, .int 0, .int 0, .null, .null, .null, .null, .null, .null]) (by decide +kernel) (by decide) (by decide) (fun q1 => ?_)
  show nwW p l e _ s m args below meth c 1 g A Z 8 [some (.ref a)] [.ref q1, .ref a] [(a, .inr (2, [.null, .null, .null, .int 0, .int 0, .null, .null])), (q1, .inr (8, [.int 0, .int 0, .int 0, .int 0, .int 0, .int 0, .int 0, .int 0, .null, .null, .null, .null, .null, .null]))] 1 14
  refine n_dup cx (by decide +kernel) rfl ?_
  refine n_init cx (na := 0) (idx := 13) (as := []) (rest := [.ref q1, .ref a]) (n' := 2) (k' := 6) (z' := 56) (wr := [(a, .inr (2, [.null, .null, .null, .int 0, .int 0, .null, .null]))]) [1] [0] (by decide +kernel) ⟨(gw_at 146 (by decide +kernel) (by decide +kernel)), tw107, (gw_at 147 (by decide +kernel) (by decide +kernel)), (gw_at 148 (by decide +kernel) (by decide +kernel)), rfl, rfl, ⟨by decide +kernel, by decide +kernel, by decide +kernel⟩, by decide⟩ rfl (by decide) (by decide) (by decide) (Nat.le_of_ble_eq_true rfl) (c_World) rfl rfl rfl rfl (by decide) (fun w hB => ?_)
  obtain ⟨q2, q3, q4, q5, q6, q7, rfl⟩ := hB
  show nwW p l e _ s m args below meth c 1 g A Z 12 [some (.ref a)] [.ref q1, .ref a] [(a, .inr (2, [.null, .null, .null, .int 0, .int 0, .null, .null])), (q1, .inr (8, [.int 0, .int 0, .int 0, .int 4, .int 0, .int 0, .int 0, .int 0, .ref q2, .ref q3, .ref q4, .ref q5, .ref q6, .ref q7])), (q2, aI g 8), (q3, aI g 8), (q5, aI g 12), (q7, aI g 8), (q4, aV g 8 (-1)), (q6, aV g 12 (-1))] 7 70
  refine n_put cx (idx := 14) (q0 := 0) (ty := (.object "NamedCoins$World")) hin (by decide +kernel) lf_RX2_14 ⟨_, _, _, rfl, by decide +kernel, Or.inr ⟨rfl, rfl⟩⟩ rfl rfl rfl (Nat.le_of_ble_eq_true rfl) ?_
  show nwW p l e _ s m args below meth c 1 g A Z 15 [some (.ref a)] [] [(a, .inr (2, [.ref q1, .null, .null, .int 0, .int 0, .null, .null])), (q1, .inr (8, [.int 0, .int 0, .int 0, .int 4, .int 0, .int 0, .int 0, .int 0, .ref q2, .ref q3, .ref q4, .ref q5, .ref q6, .ref q7])), (q2, aI g 8), (q3, aI g 8), (q5, aI g 12), (q7, aI g 8), (q4, aV g 8 (-1)), (q6, aV g 12 (-1))] 7 70
  refine n_aload_n cx (j := 0) (by decide +kernel) rfl ?_
  refine n_bipush cx (v := 8) (by decide +kernel) ?_
  refine n_newI cx (N := 8) (by decide +kernel) (by decide) (by decide) (by decide) (gw_at 244 (by decide +kernel) (by decide +kernel)) (by decide) (by decide) (fun q8 => ?_)
  show nwW p l e _ s m args below meth c 1 g A Z 20 [some (.ref a)] [.ref q8, .ref a] [(a, .inr (2, [.ref q1, .null, .null, .int 0, .int 0, .null, .null])), (q1, .inr (8, [.int 0, .int 0, .int 0, .int 4, .int 0, .int 0, .int 0, .int 0, .ref q2, .ref q3, .ref q4, .ref q5, .ref q6, .ref q7])), (q2, aI g 8), (q3, aI g 8), (q5, aI g 12), (q7, aI g 8), (q4, aV g 8 (-1)), (q6, aV g 12 (-1)), (q8, aI g 8)] 8 78
  refine n_put cx (idx := 18) (q0 := 0) (ty := (.array .int)) hin (by decide +kernel) lf_RX2_18 ⟨_, _, _, rfl, by decide +kernel, Or.inr ⟨rfl, rfl⟩⟩ rfl rfl rfl (Nat.le_of_ble_eq_true rfl) ?_
  show nwW p l e _ s m args below meth c 1 g A Z 23 [some (.ref a)] [] [(a, .inr (2, [.ref q1, .ref q8, .null, .int 0, .int 0, .null, .null])), (q1, .inr (8, [.int 0, .int 0, .int 0, .int 4, .int 0, .int 0, .int 0, .int 0, .ref q2, .ref q3, .ref q4, .ref q5, .ref q6, .ref q7])), (q2, aI g 8), (q3, aI g 8), (q5, aI g 12), (q7, aI g 8), (q4, aV g 8 (-1)), (q6, aV g 12 (-1)), (q8, aI g 8)] 8 78
  refine n_aload_n cx (j := 0) (by decide +kernel) rfl ?_
  refine n_bipush cx (v := 8) (by decide +kernel) ?_
  refine n_newI cx (N := 8) (by decide +kernel) (by decide) (by decide) (by decide) (gw_at 244 (by decide +kernel) (by decide +kernel)) (by decide) (by decide) (fun q9 => ?_)
  show nwW p l e _ s m args below meth c 1 g A Z 28 [some (.ref a)] [.ref q9, .ref a] [(a, .inr (2, [.ref q1, .ref q8, .null, .int 0, .int 0, .null, .null])), (q1, .inr (8, [.int 0, .int 0, .int 0, .int 4, .int 0, .int 0, .int 0, .int 0, .ref q2, .ref q3, .ref q4, .ref q5, .ref q6, .ref q7])), (q2, aI g 8), (q3, aI g 8), (q5, aI g 12), (q7, aI g 8), (q4, aV g 8 (-1)), (q6, aV g 12 (-1)), (q8, aI g 8), (q9, aI g 8)] 9 86
  refine n_put cx (idx := 22) (q0 := 0) (ty := (.array .int)) hin (by decide +kernel) lf_RX2_22 ⟨_, _, _, rfl, by decide +kernel, Or.inr ⟨rfl, rfl⟩⟩ rfl rfl rfl (Nat.le_of_ble_eq_true rfl) ?_
  show nwW p l e _ s m args below meth c 1 g A Z 31 [some (.ref a)] [] [(a, .inr (2, [.ref q1, .ref q8, .ref q9, .int 0, .int 0, .null, .null])), (q1, .inr (8, [.int 0, .int 0, .int 0, .int 4, .int 0, .int 0, .int 0, .int 0, .ref q2, .ref q3, .ref q4, .ref q5, .ref q6, .ref q7])), (q2, aI g 8), (q3, aI g 8), (q5, aI g 12), (q7, aI g 8), (q4, aV g 8 (-1)), (q6, aV g 12 (-1)), (q8, aI g 8), (q9, aI g 8)] 9 86
  refine n_aload_n cx (j := 0) (by decide +kernel) rfl ?_
  refine n_iconst cx (v := 0) (by decide +kernel) ?_
  refine n_put cx (idx := 25) (q0 := 0) (ty := .int) hin (by decide +kernel) lf_RX2_25 ⟨_, _, _, rfl, by decide +kernel, Or.inl rfl⟩ rfl rfl rfl (Nat.le_of_ble_eq_true rfl) ?_
  show nwW p l e _ s m args below meth c 1 g A Z 36 [some (.ref a)] [] [(a, .inr (2, [.ref q1, .ref q8, .ref q9, .int 0, .int 0, .null, .null])), (q1, .inr (8, [.int 0, .int 0, .int 0, .int 4, .int 0, .int 0, .int 0, .int 0, .ref q2, .ref q3, .ref q4, .ref q5, .ref q6, .ref q7])), (q2, aI g 8), (q3, aI g 8), (q5, aI g 12), (q7, aI g 8), (q4, aV g 8 (-1)), (q6, aV g 12 (-1)), (q8, aI g 8), (q9, aI g 8)] 9 86
  refine n_aload_n cx (j := 0) (by decide +kernel) rfl ?_
  refine n_iconst cx (v := 0) (by decide +kernel) ?_
  refine n_put cx (idx := 29) (q0 := 0) (ty := .int) hin (by decide +kernel) lf_RX2_29 ⟨_, _, _, rfl, by decide +kernel, Or.inl rfl⟩ rfl rfl rfl (Nat.le_of_ble_eq_true rfl) ?_
  show nwW p l e _ s m args below meth c 1 g A Z 41 [some (.ref a)] [] [(a, .inr (2, [.ref q1, .ref q8, .ref q9, .int 0, .int 0, .null, .null])), (q1, .inr (8, [.int 0, .int 0, .int 0, .int 4, .int 0, .int 0, .int 0, .int 0, .ref q2, .ref q3, .ref q4, .ref q5, .ref q6, .ref q7])), (q2, aI g 8), (q3, aI g 8), (q5, aI g 12), (q7, aI g 8), (q4, aV g 8 (-1)), (q6, aV g 12 (-1)), (q8, aI g 8), (q9, aI g 8)] 9 86
  refine n_aload_n cx (j := 0) (by decide +kernel) rfl ?_
  refine n_sipush cx (v := 960) (by decide +kernel) ?_
  refine n_newI cx (N := 960) (by decide +kernel) (by decide) (by decide) (by decide) (gw_at 244 (by decide +kernel) (by decide +kernel)) (by decide) (by decide) (fun q10 => ?_)
  show nwW p l e _ s m args below meth c 1 g A Z 47 [some (.ref a)] [.ref q10, .ref a] [(a, .inr (2, [.ref q1, .ref q8, .ref q9, .int 0, .int 0, .null, .null])), (q1, .inr (8, [.int 0, .int 0, .int 0, .int 4, .int 0, .int 0, .int 0, .int 0, .ref q2, .ref q3, .ref q4, .ref q5, .ref q6, .ref q7])), (q2, aI g 8), (q3, aI g 8), (q5, aI g 12), (q7, aI g 8), (q4, aV g 8 (-1)), (q6, aV g 12 (-1)), (q8, aI g 8), (q9, aI g 8), (q10, aI g 960)] 10 1046
  refine n_put cx (idx := 32) (q0 := 0) (ty := (.array .int)) hin (by decide +kernel) lf_RX2_32 ⟨_, _, _, rfl, by decide +kernel, Or.inr ⟨rfl, rfl⟩⟩ rfl rfl rfl (Nat.le_of_ble_eq_true rfl) ?_
  show nwW p l e _ s m args below meth c 1 g A Z 50 [some (.ref a)] [] [(a, .inr (2, [.ref q1, .ref q8, .ref q9, .int 0, .int 0, .ref q10, .null])), (q1, .inr (8, [.int 0, .int 0, .int 0, .int 4, .int 0, .int 0, .int 0, .int 0, .ref q2, .ref q3, .ref q4, .ref q5, .ref q6, .ref q7])), (q2, aI g 8), (q3, aI g 8), (q5, aI g 12), (q7, aI g 8), (q4, aV g 8 (-1)), (q6, aV g 12 (-1)), (q8, aI g 8), (q9, aI g 8), (q10, aI g 960)] 10 1046
  refine n_aload_n cx (j := 0) (by decide +kernel) rfl ?_
  refine n_iconst cx (v := 3) (by decide +kernel) ?_
  refine n_newI cx (N := 3) (by decide +kernel) (by decide) (by decide) (by decide) (gw_at 244 (by decide +kernel) (by decide +kernel)) (by decide) (by decide) (fun q11 => ?_)
  show nwW p l e _ s m args below meth c 1 g A Z 54 [some (.ref a)] [.ref q11, .ref a] [(a, .inr (2, [.ref q1, .ref q8, .ref q9, .int 0, .int 0, .ref q10, .null])), (q1, .inr (8, [.int 0, .int 0, .int 0, .int 4, .int 0, .int 0, .int 0, .int 0, .ref q2, .ref q3, .ref q4, .ref q5, .ref q6, .ref q7])), (q2, aI g 8), (q3, aI g 8), (q5, aI g 12), (q7, aI g 8), (q4, aV g 8 (-1)), (q6, aV g 12 (-1)), (q8, aI g 8), (q9, aI g 8), (q10, aI g 960), (q11, aI g 3)] 11 1049
  refine n_put cx (idx := 35) (q0 := 0) (ty := (.array .int)) hin (by decide +kernel) lf_RX2_35 ⟨_, _, _, rfl, by decide +kernel, Or.inr ⟨rfl, rfl⟩⟩ rfl rfl rfl (Nat.le_of_ble_eq_true rfl) ?_
  show nwW p l e _ s m args below meth c 1 g A Z 57 [some (.ref a)] [] [(a, .inr (2, [.ref q1, .ref q8, .ref q9, .int 0, .int 0, .ref q10, .ref q11])), (q1, .inr (8, [.int 0, .int 0, .int 0, .int 4, .int 0, .int 0, .int 0, .int 0, .ref q2, .ref q3, .ref q4, .ref q5, .ref q6, .ref q7])), (q2, aI g 8), (q3, aI g 8), (q5, aI g 12), (q7, aI g 8), (q4, aV g 8 (-1)), (q6, aV g 12 (-1)), (q8, aI g 8), (q9, aI g 8), (q10, aI g 960), (q11, aI g 3)] 11 1049
  exact hret 57 _ _ _ _ (by decide +kernel) ⟨q1, q2, q3, q4, q5, q6, q7, q8, q9, q10, q11, rfl⟩ (by decide) (by decide)
set_option maxRecDepth 100000 in
set_option maxHeartbeats 4000000 in
theorem c_Rules {l : Launch} {g : GG} {ad : Nat → Nat} {a : Nat} : nwC l mX6_init 2 3 747 g ad [.ref a] [(a, .inr (5, [.null, .null, .null, .int 0, .int 0, .int 0, .int 0, .int 0]))] (fun wz => ∃ q1 q2 q3 : Nat, wz = [(a, .inr (5, [.ref q1, .ref q2, .ref q3, .int 0, .int 0, .int 0, .int 0, .int 0])), (q1, aI g 700), (q2, aI g 7), (q3, aI g 40)]) := by
  refine nwC.walk (by decide +kernel) rfl (by show 1 ≤ 1; decide) (fun p e s m args below meth c A Z cx hin hret => ?_)
  show nwW p l e _ s m args below meth c 1 g A Z 0 [some (.ref a)] [] [(a, .inr (5, [.null, .null, .null, .int 0, .int 0, .int 0, .int 0, .int 0]))] 0 0
  refine n_aload_n cx (j := 0) (by decide +kernel) rfl ?_
  refine n_objInit cx (idx := 3) (by decide +kernel) (gw_at 281 (by decide +kernel) (by decide +kernel)) (by decide) (by decide) ?_
  refine n_aload_n cx (j := 0) (by decide +kernel) rfl ?_
  refine n_sipush cx (v := 700) (by decide +kernel) ?_
  refine n_newI cx (N := 700) (by decide +kernel) (by decide) (by decide) (by decide) (gw_at 244 (by decide +kernel) (by decide +kernel)) (by decide) (by decide) (fun q1 => ?_)
  show nwW p l e _ s m args below meth c 1 g A Z 10 [some (.ref a)] [.ref q1, .ref a] [(a, .inr (5, [.null, .null, .null, .int 0, .int 0, .int 0, .int 0, .int 0])), (q1, aI g 700)] 1 700
  refine n_put cx (idx := 9) (q0 := 0) (ty := (.array .int)) hin (by decide +kernel) lf_RX6_9 ⟨_, _, _, rfl, by decide +kernel, Or.inr ⟨rfl, rfl⟩⟩ rfl rfl rfl (Nat.le_of_ble_eq_true rfl) ?_
  show nwW p l e _ s m args below meth c 1 g A Z 13 [some (.ref a)] [] [(a, .inr (5, [.ref q1, .null, .null, .int 0, .int 0, .int 0, .int 0, .int 0])), (q1, aI g 700)] 1 700
  refine n_aload_n cx (j := 0) (by decide +kernel) rfl ?_
  refine n_bipush cx (v := 7) (by decide +kernel) ?_
  refine n_newI cx (N := 7) (by decide +kernel) (by decide) (by decide) (by decide) (gw_at 244 (by decide +kernel) (by decide +kernel)) (by decide) (by decide) (fun q2 => ?_)
  show nwW p l e _ s m args below meth c 1 g A Z 18 [some (.ref a)] [.ref q2, .ref a] [(a, .inr (5, [.ref q1, .null, .null, .int 0, .int 0, .int 0, .int 0, .int 0])), (q1, aI g 700), (q2, aI g 7)] 2 707
  refine n_put cx (idx := 15) (q0 := 0) (ty := (.array .int)) hin (by decide +kernel) lf_RX6_15 ⟨_, _, _, rfl, by decide +kernel, Or.inr ⟨rfl, rfl⟩⟩ rfl rfl rfl (Nat.le_of_ble_eq_true rfl) ?_
  show nwW p l e _ s m args below meth c 1 g A Z 21 [some (.ref a)] [] [(a, .inr (5, [.ref q1, .ref q2, .null, .int 0, .int 0, .int 0, .int 0, .int 0])), (q1, aI g 700), (q2, aI g 7)] 2 707
  refine n_aload_n cx (j := 0) (by decide +kernel) rfl ?_
  refine n_bipush cx (v := 40) (by decide +kernel) ?_
  refine n_newI cx (N := 40) (by decide +kernel) (by decide) (by decide) (by decide) (gw_at 244 (by decide +kernel) (by decide +kernel)) (by decide) (by decide) (fun q3 => ?_)
  show nwW p l e _ s m args below meth c 1 g A Z 26 [some (.ref a)] [.ref q3, .ref a] [(a, .inr (5, [.ref q1, .ref q2, .null, .int 0, .int 0, .int 0, .int 0, .int 0])), (q1, aI g 700), (q2, aI g 7), (q3, aI g 40)] 3 747
  refine n_put cx (idx := 18) (q0 := 0) (ty := (.array .int)) hin (by decide +kernel) lf_RX6_18 ⟨_, _, _, rfl, by decide +kernel, Or.inr ⟨rfl, rfl⟩⟩ rfl rfl rfl (Nat.le_of_ble_eq_true rfl) ?_
  show nwW p l e _ s m args below meth c 1 g A Z 29 [some (.ref a)] [] [(a, .inr (5, [.ref q1, .ref q2, .ref q3, .int 0, .int 0, .int 0, .int 0, .int 0])), (q1, aI g 700), (q2, aI g 7), (q3, aI g 40)] 3 747
  refine n_aload_n cx (j := 0) (by decide +kernel) rfl ?_
  refine n_iconst cx (v := 0) (by decide +kernel) ?_
  refine n_put cx (idx := 21) (q0 := 0) (ty := .int) hin (by decide +kernel) lf_RX6_21 ⟨_, _, _, rfl, by decide +kernel, Or.inl rfl⟩ rfl rfl rfl (Nat.le_of_ble_eq_true rfl) ?_
  show nwW p l e _ s m args below meth c 1 g A Z 34 [some (.ref a)] [] [(a, .inr (5, [.ref q1, .ref q2, .ref q3, .int 0, .int 0, .int 0, .int 0, .int 0])), (q1, aI g 700), (q2, aI g 7), (q3, aI g 40)] 3 747
  refine n_aload_n cx (j := 0) (by decide +kernel) rfl ?_
  refine n_iconst cx (v := 0) (by decide +kernel) ?_
  refine n_put cx (idx := 25) (q0 := 0) (ty := .int) hin (by decide +kernel) lf_RX6_25 ⟨_, _, _, rfl, by decide +kernel, Or.inl rfl⟩ rfl rfl rfl (Nat.le_of_ble_eq_true rfl) ?_
  show nwW p l e _ s m args below meth c 1 g A Z 39 [some (.ref a)] [] [(a, .inr (5, [.ref q1, .ref q2, .ref q3, .int 0, .int 0, .int 0, .int 0, .int 0])), (q1, aI g 700), (q2, aI g 7), (q3, aI g 40)] 3 747
  refine n_aload_n cx (j := 0) (by decide +kernel) rfl ?_
  refine n_iconst cx (v := 0) (by decide +kernel) ?_
  refine n_put cx (idx := 28) (q0 := 0) (ty := .int) hin (by decide +kernel) lf_RX6_28 ⟨_, _, _, rfl, by decide +kernel, Or.inl rfl⟩ rfl rfl rfl (Nat.le_of_ble_eq_true rfl) ?_
  show nwW p l e _ s m args below meth c 1 g A Z 44 [some (.ref a)] [] [(a, .inr (5, [.ref q1, .ref q2, .ref q3, .int 0, .int 0, .int 0, .int 0, .int 0])), (q1, aI g 700), (q2, aI g 7), (q3, aI g 40)] 3 747
  refine n_aload_n cx (j := 0) (by decide +kernel) rfl ?_
  refine n_iconst cx (v := 0) (by decide +kernel) ?_
  refine n_put cx (idx := 31) (q0 := 0) (ty := .int) hin (by decide +kernel) lf_RX6_31 ⟨_, _, _, rfl, by decide +kernel, Or.inl rfl⟩ rfl rfl rfl (Nat.le_of_ble_eq_true rfl) ?_
  show nwW p l e _ s m args below meth c 1 g A Z 49 [some (.ref a)] [] [(a, .inr (5, [.ref q1, .ref q2, .ref q3, .int 0, .int 0, .int 0, .int 0, .int 0])), (q1, aI g 700), (q2, aI g 7), (q3, aI g 40)] 3 747
  refine n_aload_n cx (j := 0) (by decide +kernel) rfl ?_
  refine n_iconst cx (v := 0) (by decide +kernel) ?_
  refine n_put cx (idx := 34) (q0 := 0) (ty := .int) hin (by decide +kernel) lf_RX6_34 ⟨_, _, _, rfl, by decide +kernel, Or.inl rfl⟩ rfl rfl rfl (Nat.le_of_ble_eq_true rfl) ?_
  show nwW p l e _ s m args below meth c 1 g A Z 54 [some (.ref a)] [] [(a, .inr (5, [.ref q1, .ref q2, .ref q3, .int 0, .int 0, .int 0, .int 0, .int 0])), (q1, aI g 700), (q2, aI g 7), (q3, aI g 40)] 3 747
  exact hret 54 _ _ _ _ (by decide +kernel) ⟨q1, q2, q3, rfl⟩ (by decide) (by decide)
set_option maxRecDepth 100000 in
set_option maxHeartbeats 4000000 in
theorem c_Tokens {l : Launch} {g : GG} {ad : Nat → Nat} {a t : Nat} : nwC l mX8_init 2 0 0 g ad [.ref a, .ref t] [(a, .inr (7, [.null, .int 0, .int 0, .int 0, .int 0, .int 0]))] (fun wz => wz = [(a, .inr (7, [.ref t, .int 0, .int 0, .int 0, .int 0, .int 0]))]) := by
  refine nwC.walk (by decide +kernel) rfl (by show 2 ≤ 2; decide) (fun p e s m args below meth c A Z cx hin hret => ?_)
  show nwW p l e _ s m args below meth c 2 g A Z 0 [some (.ref a), some (.ref t)] [] [(a, .inr (7, [.null, .int 0, .int 0, .int 0, .int 0, .int 0]))] 0 0
  refine n_aload_n cx (j := 0) (by decide +kernel) rfl ?_
  refine n_objInit cx (idx := 3) (by decide +kernel) (gw_at 314 (by decide +kernel) (by decide +kernel)) (by decide) (by decide) ?_
  refine n_aload_n cx (j := 0) (by decide +kernel) rfl ?_
  refine n_iconst cx (v := 0) (by decide +kernel) ?_
  refine n_put cx (idx := 9) (q0 := 0) (ty := .int) hin (by decide +kernel) lf_RX8_9 ⟨_, _, _, rfl, by decide +kernel, Or.inl rfl⟩ rfl rfl rfl (Nat.le_of_ble_eq_true rfl) ?_
  show nwW p l e _ s m args below meth c 2 g A Z 9 [some (.ref a), some (.ref t)] [] [(a, .inr (7, [.null, .int 0, .int 0, .int 0, .int 0, .int 0]))] 0 0
  refine n_aload_n cx (j := 0) (by decide +kernel) rfl ?_
  refine n_iconst cx (v := 0) (by decide +kernel) ?_
  refine n_put cx (idx := 15) (q0 := 0) (ty := .int) hin (by decide +kernel) lf_RX8_15 ⟨_, _, _, rfl, by decide +kernel, Or.inl rfl⟩ rfl rfl rfl (Nat.le_of_ble_eq_true rfl) ?_
  show nwW p l e _ s m args below meth c 2 g A Z 14 [some (.ref a), some (.ref t)] [] [(a, .inr (7, [.null, .int 0, .int 0, .int 0, .int 0, .int 0]))] 0 0
  refine n_aload_n cx (j := 0) (by decide +kernel) rfl ?_
  refine n_iconst cx (v := 0) (by decide +kernel) ?_
  refine n_put cx (idx := 18) (q0 := 0) (ty := .int) hin (by decide +kernel) lf_RX8_18 ⟨_, _, _, rfl, by decide +kernel, Or.inl rfl⟩ rfl rfl rfl (Nat.le_of_ble_eq_true rfl) ?_
  show nwW p l e _ s m args below meth c 2 g A Z 19 [some (.ref a), some (.ref t)] [] [(a, .inr (7, [.null, .int 0, .int 0, .int 0, .int 0, .int 0]))] 0 0
  refine n_aload_n cx (j := 0) (by decide +kernel) rfl ?_
  refine n_iconst cx (v := 0) (by decide +kernel) ?_
  refine n_put cx (idx := 21) (q0 := 0) (ty := .int) hin (by decide +kernel) lf_RX8_21 ⟨_, _, _, rfl, by decide +kernel, Or.inl rfl⟩ rfl rfl rfl (Nat.le_of_ble_eq_true rfl) ?_
  show nwW p l e _ s m args below meth c 2 g A Z 24 [some (.ref a), some (.ref t)] [] [(a, .inr (7, [.null, .int 0, .int 0, .int 0, .int 0, .int 0]))] 0 0
  refine n_aload_n cx (j := 0) (by decide +kernel) rfl ?_
  refine n_iconst cx (v := 0) (by decide +kernel) ?_
  refine n_put cx (idx := 24) (q0 := 0) (ty := .int) hin (by decide +kernel) lf_RX8_24 ⟨_, _, _, rfl, by decide +kernel, Or.inl rfl⟩ rfl rfl rfl (Nat.le_of_ble_eq_true rfl) ?_
  show nwW p l e _ s m args below meth c 2 g A Z 29 [some (.ref a), some (.ref t)] [] [(a, .inr (7, [.null, .int 0, .int 0, .int 0, .int 0, .int 0]))] 0 0
  refine n_aload_n cx (j := 0) (by decide +kernel) rfl ?_
  refine n_aload_n cx (j := 1) (by decide +kernel) rfl ?_
  refine n_put cx (idx := 27) (q0 := 0) (ty := (.array .byte)) hin (by decide +kernel) lf_RX8_27 ⟨_, _, _, rfl, by decide +kernel, Or.inr ⟨rfl, rfl⟩⟩ rfl rfl rfl (Nat.le_of_ble_eq_true rfl) ?_
  show nwW p l e _ s m args below meth c 2 g A Z 34 [some (.ref a), some (.ref t)] [] [(a, .inr (7, [.ref t, .int 0, .int 0, .int 0, .int 0, .int 0]))] 0 0
  exact hret 34 _ _ _ _ (by decide +kernel) rfl (by decide) (by decide)
set_option maxRecDepth 100000 in
set_option maxHeartbeats 4000000 in
theorem c_Reader {l : Launch} {g : GG} {ad : Nat → Nat} {a t wo ru : Nat} : nwC l mX5_init 2 0 0 g ad [.ref a, .ref t, .ref wo, .ref ru] [(a, .inr (4, [.null, .null, .null, .int 0, .int 0, .int 0, .int 0]))] (fun wz => wz = [(a, .inr (4, [.ref t, .ref wo, .ref ru, .int 0, .int 0, .int 0, .int (-1)]))]) := by
  refine nwC.walk (by decide +kernel) rfl (by show 4 ≤ 4; decide) (fun p e s m args below meth c A Z cx hin hret => ?_)
  show nwW p l e _ s m args below meth c 4 g A Z 0 [some (.ref a), some (.ref t), some (.ref wo), some (.ref ru)] [] [(a, .inr (4, [.null, .null, .null, .int 0, .int 0, .int 0, .int 0]))] 0 0
  refine n_aload_n cx (j := 0) (by decide +kernel) rfl ?_
  refine n_objInit cx (idx := 3) (by decide +kernel) (gw_at 339 (by decide +kernel) (by decide +kernel)) (by decide) (by decide) ?_
  refine n_aload_n cx (j := 0) (by decide +kernel) rfl ?_
  refine n_iconst cx (v := 0) (by decide +kernel) ?_
  refine n_put cx (idx := 9) (q0 := 0) (ty := .boolean) hin (by decide +kernel) lf_RX5_9 ⟨_, _, _, rfl, by decide +kernel, Or.inl rfl⟩ rfl rfl rfl (Nat.le_of_ble_eq_true rfl) ?_
  show nwW p l e _ s m args below meth c 4 g A Z 9 [some (.ref a), some (.ref t), some (.ref wo), some (.ref ru)] [] [(a, .inr (4, [.null, .null, .null, .int 0, .int 0, .int 0, .int 0]))] 0 0
  refine n_aload_n cx (j := 0) (by decide +kernel) rfl ?_
  refine n_iconst cx (v := 0) (by decide +kernel) ?_
  refine n_put cx (idx := 15) (q0 := 0) (ty := .boolean) hin (by decide +kernel) lf_RX5_15 ⟨_, _, _, rfl, by decide +kernel, Or.inl rfl⟩ rfl rfl rfl (Nat.le_of_ble_eq_true rfl) ?_
  show nwW p l e _ s m args below meth c 4 g A Z 14 [some (.ref a), some (.ref t), some (.ref wo), some (.ref ru)] [] [(a, .inr (4, [.null, .null, .null, .int 0, .int 0, .int 0, .int 0]))] 0 0
  refine n_aload_n cx (j := 0) (by decide +kernel) rfl ?_
  refine n_iconst cx (v := 0) (by decide +kernel) ?_
  refine n_put cx (idx := 18) (q0 := 0) (ty := .int) hin (by decide +kernel) lf_RX5_18 ⟨_, _, _, rfl, by decide +kernel, Or.inl rfl⟩ rfl rfl rfl (Nat.le_of_ble_eq_true rfl) ?_
  show nwW p l e _ s m args below meth c 4 g A Z 19 [some (.ref a), some (.ref t), some (.ref wo), some (.ref ru)] [] [(a, .inr (4, [.null, .null, .null, .int 0, .int 0, .int 0, .int 0]))] 0 0
  refine n_aload_n cx (j := 0) (by decide +kernel) rfl ?_
  refine n_iconst cx (v := -1) (by decide +kernel) ?_
  refine n_put cx (idx := 22) (q0 := 0) (ty := .int) hin (by decide +kernel) lf_RX5_22 ⟨_, _, _, rfl, by decide +kernel, Or.inl rfl⟩ rfl rfl rfl (Nat.le_of_ble_eq_true rfl) ?_
  show nwW p l e _ s m args below meth c 4 g A Z 24 [some (.ref a), some (.ref t), some (.ref wo), some (.ref ru)] [] [(a, .inr (4, [.null, .null, .null, .int 0, .int 0, .int 0, .int (-1)]))] 0 0
  refine n_aload_n cx (j := 0) (by decide +kernel) rfl ?_
  refine n_aload_n cx (j := 1) (by decide +kernel) rfl ?_
  refine n_put cx (idx := 25) (q0 := 0) (ty := (.object "NamedCoins$Tokens")) hin (by decide +kernel) lf_RX5_25 ⟨_, _, _, rfl, by decide +kernel, Or.inr ⟨rfl, rfl⟩⟩ rfl rfl rfl (Nat.le_of_ble_eq_true rfl) ?_
  show nwW p l e _ s m args below meth c 4 g A Z 29 [some (.ref a), some (.ref t), some (.ref wo), some (.ref ru)] [] [(a, .inr (4, [.ref t, .null, .null, .int 0, .int 0, .int 0, .int (-1)]))] 0 0
  refine n_aload_n cx (j := 0) (by decide +kernel) rfl ?_
  refine n_aload_n cx (j := 2) (by decide +kernel) rfl ?_
  refine n_put cx (idx := 29) (q0 := 0) (ty := (.object "NamedCoins$World")) hin (by decide +kernel) lf_RX5_29 ⟨_, _, _, rfl, by decide +kernel, Or.inr ⟨rfl, rfl⟩⟩ rfl rfl rfl (Nat.le_of_ble_eq_true rfl) ?_
  show nwW p l e _ s m args below meth c 4 g A Z 34 [some (.ref a), some (.ref t), some (.ref wo), some (.ref ru)] [] [(a, .inr (4, [.ref t, .ref wo, .null, .int 0, .int 0, .int 0, .int (-1)]))] 0 0
  refine n_aload_n cx (j := 0) (by decide +kernel) rfl ?_
  refine n_aload_n cx (j := 3) (by decide +kernel) rfl ?_
  refine n_put cx (idx := 33) (q0 := 0) (ty := (.object "NamedCoins$Rules")) hin (by decide +kernel) lf_RX5_33 ⟨_, _, _, rfl, by decide +kernel, Or.inr ⟨rfl, rfl⟩⟩ rfl rfl rfl (Nat.le_of_ble_eq_true rfl) ?_
  show nwW p l e _ s m args below meth c 4 g A Z 39 [some (.ref a), some (.ref t), some (.ref wo), some (.ref ru)] [] [(a, .inr (4, [.ref t, .ref wo, .ref ru, .int 0, .int 0, .int 0, .int (-1)]))] 0 0
  exact hret 39 _ _ _ _ (by decide +kernel) rfl (by decide) (by decide)
set_option maxRecDepth 100000 in
set_option maxHeartbeats 4000000 in
theorem c_Course {l : Launch} {g : GG} {ad : Nat → Nat} {a no wo ru : Nat} : nwC l mX0_init 2 0 0 g ad [.ref a, .ref no, .ref wo, .ref ru] [(a, .inr (0, [.null, .null, .null]))] (fun wz => wz = [(a, .inr (0, [.ref no, .ref wo, .ref ru]))]) := by
  refine nwC.walk (by decide +kernel) rfl (by show 4 ≤ 4; decide) (fun p e s m args below meth c A Z cx hin hret => ?_)
  show nwW p l e _ s m args below meth c 4 g A Z 0 [some (.ref a), some (.ref no), some (.ref wo), some (.ref ru)] [] [(a, .inr (0, [.null, .null, .null]))] 0 0
  refine n_aload_n cx (j := 0) (by decide +kernel) rfl ?_
  refine n_objInit cx (idx := 3) (by decide +kernel) (gw_at 368 (by decide +kernel) (by decide +kernel)) (by decide) (by decide) ?_
  refine n_aload_n cx (j := 0) (by decide +kernel) rfl ?_
  refine n_aload_n cx (j := 1) (by decide +kernel) rfl ?_
  refine n_put cx (idx := 9) (q0 := 0) (ty := (.object "NamedCoins$World")) hin (by decide +kernel) lf_RX0_9 ⟨_, _, _, rfl, by decide +kernel, Or.inr ⟨rfl, rfl⟩⟩ rfl rfl rfl (Nat.le_of_ble_eq_true rfl) ?_
  show nwW p l e _ s m args below meth c 4 g A Z 9 [some (.ref a), some (.ref no), some (.ref wo), some (.ref ru)] [] [(a, .inr (0, [.ref no, .null, .null]))] 0 0
  refine n_aload_n cx (j := 0) (by decide +kernel) rfl ?_
  refine n_aload_n cx (j := 2) (by decide +kernel) rfl ?_
  refine n_put cx (idx := 15) (q0 := 0) (ty := (.object "NamedCoins$World")) hin (by decide +kernel) lf_RX0_15 ⟨_, _, _, rfl, by decide +kernel, Or.inr ⟨rfl, rfl⟩⟩ rfl rfl rfl (Nat.le_of_ble_eq_true rfl) ?_
  show nwW p l e _ s m args below meth c 4 g A Z 14 [some (.ref a), some (.ref no), some (.ref wo), some (.ref ru)] [] [(a, .inr (0, [.ref no, .ref wo, .null]))] 0 0
  refine n_aload_n cx (j := 0) (by decide +kernel) rfl ?_
  refine n_aload_n cx (j := 3) (by decide +kernel) rfl ?_
  refine n_put cx (idx := 18) (q0 := 0) (ty := (.object "NamedCoins$Rules")) hin (by decide +kernel) lf_RX0_18 ⟨_, _, _, rfl, by decide +kernel, Or.inr ⟨rfl, rfl⟩⟩ rfl rfl rfl (Nat.le_of_ble_eq_true rfl) ?_
  show nwW p l e _ s m args below meth c 4 g A Z 19 [some (.ref a), some (.ref no), some (.ref wo), some (.ref ru)] [] [(a, .inr (0, [.ref no, .ref wo, .ref ru]))] 0 0
  exact hret 19 _ _ _ _ (by decide +kernel) rfl (by decide) (by decide)
set_option maxRecDepth 100000 in
set_option maxHeartbeats 4000000 in
theorem c_Sums {l : Launch} {g : GG} {ad : Nat → Nat} {a : Nat} : nwC l mX7_init 2 2 128 g ad [.ref a] [(a, .inr (6, [.null, .null]))] (fun wz => ∃ q1 q2 : Nat, wz = [(a, .inr (6, [.ref q1, .ref q2])), (q1, aI g 64), (q2, aI g 64)]) := by
  refine nwC.walk (by decide +kernel) rfl (by show 1 ≤ 1; decide) (fun p e s m args below meth c A Z cx hin hret => ?_)
  show nwW p l e _ s m args below meth c 1 g A Z 0 [some (.ref a)] [] [(a, .inr (6, [.null, .null]))] 0 0
  refine n_aload_n cx (j := 0) (by decide +kernel) rfl ?_
  refine n_objInit cx (idx := 5) (by decide +kernel) (gw_at 384 (by decide +kernel) (by decide +kernel)) (by decide) (by decide) ?_
  refine n_aload_n cx (j := 0) (by decide +kernel) rfl ?_
  refine n_bipush cx (v := 64) (by decide +kernel) ?_
  refine n_newI cx (N := 64) (by decide +kernel) (by decide) (by decide) (by decide) (gw_at 244 (by decide +kernel) (by decide +kernel)) (by decide) (by decide) (fun q1 => ?_)
  show nwW p l e _ s m args below meth c 1 g A Z 9 [some (.ref a)] [.ref q1, .ref a] [(a, .inr (6, [.null, .null])), (q1, aI g 64)] 1 64
  refine n_put cx (idx := 11) (q0 := 0) (ty := (.array .int)) hin (by decide +kernel) lf_RX7_11 ⟨_, _, _, rfl, by decide +kernel, Or.inr ⟨rfl, rfl⟩⟩ rfl rfl rfl (Nat.le_of_ble_eq_true rfl) ?_
  show nwW p l e _ s m args below meth c 1 g A Z 12 [some (.ref a)] [] [(a, .inr (6, [.ref q1, .null])), (q1, aI g 64)] 1 64
  refine n_aload_n cx (j := 0) (by decide +kernel) rfl ?_
  refine n_bipush cx (v := 64) (by decide +kernel) ?_
  refine n_newI cx (N := 64) (by decide +kernel) (by decide) (by decide) (by decide) (gw_at 244 (by decide +kernel) (by decide +kernel)) (by decide) (by decide) (fun q2 => ?_)
  show nwW p l e _ s m args below meth c 1 g A Z 17 [some (.ref a)] [.ref q2, .ref a] [(a, .inr (6, [.ref q1, .null])), (q1, aI g 64), (q2, aI g 64)] 2 128
  refine n_put cx (idx := 15) (q0 := 0) (ty := (.array .int)) hin (by decide +kernel) lf_RX7_15 ⟨_, _, _, rfl, by decide +kernel, Or.inr ⟨rfl, rfl⟩⟩ rfl rfl rfl (Nat.le_of_ble_eq_true rfl) ?_
  show nwW p l e _ s m args below meth c 1 g A Z 20 [some (.ref a)] [] [(a, .inr (6, [.ref q1, .ref q2])), (q1, aI g 64), (q2, aI g 64)] 2 128
  exact hret 20 _ _ _ _ (by decide +kernel) ⟨q1, q2, rfl⟩ (by decide) (by decide)
set_option maxRecDepth 100000 in
set_option maxHeartbeats 4000000 in
theorem c_Guess {l : Launch} {g : GG} {ad : Nat → Nat} {a me wo ru w : Nat} {fm : List Value} (hfm : fm[0]? = some (.ref w)) : nwC l mX1_init 2 1 12 g ad [.ref a, .ref me, .ref wo, .ref ru] [(a, .inr (1, [.null, .null, .null, .null, .null])), (me, .inr (2, fm))] (fun wz => ∃ q1 : Nat, wz = [(a, .inr (1, [.ref me, .ref w, .ref wo, .ref ru, .ref q1])), (me, .inr (2, fm)), (q1, aI g 12)]) := by
  refine nwC.walk (by decide +kernel) rfl (by show 4 ≤ 4; decide) (fun p e s m args below meth c A Z cx hin hret => ?_)
  show nwW p l e _ s m args below meth c 4 g A Z 0 [some (.ref a), some (.ref me), some (.ref wo), some (.ref ru)] [] [(a, .inr (1, [.null, .null, .null, .null, .null])), (me, .inr (2, fm))] 0 0
  refine n_aload_n cx (j := 0) (by decide +kernel) rfl ?_
  refine n_objInit cx (idx := 3) (by decide +kernel) (gw_at 397 (by decide +kernel) (by decide +kernel)) (by decide) (by decide) ?_
  refine n_aload_n cx (j := 0) (by decide +kernel) rfl ?_
  refine n_bipush cx (v := 12) (by decide +kernel) ?_
  refine n_newI cx (N := 12) (by decide +kernel) (by decide) (by decide) (by decide) (gw_at 244 (by decide +kernel) (by decide +kernel)) (by decide) (by decide) (fun q1 => ?_)
  show nwW p l e _ s m args below meth c 4 g A Z 9 [some (.ref a), some (.ref me), some (.ref wo), some (.ref ru)] [.ref q1, .ref a] [(a, .inr (1, [.null, .null, .null, .null, .null])), (me, .inr (2, fm)), (q1, aI g 12)] 1 12
  refine n_put cx (idx := 9) (q0 := 0) (ty := (.array .int)) hin (by decide +kernel) lf_RX1_9 ⟨_, _, _, rfl, by decide +kernel, Or.inr ⟨rfl, rfl⟩⟩ rfl rfl rfl (Nat.le_of_ble_eq_true rfl) ?_
  show nwW p l e _ s m args below meth c 4 g A Z 12 [some (.ref a), some (.ref me), some (.ref wo), some (.ref ru)] [] [(a, .inr (1, [.null, .null, .null, .null, .ref q1])), (me, .inr (2, fm)), (q1, aI g 12)] 1 12
  refine n_aload_n cx (j := 0) (by decide +kernel) rfl ?_
  refine n_aload_n cx (j := 1) (by decide +kernel) rfl ?_
  refine n_put cx (idx := 15) (q0 := 0) (ty := (.object "NamedCoins$Memory")) hin (by decide +kernel) lf_RX1_15 ⟨_, _, _, rfl, by decide +kernel, Or.inr ⟨rfl, rfl⟩⟩ rfl rfl rfl (Nat.le_of_ble_eq_true rfl) ?_
  show nwW p l e _ s m args below meth c 4 g A Z 17 [some (.ref a), some (.ref me), some (.ref wo), some (.ref ru)] [] [(a, .inr (1, [.ref me, .null, .null, .null, .ref q1])), (me, .inr (2, fm)), (q1, aI g 12)] 1 12
  refine n_aload_n cx (j := 0) (by decide +kernel) rfl ?_
  refine n_aload_n cx (j := 1) (by decide +kernel) rfl ?_
  refine n_get cx (idx := 19) (q0 := 1) (ci := 2) (j := 0) (by decide +kernel) ⟨_, _, _, rfl, by decide, (gw_at 246 (by decide +kernel) (by decide +kernel))⟩ rfl hfm ?_
  refine n_put cx (idx := 25) (q0 := 0) (ty := (.object "NamedCoins$World")) hin (by decide +kernel) lf_RX1_25 ⟨_, _, _, rfl, by decide +kernel, Or.inr ⟨rfl, rfl⟩⟩ rfl rfl rfl (Nat.le_of_ble_eq_true rfl) ?_
  show nwW p l e _ s m args below meth c 4 g A Z 25 [some (.ref a), some (.ref me), some (.ref wo), some (.ref ru)] [] [(a, .inr (1, [.ref me, .ref w, .null, .null, .ref q1])), (me, .inr (2, fm)), (q1, aI g 12)] 1 12
  refine n_aload_n cx (j := 0) (by decide +kernel) rfl ?_
  refine n_aload_n cx (j := 2) (by decide +kernel) rfl ?_
  refine n_put cx (idx := 28) (q0 := 0) (ty := (.object "NamedCoins$World")) hin (by decide +kernel) lf_RX1_28 ⟨_, _, _, rfl, by decide +kernel, Or.inr ⟨rfl, rfl⟩⟩ rfl rfl rfl (Nat.le_of_ble_eq_true rfl) ?_
  show nwW p l e _ s m args below meth c 4 g A Z 30 [some (.ref a), some (.ref me), some (.ref wo), some (.ref ru)] [] [(a, .inr (1, [.ref me, .ref w, .ref wo, .null, .ref q1])), (me, .inr (2, fm)), (q1, aI g 12)] 1 12
  refine n_aload_n cx (j := 0) (by decide +kernel) rfl ?_
  refine n_aload_n cx (j := 3) (by decide +kernel) rfl ?_
  refine n_put cx (idx := 31) (q0 := 0) (ty := (.object "NamedCoins$Rules")) hin (by decide +kernel) lf_RX1_31 ⟨_, _, _, rfl, by decide +kernel, Or.inr ⟨rfl, rfl⟩⟩ rfl rfl rfl (Nat.le_of_ble_eq_true rfl) ?_
  show nwW p l e _ s m args below meth c 4 g A Z 35 [some (.ref a), some (.ref me), some (.ref wo), some (.ref ru)] [] [(a, .inr (1, [.ref me, .ref w, .ref wo, .ref ru, .ref q1])), (me, .inr (2, fm)), (q1, aI g 12)] 1 12
  exact hret 35 _ _ _ _ (by decide +kernel) ⟨q1, rfl⟩ (by decide) (by decide)
set_option maxRecDepth 100000 in
set_option maxHeartbeats 4000000 in
theorem c_Play {l : Launch} {g : GG} {ad : Nat → Nat} {a no wo ru : Nat} : nwC l mX4_init 2 2 8 g ad [.ref a, .ref no, .ref wo, .ref ru] [(a, .inr (3, [.null, .null, .null, .null, .null, .int 0, .int 0, .int 0]))] (fun wz => ∃ q1 q2 : Nat, wz = [(a, .inr (3, [.ref no, .ref wo, .ref ru, .ref q1, .ref q2, .int 1, .int 1, .int 0])), (q1, aI g 4), (q2, aI g 4)]) := by
  refine nwC.walk (by decide +kernel) rfl (by show 4 ≤ 4; decide) (fun p e s m args below meth c A Z cx hin hret => ?_)
  show nwW p l e _ s m args below meth c 4 g A Z 0 [some (.ref a), some (.ref no), some (.ref wo), some (.ref ru)] [] [(a, .inr (3, [.null, .null, .null, .null, .null, .int 0, .int 0, .int 0]))] 0 0
  refine n_aload_n cx (j := 0) (by decide +kernel) rfl ?_
  refine n_objInit cx (idx := 3) (by decide +kernel) (gw_at 419 (by decide +kernel) (by decide +kernel)) (by decide) (by decide) ?_
  refine n_aload_n cx (j := 0) (by decide +kernel) rfl ?_
  refine n_iconst cx (v := 4) (by decide +kernel) ?_
  refine n_newI cx (N := 4) (by decide +kernel) (by decide) (by decide) (by decide) (gw_at 244 (by decide +kernel) (by decide +kernel)) (by decide) (by decide) (fun q1 => ?_)
  show nwW p l e _ s m args below meth c 4 g A Z 8 [some (.ref a), some (.ref no), some (.ref wo), some (.ref ru)] [.ref q1, .ref a] [(a, .inr (3, [.null, .null, .null, .null, .null, .int 0, .int 0, .int 0])), (q1, aI g 4)] 1 4
  refine n_put cx (idx := 9) (q0 := 0) (ty := (.array .int)) hin (by decide +kernel) lf_RX4_9 ⟨_, _, _, rfl, by decide +kernel, Or.inr ⟨rfl, rfl⟩⟩ rfl rfl rfl (Nat.le_of_ble_eq_true rfl) ?_
  show nwW p l e _ s m args below meth c 4 g A Z 11 [some (.ref a), some (.ref no), some (.ref wo), some (.ref ru)] [] [(a, .inr (3, [.null, .null, .null, .ref q1, .null, .int 0, .int 0, .int 0])), (q1, aI g 4)] 1 4
  refine n_aload_n cx (j := 0) (by decide +kernel) rfl ?_
  refine n_iconst cx (v := 4) (by decide +kernel) ?_
  refine n_newI cx (N := 4) (by decide +kernel) (by decide) (by decide) (by decide) (gw_at 244 (by decide +kernel) (by decide +kernel)) (by decide) (by decide) (fun q2 => ?_)
  show nwW p l e _ s m args below meth c 4 g A Z 15 [some (.ref a), some (.ref no), some (.ref wo), some (.ref ru)] [.ref q2, .ref a] [(a, .inr (3, [.null, .null, .null, .ref q1, .null, .int 0, .int 0, .int 0])), (q1, aI g 4), (q2, aI g 4)] 2 8
  refine n_put cx (idx := 15) (q0 := 0) (ty := (.array .int)) hin (by decide +kernel) lf_RX4_15 ⟨_, _, _, rfl, by decide +kernel, Or.inr ⟨rfl, rfl⟩⟩ rfl rfl rfl (Nat.le_of_ble_eq_true rfl) ?_
  show nwW p l e _ s m args below meth c 4 g A Z 18 [some (.ref a), some (.ref no), some (.ref wo), some (.ref ru)] [] [(a, .inr (3, [.null, .null, .null, .ref q1, .ref q2, .int 0, .int 0, .int 0])), (q1, aI g 4), (q2, aI g 4)] 2 8
  refine n_aload_n cx (j := 0) (by decide +kernel) rfl ?_
  refine n_iconst cx (v := 1) (by decide +kernel) ?_
  refine n_put cx (idx := 18) (q0 := 0) (ty := .int) hin (by decide +kernel) lf_RX4_18 ⟨_, _, _, rfl, by decide +kernel, Or.inl rfl⟩ rfl rfl rfl (Nat.le_of_ble_eq_true rfl) ?_
  show nwW p l e _ s m args below meth c 4 g A Z 23 [some (.ref a), some (.ref no), some (.ref wo), some (.ref ru)] [] [(a, .inr (3, [.null, .null, .null, .ref q1, .ref q2, .int 1, .int 0, .int 0])), (q1, aI g 4), (q2, aI g 4)] 2 8
  refine n_aload_n cx (j := 0) (by decide +kernel) rfl ?_
  refine n_iconst cx (v := 1) (by decide +kernel) ?_
  refine n_put cx (idx := 22) (q0 := 0) (ty := .int) hin (by decide +kernel) lf_RX4_22 ⟨_, _, _, rfl, by decide +kernel, Or.inl rfl⟩ rfl rfl rfl (Nat.le_of_ble_eq_true rfl) ?_
  show nwW p l e _ s m args below meth c 4 g A Z 28 [some (.ref a), some (.ref no), some (.ref wo), some (.ref ru)] [] [(a, .inr (3, [.null, .null, .null, .ref q1, .ref q2, .int 1, .int 1, .int 0])), (q1, aI g 4), (q2, aI g 4)] 2 8
  refine n_aload_n cx (j := 0) (by decide +kernel) rfl ?_
  refine n_iconst cx (v := 0) (by decide +kernel) ?_
  refine n_put cx (idx := 25) (q0 := 0) (ty := .int) hin (by decide +kernel) lf_RX4_25 ⟨_, _, _, rfl, by decide +kernel, Or.inl rfl⟩ rfl rfl rfl (Nat.le_of_ble_eq_true rfl) ?_
  show nwW p l e _ s m args below meth c 4 g A Z 33 [some (.ref a), some (.ref no), some (.ref wo), some (.ref ru)] [] [(a, .inr (3, [.null, .null, .null, .ref q1, .ref q2, .int 1, .int 1, .int 0])), (q1, aI g 4), (q2, aI g 4)] 2 8
  refine n_aload_n cx (j := 0) (by decide +kernel) rfl ?_
  refine n_aload_n cx (j := 1) (by decide +kernel) rfl ?_
  refine n_put cx (idx := 28) (q0 := 0) (ty := (.object "NamedCoins$World")) hin (by decide +kernel) lf_RX4_28 ⟨_, _, _, rfl, by decide +kernel, Or.inr ⟨rfl, rfl⟩⟩ rfl rfl rfl (Nat.le_of_ble_eq_true rfl) ?_
  show nwW p l e _ s m args below meth c 4 g A Z 38 [some (.ref a), some (.ref no), some (.ref wo), some (.ref ru)] [] [(a, .inr (3, [.ref no, .null, .null, .ref q1, .ref q2, .int 1, .int 1, .int 0])), (q1, aI g 4), (q2, aI g 4)] 2 8
  refine n_aload_n cx (j := 0) (by decide +kernel) rfl ?_
  refine n_aload_n cx (j := 2) (by decide +kernel) rfl ?_
  refine n_put cx (idx := 32) (q0 := 0) (ty := (.object "NamedCoins$World")) hin (by decide +kernel) lf_RX4_32 ⟨_, _, _, rfl, by decide +kernel, Or.inr ⟨rfl, rfl⟩⟩ rfl rfl rfl (Nat.le_of_ble_eq_true rfl) ?_
  show nwW p l e _ s m args below meth c 4 g A Z 43 [some (.ref a), some (.ref no), some (.ref wo), some (.ref ru)] [] [(a, .inr (3, [.ref no, .ref wo, .null, .ref q1, .ref q2, .int 1, .int 1, .int 0])), (q1, aI g 4), (q2, aI g 4)] 2 8
  refine n_aload_n cx (j := 0) (by decide +kernel) rfl ?_
  refine n_aload_n cx (j := 3) (by decide +kernel) rfl ?_
  refine n_put cx (idx := 35) (q0 := 0) (ty := (.object "NamedCoins$Rules")) hin (by decide +kernel) lf_RX4_35 ⟨_, _, _, rfl, by decide +kernel, Or.inr ⟨rfl, rfl⟩⟩ rfl rfl rfl (Nat.le_of_ble_eq_true rfl) ?_
  show nwW p l e _ s m args below meth c 4 g A Z 48 [some (.ref a), some (.ref no), some (.ref wo), some (.ref ru)] [] [(a, .inr (3, [.ref no, .ref wo, .ref ru, .ref q1, .ref q2, .int 1, .int 1, .int 0])), (q1, aI g 4), (q2, aI g 4)] 2 8
  exact hret 48 _ _ _ _ (by decide +kernel) ⟨q1, q2, rfl⟩ (by decide) (by decide)
