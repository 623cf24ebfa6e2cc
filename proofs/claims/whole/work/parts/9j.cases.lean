/-! THE LAW'S CASES -/
section Cases
variable {p : Program} {l : Launch} {e : Env} {R : Room} {s : State} {m : MethodId} {args : Array Value} {below : List Frame} {meth : Method} {c : Code} {g : GG} {ad : Nat → Nat} {A : Nat → Prop} {Z : State → Prop} {i : Int32} {d : DS} {u L : Nat} {xs : Nat → Int32}
theorem okX_feed : okV RL 102 RX10 mX10_feed 5 := ⟨(gw_at 491 (by decide +kernel) (by decide +kernel)), (gw_at 492 (by decide +kernel) (by decide +kernel)), (gw_at 493 (by decide +kernel) (by decide +kernel)), (gw_at 105 (by decide +kernel) (by decide +kernel)), (gw_at 494 (by decide +kernel) (by decide +kernel)), ⟨rfl, by decide +kernel, by decide +kernel, by decide +kernel⟩, by decide⟩
theorem okM_feed : okV RL 106 RX11 mX11_feed 5 := ⟨(gw_at 1622 (by decide +kernel) (by decide +kernel)), (gw_at 1623 (by decide +kernel) (by decide +kernel)), (gw_at 1624 (by decide +kernel) (by decide +kernel)), (gw_at 116 (by decide +kernel) (by decide +kernel)), (gw_at 1625 (by decide +kernel) (by decide +kernel)), ⟨rfl, by decide +kernel, by decide +kernel, by decide +kernel⟩, by decide⟩
theorem cs_feed (cy : Cy p l e R s m args meth c RL code 7 100 10000 ret g ad A) (hl : l.stackTraces = false) (hX : va_X (ad 2000) L xs s s.heap) (hbl : ad 2000 < s.heap.size) (hbA : ¬ A (ad 2000)) (hin : ∀ j : Int, 0 ≤ j ∧ j ≤ 5 → vp_in (i + Int32.ofInt j) L) (hj : JI d) (hu : u + 5 ≤ 10000)
    (K : ∀ d' u', JI d' → u' ≤ u + 5 → WF p l e R s m args below meth c 7 g ad A Z 2216 [some (.ref 2000), some (.ref 0), some (.ref 52), some (.ref 87), some (.int i), none, none] [] d' u') : WF p l e R s m args below meth c 7 g ad A Z 196 [some (.ref 2000), some (.ref 0), some (.ref 52), some (.ref 87), some (.int i), none, none] [] d u := by
  refine yr_aload_n cy (j := 1) (by decide +kernel) rfl ?_
  refine y_arg cy hX hbl hbA (i := i) (j := 1) rfl rfl (hin 1 (by decide)) (by decide +kernel) (by decide +kernel) (by decide +kernel) (by decide +kernel) (by decide +kernel) ?_
  refine y_arg cy hX hbl hbA (i := i) (j := 2) rfl rfl (hin 2 (by decide)) (by decide +kernel) (by decide +kernel) (by decide +kernel) (by decide +kernel) (by decide +kernel) ?_
  refine y_arg cy hX hbl hbA (i := i) (j := 3) rfl rfl (hin 3 (by decide)) (by decide +kernel) (by decide +kernel) (by decide +kernel) (by decide +kernel) (by decide +kernel) ?_
  refine y_arg cy hX hbl hbA (i := i) (j := 4) rfl rfl (hin 4 (by decide)) (by decide +kernel) (by decide +kernel) (by decide +kernel) (by decide +kernel) (by decide +kernel) ?_
  refine y_arg cy hX hbl hbA (i := i) (j := 5) rfl rfl (hin 5 (by decide)) (by decide +kernel) (by decide +kernel) (by decide +kernel) (by decide +kernel) (by decide +kernel) ?_
  refine yr_callV cy (idx := 102) (as := [.int (scg xs i 1), .int (scg xs i 2), .int (scg xs i 3), .int (scg xs i 4), .int (scg xs i 5)]) (rest := []) (n' := 60) (kc := 0) (by decide +kernel) okX_feed L0 rfl rfl (by decide) (by omega) (by decide) (D_feed (n := 0) hl hj) (fun v d1 hq => ?_) (fun E d2 hx => hx.elim)
  obtain ⟨z, rfl, hC⟩ := hq
  refine yr_aload_n cy (j := 2) (by decide +kernel) rfl ?_
  refine y_arg cy hX hbl hbA (i := i) (j := 1) rfl rfl (hin 1 (by decide)) (by decide +kernel) (by decide +kernel) (by decide +kernel) (by decide +kernel) (by decide +kernel) ?_
  refine y_arg cy hX hbl hbA (i := i) (j := 2) rfl rfl (hin 2 (by decide)) (by decide +kernel) (by decide +kernel) (by decide +kernel) (by decide +kernel) (by decide +kernel) ?_
  refine y_arg cy hX hbl hbA (i := i) (j := 3) rfl rfl (hin 3 (by decide)) (by decide +kernel) (by decide +kernel) (by decide +kernel) (by decide +kernel) (by decide +kernel) ?_
  refine y_arg cy hX hbl hbA (i := i) (j := 4) rfl rfl (hin 4 (by decide)) (by decide +kernel) (by decide +kernel) (by decide +kernel) (by decide +kernel) (by decide +kernel) ?_
  refine y_arg cy hX hbl hbA (i := i) (j := 5) rfl rfl (hin 5 (by decide)) (by decide +kernel) (by decide +kernel) (by decide +kernel) (by decide +kernel) (by decide +kernel) ?_
  refine yr_callV cy (idx := 106) (as := [.int (scg xs i 1), .int (scg xs i 2), .int (scg xs i 3), .int (scg xs i 4), .int (scg xs i 5)]) (rest := [.int z]) (n' := 60) (kc := 0) (by decide +kernel) okM_feed L52 rfl rfl (by decide) (by omega) (by show 1 + 0 ≤ 8; decide) hC (fun v d2 hq => ?_) (fun E d2 hx => hx.elim)
  obtain ⟨rfl, hj2, h87⟩ := hq
  exact yr_icmp cy (t := 2216) (q := .eq) (off := 1952) (by decide +kernel) (by decide) (fun _ => K d2 _ hj2 (by omega)) (fun hne => absurd rfl hne)
theorem okH_mint : okH RL 107 mL_mint hL_mint 3 := ⟨(gw_at 662 (by decide +kernel) (by decide +kernel)), (gw_at 663 (by decide +kernel) (by decide +kernel)), (gw_at 104 (by decide +kernel) (by decide +kernel)), (gw_at 664 (by decide +kernel) (by decide +kernel)), ⟨by decide +kernel, by decide +kernel, by decide +kernel⟩, by decide⟩
theorem okM_mint : okV RL 112 RX11 mX11_mint 1 := ⟨(gw_at 1626 (by decide +kernel) (by decide +kernel)), (gw_at 1627 (by decide +kernel) (by decide +kernel)), (gw_at 1628 (by decide +kernel) (by decide +kernel)), (gw_at 116 (by decide +kernel) (by decide +kernel)), (gw_at 1629 (by decide +kernel) (by decide +kernel)), ⟨rfl, by decide +kernel, by decide +kernel, by decide +kernel⟩, by decide⟩
theorem cs_mint (cy : Cy p l e R s m args meth c RL code 7 100 10000 ret g ad A) (hl : l.stackTraces = false) (hX : va_X (ad 2000) L xs s s.heap) (hbl : ad 2000 < s.heap.size) (hbA : ¬ A (ad 2000)) (hin : ∀ j : Int, 0 ≤ j ∧ j ≤ 5 → vp_in (i + Int32.ofInt j) L) (hj : JI d) (hu : u + 5 ≤ 10000)
    (K : ∀ d' u', JI d' → u' ≤ u + 5 → WF p l e R s m args below meth c 7 g ad A Z 2216 [some (.ref 2000), some (.ref 0), some (.ref 52), some (.ref 87), some (.int i), none, none] [] d' u') : WF p l e R s m args below meth c 7 g ad A Z 269 [some (.ref 2000), some (.ref 0), some (.ref 52), some (.ref 87), some (.int i), none, none] [] d u := by
  refine yr_aload_n cy (j := 1) (by decide +kernel) rfl ?_
  refine y_arg cy hX hbl hbA (i := i) (j := 1) rfl rfl (hin 1 (by decide)) (by decide +kernel) (by decide +kernel) (by decide +kernel) (by decide +kernel) (by decide +kernel) ?_
  refine yr_aload_n cy (j := 3) (by decide +kernel) rfl ?_
  refine yr_callH cy (idx := 107) (as := [.ref 0, .int (scg xs i 1), .ref 87]) (rest := []) (n' := 61) (kc := 1) (by decide +kernel) okH_mint rfl (by decide) (by omega) (by decide) (L_mint (n := 0) hl hj) (fun v d1 hq => ?_)
  obtain ⟨kk, rfl, hC⟩ := hq
  refine yr_istore cy (j := 5) (by decide +kernel) (by decide) rfl ?_
  show WF p l e R s m args below meth c 7 g ad A Z 282 [some (.ref 2000), some (.ref 0), some (.ref 52), some (.ref 87), some (.int i), some (.int kk), none] [] d1 (u + 1)
  refine yr_aload_n cy (j := 2) (by decide +kernel) rfl ?_
  refine y_arg cy hX hbl hbA (i := i) (j := 1) rfl rfl (hin 1 (by decide)) (by decide +kernel) (by decide +kernel) (by decide +kernel) (by decide +kernel) (by decide +kernel) ?_
  refine yr_callV cy (idx := 112) (as := [.int (scg xs i 1)]) (rest := []) (n' := 60) (kc := 0) (by decide +kernel) okM_mint L52 rfl rfl (by decide) (by omega) (by decide) hC (fun v d2 hq => ?_) (fun E d2 hx => hx.elim)
  obtain ⟨y, rfl, hj2, h4, hk, h87⟩ := hq
  exact y_tail cy hl (q := 292) (off := 1894) (by decide) (by omega) (by decide +kernel) (by decide +kernel) (by decide +kernel) (by decide +kernel) (by decide +kernel) (by decide +kernel) (by decide +kernel) (by decide +kernel) (by decide +kernel) (by decide +kernel) (by decide +kernel) (by decide +kernel) (by decide +kernel) (by decide +kernel) (by decide +kernel) (by decide) h4 (fun z => by rw [h87]; exact hk z) (K d2 _ hj2 (by omega))
theorem okX_fault : okV RL 117 RX10 mX10_fault 0 := ⟨(gw_at 499 (by decide +kernel) (by decide +kernel)), (gw_at 500 (by decide +kernel) (by decide +kernel)), (gw_at 501 (by decide +kernel) (by decide +kernel)), (gw_at 105 (by decide +kernel) (by decide +kernel)), (gw_at 502 (by decide +kernel) (by decide +kernel)), ⟨rfl, by decide +kernel, by decide +kernel, by decide +kernel⟩, by decide⟩
theorem okM_fault : okV RL 120 RX11 mX11_fault 0 := ⟨(gw_at 1746 (by decide +kernel) (by decide +kernel)), (gw_at 1747 (by decide +kernel) (by decide +kernel)), (gw_at 1748 (by decide +kernel) (by decide +kernel)), (gw_at 116 (by decide +kernel) (by decide +kernel)), (gw_at 1749 (by decide +kernel) (by decide +kernel)), ⟨rfl, by decide +kernel, by decide +kernel, by decide +kernel⟩, by decide⟩
theorem cs_fault (cy : Cy p l e R s m args meth c RL code 7 100 10000 ret g ad A) (hl : l.stackTraces = false) (hX : va_X (ad 2000) L xs s s.heap) (hbl : ad 2000 < s.heap.size) (hbA : ¬ A (ad 2000)) (hin : ∀ j : Int, 0 ≤ j ∧ j ≤ 5 → vp_in (i + Int32.ofInt j) L) (hj : JI d) (hu : u + 5 ≤ 10000)
    (K : ∀ d' u', JI d' → u' ≤ u + 5 → WF p l e R s m args below meth c 7 g ad A Z 2216 [some (.ref 2000), some (.ref 0), some (.ref 52), some (.ref 87), some (.int i), none, none] [] d' u') : WF p l e R s m args below meth c 7 g ad A Z 325 [some (.ref 2000), some (.ref 0), some (.ref 52), some (.ref 87), some (.int i), none, none] [] d u := by
  refine yr_aload_n cy (j := 1) (by decide +kernel) rfl ?_
  refine yr_callV cy (idx := 117) (as := []) (rest := []) (n' := 60) (kc := 0) (by decide +kernel) okX_fault L0 rfl rfl (by decide) (by omega) (by decide) (D_fault (n := 0) hl hj) (fun v d1 hq => ?_) (fun E d2 hx => hx.elim)
  obtain ⟨z, rfl, hC⟩ := hq
  refine yr_aload_n cy (j := 2) (by decide +kernel) rfl ?_
  refine yr_callV cy (idx := 120) (as := []) (rest := [.int z]) (n' := 60) (kc := 0) (by decide +kernel) okM_fault L52 rfl rfl (by decide) (by omega) (by show 1 + 0 ≤ 8; decide) hC (fun v d2 hq => ?_) (fun E d2 hx => hx.elim)
  obtain ⟨rfl, hj2, h87⟩ := hq
  exact yr_icmp cy (t := 2216) (q := .eq) (off := 1883) (by decide +kernel) (by decide) (fun _ => K d2 _ hj2 (by omega)) (fun hne => absurd rfl hne)
theorem okH_count : okH RL 121 mL_count hL_count 3 := ⟨(gw_at 956 (by decide +kernel) (by decide +kernel)), (gw_at 957 (by decide +kernel) (by decide +kernel)), (gw_at 104 (by decide +kernel) (by decide +kernel)), (gw_at 958 (by decide +kernel) (by decide +kernel)), ⟨by decide +kernel, by decide +kernel, by decide +kernel⟩, by decide⟩
theorem okM_count : okV RL 123 RX11 mX11_count 1 := ⟨(gw_at 1750 (by decide +kernel) (by decide +kernel)), (gw_at 1751 (by decide +kernel) (by decide +kernel)), (gw_at 1752 (by decide +kernel) (by decide +kernel)), (gw_at 116 (by decide +kernel) (by decide +kernel)), (gw_at 1753 (by decide +kernel) (by decide +kernel)), ⟨rfl, by decide +kernel, by decide +kernel, by decide +kernel⟩, by decide⟩
theorem cs_count (cy : Cy p l e R s m args meth c RL code 7 100 10000 ret g ad A) (hl : l.stackTraces = false) (hX : va_X (ad 2000) L xs s s.heap) (hbl : ad 2000 < s.heap.size) (hbA : ¬ A (ad 2000)) (hin : ∀ j : Int, 0 ≤ j ∧ j ≤ 5 → vp_in (i + Int32.ofInt j) L) (hj : JI d) (hu : u + 5 ≤ 10000)
    (K : ∀ d' u', JI d' → u' ≤ u + 5 → WF p l e R s m args below meth c 7 g ad A Z 2216 [some (.ref 2000), some (.ref 0), some (.ref 52), some (.ref 87), some (.int i), none, none] [] d' u') : WF p l e R s m args below meth c 7 g ad A Z 338 [some (.ref 2000), some (.ref 0), some (.ref 52), some (.ref 87), some (.int i), none, none] [] d u := by
  refine yr_aload_n cy (j := 1) (by decide +kernel) rfl ?_
  refine y_arg cy hX hbl hbA (i := i) (j := 1) rfl rfl (hin 1 (by decide)) (by decide +kernel) (by decide +kernel) (by decide +kernel) (by decide +kernel) (by decide +kernel) ?_
  refine yr_aload_n cy (j := 3) (by decide +kernel) rfl ?_
  refine yr_callH cy (idx := 121) (as := [.ref 0, .int (scg xs i 1), .ref 87]) (rest := []) (n' := 61) (kc := 1) (by decide +kernel) okH_count rfl (by decide) (by omega) (by decide) (L_count (n := 0) hl hj) (fun v d1 hq => ?_)
  obtain ⟨kk, rfl, hC⟩ := hq
  refine yr_istore cy (j := 5) (by decide +kernel) (by decide) rfl ?_
  show WF p l e R s m args below meth c 7 g ad A Z 351 [some (.ref 2000), some (.ref 0), some (.ref 52), some (.ref 87), some (.int i), some (.int kk), none] [] d1 (u + 1)
  refine yr_aload_n cy (j := 2) (by decide +kernel) rfl ?_
  refine y_arg cy hX hbl hbA (i := i) (j := 1) rfl rfl (hin 1 (by decide)) (by decide +kernel) (by decide +kernel) (by decide +kernel) (by decide +kernel) (by decide +kernel) ?_
  refine yr_callV cy (idx := 123) (as := [.int (scg xs i 1)]) (rest := []) (n' := 60) (kc := 0) (by decide +kernel) okM_count L52 rfl rfl (by decide) (by omega) (by decide) hC (fun v d2 hq => ?_) (fun E d2 hx => hx.elim)
  obtain ⟨y, rfl, hj2, h4, hk, h87⟩ := hq
  exact y_tail cy hl (q := 361) (off := 1825) (by decide) (by omega) (by decide +kernel) (by decide +kernel) (by decide +kernel) (by decide +kernel) (by decide +kernel) (by decide +kernel) (by decide +kernel) (by decide +kernel) (by decide +kernel) (by decide +kernel) (by decide +kernel) (by decide +kernel) (by decide +kernel) (by decide +kernel) (by decide +kernel) (by decide) h4 (fun z => by rw [h87]; exact hk z) (K d2 _ hj2 (by omega))
theorem okH_person : okH RL 124 mL_person hL_person 4 := ⟨(gw_at 1008 (by decide +kernel) (by decide +kernel)), (gw_at 1009 (by decide +kernel) (by decide +kernel)), (gw_at 104 (by decide +kernel) (by decide +kernel)), (gw_at 1010 (by decide +kernel) (by decide +kernel)), ⟨by decide +kernel, by decide +kernel, by decide +kernel⟩, by decide⟩
theorem okM_person : okV RL 127 RX11 mX11_person 2 := ⟨(gw_at 1790 (by decide +kernel) (by decide +kernel)), (gw_at 1791 (by decide +kernel) (by decide +kernel)), (gw_at 1792 (by decide +kernel) (by decide +kernel)), (gw_at 116 (by decide +kernel) (by decide +kernel)), (gw_at 1793 (by decide +kernel) (by decide +kernel)), ⟨rfl, by decide +kernel, by decide +kernel, by decide +kernel⟩, by decide⟩
theorem cs_person (cy : Cy p l e R s m args meth c RL code 7 100 10000 ret g ad A) (hl : l.stackTraces = false) (hX : va_X (ad 2000) L xs s s.heap) (hbl : ad 2000 < s.heap.size) (hbA : ¬ A (ad 2000)) (hin : ∀ j : Int, 0 ≤ j ∧ j ≤ 5 → vp_in (i + Int32.ofInt j) L) (hj : JI d) (hu : u + 5 ≤ 10000)
    (K : ∀ d' u', JI d' → u' ≤ u + 5 → WF p l e R s m args below meth c 7 g ad A Z 2216 [some (.ref 2000), some (.ref 0), some (.ref 52), some (.ref 87), some (.int i), none, none] [] d' u') : WF p l e R s m args below meth c 7 g ad A Z 394 [some (.ref 2000), some (.ref 0), some (.ref 52), some (.ref 87), some (.int i), none, none] [] d u := by
  refine yr_aload_n cy (j := 1) (by decide +kernel) rfl ?_
  refine y_arg cy hX hbl hbA (i := i) (j := 1) rfl rfl (hin 1 (by decide)) (by decide +kernel) (by decide +kernel) (by decide +kernel) (by decide +kernel) (by decide +kernel) ?_
  refine y_arg cy hX hbl hbA (i := i) (j := 2) rfl rfl (hin 2 (by decide)) (by decide +kernel) (by decide +kernel) (by decide +kernel) (by decide +kernel) (by decide +kernel) ?_
  refine yr_aload_n cy (j := 3) (by decide +kernel) rfl ?_
  refine yr_callH cy (idx := 124) (as := [.ref 0, .int (scg xs i 1), .int (scg xs i 2), .ref 87]) (rest := []) (n' := 61) (kc := 2) (by decide +kernel) okH_person rfl (by decide) (by omega) (by decide) (L_person (n := 0) hl hj) (fun v d1 hq => ?_)
  obtain ⟨kk, rfl, hC⟩ := hq
  refine yr_istore cy (j := 5) (by decide +kernel) (by decide) rfl ?_
  show WF p l e R s m args below meth c 7 g ad A Z 413 [some (.ref 2000), some (.ref 0), some (.ref 52), some (.ref 87), some (.int i), some (.int kk), none] [] d1 (u + 2)
  refine yr_aload_n cy (j := 2) (by decide +kernel) rfl ?_
  refine y_arg cy hX hbl hbA (i := i) (j := 1) rfl rfl (hin 1 (by decide)) (by decide +kernel) (by decide +kernel) (by decide +kernel) (by decide +kernel) (by decide +kernel) ?_
  refine y_arg cy hX hbl hbA (i := i) (j := 2) rfl rfl (hin 2 (by decide)) (by decide +kernel) (by decide +kernel) (by decide +kernel) (by decide +kernel) (by decide +kernel) ?_
  refine yr_callV cy (idx := 127) (as := [.int (scg xs i 1), .int (scg xs i 2)]) (rest := []) (n' := 60) (kc := 0) (by decide +kernel) okM_person L52 rfl rfl (by decide) (by omega) (by decide) hC (fun v d2 hq => ?_) (fun E d2 hx => hx.elim)
  obtain ⟨y, rfl, hj2, h4, hk, h87⟩ := hq
  exact y_tail cy hl (q := 429) (off := 1757) (by decide) (by omega) (by decide +kernel) (by decide +kernel) (by decide +kernel) (by decide +kernel) (by decide +kernel) (by decide +kernel) (by decide +kernel) (by decide +kernel) (by decide +kernel) (by decide +kernel) (by decide +kernel) (by decide +kernel) (by decide +kernel) (by decide +kernel) (by decide +kernel) (by decide) h4 (fun z => by rw [h87]; exact hk z) (K d2 _ hj2 (by omega))
theorem okH_coin : okH RL 128 mL_coin hL_coin 4 := ⟨(gw_at 1032 (by decide +kernel) (by decide +kernel)), (gw_at 1033 (by decide +kernel) (by decide +kernel)), (gw_at 104 (by decide +kernel) (by decide +kernel)), (gw_at 1034 (by decide +kernel) (by decide +kernel)), ⟨by decide +kernel, by decide +kernel, by decide +kernel⟩, by decide⟩
theorem okM_coin : okV RL 130 RX11 mX11_coin 2 := ⟨(gw_at 1805 (by decide +kernel) (by decide +kernel)), (gw_at 1806 (by decide +kernel) (by decide +kernel)), (gw_at 1807 (by decide +kernel) (by decide +kernel)), (gw_at 116 (by decide +kernel) (by decide +kernel)), (gw_at 1808 (by decide +kernel) (by decide +kernel)), ⟨rfl, by decide +kernel, by decide +kernel, by decide +kernel⟩, by decide⟩
theorem cs_coin (cy : Cy p l e R s m args meth c RL code 7 100 10000 ret g ad A) (hl : l.stackTraces = false) (hX : va_X (ad 2000) L xs s s.heap) (hbl : ad 2000 < s.heap.size) (hbA : ¬ A (ad 2000)) (hin : ∀ j : Int, 0 ≤ j ∧ j ≤ 5 → vp_in (i + Int32.ofInt j) L) (hj : JI d) (hu : u + 5 ≤ 10000)
    (K : ∀ d' u', JI d' → u' ≤ u + 5 → WF p l e R s m args below meth c 7 g ad A Z 2216 [some (.ref 2000), some (.ref 0), some (.ref 52), some (.ref 87), some (.int i), none, none] [] d' u') : WF p l e R s m args below meth c 7 g ad A Z 462 [some (.ref 2000), some (.ref 0), some (.ref 52), some (.ref 87), some (.int i), none, none] [] d u := by
  refine yr_aload_n cy (j := 1) (by decide +kernel) rfl ?_
  refine y_arg cy hX hbl hbA (i := i) (j := 1) rfl rfl (hin 1 (by decide)) (by decide +kernel) (by decide +kernel) (by decide +kernel) (by decide +kernel) (by decide +kernel) ?_
  refine y_arg cy hX hbl hbA (i := i) (j := 2) rfl rfl (hin 2 (by decide)) (by decide +kernel) (by decide +kernel) (by decide +kernel) (by decide +kernel) (by decide +kernel) ?_
  refine yr_aload_n cy (j := 3) (by decide +kernel) rfl ?_
  refine yr_callH cy (idx := 128) (as := [.ref 0, .int (scg xs i 1), .int (scg xs i 2), .ref 87]) (rest := []) (n' := 61) (kc := 2) (by decide +kernel) okH_coin rfl (by decide) (by omega) (by decide) (L_coin (n := 0) hl hj) (fun v d1 hq => ?_)
  obtain ⟨kk, rfl, hC⟩ := hq
  refine yr_istore cy (j := 5) (by decide +kernel) (by decide) rfl ?_
  show WF p l e R s m args below meth c 7 g ad A Z 481 [some (.ref 2000), some (.ref 0), some (.ref 52), some (.ref 87), some (.int i), some (.int kk), none] [] d1 (u + 2)
  refine yr_aload_n cy (j := 2) (by decide +kernel) rfl ?_
  refine y_arg cy hX hbl hbA (i := i) (j := 1) rfl rfl (hin 1 (by decide)) (by decide +kernel) (by decide +kernel) (by decide +kernel) (by decide +kernel) (by decide +kernel) ?_
  refine y_arg cy hX hbl hbA (i := i) (j := 2) rfl rfl (hin 2 (by decide)) (by decide +kernel) (by decide +kernel) (by decide +kernel) (by decide +kernel) (by decide +kernel) ?_
  refine yr_callV cy (idx := 130) (as := [.int (scg xs i 1), .int (scg xs i 2)]) (rest := []) (n' := 60) (kc := 0) (by decide +kernel) okM_coin L52 rfl rfl (by decide) (by omega) (by decide) hC (fun v d2 hq => ?_) (fun E d2 hx => hx.elim)
  obtain ⟨y, rfl, hj2, h4, hk, h87⟩ := hq
  exact y_tail cy hl (q := 497) (off := 1689) (by decide) (by omega) (by decide +kernel) (by decide +kernel) (by decide +kernel) (by decide +kernel) (by decide +kernel) (by decide +kernel) (by decide +kernel) (by decide +kernel) (by decide +kernel) (by decide +kernel) (by decide +kernel) (by decide +kernel) (by decide +kernel) (by decide +kernel) (by decide +kernel) (by decide) h4 (fun z => by rw [h87]; exact hk z) (K d2 _ hj2 (by omega))
theorem okX_years : okV RL 131 RX10 mX10_years 1 := ⟨(gw_at 503 (by decide +kernel) (by decide +kernel)), (gw_at 504 (by decide +kernel) (by decide +kernel)), (gw_at 505 (by decide +kernel) (by decide +kernel)), (gw_at 105 (by decide +kernel) (by decide +kernel)), (gw_at 506 (by decide +kernel) (by decide +kernel)), ⟨rfl, by decide +kernel, by decide +kernel, by decide +kernel⟩, by decide⟩
theorem okM_years : okV RL 134 RX11 mX11_years 1 := ⟨(gw_at 1814 (by decide +kernel) (by decide +kernel)), (gw_at 1815 (by decide +kernel) (by decide +kernel)), (gw_at 1816 (by decide +kernel) (by decide +kernel)), (gw_at 116 (by decide +kernel) (by decide +kernel)), (gw_at 1817 (by decide +kernel) (by decide +kernel)), ⟨rfl, by decide +kernel, by decide +kernel, by decide +kernel⟩, by decide⟩
theorem cs_years (cy : Cy p l e R s m args meth c RL code 7 100 10000 ret g ad A) (hl : l.stackTraces = false) (hX : va_X (ad 2000) L xs s s.heap) (hbl : ad 2000 < s.heap.size) (hbA : ¬ A (ad 2000)) (hin : ∀ j : Int, 0 ≤ j ∧ j ≤ 5 → vp_in (i + Int32.ofInt j) L) (hj : JI d) (hu : u + 5 ≤ 10000)
    (K : ∀ d' u', JI d' → u' ≤ u + 5 → WF p l e R s m args below meth c 7 g ad A Z 2216 [some (.ref 2000), some (.ref 0), some (.ref 52), some (.ref 87), some (.int i), none, none] [] d' u') : WF p l e R s m args below meth c 7 g ad A Z 530 [some (.ref 2000), some (.ref 0), some (.ref 52), some (.ref 87), some (.int i), none, none] [] d u := by
  refine yr_aload_n cy (j := 1) (by decide +kernel) rfl ?_
  refine y_arg cy hX hbl hbA (i := i) (j := 1) rfl rfl (hin 1 (by decide)) (by decide +kernel) (by decide +kernel) (by decide +kernel) (by decide +kernel) (by decide +kernel) ?_
  refine yr_callV cy (idx := 131) (as := [.int (scg xs i 1)]) (rest := []) (n' := 60) (kc := 0) (by decide +kernel) okX_years L0 rfl rfl (by decide) (by omega) (by decide) (D_years (n := 0) hl hj) (fun v d1 hq => ?_) (fun E d2 hx => hx.elim)
  obtain ⟨z, rfl, hC⟩ := hq
  refine yr_aload_n cy (j := 2) (by decide +kernel) rfl ?_
  refine y_arg cy hX hbl hbA (i := i) (j := 1) rfl rfl (hin 1 (by decide)) (by decide +kernel) (by decide +kernel) (by decide +kernel) (by decide +kernel) (by decide +kernel) ?_
  refine yr_callV cy (idx := 134) (as := [.int (scg xs i 1)]) (rest := [.int z]) (n' := 60) (kc := 0) (by decide +kernel) okM_years L52 rfl rfl (by decide) (by omega) (by show 1 + 0 ≤ 8; decide) hC (fun v d2 hq => ?_) (fun E d2 hx => hx.elim)
  obtain ⟨rfl, hj2, h87⟩ := hq
  exact yr_icmp cy (t := 2216) (q := .eq) (off := 1666) (by decide +kernel) (by decide) (fun _ => K d2 _ hj2 (by omega)) (fun hne => absurd rfl hne)
theorem okH_give : okH RL 135 mL_give hL_give 4 := ⟨(gw_at 1051 (by decide +kernel) (by decide +kernel)), (gw_at 1052 (by decide +kernel) (by decide +kernel)), (gw_at 104 (by decide +kernel) (by decide +kernel)), (gw_at 1053 (by decide +kernel) (by decide +kernel)), ⟨by decide +kernel, by decide +kernel, by decide +kernel⟩, by decide⟩
theorem okM_give : okV RL 137 RX11 mX11_give 2 := ⟨(gw_at 1874 (by decide +kernel) (by decide +kernel)), (gw_at 1875 (by decide +kernel) (by decide +kernel)), (gw_at 1876 (by decide +kernel) (by decide +kernel)), (gw_at 116 (by decide +kernel) (by decide +kernel)), (gw_at 1877 (by decide +kernel) (by decide +kernel)), ⟨rfl, by decide +kernel, by decide +kernel, by decide +kernel⟩, by decide⟩
theorem cs_give (cy : Cy p l e R s m args meth c RL code 7 100 10000 ret g ad A) (hl : l.stackTraces = false) (hX : va_X (ad 2000) L xs s s.heap) (hbl : ad 2000 < s.heap.size) (hbA : ¬ A (ad 2000)) (hin : ∀ j : Int, 0 ≤ j ∧ j ≤ 5 → vp_in (i + Int32.ofInt j) L) (hj : JI d) (hu : u + 5 ≤ 10000)
    (K : ∀ d' u', JI d' → u' ≤ u + 5 → WF p l e R s m args below meth c 7 g ad A Z 2216 [some (.ref 2000), some (.ref 0), some (.ref 52), some (.ref 87), some (.int i), none, none] [] d' u') : WF p l e R s m args below meth c 7 g ad A Z 555 [some (.ref 2000), some (.ref 0), some (.ref 52), some (.ref 87), some (.int i), none, none] [] d u := by
  refine yr_aload_n cy (j := 1) (by decide +kernel) rfl ?_
  refine y_arg cy hX hbl hbA (i := i) (j := 1) rfl rfl (hin 1 (by decide)) (by decide +kernel) (by decide +kernel) (by decide +kernel) (by decide +kernel) (by decide +kernel) ?_
  refine y_arg cy hX hbl hbA (i := i) (j := 2) rfl rfl (hin 2 (by decide)) (by decide +kernel) (by decide +kernel) (by decide +kernel) (by decide +kernel) (by decide +kernel) ?_
  refine yr_aload_n cy (j := 3) (by decide +kernel) rfl ?_
  refine yr_callH cy (idx := 135) (as := [.ref 0, .int (scg xs i 1), .int (scg xs i 2), .ref 87]) (rest := []) (n' := 61) (kc := 2) (by decide +kernel) okH_give rfl (by decide) (by omega) (by decide) (L_give (n := 0) hl hj) (fun v d1 hq => ?_)
  obtain ⟨kk, rfl, hC⟩ := hq
  refine yr_istore cy (j := 5) (by decide +kernel) (by decide) rfl ?_
  show WF p l e R s m args below meth c 7 g ad A Z 574 [some (.ref 2000), some (.ref 0), some (.ref 52), some (.ref 87), some (.int i), some (.int kk), none] [] d1 (u + 2)
  refine yr_aload_n cy (j := 2) (by decide +kernel) rfl ?_
  refine y_arg cy hX hbl hbA (i := i) (j := 1) rfl rfl (hin 1 (by decide)) (by decide +kernel) (by decide +kernel) (by decide +kernel) (by decide +kernel) (by decide +kernel) ?_
  refine y_arg cy hX hbl hbA (i := i) (j := 2) rfl rfl (hin 2 (by decide)) (by decide +kernel) (by decide +kernel) (by decide +kernel) (by decide +kernel) (by decide +kernel) ?_
  refine yr_callV cy (idx := 137) (as := [.int (scg xs i 1), .int (scg xs i 2)]) (rest := []) (n' := 60) (kc := 0) (by decide +kernel) okM_give L52 rfl rfl (by decide) (by omega) (by decide) hC (fun v d2 hq => ?_) (fun E d2 hx => hx.elim)
  obtain ⟨y, rfl, hj2, h4, hk, h87⟩ := hq
  exact y_tail cy hl (q := 590) (off := 1596) (by decide) (by omega) (by decide +kernel) (by decide +kernel) (by decide +kernel) (by decide +kernel) (by decide +kernel) (by decide +kernel) (by decide +kernel) (by decide +kernel) (by decide +kernel) (by decide +kernel) (by decide +kernel) (by decide +kernel) (by decide +kernel) (by decide +kernel) (by decide +kernel) (by decide) h4 (fun z => by rw [h87]; exact hk z) (K d2 _ hj2 (by omega))
theorem okH_search : okH RL 138 mL_search hL_search 3 := ⟨(gw_at 1064 (by decide +kernel) (by decide +kernel)), (gw_at 1065 (by decide +kernel) (by decide +kernel)), (gw_at 104 (by decide +kernel) (by decide +kernel)), (gw_at 1066 (by decide +kernel) (by decide +kernel)), ⟨by decide +kernel, by decide +kernel, by decide +kernel⟩, by decide⟩
theorem okM_search : okV RL 140 RX11 mX11_search 1 := ⟨(gw_at 1878 (by decide +kernel) (by decide +kernel)), (gw_at 1879 (by decide +kernel) (by decide +kernel)), (gw_at 1880 (by decide +kernel) (by decide +kernel)), (gw_at 116 (by decide +kernel) (by decide +kernel)), (gw_at 1881 (by decide +kernel) (by decide +kernel)), ⟨rfl, by decide +kernel, by decide +kernel, by decide +kernel⟩, by decide⟩
theorem cs_search (cy : Cy p l e R s m args meth c RL code 7 100 10000 ret g ad A) (hl : l.stackTraces = false) (hX : va_X (ad 2000) L xs s s.heap) (hbl : ad 2000 < s.heap.size) (hbA : ¬ A (ad 2000)) (hin : ∀ j : Int, 0 ≤ j ∧ j ≤ 5 → vp_in (i + Int32.ofInt j) L) (hj : JI d) (hu : u + 5 ≤ 10000)
    (K : ∀ d' u', JI d' → u' ≤ u + 5 → WF p l e R s m args below meth c 7 g ad A Z 2216 [some (.ref 2000), some (.ref 0), some (.ref 52), some (.ref 87), some (.int i), none, none] [] d' u') : WF p l e R s m args below meth c 7 g ad A Z 623 [some (.ref 2000), some (.ref 0), some (.ref 52), some (.ref 87), some (.int i), none, none] [] d u := by
  refine yr_aload_n cy (j := 1) (by decide +kernel) rfl ?_
  refine y_arg cy hX hbl hbA (i := i) (j := 1) rfl rfl (hin 1 (by decide)) (by decide +kernel) (by decide +kernel) (by decide +kernel) (by decide +kernel) (by decide +kernel) ?_
  refine yr_aload_n cy (j := 3) (by decide +kernel) rfl ?_
  refine yr_callH cy (idx := 138) (as := [.ref 0, .int (scg xs i 1), .ref 87]) (rest := []) (n' := 61) (kc := 1) (by decide +kernel) okH_search rfl (by decide) (by omega) (by decide) (L_search (n := 0) hl hj) (fun v d1 hq => ?_)
  obtain ⟨kk, rfl, hC⟩ := hq
  refine yr_istore cy (j := 5) (by decide +kernel) (by decide) rfl ?_
  show WF p l e R s m args below meth c 7 g ad A Z 636 [some (.ref 2000), some (.ref 0), some (.ref 52), some (.ref 87), some (.int i), some (.int kk), none] [] d1 (u + 1)
  refine yr_aload_n cy (j := 2) (by decide +kernel) rfl ?_
  refine y_arg cy hX hbl hbA (i := i) (j := 1) rfl rfl (hin 1 (by decide)) (by decide +kernel) (by decide +kernel) (by decide +kernel) (by decide +kernel) (by decide +kernel) ?_
  refine yr_callV cy (idx := 140) (as := [.int (scg xs i 1)]) (rest := []) (n' := 60) (kc := 0) (by decide +kernel) okM_search L52 rfl rfl (by decide) (by omega) (by decide) hC (fun v d2 hq => ?_) (fun E d2 hx => hx.elim)
  obtain ⟨y, rfl, hj2, h4, hk, h87⟩ := hq
  exact y_tail cy hl (q := 646) (off := 1540) (by decide) (by omega) (by decide +kernel) (by decide +kernel) (by decide +kernel) (by decide +kernel) (by decide +kernel) (by decide +kernel) (by decide +kernel) (by decide +kernel) (by decide +kernel) (by decide +kernel) (by decide +kernel) (by decide +kernel) (by decide +kernel) (by decide +kernel) (by decide +kernel) (by decide) h4 (fun z => by rw [h87]; exact hk z) (K d2 _ hj2 (by omega))
theorem okH_pays : okH RL 141 mL_pays hL_pays 4 := ⟨(gw_at 1071 (by decide +kernel) (by decide +kernel)), (gw_at 1072 (by decide +kernel) (by decide +kernel)), (gw_at 104 (by decide +kernel) (by decide +kernel)), (gw_at 1073 (by decide +kernel) (by decide +kernel)), ⟨by decide +kernel, by decide +kernel, by decide +kernel⟩, by decide⟩
theorem okM_pays : okV RL 143 RX11 mX11_pays 2 := ⟨(gw_at 1882 (by decide +kernel) (by decide +kernel)), (gw_at 1883 (by decide +kernel) (by decide +kernel)), (gw_at 1884 (by decide +kernel) (by decide +kernel)), (gw_at 116 (by decide +kernel) (by decide +kernel)), (gw_at 1885 (by decide +kernel) (by decide +kernel)), ⟨rfl, by decide +kernel, by decide +kernel, by decide +kernel⟩, by decide⟩
theorem cs_pays (cy : Cy p l e R s m args meth c RL code 7 100 10000 ret g ad A) (hl : l.stackTraces = false) (hX : va_X (ad 2000) L xs s s.heap) (hbl : ad 2000 < s.heap.size) (hbA : ¬ A (ad 2000)) (hin : ∀ j : Int, 0 ≤ j ∧ j ≤ 5 → vp_in (i + Int32.ofInt j) L) (hj : JI d) (hu : u + 5 ≤ 10000)
    (K : ∀ d' u', JI d' → u' ≤ u + 5 → WF p l e R s m args below meth c 7 g ad A Z 2216 [some (.ref 2000), some (.ref 0), some (.ref 52), some (.ref 87), some (.int i), none, none] [] d' u') : WF p l e R s m args below meth c 7 g ad A Z 679 [some (.ref 2000), some (.ref 0), some (.ref 52), some (.ref 87), some (.int i), none, none] [] d u := by
  refine yr_aload_n cy (j := 1) (by decide +kernel) rfl ?_
  refine y_arg cy hX hbl hbA (i := i) (j := 1) rfl rfl (hin 1 (by decide)) (by decide +kernel) (by decide +kernel) (by decide +kernel) (by decide +kernel) (by decide +kernel) ?_
  refine y_arg cy hX hbl hbA (i := i) (j := 2) rfl rfl (hin 2 (by decide)) (by decide +kernel) (by decide +kernel) (by decide +kernel) (by decide +kernel) (by decide +kernel) ?_
  refine yr_aload_n cy (j := 3) (by decide +kernel) rfl ?_
  refine yr_callH cy (idx := 141) (as := [.ref 0, .int (scg xs i 1), .int (scg xs i 2), .ref 87]) (rest := []) (n' := 61) (kc := 2) (by decide +kernel) okH_pays rfl (by decide) (by omega) (by decide) (L_pays (n := 0) hl hj) (fun v d1 hq => ?_)
  obtain ⟨kk, rfl, hC⟩ := hq
  refine yr_istore cy (j := 5) (by decide +kernel) (by decide) rfl ?_
  show WF p l e R s m args below meth c 7 g ad A Z 698 [some (.ref 2000), some (.ref 0), some (.ref 52), some (.ref 87), some (.int i), some (.int kk), none] [] d1 (u + 2)
  refine yr_aload_n cy (j := 2) (by decide +kernel) rfl ?_
  refine y_arg cy hX hbl hbA (i := i) (j := 1) rfl rfl (hin 1 (by decide)) (by decide +kernel) (by decide +kernel) (by decide +kernel) (by decide +kernel) (by decide +kernel) ?_
  refine y_arg cy hX hbl hbA (i := i) (j := 2) rfl rfl (hin 2 (by decide)) (by decide +kernel) (by decide +kernel) (by decide +kernel) (by decide +kernel) (by decide +kernel) ?_
  refine yr_callV cy (idx := 143) (as := [.int (scg xs i 1), .int (scg xs i 2)]) (rest := []) (n' := 60) (kc := 0) (by decide +kernel) okM_pays L52 rfl rfl (by decide) (by omega) (by decide) hC (fun v d2 hq => ?_) (fun E d2 hx => hx.elim)
  obtain ⟨y, rfl, hj2, h4, hk, h87⟩ := hq
  exact y_tail cy hl (q := 714) (off := 1472) (by decide) (by omega) (by decide +kernel) (by decide +kernel) (by decide +kernel) (by decide +kernel) (by decide +kernel) (by decide +kernel) (by decide +kernel) (by decide +kernel) (by decide +kernel) (by decide +kernel) (by decide +kernel) (by decide +kernel) (by decide +kernel) (by decide +kernel) (by decide +kernel) (by decide) h4 (fun z => by rw [h87]; exact hk z) (K d2 _ hj2 (by omega))
theorem okH_anew : okH RL 144 mL_anew hL_anew 4 := ⟨(gw_at 1078 (by decide +kernel) (by decide +kernel)), (gw_at 1079 (by decide +kernel) (by decide +kernel)), (gw_at 104 (by decide +kernel) (by decide +kernel)), (gw_at 1080 (by decide +kernel) (by decide +kernel)), ⟨by decide +kernel, by decide +kernel, by decide +kernel⟩, by decide⟩
theorem okM_anew : okV RL 146 RX11 mX11_anew 2 := ⟨(gw_at 1887 (by decide +kernel) (by decide +kernel)), (gw_at 1888 (by decide +kernel) (by decide +kernel)), (gw_at 1889 (by decide +kernel) (by decide +kernel)), (gw_at 116 (by decide +kernel) (by decide +kernel)), (gw_at 1890 (by decide +kernel) (by decide +kernel)), ⟨rfl, by decide +kernel, by decide +kernel, by decide +kernel⟩, by decide⟩
theorem cs_anew (cy : Cy p l e R s m args meth c RL code 7 100 10000 ret g ad A) (hl : l.stackTraces = false) (hX : va_X (ad 2000) L xs s s.heap) (hbl : ad 2000 < s.heap.size) (hbA : ¬ A (ad 2000)) (hin : ∀ j : Int, 0 ≤ j ∧ j ≤ 5 → vp_in (i + Int32.ofInt j) L) (hj : JI d) (hu : u + 5 ≤ 10000)
    (K : ∀ d' u', JI d' → u' ≤ u + 5 → WF p l e R s m args below meth c 7 g ad A Z 2216 [some (.ref 2000), some (.ref 0), some (.ref 52), some (.ref 87), some (.int i), none, none] [] d' u') : WF p l e R s m args below meth c 7 g ad A Z 747 [some (.ref 2000), some (.ref 0), some (.ref 52), some (.ref 87), some (.int i), none, none] [] d u := by
  refine yr_aload_n cy (j := 1) (by decide +kernel) rfl ?_
  refine y_arg cy hX hbl hbA (i := i) (j := 1) rfl rfl (hin 1 (by decide)) (by decide +kernel) (by decide +kernel) (by decide +kernel) (by decide +kernel) (by decide +kernel) ?_
  refine y_arg cy hX hbl hbA (i := i) (j := 2) rfl rfl (hin 2 (by decide)) (by decide +kernel) (by decide +kernel) (by decide +kernel) (by decide +kernel) (by decide +kernel) ?_
  refine yr_aload_n cy (j := 3) (by decide +kernel) rfl ?_
  refine yr_callH cy (idx := 144) (as := [.ref 0, .int (scg xs i 1), .int (scg xs i 2), .ref 87]) (rest := []) (n' := 61) (kc := 1) (by decide +kernel) okH_anew rfl (by decide) (by omega) (by decide) (L_anew (n := 0) hl hj) (fun v d1 hq => ?_)
  obtain ⟨kk, rfl, hC⟩ := hq
  refine yr_istore cy (j := 5) (by decide +kernel) (by decide) rfl ?_
  show WF p l e R s m args below meth c 7 g ad A Z 766 [some (.ref 2000), some (.ref 0), some (.ref 52), some (.ref 87), some (.int i), some (.int kk), none] [] d1 (u + 1)
  refine yr_aload_n cy (j := 2) (by decide +kernel) rfl ?_
  refine y_arg cy hX hbl hbA (i := i) (j := 1) rfl rfl (hin 1 (by decide)) (by decide +kernel) (by decide +kernel) (by decide +kernel) (by decide +kernel) (by decide +kernel) ?_
  refine y_arg cy hX hbl hbA (i := i) (j := 2) rfl rfl (hin 2 (by decide)) (by decide +kernel) (by decide +kernel) (by decide +kernel) (by decide +kernel) (by decide +kernel) ?_
  refine yr_callV cy (idx := 146) (as := [.int (scg xs i 1), .int (scg xs i 2)]) (rest := []) (n' := 60) (kc := 0) (by decide +kernel) okM_anew L52 rfl rfl (by decide) (by omega) (by decide) hC (fun v d2 hq => ?_) (fun E d2 hx => hx.elim)
  obtain ⟨y, rfl, hj2, h4, hk, h87⟩ := hq
  exact y_tail cy hl (q := 782) (off := 1404) (by decide) (by omega) (by decide +kernel) (by decide +kernel) (by decide +kernel) (by decide +kernel) (by decide +kernel) (by decide +kernel) (by decide +kernel) (by decide +kernel) (by decide +kernel) (by decide +kernel) (by decide +kernel) (by decide +kernel) (by decide +kernel) (by decide +kernel) (by decide +kernel) (by decide) h4 (fun z => by rw [h87]; exact hk z) (K d2 _ hj2 (by omega))
theorem okX_undo : okV RL 147 RX10 mX10_undo 0 := ⟨(gw_at 618 (by decide +kernel) (by decide +kernel)), (gw_at 619 (by decide +kernel) (by decide +kernel)), (gw_at 620 (by decide +kernel) (by decide +kernel)), (gw_at 105 (by decide +kernel) (by decide +kernel)), (gw_at 621 (by decide +kernel) (by decide +kernel)), ⟨rfl, by decide +kernel, by decide +kernel, by decide +kernel⟩, by decide⟩
theorem okM_undo : okV RL 150 RX11 mX11_undo 0 := ⟨(gw_at 1892 (by decide +kernel) (by decide +kernel)), (gw_at 1893 (by decide +kernel) (by decide +kernel)), (gw_at 1894 (by decide +kernel) (by decide +kernel)), (gw_at 116 (by decide +kernel) (by decide +kernel)), (gw_at 1895 (by decide +kernel) (by decide +kernel)), ⟨rfl, by decide +kernel, by decide +kernel, by decide +kernel⟩, by decide⟩
theorem cs_undo (cy : Cy p l e R s m args meth c RL code 7 100 10000 ret g ad A) (hl : l.stackTraces = false) (hX : va_X (ad 2000) L xs s s.heap) (hbl : ad 2000 < s.heap.size) (hbA : ¬ A (ad 2000)) (hin : ∀ j : Int, 0 ≤ j ∧ j ≤ 5 → vp_in (i + Int32.ofInt j) L) (hj : JI d) (hu : u + 5 ≤ 10000)
    (K : ∀ d' u', JI d' → u' ≤ u + 5 → WF p l e R s m args below meth c 7 g ad A Z 2216 [some (.ref 2000), some (.ref 0), some (.ref 52), some (.ref 87), some (.int i), none, none] [] d' u') : WF p l e R s m args below meth c 7 g ad A Z 815 [some (.ref 2000), some (.ref 0), some (.ref 52), some (.ref 87), some (.int i), none, none] [] d u := by
  refine yr_aload_n cy (j := 1) (by decide +kernel) rfl ?_
  refine yr_callV cy (idx := 147) (as := []) (rest := []) (n' := 60) (kc := 0) (by decide +kernel) okX_undo L0 rfl rfl (by decide) (by omega) (by decide) (D_undo (n := 0) hl hj) (fun v d1 hq => ?_) (fun E d2 hx => hx.elim)
  obtain ⟨z, rfl, hC⟩ := hq
  refine yr_aload_n cy (j := 2) (by decide +kernel) rfl ?_
  refine yr_callV cy (idx := 150) (as := []) (rest := [.int z]) (n' := 60) (kc := 0) (by decide +kernel) okM_undo L52 rfl rfl (by decide) (by omega) (by show 1 + 0 ≤ 8; decide) hC (fun v d2 hq => ?_) (fun E d2 hx => hx.elim)
  obtain ⟨rfl, hj2, h87⟩ := hq
  exact yr_icmp cy (t := 2216) (q := .eq) (off := 1393) (by decide +kernel) (by decide) (fun _ => K d2 _ hj2 (by omega)) (fun hne => absurd rfl hne)
theorem okH_then : okH RL 151 mL_then hL_then 5 := ⟨(gw_at 1089 (by decide +kernel) (by decide +kernel)), (gw_at 1090 (by decide +kernel) (by decide +kernel)), (gw_at 104 (by decide +kernel) (by decide +kernel)), (gw_at 1091 (by decide +kernel) (by decide +kernel)), ⟨by decide +kernel, by decide +kernel, by decide +kernel⟩, by decide⟩
theorem okM_then : okV RL 154 RX11 mX11_then 3 := ⟨(gw_at 1900 (by decide +kernel) (by decide +kernel)), (gw_at 1901 (by decide +kernel) (by decide +kernel)), (gw_at 1902 (by decide +kernel) (by decide +kernel)), (gw_at 116 (by decide +kernel) (by decide +kernel)), (gw_at 1903 (by decide +kernel) (by decide +kernel)), ⟨rfl, by decide +kernel, by decide +kernel, by decide +kernel⟩, by decide⟩
theorem cs_then (cy : Cy p l e R s m args meth c RL code 7 100 10000 ret g ad A) (hl : l.stackTraces = false) (hX : va_X (ad 2000) L xs s s.heap) (hbl : ad 2000 < s.heap.size) (hbA : ¬ A (ad 2000)) (hin : ∀ j : Int, 0 ≤ j ∧ j ≤ 5 → vp_in (i + Int32.ofInt j) L) (hj : JI d) (hu : u + 5 ≤ 10000)
    (K : ∀ d' u', JI d' → u' ≤ u + 5 → WF p l e R s m args below meth c 7 g ad A Z 2216 [some (.ref 2000), some (.ref 0), some (.ref 52), some (.ref 87), some (.int i), none, none] [] d' u') : WF p l e R s m args below meth c 7 g ad A Z 828 [some (.ref 2000), some (.ref 0), some (.ref 52), some (.ref 87), some (.int i), none, none] [] d u := by
  refine yr_aload_n cy (j := 1) (by decide +kernel) rfl ?_
  refine y_arg cy hX hbl hbA (i := i) (j := 1) rfl rfl (hin 1 (by decide)) (by decide +kernel) (by decide +kernel) (by decide +kernel) (by decide +kernel) (by decide +kernel) ?_
  refine y_arg cy hX hbl hbA (i := i) (j := 2) rfl rfl (hin 2 (by decide)) (by decide +kernel) (by decide +kernel) (by decide +kernel) (by decide +kernel) (by decide +kernel) ?_
  refine y_arg cy hX hbl hbA (i := i) (j := 3) rfl rfl (hin 3 (by decide)) (by decide +kernel) (by decide +kernel) (by decide +kernel) (by decide +kernel) (by decide +kernel) ?_
  refine yr_aload_n cy (j := 3) (by decide +kernel) rfl ?_
  refine yr_callH cy (idx := 151) (as := [.ref 0, .int (scg xs i 1), .int (scg xs i 2), .int (scg xs i 3), .ref 87]) (rest := []) (n' := 61) (kc := 3) (by decide +kernel) okH_then rfl (by decide) (by omega) (by decide) (L_then (n := 0) hl hj) (fun v d1 hq => ?_)
  obtain ⟨kk, rfl, hC⟩ := hq
  refine yr_istore cy (j := 5) (by decide +kernel) (by decide) rfl ?_
  show WF p l e R s m args below meth c 7 g ad A Z 853 [some (.ref 2000), some (.ref 0), some (.ref 52), some (.ref 87), some (.int i), some (.int kk), none] [] d1 (u + 3)
  refine yr_aload_n cy (j := 2) (by decide +kernel) rfl ?_
  refine y_arg cy hX hbl hbA (i := i) (j := 1) rfl rfl (hin 1 (by decide)) (by decide +kernel) (by decide +kernel) (by decide +kernel) (by decide +kernel) (by decide +kernel) ?_
  refine y_arg cy hX hbl hbA (i := i) (j := 2) rfl rfl (hin 2 (by decide)) (by decide +kernel) (by decide +kernel) (by decide +kernel) (by decide +kernel) (by decide +kernel) ?_
  refine y_arg cy hX hbl hbA (i := i) (j := 3) rfl rfl (hin 3 (by decide)) (by decide +kernel) (by decide +kernel) (by decide +kernel) (by decide +kernel) (by decide +kernel) ?_
  refine yr_callV cy (idx := 154) (as := [.int (scg xs i 1), .int (scg xs i 2), .int (scg xs i 3)]) (rest := []) (n' := 60) (kc := 0) (by decide +kernel) okM_then L52 rfl rfl (by decide) (by omega) (by decide) hC (fun v d2 hq => ?_) (fun E d2 hx => hx.elim)
  obtain ⟨y, rfl, hj2, h4, hk, h87⟩ := hq
  exact y_tail cy hl (q := 875) (off := 1311) (by decide) (by omega) (by decide +kernel) (by decide +kernel) (by decide +kernel) (by decide +kernel) (by decide +kernel) (by decide +kernel) (by decide +kernel) (by decide +kernel) (by decide +kernel) (by decide +kernel) (by decide +kernel) (by decide +kernel) (by decide +kernel) (by decide +kernel) (by decide +kernel) (by decide) h4 (fun z => by rw [h87]; exact hk z) (K d2 _ hj2 (by omega))
theorem okH_has : okH RL 155 mL_has hL_has 4 := ⟨(gw_at 1109 (by decide +kernel) (by decide +kernel)), (gw_at 1110 (by decide +kernel) (by decide +kernel)), (gw_at 104 (by decide +kernel) (by decide +kernel)), (gw_at 1111 (by decide +kernel) (by decide +kernel)), ⟨by decide +kernel, by decide +kernel, by decide +kernel⟩, by decide⟩
theorem okM_has : okV RL 157 RX11 mX11_has 2 := ⟨(gw_at 1906 (by decide +kernel) (by decide +kernel)), (gw_at 1907 (by decide +kernel) (by decide +kernel)), (gw_at 1908 (by decide +kernel) (by decide +kernel)), (gw_at 116 (by decide +kernel) (by decide +kernel)), (gw_at 1909 (by decide +kernel) (by decide +kernel)), ⟨rfl, by decide +kernel, by decide +kernel, by decide +kernel⟩, by decide⟩
theorem cs_has (cy : Cy p l e R s m args meth c RL code 7 100 10000 ret g ad A) (hl : l.stackTraces = false) (hX : va_X (ad 2000) L xs s s.heap) (hbl : ad 2000 < s.heap.size) (hbA : ¬ A (ad 2000)) (hin : ∀ j : Int, 0 ≤ j ∧ j ≤ 5 → vp_in (i + Int32.ofInt j) L) (hj : JI d) (hu : u + 5 ≤ 10000)
    (K : ∀ d' u', JI d' → u' ≤ u + 5 → WF p l e R s m args below meth c 7 g ad A Z 2216 [some (.ref 2000), some (.ref 0), some (.ref 52), some (.ref 87), some (.int i), none, none] [] d' u') : WF p l e R s m args below meth c 7 g ad A Z 908 [some (.ref 2000), some (.ref 0), some (.ref 52), some (.ref 87), some (.int i), none, none] [] d u := by
  refine yr_aload_n cy (j := 1) (by decide +kernel) rfl ?_
  refine y_arg cy hX hbl hbA (i := i) (j := 1) rfl rfl (hin 1 (by decide)) (by decide +kernel) (by decide +kernel) (by decide +kernel) (by decide +kernel) (by decide +kernel) ?_
  refine y_arg cy hX hbl hbA (i := i) (j := 2) rfl rfl (hin 2 (by decide)) (by decide +kernel) (by decide +kernel) (by decide +kernel) (by decide +kernel) (by decide +kernel) ?_
  refine yr_aload_n cy (j := 3) (by decide +kernel) rfl ?_
  refine yr_callH cy (idx := 155) (as := [.ref 0, .int (scg xs i 1), .int (scg xs i 2), .ref 87]) (rest := []) (n' := 61) (kc := 2) (by decide +kernel) okH_has rfl (by decide) (by omega) (by decide) (L_has (n := 0) hl hj) (fun v d1 hq => ?_)
  obtain ⟨kk, rfl, hC⟩ := hq
  refine yr_istore cy (j := 5) (by decide +kernel) (by decide) rfl ?_
  show WF p l e R s m args below meth c 7 g ad A Z 927 [some (.ref 2000), some (.ref 0), some (.ref 52), some (.ref 87), some (.int i), some (.int kk), none] [] d1 (u + 2)
  refine yr_aload_n cy (j := 2) (by decide +kernel) rfl ?_
  refine y_arg cy hX hbl hbA (i := i) (j := 1) rfl rfl (hin 1 (by decide)) (by decide +kernel) (by decide +kernel) (by decide +kernel) (by decide +kernel) (by decide +kernel) ?_
  refine y_arg cy hX hbl hbA (i := i) (j := 2) rfl rfl (hin 2 (by decide)) (by decide +kernel) (by decide +kernel) (by decide +kernel) (by decide +kernel) (by decide +kernel) ?_
  refine yr_callV cy (idx := 157) (as := [.int (scg xs i 1), .int (scg xs i 2)]) (rest := []) (n' := 60) (kc := 0) (by decide +kernel) okM_has L52 rfl rfl (by decide) (by omega) (by decide) hC (fun v d2 hq => ?_) (fun E d2 hx => hx.elim)
  obtain ⟨y, rfl, hj2, h4, hk, h87⟩ := hq
  exact y_tail cy hl (q := 943) (off := 1243) (by decide) (by omega) (by decide +kernel) (by decide +kernel) (by decide +kernel) (by decide +kernel) (by decide +kernel) (by decide +kernel) (by decide +kernel) (by decide +kernel) (by decide +kernel) (by decide +kernel) (by decide +kernel) (by decide +kernel) (by decide +kernel) (by decide +kernel) (by decide +kernel) (by decide) h4 (fun z => by rw [h87]; exact hk z) (K d2 _ hj2 (by omega))
theorem okH_later : okH RL 158 mL_later hL_later 4 := ⟨(gw_at 1116 (by decide +kernel) (by decide +kernel)), (gw_at 1117 (by decide +kernel) (by decide +kernel)), (gw_at 104 (by decide +kernel) (by decide +kernel)), (gw_at 1118 (by decide +kernel) (by decide +kernel)), ⟨by decide +kernel, by decide +kernel, by decide +kernel⟩, by decide⟩
theorem okM_later : okV RL 160 RX11 mX11_later 2 := ⟨(gw_at 1910 (by decide +kernel) (by decide +kernel)), (gw_at 1911 (by decide +kernel) (by decide +kernel)), (gw_at 1912 (by decide +kernel) (by decide +kernel)), (gw_at 116 (by decide +kernel) (by decide +kernel)), (gw_at 1913 (by decide +kernel) (by decide +kernel)), ⟨rfl, by decide +kernel, by decide +kernel, by decide +kernel⟩, by decide⟩
theorem cs_later (cy : Cy p l e R s m args meth c RL code 7 100 10000 ret g ad A) (hl : l.stackTraces = false) (hX : va_X (ad 2000) L xs s s.heap) (hbl : ad 2000 < s.heap.size) (hbA : ¬ A (ad 2000)) (hin : ∀ j : Int, 0 ≤ j ∧ j ≤ 5 → vp_in (i + Int32.ofInt j) L) (hj : JI d) (hu : u + 5 ≤ 10000)
    (K : ∀ d' u', JI d' → u' ≤ u + 5 → WF p l e R s m args below meth c 7 g ad A Z 2216 [some (.ref 2000), some (.ref 0), some (.ref 52), some (.ref 87), some (.int i), none, none] [] d' u') : WF p l e R s m args below meth c 7 g ad A Z 976 [some (.ref 2000), some (.ref 0), some (.ref 52), some (.ref 87), some (.int i), none, none] [] d u := by
  refine yr_aload_n cy (j := 1) (by decide +kernel) rfl ?_
  refine y_arg cy hX hbl hbA (i := i) (j := 1) rfl rfl (hin 1 (by decide)) (by decide +kernel) (by decide +kernel) (by decide +kernel) (by decide +kernel) (by decide +kernel) ?_
  refine y_arg cy hX hbl hbA (i := i) (j := 2) rfl rfl (hin 2 (by decide)) (by decide +kernel) (by decide +kernel) (by decide +kernel) (by decide +kernel) (by decide +kernel) ?_
  refine yr_aload_n cy (j := 3) (by decide +kernel) rfl ?_
  refine yr_callH cy (idx := 158) (as := [.ref 0, .int (scg xs i 1), .int (scg xs i 2), .ref 87]) (rest := []) (n' := 61) (kc := 2) (by decide +kernel) okH_later rfl (by decide) (by omega) (by decide) (L_later (n := 0) hl hj) (fun v d1 hq => ?_)
  obtain ⟨kk, rfl, hC⟩ := hq
  refine yr_istore cy (j := 5) (by decide +kernel) (by decide) rfl ?_
  show WF p l e R s m args below meth c 7 g ad A Z 995 [some (.ref 2000), some (.ref 0), some (.ref 52), some (.ref 87), some (.int i), some (.int kk), none] [] d1 (u + 2)
  refine yr_aload_n cy (j := 2) (by decide +kernel) rfl ?_
  refine y_arg cy hX hbl hbA (i := i) (j := 1) rfl rfl (hin 1 (by decide)) (by decide +kernel) (by decide +kernel) (by decide +kernel) (by decide +kernel) (by decide +kernel) ?_
  refine y_arg cy hX hbl hbA (i := i) (j := 2) rfl rfl (hin 2 (by decide)) (by decide +kernel) (by decide +kernel) (by decide +kernel) (by decide +kernel) (by decide +kernel) ?_
  refine yr_callV cy (idx := 160) (as := [.int (scg xs i 1), .int (scg xs i 2)]) (rest := []) (n' := 60) (kc := 0) (by decide +kernel) okM_later L52 rfl rfl (by decide) (by omega) (by decide) hC (fun v d2 hq => ?_) (fun E d2 hx => hx.elim)
  obtain ⟨y, rfl, hj2, h4, hk, h87⟩ := hq
  exact y_tail cy hl (q := 1011) (off := 1175) (by decide) (by omega) (by decide +kernel) (by decide +kernel) (by decide +kernel) (by decide +kernel) (by decide +kernel) (by decide +kernel) (by decide +kernel) (by decide +kernel) (by decide +kernel) (by decide +kernel) (by decide +kernel) (by decide +kernel) (by decide +kernel) (by decide +kernel) (by decide +kernel) (by decide) h4 (fun z => by rw [h87]; exact hk z) (K d2 _ hj2 (by omega))
theorem okX_next : okV RL 161 RX10 mX10_next 0 := ⟨(gw_at 630 (by decide +kernel) (by decide +kernel)), (gw_at 631 (by decide +kernel) (by decide +kernel)), (gw_at 632 (by decide +kernel) (by decide +kernel)), (gw_at 105 (by decide +kernel) (by decide +kernel)), (gw_at 633 (by decide +kernel) (by decide +kernel)), ⟨rfl, by decide +kernel, by decide +kernel, by decide +kernel⟩, by decide⟩
theorem okM_next : okV RL 164 RX11 mX11_next 0 := ⟨(gw_at 1918 (by decide +kernel) (by decide +kernel)), (gw_at 1919 (by decide +kernel) (by decide +kernel)), (gw_at 1920 (by decide +kernel) (by decide +kernel)), (gw_at 116 (by decide +kernel) (by decide +kernel)), (gw_at 1921 (by decide +kernel) (by decide +kernel)), ⟨rfl, by decide +kernel, by decide +kernel, by decide +kernel⟩, by decide⟩
theorem cs_next (cy : Cy p l e R s m args meth c RL code 7 100 10000 ret g ad A) (hl : l.stackTraces = false) (hX : va_X (ad 2000) L xs s s.heap) (hbl : ad 2000 < s.heap.size) (hbA : ¬ A (ad 2000)) (hin : ∀ j : Int, 0 ≤ j ∧ j ≤ 5 → vp_in (i + Int32.ofInt j) L) (hj : JI d) (hu : u + 5 ≤ 10000)
    (K : ∀ d' u', JI d' → u' ≤ u + 5 → WF p l e R s m args below meth c 7 g ad A Z 2216 [some (.ref 2000), some (.ref 0), some (.ref 52), some (.ref 87), some (.int i), none, none] [] d' u') : WF p l e R s m args below meth c 7 g ad A Z 1044 [some (.ref 2000), some (.ref 0), some (.ref 52), some (.ref 87), some (.int i), none, none] [] d u := by
  refine yr_aload_n cy (j := 1) (by decide +kernel) rfl ?_
  refine yr_callV cy (idx := 161) (as := []) (rest := []) (n' := 60) (kc := 0) (by decide +kernel) okX_next L0 rfl rfl (by decide) (by omega) (by decide) (D_next (n := 0) hl hj) (fun v d1 hq => ?_) (fun E d2 hx => hx.elim)
  obtain ⟨z, rfl, hC⟩ := hq
  refine yr_aload_n cy (j := 2) (by decide +kernel) rfl ?_
  refine yr_callV cy (idx := 164) (as := []) (rest := [.int z]) (n' := 60) (kc := 0) (by decide +kernel) okM_next L52 rfl rfl (by decide) (by omega) (by show 1 + 0 ≤ 8; decide) hC (fun v d2 hq => ?_) (fun E d2 hx => hx.elim)
  obtain ⟨rfl, hj2, h87⟩ := hq
  exact yr_icmp cy (t := 2216) (q := .eq) (off := 1164) (by decide +kernel) (by decide) (fun _ => K d2 _ hj2 (by omega)) (fun hne => absurd rfl hne)
theorem okH_gets : okH RL 165 mL_gets hL_gets 4 := ⟨(gw_at 1127 (by decide +kernel) (by decide +kernel)), (gw_at 1128 (by decide +kernel) (by decide +kernel)), (gw_at 104 (by decide +kernel) (by decide +kernel)), (gw_at 1129 (by decide +kernel) (by decide +kernel)), ⟨by decide +kernel, by decide +kernel, by decide +kernel⟩, by decide⟩
theorem okM_gets : okV RL 167 RX11 mX11_gets 2 := ⟨(gw_at 1922 (by decide +kernel) (by decide +kernel)), (gw_at 1923 (by decide +kernel) (by decide +kernel)), (gw_at 1924 (by decide +kernel) (by decide +kernel)), (gw_at 116 (by decide +kernel) (by decide +kernel)), (gw_at 1925 (by decide +kernel) (by decide +kernel)), ⟨rfl, by decide +kernel, by decide +kernel, by decide +kernel⟩, by decide⟩
theorem cs_gets (cy : Cy p l e R s m args meth c RL code 7 100 10000 ret g ad A) (hl : l.stackTraces = false) (hX : va_X (ad 2000) L xs s s.heap) (hbl : ad 2000 < s.heap.size) (hbA : ¬ A (ad 2000)) (hin : ∀ j : Int, 0 ≤ j ∧ j ≤ 5 → vp_in (i + Int32.ofInt j) L) (hj : JI d) (hu : u + 5 ≤ 10000)
    (K : ∀ d' u', JI d' → u' ≤ u + 5 → WF p l e R s m args below meth c 7 g ad A Z 2216 [some (.ref 2000), some (.ref 0), some (.ref 52), some (.ref 87), some (.int i), none, none] [] d' u') : WF p l e R s m args below meth c 7 g ad A Z 1057 [some (.ref 2000), some (.ref 0), some (.ref 52), some (.ref 87), some (.int i), none, none] [] d u := by
  refine yr_aload_n cy (j := 1) (by decide +kernel) rfl ?_
  refine y_arg cy hX hbl hbA (i := i) (j := 1) rfl rfl (hin 1 (by decide)) (by decide +kernel) (by decide +kernel) (by decide +kernel) (by decide +kernel) (by decide +kernel) ?_
  refine y_arg cy hX hbl hbA (i := i) (j := 2) rfl rfl (hin 2 (by decide)) (by decide +kernel) (by decide +kernel) (by decide +kernel) (by decide +kernel) (by decide +kernel) ?_
  refine yr_aload_n cy (j := 3) (by decide +kernel) rfl ?_
  refine yr_callH cy (idx := 165) (as := [.ref 0, .int (scg xs i 1), .int (scg xs i 2), .ref 87]) (rest := []) (n' := 61) (kc := 2) (by decide +kernel) okH_gets rfl (by decide) (by omega) (by decide) (L_gets (n := 0) hl hj) (fun v d1 hq => ?_)
  obtain ⟨kk, rfl, hC⟩ := hq
  refine yr_istore cy (j := 5) (by decide +kernel) (by decide) rfl ?_
  show WF p l e R s m args below meth c 7 g ad A Z 1076 [some (.ref 2000), some (.ref 0), some (.ref 52), some (.ref 87), some (.int i), some (.int kk), none] [] d1 (u + 2)
  refine yr_aload_n cy (j := 2) (by decide +kernel) rfl ?_
  refine y_arg cy hX hbl hbA (i := i) (j := 1) rfl rfl (hin 1 (by decide)) (by decide +kernel) (by decide +kernel) (by decide +kernel) (by decide +kernel) (by decide +kernel) ?_
  refine y_arg cy hX hbl hbA (i := i) (j := 2) rfl rfl (hin 2 (by decide)) (by decide +kernel) (by decide +kernel) (by decide +kernel) (by decide +kernel) (by decide +kernel) ?_
  refine yr_callV cy (idx := 167) (as := [.int (scg xs i 1), .int (scg xs i 2)]) (rest := []) (n' := 60) (kc := 0) (by decide +kernel) okM_gets L52 rfl rfl (by decide) (by omega) (by decide) hC (fun v d2 hq => ?_) (fun E d2 hx => hx.elim)
  obtain ⟨y, rfl, hj2, h4, hk, h87⟩ := hq
  exact y_tail cy hl (q := 1092) (off := 1094) (by decide) (by omega) (by decide +kernel) (by decide +kernel) (by decide +kernel) (by decide +kernel) (by decide +kernel) (by decide +kernel) (by decide +kernel) (by decide +kernel) (by decide +kernel) (by decide +kernel) (by decide +kernel) (by decide +kernel) (by decide +kernel) (by decide +kernel) (by decide +kernel) (by decide) h4 (fun z => by rw [h87]; exact hk z) (K d2 _ hj2 (by omega))
theorem okH_hands : okH RL 168 mL_hands hL_hands 4 := ⟨(gw_at 1139 (by decide +kernel) (by decide +kernel)), (gw_at 1140 (by decide +kernel) (by decide +kernel)), (gw_at 104 (by decide +kernel) (by decide +kernel)), (gw_at 1141 (by decide +kernel) (by decide +kernel)), ⟨by decide +kernel, by decide +kernel, by decide +kernel⟩, by decide⟩
theorem okM_hands : okV RL 170 RX11 mX11_hands 2 := ⟨(gw_at 1926 (by decide +kernel) (by decide +kernel)), (gw_at 1927 (by decide +kernel) (by decide +kernel)), (gw_at 1928 (by decide +kernel) (by decide +kernel)), (gw_at 116 (by decide +kernel) (by decide +kernel)), (gw_at 1929 (by decide +kernel) (by decide +kernel)), ⟨rfl, by decide +kernel, by decide +kernel, by decide +kernel⟩, by decide⟩
theorem cs_hands (cy : Cy p l e R s m args meth c RL code 7 100 10000 ret g ad A) (hl : l.stackTraces = false) (hX : va_X (ad 2000) L xs s s.heap) (hbl : ad 2000 < s.heap.size) (hbA : ¬ A (ad 2000)) (hin : ∀ j : Int, 0 ≤ j ∧ j ≤ 5 → vp_in (i + Int32.ofInt j) L) (hj : JI d) (hu : u + 5 ≤ 10000)
    (K : ∀ d' u', JI d' → u' ≤ u + 5 → WF p l e R s m args below meth c 7 g ad A Z 2216 [some (.ref 2000), some (.ref 0), some (.ref 52), some (.ref 87), some (.int i), none, none] [] d' u') : WF p l e R s m args below meth c 7 g ad A Z 1125 [some (.ref 2000), some (.ref 0), some (.ref 52), some (.ref 87), some (.int i), none, none] [] d u := by
  refine yr_aload_n cy (j := 1) (by decide +kernel) rfl ?_
  refine y_arg cy hX hbl hbA (i := i) (j := 1) rfl rfl (hin 1 (by decide)) (by decide +kernel) (by decide +kernel) (by decide +kernel) (by decide +kernel) (by decide +kernel) ?_
  refine y_arg cy hX hbl hbA (i := i) (j := 2) rfl rfl (hin 2 (by decide)) (by decide +kernel) (by decide +kernel) (by decide +kernel) (by decide +kernel) (by decide +kernel) ?_
  refine yr_aload_n cy (j := 3) (by decide +kernel) rfl ?_
  refine yr_callH cy (idx := 168) (as := [.ref 0, .int (scg xs i 1), .int (scg xs i 2), .ref 87]) (rest := []) (n' := 61) (kc := 2) (by decide +kernel) okH_hands rfl (by decide) (by omega) (by decide) (L_hands (n := 0) hl hj) (fun v d1 hq => ?_)
  obtain ⟨kk, rfl, hC⟩ := hq
  refine yr_istore cy (j := 5) (by decide +kernel) (by decide) rfl ?_
  show WF p l e R s m args below meth c 7 g ad A Z 1144 [some (.ref 2000), some (.ref 0), some (.ref 52), some (.ref 87), some (.int i), some (.int kk), none] [] d1 (u + 2)
  refine yr_aload_n cy (j := 2) (by decide +kernel) rfl ?_
  refine y_arg cy hX hbl hbA (i := i) (j := 1) rfl rfl (hin 1 (by decide)) (by decide +kernel) (by decide +kernel) (by decide +kernel) (by decide +kernel) (by decide +kernel) ?_
  refine y_arg cy hX hbl hbA (i := i) (j := 2) rfl rfl (hin 2 (by decide)) (by decide +kernel) (by decide +kernel) (by decide +kernel) (by decide +kernel) (by decide +kernel) ?_
  refine yr_callV cy (idx := 170) (as := [.int (scg xs i 1), .int (scg xs i 2)]) (rest := []) (n' := 60) (kc := 0) (by decide +kernel) okM_hands L52 rfl rfl (by decide) (by omega) (by decide) hC (fun v d2 hq => ?_) (fun E d2 hx => hx.elim)
  obtain ⟨y, rfl, hj2, h4, hk, h87⟩ := hq
  exact y_tail cy hl (q := 1160) (off := 1026) (by decide) (by omega) (by decide +kernel) (by decide +kernel) (by decide +kernel) (by decide +kernel) (by decide +kernel) (by decide +kernel) (by decide +kernel) (by decide +kernel) (by decide +kernel) (by decide +kernel) (by decide +kernel) (by decide +kernel) (by decide +kernel) (by decide +kernel) (by decide +kernel) (by decide) h4 (fun z => by rw [h87]; exact hk z) (K d2 _ hj2 (by omega))
theorem okH_crumbles : okH RL 171 mL_crumbles hL_crumbles 3 := ⟨(gw_at 1151 (by decide +kernel) (by decide +kernel)), (gw_at 1152 (by decide +kernel) (by decide +kernel)), (gw_at 104 (by decide +kernel) (by decide +kernel)), (gw_at 1153 (by decide +kernel) (by decide +kernel)), ⟨by decide +kernel, by decide +kernel, by decide +kernel⟩, by decide⟩
theorem okM_crumbles : okV RL 173 RX11 mX11_crumbles 1 := ⟨(gw_at 1930 (by decide +kernel) (by decide +kernel)), (gw_at 1931 (by decide +kernel) (by decide +kernel)), (gw_at 1932 (by decide +kernel) (by decide +kernel)), (gw_at 116 (by decide +kernel) (by decide +kernel)), (gw_at 1933 (by decide +kernel) (by decide +kernel)), ⟨rfl, by decide +kernel, by decide +kernel, by decide +kernel⟩, by decide⟩
theorem cs_crumbles (cy : Cy p l e R s m args meth c RL code 7 100 10000 ret g ad A) (hl : l.stackTraces = false) (hX : va_X (ad 2000) L xs s s.heap) (hbl : ad 2000 < s.heap.size) (hbA : ¬ A (ad 2000)) (hin : ∀ j : Int, 0 ≤ j ∧ j ≤ 5 → vp_in (i + Int32.ofInt j) L) (hj : JI d) (hu : u + 5 ≤ 10000)
    (K : ∀ d' u', JI d' → u' ≤ u + 5 → WF p l e R s m args below meth c 7 g ad A Z 2216 [some (.ref 2000), some (.ref 0), some (.ref 52), some (.ref 87), some (.int i), none, none] [] d' u') : WF p l e R s m args below meth c 7 g ad A Z 1193 [some (.ref 2000), some (.ref 0), some (.ref 52), some (.ref 87), some (.int i), none, none] [] d u := by
  refine yr_aload_n cy (j := 1) (by decide +kernel) rfl ?_
  refine y_arg cy hX hbl hbA (i := i) (j := 1) rfl rfl (hin 1 (by decide)) (by decide +kernel) (by decide +kernel) (by decide +kernel) (by decide +kernel) (by decide +kernel) ?_
  refine yr_aload_n cy (j := 3) (by decide +kernel) rfl ?_
  refine yr_callH cy (idx := 171) (as := [.ref 0, .int (scg xs i 1), .ref 87]) (rest := []) (n' := 61) (kc := 1) (by decide +kernel) okH_crumbles rfl (by decide) (by omega) (by decide) (L_crumbles (n := 0) hl hj) (fun v d1 hq => ?_)
  obtain ⟨kk, rfl, hC⟩ := hq
  refine yr_istore cy (j := 5) (by decide +kernel) (by decide) rfl ?_
  show WF p l e R s m args below meth c 7 g ad A Z 1206 [some (.ref 2000), some (.ref 0), some (.ref 52), some (.ref 87), some (.int i), some (.int kk), none] [] d1 (u + 1)
  refine yr_aload_n cy (j := 2) (by decide +kernel) rfl ?_
  refine y_arg cy hX hbl hbA (i := i) (j := 1) rfl rfl (hin 1 (by decide)) (by decide +kernel) (by decide +kernel) (by decide +kernel) (by decide +kernel) (by decide +kernel) ?_
  refine yr_callV cy (idx := 173) (as := [.int (scg xs i 1)]) (rest := []) (n' := 60) (kc := 0) (by decide +kernel) okM_crumbles L52 rfl rfl (by decide) (by omega) (by decide) hC (fun v d2 hq => ?_) (fun E d2 hx => hx.elim)
  obtain ⟨y, rfl, hj2, h4, hk, h87⟩ := hq
  exact y_tail cy hl (q := 1216) (off := 970) (by decide) (by omega) (by decide +kernel) (by decide +kernel) (by decide +kernel) (by decide +kernel) (by decide +kernel) (by decide +kernel) (by decide +kernel) (by decide +kernel) (by decide +kernel) (by decide +kernel) (by decide +kernel) (by decide +kernel) (by decide +kernel) (by decide +kernel) (by decide +kernel) (by decide) h4 (fun z => by rw [h87]; exact hk z) (K d2 _ hj2 (by omega))
theorem okH_comesTo : okH RL 174 mL_comesTo hL_comesTo 3 := ⟨(gw_at 1158 (by decide +kernel) (by decide +kernel)), (gw_at 1159 (by decide +kernel) (by decide +kernel)), (gw_at 104 (by decide +kernel) (by decide +kernel)), (gw_at 1160 (by decide +kernel) (by decide +kernel)), ⟨by decide +kernel, by decide +kernel, by decide +kernel⟩, by decide⟩
theorem okM_comesTo : okV RL 176 RX11 mX11_comesTo 1 := ⟨(gw_at 1934 (by decide +kernel) (by decide +kernel)), (gw_at 1935 (by decide +kernel) (by decide +kernel)), (gw_at 1936 (by decide +kernel) (by decide +kernel)), (gw_at 116 (by decide +kernel) (by decide +kernel)), (gw_at 1937 (by decide +kernel) (by decide +kernel)), ⟨rfl, by decide +kernel, by decide +kernel, by decide +kernel⟩, by decide⟩
theorem cs_comesTo (cy : Cy p l e R s m args meth c RL code 7 100 10000 ret g ad A) (hl : l.stackTraces = false) (hX : va_X (ad 2000) L xs s s.heap) (hbl : ad 2000 < s.heap.size) (hbA : ¬ A (ad 2000)) (hin : ∀ j : Int, 0 ≤ j ∧ j ≤ 5 → vp_in (i + Int32.ofInt j) L) (hj : JI d) (hu : u + 5 ≤ 10000)
    (K : ∀ d' u', JI d' → u' ≤ u + 5 → WF p l e R s m args below meth c 7 g ad A Z 2216 [some (.ref 2000), some (.ref 0), some (.ref 52), some (.ref 87), some (.int i), none, none] [] d' u') : WF p l e R s m args below meth c 7 g ad A Z 1249 [some (.ref 2000), some (.ref 0), some (.ref 52), some (.ref 87), some (.int i), none, none] [] d u := by
  refine yr_aload_n cy (j := 1) (by decide +kernel) rfl ?_
  refine y_arg cy hX hbl hbA (i := i) (j := 1) rfl rfl (hin 1 (by decide)) (by decide +kernel) (by decide +kernel) (by decide +kernel) (by decide +kernel) (by decide +kernel) ?_
  refine yr_aload_n cy (j := 3) (by decide +kernel) rfl ?_
  refine yr_callH cy (idx := 174) (as := [.ref 0, .int (scg xs i 1), .ref 87]) (rest := []) (n' := 61) (kc := 1) (by decide +kernel) okH_comesTo rfl (by decide) (by omega) (by decide) (L_comesTo (n := 0) hl hj) (fun v d1 hq => ?_)
  obtain ⟨kk, rfl, hC⟩ := hq
  refine yr_istore cy (j := 5) (by decide +kernel) (by decide) rfl ?_
  show WF p l e R s m args below meth c 7 g ad A Z 1262 [some (.ref 2000), some (.ref 0), some (.ref 52), some (.ref 87), some (.int i), some (.int kk), none] [] d1 (u + 1)
  refine yr_aload_n cy (j := 2) (by decide +kernel) rfl ?_
  refine y_arg cy hX hbl hbA (i := i) (j := 1) rfl rfl (hin 1 (by decide)) (by decide +kernel) (by decide +kernel) (by decide +kernel) (by decide +kernel) (by decide +kernel) ?_
  refine yr_callV cy (idx := 176) (as := [.int (scg xs i 1)]) (rest := []) (n' := 60) (kc := 0) (by decide +kernel) okM_comesTo L52 rfl rfl (by decide) (by omega) (by decide) hC (fun v d2 hq => ?_) (fun E d2 hx => hx.elim)
  obtain ⟨y, rfl, hj2, h4, hk, h87⟩ := hq
  exact y_tail cy hl (q := 1272) (off := 914) (by decide) (by omega) (by decide +kernel) (by decide +kernel) (by decide +kernel) (by decide +kernel) (by decide +kernel) (by decide +kernel) (by decide +kernel) (by decide +kernel) (by decide +kernel) (by decide +kernel) (by decide +kernel) (by decide +kernel) (by decide +kernel) (by decide +kernel) (by decide +kernel) (by decide) h4 (fun z => by rw [h87]; exact hk z) (K d2 _ hj2 (by omega))
theorem okH_steps : okH RL 177 mL_steps hL_steps 4 := ⟨(gw_at 1166 (by decide +kernel) (by decide +kernel)), (gw_at 1167 (by decide +kernel) (by decide +kernel)), (gw_at 104 (by decide +kernel) (by decide +kernel)), (gw_at 1168 (by decide +kernel) (by decide +kernel)), ⟨by decide +kernel, by decide +kernel, by decide +kernel⟩, by decide⟩
theorem okM_steps : okV RL 179 RX11 mX11_steps 2 := ⟨(gw_at 1938 (by decide +kernel) (by decide +kernel)), (gw_at 1939 (by decide +kernel) (by decide +kernel)), (gw_at 1940 (by decide +kernel) (by decide +kernel)), (gw_at 116 (by decide +kernel) (by decide +kernel)), (gw_at 1941 (by decide +kernel) (by decide +kernel)), ⟨rfl, by decide +kernel, by decide +kernel, by decide +kernel⟩, by decide⟩
theorem cs_steps (cy : Cy p l e R s m args meth c RL code 7 100 10000 ret g ad A) (hl : l.stackTraces = false) (hX : va_X (ad 2000) L xs s s.heap) (hbl : ad 2000 < s.heap.size) (hbA : ¬ A (ad 2000)) (hin : ∀ j : Int, 0 ≤ j ∧ j ≤ 5 → vp_in (i + Int32.ofInt j) L) (hj : JI d) (hu : u + 5 ≤ 10000)
    (K : ∀ d' u', JI d' → u' ≤ u + 5 → WF p l e R s m args below meth c 7 g ad A Z 2216 [some (.ref 2000), some (.ref 0), some (.ref 52), some (.ref 87), some (.int i), none, none] [] d' u') : WF p l e R s m args below meth c 7 g ad A Z 1305 [some (.ref 2000), some (.ref 0), some (.ref 52), some (.ref 87), some (.int i), none, none] [] d u := by
  refine yr_aload_n cy (j := 1) (by decide +kernel) rfl ?_
  refine y_arg cy hX hbl hbA (i := i) (j := 1) rfl rfl (hin 1 (by decide)) (by decide +kernel) (by decide +kernel) (by decide +kernel) (by decide +kernel) (by decide +kernel) ?_
  refine y_arg cy hX hbl hbA (i := i) (j := 2) rfl rfl (hin 2 (by decide)) (by decide +kernel) (by decide +kernel) (by decide +kernel) (by decide +kernel) (by decide +kernel) ?_
  refine yr_aload_n cy (j := 3) (by decide +kernel) rfl ?_
  refine yr_callH cy (idx := 177) (as := [.ref 0, .int (scg xs i 1), .int (scg xs i 2), .ref 87]) (rest := []) (n' := 61) (kc := 2) (by decide +kernel) okH_steps rfl (by decide) (by omega) (by decide) (L_steps (n := 0) hl hj) (fun v d1 hq => ?_)
  obtain ⟨kk, rfl, hC⟩ := hq
  refine yr_istore cy (j := 5) (by decide +kernel) (by decide) rfl ?_
  show WF p l e R s m args below meth c 7 g ad A Z 1324 [some (.ref 2000), some (.ref 0), some (.ref 52), some (.ref 87), some (.int i), some (.int kk), none] [] d1 (u + 2)
  refine yr_aload_n cy (j := 2) (by decide +kernel) rfl ?_
  refine y_arg cy hX hbl hbA (i := i) (j := 1) rfl rfl (hin 1 (by decide)) (by decide +kernel) (by decide +kernel) (by decide +kernel) (by decide +kernel) (by decide +kernel) ?_
  refine y_arg cy hX hbl hbA (i := i) (j := 2) rfl rfl (hin 2 (by decide)) (by decide +kernel) (by decide +kernel) (by decide +kernel) (by decide +kernel) (by decide +kernel) ?_
  refine yr_callV cy (idx := 179) (as := [.int (scg xs i 1), .int (scg xs i 2)]) (rest := []) (n' := 60) (kc := 0) (by decide +kernel) okM_steps L52 rfl rfl (by decide) (by omega) (by decide) hC (fun v d2 hq => ?_) (fun E d2 hx => hx.elim)
  obtain ⟨y, rfl, hj2, h4, hk, h87⟩ := hq
  exact y_tail cy hl (q := 1340) (off := 846) (by decide) (by omega) (by decide +kernel) (by decide +kernel) (by decide +kernel) (by decide +kernel) (by decide +kernel) (by decide +kernel) (by decide +kernel) (by decide +kernel) (by decide +kernel) (by decide +kernel) (by decide +kernel) (by decide +kernel) (by decide +kernel) (by decide +kernel) (by decide +kernel) (by decide) h4 (fun z => by rw [h87]; exact hk z) (K d2 _ hj2 (by omega))
theorem okH_toPay : okH RL 180 mL_toPay hL_toPay 5 := ⟨(gw_at 1176 (by decide +kernel) (by decide +kernel)), (gw_at 1177 (by decide +kernel) (by decide +kernel)), (gw_at 104 (by decide +kernel) (by decide +kernel)), (gw_at 1178 (by decide +kernel) (by decide +kernel)), ⟨by decide +kernel, by decide +kernel, by decide +kernel⟩, by decide⟩
theorem okM_toPay : okV RL 182 RX11 mX11_toPay 3 := ⟨(gw_at 1942 (by decide +kernel) (by decide +kernel)), (gw_at 1943 (by decide +kernel) (by decide +kernel)), (gw_at 1944 (by decide +kernel) (by decide +kernel)), (gw_at 116 (by decide +kernel) (by decide +kernel)), (gw_at 1945 (by decide +kernel) (by decide +kernel)), ⟨rfl, by decide +kernel, by decide +kernel, by decide +kernel⟩, by decide⟩
theorem cs_toPay (cy : Cy p l e R s m args meth c RL code 7 100 10000 ret g ad A) (hl : l.stackTraces = false) (hX : va_X (ad 2000) L xs s s.heap) (hbl : ad 2000 < s.heap.size) (hbA : ¬ A (ad 2000)) (hin : ∀ j : Int, 0 ≤ j ∧ j ≤ 5 → vp_in (i + Int32.ofInt j) L) (hj : JI d) (hu : u + 5 ≤ 10000)
    (K : ∀ d' u', JI d' → u' ≤ u + 5 → WF p l e R s m args below meth c 7 g ad A Z 2216 [some (.ref 2000), some (.ref 0), some (.ref 52), some (.ref 87), some (.int i), none, none] [] d' u') : WF p l e R s m args below meth c 7 g ad A Z 1373 [some (.ref 2000), some (.ref 0), some (.ref 52), some (.ref 87), some (.int i), none, none] [] d u := by
  refine yr_aload_n cy (j := 1) (by decide +kernel) rfl ?_
  refine y_arg cy hX hbl hbA (i := i) (j := 1) rfl rfl (hin 1 (by decide)) (by decide +kernel) (by decide +kernel) (by decide +kernel) (by decide +kernel) (by decide +kernel) ?_
  refine y_arg cy hX hbl hbA (i := i) (j := 2) rfl rfl (hin 2 (by decide)) (by decide +kernel) (by decide +kernel) (by decide +kernel) (by decide +kernel) (by decide +kernel) ?_
  refine y_arg cy hX hbl hbA (i := i) (j := 3) rfl rfl (hin 3 (by decide)) (by decide +kernel) (by decide +kernel) (by decide +kernel) (by decide +kernel) (by decide +kernel) ?_
  refine yr_aload_n cy (j := 3) (by decide +kernel) rfl ?_
  refine yr_callH cy (idx := 180) (as := [.ref 0, .int (scg xs i 1), .int (scg xs i 2), .int (scg xs i 3), .ref 87]) (rest := []) (n' := 61) (kc := 3) (by decide +kernel) okH_toPay rfl (by decide) (by omega) (by decide) (L_toPay (n := 0) hl hj) (fun v d1 hq => ?_)
  obtain ⟨kk, rfl, hC⟩ := hq
  refine yr_istore cy (j := 5) (by decide +kernel) (by decide) rfl ?_
  show WF p l e R s m args below meth c 7 g ad A Z 1398 [some (.ref 2000), some (.ref 0), some (.ref 52), some (.ref 87), some (.int i), some (.int kk), none] [] d1 (u + 3)
  refine yr_aload_n cy (j := 2) (by decide +kernel) rfl ?_
  refine y_arg cy hX hbl hbA (i := i) (j := 1) rfl rfl (hin 1 (by decide)) (by decide +kernel) (by decide +kernel) (by decide +kernel) (by decide +kernel) (by decide +kernel) ?_
  refine y_arg cy hX hbl hbA (i := i) (j := 2) rfl rfl (hin 2 (by decide)) (by decide +kernel) (by decide +kernel) (by decide +kernel) (by decide +kernel) (by decide +kernel) ?_
  refine y_arg cy hX hbl hbA (i := i) (j := 3) rfl rfl (hin 3 (by decide)) (by decide +kernel) (by decide +kernel) (by decide +kernel) (by decide +kernel) (by decide +kernel) ?_
  refine yr_callV cy (idx := 182) (as := [.int (scg xs i 1), .int (scg xs i 2), .int (scg xs i 3)]) (rest := []) (n' := 60) (kc := 0) (by decide +kernel) okM_toPay L52 rfl rfl (by decide) (by omega) (by decide) hC (fun v d2 hq => ?_) (fun E d2 hx => hx.elim)
  obtain ⟨y, rfl, hj2, h4, hk, h87⟩ := hq
  exact y_tail cy hl (q := 1420) (off := 766) (by decide) (by omega) (by decide +kernel) (by decide +kernel) (by decide +kernel) (by decide +kernel) (by decide +kernel) (by decide +kernel) (by decide +kernel) (by decide +kernel) (by decide +kernel) (by decide +kernel) (by decide +kernel) (by decide +kernel) (by decide +kernel) (by decide +kernel) (by decide +kernel) (by decide) h4 (fun z => by rw [h87]; exact hk z) (K d2 _ hj2 (by omega))
theorem okH_change : okH RL 183 mL_change hL_change 6 := ⟨(gw_at 1216 (by decide +kernel) (by decide +kernel)), (gw_at 1217 (by decide +kernel) (by decide +kernel)), (gw_at 104 (by decide +kernel) (by decide +kernel)), (gw_at 1218 (by decide +kernel) (by decide +kernel)), ⟨by decide +kernel, by decide +kernel, by decide +kernel⟩, by decide⟩
theorem okM_change : okV RL 186 RX11 mX11_change 4 := ⟨(gw_at 1955 (by decide +kernel) (by decide +kernel)), (gw_at 1956 (by decide +kernel) (by decide +kernel)), (gw_at 1957 (by decide +kernel) (by decide +kernel)), (gw_at 116 (by decide +kernel) (by decide +kernel)), (gw_at 1958 (by decide +kernel) (by decide +kernel)), ⟨rfl, by decide +kernel, by decide +kernel, by decide +kernel⟩, by decide⟩
theorem cs_change (cy : Cy p l e R s m args meth c RL code 7 100 10000 ret g ad A) (hl : l.stackTraces = false) (hX : va_X (ad 2000) L xs s s.heap) (hbl : ad 2000 < s.heap.size) (hbA : ¬ A (ad 2000)) (hin : ∀ j : Int, 0 ≤ j ∧ j ≤ 5 → vp_in (i + Int32.ofInt j) L) (hj : JI d) (hu : u + 5 ≤ 10000)
    (K : ∀ d' u', JI d' → u' ≤ u + 5 → WF p l e R s m args below meth c 7 g ad A Z 2216 [some (.ref 2000), some (.ref 0), some (.ref 52), some (.ref 87), some (.int i), none, none] [] d' u') : WF p l e R s m args below meth c 7 g ad A Z 1453 [some (.ref 2000), some (.ref 0), some (.ref 52), some (.ref 87), some (.int i), none, none] [] d u := by
  refine yr_aload_n cy (j := 1) (by decide +kernel) rfl ?_
  refine y_arg cy hX hbl hbA (i := i) (j := 1) rfl rfl (hin 1 (by decide)) (by decide +kernel) (by decide +kernel) (by decide +kernel) (by decide +kernel) (by decide +kernel) ?_
  refine y_arg cy hX hbl hbA (i := i) (j := 2) rfl rfl (hin 2 (by decide)) (by decide +kernel) (by decide +kernel) (by decide +kernel) (by decide +kernel) (by decide +kernel) ?_
  refine y_arg cy hX hbl hbA (i := i) (j := 3) rfl rfl (hin 3 (by decide)) (by decide +kernel) (by decide +kernel) (by decide +kernel) (by decide +kernel) (by decide +kernel) ?_
  refine y_arg cy hX hbl hbA (i := i) (j := 4) rfl rfl (hin 4 (by decide)) (by decide +kernel) (by decide +kernel) (by decide +kernel) (by decide +kernel) (by decide +kernel) ?_
  refine yr_aload_n cy (j := 3) (by decide +kernel) rfl ?_
  refine yr_callH cy (idx := 183) (as := [.ref 0, .int (scg xs i 1), .int (scg xs i 2), .int (scg xs i 3), .int (scg xs i 4), .ref 87]) (rest := []) (n' := 61) (kc := 5) (by decide +kernel) okH_change rfl (by decide) (by omega) (by decide) (L_change (n := 0) hl hj) (fun v d1 hq => ?_)
  obtain ⟨kk, rfl, hC⟩ := hq
  refine yr_istore cy (j := 5) (by decide +kernel) (by decide) rfl ?_
  show WF p l e R s m args below meth c 7 g ad A Z 1484 [some (.ref 2000), some (.ref 0), some (.ref 52), some (.ref 87), some (.int i), some (.int kk), none] [] d1 (u + 5)
  refine yr_aload_n cy (j := 2) (by decide +kernel) rfl ?_
  refine y_arg cy hX hbl hbA (i := i) (j := 1) rfl rfl (hin 1 (by decide)) (by decide +kernel) (by decide +kernel) (by decide +kernel) (by decide +kernel) (by decide +kernel) ?_
  refine y_arg cy hX hbl hbA (i := i) (j := 2) rfl rfl (hin 2 (by decide)) (by decide +kernel) (by decide +kernel) (by decide +kernel) (by decide +kernel) (by decide +kernel) ?_
  refine y_arg cy hX hbl hbA (i := i) (j := 3) rfl rfl (hin 3 (by decide)) (by decide +kernel) (by decide +kernel) (by decide +kernel) (by decide +kernel) (by decide +kernel) ?_
  refine y_arg cy hX hbl hbA (i := i) (j := 4) rfl rfl (hin 4 (by decide)) (by decide +kernel) (by decide +kernel) (by decide +kernel) (by decide +kernel) (by decide +kernel) ?_
  refine yr_callV cy (idx := 186) (as := [.int (scg xs i 1), .int (scg xs i 2), .int (scg xs i 3), .int (scg xs i 4)]) (rest := []) (n' := 60) (kc := 0) (by decide +kernel) okM_change L52 rfl rfl (by decide) (by omega) (by decide) hC (fun v d2 hq => ?_) (fun E d2 hx => hx.elim)
  obtain ⟨y, rfl, hj2, h4, hk, h87⟩ := hq
  exact y_tail cy hl (q := 1512) (off := 674) (by decide) (by omega) (by decide +kernel) (by decide +kernel) (by decide +kernel) (by decide +kernel) (by decide +kernel) (by decide +kernel) (by decide +kernel) (by decide +kernel) (by decide +kernel) (by decide +kernel) (by decide +kernel) (by decide +kernel) (by decide +kernel) (by decide +kernel) (by decide +kernel) (by decide) h4 (fun z => by rw [h87]; exact hk z) (K d2 _ hj2 (by omega))
theorem okH_share : okH RL 187 mL_share hL_share 5 := ⟨(gw_at 1228 (by decide +kernel) (by decide +kernel)), (gw_at 1229 (by decide +kernel) (by decide +kernel)), (gw_at 104 (by decide +kernel) (by decide +kernel)), (gw_at 1230 (by decide +kernel) (by decide +kernel)), ⟨by decide +kernel, by decide +kernel, by decide +kernel⟩, by decide⟩
theorem okM_share : okV RL 189 RX11 mX11_share 3 := ⟨(gw_at 1959 (by decide +kernel) (by decide +kernel)), (gw_at 1960 (by decide +kernel) (by decide +kernel)), (gw_at 1961 (by decide +kernel) (by decide +kernel)), (gw_at 116 (by decide +kernel) (by decide +kernel)), (gw_at 1962 (by decide +kernel) (by decide +kernel)), ⟨rfl, by decide +kernel, by decide +kernel, by decide +kernel⟩, by decide⟩
theorem cs_share (cy : Cy p l e R s m args meth c RL code 7 100 10000 ret g ad A) (hl : l.stackTraces = false) (hX : va_X (ad 2000) L xs s s.heap) (hbl : ad 2000 < s.heap.size) (hbA : ¬ A (ad 2000)) (hin : ∀ j : Int, 0 ≤ j ∧ j ≤ 5 → vp_in (i + Int32.ofInt j) L) (hj : JI d) (hu : u + 5 ≤ 10000)
    (K : ∀ d' u', JI d' → u' ≤ u + 5 → WF p l e R s m args below meth c 7 g ad A Z 2216 [some (.ref 2000), some (.ref 0), some (.ref 52), some (.ref 87), some (.int i), none, none] [] d' u') : WF p l e R s m args below meth c 7 g ad A Z 1545 [some (.ref 2000), some (.ref 0), some (.ref 52), some (.ref 87), some (.int i), none, none] [] d u := by
  refine yr_aload_n cy (j := 1) (by decide +kernel) rfl ?_
  refine y_arg cy hX hbl hbA (i := i) (j := 1) rfl rfl (hin 1 (by decide)) (by decide +kernel) (by decide +kernel) (by decide +kernel) (by decide +kernel) (by decide +kernel) ?_
  refine y_arg cy hX hbl hbA (i := i) (j := 2) rfl rfl (hin 2 (by decide)) (by decide +kernel) (by decide +kernel) (by decide +kernel) (by decide +kernel) (by decide +kernel) ?_
  refine y_arg cy hX hbl hbA (i := i) (j := 3) rfl rfl (hin 3 (by decide)) (by decide +kernel) (by decide +kernel) (by decide +kernel) (by decide +kernel) (by decide +kernel) ?_
  refine yr_aload_n cy (j := 3) (by decide +kernel) rfl ?_
  refine yr_callH cy (idx := 187) (as := [.ref 0, .int (scg xs i 1), .int (scg xs i 2), .int (scg xs i 3), .ref 87]) (rest := []) (n' := 61) (kc := 4) (by decide +kernel) okH_share rfl (by decide) (by omega) (by decide) (L_share (n := 0) hl hj) (fun v d1 hq => ?_)
  obtain ⟨kk, rfl, hC⟩ := hq
  refine yr_istore cy (j := 5) (by decide +kernel) (by decide) rfl ?_
  show WF p l e R s m args below meth c 7 g ad A Z 1570 [some (.ref 2000), some (.ref 0), some (.ref 52), some (.ref 87), some (.int i), some (.int kk), none] [] d1 (u + 4)
  refine yr_aload_n cy (j := 2) (by decide +kernel) rfl ?_
  refine y_arg cy hX hbl hbA (i := i) (j := 1) rfl rfl (hin 1 (by decide)) (by decide +kernel) (by decide +kernel) (by decide +kernel) (by decide +kernel) (by decide +kernel) ?_
  refine y_arg cy hX hbl hbA (i := i) (j := 2) rfl rfl (hin 2 (by decide)) (by decide +kernel) (by decide +kernel) (by decide +kernel) (by decide +kernel) (by decide +kernel) ?_
  refine y_arg cy hX hbl hbA (i := i) (j := 3) rfl rfl (hin 3 (by decide)) (by decide +kernel) (by decide +kernel) (by decide +kernel) (by decide +kernel) (by decide +kernel) ?_
  refine yr_callV cy (idx := 189) (as := [.int (scg xs i 1), .int (scg xs i 2), .int (scg xs i 3)]) (rest := []) (n' := 60) (kc := 0) (by decide +kernel) okM_share L52 rfl rfl (by decide) (by omega) (by decide) hC (fun v d2 hq => ?_) (fun E d2 hx => hx.elim)
  obtain ⟨y, rfl, hj2, h4, hk, h87⟩ := hq
  exact y_tail cy hl (q := 1592) (off := 594) (by decide) (by omega) (by decide +kernel) (by decide +kernel) (by decide +kernel) (by decide +kernel) (by decide +kernel) (by decide +kernel) (by decide +kernel) (by decide +kernel) (by decide +kernel) (by decide +kernel) (by decide +kernel) (by decide +kernel) (by decide +kernel) (by decide +kernel) (by decide +kernel) (by decide) h4 (fun z => by rw [h87]; exact hk z) (K d2 _ hj2 (by omega))
theorem okH_lacks : okH RL 190 mL_lacks hL_lacks 3 := ⟨(gw_at 1247 (by decide +kernel) (by decide +kernel)), (gw_at 1248 (by decide +kernel) (by decide +kernel)), (gw_at 104 (by decide +kernel) (by decide +kernel)), (gw_at 1249 (by decide +kernel) (by decide +kernel)), ⟨by decide +kernel, by decide +kernel, by decide +kernel⟩, by decide⟩
theorem okM_lacks : okV RL 192 RX11 mX11_lacks 1 := ⟨(gw_at 1964 (by decide +kernel) (by decide +kernel)), (gw_at 1965 (by decide +kernel) (by decide +kernel)), (gw_at 1966 (by decide +kernel) (by decide +kernel)), (gw_at 116 (by decide +kernel) (by decide +kernel)), (gw_at 1967 (by decide +kernel) (by decide +kernel)), ⟨rfl, by decide +kernel, by decide +kernel, by decide +kernel⟩, by decide⟩
theorem cs_lacks (cy : Cy p l e R s m args meth c RL code 7 100 10000 ret g ad A) (hl : l.stackTraces = false) (hX : va_X (ad 2000) L xs s s.heap) (hbl : ad 2000 < s.heap.size) (hbA : ¬ A (ad 2000)) (hin : ∀ j : Int, 0 ≤ j ∧ j ≤ 5 → vp_in (i + Int32.ofInt j) L) (hj : JI d) (hu : u + 5 ≤ 10000)
    (K : ∀ d' u', JI d' → u' ≤ u + 5 → WF p l e R s m args below meth c 7 g ad A Z 2216 [some (.ref 2000), some (.ref 0), some (.ref 52), some (.ref 87), some (.int i), none, none] [] d' u') : WF p l e R s m args below meth c 7 g ad A Z 1625 [some (.ref 2000), some (.ref 0), some (.ref 52), some (.ref 87), some (.int i), none, none] [] d u := by
  refine yr_aload_n cy (j := 1) (by decide +kernel) rfl ?_
  refine y_arg cy hX hbl hbA (i := i) (j := 1) rfl rfl (hin 1 (by decide)) (by decide +kernel) (by decide +kernel) (by decide +kernel) (by decide +kernel) (by decide +kernel) ?_
  refine yr_aload_n cy (j := 3) (by decide +kernel) rfl ?_
  refine yr_callH cy (idx := 190) (as := [.ref 0, .int (scg xs i 1), .ref 87]) (rest := []) (n' := 61) (kc := 1) (by decide +kernel) okH_lacks rfl (by decide) (by omega) (by decide) (L_lacks (n := 0) hl hj) (fun v d1 hq => ?_)
  obtain ⟨kk, rfl, hC⟩ := hq
  refine yr_istore cy (j := 5) (by decide +kernel) (by decide) rfl ?_
  show WF p l e R s m args below meth c 7 g ad A Z 1638 [some (.ref 2000), some (.ref 0), some (.ref 52), some (.ref 87), some (.int i), some (.int kk), none] [] d1 (u + 1)
  refine yr_aload_n cy (j := 2) (by decide +kernel) rfl ?_
  refine y_arg cy hX hbl hbA (i := i) (j := 1) rfl rfl (hin 1 (by decide)) (by decide +kernel) (by decide +kernel) (by decide +kernel) (by decide +kernel) (by decide +kernel) ?_
  refine yr_callV cy (idx := 192) (as := [.int (scg xs i 1)]) (rest := []) (n' := 60) (kc := 0) (by decide +kernel) okM_lacks L52 rfl rfl (by decide) (by omega) (by decide) hC (fun v d2 hq => ?_) (fun E d2 hx => hx.elim)
  obtain ⟨y, rfl, hj2, h4, hk, h87⟩ := hq
  exact y_tail cy hl (q := 1648) (off := 538) (by decide) (by omega) (by decide +kernel) (by decide +kernel) (by decide +kernel) (by decide +kernel) (by decide +kernel) (by decide +kernel) (by decide +kernel) (by decide +kernel) (by decide +kernel) (by decide +kernel) (by decide +kernel) (by decide +kernel) (by decide +kernel) (by decide +kernel) (by decide +kernel) (by decide) h4 (fun z => by rw [h87]; exact hk z) (K d2 _ hj2 (by omega))
theorem okH_toName : okH RL 193 mL_toName hL_toName 5 := ⟨(gw_at 1257 (by decide +kernel) (by decide +kernel)), (gw_at 1258 (by decide +kernel) (by decide +kernel)), (gw_at 104 (by decide +kernel) (by decide +kernel)), (gw_at 1259 (by decide +kernel) (by decide +kernel)), ⟨by decide +kernel, by decide +kernel, by decide +kernel⟩, by decide⟩
theorem okM_toName : okV RL 195 RX11 mX11_toName 3 := ⟨(gw_at 1968 (by decide +kernel) (by decide +kernel)), (gw_at 1969 (by decide +kernel) (by decide +kernel)), (gw_at 1970 (by decide +kernel) (by decide +kernel)), (gw_at 116 (by decide +kernel) (by decide +kernel)), (gw_at 1971 (by decide +kernel) (by decide +kernel)), ⟨rfl, by decide +kernel, by decide +kernel, by decide +kernel⟩, by decide⟩
theorem cs_toName (cy : Cy p l e R s m args meth c RL code 7 100 10000 ret g ad A) (hl : l.stackTraces = false) (hX : va_X (ad 2000) L xs s s.heap) (hbl : ad 2000 < s.heap.size) (hbA : ¬ A (ad 2000)) (hin : ∀ j : Int, 0 ≤ j ∧ j ≤ 5 → vp_in (i + Int32.ofInt j) L) (hj : JI d) (hu : u + 5 ≤ 10000)
    (K : ∀ d' u', JI d' → u' ≤ u + 5 → WF p l e R s m args below meth c 7 g ad A Z 2216 [some (.ref 2000), some (.ref 0), some (.ref 52), some (.ref 87), some (.int i), none, none] [] d' u') : WF p l e R s m args below meth c 7 g ad A Z 1681 [some (.ref 2000), some (.ref 0), some (.ref 52), some (.ref 87), some (.int i), none, none] [] d u := by
  refine yr_aload_n cy (j := 1) (by decide +kernel) rfl ?_
  refine y_arg cy hX hbl hbA (i := i) (j := 1) rfl rfl (hin 1 (by decide)) (by decide +kernel) (by decide +kernel) (by decide +kernel) (by decide +kernel) (by decide +kernel) ?_
  refine y_arg cy hX hbl hbA (i := i) (j := 2) rfl rfl (hin 2 (by decide)) (by decide +kernel) (by decide +kernel) (by decide +kernel) (by decide +kernel) (by decide +kernel) ?_
  refine y_arg cy hX hbl hbA (i := i) (j := 3) rfl rfl (hin 3 (by decide)) (by decide +kernel) (by decide +kernel) (by decide +kernel) (by decide +kernel) (by decide +kernel) ?_
  refine yr_aload_n cy (j := 3) (by decide +kernel) rfl ?_
  refine yr_callH cy (idx := 193) (as := [.ref 0, .int (scg xs i 1), .int (scg xs i 2), .int (scg xs i 3), .ref 87]) (rest := []) (n' := 61) (kc := 3) (by decide +kernel) okH_toName rfl (by decide) (by omega) (by decide) (L_toName (n := 0) hl hj) (fun v d1 hq => ?_)
  obtain ⟨kk, rfl, hC⟩ := hq
  refine yr_istore cy (j := 5) (by decide +kernel) (by decide) rfl ?_
  show WF p l e R s m args below meth c 7 g ad A Z 1706 [some (.ref 2000), some (.ref 0), some (.ref 52), some (.ref 87), some (.int i), some (.int kk), none] [] d1 (u + 3)
  refine yr_aload_n cy (j := 2) (by decide +kernel) rfl ?_
  refine y_arg cy hX hbl hbA (i := i) (j := 1) rfl rfl (hin 1 (by decide)) (by decide +kernel) (by decide +kernel) (by decide +kernel) (by decide +kernel) (by decide +kernel) ?_
  refine y_arg cy hX hbl hbA (i := i) (j := 2) rfl rfl (hin 2 (by decide)) (by decide +kernel) (by decide +kernel) (by decide +kernel) (by decide +kernel) (by decide +kernel) ?_
  refine y_arg cy hX hbl hbA (i := i) (j := 3) rfl rfl (hin 3 (by decide)) (by decide +kernel) (by decide +kernel) (by decide +kernel) (by decide +kernel) (by decide +kernel) ?_
  refine yr_callV cy (idx := 195) (as := [.int (scg xs i 1), .int (scg xs i 2), .int (scg xs i 3)]) (rest := []) (n' := 60) (kc := 0) (by decide +kernel) okM_toName L52 rfl rfl (by decide) (by omega) (by decide) hC (fun v d2 hq => ?_) (fun E d2 hx => hx.elim)
  obtain ⟨y, rfl, hj2, h4, hk, h87⟩ := hq
  exact y_tail cy hl (q := 1728) (off := 458) (by decide) (by omega) (by decide +kernel) (by decide +kernel) (by decide +kernel) (by decide +kernel) (by decide +kernel) (by decide +kernel) (by decide +kernel) (by decide +kernel) (by decide +kernel) (by decide +kernel) (by decide +kernel) (by decide +kernel) (by decide +kernel) (by decide +kernel) (by decide +kernel) (by decide) h4 (fun z => by rw [h87]; exact hk z) (K d2 _ hj2 (by omega))
theorem okH_see : okH RL 196 mL_see hL_see 4 := ⟨(gw_at 1268 (by decide +kernel) (by decide +kernel)), (gw_at 1269 (by decide +kernel) (by decide +kernel)), (gw_at 104 (by decide +kernel) (by decide +kernel)), (gw_at 1270 (by decide +kernel) (by decide +kernel)), ⟨by decide +kernel, by decide +kernel, by decide +kernel⟩, by decide⟩
theorem okM_see : okV RL 198 RX11 mX11_see 2 := ⟨(gw_at 1972 (by decide +kernel) (by decide +kernel)), (gw_at 1973 (by decide +kernel) (by decide +kernel)), (gw_at 1974 (by decide +kernel) (by decide +kernel)), (gw_at 116 (by decide +kernel) (by decide +kernel)), (gw_at 1975 (by decide +kernel) (by decide +kernel)), ⟨rfl, by decide +kernel, by decide +kernel, by decide +kernel⟩, by decide⟩
theorem cs_see (cy : Cy p l e R s m args meth c RL code 7 100 10000 ret g ad A) (hl : l.stackTraces = false) (hX : va_X (ad 2000) L xs s s.heap) (hbl : ad 2000 < s.heap.size) (hbA : ¬ A (ad 2000)) (hin : ∀ j : Int, 0 ≤ j ∧ j ≤ 5 → vp_in (i + Int32.ofInt j) L) (hj : JI d) (hu : u + 5 ≤ 10000)
    (K : ∀ d' u', JI d' → u' ≤ u + 5 → WF p l e R s m args below meth c 7 g ad A Z 2216 [some (.ref 2000), some (.ref 0), some (.ref 52), some (.ref 87), some (.int i), none, none] [] d' u') : WF p l e R s m args below meth c 7 g ad A Z 1761 [some (.ref 2000), some (.ref 0), some (.ref 52), some (.ref 87), some (.int i), none, none] [] d u := by
  refine yr_aload_n cy (j := 1) (by decide +kernel) rfl ?_
  refine y_arg cy hX hbl hbA (i := i) (j := 1) rfl rfl (hin 1 (by decide)) (by decide +kernel) (by decide +kernel) (by decide +kernel) (by decide +kernel) (by decide +kernel) ?_
  refine y_arg cy hX hbl hbA (i := i) (j := 2) rfl rfl (hin 2 (by decide)) (by decide +kernel) (by decide +kernel) (by decide +kernel) (by decide +kernel) (by decide +kernel) ?_
  refine yr_aload_n cy (j := 3) (by decide +kernel) rfl ?_
  refine yr_callH cy (idx := 196) (as := [.ref 0, .int (scg xs i 1), .int (scg xs i 2), .ref 87]) (rest := []) (n' := 61) (kc := 1) (by decide +kernel) okH_see rfl (by decide) (by omega) (by decide) (L_see (n := 0) hl hj) (fun v d1 hq => ?_)
  obtain ⟨kk, rfl, hC⟩ := hq
  refine yr_istore cy (j := 5) (by decide +kernel) (by decide) rfl ?_
  show WF p l e R s m args below meth c 7 g ad A Z 1780 [some (.ref 2000), some (.ref 0), some (.ref 52), some (.ref 87), some (.int i), some (.int kk), none] [] d1 (u + 1)
  refine yr_aload_n cy (j := 2) (by decide +kernel) rfl ?_
  refine y_arg cy hX hbl hbA (i := i) (j := 1) rfl rfl (hin 1 (by decide)) (by decide +kernel) (by decide +kernel) (by decide +kernel) (by decide +kernel) (by decide +kernel) ?_
  refine y_arg cy hX hbl hbA (i := i) (j := 2) rfl rfl (hin 2 (by decide)) (by decide +kernel) (by decide +kernel) (by decide +kernel) (by decide +kernel) (by decide +kernel) ?_
  refine yr_callV cy (idx := 198) (as := [.int (scg xs i 1), .int (scg xs i 2)]) (rest := []) (n' := 60) (kc := 0) (by decide +kernel) okM_see L52 rfl rfl (by decide) (by omega) (by decide) hC (fun v d2 hq => ?_) (fun E d2 hx => hx.elim)
  obtain ⟨y, rfl, hj2, h4, hk, h87⟩ := hq
  exact y_tail cy hl (q := 1796) (off := 390) (by decide) (by omega) (by decide +kernel) (by decide +kernel) (by decide +kernel) (by decide +kernel) (by decide +kernel) (by decide +kernel) (by decide +kernel) (by decide +kernel) (by decide +kernel) (by decide +kernel) (by decide +kernel) (by decide +kernel) (by decide +kernel) (by decide +kernel) (by decide +kernel) (by decide) h4 (fun z => by rw [h87]; exact hk z) (K d2 _ hj2 (by omega))
theorem okH_needy : okH RL 199 mL_needy hL_needy 3 := ⟨(gw_at 1279 (by decide +kernel) (by decide +kernel)), (gw_at 1280 (by decide +kernel) (by decide +kernel)), (gw_at 104 (by decide +kernel) (by decide +kernel)), (gw_at 1281 (by decide +kernel) (by decide +kernel)), ⟨by decide +kernel, by decide +kernel, by decide +kernel⟩, by decide⟩
theorem okM_needy : okV RL 201 RX11 mX11_needy 1 := ⟨(gw_at 1976 (by decide +kernel) (by decide +kernel)), (gw_at 1977 (by decide +kernel) (by decide +kernel)), (gw_at 1978 (by decide +kernel) (by decide +kernel)), (gw_at 116 (by decide +kernel) (by decide +kernel)), (gw_at 1979 (by decide +kernel) (by decide +kernel)), ⟨rfl, by decide +kernel, by decide +kernel, by decide +kernel⟩, by decide⟩
theorem cs_needy (cy : Cy p l e R s m args meth c RL code 7 100 10000 ret g ad A) (hl : l.stackTraces = false) (hX : va_X (ad 2000) L xs s s.heap) (hbl : ad 2000 < s.heap.size) (hbA : ¬ A (ad 2000)) (hin : ∀ j : Int, 0 ≤ j ∧ j ≤ 5 → vp_in (i + Int32.ofInt j) L) (hj : JI d) (hu : u + 5 ≤ 10000)
    (K : ∀ d' u', JI d' → u' ≤ u + 5 → WF p l e R s m args below meth c 7 g ad A Z 2216 [some (.ref 2000), some (.ref 0), some (.ref 52), some (.ref 87), some (.int i), none, none] [] d' u') : WF p l e R s m args below meth c 7 g ad A Z 1829 [some (.ref 2000), some (.ref 0), some (.ref 52), some (.ref 87), some (.int i), none, none] [] d u := by
  refine yr_aload_n cy (j := 1) (by decide +kernel) rfl ?_
  refine y_arg cy hX hbl hbA (i := i) (j := 1) rfl rfl (hin 1 (by decide)) (by decide +kernel) (by decide +kernel) (by decide +kernel) (by decide +kernel) (by decide +kernel) ?_
  refine yr_aload_n cy (j := 3) (by decide +kernel) rfl ?_
  refine yr_callH cy (idx := 199) (as := [.ref 0, .int (scg xs i 1), .ref 87]) (rest := []) (n' := 61) (kc := 1) (by decide +kernel) okH_needy rfl (by decide) (by omega) (by decide) (L_needy (n := 0) hl hj) (fun v d1 hq => ?_)
  obtain ⟨kk, rfl, hC⟩ := hq
  refine yr_istore cy (j := 5) (by decide +kernel) (by decide) rfl ?_
  show WF p l e R s m args below meth c 7 g ad A Z 1842 [some (.ref 2000), some (.ref 0), some (.ref 52), some (.ref 87), some (.int i), some (.int kk), none] [] d1 (u + 1)
  refine yr_aload_n cy (j := 2) (by decide +kernel) rfl ?_
  refine y_arg cy hX hbl hbA (i := i) (j := 1) rfl rfl (hin 1 (by decide)) (by decide +kernel) (by decide +kernel) (by decide +kernel) (by decide +kernel) (by decide +kernel) ?_
  refine yr_callV cy (idx := 201) (as := [.int (scg xs i 1)]) (rest := []) (n' := 60) (kc := 0) (by decide +kernel) okM_needy L52 rfl rfl (by decide) (by omega) (by decide) hC (fun v d2 hq => ?_) (fun E d2 hx => hx.elim)
  obtain ⟨y, rfl, hj2, h4, hk, h87⟩ := hq
  exact y_tail cy hl (q := 1852) (off := 334) (by decide) (by omega) (by decide +kernel) (by decide +kernel) (by decide +kernel) (by decide +kernel) (by decide +kernel) (by decide +kernel) (by decide +kernel) (by decide +kernel) (by decide +kernel) (by decide +kernel) (by decide +kernel) (by decide +kernel) (by decide +kernel) (by decide +kernel) (by decide +kernel) (by decide) h4 (fun z => by rw [h87]; exact hk z) (K d2 _ hj2 (by omega))
theorem okH_look : okH RL 202 mL_look hL_look 3 := ⟨(gw_at 1319 (by decide +kernel) (by decide +kernel)), (gw_at 1320 (by decide +kernel) (by decide +kernel)), (gw_at 104 (by decide +kernel) (by decide +kernel)), (gw_at 1321 (by decide +kernel) (by decide +kernel)), ⟨by decide +kernel, by decide +kernel, by decide +kernel⟩, by decide⟩
theorem okM_look : okV RL 204 RX11 mX11_look 1 := ⟨(gw_at 1989 (by decide +kernel) (by decide +kernel)), (gw_at 1990 (by decide +kernel) (by decide +kernel)), (gw_at 1991 (by decide +kernel) (by decide +kernel)), (gw_at 116 (by decide +kernel) (by decide +kernel)), (gw_at 1992 (by decide +kernel) (by decide +kernel)), ⟨rfl, by decide +kernel, by decide +kernel, by decide +kernel⟩, by decide⟩
theorem cs_look (cy : Cy p l e R s m args meth c RL code 7 100 10000 ret g ad A) (hl : l.stackTraces = false) (hX : va_X (ad 2000) L xs s s.heap) (hbl : ad 2000 < s.heap.size) (hbA : ¬ A (ad 2000)) (hin : ∀ j : Int, 0 ≤ j ∧ j ≤ 5 → vp_in (i + Int32.ofInt j) L) (hj : JI d) (hu : u + 5 ≤ 10000)
    (K : ∀ d' u', JI d' → u' ≤ u + 5 → WF p l e R s m args below meth c 7 g ad A Z 2216 [some (.ref 2000), some (.ref 0), some (.ref 52), some (.ref 87), some (.int i), none, none] [] d' u') : WF p l e R s m args below meth c 7 g ad A Z 1885 [some (.ref 2000), some (.ref 0), some (.ref 52), some (.ref 87), some (.int i), none, none] [] d u := by
  refine yr_aload_n cy (j := 1) (by decide +kernel) rfl ?_
  refine y_arg cy hX hbl hbA (i := i) (j := 1) rfl rfl (hin 1 (by decide)) (by decide +kernel) (by decide +kernel) (by decide +kernel) (by decide +kernel) (by decide +kernel) ?_
  refine yr_aload_n cy (j := 3) (by decide +kernel) rfl ?_
  refine yr_callH cy (idx := 202) (as := [.ref 0, .int (scg xs i 1), .ref 87]) (rest := []) (n' := 61) (kc := 1) (by decide +kernel) okH_look rfl (by decide) (by omega) (by decide) (L_look (n := 0) hl hj) (fun v d1 hq => ?_)
  obtain ⟨kk, rfl, hC⟩ := hq
  refine yr_istore cy (j := 5) (by decide +kernel) (by decide) rfl ?_
  show WF p l e R s m args below meth c 7 g ad A Z 1898 [some (.ref 2000), some (.ref 0), some (.ref 52), some (.ref 87), some (.int i), some (.int kk), none] [] d1 (u + 1)
  refine yr_aload_n cy (j := 2) (by decide +kernel) rfl ?_
  refine y_arg cy hX hbl hbA (i := i) (j := 1) rfl rfl (hin 1 (by decide)) (by decide +kernel) (by decide +kernel) (by decide +kernel) (by decide +kernel) (by decide +kernel) ?_
  refine yr_callV cy (idx := 204) (as := [.int (scg xs i 1)]) (rest := []) (n' := 60) (kc := 0) (by decide +kernel) okM_look L52 rfl rfl (by decide) (by omega) (by decide) hC (fun v d2 hq => ?_) (fun E d2 hx => hx.elim)
  obtain ⟨y, rfl, hj2, h4, hk, h87⟩ := hq
  exact y_tail cy hl (q := 1908) (off := 278) (by decide) (by omega) (by decide +kernel) (by decide +kernel) (by decide +kernel) (by decide +kernel) (by decide +kernel) (by decide +kernel) (by decide +kernel) (by decide +kernel) (by decide +kernel) (by decide +kernel) (by decide +kernel) (by decide +kernel) (by decide +kernel) (by decide +kernel) (by decide +kernel) (by decide) h4 (fun z => by rw [h87]; exact hk z) (K d2 _ hj2 (by omega))
theorem okX_forget : okV RL 205 RX10 mX10_forget 0 := ⟨(gw_at 645 (by decide +kernel) (by decide +kernel)), (gw_at 646 (by decide +kernel) (by decide +kernel)), (gw_at 647 (by decide +kernel) (by decide +kernel)), (gw_at 105 (by decide +kernel) (by decide +kernel)), (gw_at 648 (by decide +kernel) (by decide +kernel)), ⟨rfl, by decide +kernel, by decide +kernel, by decide +kernel⟩, by decide⟩
theorem okM_forget : okV RL 208 RX11 mX11_forget 0 := ⟨(gw_at 1993 (by decide +kernel) (by decide +kernel)), (gw_at 1994 (by decide +kernel) (by decide +kernel)), (gw_at 1995 (by decide +kernel) (by decide +kernel)), (gw_at 116 (by decide +kernel) (by decide +kernel)), (gw_at 1996 (by decide +kernel) (by decide +kernel)), ⟨rfl, by decide +kernel, by decide +kernel, by decide +kernel⟩, by decide⟩
theorem cs_forget (cy : Cy p l e R s m args meth c RL code 7 100 10000 ret g ad A) (hl : l.stackTraces = false) (hX : va_X (ad 2000) L xs s s.heap) (hbl : ad 2000 < s.heap.size) (hbA : ¬ A (ad 2000)) (hin : ∀ j : Int, 0 ≤ j ∧ j ≤ 5 → vp_in (i + Int32.ofInt j) L) (hj : JI d) (hu : u + 5 ≤ 10000)
    (K : ∀ d' u', JI d' → u' ≤ u + 5 → WF p l e R s m args below meth c 7 g ad A Z 2216 [some (.ref 2000), some (.ref 0), some (.ref 52), some (.ref 87), some (.int i), none, none] [] d' u') : WF p l e R s m args below meth c 7 g ad A Z 1941 [some (.ref 2000), some (.ref 0), some (.ref 52), some (.ref 87), some (.int i), none, none] [] d u := by
  refine yr_aload_n cy (j := 1) (by decide +kernel) rfl ?_
  refine yr_callV cy (idx := 205) (as := []) (rest := []) (n' := 60) (kc := 0) (by decide +kernel) okX_forget L0 rfl rfl (by decide) (by omega) (by decide) (D_forget (n := 0) hl hj) (fun v d1 hq => ?_) (fun E d2 hx => hx.elim)
  obtain ⟨rfl, hC⟩ := hq
  refine yr_aload_n cy (j := 2) (by decide +kernel) rfl ?_
  refine yr_callV cy (idx := 208) (as := []) (rest := []) (n' := 60) (kc := 0) (by decide +kernel) okM_forget L52 rfl rfl (by decide) (by omega) (by decide) hC (fun v d2 hq => ?_) (fun E d2 hx => hx.elim)
  obtain ⟨rfl, hj2, h87⟩ := hq
  exact yr_goto cy (t := 2216) (off := 267) (by decide +kernel) (by decide) (K d2 _ hj2 (by omega))
theorem okH_thieves : okH RL 209 mL_thieves hL_thieves 5 := ⟨(gw_at 1341 (by decide +kernel) (by decide +kernel)), (gw_at 1342 (by decide +kernel) (by decide +kernel)), (gw_at 104 (by decide +kernel) (by decide +kernel)), (gw_at 1343 (by decide +kernel) (by decide +kernel)), ⟨by decide +kernel, by decide +kernel, by decide +kernel⟩, by decide⟩
theorem okM_thieves : okV RL 211 RX11 mX11_thieves 3 := ⟨(gw_at 1997 (by decide +kernel) (by decide +kernel)), (gw_at 1998 (by decide +kernel) (by decide +kernel)), (gw_at 1999 (by decide +kernel) (by decide +kernel)), (gw_at 116 (by decide +kernel) (by decide +kernel)), (gw_at 2000 (by decide +kernel) (by decide +kernel)), ⟨rfl, by decide +kernel, by decide +kernel, by decide +kernel⟩, by decide⟩
theorem cs_thieves (cy : Cy p l e R s m args meth c RL code 7 100 10000 ret g ad A) (hl : l.stackTraces = false) (hX : va_X (ad 2000) L xs s s.heap) (hbl : ad 2000 < s.heap.size) (hbA : ¬ A (ad 2000)) (hin : ∀ j : Int, 0 ≤ j ∧ j ≤ 5 → vp_in (i + Int32.ofInt j) L) (hj : JI d) (hu : u + 5 ≤ 10000)
    (K : ∀ d' u', JI d' → u' ≤ u + 5 → WF p l e R s m args below meth c 7 g ad A Z 2216 [some (.ref 2000), some (.ref 0), some (.ref 52), some (.ref 87), some (.int i), none, none] [] d' u') : WF p l e R s m args below meth c 7 g ad A Z 1952 [some (.ref 2000), some (.ref 0), some (.ref 52), some (.ref 87), some (.int i), none, none] [] d u := by
  refine yr_aload_n cy (j := 1) (by decide +kernel) rfl ?_
  refine y_arg cy hX hbl hbA (i := i) (j := 1) rfl rfl (hin 1 (by decide)) (by decide +kernel) (by decide +kernel) (by decide +kernel) (by decide +kernel) (by decide +kernel) ?_
  refine y_arg cy hX hbl hbA (i := i) (j := 2) rfl rfl (hin 2 (by decide)) (by decide +kernel) (by decide +kernel) (by decide +kernel) (by decide +kernel) (by decide +kernel) ?_
  refine y_arg cy hX hbl hbA (i := i) (j := 3) rfl rfl (hin 3 (by decide)) (by decide +kernel) (by decide +kernel) (by decide +kernel) (by decide +kernel) (by decide +kernel) ?_
  refine yr_aload_n cy (j := 3) (by decide +kernel) rfl ?_
  refine yr_callH cy (idx := 209) (as := [.ref 0, .int (scg xs i 1), .int (scg xs i 2), .int (scg xs i 3), .ref 87]) (rest := []) (n' := 61) (kc := 2) (by decide +kernel) okH_thieves rfl (by decide) (by omega) (by decide) (L_thieves (n := 0) hl hj) (fun v d1 hq => ?_)
  obtain ⟨kk, rfl, hC⟩ := hq
  refine yr_istore cy (j := 5) (by decide +kernel) (by decide) rfl ?_
  show WF p l e R s m args below meth c 7 g ad A Z 1977 [some (.ref 2000), some (.ref 0), some (.ref 52), some (.ref 87), some (.int i), some (.int kk), none] [] d1 (u + 2)
  refine yr_aload_n cy (j := 2) (by decide +kernel) rfl ?_
  refine y_arg cy hX hbl hbA (i := i) (j := 1) rfl rfl (hin 1 (by decide)) (by decide +kernel) (by decide +kernel) (by decide +kernel) (by decide +kernel) (by decide +kernel) ?_
  refine y_arg cy hX hbl hbA (i := i) (j := 2) rfl rfl (hin 2 (by decide)) (by decide +kernel) (by decide +kernel) (by decide +kernel) (by decide +kernel) (by decide +kernel) ?_
  refine y_arg cy hX hbl hbA (i := i) (j := 3) rfl rfl (hin 3 (by decide)) (by decide +kernel) (by decide +kernel) (by decide +kernel) (by decide +kernel) (by decide +kernel) ?_
  refine yr_callV cy (idx := 211) (as := [.int (scg xs i 1), .int (scg xs i 2), .int (scg xs i 3)]) (rest := []) (n' := 60) (kc := 0) (by decide +kernel) okM_thieves L52 rfl rfl (by decide) (by omega) (by decide) hC (fun v d2 hq => ?_) (fun E d2 hx => hx.elim)
  obtain ⟨y, rfl, hj2, h4, hk, h87⟩ := hq
  exact y_tail cy hl (q := 1999) (off := 187) (by decide) (by omega) (by decide +kernel) (by decide +kernel) (by decide +kernel) (by decide +kernel) (by decide +kernel) (by decide +kernel) (by decide +kernel) (by decide +kernel) (by decide +kernel) (by decide +kernel) (by decide +kernel) (by decide +kernel) (by decide +kernel) (by decide +kernel) (by decide +kernel) (by decide) h4 (fun z => by rw [h87]; exact hk z) (K d2 _ hj2 (by omega))
theorem okH_game : okH RL 212 mL_game hL_game 5 := ⟨(gw_at 1368 (by decide +kernel) (by decide +kernel)), (gw_at 1369 (by decide +kernel) (by decide +kernel)), (gw_at 104 (by decide +kernel) (by decide +kernel)), (gw_at 1370 (by decide +kernel) (by decide +kernel)), ⟨by decide +kernel, by decide +kernel, by decide +kernel⟩, by decide⟩
theorem okM_game : okV RL 214 RX11 mX11_game 3 := ⟨(gw_at 2011 (by decide +kernel) (by decide +kernel)), (gw_at 2012 (by decide +kernel) (by decide +kernel)), (gw_at 2013 (by decide +kernel) (by decide +kernel)), (gw_at 116 (by decide +kernel) (by decide +kernel)), (gw_at 2014 (by decide +kernel) (by decide +kernel)), ⟨rfl, by decide +kernel, by decide +kernel, by decide +kernel⟩, by decide⟩
theorem cs_game (cy : Cy p l e R s m args meth c RL code 7 100 10000 ret g ad A) (hl : l.stackTraces = false) (hX : va_X (ad 2000) L xs s s.heap) (hbl : ad 2000 < s.heap.size) (hbA : ¬ A (ad 2000)) (hin : ∀ j : Int, 0 ≤ j ∧ j ≤ 5 → vp_in (i + Int32.ofInt j) L) (hj : JI d) (hu : u + 5 ≤ 10000)
    (K : ∀ d' u', JI d' → u' ≤ u + 5 → WF p l e R s m args below meth c 7 g ad A Z 2216 [some (.ref 2000), some (.ref 0), some (.ref 52), some (.ref 87), some (.int i), none, none] [] d' u') : WF p l e R s m args below meth c 7 g ad A Z 2032 [some (.ref 2000), some (.ref 0), some (.ref 52), some (.ref 87), some (.int i), none, none] [] d u := by
  refine yr_aload_n cy (j := 1) (by decide +kernel) rfl ?_
  refine y_arg cy hX hbl hbA (i := i) (j := 1) rfl rfl (hin 1 (by decide)) (by decide +kernel) (by decide +kernel) (by decide +kernel) (by decide +kernel) (by decide +kernel) ?_
  refine y_arg cy hX hbl hbA (i := i) (j := 2) rfl rfl (hin 2 (by decide)) (by decide +kernel) (by decide +kernel) (by decide +kernel) (by decide +kernel) (by decide +kernel) ?_
  refine y_arg cy hX hbl hbA (i := i) (j := 3) rfl rfl (hin 3 (by decide)) (by decide +kernel) (by decide +kernel) (by decide +kernel) (by decide +kernel) (by decide +kernel) ?_
  refine yr_aload_n cy (j := 3) (by decide +kernel) rfl ?_
  refine yr_callH cy (idx := 212) (as := [.ref 0, .int (scg xs i 1), .int (scg xs i 2), .int (scg xs i 3), .ref 87]) (rest := []) (n' := 61) (kc := 4) (by decide +kernel) okH_game rfl (by decide) (by omega) (by decide) (L_game (n := 0) hl hj) (fun v d1 hq => ?_)
  obtain ⟨kk, rfl, hC⟩ := hq
  refine yr_istore cy (j := 5) (by decide +kernel) (by decide) rfl ?_
  show WF p l e R s m args below meth c 7 g ad A Z 2057 [some (.ref 2000), some (.ref 0), some (.ref 52), some (.ref 87), some (.int i), some (.int kk), none] [] d1 (u + 4)
  refine yr_aload_n cy (j := 2) (by decide +kernel) rfl ?_
  refine y_arg cy hX hbl hbA (i := i) (j := 1) rfl rfl (hin 1 (by decide)) (by decide +kernel) (by decide +kernel) (by decide +kernel) (by decide +kernel) (by decide +kernel) ?_
  refine y_arg cy hX hbl hbA (i := i) (j := 2) rfl rfl (hin 2 (by decide)) (by decide +kernel) (by decide +kernel) (by decide +kernel) (by decide +kernel) (by decide +kernel) ?_
  refine y_arg cy hX hbl hbA (i := i) (j := 3) rfl rfl (hin 3 (by decide)) (by decide +kernel) (by decide +kernel) (by decide +kernel) (by decide +kernel) (by decide +kernel) ?_
  refine yr_callV cy (idx := 214) (as := [.int (scg xs i 1), .int (scg xs i 2), .int (scg xs i 3)]) (rest := []) (n' := 60) (kc := 0) (by decide +kernel) okM_game L52 rfl rfl (by decide) (by omega) (by decide) hC (fun v d2 hq => ?_) (fun E d2 hx => hx.elim)
  obtain ⟨y, rfl, hj2, h4, hk, h87⟩ := hq
  exact y_tail cy hl (q := 2079) (off := 107) (by decide) (by omega) (by decide +kernel) (by decide +kernel) (by decide +kernel) (by decide +kernel) (by decide +kernel) (by decide +kernel) (by decide +kernel) (by decide +kernel) (by decide +kernel) (by decide +kernel) (by decide +kernel) (by decide +kernel) (by decide +kernel) (by decide +kernel) (by decide +kernel) (by decide) h4 (fun z => by rw [h87]; exact hk z) (K d2 _ hj2 (by omega))
theorem okH_ages : okH RL 215 mL_ages hL_ages 5 := ⟨(gw_at 1398 (by decide +kernel) (by decide +kernel)), (gw_at 1399 (by decide +kernel) (by decide +kernel)), (gw_at 104 (by decide +kernel) (by decide +kernel)), (gw_at 1400 (by decide +kernel) (by decide +kernel)), ⟨by decide +kernel, by decide +kernel, by decide +kernel⟩, by decide⟩
theorem okM_ages : okV RL 217 RX11 mX11_ages 3 := ⟨(gw_at 2019 (by decide +kernel) (by decide +kernel)), (gw_at 2020 (by decide +kernel) (by decide +kernel)), (gw_at 2021 (by decide +kernel) (by decide +kernel)), (gw_at 116 (by decide +kernel) (by decide +kernel)), (gw_at 2022 (by decide +kernel) (by decide +kernel)), ⟨rfl, by decide +kernel, by decide +kernel, by decide +kernel⟩, by decide⟩
theorem cs_ages (cy : Cy p l e R s m args meth c RL code 7 100 10000 ret g ad A) (hl : l.stackTraces = false) (hX : va_X (ad 2000) L xs s s.heap) (hbl : ad 2000 < s.heap.size) (hbA : ¬ A (ad 2000)) (hin : ∀ j : Int, 0 ≤ j ∧ j ≤ 5 → vp_in (i + Int32.ofInt j) L) (hj : JI d) (hu : u + 5 ≤ 10000)
    (K : ∀ d' u', JI d' → u' ≤ u + 5 → WF p l e R s m args below meth c 7 g ad A Z 2216 [some (.ref 2000), some (.ref 0), some (.ref 52), some (.ref 87), some (.int i), none, none] [] d' u') : WF p l e R s m args below meth c 7 g ad A Z 2112 [some (.ref 2000), some (.ref 0), some (.ref 52), some (.ref 87), some (.int i), none, none] [] d u := by
  refine yr_aload_n cy (j := 1) (by decide +kernel) rfl ?_
  refine y_arg cy hX hbl hbA (i := i) (j := 1) rfl rfl (hin 1 (by decide)) (by decide +kernel) (by decide +kernel) (by decide +kernel) (by decide +kernel) (by decide +kernel) ?_
  refine y_arg cy hX hbl hbA (i := i) (j := 2) rfl rfl (hin 2 (by decide)) (by decide +kernel) (by decide +kernel) (by decide +kernel) (by decide +kernel) (by decide +kernel) ?_
  refine y_arg cy hX hbl hbA (i := i) (j := 3) rfl rfl (hin 3 (by decide)) (by decide +kernel) (by decide +kernel) (by decide +kernel) (by decide +kernel) (by decide +kernel) ?_
  refine yr_aload_n cy (j := 3) (by decide +kernel) rfl ?_
  refine yr_callH cy (idx := 215) (as := [.ref 0, .int (scg xs i 1), .int (scg xs i 2), .int (scg xs i 3), .ref 87]) (rest := []) (n' := 61) (kc := 2) (by decide +kernel) okH_ages rfl (by decide) (by omega) (by decide) (L_ages (n := 0) hl hj) (fun v d1 hq => ?_)
  obtain ⟨kk, rfl, hC⟩ := hq
  refine yr_istore cy (j := 5) (by decide +kernel) (by decide) rfl ?_
  show WF p l e R s m args below meth c 7 g ad A Z 2137 [some (.ref 2000), some (.ref 0), some (.ref 52), some (.ref 87), some (.int i), some (.int kk), none] [] d1 (u + 2)
  refine yr_aload_n cy (j := 2) (by decide +kernel) rfl ?_
  refine y_arg cy hX hbl hbA (i := i) (j := 1) rfl rfl (hin 1 (by decide)) (by decide +kernel) (by decide +kernel) (by decide +kernel) (by decide +kernel) (by decide +kernel) ?_
  refine y_arg cy hX hbl hbA (i := i) (j := 2) rfl rfl (hin 2 (by decide)) (by decide +kernel) (by decide +kernel) (by decide +kernel) (by decide +kernel) (by decide +kernel) ?_
  refine y_arg cy hX hbl hbA (i := i) (j := 3) rfl rfl (hin 3 (by decide)) (by decide +kernel) (by decide +kernel) (by decide +kernel) (by decide +kernel) (by decide +kernel) ?_
  refine yr_callV cy (idx := 217) (as := [.int (scg xs i 1), .int (scg xs i 2), .int (scg xs i 3)]) (rest := []) (n' := 60) (kc := 0) (by decide +kernel) okM_ages L52 rfl rfl (by decide) (by omega) (by decide) hC (fun v d2 hq => ?_) (fun E d2 hx => hx.elim)
  obtain ⟨y, rfl, hj2, h4, hk, h87⟩ := hq
  exact y_tail cy hl (q := 2159) (off := 27) (by decide) (by omega) (by decide +kernel) (by decide +kernel) (by decide +kernel) (by decide +kernel) (by decide +kernel) (by decide +kernel) (by decide +kernel) (by decide +kernel) (by decide +kernel) (by decide +kernel) (by decide +kernel) (by decide +kernel) (by decide +kernel) (by decide +kernel) (by decide +kernel) (by decide) h4 (fun z => by rw [h87]; exact hk z) (K d2 _ hj2 (by omega))
theorem okX_image : okV RL 218 RX10 mX10_image 0 := ⟨(gw_at 649 (by decide +kernel) (by decide +kernel)), (gw_at 650 (by decide +kernel) (by decide +kernel)), (gw_at 651 (by decide +kernel) (by decide +kernel)), (gw_at 105 (by decide +kernel) (by decide +kernel)), (gw_at 652 (by decide +kernel) (by decide +kernel)), ⟨rfl, by decide +kernel, by decide +kernel, by decide +kernel⟩, by decide⟩
theorem okM_image : okV RL 221 RX11 mX11_image 0 := ⟨(gw_at 2032 (by decide +kernel) (by decide +kernel)), (gw_at 2033 (by decide +kernel) (by decide +kernel)), (gw_at 2034 (by decide +kernel) (by decide +kernel)), (gw_at 116 (by decide +kernel) (by decide +kernel)), (gw_at 2035 (by decide +kernel) (by decide +kernel)), ⟨rfl, by decide +kernel, by decide +kernel, by decide +kernel⟩, by decide⟩
theorem cs_image (cy : Cy p l e R s m args meth c RL code 7 100 10000 ret g ad A) (hl : l.stackTraces = false) (hX : va_X (ad 2000) L xs s s.heap) (hbl : ad 2000 < s.heap.size) (hbA : ¬ A (ad 2000)) (hin : ∀ j : Int, 0 ≤ j ∧ j ≤ 5 → vp_in (i + Int32.ofInt j) L) (hj : JI d) (hu : u + 5 ≤ 10000)
    (K : ∀ d' u', JI d' → u' ≤ u + 5 → WF p l e R s m args below meth c 7 g ad A Z 2216 [some (.ref 2000), some (.ref 0), some (.ref 52), some (.ref 87), some (.int i), none, none] [] d' u') : WF p l e R s m args below meth c 7 g ad A Z 2192 [some (.ref 2000), some (.ref 0), some (.ref 52), some (.ref 87), some (.int i), none, none] [] d u := by
  refine yr_aload_n cy (j := 1) (by decide +kernel) rfl ?_
  refine yr_callV cy (idx := 218) (as := []) (rest := []) (n' := 60) (kc := 0) (by decide +kernel) okX_image L0 rfl rfl (by decide) (by omega) (by decide) (D_image (n := 0) hl hj) (fun v d1 hq => ?_) (fun E d2 hx => hx.elim)
  obtain ⟨rfl, hC⟩ := hq
  refine yr_aload_n cy (j := 2) (by decide +kernel) rfl ?_
  refine yr_callV cy (idx := 221) (as := []) (rest := []) (n' := 60) (kc := 0) (by decide +kernel) okM_image L52 rfl rfl (by decide) (by omega) (by decide) hC (fun v d2 hq => ?_) (fun E d2 hx => hx.elim)
  obtain ⟨rfl, hj2, h87⟩ := hq
  exact yr_goto cy (t := 2216) (off := 16) (by decide +kernel) (by decide) (K d2 _ hj2 (by omega))
theorem okX_restore : okV RL 222 RX10 mX10_restore 0 := ⟨(gw_at 658 (by decide +kernel) (by decide +kernel)), (gw_at 659 (by decide +kernel) (by decide +kernel)), (gw_at 660 (by decide +kernel) (by decide +kernel)), (gw_at 105 (by decide +kernel) (by decide +kernel)), (gw_at 661 (by decide +kernel) (by decide +kernel)), ⟨rfl, by decide +kernel, by decide +kernel, by decide +kernel⟩, by decide⟩
theorem okM_restore : okV RL 226 RX11 mX11_restore 0 := ⟨(gw_at 2039 (by decide +kernel) (by decide +kernel)), (gw_at 2040 (by decide +kernel) (by decide +kernel)), (gw_at 2041 (by decide +kernel) (by decide +kernel)), (gw_at 116 (by decide +kernel) (by decide +kernel)), (gw_at 2042 (by decide +kernel) (by decide +kernel)), ⟨rfl, by decide +kernel, by decide +kernel, by decide +kernel⟩, by decide⟩
theorem cs_restore (cy : Cy p l e R s m args meth c RL code 7 100 10000 ret g ad A) (hl : l.stackTraces = false) (hX : va_X (ad 2000) L xs s s.heap) (hbl : ad 2000 < s.heap.size) (hbA : ¬ A (ad 2000)) (hin : ∀ j : Int, 0 ≤ j ∧ j ≤ 5 → vp_in (i + Int32.ofInt j) L) (hj : JI d) (hu : u + 5 ≤ 10000)
    (K : ∀ d' u', JI d' → u' ≤ u + 5 → WF p l e R s m args below meth c 7 g ad A Z 2216 [some (.ref 2000), some (.ref 0), some (.ref 52), some (.ref 87), some (.int i), none, none] [] d' u') : WF p l e R s m args below meth c 7 g ad A Z 2203 [some (.ref 2000), some (.ref 0), some (.ref 52), some (.ref 87), some (.int i), none, none] [] d u := by
  refine yr_aload_n cy (j := 1) (by decide +kernel) rfl ?_
  refine yr_callV cy (idx := 222) (as := []) (rest := []) (n' := 60) (kc := 0) (by decide +kernel) okX_restore L0 rfl rfl (by decide) (by omega) (by decide) (D_restore (n := 0) hl hj) (fun v d1 hq => ?_) (fun E d2 hx => hx.elim)
  obtain ⟨z, rfl, hC⟩ := hq
  refine yr_aload_n cy (j := 2) (by decide +kernel) rfl ?_
  refine yr_callV cy (idx := 226) (as := []) (rest := [.int z]) (n' := 60) (kc := 0) (by decide +kernel) okM_restore L52 rfl rfl (by decide) (by omega) (by show 1 + 0 ≤ 8; decide) hC (fun v d2 hq => ?_) (fun E d2 hx => hx.elim)
  obtain ⟨rfl, hj2, h87⟩ := hq
  exact yr_icmp cy (t := 2216) (q := .eq) (off := 5) (by decide +kernel) (by decide) (fun _ => K d2 _ hj2 (by omega)) (fun hne => absurd rfl hne)
end Cases
