/-! THE LAW'S FRAME: further rules, the script, calls of helpers, what each case ends with -/
def okH (own : String) (idx : Nat) (me : ME) (hh : List (Nat × Nat × Nat × Nat)) (na : Nat) : Prop :=
  Cond.methodLink own idx me.1 ∈ gw ∧ Cond.static me.1 ∈ gw ∧ Cond.initialized me.1.cls ∈ gw ∧ Cond.codeWith me.1 me.2.1 me.2.2.1 me.2.2.2 hh ∈ gw ∧
  (me.1.cls ≠ "java/lang/invoke/MethodHandle" ∧ me.1.cls ≠ "java/lang/invoke/VarHandle" ∧ (parseMethodDescriptor me.1.desc).map (fun d => d.parameters.length) = some na) ∧ me.2.2.1 ≤ 150
section RulesZ
variable {p : Program} {l : Launch} {e : Env} {R : Room} {s : State} {m : MethodId} {args : Array Value} {below : List Frame} {meth : Method} {c : Code} {own : String} {cc : ByteArray} {nL n k : Nat} {ret : Option FieldType} {g : GG} {ad : Nat → Nat} {A : Nat → Prop} {Z : State → Prop} {pc : Nat} {ls : ALs} {st : List Value} {d : DS} {u : Nat}
theorem yr_bipush (cx : Cy p l e R s m args meth c own cc nL n k ret g ad A) {v : Int} (hd : decode cc pc = .ok (.bipush v, 2)) (h : WF p l e R s m args below meth c nL g ad A Z (pc + 2) ls (.int (Int8.ofInt v).toInt32 :: st) d u) : WF p l e R s m args below meth c nL g ad A Z pc ls st d u :=
  fun H locs la hP hS hl => lv_bipush cx.1 cx.2.1 hd rfl (h H locs la hP hS hl)
theorem yr_istore (cx : Cy p l e R s m args meth c own cc nL n k ret g ad A) {j : Nat} {x : Int32} (hd : decode cc pc = .ok (.istore j, 2)) (hj : j < nL) (hk : lok ls j = true) (h : WF p l e R s m args below meth c nL g ad A Z (pc + 2) (ls.set j (some (.int x))) st d u) : WF p l e R s m args below meth c nL g ad A Z pc ls (.int x :: st) d u :=
  fun H locs la hP hS hl => lv_istore cx.1 cx.2.1 hd hl hj rfl (fun la' hl' => h H locs la' hP hS (lvh_mono hl' (lof_set hk)))
theorem yr_iinc (cx : Cy p l e R s m args meth c own cc nL n k ret g ad A) {j : Nat} {v : Int} {x : Int32} (hd : decode cc pc = .ok (.iinc j v, 3)) (hj : ls[j]? = some (some (.int x))) (hn : j < nL) (hk : lok ls j = true) (h : WF p l e R s m args below meth c nL g ad A Z (pc + 3) (ls.set j (some (.int (x + Int32.ofInt v)))) st d u) : WF p l e R s m args below meth c nL g ad A Z pc ls st d u := by
  intro H locs la hP hS hl
  obtain ⟨i, hi⟩ := List.getElem?_of_mem (lof_in (ad := ad) hj)
  exact lv_iinc cx.1 cx.2.1 hd hl hi rfl hn rfl (fun la' hl' => h H locs la' hP hS (lvh_mono hl' (lof_set hk)))
theorem yr_iadd (cx : Cy p l e R s m args meth c own cc nL n k ret g ad A) {x y : Int32} (hd : decode cc pc = .ok (.iadd, 1)) (h : WF p l e R s m args below meth c nL g ad A Z (pc + 1) ls (.int (x + y) :: st) d u) : WF p l e R s m args below meth c nL g ad A Z pc ls (.int y :: .int x :: st) d u :=
  fun H locs la hP hS hl => lv_iadd cx.1 cx.2.1 hd (h H locs la hP hS hl)
theorem yr_isub (cx : Cy p l e R s m args meth c own cc nL n k ret g ad A) {x y : Int32} (hd : decode cc pc = .ok (.isub, 1)) (h : WF p l e R s m args below meth c nL g ad A Z (pc + 1) ls (.int (x - y) :: st) d u) : WF p l e R s m args below meth c nL g ad A Z pc ls (.int y :: .int x :: st) d u :=
  fun H locs la hP hS hl => lv_isub cx.1 cx.2.1 hd (h H locs la hP hS hl)
theorem yr_iand (cx : Cy p l e R s m args meth c own cc nL n k ret g ad A) {x y : Int32} (hd : decode cc pc = .ok (.iand, 1)) (h : WF p l e R s m args below meth c nL g ad A Z (pc + 1) ls (.int (x &&& y) :: st) d u) : WF p l e R s m args below meth c nL g ad A Z pc ls (.int y :: .int x :: st) d u :=
  fun H locs la hP hS hl => lv_iand cx.1 cx.2.1 hd (h H locs la hP hS hl)
theorem yr_lcmp (cx : Cy p l e R s m args meth c own cc nL n k ret g ad A) {x y : Int64} (hd : decode cc pc = .ok (.lcmp, 1)) (h : WF p l e R s m args below meth c nL g ad A Z (pc + 1) ls (.int (lg_cmp x y) :: st) d u) : WF p l e R s m args below meth c nL g ad A Z pc ls (.long y :: .long x :: st) d u :=
  fun H locs la hP hS hl => W.lcmp cx.1 cx.2.1 hd (h H locs la hP hS hl)
theorem yr_if (cx : Cy p l e R s m args meth c own cc nL n k ret g ad A) {q : ClassFile.Cond} {off : Int} {t : Nat} {x : Int32} (hd : decode cc pc = .ok (.ifCond q off, 3)) (ht : (pc : Int) + off = (t : Int)) (h1 : cnd q x 0 → WF p l e R s m args below meth c nL g ad A Z t ls st d u) (h2 : ¬ cnd q x 0 → WF p l e R s m args below meth c nL g ad A Z (pc + 3) ls st d u) : WF p l e R s m args below meth c nL g ad A Z pc ls (.int x :: st) d u := by
  intro H locs la hP hS hl
  cases q with
  | eq => exact lv_if_eq cx.1 cx.2.1 hd ht (fun q => h1 q H locs la hP hS hl) (fun q => h2 q H locs la hP hS hl)
  | ne => exact lv_if_ne cx.1 cx.2.1 hd ht (fun q => h1 q H locs la hP hS hl) (fun q => h2 (fun z => z q) H locs la hP hS hl)
  | lt => exact lv_if_lt cx.1 cx.2.1 hd ht (fun q => h1 q H locs la hP hS hl) (fun q => h2 q H locs la hP hS hl)
  | ge => exact lv_if_ge cx.1 cx.2.1 hd ht (fun q => h1 q H locs la hP hS hl) (fun q => h2 q H locs la hP hS hl)
  | gt => exact lv_if_gt cx.1 cx.2.1 hd ht (fun q => h1 q H locs la hP hS hl) (fun q => h2 q H locs la hP hS hl)
  | le => exact lv_if_le cx.1 cx.2.1 hd ht (fun q => h1 q H locs la hP hS hl) (fun q => h2 q H locs la hP hS hl)
theorem yr_icmp (cx : Cy p l e R s m args meth c own cc nL n k ret g ad A) {q : ClassFile.Cond} {off : Int} {t : Nat} {x y : Int32} (hd : decode cc pc = .ok (.if_icmp q off, 3)) (ht : (pc : Int) + off = (t : Int)) (h1 : cnd q x y → WF p l e R s m args below meth c nL g ad A Z t ls st d u) (h2 : ¬ cnd q x y → WF p l e R s m args below meth c nL g ad A Z (pc + 3) ls st d u) : WF p l e R s m args below meth c nL g ad A Z pc ls (.int y :: .int x :: st) d u := by
  intro H locs la hP hS hl
  cases q with
  | eq => exact lv_icmp_eq cx.1 cx.2.1 hd ht (fun q => h1 q H locs la hP hS hl) (fun q => h2 q H locs la hP hS hl)
  | ne => exact lv_icmp_ne cx.1 cx.2.1 hd ht (fun q => h1 q H locs la hP hS hl) (fun q => h2 (fun z => z q) H locs la hP hS hl)
  | lt => exact lv_icmp_lt cx.1 cx.2.1 hd ht (fun q => h1 q H locs la hP hS hl) (fun q => h2 q H locs la hP hS hl)
  | ge => exact lv_icmp_ge cx.1 cx.2.1 hd ht (fun q => h1 q H locs la hP hS hl) (fun q => h2 q H locs la hP hS hl)
  | gt => exact lv_icmp_gt cx.1 cx.2.1 hd ht (fun q => h1 q H locs la hP hS hl) (fun q => h2 q H locs la hP hS hl)
  | le => exact lv_icmp_le cx.1 cx.2.1 hd ht (fun q => h1 q H locs la hP hS hl) (fun q => h2 q H locs la hP hS hl)
theorem yr_laload (cx : Cy p l e R s m args meth c own cc nL n k ret g ad A) {a len : Nat} {q : List Nat} {i : Int32} (hd : decode cc pc = .ok (.laload, 1)) (hc : lay[a]? = some (3, len, q)) (hin : vp_in i len) (h : WF p l e R s m args below meth c nL g ad A Z (pc + 1) ls (.long (d a i.toNatClampNeg).toInt64 :: st) d u) : WF p l e R s m args below meth c nL g ad A Z pc ls (.int i :: .ref a :: st) d u := by
  intro H locs la hP hS hl
  exact va_lald (D := g.1) (cl := vwCl) (ws := wld g ad d) (a := ad a) (f := fun i => (d a i).toInt64) cx.1 cx.2.1 (vw_K cx.2.2.2.2.2.2.2.2.1) hP a 2 (wld_at hc) rfl hin hd (h H locs la hP hS hl)
theorem yr_table (cx : Cy p l e R s m args meth c own cc nL n k ret g ad A) {dflt lo hi : Int} {offs : Array Int} {len : Nat} {x : Int32} (hd : decode cc pc = .ok (.tableswitch dflt lo hi offs, len)) (hlen : lo + offs.size = hi + 1) (hoff : ∀ (j : Nat) (off : Int), offs[j]? = some off → 0 ≤ (pc : Int) + off) (hdf : 0 ≤ (pc : Int) + dflt)
    (h1 : ∀ (j : Nat) (off : Int), offs[j]? = some off → x.toInt = lo + j → WF p l e R s m args below meth c nL g ad A Z (((pc : Int) + off).toNat) ls st d u) (h2 : (x.toInt < lo ∨ hi < x.toInt) → WF p l e R s m args below meth c nL g ad A Z (((pc : Int) + dflt).toNat) ls st d u) : WF p l e R s m args below meth c nL g ad A Z pc ls (.int x :: st) d u := by
  intro H locs la hP hS hl
  by_cases hq : x.toInt < lo ∨ hi < x.toInt
  · exact lv_tableOut cx.1 cx.2.1 hd hq (by omega) (h2 hq H locs la hP hS hl)
  · have q1 : ¬ x.toInt < lo := fun z => hq (Or.inl z)
    have q2 : ¬ hi < x.toInt := fun z => hq (Or.inr z)
    have hj : (x.toInt - lo).toNat < offs.size := by omega
    have ho : offs[(x.toInt - lo).toNat]? = some offs[(x.toInt - lo).toNat] := Array.getElem?_eq_getElem hj
    have h0 := hoff _ _ ho
    exact lv_tableIn cx.1 cx.2.1 hd q1 q2 ho (by omega) (h1 _ _ ho (by omega) H locs la hP hS hl)
theorem yWF_drop {ls' : ALs} (hs : ∀ (j : Nat) (v : Value), ls'[j]? = some (some v) → ls[j]? = some (some v)) (h : WF p l e R s m args below meth c nL g ad A Z pc ls' st d u) : WF p l e R s m args below meth c nL g ad A Z pc ls st d u :=
  fun H locs la hP hS hl => h H locs la hP hS (lvh_mono hl (fun q hq => by
    obtain ⟨j, v, h1, h2⟩ := lof_mem.mp hq
    exact lof_mem.mpr ⟨j, v, hs j v h1, h2⟩))
theorem yr_sld (cx : Cy p l e R s m args meth c own cc nL n k ret g ad A) {L : Nat} {xs : Nat → Int32} (hX : va_X (ad 2000) L xs s s.heap) (hbl : ad 2000 < s.heap.size) (hbA : ¬ A (ad 2000)) {i : Int32} (hin : vp_in i L) (hd : decode cc pc = .ok (.iaload, 1)) (h : WF p l e R s m args below meth c nL g ad A Z (pc + 1) ls (.int (xs i.toNatClampNeg) :: st) d u) : WF p l e R s m args below meth c nL g ad A Z pc ls (.int i :: .ref 2000 :: st) d u :=
  fun H locs la hP hS hl => va_sld cx.1 cx.2.1 hX hbl hbA hS hin hd (h H locs la hP hS hl)
theorem yr_slen (cx : Cy p l e R s m args meth c own cc nL n k ret g ad A) {L : Nat} {xs : Nat → Int32} (hX : va_X (ad 2000) L xs s s.heap) (hbl : ad 2000 < s.heap.size) (hbA : ¬ A (ad 2000)) (hd : decode cc pc = .ok (.arraylength, 1)) (h : WF p l e R s m args below meth c nL g ad A Z (pc + 1) ls (.int (nI L) :: st) d u) : WF p l e R s m args below meth c nL g ad A Z pc ls (.ref 2000 :: st) d u :=
  fun H locs la hP hS hl => va_slen cx.1 cx.2.1 hX hbl hbA hS hd (h H locs la hP hS hl)
theorem yr_callH (cx : Cy p l e R s m args meth c own cc nL n k ret g ad A) {idx na kc n' : Nat} {me : ME} {hh : List (Nat × Nat × Nat × Nat)} {as rest : List Value} {Q' : Option Value → DS → Prop} (hd : decode cc pc = .ok (.invokestatic idx, 3)) (hk : okH own idx me hh na) (hna : as.length = na) (hn : n' < n) (hu : u + kc ≤ k) (hcat : (rest.map fun v => v.category).sum ≤ 8)
    (hC : CH l me hh n' kc as d Q') (h : ∀ v d', Q' v d' → WF p l e R s m args below meth c nL g ad A Z (pc + 3) ls (v.toList ++ rest) d' (u + kc)) : WF p l e R s m args below meth c nL g ad A Z pc ls (as.reverse ++ rest) d u := by
  intro H locs la hP hS hl
  obtain ⟨k1, k2, k4, k5, k6, k7⟩ := hk
  have hts := cx.2.2.2.2.1
  obtain ⟨r1, r2, r3, r4⟩ := cx.2.2.2.2.2.2.2.1
  have cw : vx_CSW R s args own idx me.1 me.2.1 me.2.2.1 me.2.2.2 hh (wsH me hh) (rmM n' kc) kc (8 * kc) na := by
    refine vx_cwSW (Ts := gw) (ws' := gw) na hts (goodGw (fun w hw => ?_)) rfl rfl rfl k6 ⟨?_, ?_⟩
    · rcases List.mem_append.mp hw with hw | hw
      · rcases List.mem_cons.mp hw with rfl | hw
        · exact k1
        · rcases List.mem_cons.mp hw with rfl | hw
          · exact k2
          · rcases List.mem_cons.mp hw with rfl | hw
            · exact k4
            · cases hw
      · rcases List.mem_cons.mp hw with rfl | hw
        · exact k5
        · exact hw
    · show n' + 1 ≤ R.frames
      omega
    · show 8 + (me.2.2.1 + 11) + 200 * n' ≤ R.locals
      omega
  have run := vx_runSX (p := p) (e := e) (below := below) (meth := meth) (H := H) (locs := locs) (cells := u) (slots := 8 * u) (As := as.map (cv ad)) (rest := rest.map (cv ad)) (Ts := gw) (own := own) (g := F0 m pc la ((as.reverse ++ rest).map (cv ad))) ⟨cx.1, cx.2.1, cx.2.2.1, cx.2.2.2.1, hts⟩ (hC g ad H.size) cw ⟨PM_blind, fun U hU hW => yPM_at cx (as := as) hP hS U hU hW⟩
    rfl (by rw [List.length_map]; exact hna) hl.1 (by simp) (by show 2 * 0 + _ ≤ 8; rw [cat_map]; omega) hd ⟨by omega, by omega⟩
  exact yr_after cx hS hl run h (fun E d' hx => hx.elim)
/-- the j-th int behind i -/
def scg (xs : Nat → Int32) (i : Int32) (j : Int) : Int32 := xs (i + Int32.ofInt j).toNatClampNeg
set_option maxRecDepth 100000 in
set_option maxHeartbeats 4000000 in
theorem y_arg (cx : Cy p l e R s m args meth c own cc nL n k ret g ad A) {L : Nat} {xs : Nat → Int32} (hX : va_X (ad 2000) L xs s s.heap) (hbl : ad 2000 < s.heap.size) (hbA : ¬ A (ad 2000)) {i : Int32} {j : Int} (h0 : ls[((0 : Fin 4) : Nat)]? = some (some (.ref 2000))) (h4 : ls[4]? = some (some (.int i))) (hin : vp_in (i + Int32.ofInt j) L)
    (d1 : decode cc pc = .ok (.aload_n 0, 1)) (d2 : decode cc (pc + 1) = .ok (.iload 4, 2)) (d3 : decode cc (pc + 1 + 2) = .ok (.iconst j, 1)) (d4 : decode cc (pc + 1 + 2 + 1) = .ok (.iadd, 1)) (d5 : decode cc (pc + 1 + 2 + 1 + 1) = .ok (.iaload, 1))
    (h : WF p l e R s m args below meth c nL g ad A Z (pc + 6) ls (.int (scg xs i j) :: st) d u) : WF p l e R s m args below meth c nL g ad A Z pc ls st d u :=
  yr_aload_n cx (j := 0) d1 h0 (yr_iload cx (j := 4) d2 h4 (yr_iconst cx d3 (yr_iadd cx d4 (yr_sld cx hX hbl hbA hin d5 h))))
theorem lcmp_self (x : Int64) : lg_cmp x x = 0 := by
  unfold lg_cmp
  simp
theorem okV_thrown : okV RL 113 RX11 mX11_thrown 0 := ⟨(gw_at 1618 (by decide +kernel) (by decide +kernel)), (gw_at 1619 (by decide +kernel) (by decide +kernel)), (gw_at 1620 (by decide +kernel) (by decide +kernel)), (gw_at 116 (by decide +kernel) (by decide +kernel)), (gw_at 1621 (by decide +kernel) (by decide +kernel)), ⟨rfl, by decide +kernel, by decide +kernel, by decide +kernel⟩, by decide⟩

set_option maxRecDepth 100000 in
set_option maxHeartbeats 4000000 in
theorem y_tail (cx : Cy p l e R s m args meth c RL cc 7 n k ret g ad A) (hl : l.stackTraces = false) {i kk y : Int32} {q : Nat} (hn : 20 < n) (hu : u ≤ k)
    (d1 : decode cc q = .ok (.istore 6, 2)) (d2 : decode cc (q + 2) = .ok (.aload_n 2, 1)) (d3 : decode cc (q + 2 + 1) = .ok (.invokevirtual 113, 3)) (d4 : decode cc (q + 2 + 1 + 3) = .ok (.iload 5, 2)) (d5 : decode cc (q + 2 + 1 + 3 + 2) = .ok (.if_icmp .eq 5, 3)) (d6 : decode cc (q + 13) = .ok (.iload 5, 2)) (d7 : decode cc (q + 13 + 2) = .ok (.ifCond .ne 15, 3)) (d8 : decode cc (q + 13 + 2 + 3) = .ok (.aload_n 3, 1)) (d9 : decode cc (q + 13 + 2 + 3 + 1) = .ok (.iconst 0, 1)) (d10 : decode cc (q + 13 + 2 + 3 + 1 + 1) = .ok (.laload, 1)) (d11 : decode cc (q + 13 + 2 + 3 + 1 + 1 + 1) = .ok (.iload 6, 2)) (d12 : decode cc (q + 13 + 2 + 3 + 1 + 1 + 1 + 2) = .ok (.i2l, 1)) (d13 : decode cc (q + 13 + 2 + 3 + 1 + 1 + 1 + 2 + 1) = .ok (.lcmp, 1)) (d14 : decode cc (q + 13 + 2 + 3 + 1 + 1 + 1 + 2 + 1 + 1) = .ok (.ifCond .eq 5, 3)) {off : Int} (d15 : decode cc (q + 30) = .ok (.goto off, 3)) (ht : ((q + 30 : Nat) : Int) + off = ((2216 : Nat) : Int))
    (h4 : d 52 4 = kk) (hk : kk = 0 → d 87 0 = y)
    (h : WF p l e R s m args below meth c 7 g ad A Z 2216 [some (.ref 2000), some (.ref 0), some (.ref 52), some (.ref 87), some (.int i), none, none] [] d u) : WF p l e R s m args below meth c 7 g ad A Z q [some (.ref 2000), some (.ref 0), some (.ref 52), some (.ref 87), some (.int i), some (.int kk), none] [.int y] d u := by
  have hend : WF p l e R s m args below meth c 7 g ad A Z (q + 30) [some (.ref 2000), some (.ref 0), some (.ref 52), some (.ref 87), some (.int i), some (.int kk), some (.int y)] [] d u := by
    refine yr_goto cx d15 ht (yWF_drop (fun j v hj => ?_) h)
    match j, hj with
    | 0, hj => exact hj
    | 1, hj => exact hj
    | 2, hj => exact hj
    | 3, hj => exact hj
    | 4, hj => exact hj
    | 5, hj => simp at hj
    | 6, hj => simp at hj
    | j + 7, hj => simp at hj
  refine yr_istore cx (j := 6) d1 (by decide) rfl ?_
  show WF p l e R s m args below meth c 7 g ad A Z (q + 2) [some (.ref 2000), some (.ref 0), some (.ref 52), some (.ref 87), some (.int i), some (.int kk), some (.int y)] [] d u
  refine yr_aload_n cx (j := 2) d2 rfl ?_
  refine yr_callV cx (idx := 113) (as := []) (rest := []) (n' := 20) (kc := 0) d3 okV_thrown L52 rfl rfl hn (by omega) (by decide) (q_thrown (n := 0) hl) (fun v d1 hq => ?_) (fun E d1 hx => hx.elim)
  obtain ⟨rfl, rfl⟩ := hq
  show WF p l e R s m args below meth c 7 g ad A Z (q + 2 + 1 + 3) [some (.ref 2000), some (.ref 0), some (.ref 52), some (.ref 87), some (.int i), some (.int kk), some (.int y)] [.int (d1 52 4)] d1 u
  rw [h4]
  refine yr_iload cx (j := 5) d4 rfl ?_
  refine yr_icmp cx (t := q + 13) d5 (by omega) (fun _ => ?_) (fun hne => absurd rfl hne)
  refine yr_iload cx (j := 5) d6 rfl ?_
  refine yr_if cx (t := q + 30) d7 (by omega) (fun _ => hend) (fun hz => ?_)
  have hz : kk = 0 := Classical.byContradiction hz
  refine yr_aload_n cx (j := 3) d8 rfl ?_
  refine yr_iconst cx d9 ?_
  refine yr_laload cx (a := 87) (i := 0) d10 L87 v01 ?_
  refine yr_iload cx (j := 6) d11 rfl ?_
  refine yr_i2l cx d12 ?_
  refine yr_lcmp cx d13 ?_
  refine yr_if cx (t := q + 30) d14 (by omega) (fun _ => hend) (fun hne => absurd ?_ hne)
  show lg_cmp (d1 87 (0 : Int32).toNatClampNeg).toInt64 y.toInt64 = 0
  rw [show (0 : Int32).toNatClampNeg = 0 from rfl, hk hz]
  exact lcmp_self _
end RulesZ
