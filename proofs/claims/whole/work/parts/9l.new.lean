/-! THE CONSTRUCTORS: a calculus over a world that grows -/
def nests : List Cond := lw_tbl.filter (fun w => match w with | .methodLinkNest .. => true | _ => false)
def NW (U : State) : Prop := (∀ w ∈ nests, va_Nw w U) ∧ va_AO "java/lang/String" U
theorem NW.warm {s U : State} (hW : s.WarmedH U.vm) (h : NW s) : NW U := by
  refine ⟨fun w hw => ?_, va_AO.moved hW.alike h.2⟩
  have h1 := (List.mem_filter.mp hw).2
  have h2 := h.1 w hw
  cases w <;> first | exact va_Nw.warmM hW h2 | cases h1
theorem NW.same {s U : State} (hv : U.vm = s.vm) (h : NW s) : NW U := by
  refine ⟨fun w hw => ?_, va_AO.moved (by rw [hv]; exact Vm.Alike.refl s.vm) h.2⟩
  have h1 := (List.mem_filter.mp hw).2
  refine va_Nw.same ?_ hv.symm (h.1 w hw)
  cases w <;> first | rfl | cases h1
def nwR (n k z : Nat) : Room := { frames := n, cells := k, slots := z, locals := 200 * n }
def nwP (g : GG) (ad : Nat → Nat) (as : List Value) (wc : va_W) (sz : Nat) : Array Value → State → Prop :=
  va_Pc as (fun U => U.heap.size = sz ∧ va_P g.1 vwCl wc U.heap ∧ GI g ad (va_A wc sz) U U.heap ∧ NW U ∧ va_D (fun _ => True) wc)
/-- THE CONTRACT of a constructor: called on the cells wc it leaves cells w with B -/
def nwC (l : Launch) (me : ME) (n k z : Nat) (g : GG) (ad : Nat → Nat) (as : List Value) (wc : va_W) (B : va_W → Prop) : Prop :=
  ∀ sz : Nat, Met l me.1 (wsM me) (nwR n k z) (nwP g ad as wc sz) (va_Qv B (fun w t => va_P g.1 vwCl w t.heap ∧ va_D (va_A wc sz) w) (va_A wc sz)) k z (va_A wc sz)
theorem nwP_blind {g : GG} {ad : Nat → Nat} {as : List Value} {wc : va_W} {sz : Nat} : FrameBlind (nwP g ad as wc sz) := fun a U g' mk q => by
  obtain ⟨q0, q1, qP, qK, qN, qD⟩ := q
  exact ⟨q0, q1, qP, GI.same qK rfl, NW.same (s := U) (U := U.calling g' mk a) rfl qN, qD⟩
def nwX (p : Program) (l : Launch) (e : Env) (R : Room) (s : State) (m : MethodId) (args : Array Value) (meth : Method) (c : Code) (own : String) (cc : ByteArray) (nL n : Nat) (ret : Option FieldType) (g : GG) (ad : Nat → Nat) (A : Nat → Prop) : Prop :=
  p.tables.exec = Jvm.exec ∧ c.code = cc ∧ c.maxLocals = nL ∧ s.vm.findClass own = some m.cls ∧ (∀ w ∈ gw, w.before args s = true) ∧ meth.sig.returnType = ret ∧ meth.locks = false ∧ (n ≤ R.frames ∧ 200 * n ≤ R.locals) ∧ GI g ad A s s.heap ∧ NW s ∧ (∀ q, s.heap.size ≤ q → A q)
def nwW (p : Program) (l : Launch) (e : Env) (R : Room) (s : State) (m : MethodId) (args : Array Value) (below : List Frame) (meth : Method) (c : Code) (nL : Nat) (g : GG) (A : Nat → Prop) (Z : State → Prop) (pc : Nat) (ls : ALs) (st : List Value) (ws : va_W) (u z : Nat) : Prop :=
  ∀ (H : Heap) (locs : List Loc) (la : Array Slot), va_P g.1 vwCl ws H → va_D A ws → va_S A s.heap H locs → lv_has la nL (lof id 0 ls) → W p l e R s m args below meth c H locs u z Z (F0 m pc la st)
theorem cv_id : ∀ v : Value, cv id v = v := fun v => by cases v <;> rfl
/-- a fresh int[] -/
abbrev aI (g : GG) (N : Nat) : va_E := .inl (g.2.1, N, .inl (fun _ => 0))
/-- an int[] that holds v everywhere -/
abbrev aV (g : GG) (N : Nat) (v : Int32) : va_E := .inl (g.2.1, N, .inl (fun _ => v))
section New
variable {p : Program} {l : Launch} {e : Env} {R : Room} {s : State} {m : MethodId} {args : Array Value} {below : List Frame} {meth : Method} {c : Code} {own : String} {cc : ByteArray} {nL n : Nat} {ret : Option FieldType} {g : GG} {ad : Nat → Nat} {A : Nat → Prop} {Z : State → Prop} {pc : Nat} {ls : ALs} {st : List Value} {ws : va_W} {u z : Nat}
set_option maxRecDepth 100000 in
set_option maxHeartbeats 4000000 in
theorem n_iconst (cx : nwX p l e R s m args meth c own cc nL n ret g ad A) {v : Int} (hd : decode cc pc = .ok (.iconst v, 1)) (h : nwW p l e R s m args below meth c nL g A Z (pc + 1) ls (.int (Int32.ofInt v) :: st) ws u z) : nwW p l e R s m args below meth c nL g A Z pc ls st ws u z :=
  fun H locs la hP hD hS hl => lv_iconst cx.1 cx.2.1 hd rfl (h H locs la hP hD hS hl)
set_option maxRecDepth 100000 in
set_option maxHeartbeats 4000000 in
theorem n_bipush (cx : nwX p l e R s m args meth c own cc nL n ret g ad A) {v : Int} (hd : decode cc pc = .ok (.bipush v, 2)) (h : nwW p l e R s m args below meth c nL g A Z (pc + 2) ls (.int (Int8.ofInt v).toInt32 :: st) ws u z) : nwW p l e R s m args below meth c nL g A Z pc ls st ws u z :=
  fun H locs la hP hD hS hl => lv_bipush cx.1 cx.2.1 hd rfl (h H locs la hP hD hS hl)
set_option maxRecDepth 100000 in
set_option maxHeartbeats 4000000 in
theorem n_sipush (cx : nwX p l e R s m args meth c own cc nL n ret g ad A) {v : Int} (hd : decode cc pc = .ok (.sipush v, 3)) (h : nwW p l e R s m args below meth c nL g A Z (pc + 3) ls (.int (Int16.ofInt v).toInt32 :: st) ws u z) : nwW p l e R s m args below meth c nL g A Z pc ls st ws u z :=
  fun H locs la hP hD hS hl => lv_sipush cx.1 cx.2.1 hd rfl (h H locs la hP hD hS hl)
set_option maxRecDepth 100000 in
set_option maxHeartbeats 4000000 in
theorem n_aload_n (cx : nwX p l e R s m args meth c own cc nL n ret g ad A) {j : Fin 4} {x : Nat} (hd : decode cc pc = .ok (.aload_n j, 1)) (hj : ls[(j : Nat)]? = some (some (.ref x))) (h : nwW p l e R s m args below meth c nL g A Z (pc + 1) ls (.ref x :: st) ws u z) : nwW p l e R s m args below meth c nL g A Z pc ls st ws u z :=
  fun H locs la hP hD hS hl => lv_aload_n cx.1 cx.2.1 hd rfl (lvh_at hl hj) (h H locs la hP hD hS hl)
set_option maxRecDepth 100000 in
set_option maxHeartbeats 4000000 in
theorem n_aload (cx : nwX p l e R s m args meth c own cc nL n ret g ad A) {j : Nat} {x : Nat} (hd : decode cc pc = .ok (.aload j, 2)) (hj : ls[j]? = some (some (.ref x))) (h : nwW p l e R s m args below meth c nL g A Z (pc + 2) ls (.ref x :: st) ws u z) : nwW p l e R s m args below meth c nL g A Z pc ls st ws u z :=
  fun H locs la hP hD hS hl => lv_aload cx.1 cx.2.1 hd (lvh_at hl hj) (h H locs la hP hD hS hl)
set_option maxRecDepth 100000 in
set_option maxHeartbeats 4000000 in
theorem n_iload_n (cx : nwX p l e R s m args meth c own cc nL n ret g ad A) {j : Fin 4} {x : Int32} (hd : decode cc pc = .ok (.iload_n j, 1)) (hj : ls[(j : Nat)]? = some (some (.int x))) (h : nwW p l e R s m args below meth c nL g A Z (pc + 1) ls (.int x :: st) ws u z) : nwW p l e R s m args below meth c nL g A Z pc ls st ws u z :=
  fun H locs la hP hD hS hl => lv_iload_n cx.1 cx.2.1 hd rfl (lvh_at hl hj) (h H locs la hP hD hS hl)
set_option maxRecDepth 100000 in
set_option maxHeartbeats 4000000 in
theorem n_astore_n (cx : nwX p l e R s m args meth c own cc nL n ret g ad A) {j : Fin 4} {x : Nat} (hd : decode cc pc = .ok (.astore_n j, 1)) (hj : (j : Nat) < nL) (hk : lok ls j = true) (h : nwW p l e R s m args below meth c nL g A Z (pc + 1) (ls.set j (some (.ref x))) st ws u z) : nwW p l e R s m args below meth c nL g A Z pc ls (.ref x :: st) ws u z :=
  fun H locs la hP hD hS hl => lv_astore_n cx.1 cx.2.1 hd rfl hl hj rfl (fun la' hl' => h H locs la' hP hD hS (lvh_mono hl' (lof_set hk)))
set_option maxRecDepth 100000 in
set_option maxHeartbeats 4000000 in
theorem n_astore (cx : nwX p l e R s m args meth c own cc nL n ret g ad A) {j : Nat} {x : Nat} (hd : decode cc pc = .ok (.astore j, 2)) (hj : j < nL) (hk : lok ls j = true) (h : nwW p l e R s m args below meth c nL g A Z (pc + 2) (ls.set j (some (.ref x))) st ws u z) : nwW p l e R s m args below meth c nL g A Z pc ls (.ref x :: st) ws u z :=
  fun H locs la hP hD hS hl => lv_astore cx.1 cx.2.1 hd hl hj rfl (fun la' hl' => h H locs la' hP hD hS (lvh_mono hl' (lof_set hk)))
set_option maxRecDepth 100000 in
set_option maxHeartbeats 4000000 in
theorem n_istore_n (cx : nwX p l e R s m args meth c own cc nL n ret g ad A) {j : Fin 4} {x : Int32} (hd : decode cc pc = .ok (.istore_n j, 1)) (hj : (j : Nat) < nL) (hk : lok ls j = true) (h : nwW p l e R s m args below meth c nL g A Z (pc + 1) (ls.set j (some (.int x))) st ws u z) : nwW p l e R s m args below meth c nL g A Z pc ls (.int x :: st) ws u z :=
  fun H locs la hP hD hS hl => lv_istore_n cx.1 cx.2.1 hd rfl hl hj rfl (fun la' hl' => h H locs la' hP hD hS (lvh_mono hl' (lof_set hk)))
set_option maxRecDepth 100000 in
set_option maxHeartbeats 4000000 in
theorem n_istore (cx : nwX p l e R s m args meth c own cc nL n ret g ad A) {j : Nat} {x : Int32} (hd : decode cc pc = .ok (.istore j, 2)) (hj : j < nL) (hk : lok ls j = true) (h : nwW p l e R s m args below meth c nL g A Z (pc + 2) (ls.set j (some (.int x))) st ws u z) : nwW p l e R s m args below meth c nL g A Z pc ls (.int x :: st) ws u z :=
  fun H locs la hP hD hS hl => lv_istore cx.1 cx.2.1 hd hl hj rfl (fun la' hl' => h H locs la' hP hD hS (lvh_mono hl' (lof_set hk)))
set_option maxRecDepth 100000 in
set_option maxHeartbeats 4000000 in
theorem n_iinc (cx : nwX p l e R s m args meth c own cc nL n ret g ad A) {j : Nat} {v : Int} {x : Int32} (hd : decode cc pc = .ok (.iinc j v, 3)) (hj : ls[j]? = some (some (.int x))) (hn : j < nL) (hk : lok ls j = true) (h : nwW p l e R s m args below meth c nL g A Z (pc + 3) (ls.set j (some (.int (x + Int32.ofInt v)))) st ws u z) : nwW p l e R s m args below meth c nL g A Z pc ls st ws u z := by
  intro H locs la hP hD hS hl
  obtain ⟨i, hi⟩ := List.getElem?_of_mem (lof_in (ad := id) hj)
  exact lv_iinc cx.1 cx.2.1 hd hl hi rfl hn rfl (fun la' hl' => h H locs la' hP hD hS (lvh_mono hl' (lof_set hk)))
set_option maxRecDepth 100000 in
set_option maxHeartbeats 4000000 in
theorem n_dup (cx : nwX p l e R s m args meth c own cc nL n ret g ad A) {v : Value} (hd : decode cc pc = .ok (.dup, 1)) (hv : v.category = 1) (h : nwW p l e R s m args below meth c nL g A Z (pc + 1) ls (v :: v :: st) ws u z) : nwW p l e R s m args below meth c nL g A Z pc ls (v :: st) ws u z :=
  fun H locs la hP hD hS hl => lv_dup cx.1 cx.2.1 hd hv (h H locs la hP hD hS hl)
set_option maxRecDepth 100000 in
set_option maxHeartbeats 4000000 in
theorem n_goto (cx : nwX p l e R s m args meth c own cc nL n ret g ad A) {off : Int} {t : Nat} (hd : decode cc pc = .ok (.goto off, 3)) (ht : (pc : Int) + off = (t : Int)) (h : nwW p l e R s m args below meth c nL g A Z t ls st ws u z) : nwW p l e R s m args below meth c nL g A Z pc ls st ws u z :=
  fun H locs la hP hD hS hl => lv_goto cx.1 cx.2.1 hd ht (h H locs la hP hD hS hl)
set_option maxRecDepth 100000 in
set_option maxHeartbeats 4000000 in
theorem n_icmpge (cx : nwX p l e R s m args meth c own cc nL n ret g ad A) {off : Int} {t : Nat} {x y : Int32} (hd : decode cc pc = .ok (.if_icmp .ge off, 3)) (ht : (pc : Int) + off = (t : Int)) (h1 : y ≤ x → nwW p l e R s m args below meth c nL g A Z t ls st ws u z) (h2 : ¬ y ≤ x → nwW p l e R s m args below meth c nL g A Z (pc + 3) ls st ws u z) : nwW p l e R s m args below meth c nL g A Z pc ls (.int y :: .int x :: st) ws u z :=
  fun H locs la hP hD hS hl => lv_icmp_ge cx.1 cx.2.1 hd ht (fun q => h1 q H locs la hP hD hS hl) (fun q => h2 q H locs la hP hD hS hl)
set_option maxRecDepth 100000 in
set_option maxHeartbeats 4000000 in
theorem n_ldcS (cx : nwX p l e R s m args meth c own cc nL n ret g ad A) {idx j : Nat} {tx : String} (hd : decode cc pc = .ok (.ldc idx, 2)) (hw : (own, idx, tx, j) ∈ strs) (h : nwW p l e R s m args below meth c nL g A Z (pc + 2) ls (.ref (ad (1000 + j)) :: st) ws u z) : nwW p l e R s m args below meth c nL g A Z pc ls st ws u z :=
  fun H locs la hP hD hS hl => va_ldcS cx.1 cx.2.1 cx.2.2.2.1 (cx.2.2.2.2.2.2.2.2.1.2.1 _ hw) hd (h H locs la hP hD hS hl)
set_option maxRecDepth 100000 in
set_option maxHeartbeats 4000000 in
theorem n_new (cx : nwX p l e R s m args meth c own cc nL n ret g ad A) {C : String} {T : u_T} {N ci idx : Nat} (hd : decode cc pc = .ok (.new idx, 3)) (hc : vwCl[ci]? = some (C, T, N)) (ty : Nat → FieldType) (hty : ∀ k, k < N → parseFieldDescriptor (T k).2.2.1 = some (ty k)) (h1 : Cond.classLink own idx C ∈ gw) (h2 : Cond.instantiable C N ∈ gw) (h3 : Cond.initialized C ∈ gw) {fs : List Value} (hfs : ∀ j, j < N → defaultValue (ty j) = vp_V fs j) (hu : u + 1 ≤ R.cells) (hz : z + N ≤ R.slots)
    (h : ∀ q : Nat, nwW p l e R s m args below meth c nL g A Z (pc + 3) ls (.ref q :: st) (ws ++ [(q, .inr (ci, fs))]) (u + 1) (z + N)) : nwW p l e R s m args below meth c nL g A Z pc ls st ws u z := by
  intro H locs la hP hD hS hl
  obtain ⟨hx, hb, hml, hown, hts, hr, hlk, hR, hG, hN, hA⟩ := cx
  exact va_new (D := g.1) (cl := vwCl) (Ts := gw) (T := T) hx hb hts (vw_in ci C T N hc) ty hty hown (hts _ h1) (hts _ h2) (hts _ h3) hG.1 hP hD hS hA hc hfs hu hz hd (fun q H1 hP hD hS => h q H1 locs la hP hD hS hl)
set_option maxRecDepth 100000 in
set_option maxHeartbeats 4000000 in
theorem n_newI (cx : nwX p l e R s m args meth c own cc nL n ret g ad A) {v : Int32} {N : Nat} (hd : decode cc pc = .ok (.newarray .int, 2)) (hn : ¬ v < 0) (hN : v.toNatClampNeg = N) (hb4 : N * 4 ≤ 536870912) (hw : Cond.arrayClass .int ∈ gw) (hu : u + 1 ≤ R.cells) (hz : z + N ≤ R.slots)
    (h : ∀ q : Nat, nwW p l e R s m args below meth c nL g A Z (pc + 2) ls (.ref q :: st) (ws ++ [(q, aI g N)]) (u + 1) (z + N)) : nwW p l e R s m args below meth c nL g A Z pc ls (.int v :: st) ws u z := by
  intro H locs la hP hD hS hl
  obtain ⟨hx, hb, hml, hown, hts, hr, hlk, hR, hG, hNN, hA⟩ := cx
  refine va_newa (atype := .int) (D := g.1) (cl := vwCl) (a0 := (N, .inl (fun _ => 0))) hx hb (hts _ hw) rfl hG.1 hP hD hS hA (fun _ => rfl) hn hN hb4 hu hz hd (fun q cA H1 hK hP hD hS => ?_)
  have e1 := (hK.2 4 (cA, .int) rfl).2
  have e2 := (hK.2 0 (g.2.1, .int) rfl).2
  have e3 : cA = g.2.1 := Option.some.inj (e1.symm.trans e2)
  subst e3
  exact h q H1 locs la hP hD hS hl
set_option maxRecDepth 100000 in
set_option maxHeartbeats 4000000 in
theorem n_newB (cx : nwX p l e R s m args meth c own cc nL n ret g ad A) {v : Int32} {N : Nat} (hd : decode cc pc = .ok (.newarray .byte, 2)) (hn : ¬ v < 0) (hN : v.toNatClampNeg = N) (hb4 : N * 1 ≤ 536870912) (hw : Cond.arrayClass .byte ∈ gw) (hu : u + 1 ≤ R.cells) (hz : z + N ≤ R.slots)
    (h : ∀ q : Nat, nwW p l e R s m args below meth c nL g A Z (pc + 2) ls (.ref q :: st) (ws ++ [(q, .inl (g.2.2.1, N, .inl (fun _ => 0)))]) (u + 1) (z + N)) : nwW p l e R s m args below meth c nL g A Z pc ls (.int v :: st) ws u z := by
  intro H locs la hP hD hS hl
  obtain ⟨hx, hb, hml, hown, hts, hr, hlk, hR, hG, hNN, hA⟩ := cx
  refine va_newa (atype := .byte) (D := g.1) (cl := vwCl) (a0 := (N, .inl (fun _ => 0))) hx hb (hts _ hw) rfl hG.1 hP hD hS hA (fun _ => rfl) hn hN hb4 hu hz hd (fun q cA H1 hK hP hD hS => ?_)
  have e1 := (hK.2 4 (cA, .byte) rfl).2
  have e2 := (hK.2 1 (g.2.2.1, .byte) rfl).2
  have e3 : cA = g.2.2.1 := Option.some.inj (e1.symm.trans e2)
  subst e3
  exact h q H1 locs la hP hD hS hl
set_option maxRecDepth 100000 in
set_option maxHeartbeats 4000000 in
theorem n_newL (cx : nwX p l e R s m args meth c own cc nL n ret g ad A) {v : Int32} {N : Nat} (hd : decode cc pc = .ok (.newarray .long, 2)) (hn : ¬ v < 0) (hN : v.toNatClampNeg = N) (hb4 : N * 8 ≤ 536870912) (hw : Cond.arrayClass .long ∈ gw) (hu : u + 1 ≤ R.cells) (hz : z + N ≤ R.slots)
    (h : ∀ q : Nat, nwW p l e R s m args below meth c nL g A Z (pc + 2) ls (.ref q :: st) (ws ++ [(q, .inl (g.2.2.2.1, N, .inr (.inl (fun _ => 0))))]) (u + 1) (z + N)) : nwW p l e R s m args below meth c nL g A Z pc ls (.int v :: st) ws u z := by
  intro H locs la hP hD hS hl
  obtain ⟨hx, hb, hml, hown, hts, hr, hlk, hR, hG, hNN, hA⟩ := cx
  refine va_newa (atype := .long) (D := g.1) (cl := vwCl) (a0 := (N, .inr (.inl (fun _ => 0)))) hx hb (hts _ hw) rfl hG.1 hP hD hS hA (fun _ => rfl) hn hN hb4 hu hz hd (fun q cA H1 hK hP hD hS => ?_)
  have e1 := (hK.2 4 (cA, .long) rfl).2
  have e2 := (hK.2 2 (g.2.2.2.1, .long) rfl).2
  have e3 : cA = g.2.2.2.1 := Option.some.inj (e1.symm.trans e2)
  subst e3
  exact h q H1 locs la hP hD hS hl
set_option maxRecDepth 100000 in
set_option maxHeartbeats 4000000 in
theorem n_newS (cx : nwX p l e R s m args meth c own cc nL n ret g ad A) {v : Int32} {N idx : Nat} (hd : decode cc pc = .ok (.anewarray idx, 3)) (hn : ¬ v < 0) (hN : v.toNatClampNeg = N) (hb4 : N * 4 ≤ 536870912) (hw : Cond.classLink own idx "java/lang/String" ∈ gw) (hu : u + 1 ≤ R.cells) (hz : z + N ≤ R.slots)
    (h : ∀ q : Nat, nwW p l e R s m args below meth c nL g A Z (pc + 3) ls (.ref q :: st) (ws ++ [(q, .inl (g.2.2.2.2.1, N, .inr (.inr (.inr (.inr (fun _ => none))))))]) (u + 1) (z + N)) : nwW p l e R s m args below meth c nL g A Z pc ls (.int v :: st) ws u z := by
  intro H locs la hP hD hS hl
  obtain ⟨hx, hb, hml, hown, hts, hr, hlk, hR, hG, hNN, hA⟩ := cx
  refine va_newq (D := g.1) (cl := vwCl) hx hb hown (hts _ hw) hNN.2 hG.1 hP hD hS hA hn hN hb4 hu hz hd (fun q cA H1 hK hP hD hS => ?_)
  obtain ⟨_, _, _, _, _, e1⟩ := (hK.2 4 (cA, .object "java/lang/String") rfl).2
  obtain ⟨_, _, _, _, _, e2⟩ := (hK.2 3 (g.2.2.2.2.1, .object "java/lang/String") rfl).2
  have e3 : cA = g.2.2.2.2.1 := Option.some.inj (e1.symm.trans e2)
  subst e3
  exact h q H1 locs la hP hD hS hl
set_option maxRecDepth 100000 in
set_option maxHeartbeats 4000000 in
theorem n_get (cx : nwX p l e R s m args meth c own cc nL n ret g ad A) {idx ci j a q0 : Nat} {fs : List Value} {v : Value} (hd : decode cc pc = .ok (.getfield idx, 3)) (hF : okF own idx ci j) (he : ws[q0]? = some (a, .inr (ci, fs))) (hv : fs[j]? = some v) (h : nwW p l e R s m args below meth c nL g A Z (pc + 3) ls (v :: st) ws u z) : nwW p l e R s m args below meth c nL g A Z pc ls (.ref a :: st) ws u z := by
  intro H locs la hP hD hS hl
  obtain ⟨hx, hb, hml, hown, hts, hr, hlk, hR, hG, hNN, hA⟩ := cx
  obtain ⟨C, T, N, f1, f2, f3⟩ := hF
  exact va_get (D := g.1) (cl := vwCl) (C := C) (T := T) (N := N) (ref := (T j).1) (Ts := gw) hx hb hts (vw_in ci C T N f1) hown hG.1 hP q0 he f1 j f2 (hts _ f3) (fun _ h9 => h9) hv hd (h H locs la hP hD hS hl)
/-- the field's type; not final, or of this class -/
def okQ (own : String) (ci j : Nat) (ty : FieldType) : Prop := ∃ (C : String) (T : u_T) (N : Nat), vwCl[ci]? = some (C, T, N) ∧ parseFieldDescriptor (T j).2.2.1 = some ty ∧ ((T j).2.2.2 = false ∨ ((T j).2.2.2 = true ∧ (T j).1 = own))
set_option maxRecDepth 100000 in
set_option maxHeartbeats 4000000 in
theorem n_put (cx : nwX p l e R s m args meth c own cc nL n ret g ad A) {idx ci j a q0 : Nat} {ty : FieldType} {fs : List Value} {v : Value} (hin : meth.name = "<init>") (hd : decode cc pc = .ok (.putfield idx, 3)) (hF : okF own idx ci j) (hT : okQ own ci j ty) (he : ws[q0]? = some (a, .inr (ci, fs))) (hn : narrow ty v = v) (hfit : fits ty v = true) (hl : j < fs.length)
    (h : nwW p l e R s m args below meth c nL g A Z (pc + 3) ls st (ws.set q0 (a, .inr (ci, fs.set j v))) u z) : nwW p l e R s m args below meth c nL g A Z pc ls (v :: .ref a :: st) ws u z := by
  intro H locs la hP hD hS hla
  obtain ⟨hx, hb, hml, hown, hts, hr, hlk, hR, hG, hNN, hA⟩ := cx
  obtain ⟨C, T, N, f1, f2, f3⟩ := hF
  obtain ⟨C2, T2, N2, g1, g2, g3⟩ := hT
  cases f1.symm.trans g1
  obtain ⟨⟨ty0, ht0⟩, hnm⟩ := vw_ok ci C T N f1
  rcases g3 with g3 | ⟨g3, g4⟩
  · exact va_put (D := g.1) (cl := vwCl) (C := C) (T := T) (N := N) (ref := (T j).1) (Ts := gw) (ty := ty) hx hb hts (vw_in ci C T N f1) ty0 ht0 hnm hown hG.1 hP hD hS q0 he f1 j f2 (hts _ f3) (fun _ h9 => h9) g3 g2 hn hfit hl hd (fun H1 locs1 hP hD hS => h H1 locs1 la hP hD hS hla)
  · exact va_putF (D := g.1) (cl := vwCl) (C := C) (T := T) (N := N) (ref := (T j).1) (Ts := gw) (ty := ty) hx hb hts (vw_in ci C T N f1) ty0 ht0 hnm hown hG.1 hP hD hS q0 he f1 j f2 (hts _ f3) (fun _ h9 => h9) g3 hin g4 g2 hn hfit hl hd (fun H1 locs1 hP hD hS => h H1 locs1 la hP hD hS hla)
set_option maxRecDepth 100000 in
set_option maxHeartbeats 4000000 in
theorem n_alen (cx : nwX p l e R s m args meth c own cc nL n ret g ad A) {a q0 N : Nat} {f : Nat → Int32} (hd : decode cc pc = .ok (.arraylength, 1)) (he : ws[q0]? = some (a, .inl (g.2.1, N, .inl f))) (h : nwW p l e R s m args below meth c nL g A Z (pc + 1) ls (.int (nI N) :: st) ws u z) : nwW p l e R s m args below meth c nL g A Z pc ls (.ref a :: st) ws u z :=
  fun H locs la hP hD hS hl => va_alen (D := g.1) (cl := vwCl) cx.1 cx.2.1 cx.2.2.2.2.2.2.2.2.1.1 hP q0 0 he (ty := .int) rfl rfl hd (h H locs la hP hD hS hl)
set_option maxRecDepth 100000 in
set_option maxHeartbeats 4000000 in
theorem n_iast (cx : nwX p l e R s m args meth c own cc nL n ret g ad A) {a q0 N : Nat} {f : Nat → Int32} {i x : Int32} (hd : decode cc pc = .ok (.iastore, 1)) (he : ws[q0]? = some (a, .inl (g.2.1, N, .inl f))) (hin : vp_in i N) (h : nwW p l e R s m args below meth c nL g A Z (pc + 1) ls st (ws.set q0 (a, .inl (g.2.1, N, .inl (upd f i.toNatClampNeg x)))) u z) : nwW p l e R s m args below meth c nL g A Z pc ls (.int x :: .int i :: .ref a :: st) ws u z :=
  fun H locs la hP hD hS hl => va_iast (D := g.1) (cl := vwCl) cx.1 cx.2.1 cx.2.2.2.2.2.2.2.2.1.1 hP hD hS q0 0 he rfl hin hd (fun H1 locs1 hP hD hS => h H1 locs1 la hP hD hS hl)
set_option maxRecDepth 100000 in
set_option maxHeartbeats 4000000 in
theorem n_objInit (cx : nwX p l e R s m args meth c own cc nL n ret g ad A) {idx a : Nat} (hd : decode cc pc = .ok (.invokespecial idx, 3)) (hw : Cond.methodLink own idx Lib.objectInit ∈ gw) (hn : 1 ≤ n) (hst : (st.map fun v => v.category).sum ≤ 100) (h : nwW p l e R s m args below meth c nL g A Z (pc + 3) ls st ws u z) : nwW p l e R s m args below meth c nL g A Z pc ls (.ref a :: st) ws u z := by
  intro H locs la hP hD hS hl
  obtain ⟨hx, hb, hml, hown, hts, hr, hlk, ⟨hR1, hR2⟩, hG, hNN, hA⟩ := cx
  refine W.objInit hx hb hown (hts _ hw) (hts _ (gw_at 136 (by decide +kernel) (by decide +kernel))) (hts _ (gw_at 137 (by decide +kernel) (by decide +kernel))) rfl (by rw [hml]; exact hl.1) rfl hd (by omega) (by show 2 * 0 + _ + 12 ≤ _; omega) ?_
  exact h H locs la hP hD hS hl
end New
