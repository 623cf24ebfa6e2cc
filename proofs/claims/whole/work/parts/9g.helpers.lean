/-! THE LAW'S HELPERS: methods with a table of handlers -/
def Cy (p : Program) (l : Launch) (e : Env) (R : Room) (s : State) (m : MethodId) (args : Array Value) (meth : Method) (c : Code) (own : String) (cc : ByteArray) (nL n k : Nat) (ret : Option FieldType) (g : GG) (ad : Nat → Nat) (A : Nat → Prop) : Prop :=
  p.tables.exec = Jvm.exec ∧ c.code = cc ∧ c.maxLocals = nL ∧ s.vm.findClass own = some m.cls ∧ (∀ w ∈ gw, w.before args s = true) ∧ meth.sig.returnType = ret ∧ meth.locks = false ∧ (n ≤ R.frames ∧ 200 * n ≤ R.locals ∧ k ≤ R.cells ∧ 8 * k ≤ R.slots) ∧ GI g ad A s s.heap ∧
  (∀ d, va_D A (wld g ad d)) ∧ (∀ q, s.heap.size ≤ q → A q) ∧ l.stackTraces = false
section RulesY
variable {p : Program} {l : Launch} {e : Env} {R : Room} {s : State} {m : MethodId} {args : Array Value} {below : List Frame} {meth : Method} {c : Code} {own : String} {cc : ByteArray} {nL n k : Nat} {ret : Option FieldType} {g : GG} {ad : Nat → Nat} {A : Nat → Prop} {Z : State → Prop} {pc : Nat} {ls : ALs} {st : List Value} {d : DS} {u : Nat} {Q : Option Value → DS → Prop} {X : String → DS → Prop}
theorem yr_iconst (cx : Cy p l e R s m args meth c own cc nL n k ret g ad A) {v : Int} (hd : decode cc pc = .ok (.iconst v, 1)) (h : WF p l e R s m args below meth c nL g ad A Z (pc + 1) ls (.int (Int32.ofInt v) :: st) d u) : WF p l e R s m args below meth c nL g ad A Z pc ls st d u :=
  fun H locs la hP hS hl => lv_iconst cx.1 cx.2.1 hd rfl (h H locs la hP hS hl)
theorem yr_iload_n (cx : Cy p l e R s m args meth c own cc nL n k ret g ad A) {j : Fin 4} {x : Int32} (hd : decode cc pc = .ok (.iload_n j, 1)) (hj : ls[(j : Nat)]? = some (some (.int x))) (h : WF p l e R s m args below meth c nL g ad A Z (pc + 1) ls (.int x :: st) d u) : WF p l e R s m args below meth c nL g ad A Z pc ls st d u :=
  fun H locs la hP hS hl => lv_iload_n cx.1 cx.2.1 hd rfl (lvh_at hl hj) (h H locs la hP hS hl)
theorem yr_iload (cx : Cy p l e R s m args meth c own cc nL n k ret g ad A) {j : Nat} {x : Int32} (hd : decode cc pc = .ok (.iload j, 2)) (hj : ls[j]? = some (some (.int x))) (h : WF p l e R s m args below meth c nL g ad A Z (pc + 2) ls (.int x :: st) d u) : WF p l e R s m args below meth c nL g ad A Z pc ls st d u :=
  fun H locs la hP hS hl => lv_iload cx.1 cx.2.1 hd (lvh_at hl hj) (h H locs la hP hS hl)
theorem yr_aload_n (cx : Cy p l e R s m args meth c own cc nL n k ret g ad A) {j : Fin 4} {x : Nat} (hd : decode cc pc = .ok (.aload_n j, 1)) (hj : ls[(j : Nat)]? = some (some (.ref x))) (h : WF p l e R s m args below meth c nL g ad A Z (pc + 1) ls (.ref x :: st) d u) : WF p l e R s m args below meth c nL g ad A Z pc ls st d u :=
  fun H locs la hP hS hl => lv_aload_n cx.1 cx.2.1 hd rfl (lvh_at hl hj) (h H locs la hP hS hl)
theorem yr_aload (cx : Cy p l e R s m args meth c own cc nL n k ret g ad A) {j : Nat} {x : Nat} (hd : decode cc pc = .ok (.aload j, 2)) (hj : ls[j]? = some (some (.ref x))) (h : WF p l e R s m args below meth c nL g ad A Z (pc + 2) ls (.ref x :: st) d u) : WF p l e R s m args below meth c nL g ad A Z pc ls st d u :=
  fun H locs la hP hS hl => lv_aload cx.1 cx.2.1 hd (lvh_at hl hj) (h H locs la hP hS hl)
theorem yr_i2l (cx : Cy p l e R s m args meth c own cc nL n k ret g ad A) {x : Int32} (hd : decode cc pc = .ok (.i2l, 1)) (h : WF p l e R s m args below meth c nL g ad A Z (pc + 1) ls (.long x.toInt64 :: st) d u) : WF p l e R s m args below meth c nL g ad A Z pc ls (.int x :: st) d u :=
  fun H locs la hP hS hl => lv_i2l cx.1 cx.2.1 hd rfl (h H locs la hP hS hl)
theorem yr_goto (cx : Cy p l e R s m args meth c own cc nL n k ret g ad A) {off : Int} {t : Nat} (hd : decode cc pc = .ok (.goto off, 3)) (ht : (pc : Int) + off = (t : Int)) (h : WF p l e R s m args below meth c nL g ad A Z t ls st d u) : WF p l e R s m args below meth c nL g ad A Z pc ls st d u :=
  fun H locs la hP hS hl => lv_goto cx.1 cx.2.1 hd ht (h H locs la hP hS hl)
theorem yr_lastore (cx : Cy p l e R s m args meth c own cc nL n k ret g ad A) {a len : Nat} {q : List Nat} {i x : Int32} (hd : decode cc pc = .ok (.lastore, 1)) (hc : lay[a]? = some (3, len, q)) (hin : vp_in i len) (h : WF p l e R s m args below meth c nL g ad A Z (pc + 1) ls st (dset d a i.toNatClampNeg x) u) : WF p l e R s m args below meth c nL g ad A Z pc ls (.long x.toInt64 :: .int i :: .ref a :: st) d u := by
  intro H locs la hP hS hl
  refine va_last (D := g.1) (cl := vwCl) (ws := wld g ad d) (a := ad a) (f := fun i => (d a i).toInt64) (x := x.toInt64) cx.1 cx.2.1 (vw_K cx.2.2.2.2.2.2.2.2.1) hP (cx.2.2.2.2.2.2.2.2.2.1 d) hS a 2 (wld_at hc) rfl hin hd (fun H1 locs1 hP1 hD1 hS1 => ?_)
  have e0 : vp_updL (fun i => (d a i).toInt64) i.toNatClampNeg x.toInt64 = fun j => (dset d a i.toNatClampNeg x a j).toInt64 := by
    funext j
    simp only [vp_updL, dset_self, upd]
    split <;> rfl
  have e1 : (wld g ad d).set a (ad a, .inl (g.2.2.2.1, len, .inr (.inl (vp_updL (fun i => (d a i).toInt64) i.toNatClampNeg x.toInt64)))) = wld g ad (dset d a i.toNatClampNeg x) := by
    rw [e0]
    exact wld_set hc dset_other
  rw [e1] at hP1
  exact h H1 locs1 la hP1 hS1 hl
theorem ye_ret (cx : Cy p l e R s m args meth c own cc nL n k ret g ad A) {ty : FieldType} {x : Int32} (hd : decode cc pc = .ok (.ireturn, 1)) (ht : ret = some ty) (hn : narrow ty (.int x) = .int x) (hu : u ≤ k) (hq : Q (some (.int x)) d) :
    WF p l e R s m args below meth c nL g ad A (vx_MQ below (QM g ad A Q) (XM g ad A X) args s k (8 * k) A) pc ls [.int x] d u := by
  intro H locs la hP hS hl
  obtain ⟨hx, hb, hml, hown, hts, hr, hlk, hR, hG, hD, hA, hst⟩ := cx
  refine W.widen (k := k) (n := 8 * k) hu (by omega) (vx_ret ?_)
  exact W.zret hx hb (hr.trans ht) hn (fun t ht hW => ⟨⟨some (.int x), d, rfl, hq, by rw [ht]; exact hP⟩, hS.F ht⟩) hS.2.2 hd hlk
theorem yPM_at (cx : Cy p l e R s m args meth c own cc nL n k ret g ad A) {H : Heap} {locs : List Loc} {as : List Value} (hP : va_P g.1 vwCl (wld g ad d) H) (hS : va_S A s.heap H locs) (U : State) (hU : U.heap = H) (hW : s.WarmedH U.vm) : PM g ad as d H.size (as.map (cv ad)).toArray U := by
  obtain ⟨hx, hb, hml, hown, hts, hr, hlk, hR, hG, hD, hA, hst⟩ := cx
  exact ⟨rfl, by rw [hU], by rw [hU]; exact hP, by rw [hU]; exact GI.to hG hW (A_sub hD hA hS) hS.2.1, (hD d).weaken (fun _ _ _ _ => trivial)⟩
theorem yr_after (cx : Cy p l e R s m args meth c own cc nL n k ret g ad A) {H : Heap} {locs : List Loc} {la : Array Slot} {kc : Nat} {rest : List Value} {st0 : List Value} {a : Array Value} {Q' : Option Value → DS → Prop} {X' : String → DS → Prop} (hS : va_S A s.heap H locs) (hl : lv_has la nL (lof ad 0 ls))
    (run : vx_Run p l e R s m args below meth c H locs u (8 * u) kc (8 * kc) (F0 m pc la st0) (rest.map (cv ad)) (QM g ad (va_A (wld g ad d) H.size) Q' a) (XM g ad (va_A (wld g ad d) H.size) X') (va_A (wld g ad d) H.size))
    (h : ∀ v d', Q' v d' → WF p l e R s m args below meth c nL g ad A Z (pc + 3) ls (v.toList ++ rest) d' (u + kc)) (hX : ∀ E d', X' E d' → VX p l e R s m args below meth c nL g ad A Z pc ls rest d' (u + kc) E) : W p l e R s m args below meth c H locs u (8 * u) Z (F0 m pc la st0) := by
  obtain ⟨hx, hb, hml, hown, hts, hr, hlk, hR, hG, hD, hA, hst⟩ := cx
  have hAs := A_sub (d := d) hD hA hS
  intro T hT XX
  rcases run T hT XX with ⟨v, st₀, t, T', L, h0, X1, hL, e1, e2, ⟨⟨v', d', hv, hq, hp'⟩, hF⟩, go⟩ | ⟨q, st₀, t, T', L, E, ce, h0, X1, hL, e1, e2, ⟨⟨d', hx', hp'⟩, hF⟩, hce, hcv, hcl, go⟩
  · have hv : v = v'.map (cv ad) := by injection hv
    subst hv
    obtain ⟨k1, k2, k3⟩ := vx_keep h0 e1 hS (fun q _ h => hAs q h) hAs hL hF
    have e8 : 8 * u + 8 * kc = 8 * (u + kc) := by omega
    rw [e8] at X1
    obtain ⟨t2, a1, b1⟩ := h v' d' hq T'.heap (locs ++ L) la (by rw [e1]; exact hp') k3 hl T' rfl X1
    refine ⟨t2, go t2 ?_, b1⟩
    have e9 : (v'.map (cv ad)).toList ++ rest.map (cv ad) = (v'.toList ++ rest).map (cv ad) := by cases v' <;> rfl
    rw [e9]
    exact a1
  · obtain ⟨k1, k2, k3⟩ := vx_keep h0 e1 hS (fun q _ h => hAs q h) hAs hL hF
    have e8 : 8 * u + 8 * kc = 8 * (u + kc) := by omega
    rw [e8] at X1
    obtain ⟨t2, a1, b1⟩ := hX E d' hx' T'.heap (locs ++ L) la q ce (by rw [e1]; exact hp') k3 hl (by rw [e1]; exact hce) hcv hcl T' rfl X1
    exact ⟨t2, go.trans a1, b1⟩
theorem ycb_of (cx : Cy p l e R s m args meth c own cc nL n k ret g ad A) {idx na kc n' : Nat} {me : ME} (h1 : Cond.methodLink own idx me.1 ∈ gw) (h2 : Cond.initialized me.1.cls ∈ gw) (h3 : Cond.code me.1 me.2.1 me.2.2.1 me.2.2.2 ∈ gw)
    (hd : me.1.cls ≠ "java/lang/invoke/MethodHandle" ∧ me.1.cls ≠ "java/lang/invoke/VarHandle" ∧ (parseMethodDescriptor me.1.desc).map (fun d => d.parameters.length) = some na) (hm : me.2.2.1 ≤ 150) (hn : n' < n) :
    CallB R s args own idx me.1 me.2.1 me.2.2.1 me.2.2.2 (wsM me) (rmM n' kc) kc (8 * kc) na := by
  obtain ⟨hx, hb, hml, hown, hts, hr, hlk, ⟨r1, r2, r3, r4⟩, hG, hD, hA, hst⟩ := cx
  refine callB_of na hts (goodGw (fun w hw => ?_)) rfl rfl rfl (hts _ h2) (hts _ h1) hd ⟨?_, ?_⟩
  · rcases List.mem_cons.mp hw with rfl | hw
    · exact h3
    · exact hw
  · show n' + 1 ≤ R.frames
    omega
  · show 8 + (me.2.2.1 + 11) + 200 * n' ≤ R.locals
    omega
theorem yr_callV (cx : Cy p l e R s m args meth c own cc nL n k ret g ad A) {idx na kc n' b ci : Nat} {me : ME} {C : String} {T : u_T} {N : Nat} {sl : List Nat} {as rest : List Value} {Q' : Option Value → DS → Prop} {X' : String → DS → Prop} (hd : decode cc pc = .ok (.invokevirtual idx, 3)) (hk : okV own idx C me na) (hb : lay[b]? = some (0, ci, sl)) (hci : vwCl[ci]? = some (C, T, N)) (hna : as.length = na) (hn : n' < n) (hu : u + kc ≤ k) (hcat : (rest.map fun v => v.category).sum ≤ 8)
    (hC : CM l me n' kc (.ref b :: as) d Q' X') (h : ∀ v d', Q' v d' → WF p l e R s m args below meth c nL g ad A Z (pc + 3) ls (v.toList ++ rest) d' (u + kc)) (hX : ∀ E d', X' E d' → VX p l e R s m args below meth c nL g ad A Z pc ls rest d' (u + kc) E) : WF p l e R s m args below meth c nL g ad A Z pc ls (as.reverse ++ .ref b :: rest) d u := by
  intro H locs la hP hS hl
  obtain ⟨k1, k2, k3, k4, k5, k6, k7⟩ := hk
  have cb := ycb_of cx (kc := kc) k1 (by rw [k6.1]; exact k4) k5 k6.2 k7 hn
  have hts := cx.2.2.2.2.1
  have hrm := cx.2.2.2.2.2.2.2.1
  have hrec := va_recv (D := g.1) (cl := vwCl) cx.2.2.2.2.2.2.2.2.1.1 hP hci (wld_at hb)
  have run := vx_runV (p := p) (e := e) (below := below) (meth := meth) (H := H) (locs := locs) (cells := u) (slots := 8 * u) (C := C) (b := ad b) (As := as.map (cv ad)) (rest := rest.map (cv ad)) (Ts := gw) (own := own) (g := F0 m pc la ((as.reverse ++ .ref b :: rest).map (cv ad))) ⟨cx.1, cx.2.1, cx.2.2.1, cx.2.2.2.1, hts⟩ (hC g ad H.size) ⟨cb, hts _ k2, hts _ k3⟩ ⟨PM_blind, hrec, fun U hU hW => yPM_at cx (as := .ref b :: as) hP hS U hU hW⟩
    rfl (by rw [List.length_map]; exact hna) hl.1 (by simp [cv]) (by show 2 * 0 + _ ≤ 8; rw [cat_map]; omega) hd ⟨by omega, by omega⟩
  exact yr_after cx hS hl run h hX
/-- a handler: what was caught is laid down, a number is answered -/
theorem yhand_n (cx : Cy p l e R s m args meth c own cc nL n k ret g ad A) {H : Heap} {locs : List Loc} {la : Array Slot} {q hp : Nat} {j : Fin 4} {v : Int} (hP : va_P g.1 vwCl (wld g ad d) H) (hS : va_S A s.heap H locs) (hl : lv_has la nL (lof ad 0 ls)) (hd : decode cc hp = .ok (.astore_n j, 1)) (hj : (j : Nat) < nL) (hd2 : decode cc (hp + 1) = .ok (.iconst v, 1)) (hd3 : decode cc (hp + 1 + 1) = .ok (.ireturn, 1)) (ht : ret = some .int) (hu : u ≤ k) (hq : Q (some (.int (Int32.ofInt v))) d) :
    W p l e R s m args below meth c H locs u (8 * u) (vx_MQ below (QM g ad A Q) (XM g ad A X) args s k (8 * k) A) (F0 m hp la [.ref q]) := by
  refine lv_astore_n cx.1 cx.2.1 hd rfl hl hj rfl (fun la' hl' => ?_)
  refine lv_iconst cx.1 cx.2.1 hd2 rfl ?_
  refine W.widen (k := k) (n := 8 * k) hu (by omega) (vx_ret ?_)
  exact W.zret cx.1 cx.2.1 (cx.2.2.2.2.2.1.trans ht) rfl (fun t ht hW => ⟨⟨some (.int (Int32.ofInt v)), d, rfl, hq, by rw [ht]; exact hP⟩, hS.F ht⟩) hS.2.2 hd3 cx.2.2.2.2.2.2.1
theorem yhand (cx : Cy p l e R s m args meth c own cc nL n k ret g ad A) {H : Heap} {locs : List Loc} {la : Array Slot} {q hp j : Nat} {v : Int} (hP : va_P g.1 vwCl (wld g ad d) H) (hS : va_S A s.heap H locs) (hl : lv_has la nL (lof ad 0 ls)) (hd : decode cc hp = .ok (.astore j, 2)) (hj : j < nL) (hd2 : decode cc (hp + 2) = .ok (.iconst v, 1)) (hd3 : decode cc (hp + 2 + 1) = .ok (.ireturn, 1)) (ht : ret = some .int) (hu : u ≤ k) (hq : Q (some (.int (Int32.ofInt v))) d) :
    W p l e R s m args below meth c H locs u (8 * u) (vx_MQ below (QM g ad A Q) (XM g ad A X) args s k (8 * k) A) (F0 m hp la [.ref q]) := by
  refine lv_astore cx.1 cx.2.1 hd hl hj rfl (fun la' hl' => ?_)
  refine lv_iconst cx.1 cx.2.1 hd2 rfl ?_
  refine W.widen (k := k) (n := 8 * k) hu (by omega) (vx_ret ?_)
  exact W.zret cx.1 cx.2.1 (cx.2.2.2.2.2.1.trans ht) rfl (fun t ht hW => ⟨⟨some (.int (Int32.ofInt v)), d, rfl, hq, by rw [ht]; exact hP⟩, hS.F ht⟩) hS.2.2 hd3 cx.2.2.2.2.2.2.1
/-- what the words say of the two exceptions -/
theorem yself (cx : Cy p l e R s m args meth c own cc nL n k ret g ad A) {r : Nat} : (Cond.castable (exn r) (exn r)).before args s = true := by
  have hG := cx.2.2.2.2.2.2.2.2.1
  have hw : ∀ w ∈ ngw, va_Nw w s := hG.2.2.2.2.2.2.2.1
  have key : ∀ r, Cond.castable (exn r) (exn r) ∈ ngw := fun r => by
    unfold exn
    split
    · exact List.mem_filter.mpr ⟨List.mem_of_getElem? (i := 994) (by decide +kernel), rfl⟩
    · exact List.mem_filter.mpr ⟨List.mem_of_getElem? (i := 672) (by decide +kernel), rfl⟩
  have := hw _ (key r)
  exact va_tabs (by rfl) rfl this
theorem yno (cx : Cy p l e R s m args meth c own cc nL n k ret g ad A) : va_Nc (exn 1) (exn 0) s := cx.2.2.2.2.2.2.2.2.1.2.2.2.2.2.2.2.2.1
end RulesY
def wsH (me : ME) (hh : List (Nat × Nat × Nat × Nat)) : List Cond := Cond.codeWith me.1 me.2.1 me.2.2.1 me.2.2.2 hh :: gw
/-- THE CONTRACT of a method with handlers -/
def CH (l : Launch) (me : ME) (hh : List (Nat × Nat × Nat × Nat)) (n k : Nat) (as : List Value) (d : DS) (Q : Option Value → DS → Prop) : Prop :=
  ∀ (g : GG) (ad : Nat → Nat) (sz : Nat), vx_Met l me.1 (wsH me hh) (rmM n k) (PM g ad as d sz) (QM g ad (va_A (wld g ad d) sz) Q) (XM g ad (va_A (wld g ad d) sz) NX) k (8 * k) (va_A (wld g ad d) sz)
theorem CH.walk {l : Launch} {me : ME} {hh : List (Nat × Nat × Nat × Nat)} {n k : Nat} {as : List Value} {d : DS} {Q : Option Value → DS → Prop} (hl : l.stackTraces = false) (hy : plainName me.1.cls = true) (hlen : (eloc as).length ≤ me.2.2.1)
    (body : ∀ (p : Program) (e : Env) (R : Room) (s : State) (m : MethodId) (args : Array Value) (below : List Frame) (meth : Method) (c : Code) (g : GG) (ad : Nat → Nat) (A : Nat → Prop), Cy p l e R s m args meth c me.1.cls me.2.1 me.2.2.1 n k me.2.2.2 g ad A → c.exceptionTable.toList = tableOf hh →
      WF p l e R s m args below meth c me.2.2.1 g ad A (vx_MQ below (QM g ad A Q) (XM g ad A NX) args s k (8 * k) A) 0 (eloc as ++ List.replicate (me.2.2.1 - (eloc as).length) none) [] d 0) : CH l me hh n k as d Q := by
  intro g ad sz
  refine vx_ofWH (cc := me.2.1) (maxL := me.2.2.1) (ret := me.2.2.2) (hh := hh) hy rfl ?_
  intro p e s m args below meth c s₁ B hml hv
  obtain ⟨rfl, hsz, hP, hG, hD0⟩ := hv
  subst hsz
  have hts := atoms_spec (ws := wsH me hh) B.pre
  have htab : c.exceptionTable.toList = tableOf hh := vx_table (x := me.1) B (hts _ List.mem_cons_self)
  have hD : ∀ d', va_D (va_A (wld g ad d) s.heap.size) (wld g ad d') := fun d' => wld_D (hD0.self (sz := s.heap.size))
  have cx : Cy p l e (rmM n k) s m (as.map (cv ad)).toArray meth c me.1.cls me.2.1 me.2.2.1 n k me.2.2.2 g ad (va_A (wld g ad d) s.heap.size) :=
    ⟨B.exec, B.bytes, hml, findClass_of_methodNamed B.named, fun w hw => hts w (List.mem_cons_of_mem _ hw), B.returns, B.notSynchronized, ⟨Nat.le_refl _, Nat.le_refl _, Nat.le_refl _, Nat.le_refl _⟩, hG, hD, fun q h => Or.inr h, hl⟩
  have hl0 := lv_entry (as.map (cv ad)) (n := me.2.2.1) (by rw [sl_len]; exact hlen)
  rw [lg_entry_eq]
  exact body p e (rmM n k) s m _ below meth c g ad _ cx htab s.heap [] _ hP va_S.rf (lvh_mono hl0 (fun q hq => eloc_args hq))
/-- what a helper leaves: the answer laid into out and 0, or the exception's number -/
def hpQ (kE : String → Int32) (Q : Option Value → DS → Prop) (X : String → DS → Prop) : Option Value → DS → Prop := fun v d1 => (∃ x dC, Q (some (.int x)) dC ∧ v = some (.int 0) ∧ d1 = dset dC 87 0 x) ∨ ∃ E, X E d1 ∧ v = some (.int (kE E))
def kE1 (_ : String) : Int32 := 1
def kE2 (E : String) : Int32 := if E = exn 0 then 1 else 2
theorem kl_13 : (Cond.classLink RL 13 (exn 1)) ∈ gw := gw_at 665 (by decide +kernel) (by decide +kernel)
theorem kl_18 : (Cond.classLink RL 18 (exn 0)) ∈ gw := gw_at 959 (by decide +kernel) (by decide +kernel)
theorem v01 : vp_in 0 1 := vp_in_nI (n := 0) (by decide) (by decide)
theorem ty666 : (Cond.methodLink "NamedCoinsLaw" (7 : Nat) ({ cls := "NamedCoins", name := "mint", desc := "(I)I" } : Jvm.MethodName)) ∈ gw := gw_at 666 (by decide +kernel) (by decide +kernel)
theorem ty667 : (Cond.instanceMethod ({ cls := "NamedCoins", name := "mint", desc := "(I)I" } : Jvm.MethodName)) ∈ gw := gw_at 667 (by decide +kernel) (by decide +kernel)
theorem ty668 : (Cond.selects "NamedCoins" ({ cls := "NamedCoins", name := "mint", desc := "(I)I" } : Jvm.MethodName) ({ cls := "NamedCoins", name := "mint", desc := "(I)I" } : Jvm.MethodName)) ∈ gw := gw_at 668 (by decide +kernel) (by decide +kernel)
theorem ty105 : (Cond.initialized "NamedCoins") ∈ gw := gw_at 105 (by decide +kernel) (by decide +kernel)
theorem ty669 : (Cond.code ({ cls := "NamedCoins", name := "mint", desc := "(I)I" } : Jvm.MethodName) prog_1_method_4_code (3 : Nat) (Option.some Jvm.ClassFile.FieldType.int)) ∈ gw := gw_at 669 (by decide +kernel) (by decide +kernel)
theorem ty664 : (Cond.codeWith ({ cls := "NamedCoinsLaw", name := "mint", desc := "(LNamedCoins;I[J)I" } : Jvm.MethodName) method_3_code (4 : Nat) (Option.some Jvm.ClassFile.FieldType.int) [((0 : Nat), (9 : Nat), (12 : Nat), (13 : Nat))]) ∈ gw := gw_at 664 (by decide +kernel) (by decide +kernel)
theorem ty960 : (Cond.methodLink "NamedCoinsLaw" (15 : Nat) ({ cls := "NamedCoins", name := "count", desc := "(I)I" } : Jvm.MethodName)) ∈ gw := gw_at 960 (by decide +kernel) (by decide +kernel)
theorem ty961 : (Cond.instanceMethod ({ cls := "NamedCoins", name := "count", desc := "(I)I" } : Jvm.MethodName)) ∈ gw := gw_at 961 (by decide +kernel) (by decide +kernel)
theorem ty962 : (Cond.selects "NamedCoins" ({ cls := "NamedCoins", name := "count", desc := "(I)I" } : Jvm.MethodName) ({ cls := "NamedCoins", name := "count", desc := "(I)I" } : Jvm.MethodName)) ∈ gw := gw_at 962 (by decide +kernel) (by decide +kernel)
theorem ty963 : (Cond.code ({ cls := "NamedCoins", name := "count", desc := "(I)I" } : Jvm.MethodName) prog_1_method_6_code (2 : Nat) (Option.some Jvm.ClassFile.FieldType.int)) ∈ gw := gw_at 963 (by decide +kernel) (by decide +kernel)
theorem ty958 : (Cond.codeWith ({ cls := "NamedCoinsLaw", name := "count", desc := "(LNamedCoins;I[J)I" } : Jvm.MethodName) method_4_code (4 : Nat) (Option.some Jvm.ClassFile.FieldType.int) [((0 : Nat), (9 : Nat), (12 : Nat), (18 : Nat))]) ∈ gw := gw_at 958 (by decide +kernel) (by decide +kernel)
theorem ty1011 : (Cond.methodLink "NamedCoinsLaw" (20 : Nat) ({ cls := "NamedCoins", name := "person", desc := "(II)I" } : Jvm.MethodName)) ∈ gw := gw_at 1011 (by decide +kernel) (by decide +kernel)
theorem ty1012 : (Cond.instanceMethod ({ cls := "NamedCoins", name := "person", desc := "(II)I" } : Jvm.MethodName)) ∈ gw := gw_at 1012 (by decide +kernel) (by decide +kernel)
theorem ty1013 : (Cond.selects "NamedCoins" ({ cls := "NamedCoins", name := "person", desc := "(II)I" } : Jvm.MethodName) ({ cls := "NamedCoins", name := "person", desc := "(II)I" } : Jvm.MethodName)) ∈ gw := gw_at 1013 (by decide +kernel) (by decide +kernel)
theorem ty1014 : (Cond.code ({ cls := "NamedCoins", name := "person", desc := "(II)I" } : Jvm.MethodName) prog_1_method_7_code (3 : Nat) (Option.some Jvm.ClassFile.FieldType.int)) ∈ gw := gw_at 1014 (by decide +kernel) (by decide +kernel)
theorem ty1010 : (Cond.codeWith ({ cls := "NamedCoinsLaw", name := "person", desc := "(LNamedCoins;II[J)I" } : Jvm.MethodName) method_5_code (5 : Nat) (Option.some Jvm.ClassFile.FieldType.int) [((0 : Nat), (10 : Nat), (13 : Nat), (18 : Nat))]) ∈ gw := gw_at 1010 (by decide +kernel) (by decide +kernel)
theorem ty1035 : (Cond.methodLink "NamedCoinsLaw" (24 : Nat) ({ cls := "NamedCoins", name := "coin", desc := "(II)I" } : Jvm.MethodName)) ∈ gw := gw_at 1035 (by decide +kernel) (by decide +kernel)
theorem ty1036 : (Cond.instanceMethod ({ cls := "NamedCoins", name := "coin", desc := "(II)I" } : Jvm.MethodName)) ∈ gw := gw_at 1036 (by decide +kernel) (by decide +kernel)
theorem ty1037 : (Cond.selects "NamedCoins" ({ cls := "NamedCoins", name := "coin", desc := "(II)I" } : Jvm.MethodName) ({ cls := "NamedCoins", name := "coin", desc := "(II)I" } : Jvm.MethodName)) ∈ gw := gw_at 1037 (by decide +kernel) (by decide +kernel)
theorem ty1038 : (Cond.code ({ cls := "NamedCoins", name := "coin", desc := "(II)I" } : Jvm.MethodName) prog_1_method_8_code (3 : Nat) (Option.some Jvm.ClassFile.FieldType.int)) ∈ gw := gw_at 1038 (by decide +kernel) (by decide +kernel)
theorem ty1034 : (Cond.codeWith ({ cls := "NamedCoinsLaw", name := "coin", desc := "(LNamedCoins;II[J)I" } : Jvm.MethodName) method_6_code (5 : Nat) (Option.some Jvm.ClassFile.FieldType.int) [((0 : Nat), (10 : Nat), (13 : Nat), (18 : Nat))]) ∈ gw := gw_at 1034 (by decide +kernel) (by decide +kernel)
theorem ty1054 : (Cond.methodLink "NamedCoinsLaw" (27 : Nat) ({ cls := "NamedCoins", name := "give", desc := "(II)I" } : Jvm.MethodName)) ∈ gw := gw_at 1054 (by decide +kernel) (by decide +kernel)
theorem ty1055 : (Cond.instanceMethod ({ cls := "NamedCoins", name := "give", desc := "(II)I" } : Jvm.MethodName)) ∈ gw := gw_at 1055 (by decide +kernel) (by decide +kernel)
theorem ty1056 : (Cond.selects "NamedCoins" ({ cls := "NamedCoins", name := "give", desc := "(II)I" } : Jvm.MethodName) ({ cls := "NamedCoins", name := "give", desc := "(II)I" } : Jvm.MethodName)) ∈ gw := gw_at 1056 (by decide +kernel) (by decide +kernel)
theorem ty1057 : (Cond.code ({ cls := "NamedCoins", name := "give", desc := "(II)I" } : Jvm.MethodName) prog_1_method_10_code (4 : Nat) (Option.some Jvm.ClassFile.FieldType.int)) ∈ gw := gw_at 1057 (by decide +kernel) (by decide +kernel)
theorem ty1053 : (Cond.codeWith ({ cls := "NamedCoinsLaw", name := "give", desc := "(LNamedCoins;II[J)I" } : Jvm.MethodName) method_7_code (5 : Nat) (Option.some Jvm.ClassFile.FieldType.int) [((0 : Nat), (10 : Nat), (13 : Nat), (18 : Nat))]) ∈ gw := gw_at 1053 (by decide +kernel) (by decide +kernel)
theorem ty1067 : (Cond.methodLink "NamedCoinsLaw" (30 : Nat) ({ cls := "NamedCoins", name := "search", desc := "(I)I" } : Jvm.MethodName)) ∈ gw := gw_at 1067 (by decide +kernel) (by decide +kernel)
theorem ty1068 : (Cond.instanceMethod ({ cls := "NamedCoins", name := "search", desc := "(I)I" } : Jvm.MethodName)) ∈ gw := gw_at 1068 (by decide +kernel) (by decide +kernel)
theorem ty1069 : (Cond.selects "NamedCoins" ({ cls := "NamedCoins", name := "search", desc := "(I)I" } : Jvm.MethodName) ({ cls := "NamedCoins", name := "search", desc := "(I)I" } : Jvm.MethodName)) ∈ gw := gw_at 1069 (by decide +kernel) (by decide +kernel)
theorem ty1070 : (Cond.code ({ cls := "NamedCoins", name := "search", desc := "(I)I" } : Jvm.MethodName) prog_1_method_11_code (3 : Nat) (Option.some Jvm.ClassFile.FieldType.int)) ∈ gw := gw_at 1070 (by decide +kernel) (by decide +kernel)
theorem ty1066 : (Cond.codeWith ({ cls := "NamedCoinsLaw", name := "search", desc := "(LNamedCoins;I[J)I" } : Jvm.MethodName) method_8_code (4 : Nat) (Option.some Jvm.ClassFile.FieldType.int) [((0 : Nat), (9 : Nat), (12 : Nat), (18 : Nat))]) ∈ gw := gw_at 1066 (by decide +kernel) (by decide +kernel)
theorem ty1074 : (Cond.methodLink "NamedCoinsLaw" (33 : Nat) ({ cls := "NamedCoins", name := "pays", desc := "(II)I" } : Jvm.MethodName)) ∈ gw := gw_at 1074 (by decide +kernel) (by decide +kernel)
theorem ty1075 : (Cond.instanceMethod ({ cls := "NamedCoins", name := "pays", desc := "(II)I" } : Jvm.MethodName)) ∈ gw := gw_at 1075 (by decide +kernel) (by decide +kernel)
theorem ty1076 : (Cond.selects "NamedCoins" ({ cls := "NamedCoins", name := "pays", desc := "(II)I" } : Jvm.MethodName) ({ cls := "NamedCoins", name := "pays", desc := "(II)I" } : Jvm.MethodName)) ∈ gw := gw_at 1076 (by decide +kernel) (by decide +kernel)
theorem ty1077 : (Cond.code ({ cls := "NamedCoins", name := "pays", desc := "(II)I" } : Jvm.MethodName) prog_1_method_12_code (4 : Nat) (Option.some Jvm.ClassFile.FieldType.int)) ∈ gw := gw_at 1077 (by decide +kernel) (by decide +kernel)
theorem ty1073 : (Cond.codeWith ({ cls := "NamedCoinsLaw", name := "pays", desc := "(LNamedCoins;II[J)I" } : Jvm.MethodName) method_9_code (5 : Nat) (Option.some Jvm.ClassFile.FieldType.int) [((0 : Nat), (10 : Nat), (13 : Nat), (18 : Nat))]) ∈ gw := gw_at 1073 (by decide +kernel) (by decide +kernel)
theorem ty1081 : (Cond.methodLink "NamedCoinsLaw" (36 : Nat) ({ cls := "NamedCoins", name := "anew", desc := "(II)I" } : Jvm.MethodName)) ∈ gw := gw_at 1081 (by decide +kernel) (by decide +kernel)
theorem ty1082 : (Cond.instanceMethod ({ cls := "NamedCoins", name := "anew", desc := "(II)I" } : Jvm.MethodName)) ∈ gw := gw_at 1082 (by decide +kernel) (by decide +kernel)
theorem ty1083 : (Cond.selects "NamedCoins" ({ cls := "NamedCoins", name := "anew", desc := "(II)I" } : Jvm.MethodName) ({ cls := "NamedCoins", name := "anew", desc := "(II)I" } : Jvm.MethodName)) ∈ gw := gw_at 1083 (by decide +kernel) (by decide +kernel)
theorem ty1084 : (Cond.code ({ cls := "NamedCoins", name := "anew", desc := "(II)I" } : Jvm.MethodName) prog_1_method_13_code (4 : Nat) (Option.some Jvm.ClassFile.FieldType.int)) ∈ gw := gw_at 1084 (by decide +kernel) (by decide +kernel)
theorem ty1080 : (Cond.codeWith ({ cls := "NamedCoinsLaw", name := "anew", desc := "(LNamedCoins;II[J)I" } : Jvm.MethodName) method_10_code (5 : Nat) (Option.some Jvm.ClassFile.FieldType.int) [((0 : Nat), (10 : Nat), (13 : Nat), (18 : Nat))]) ∈ gw := gw_at 1080 (by decide +kernel) (by decide +kernel)
theorem ty1092 : (Cond.methodLink "NamedCoinsLaw" (39 : Nat) ({ cls := "NamedCoins", name := "then", desc := "(III)I" } : Jvm.MethodName)) ∈ gw := gw_at 1092 (by decide +kernel) (by decide +kernel)
theorem ty1093 : (Cond.instanceMethod ({ cls := "NamedCoins", name := "then", desc := "(III)I" } : Jvm.MethodName)) ∈ gw := gw_at 1093 (by decide +kernel) (by decide +kernel)
theorem ty1094 : (Cond.selects "NamedCoins" ({ cls := "NamedCoins", name := "then", desc := "(III)I" } : Jvm.MethodName) ({ cls := "NamedCoins", name := "then", desc := "(III)I" } : Jvm.MethodName)) ∈ gw := gw_at 1094 (by decide +kernel) (by decide +kernel)
theorem ty1095 : (Cond.code ({ cls := "NamedCoins", name := "then", desc := "(III)I" } : Jvm.MethodName) prog_1_method_15_code (4 : Nat) (Option.some Jvm.ClassFile.FieldType.int)) ∈ gw := gw_at 1095 (by decide +kernel) (by decide +kernel)
theorem ty1091 : (Cond.codeWith ({ cls := "NamedCoinsLaw", name := "then", desc := "(LNamedCoins;III[J)I" } : Jvm.MethodName) method_11_code (6 : Nat) (Option.some Jvm.ClassFile.FieldType.int) [((0 : Nat), (12 : Nat), (15 : Nat), (18 : Nat)), ((0 : Nat), (12 : Nat), (19 : Nat), (13 : Nat))]) ∈ gw := gw_at 1091 (by decide +kernel) (by decide +kernel)
theorem ty1112 : (Cond.methodLink "NamedCoinsLaw" (43 : Nat) ({ cls := "NamedCoins", name := "has", desc := "(II)I" } : Jvm.MethodName)) ∈ gw := gw_at 1112 (by decide +kernel) (by decide +kernel)
theorem ty1113 : (Cond.instanceMethod ({ cls := "NamedCoins", name := "has", desc := "(II)I" } : Jvm.MethodName)) ∈ gw := gw_at 1113 (by decide +kernel) (by decide +kernel)
theorem ty1114 : (Cond.selects "NamedCoins" ({ cls := "NamedCoins", name := "has", desc := "(II)I" } : Jvm.MethodName) ({ cls := "NamedCoins", name := "has", desc := "(II)I" } : Jvm.MethodName)) ∈ gw := gw_at 1114 (by decide +kernel) (by decide +kernel)
theorem ty1115 : (Cond.code ({ cls := "NamedCoins", name := "has", desc := "(II)I" } : Jvm.MethodName) prog_1_method_16_code (3 : Nat) (Option.some Jvm.ClassFile.FieldType.int)) ∈ gw := gw_at 1115 (by decide +kernel) (by decide +kernel)
theorem ty1111 : (Cond.codeWith ({ cls := "NamedCoinsLaw", name := "has", desc := "(LNamedCoins;II[J)I" } : Jvm.MethodName) method_12_code (5 : Nat) (Option.some Jvm.ClassFile.FieldType.int) [((0 : Nat), (10 : Nat), (13 : Nat), (18 : Nat)), ((0 : Nat), (10 : Nat), (17 : Nat), (13 : Nat))]) ∈ gw := gw_at 1111 (by decide +kernel) (by decide +kernel)
theorem ty1119 : (Cond.methodLink "NamedCoinsLaw" (46 : Nat) ({ cls := "NamedCoins", name := "later", desc := "(II)I" } : Jvm.MethodName)) ∈ gw := gw_at 1119 (by decide +kernel) (by decide +kernel)
theorem ty1120 : (Cond.instanceMethod ({ cls := "NamedCoins", name := "later", desc := "(II)I" } : Jvm.MethodName)) ∈ gw := gw_at 1120 (by decide +kernel) (by decide +kernel)
theorem ty1121 : (Cond.selects "NamedCoins" ({ cls := "NamedCoins", name := "later", desc := "(II)I" } : Jvm.MethodName) ({ cls := "NamedCoins", name := "later", desc := "(II)I" } : Jvm.MethodName)) ∈ gw := gw_at 1121 (by decide +kernel) (by decide +kernel)
theorem ty1122 : (Cond.code ({ cls := "NamedCoins", name := "later", desc := "(II)I" } : Jvm.MethodName) prog_1_method_17_code (3 : Nat) (Option.some Jvm.ClassFile.FieldType.int)) ∈ gw := gw_at 1122 (by decide +kernel) (by decide +kernel)
theorem ty1118 : (Cond.codeWith ({ cls := "NamedCoinsLaw", name := "later", desc := "(LNamedCoins;II[J)I" } : Jvm.MethodName) method_13_code (5 : Nat) (Option.some Jvm.ClassFile.FieldType.int) [((0 : Nat), (10 : Nat), (13 : Nat), (18 : Nat)), ((0 : Nat), (10 : Nat), (17 : Nat), (13 : Nat))]) ∈ gw := gw_at 1118 (by decide +kernel) (by decide +kernel)
theorem ty1130 : (Cond.methodLink "NamedCoinsLaw" (49 : Nat) ({ cls := "NamedCoins", name := "gets", desc := "(II)I" } : Jvm.MethodName)) ∈ gw := gw_at 1130 (by decide +kernel) (by decide +kernel)
theorem ty1131 : (Cond.instanceMethod ({ cls := "NamedCoins", name := "gets", desc := "(II)I" } : Jvm.MethodName)) ∈ gw := gw_at 1131 (by decide +kernel) (by decide +kernel)
theorem ty1132 : (Cond.selects "NamedCoins" ({ cls := "NamedCoins", name := "gets", desc := "(II)I" } : Jvm.MethodName) ({ cls := "NamedCoins", name := "gets", desc := "(II)I" } : Jvm.MethodName)) ∈ gw := gw_at 1132 (by decide +kernel) (by decide +kernel)
theorem ty1133 : (Cond.code ({ cls := "NamedCoins", name := "gets", desc := "(II)I" } : Jvm.MethodName) prog_1_method_19_code (3 : Nat) (Option.some Jvm.ClassFile.FieldType.int)) ∈ gw := gw_at 1133 (by decide +kernel) (by decide +kernel)
theorem ty1129 : (Cond.codeWith ({ cls := "NamedCoinsLaw", name := "gets", desc := "(LNamedCoins;II[J)I" } : Jvm.MethodName) method_14_code (5 : Nat) (Option.some Jvm.ClassFile.FieldType.int) [((0 : Nat), (10 : Nat), (13 : Nat), (18 : Nat))]) ∈ gw := gw_at 1129 (by decide +kernel) (by decide +kernel)
theorem ty1142 : (Cond.methodLink "NamedCoinsLaw" (52 : Nat) ({ cls := "NamedCoins", name := "hands", desc := "(II)I" } : Jvm.MethodName)) ∈ gw := gw_at 1142 (by decide +kernel) (by decide +kernel)
theorem ty1143 : (Cond.instanceMethod ({ cls := "NamedCoins", name := "hands", desc := "(II)I" } : Jvm.MethodName)) ∈ gw := gw_at 1143 (by decide +kernel) (by decide +kernel)
theorem ty1144 : (Cond.selects "NamedCoins" ({ cls := "NamedCoins", name := "hands", desc := "(II)I" } : Jvm.MethodName) ({ cls := "NamedCoins", name := "hands", desc := "(II)I" } : Jvm.MethodName)) ∈ gw := gw_at 1144 (by decide +kernel) (by decide +kernel)
theorem ty1145 : (Cond.code ({ cls := "NamedCoins", name := "hands", desc := "(II)I" } : Jvm.MethodName) prog_1_method_20_code (3 : Nat) (Option.some Jvm.ClassFile.FieldType.int)) ∈ gw := gw_at 1145 (by decide +kernel) (by decide +kernel)
theorem ty1141 : (Cond.codeWith ({ cls := "NamedCoinsLaw", name := "hands", desc := "(LNamedCoins;II[J)I" } : Jvm.MethodName) method_15_code (5 : Nat) (Option.some Jvm.ClassFile.FieldType.int) [((0 : Nat), (10 : Nat), (13 : Nat), (18 : Nat)), ((0 : Nat), (10 : Nat), (17 : Nat), (13 : Nat))]) ∈ gw := gw_at 1141 (by decide +kernel) (by decide +kernel)
theorem ty1154 : (Cond.methodLink "NamedCoinsLaw" (55 : Nat) ({ cls := "NamedCoins", name := "crumbles", desc := "(I)I" } : Jvm.MethodName)) ∈ gw := gw_at 1154 (by decide +kernel) (by decide +kernel)
theorem ty1155 : (Cond.instanceMethod ({ cls := "NamedCoins", name := "crumbles", desc := "(I)I" } : Jvm.MethodName)) ∈ gw := gw_at 1155 (by decide +kernel) (by decide +kernel)
theorem ty1156 : (Cond.selects "NamedCoins" ({ cls := "NamedCoins", name := "crumbles", desc := "(I)I" } : Jvm.MethodName) ({ cls := "NamedCoins", name := "crumbles", desc := "(I)I" } : Jvm.MethodName)) ∈ gw := gw_at 1156 (by decide +kernel) (by decide +kernel)
theorem ty1157 : (Cond.code ({ cls := "NamedCoins", name := "crumbles", desc := "(I)I" } : Jvm.MethodName) prog_1_method_21_code (2 : Nat) (Option.some Jvm.ClassFile.FieldType.int)) ∈ gw := gw_at 1157 (by decide +kernel) (by decide +kernel)
theorem ty1153 : (Cond.codeWith ({ cls := "NamedCoinsLaw", name := "crumbles", desc := "(LNamedCoins;I[J)I" } : Jvm.MethodName) method_16_code (4 : Nat) (Option.some Jvm.ClassFile.FieldType.int) [((0 : Nat), (9 : Nat), (12 : Nat), (18 : Nat))]) ∈ gw := gw_at 1153 (by decide +kernel) (by decide +kernel)
theorem ty1161 : (Cond.methodLink "NamedCoinsLaw" (58 : Nat) ({ cls := "NamedCoins", name := "comesTo", desc := "(I)I" } : Jvm.MethodName)) ∈ gw := gw_at 1161 (by decide +kernel) (by decide +kernel)
theorem ty1162 : (Cond.instanceMethod ({ cls := "NamedCoins", name := "comesTo", desc := "(I)I" } : Jvm.MethodName)) ∈ gw := gw_at 1162 (by decide +kernel) (by decide +kernel)
theorem ty1163 : (Cond.selects "NamedCoins" ({ cls := "NamedCoins", name := "comesTo", desc := "(I)I" } : Jvm.MethodName) ({ cls := "NamedCoins", name := "comesTo", desc := "(I)I" } : Jvm.MethodName)) ∈ gw := gw_at 1163 (by decide +kernel) (by decide +kernel)
theorem ty1164 : (Cond.code ({ cls := "NamedCoins", name := "comesTo", desc := "(I)I" } : Jvm.MethodName) prog_1_method_22_code (2 : Nat) (Option.some Jvm.ClassFile.FieldType.int)) ∈ gw := gw_at 1164 (by decide +kernel) (by decide +kernel)
theorem ty1160 : (Cond.codeWith ({ cls := "NamedCoinsLaw", name := "comesTo", desc := "(LNamedCoins;I[J)I" } : Jvm.MethodName) method_17_code (4 : Nat) (Option.some Jvm.ClassFile.FieldType.int) [((0 : Nat), (9 : Nat), (12 : Nat), (18 : Nat))]) ∈ gw := gw_at 1160 (by decide +kernel) (by decide +kernel)
theorem ty1169 : (Cond.methodLink "NamedCoinsLaw" (61 : Nat) ({ cls := "NamedCoins", name := "steps", desc := "(II)I" } : Jvm.MethodName)) ∈ gw := gw_at 1169 (by decide +kernel) (by decide +kernel)
theorem ty1170 : (Cond.instanceMethod ({ cls := "NamedCoins", name := "steps", desc := "(II)I" } : Jvm.MethodName)) ∈ gw := gw_at 1170 (by decide +kernel) (by decide +kernel)
theorem ty1171 : (Cond.selects "NamedCoins" ({ cls := "NamedCoins", name := "steps", desc := "(II)I" } : Jvm.MethodName) ({ cls := "NamedCoins", name := "steps", desc := "(II)I" } : Jvm.MethodName)) ∈ gw := gw_at 1171 (by decide +kernel) (by decide +kernel)
theorem ty1172 : (Cond.code ({ cls := "NamedCoins", name := "steps", desc := "(II)I" } : Jvm.MethodName) prog_1_method_23_code (3 : Nat) (Option.some Jvm.ClassFile.FieldType.int)) ∈ gw := gw_at 1172 (by decide +kernel) (by decide +kernel)
theorem ty1168 : (Cond.codeWith ({ cls := "NamedCoinsLaw", name := "steps", desc := "(LNamedCoins;II[J)I" } : Jvm.MethodName) method_18_code (5 : Nat) (Option.some Jvm.ClassFile.FieldType.int) [((0 : Nat), (10 : Nat), (13 : Nat), (18 : Nat))]) ∈ gw := gw_at 1168 (by decide +kernel) (by decide +kernel)
theorem ty1179 : (Cond.methodLink "NamedCoinsLaw" (64 : Nat) ({ cls := "NamedCoins", name := "toPay", desc := "(III)I" } : Jvm.MethodName)) ∈ gw := gw_at 1179 (by decide +kernel) (by decide +kernel)
theorem ty1180 : (Cond.instanceMethod ({ cls := "NamedCoins", name := "toPay", desc := "(III)I" } : Jvm.MethodName)) ∈ gw := gw_at 1180 (by decide +kernel) (by decide +kernel)
theorem ty1181 : (Cond.selects "NamedCoins" ({ cls := "NamedCoins", name := "toPay", desc := "(III)I" } : Jvm.MethodName) ({ cls := "NamedCoins", name := "toPay", desc := "(III)I" } : Jvm.MethodName)) ∈ gw := gw_at 1181 (by decide +kernel) (by decide +kernel)
theorem ty1182 : (Cond.code ({ cls := "NamedCoins", name := "toPay", desc := "(III)I" } : Jvm.MethodName) prog_1_method_24_code (5 : Nat) (Option.some Jvm.ClassFile.FieldType.int)) ∈ gw := gw_at 1182 (by decide +kernel) (by decide +kernel)
theorem ty1178 : (Cond.codeWith ({ cls := "NamedCoinsLaw", name := "toPay", desc := "(LNamedCoins;III[J)I" } : Jvm.MethodName) method_19_code (6 : Nat) (Option.some Jvm.ClassFile.FieldType.int) [((0 : Nat), (12 : Nat), (15 : Nat), (18 : Nat)), ((0 : Nat), (12 : Nat), (19 : Nat), (13 : Nat))]) ∈ gw := gw_at 1178 (by decide +kernel) (by decide +kernel)
theorem ty1219 : (Cond.methodLink "NamedCoinsLaw" (67 : Nat) ({ cls := "NamedCoins", name := "change", desc := "(IIII)I" } : Jvm.MethodName)) ∈ gw := gw_at 1219 (by decide +kernel) (by decide +kernel)
theorem ty1220 : (Cond.instanceMethod ({ cls := "NamedCoins", name := "change", desc := "(IIII)I" } : Jvm.MethodName)) ∈ gw := gw_at 1220 (by decide +kernel) (by decide +kernel)
theorem ty1221 : (Cond.selects "NamedCoins" ({ cls := "NamedCoins", name := "change", desc := "(IIII)I" } : Jvm.MethodName) ({ cls := "NamedCoins", name := "change", desc := "(IIII)I" } : Jvm.MethodName)) ∈ gw := gw_at 1221 (by decide +kernel) (by decide +kernel)
theorem ty1222 : (Cond.code ({ cls := "NamedCoins", name := "change", desc := "(IIII)I" } : Jvm.MethodName) prog_1_method_25_code (6 : Nat) (Option.some Jvm.ClassFile.FieldType.int)) ∈ gw := gw_at 1222 (by decide +kernel) (by decide +kernel)
theorem ty1218 : (Cond.codeWith ({ cls := "NamedCoinsLaw", name := "change", desc := "(LNamedCoins;IIII[J)I" } : Jvm.MethodName) method_20_code (7 : Nat) (Option.some Jvm.ClassFile.FieldType.int) [((0 : Nat), (14 : Nat), (17 : Nat), (18 : Nat)), ((0 : Nat), (14 : Nat), (21 : Nat), (13 : Nat))]) ∈ gw := gw_at 1218 (by decide +kernel) (by decide +kernel)
theorem ty1231 : (Cond.methodLink "NamedCoinsLaw" (71 : Nat) ({ cls := "NamedCoins", name := "share", desc := "(III)I" } : Jvm.MethodName)) ∈ gw := gw_at 1231 (by decide +kernel) (by decide +kernel)
theorem ty1232 : (Cond.instanceMethod ({ cls := "NamedCoins", name := "share", desc := "(III)I" } : Jvm.MethodName)) ∈ gw := gw_at 1232 (by decide +kernel) (by decide +kernel)
theorem ty1233 : (Cond.selects "NamedCoins" ({ cls := "NamedCoins", name := "share", desc := "(III)I" } : Jvm.MethodName) ({ cls := "NamedCoins", name := "share", desc := "(III)I" } : Jvm.MethodName)) ∈ gw := gw_at 1233 (by decide +kernel) (by decide +kernel)
theorem ty1234 : (Cond.code ({ cls := "NamedCoins", name := "share", desc := "(III)I" } : Jvm.MethodName) prog_1_method_26_code (6 : Nat) (Option.some Jvm.ClassFile.FieldType.int)) ∈ gw := gw_at 1234 (by decide +kernel) (by decide +kernel)
theorem ty1230 : (Cond.codeWith ({ cls := "NamedCoinsLaw", name := "share", desc := "(LNamedCoins;III[J)I" } : Jvm.MethodName) method_21_code (6 : Nat) (Option.some Jvm.ClassFile.FieldType.int) [((0 : Nat), (12 : Nat), (15 : Nat), (18 : Nat)), ((0 : Nat), (12 : Nat), (19 : Nat), (13 : Nat))]) ∈ gw := gw_at 1230 (by decide +kernel) (by decide +kernel)
theorem ty1250 : (Cond.methodLink "NamedCoinsLaw" (74 : Nat) ({ cls := "NamedCoins", name := "lacks", desc := "(I)I" } : Jvm.MethodName)) ∈ gw := gw_at 1250 (by decide +kernel) (by decide +kernel)
theorem ty1251 : (Cond.instanceMethod ({ cls := "NamedCoins", name := "lacks", desc := "(I)I" } : Jvm.MethodName)) ∈ gw := gw_at 1251 (by decide +kernel) (by decide +kernel)
theorem ty1252 : (Cond.selects "NamedCoins" ({ cls := "NamedCoins", name := "lacks", desc := "(I)I" } : Jvm.MethodName) ({ cls := "NamedCoins", name := "lacks", desc := "(I)I" } : Jvm.MethodName)) ∈ gw := gw_at 1252 (by decide +kernel) (by decide +kernel)
theorem ty1253 : (Cond.code ({ cls := "NamedCoins", name := "lacks", desc := "(I)I" } : Jvm.MethodName) prog_1_method_27_code (2 : Nat) (Option.some Jvm.ClassFile.FieldType.int)) ∈ gw := gw_at 1253 (by decide +kernel) (by decide +kernel)
theorem ty1249 : (Cond.codeWith ({ cls := "NamedCoinsLaw", name := "lacks", desc := "(LNamedCoins;I[J)I" } : Jvm.MethodName) method_22_code (4 : Nat) (Option.some Jvm.ClassFile.FieldType.int) [((0 : Nat), (9 : Nat), (12 : Nat), (18 : Nat))]) ∈ gw := gw_at 1249 (by decide +kernel) (by decide +kernel)
theorem ty1260 : (Cond.methodLink "NamedCoinsLaw" (77 : Nat) ({ cls := "NamedCoins", name := "toName", desc := "(III)I" } : Jvm.MethodName)) ∈ gw := gw_at 1260 (by decide +kernel) (by decide +kernel)
theorem ty1261 : (Cond.instanceMethod ({ cls := "NamedCoins", name := "toName", desc := "(III)I" } : Jvm.MethodName)) ∈ gw := gw_at 1261 (by decide +kernel) (by decide +kernel)
theorem ty1262 : (Cond.selects "NamedCoins" ({ cls := "NamedCoins", name := "toName", desc := "(III)I" } : Jvm.MethodName) ({ cls := "NamedCoins", name := "toName", desc := "(III)I" } : Jvm.MethodName)) ∈ gw := gw_at 1262 (by decide +kernel) (by decide +kernel)
theorem ty1263 : (Cond.code ({ cls := "NamedCoins", name := "toName", desc := "(III)I" } : Jvm.MethodName) prog_1_method_28_code (4 : Nat) (Option.some Jvm.ClassFile.FieldType.int)) ∈ gw := gw_at 1263 (by decide +kernel) (by decide +kernel)
theorem ty1259 : (Cond.codeWith ({ cls := "NamedCoinsLaw", name := "toName", desc := "(LNamedCoins;III[J)I" } : Jvm.MethodName) method_23_code (6 : Nat) (Option.some Jvm.ClassFile.FieldType.int) [((0 : Nat), (12 : Nat), (15 : Nat), (18 : Nat)), ((0 : Nat), (12 : Nat), (19 : Nat), (13 : Nat))]) ∈ gw := gw_at 1259 (by decide +kernel) (by decide +kernel)
theorem ty1271 : (Cond.methodLink "NamedCoinsLaw" (80 : Nat) ({ cls := "NamedCoins", name := "see", desc := "(II)I" } : Jvm.MethodName)) ∈ gw := gw_at 1271 (by decide +kernel) (by decide +kernel)
theorem ty1272 : (Cond.instanceMethod ({ cls := "NamedCoins", name := "see", desc := "(II)I" } : Jvm.MethodName)) ∈ gw := gw_at 1272 (by decide +kernel) (by decide +kernel)
theorem ty1273 : (Cond.selects "NamedCoins" ({ cls := "NamedCoins", name := "see", desc := "(II)I" } : Jvm.MethodName) ({ cls := "NamedCoins", name := "see", desc := "(II)I" } : Jvm.MethodName)) ∈ gw := gw_at 1273 (by decide +kernel) (by decide +kernel)
theorem ty1274 : (Cond.code ({ cls := "NamedCoins", name := "see", desc := "(II)I" } : Jvm.MethodName) prog_1_method_29_code (3 : Nat) (Option.some Jvm.ClassFile.FieldType.int)) ∈ gw := gw_at 1274 (by decide +kernel) (by decide +kernel)
theorem ty1270 : (Cond.codeWith ({ cls := "NamedCoinsLaw", name := "see", desc := "(LNamedCoins;II[J)I" } : Jvm.MethodName) method_24_code (5 : Nat) (Option.some Jvm.ClassFile.FieldType.int) [((0 : Nat), (10 : Nat), (13 : Nat), (18 : Nat))]) ∈ gw := gw_at 1270 (by decide +kernel) (by decide +kernel)
theorem ty1282 : (Cond.methodLink "NamedCoinsLaw" (83 : Nat) ({ cls := "NamedCoins", name := "needy", desc := "(I)I" } : Jvm.MethodName)) ∈ gw := gw_at 1282 (by decide +kernel) (by decide +kernel)
theorem ty1283 : (Cond.instanceMethod ({ cls := "NamedCoins", name := "needy", desc := "(I)I" } : Jvm.MethodName)) ∈ gw := gw_at 1283 (by decide +kernel) (by decide +kernel)
theorem ty1284 : (Cond.selects "NamedCoins" ({ cls := "NamedCoins", name := "needy", desc := "(I)I" } : Jvm.MethodName) ({ cls := "NamedCoins", name := "needy", desc := "(I)I" } : Jvm.MethodName)) ∈ gw := gw_at 1284 (by decide +kernel) (by decide +kernel)
theorem ty1285 : (Cond.code ({ cls := "NamedCoins", name := "needy", desc := "(I)I" } : Jvm.MethodName) prog_1_method_30_code (2 : Nat) (Option.some Jvm.ClassFile.FieldType.int)) ∈ gw := gw_at 1285 (by decide +kernel) (by decide +kernel)
theorem ty1281 : (Cond.codeWith ({ cls := "NamedCoinsLaw", name := "needy", desc := "(LNamedCoins;I[J)I" } : Jvm.MethodName) method_25_code (4 : Nat) (Option.some Jvm.ClassFile.FieldType.int) [((0 : Nat), (9 : Nat), (12 : Nat), (18 : Nat))]) ∈ gw := gw_at 1281 (by decide +kernel) (by decide +kernel)
theorem ty1322 : (Cond.methodLink "NamedCoinsLaw" (86 : Nat) ({ cls := "NamedCoins", name := "look", desc := "(I)I" } : Jvm.MethodName)) ∈ gw := gw_at 1322 (by decide +kernel) (by decide +kernel)
theorem ty1323 : (Cond.instanceMethod ({ cls := "NamedCoins", name := "look", desc := "(I)I" } : Jvm.MethodName)) ∈ gw := gw_at 1323 (by decide +kernel) (by decide +kernel)
theorem ty1324 : (Cond.selects "NamedCoins" ({ cls := "NamedCoins", name := "look", desc := "(I)I" } : Jvm.MethodName) ({ cls := "NamedCoins", name := "look", desc := "(I)I" } : Jvm.MethodName)) ∈ gw := gw_at 1324 (by decide +kernel) (by decide +kernel)
theorem ty1325 : (Cond.code ({ cls := "NamedCoins", name := "look", desc := "(I)I" } : Jvm.MethodName) prog_1_method_31_code (3 : Nat) (Option.some Jvm.ClassFile.FieldType.int)) ∈ gw := gw_at 1325 (by decide +kernel) (by decide +kernel)
theorem ty1321 : (Cond.codeWith ({ cls := "NamedCoinsLaw", name := "look", desc := "(LNamedCoins;I[J)I" } : Jvm.MethodName) method_26_code (4 : Nat) (Option.some Jvm.ClassFile.FieldType.int) [((0 : Nat), (9 : Nat), (12 : Nat), (18 : Nat))]) ∈ gw := gw_at 1321 (by decide +kernel) (by decide +kernel)
theorem ty1344 : (Cond.methodLink "NamedCoinsLaw" (89 : Nat) ({ cls := "NamedCoins", name := "thieves", desc := "(III)I" } : Jvm.MethodName)) ∈ gw := gw_at 1344 (by decide +kernel) (by decide +kernel)
theorem ty1345 : (Cond.instanceMethod ({ cls := "NamedCoins", name := "thieves", desc := "(III)I" } : Jvm.MethodName)) ∈ gw := gw_at 1345 (by decide +kernel) (by decide +kernel)
theorem ty1346 : (Cond.selects "NamedCoins" ({ cls := "NamedCoins", name := "thieves", desc := "(III)I" } : Jvm.MethodName) ({ cls := "NamedCoins", name := "thieves", desc := "(III)I" } : Jvm.MethodName)) ∈ gw := gw_at 1346 (by decide +kernel) (by decide +kernel)
theorem ty1347 : (Cond.code ({ cls := "NamedCoins", name := "thieves", desc := "(III)I" } : Jvm.MethodName) prog_1_method_33_code (4 : Nat) (Option.some Jvm.ClassFile.FieldType.int)) ∈ gw := gw_at 1347 (by decide +kernel) (by decide +kernel)
theorem ty1343 : (Cond.codeWith ({ cls := "NamedCoinsLaw", name := "thieves", desc := "(LNamedCoins;III[J)I" } : Jvm.MethodName) method_27_code (6 : Nat) (Option.some Jvm.ClassFile.FieldType.int) [((0 : Nat), (12 : Nat), (15 : Nat), (18 : Nat)), ((0 : Nat), (12 : Nat), (19 : Nat), (13 : Nat))]) ∈ gw := gw_at 1343 (by decide +kernel) (by decide +kernel)
theorem ty1371 : (Cond.methodLink "NamedCoinsLaw" (92 : Nat) ({ cls := "NamedCoins", name := "game", desc := "(III)I" } : Jvm.MethodName)) ∈ gw := gw_at 1371 (by decide +kernel) (by decide +kernel)
theorem ty1372 : (Cond.instanceMethod ({ cls := "NamedCoins", name := "game", desc := "(III)I" } : Jvm.MethodName)) ∈ gw := gw_at 1372 (by decide +kernel) (by decide +kernel)
theorem ty1373 : (Cond.selects "NamedCoins" ({ cls := "NamedCoins", name := "game", desc := "(III)I" } : Jvm.MethodName) ({ cls := "NamedCoins", name := "game", desc := "(III)I" } : Jvm.MethodName)) ∈ gw := gw_at 1373 (by decide +kernel) (by decide +kernel)
theorem ty1374 : (Cond.code ({ cls := "NamedCoins", name := "game", desc := "(III)I" } : Jvm.MethodName) prog_1_method_34_code (4 : Nat) (Option.some Jvm.ClassFile.FieldType.int)) ∈ gw := gw_at 1374 (by decide +kernel) (by decide +kernel)
theorem ty1370 : (Cond.codeWith ({ cls := "NamedCoinsLaw", name := "game", desc := "(LNamedCoins;III[J)I" } : Jvm.MethodName) method_28_code (6 : Nat) (Option.some Jvm.ClassFile.FieldType.int) [((0 : Nat), (12 : Nat), (15 : Nat), (18 : Nat)), ((0 : Nat), (12 : Nat), (19 : Nat), (13 : Nat))]) ∈ gw := gw_at 1370 (by decide +kernel) (by decide +kernel)
theorem ty1401 : (Cond.methodLink "NamedCoinsLaw" (95 : Nat) ({ cls := "NamedCoins", name := "ages", desc := "(III)I" } : Jvm.MethodName)) ∈ gw := gw_at 1401 (by decide +kernel) (by decide +kernel)
theorem ty1402 : (Cond.instanceMethod ({ cls := "NamedCoins", name := "ages", desc := "(III)I" } : Jvm.MethodName)) ∈ gw := gw_at 1402 (by decide +kernel) (by decide +kernel)
theorem ty1403 : (Cond.selects "NamedCoins" ({ cls := "NamedCoins", name := "ages", desc := "(III)I" } : Jvm.MethodName) ({ cls := "NamedCoins", name := "ages", desc := "(III)I" } : Jvm.MethodName)) ∈ gw := gw_at 1403 (by decide +kernel) (by decide +kernel)
theorem ty1404 : (Cond.code ({ cls := "NamedCoins", name := "ages", desc := "(III)I" } : Jvm.MethodName) prog_1_method_35_code (4 : Nat) (Option.some Jvm.ClassFile.FieldType.int)) ∈ gw := gw_at 1404 (by decide +kernel) (by decide +kernel)
theorem ty1400 : (Cond.codeWith ({ cls := "NamedCoinsLaw", name := "ages", desc := "(LNamedCoins;III[J)I" } : Jvm.MethodName) method_29_code (6 : Nat) (Option.some Jvm.ClassFile.FieldType.int) [((0 : Nat), (12 : Nat), (15 : Nat), (18 : Nat)), ((0 : Nat), (12 : Nat), (19 : Nat), (13 : Nat))]) ∈ gw := gw_at 1400 (by decide +kernel) (by decide +kernel)
def mL_mint : ME := (⟨RL, "mint", "(LNamedCoins;I[J)I"⟩, method_3_code, 4, some .int)
def hL_mint : List (Nat × Nat × Nat × Nat) := [(0, 9, 12, 13)]
theorem okL_mint : okV RL 7 RX10 mX10_mint 1 := ⟨ty666, ty667, ty668, ty105, ty669, ⟨rfl, by decide +kernel, by decide +kernel, by decide +kernel⟩, by decide⟩
theorem h_mint {l : Launch} {n : Nat} {d : DS} {Q : Option Value → DS → Prop} {X : String → DS → Prop} (hl : l.stackTraces = false) {a1 : Int32} (hC : CM l mX10_mint (n + 60) 1 [.ref 0, .int a1] d Q X) (hQ : ∀ v d, Q v d → ∃ x, v = some (.int x)) (hX : ∀ E d, X E d → E = exn 1) : CH l mL_mint hL_mint (n + 61) 1 [.ref 0, .int a1, .ref 87] d (hpQ kE1 Q X) := by
  refine CH.walk hl (by decide +kernel) (by show 3 ≤ 4; decide) (fun p e R s m args below meth c g ad A cy ht => ?_)
  show WF p l e R s m args below meth c 4 g ad A _ 0 [some (.ref 0), some (.int a1), some (.ref 87), none] [] d 0
  refine yr_aload_n cy (j := 2) (by decide +kernel) rfl ?_
  refine yr_iconst cy (v := 0) (by decide +kernel) ?_
  refine yr_aload_n cy (j := 0) (by decide +kernel) rfl ?_
  refine yr_iload_n cy (j := 1) (by decide +kernel) rfl ?_
  refine yr_callV cy (idx := 7) (as := [.int a1]) (rest := [.int 0, .ref 87]) (by decide +kernel) okL_mint L0 rfl rfl (by omega) (by omega) (by decide) hC (fun v d1 hq => ?_) (fun E d1 hx => ?_)
  · obtain ⟨x, rfl⟩ := hQ v d1 hq
    refine yr_i2l cy (x := x) (by decide +kernel) ?_
    refine yr_lastore cy (a := 87) (i := 0) (x := x) (by decide +kernel) L87 v01 ?_
    refine yr_goto cy (t := 15) (off := 6) (by decide +kernel) (by decide) ?_
    refine yr_iconst cy (v := 0) (by decide +kernel) ?_
    exact ye_ret cy (x := 0) (ty := .int) (by decide +kernel) rfl rfl (by omega) (Or.inl ⟨x, d1, hq, rfl, rfl⟩)
  · intro H locs la q ce hP hS hl2 h1 h2 h3
    have hE := hX E d1 hx
    refine ycatch (own := RL) (E := E) (nm := exn 1) cy.2.2.2.1 (pre := []) (r := []) ht (fun y hy => by cases hy) (by decide) (by decide) (cy.2.2.2.2.1 _ kl_13) (by rw [hE]; exact yself cy) h1 h2 h3 ?_
    exact yhand_n cy (j := 3) (v := 1) hP hS hl2 (by decide +kernel) (by decide) (by decide +kernel) (by decide +kernel) rfl (by omega) (Or.inr ⟨E, hx, rfl⟩)
def mL_count : ME := (⟨RL, "count", "(LNamedCoins;I[J)I"⟩, method_4_code, 4, some .int)
def hL_count : List (Nat × Nat × Nat × Nat) := [(0, 9, 12, 18)]
theorem okL_count : okV RL 15 RX10 mX10_count 1 := ⟨ty960, ty961, ty962, ty105, ty963, ⟨rfl, by decide +kernel, by decide +kernel, by decide +kernel⟩, by decide⟩
theorem h_count {l : Launch} {n : Nat} {d : DS} {Q : Option Value → DS → Prop} {X : String → DS → Prop} (hl : l.stackTraces = false) {a1 : Int32} (hC : CM l mX10_count (n + 60) 1 [.ref 0, .int a1] d Q X) (hQ : ∀ v d, Q v d → ∃ x, v = some (.int x)) (hX : ∀ E d, X E d → E = exn 0) : CH l mL_count hL_count (n + 61) 1 [.ref 0, .int a1, .ref 87] d (hpQ kE1 Q X) := by
  refine CH.walk hl (by decide +kernel) (by show 3 ≤ 4; decide) (fun p e R s m args below meth c g ad A cy ht => ?_)
  show WF p l e R s m args below meth c 4 g ad A _ 0 [some (.ref 0), some (.int a1), some (.ref 87), none] [] d 0
  refine yr_aload_n cy (j := 2) (by decide +kernel) rfl ?_
  refine yr_iconst cy (v := 0) (by decide +kernel) ?_
  refine yr_aload_n cy (j := 0) (by decide +kernel) rfl ?_
  refine yr_iload_n cy (j := 1) (by decide +kernel) rfl ?_
  refine yr_callV cy (idx := 15) (as := [.int a1]) (rest := [.int 0, .ref 87]) (by decide +kernel) okL_count L0 rfl rfl (by omega) (by omega) (by decide) hC (fun v d1 hq => ?_) (fun E d1 hx => ?_)
  · obtain ⟨x, rfl⟩ := hQ v d1 hq
    refine yr_i2l cy (x := x) (by decide +kernel) ?_
    refine yr_lastore cy (a := 87) (i := 0) (x := x) (by decide +kernel) L87 v01 ?_
    refine yr_goto cy (t := 15) (off := 6) (by decide +kernel) (by decide) ?_
    refine yr_iconst cy (v := 0) (by decide +kernel) ?_
    exact ye_ret cy (x := 0) (ty := .int) (by decide +kernel) rfl rfl (by omega) (Or.inl ⟨x, d1, hq, rfl, rfl⟩)
  · intro H locs la q ce hP hS hl2 h1 h2 h3
    have hE := hX E d1 hx
    refine ycatch (own := RL) (E := E) (nm := exn 0) cy.2.2.2.1 (pre := []) (r := []) ht (fun y hy => by cases hy) (by decide) (by decide) (cy.2.2.2.2.1 _ kl_18) (by rw [hE]; exact yself cy) h1 h2 h3 ?_
    exact yhand_n cy (j := 3) (v := 1) hP hS hl2 (by decide +kernel) (by decide) (by decide +kernel) (by decide +kernel) rfl (by omega) (Or.inr ⟨E, hx, rfl⟩)
def mL_person : ME := (⟨RL, "person", "(LNamedCoins;II[J)I"⟩, method_5_code, 5, some .int)
def hL_person : List (Nat × Nat × Nat × Nat) := [(0, 10, 13, 18)]
theorem okL_person : okV RL 20 RX10 mX10_person 2 := ⟨ty1011, ty1012, ty1013, ty105, ty1014, ⟨rfl, by decide +kernel, by decide +kernel, by decide +kernel⟩, by decide⟩
theorem h_person {l : Launch} {n : Nat} {d : DS} {Q : Option Value → DS → Prop} {X : String → DS → Prop} (hl : l.stackTraces = false) {a1 a2 : Int32} (hC : CM l mX10_person (n + 60) 2 [.ref 0, .int a1, .int a2] d Q X) (hQ : ∀ v d, Q v d → ∃ x, v = some (.int x)) (hX : ∀ E d, X E d → E = exn 0) : CH l mL_person hL_person (n + 61) 2 [.ref 0, .int a1, .int a2, .ref 87] d (hpQ kE1 Q X) := by
  refine CH.walk hl (by decide +kernel) (by show 4 ≤ 5; decide) (fun p e R s m args below meth c g ad A cy ht => ?_)
  show WF p l e R s m args below meth c 5 g ad A _ 0 [some (.ref 0), some (.int a1), some (.int a2), some (.ref 87), none] [] d 0
  refine yr_aload_n cy (j := 3) (by decide +kernel) rfl ?_
  refine yr_iconst cy (v := 0) (by decide +kernel) ?_
  refine yr_aload_n cy (j := 0) (by decide +kernel) rfl ?_
  refine yr_iload_n cy (j := 1) (by decide +kernel) rfl ?_
  refine yr_iload_n cy (j := 2) (by decide +kernel) rfl ?_
  refine yr_callV cy (idx := 20) (as := [.int a1, .int a2]) (rest := [.int 0, .ref 87]) (by decide +kernel) okL_person L0 rfl rfl (by omega) (by omega) (by decide) hC (fun v d1 hq => ?_) (fun E d1 hx => ?_)
  · obtain ⟨x, rfl⟩ := hQ v d1 hq
    refine yr_i2l cy (x := x) (by decide +kernel) ?_
    refine yr_lastore cy (a := 87) (i := 0) (x := x) (by decide +kernel) L87 v01 ?_
    refine yr_goto cy (t := 17) (off := 7) (by decide +kernel) (by decide) ?_
    refine yr_iconst cy (v := 0) (by decide +kernel) ?_
    exact ye_ret cy (x := 0) (ty := .int) (by decide +kernel) rfl rfl (by omega) (Or.inl ⟨x, d1, hq, rfl, rfl⟩)
  · intro H locs la q ce hP hS hl2 h1 h2 h3
    have hE := hX E d1 hx
    refine ycatch (own := RL) (E := E) (nm := exn 0) cy.2.2.2.1 (pre := []) (r := []) ht (fun y hy => by cases hy) (by decide) (by decide) (cy.2.2.2.2.1 _ kl_18) (by rw [hE]; exact yself cy) h1 h2 h3 ?_
    exact yhand cy (j := 4) (v := 1) hP hS hl2 (by decide +kernel) (by decide) (by decide +kernel) (by decide +kernel) rfl (by omega) (Or.inr ⟨E, hx, rfl⟩)
def mL_coin : ME := (⟨RL, "coin", "(LNamedCoins;II[J)I"⟩, method_6_code, 5, some .int)
def hL_coin : List (Nat × Nat × Nat × Nat) := [(0, 10, 13, 18)]
theorem okL_coin : okV RL 24 RX10 mX10_coin 2 := ⟨ty1035, ty1036, ty1037, ty105, ty1038, ⟨rfl, by decide +kernel, by decide +kernel, by decide +kernel⟩, by decide⟩
theorem h_coin {l : Launch} {n : Nat} {d : DS} {Q : Option Value → DS → Prop} {X : String → DS → Prop} (hl : l.stackTraces = false) {a1 a2 : Int32} (hC : CM l mX10_coin (n + 60) 2 [.ref 0, .int a1, .int a2] d Q X) (hQ : ∀ v d, Q v d → ∃ x, v = some (.int x)) (hX : ∀ E d, X E d → E = exn 0) : CH l mL_coin hL_coin (n + 61) 2 [.ref 0, .int a1, .int a2, .ref 87] d (hpQ kE1 Q X) := by
  refine CH.walk hl (by decide +kernel) (by show 4 ≤ 5; decide) (fun p e R s m args below meth c g ad A cy ht => ?_)
  show WF p l e R s m args below meth c 5 g ad A _ 0 [some (.ref 0), some (.int a1), some (.int a2), some (.ref 87), none] [] d 0
  refine yr_aload_n cy (j := 3) (by decide +kernel) rfl ?_
  refine yr_iconst cy (v := 0) (by decide +kernel) ?_
  refine yr_aload_n cy (j := 0) (by decide +kernel) rfl ?_
  refine yr_iload_n cy (j := 1) (by decide +kernel) rfl ?_
  refine yr_iload_n cy (j := 2) (by decide +kernel) rfl ?_
  refine yr_callV cy (idx := 24) (as := [.int a1, .int a2]) (rest := [.int 0, .ref 87]) (by decide +kernel) okL_coin L0 rfl rfl (by omega) (by omega) (by decide) hC (fun v d1 hq => ?_) (fun E d1 hx => ?_)
  · obtain ⟨x, rfl⟩ := hQ v d1 hq
    refine yr_i2l cy (x := x) (by decide +kernel) ?_
    refine yr_lastore cy (a := 87) (i := 0) (x := x) (by decide +kernel) L87 v01 ?_
    refine yr_goto cy (t := 17) (off := 7) (by decide +kernel) (by decide) ?_
    refine yr_iconst cy (v := 0) (by decide +kernel) ?_
    exact ye_ret cy (x := 0) (ty := .int) (by decide +kernel) rfl rfl (by omega) (Or.inl ⟨x, d1, hq, rfl, rfl⟩)
  · intro H locs la q ce hP hS hl2 h1 h2 h3
    have hE := hX E d1 hx
    refine ycatch (own := RL) (E := E) (nm := exn 0) cy.2.2.2.1 (pre := []) (r := []) ht (fun y hy => by cases hy) (by decide) (by decide) (cy.2.2.2.2.1 _ kl_18) (by rw [hE]; exact yself cy) h1 h2 h3 ?_
    exact yhand cy (j := 4) (v := 1) hP hS hl2 (by decide +kernel) (by decide) (by decide +kernel) (by decide +kernel) rfl (by omega) (Or.inr ⟨E, hx, rfl⟩)
def mL_give : ME := (⟨RL, "give", "(LNamedCoins;II[J)I"⟩, method_7_code, 5, some .int)
def hL_give : List (Nat × Nat × Nat × Nat) := [(0, 10, 13, 18)]
theorem okL_give : okV RL 27 RX10 mX10_give 2 := ⟨ty1054, ty1055, ty1056, ty105, ty1057, ⟨rfl, by decide +kernel, by decide +kernel, by decide +kernel⟩, by decide⟩
theorem h_give {l : Launch} {n : Nat} {d : DS} {Q : Option Value → DS → Prop} {X : String → DS → Prop} (hl : l.stackTraces = false) {a1 a2 : Int32} (hC : CM l mX10_give (n + 60) 2 [.ref 0, .int a1, .int a2] d Q X) (hQ : ∀ v d, Q v d → ∃ x, v = some (.int x)) (hX : ∀ E d, X E d → E = exn 0) : CH l mL_give hL_give (n + 61) 2 [.ref 0, .int a1, .int a2, .ref 87] d (hpQ kE1 Q X) := by
  refine CH.walk hl (by decide +kernel) (by show 4 ≤ 5; decide) (fun p e R s m args below meth c g ad A cy ht => ?_)
  show WF p l e R s m args below meth c 5 g ad A _ 0 [some (.ref 0), some (.int a1), some (.int a2), some (.ref 87), none] [] d 0
  refine yr_aload_n cy (j := 3) (by decide +kernel) rfl ?_
  refine yr_iconst cy (v := 0) (by decide +kernel) ?_
  refine yr_aload_n cy (j := 0) (by decide +kernel) rfl ?_
  refine yr_iload_n cy (j := 1) (by decide +kernel) rfl ?_
  refine yr_iload_n cy (j := 2) (by decide +kernel) rfl ?_
  refine yr_callV cy (idx := 27) (as := [.int a1, .int a2]) (rest := [.int 0, .ref 87]) (by decide +kernel) okL_give L0 rfl rfl (by omega) (by omega) (by decide) hC (fun v d1 hq => ?_) (fun E d1 hx => ?_)
  · obtain ⟨x, rfl⟩ := hQ v d1 hq
    refine yr_i2l cy (x := x) (by decide +kernel) ?_
    refine yr_lastore cy (a := 87) (i := 0) (x := x) (by decide +kernel) L87 v01 ?_
    refine yr_goto cy (t := 17) (off := 7) (by decide +kernel) (by decide) ?_
    refine yr_iconst cy (v := 0) (by decide +kernel) ?_
    exact ye_ret cy (x := 0) (ty := .int) (by decide +kernel) rfl rfl (by omega) (Or.inl ⟨x, d1, hq, rfl, rfl⟩)
  · intro H locs la q ce hP hS hl2 h1 h2 h3
    have hE := hX E d1 hx
    refine ycatch (own := RL) (E := E) (nm := exn 0) cy.2.2.2.1 (pre := []) (r := []) ht (fun y hy => by cases hy) (by decide) (by decide) (cy.2.2.2.2.1 _ kl_18) (by rw [hE]; exact yself cy) h1 h2 h3 ?_
    exact yhand cy (j := 4) (v := 1) hP hS hl2 (by decide +kernel) (by decide) (by decide +kernel) (by decide +kernel) rfl (by omega) (Or.inr ⟨E, hx, rfl⟩)
def mL_search : ME := (⟨RL, "search", "(LNamedCoins;I[J)I"⟩, method_8_code, 4, some .int)
def hL_search : List (Nat × Nat × Nat × Nat) := [(0, 9, 12, 18)]
theorem okL_search : okV RL 30 RX10 mX10_search 1 := ⟨ty1067, ty1068, ty1069, ty105, ty1070, ⟨rfl, by decide +kernel, by decide +kernel, by decide +kernel⟩, by decide⟩
theorem h_search {l : Launch} {n : Nat} {d : DS} {Q : Option Value → DS → Prop} {X : String → DS → Prop} (hl : l.stackTraces = false) {a1 : Int32} (hC : CM l mX10_search (n + 60) 1 [.ref 0, .int a1] d Q X) (hQ : ∀ v d, Q v d → ∃ x, v = some (.int x)) (hX : ∀ E d, X E d → E = exn 0) : CH l mL_search hL_search (n + 61) 1 [.ref 0, .int a1, .ref 87] d (hpQ kE1 Q X) := by
  refine CH.walk hl (by decide +kernel) (by show 3 ≤ 4; decide) (fun p e R s m args below meth c g ad A cy ht => ?_)
  show WF p l e R s m args below meth c 4 g ad A _ 0 [some (.ref 0), some (.int a1), some (.ref 87), none] [] d 0
  refine yr_aload_n cy (j := 2) (by decide +kernel) rfl ?_
  refine yr_iconst cy (v := 0) (by decide +kernel) ?_
  refine yr_aload_n cy (j := 0) (by decide +kernel) rfl ?_
  refine yr_iload_n cy (j := 1) (by decide +kernel) rfl ?_
  refine yr_callV cy (idx := 30) (as := [.int a1]) (rest := [.int 0, .ref 87]) (by decide +kernel) okL_search L0 rfl rfl (by omega) (by omega) (by decide) hC (fun v d1 hq => ?_) (fun E d1 hx => ?_)
  · obtain ⟨x, rfl⟩ := hQ v d1 hq
    refine yr_i2l cy (x := x) (by decide +kernel) ?_
    refine yr_lastore cy (a := 87) (i := 0) (x := x) (by decide +kernel) L87 v01 ?_
    refine yr_goto cy (t := 15) (off := 6) (by decide +kernel) (by decide) ?_
    refine yr_iconst cy (v := 0) (by decide +kernel) ?_
    exact ye_ret cy (x := 0) (ty := .int) (by decide +kernel) rfl rfl (by omega) (Or.inl ⟨x, d1, hq, rfl, rfl⟩)
  · intro H locs la q ce hP hS hl2 h1 h2 h3
    have hE := hX E d1 hx
    refine ycatch (own := RL) (E := E) (nm := exn 0) cy.2.2.2.1 (pre := []) (r := []) ht (fun y hy => by cases hy) (by decide) (by decide) (cy.2.2.2.2.1 _ kl_18) (by rw [hE]; exact yself cy) h1 h2 h3 ?_
    exact yhand_n cy (j := 3) (v := 1) hP hS hl2 (by decide +kernel) (by decide) (by decide +kernel) (by decide +kernel) rfl (by omega) (Or.inr ⟨E, hx, rfl⟩)
def mL_pays : ME := (⟨RL, "pays", "(LNamedCoins;II[J)I"⟩, method_9_code, 5, some .int)
def hL_pays : List (Nat × Nat × Nat × Nat) := [(0, 10, 13, 18)]
theorem okL_pays : okV RL 33 RX10 mX10_pays 2 := ⟨ty1074, ty1075, ty1076, ty105, ty1077, ⟨rfl, by decide +kernel, by decide +kernel, by decide +kernel⟩, by decide⟩
theorem h_pays {l : Launch} {n : Nat} {d : DS} {Q : Option Value → DS → Prop} {X : String → DS → Prop} (hl : l.stackTraces = false) {a1 a2 : Int32} (hC : CM l mX10_pays (n + 60) 2 [.ref 0, .int a1, .int a2] d Q X) (hQ : ∀ v d, Q v d → ∃ x, v = some (.int x)) (hX : ∀ E d, X E d → E = exn 0) : CH l mL_pays hL_pays (n + 61) 2 [.ref 0, .int a1, .int a2, .ref 87] d (hpQ kE1 Q X) := by
  refine CH.walk hl (by decide +kernel) (by show 4 ≤ 5; decide) (fun p e R s m args below meth c g ad A cy ht => ?_)
  show WF p l e R s m args below meth c 5 g ad A _ 0 [some (.ref 0), some (.int a1), some (.int a2), some (.ref 87), none] [] d 0
  refine yr_aload_n cy (j := 3) (by decide +kernel) rfl ?_
  refine yr_iconst cy (v := 0) (by decide +kernel) ?_
  refine yr_aload_n cy (j := 0) (by decide +kernel) rfl ?_
  refine yr_iload_n cy (j := 1) (by decide +kernel) rfl ?_
  refine yr_iload_n cy (j := 2) (by decide +kernel) rfl ?_
  refine yr_callV cy (idx := 33) (as := [.int a1, .int a2]) (rest := [.int 0, .ref 87]) (by decide +kernel) okL_pays L0 rfl rfl (by omega) (by omega) (by decide) hC (fun v d1 hq => ?_) (fun E d1 hx => ?_)
  · obtain ⟨x, rfl⟩ := hQ v d1 hq
    refine yr_i2l cy (x := x) (by decide +kernel) ?_
    refine yr_lastore cy (a := 87) (i := 0) (x := x) (by decide +kernel) L87 v01 ?_
    refine yr_goto cy (t := 17) (off := 7) (by decide +kernel) (by decide) ?_
    refine yr_iconst cy (v := 0) (by decide +kernel) ?_
    exact ye_ret cy (x := 0) (ty := .int) (by decide +kernel) rfl rfl (by omega) (Or.inl ⟨x, d1, hq, rfl, rfl⟩)
  · intro H locs la q ce hP hS hl2 h1 h2 h3
    have hE := hX E d1 hx
    refine ycatch (own := RL) (E := E) (nm := exn 0) cy.2.2.2.1 (pre := []) (r := []) ht (fun y hy => by cases hy) (by decide) (by decide) (cy.2.2.2.2.1 _ kl_18) (by rw [hE]; exact yself cy) h1 h2 h3 ?_
    exact yhand cy (j := 4) (v := 1) hP hS hl2 (by decide +kernel) (by decide) (by decide +kernel) (by decide +kernel) rfl (by omega) (Or.inr ⟨E, hx, rfl⟩)
def mL_anew : ME := (⟨RL, "anew", "(LNamedCoins;II[J)I"⟩, method_10_code, 5, some .int)
def hL_anew : List (Nat × Nat × Nat × Nat) := [(0, 10, 13, 18)]
theorem okL_anew : okV RL 36 RX10 mX10_anew 2 := ⟨ty1081, ty1082, ty1083, ty105, ty1084, ⟨rfl, by decide +kernel, by decide +kernel, by decide +kernel⟩, by decide⟩
theorem h_anew {l : Launch} {n : Nat} {d : DS} {Q : Option Value → DS → Prop} {X : String → DS → Prop} (hl : l.stackTraces = false) {a1 a2 : Int32} (hC : CM l mX10_anew (n + 60) 1 [.ref 0, .int a1, .int a2] d Q X) (hQ : ∀ v d, Q v d → ∃ x, v = some (.int x)) (hX : ∀ E d, X E d → E = exn 0) : CH l mL_anew hL_anew (n + 61) 1 [.ref 0, .int a1, .int a2, .ref 87] d (hpQ kE1 Q X) := by
  refine CH.walk hl (by decide +kernel) (by show 4 ≤ 5; decide) (fun p e R s m args below meth c g ad A cy ht => ?_)
  show WF p l e R s m args below meth c 5 g ad A _ 0 [some (.ref 0), some (.int a1), some (.int a2), some (.ref 87), none] [] d 0
  refine yr_aload_n cy (j := 3) (by decide +kernel) rfl ?_
  refine yr_iconst cy (v := 0) (by decide +kernel) ?_
  refine yr_aload_n cy (j := 0) (by decide +kernel) rfl ?_
  refine yr_iload_n cy (j := 1) (by decide +kernel) rfl ?_
  refine yr_iload_n cy (j := 2) (by decide +kernel) rfl ?_
  refine yr_callV cy (idx := 36) (as := [.int a1, .int a2]) (rest := [.int 0, .ref 87]) (by decide +kernel) okL_anew L0 rfl rfl (by omega) (by omega) (by decide) hC (fun v d1 hq => ?_) (fun E d1 hx => ?_)
  · obtain ⟨x, rfl⟩ := hQ v d1 hq
    refine yr_i2l cy (x := x) (by decide +kernel) ?_
    refine yr_lastore cy (a := 87) (i := 0) (x := x) (by decide +kernel) L87 v01 ?_
    refine yr_goto cy (t := 17) (off := 7) (by decide +kernel) (by decide) ?_
    refine yr_iconst cy (v := 0) (by decide +kernel) ?_
    exact ye_ret cy (x := 0) (ty := .int) (by decide +kernel) rfl rfl (by omega) (Or.inl ⟨x, d1, hq, rfl, rfl⟩)
  · intro H locs la q ce hP hS hl2 h1 h2 h3
    have hE := hX E d1 hx
    refine ycatch (own := RL) (E := E) (nm := exn 0) cy.2.2.2.1 (pre := []) (r := []) ht (fun y hy => by cases hy) (by decide) (by decide) (cy.2.2.2.2.1 _ kl_18) (by rw [hE]; exact yself cy) h1 h2 h3 ?_
    exact yhand cy (j := 4) (v := 1) hP hS hl2 (by decide +kernel) (by decide) (by decide +kernel) (by decide +kernel) rfl (by omega) (Or.inr ⟨E, hx, rfl⟩)
def mL_then : ME := (⟨RL, "then", "(LNamedCoins;III[J)I"⟩, method_11_code, 6, some .int)
def hL_then : List (Nat × Nat × Nat × Nat) := [(0, 12, 15, 18), (0, 12, 19, 13)]
theorem okL_then : okV RL 39 RX10 mX10_then 3 := ⟨ty1092, ty1093, ty1094, ty105, ty1095, ⟨rfl, by decide +kernel, by decide +kernel, by decide +kernel⟩, by decide⟩
theorem h_then {l : Launch} {n : Nat} {d : DS} {Q : Option Value → DS → Prop} {X : String → DS → Prop} (hl : l.stackTraces = false) {a1 a2 a3 : Int32} (hC : CM l mX10_then (n + 60) 3 [.ref 0, .int a1, .int a2, .int a3] d Q X) (hQ : ∀ v d, Q v d → ∃ x, v = some (.int x)) (hX : ∀ E d, X E d → E = exn 0 ∨ E = exn 1) : CH l mL_then hL_then (n + 61) 3 [.ref 0, .int a1, .int a2, .int a3, .ref 87] d (hpQ kE2 Q X) := by
  refine CH.walk hl (by decide +kernel) (by show 5 ≤ 6; decide) (fun p e R s m args below meth c g ad A cy ht => ?_)
  show WF p l e R s m args below meth c 6 g ad A _ 0 [some (.ref 0), some (.int a1), some (.int a2), some (.int a3), some (.ref 87), none] [] d 0
  refine yr_aload cy (j := 4) (by decide +kernel) rfl ?_
  refine yr_iconst cy (v := 0) (by decide +kernel) ?_
  refine yr_aload_n cy (j := 0) (by decide +kernel) rfl ?_
  refine yr_iload_n cy (j := 1) (by decide +kernel) rfl ?_
  refine yr_iload_n cy (j := 2) (by decide +kernel) rfl ?_
  refine yr_iload_n cy (j := 3) (by decide +kernel) rfl ?_
  refine yr_callV cy (idx := 39) (as := [.int a1, .int a2, .int a3]) (rest := [.int 0, .ref 87]) (by decide +kernel) okL_then L0 rfl rfl (by omega) (by omega) (by decide) hC (fun v d1 hq => ?_) (fun E d1 hx => ?_)
  · obtain ⟨x, rfl⟩ := hQ v d1 hq
    refine yr_i2l cy (x := x) (by decide +kernel) ?_
    refine yr_lastore cy (a := 87) (i := 0) (x := x) (by decide +kernel) L87 v01 ?_
    refine yr_goto cy (t := 23) (off := 11) (by decide +kernel) (by decide) ?_
    refine yr_iconst cy (v := 0) (by decide +kernel) ?_
    exact ye_ret cy (x := 0) (ty := .int) (by decide +kernel) rfl rfl (by omega) (Or.inl ⟨x, d1, hq, rfl, rfl⟩)
  · intro H locs la q ce hP hS hl2 h1 h2 h3
    rcases hX E d1 hx with hE | hE
    · refine ycatch (own := RL) (E := E) (nm := exn 0) cy.2.2.2.1 (pre := []) ht (fun y hy => by cases hy) (by decide) (by decide) (cy.2.2.2.2.1 _ kl_18) (by rw [hE]; exact yself cy) h1 h2 h3 ?_
      exact yhand cy (j := 5) (v := 1) hP hS hl2 (by decide +kernel) (by decide) (by decide +kernel) (by decide +kernel) rfl (by omega) (Or.inr ⟨E, hx, by unfold kE2; rw [if_pos hE]; rfl⟩)
    · refine ycatch (own := RL) (E := E) (nm := exn 1) cy.2.2.2.1 (pre := [⟨0, 12, 15, 18⟩]) (r := []) ht (fun y hy => ⟨by rw [List.mem_singleton.mp hy]; decide, exn 0, by rw [List.mem_singleton.mp hy]; exact cy.2.2.2.2.1 _ kl_18, by rw [hE]; exact yno cy⟩) (by decide) (by decide) (cy.2.2.2.2.1 _ kl_13) (by rw [hE]; exact yself cy) h1 h2 h3 ?_
      exact yhand cy (j := 5) (v := 2) hP hS hl2 (by decide +kernel) (by decide) (by decide +kernel) (by decide +kernel) rfl (by omega) (Or.inr ⟨E, hx, by unfold kE2; rw [if_neg (by rw [hE]; decide)]; rfl⟩)
def mL_has : ME := (⟨RL, "has", "(LNamedCoins;II[J)I"⟩, method_12_code, 5, some .int)
def hL_has : List (Nat × Nat × Nat × Nat) := [(0, 10, 13, 18), (0, 10, 17, 13)]
theorem okL_has : okV RL 43 RX10 mX10_has 2 := ⟨ty1112, ty1113, ty1114, ty105, ty1115, ⟨rfl, by decide +kernel, by decide +kernel, by decide +kernel⟩, by decide⟩
theorem h_has {l : Launch} {n : Nat} {d : DS} {Q : Option Value → DS → Prop} {X : String → DS → Prop} (hl : l.stackTraces = false) {a1 a2 : Int32} (hC : CM l mX10_has (n + 60) 2 [.ref 0, .int a1, .int a2] d Q X) (hQ : ∀ v d, Q v d → ∃ x, v = some (.int x)) (hX : ∀ E d, X E d → E = exn 0 ∨ E = exn 1) : CH l mL_has hL_has (n + 61) 2 [.ref 0, .int a1, .int a2, .ref 87] d (hpQ kE2 Q X) := by
  refine CH.walk hl (by decide +kernel) (by show 4 ≤ 5; decide) (fun p e R s m args below meth c g ad A cy ht => ?_)
  show WF p l e R s m args below meth c 5 g ad A _ 0 [some (.ref 0), some (.int a1), some (.int a2), some (.ref 87), none] [] d 0
  refine yr_aload_n cy (j := 3) (by decide +kernel) rfl ?_
  refine yr_iconst cy (v := 0) (by decide +kernel) ?_
  refine yr_aload_n cy (j := 0) (by decide +kernel) rfl ?_
  refine yr_iload_n cy (j := 1) (by decide +kernel) rfl ?_
  refine yr_iload_n cy (j := 2) (by decide +kernel) rfl ?_
  refine yr_callV cy (idx := 43) (as := [.int a1, .int a2]) (rest := [.int 0, .ref 87]) (by decide +kernel) okL_has L0 rfl rfl (by omega) (by omega) (by decide) hC (fun v d1 hq => ?_) (fun E d1 hx => ?_)
  · obtain ⟨x, rfl⟩ := hQ v d1 hq
    refine yr_i2l cy (x := x) (by decide +kernel) ?_
    refine yr_lastore cy (a := 87) (i := 0) (x := x) (by decide +kernel) L87 v01 ?_
    refine yr_goto cy (t := 21) (off := 11) (by decide +kernel) (by decide) ?_
    refine yr_iconst cy (v := 0) (by decide +kernel) ?_
    exact ye_ret cy (x := 0) (ty := .int) (by decide +kernel) rfl rfl (by omega) (Or.inl ⟨x, d1, hq, rfl, rfl⟩)
  · intro H locs la q ce hP hS hl2 h1 h2 h3
    rcases hX E d1 hx with hE | hE
    · refine ycatch (own := RL) (E := E) (nm := exn 0) cy.2.2.2.1 (pre := []) ht (fun y hy => by cases hy) (by decide) (by decide) (cy.2.2.2.2.1 _ kl_18) (by rw [hE]; exact yself cy) h1 h2 h3 ?_
      exact yhand cy (j := 4) (v := 1) hP hS hl2 (by decide +kernel) (by decide) (by decide +kernel) (by decide +kernel) rfl (by omega) (Or.inr ⟨E, hx, by unfold kE2; rw [if_pos hE]; rfl⟩)
    · refine ycatch (own := RL) (E := E) (nm := exn 1) cy.2.2.2.1 (pre := [⟨0, 10, 13, 18⟩]) (r := []) ht (fun y hy => ⟨by rw [List.mem_singleton.mp hy]; decide, exn 0, by rw [List.mem_singleton.mp hy]; exact cy.2.2.2.2.1 _ kl_18, by rw [hE]; exact yno cy⟩) (by decide) (by decide) (cy.2.2.2.2.1 _ kl_13) (by rw [hE]; exact yself cy) h1 h2 h3 ?_
      exact yhand cy (j := 4) (v := 2) hP hS hl2 (by decide +kernel) (by decide) (by decide +kernel) (by decide +kernel) rfl (by omega) (Or.inr ⟨E, hx, by unfold kE2; rw [if_neg (by rw [hE]; decide)]; rfl⟩)
def mL_later : ME := (⟨RL, "later", "(LNamedCoins;II[J)I"⟩, method_13_code, 5, some .int)
def hL_later : List (Nat × Nat × Nat × Nat) := [(0, 10, 13, 18), (0, 10, 17, 13)]
theorem okL_later : okV RL 46 RX10 mX10_later 2 := ⟨ty1119, ty1120, ty1121, ty105, ty1122, ⟨rfl, by decide +kernel, by decide +kernel, by decide +kernel⟩, by decide⟩
theorem h_later {l : Launch} {n : Nat} {d : DS} {Q : Option Value → DS → Prop} {X : String → DS → Prop} (hl : l.stackTraces = false) {a1 a2 : Int32} (hC : CM l mX10_later (n + 60) 2 [.ref 0, .int a1, .int a2] d Q X) (hQ : ∀ v d, Q v d → ∃ x, v = some (.int x)) (hX : ∀ E d, X E d → E = exn 0 ∨ E = exn 1) : CH l mL_later hL_later (n + 61) 2 [.ref 0, .int a1, .int a2, .ref 87] d (hpQ kE2 Q X) := by
  refine CH.walk hl (by decide +kernel) (by show 4 ≤ 5; decide) (fun p e R s m args below meth c g ad A cy ht => ?_)
  show WF p l e R s m args below meth c 5 g ad A _ 0 [some (.ref 0), some (.int a1), some (.int a2), some (.ref 87), none] [] d 0
  refine yr_aload_n cy (j := 3) (by decide +kernel) rfl ?_
  refine yr_iconst cy (v := 0) (by decide +kernel) ?_
  refine yr_aload_n cy (j := 0) (by decide +kernel) rfl ?_
  refine yr_iload_n cy (j := 1) (by decide +kernel) rfl ?_
  refine yr_iload_n cy (j := 2) (by decide +kernel) rfl ?_
  refine yr_callV cy (idx := 46) (as := [.int a1, .int a2]) (rest := [.int 0, .ref 87]) (by decide +kernel) okL_later L0 rfl rfl (by omega) (by omega) (by decide) hC (fun v d1 hq => ?_) (fun E d1 hx => ?_)
  · obtain ⟨x, rfl⟩ := hQ v d1 hq
    refine yr_i2l cy (x := x) (by decide +kernel) ?_
    refine yr_lastore cy (a := 87) (i := 0) (x := x) (by decide +kernel) L87 v01 ?_
    refine yr_goto cy (t := 21) (off := 11) (by decide +kernel) (by decide) ?_
    refine yr_iconst cy (v := 0) (by decide +kernel) ?_
    exact ye_ret cy (x := 0) (ty := .int) (by decide +kernel) rfl rfl (by omega) (Or.inl ⟨x, d1, hq, rfl, rfl⟩)
  · intro H locs la q ce hP hS hl2 h1 h2 h3
    rcases hX E d1 hx with hE | hE
    · refine ycatch (own := RL) (E := E) (nm := exn 0) cy.2.2.2.1 (pre := []) ht (fun y hy => by cases hy) (by decide) (by decide) (cy.2.2.2.2.1 _ kl_18) (by rw [hE]; exact yself cy) h1 h2 h3 ?_
      exact yhand cy (j := 4) (v := 1) hP hS hl2 (by decide +kernel) (by decide) (by decide +kernel) (by decide +kernel) rfl (by omega) (Or.inr ⟨E, hx, by unfold kE2; rw [if_pos hE]; rfl⟩)
    · refine ycatch (own := RL) (E := E) (nm := exn 1) cy.2.2.2.1 (pre := [⟨0, 10, 13, 18⟩]) (r := []) ht (fun y hy => ⟨by rw [List.mem_singleton.mp hy]; decide, exn 0, by rw [List.mem_singleton.mp hy]; exact cy.2.2.2.2.1 _ kl_18, by rw [hE]; exact yno cy⟩) (by decide) (by decide) (cy.2.2.2.2.1 _ kl_13) (by rw [hE]; exact yself cy) h1 h2 h3 ?_
      exact yhand cy (j := 4) (v := 2) hP hS hl2 (by decide +kernel) (by decide) (by decide +kernel) (by decide +kernel) rfl (by omega) (Or.inr ⟨E, hx, by unfold kE2; rw [if_neg (by rw [hE]; decide)]; rfl⟩)
def mL_gets : ME := (⟨RL, "gets", "(LNamedCoins;II[J)I"⟩, method_14_code, 5, some .int)
def hL_gets : List (Nat × Nat × Nat × Nat) := [(0, 10, 13, 18)]
theorem okL_gets : okV RL 49 RX10 mX10_gets 2 := ⟨ty1130, ty1131, ty1132, ty105, ty1133, ⟨rfl, by decide +kernel, by decide +kernel, by decide +kernel⟩, by decide⟩
theorem h_gets {l : Launch} {n : Nat} {d : DS} {Q : Option Value → DS → Prop} {X : String → DS → Prop} (hl : l.stackTraces = false) {a1 a2 : Int32} (hC : CM l mX10_gets (n + 60) 2 [.ref 0, .int a1, .int a2] d Q X) (hQ : ∀ v d, Q v d → ∃ x, v = some (.int x)) (hX : ∀ E d, X E d → E = exn 0) : CH l mL_gets hL_gets (n + 61) 2 [.ref 0, .int a1, .int a2, .ref 87] d (hpQ kE1 Q X) := by
  refine CH.walk hl (by decide +kernel) (by show 4 ≤ 5; decide) (fun p e R s m args below meth c g ad A cy ht => ?_)
  show WF p l e R s m args below meth c 5 g ad A _ 0 [some (.ref 0), some (.int a1), some (.int a2), some (.ref 87), none] [] d 0
  refine yr_aload_n cy (j := 3) (by decide +kernel) rfl ?_
  refine yr_iconst cy (v := 0) (by decide +kernel) ?_
  refine yr_aload_n cy (j := 0) (by decide +kernel) rfl ?_
  refine yr_iload_n cy (j := 1) (by decide +kernel) rfl ?_
  refine yr_iload_n cy (j := 2) (by decide +kernel) rfl ?_
  refine yr_callV cy (idx := 49) (as := [.int a1, .int a2]) (rest := [.int 0, .ref 87]) (by decide +kernel) okL_gets L0 rfl rfl (by omega) (by omega) (by decide) hC (fun v d1 hq => ?_) (fun E d1 hx => ?_)
  · obtain ⟨x, rfl⟩ := hQ v d1 hq
    refine yr_i2l cy (x := x) (by decide +kernel) ?_
    refine yr_lastore cy (a := 87) (i := 0) (x := x) (by decide +kernel) L87 v01 ?_
    refine yr_goto cy (t := 17) (off := 7) (by decide +kernel) (by decide) ?_
    refine yr_iconst cy (v := 0) (by decide +kernel) ?_
    exact ye_ret cy (x := 0) (ty := .int) (by decide +kernel) rfl rfl (by omega) (Or.inl ⟨x, d1, hq, rfl, rfl⟩)
  · intro H locs la q ce hP hS hl2 h1 h2 h3
    have hE := hX E d1 hx
    refine ycatch (own := RL) (E := E) (nm := exn 0) cy.2.2.2.1 (pre := []) (r := []) ht (fun y hy => by cases hy) (by decide) (by decide) (cy.2.2.2.2.1 _ kl_18) (by rw [hE]; exact yself cy) h1 h2 h3 ?_
    exact yhand cy (j := 4) (v := 1) hP hS hl2 (by decide +kernel) (by decide) (by decide +kernel) (by decide +kernel) rfl (by omega) (Or.inr ⟨E, hx, rfl⟩)
def mL_hands : ME := (⟨RL, "hands", "(LNamedCoins;II[J)I"⟩, method_15_code, 5, some .int)
def hL_hands : List (Nat × Nat × Nat × Nat) := [(0, 10, 13, 18), (0, 10, 17, 13)]
theorem okL_hands : okV RL 52 RX10 mX10_hands 2 := ⟨ty1142, ty1143, ty1144, ty105, ty1145, ⟨rfl, by decide +kernel, by decide +kernel, by decide +kernel⟩, by decide⟩
theorem h_hands {l : Launch} {n : Nat} {d : DS} {Q : Option Value → DS → Prop} {X : String → DS → Prop} (hl : l.stackTraces = false) {a1 a2 : Int32} (hC : CM l mX10_hands (n + 60) 2 [.ref 0, .int a1, .int a2] d Q X) (hQ : ∀ v d, Q v d → ∃ x, v = some (.int x)) (hX : ∀ E d, X E d → E = exn 0 ∨ E = exn 1) : CH l mL_hands hL_hands (n + 61) 2 [.ref 0, .int a1, .int a2, .ref 87] d (hpQ kE2 Q X) := by
  refine CH.walk hl (by decide +kernel) (by show 4 ≤ 5; decide) (fun p e R s m args below meth c g ad A cy ht => ?_)
  show WF p l e R s m args below meth c 5 g ad A _ 0 [some (.ref 0), some (.int a1), some (.int a2), some (.ref 87), none] [] d 0
  refine yr_aload_n cy (j := 3) (by decide +kernel) rfl ?_
  refine yr_iconst cy (v := 0) (by decide +kernel) ?_
  refine yr_aload_n cy (j := 0) (by decide +kernel) rfl ?_
  refine yr_iload_n cy (j := 1) (by decide +kernel) rfl ?_
  refine yr_iload_n cy (j := 2) (by decide +kernel) rfl ?_
  refine yr_callV cy (idx := 52) (as := [.int a1, .int a2]) (rest := [.int 0, .ref 87]) (by decide +kernel) okL_hands L0 rfl rfl (by omega) (by omega) (by decide) hC (fun v d1 hq => ?_) (fun E d1 hx => ?_)
  · obtain ⟨x, rfl⟩ := hQ v d1 hq
    refine yr_i2l cy (x := x) (by decide +kernel) ?_
    refine yr_lastore cy (a := 87) (i := 0) (x := x) (by decide +kernel) L87 v01 ?_
    refine yr_goto cy (t := 21) (off := 11) (by decide +kernel) (by decide) ?_
    refine yr_iconst cy (v := 0) (by decide +kernel) ?_
    exact ye_ret cy (x := 0) (ty := .int) (by decide +kernel) rfl rfl (by omega) (Or.inl ⟨x, d1, hq, rfl, rfl⟩)
  · intro H locs la q ce hP hS hl2 h1 h2 h3
    rcases hX E d1 hx with hE | hE
    · refine ycatch (own := RL) (E := E) (nm := exn 0) cy.2.2.2.1 (pre := []) ht (fun y hy => by cases hy) (by decide) (by decide) (cy.2.2.2.2.1 _ kl_18) (by rw [hE]; exact yself cy) h1 h2 h3 ?_
      exact yhand cy (j := 4) (v := 1) hP hS hl2 (by decide +kernel) (by decide) (by decide +kernel) (by decide +kernel) rfl (by omega) (Or.inr ⟨E, hx, by unfold kE2; rw [if_pos hE]; rfl⟩)
    · refine ycatch (own := RL) (E := E) (nm := exn 1) cy.2.2.2.1 (pre := [⟨0, 10, 13, 18⟩]) (r := []) ht (fun y hy => ⟨by rw [List.mem_singleton.mp hy]; decide, exn 0, by rw [List.mem_singleton.mp hy]; exact cy.2.2.2.2.1 _ kl_18, by rw [hE]; exact yno cy⟩) (by decide) (by decide) (cy.2.2.2.2.1 _ kl_13) (by rw [hE]; exact yself cy) h1 h2 h3 ?_
      exact yhand cy (j := 4) (v := 2) hP hS hl2 (by decide +kernel) (by decide) (by decide +kernel) (by decide +kernel) rfl (by omega) (Or.inr ⟨E, hx, by unfold kE2; rw [if_neg (by rw [hE]; decide)]; rfl⟩)
def mL_crumbles : ME := (⟨RL, "crumbles", "(LNamedCoins;I[J)I"⟩, method_16_code, 4, some .int)
def hL_crumbles : List (Nat × Nat × Nat × Nat) := [(0, 9, 12, 18)]
theorem okL_crumbles : okV RL 55 RX10 mX10_crumbles 1 := ⟨ty1154, ty1155, ty1156, ty105, ty1157, ⟨rfl, by decide +kernel, by decide +kernel, by decide +kernel⟩, by decide⟩
theorem h_crumbles {l : Launch} {n : Nat} {d : DS} {Q : Option Value → DS → Prop} {X : String → DS → Prop} (hl : l.stackTraces = false) {a1 : Int32} (hC : CM l mX10_crumbles (n + 60) 1 [.ref 0, .int a1] d Q X) (hQ : ∀ v d, Q v d → ∃ x, v = some (.int x)) (hX : ∀ E d, X E d → E = exn 0) : CH l mL_crumbles hL_crumbles (n + 61) 1 [.ref 0, .int a1, .ref 87] d (hpQ kE1 Q X) := by
  refine CH.walk hl (by decide +kernel) (by show 3 ≤ 4; decide) (fun p e R s m args below meth c g ad A cy ht => ?_)
  show WF p l e R s m args below meth c 4 g ad A _ 0 [some (.ref 0), some (.int a1), some (.ref 87), none] [] d 0
  refine yr_aload_n cy (j := 2) (by decide +kernel) rfl ?_
  refine yr_iconst cy (v := 0) (by decide +kernel) ?_
  refine yr_aload_n cy (j := 0) (by decide +kernel) rfl ?_
  refine yr_iload_n cy (j := 1) (by decide +kernel) rfl ?_
  refine yr_callV cy (idx := 55) (as := [.int a1]) (rest := [.int 0, .ref 87]) (by decide +kernel) okL_crumbles L0 rfl rfl (by omega) (by omega) (by decide) hC (fun v d1 hq => ?_) (fun E d1 hx => ?_)
  · obtain ⟨x, rfl⟩ := hQ v d1 hq
    refine yr_i2l cy (x := x) (by decide +kernel) ?_
    refine yr_lastore cy (a := 87) (i := 0) (x := x) (by decide +kernel) L87 v01 ?_
    refine yr_goto cy (t := 15) (off := 6) (by decide +kernel) (by decide) ?_
    refine yr_iconst cy (v := 0) (by decide +kernel) ?_
    exact ye_ret cy (x := 0) (ty := .int) (by decide +kernel) rfl rfl (by omega) (Or.inl ⟨x, d1, hq, rfl, rfl⟩)
  · intro H locs la q ce hP hS hl2 h1 h2 h3
    have hE := hX E d1 hx
    refine ycatch (own := RL) (E := E) (nm := exn 0) cy.2.2.2.1 (pre := []) (r := []) ht (fun y hy => by cases hy) (by decide) (by decide) (cy.2.2.2.2.1 _ kl_18) (by rw [hE]; exact yself cy) h1 h2 h3 ?_
    exact yhand_n cy (j := 3) (v := 1) hP hS hl2 (by decide +kernel) (by decide) (by decide +kernel) (by decide +kernel) rfl (by omega) (Or.inr ⟨E, hx, rfl⟩)
def mL_comesTo : ME := (⟨RL, "comesTo", "(LNamedCoins;I[J)I"⟩, method_17_code, 4, some .int)
def hL_comesTo : List (Nat × Nat × Nat × Nat) := [(0, 9, 12, 18)]
theorem okL_comesTo : okV RL 58 RX10 mX10_comesTo 1 := ⟨ty1161, ty1162, ty1163, ty105, ty1164, ⟨rfl, by decide +kernel, by decide +kernel, by decide +kernel⟩, by decide⟩
theorem h_comesTo {l : Launch} {n : Nat} {d : DS} {Q : Option Value → DS → Prop} {X : String → DS → Prop} (hl : l.stackTraces = false) {a1 : Int32} (hC : CM l mX10_comesTo (n + 60) 1 [.ref 0, .int a1] d Q X) (hQ : ∀ v d, Q v d → ∃ x, v = some (.int x)) (hX : ∀ E d, X E d → E = exn 0) : CH l mL_comesTo hL_comesTo (n + 61) 1 [.ref 0, .int a1, .ref 87] d (hpQ kE1 Q X) := by
  refine CH.walk hl (by decide +kernel) (by show 3 ≤ 4; decide) (fun p e R s m args below meth c g ad A cy ht => ?_)
  show WF p l e R s m args below meth c 4 g ad A _ 0 [some (.ref 0), some (.int a1), some (.ref 87), none] [] d 0
  refine yr_aload_n cy (j := 2) (by decide +kernel) rfl ?_
  refine yr_iconst cy (v := 0) (by decide +kernel) ?_
  refine yr_aload_n cy (j := 0) (by decide +kernel) rfl ?_
  refine yr_iload_n cy (j := 1) (by decide +kernel) rfl ?_
  refine yr_callV cy (idx := 58) (as := [.int a1]) (rest := [.int 0, .ref 87]) (by decide +kernel) okL_comesTo L0 rfl rfl (by omega) (by omega) (by decide) hC (fun v d1 hq => ?_) (fun E d1 hx => ?_)
  · obtain ⟨x, rfl⟩ := hQ v d1 hq
    refine yr_i2l cy (x := x) (by decide +kernel) ?_
    refine yr_lastore cy (a := 87) (i := 0) (x := x) (by decide +kernel) L87 v01 ?_
    refine yr_goto cy (t := 15) (off := 6) (by decide +kernel) (by decide) ?_
    refine yr_iconst cy (v := 0) (by decide +kernel) ?_
    exact ye_ret cy (x := 0) (ty := .int) (by decide +kernel) rfl rfl (by omega) (Or.inl ⟨x, d1, hq, rfl, rfl⟩)
  · intro H locs la q ce hP hS hl2 h1 h2 h3
    have hE := hX E d1 hx
    refine ycatch (own := RL) (E := E) (nm := exn 0) cy.2.2.2.1 (pre := []) (r := []) ht (fun y hy => by cases hy) (by decide) (by decide) (cy.2.2.2.2.1 _ kl_18) (by rw [hE]; exact yself cy) h1 h2 h3 ?_
    exact yhand_n cy (j := 3) (v := 1) hP hS hl2 (by decide +kernel) (by decide) (by decide +kernel) (by decide +kernel) rfl (by omega) (Or.inr ⟨E, hx, rfl⟩)
def mL_steps : ME := (⟨RL, "steps", "(LNamedCoins;II[J)I"⟩, method_18_code, 5, some .int)
def hL_steps : List (Nat × Nat × Nat × Nat) := [(0, 10, 13, 18)]
theorem okL_steps : okV RL 61 RX10 mX10_steps 2 := ⟨ty1169, ty1170, ty1171, ty105, ty1172, ⟨rfl, by decide +kernel, by decide +kernel, by decide +kernel⟩, by decide⟩
theorem h_steps {l : Launch} {n : Nat} {d : DS} {Q : Option Value → DS → Prop} {X : String → DS → Prop} (hl : l.stackTraces = false) {a1 a2 : Int32} (hC : CM l mX10_steps (n + 60) 2 [.ref 0, .int a1, .int a2] d Q X) (hQ : ∀ v d, Q v d → ∃ x, v = some (.int x)) (hX : ∀ E d, X E d → E = exn 0) : CH l mL_steps hL_steps (n + 61) 2 [.ref 0, .int a1, .int a2, .ref 87] d (hpQ kE1 Q X) := by
  refine CH.walk hl (by decide +kernel) (by show 4 ≤ 5; decide) (fun p e R s m args below meth c g ad A cy ht => ?_)
  show WF p l e R s m args below meth c 5 g ad A _ 0 [some (.ref 0), some (.int a1), some (.int a2), some (.ref 87), none] [] d 0
  refine yr_aload_n cy (j := 3) (by decide +kernel) rfl ?_
  refine yr_iconst cy (v := 0) (by decide +kernel) ?_
  refine yr_aload_n cy (j := 0) (by decide +kernel) rfl ?_
  refine yr_iload_n cy (j := 1) (by decide +kernel) rfl ?_
  refine yr_iload_n cy (j := 2) (by decide +kernel) rfl ?_
  refine yr_callV cy (idx := 61) (as := [.int a1, .int a2]) (rest := [.int 0, .ref 87]) (by decide +kernel) okL_steps L0 rfl rfl (by omega) (by omega) (by decide) hC (fun v d1 hq => ?_) (fun E d1 hx => ?_)
  · obtain ⟨x, rfl⟩ := hQ v d1 hq
    refine yr_i2l cy (x := x) (by decide +kernel) ?_
    refine yr_lastore cy (a := 87) (i := 0) (x := x) (by decide +kernel) L87 v01 ?_
    refine yr_goto cy (t := 17) (off := 7) (by decide +kernel) (by decide) ?_
    refine yr_iconst cy (v := 0) (by decide +kernel) ?_
    exact ye_ret cy (x := 0) (ty := .int) (by decide +kernel) rfl rfl (by omega) (Or.inl ⟨x, d1, hq, rfl, rfl⟩)
  · intro H locs la q ce hP hS hl2 h1 h2 h3
    have hE := hX E d1 hx
    refine ycatch (own := RL) (E := E) (nm := exn 0) cy.2.2.2.1 (pre := []) (r := []) ht (fun y hy => by cases hy) (by decide) (by decide) (cy.2.2.2.2.1 _ kl_18) (by rw [hE]; exact yself cy) h1 h2 h3 ?_
    exact yhand cy (j := 4) (v := 1) hP hS hl2 (by decide +kernel) (by decide) (by decide +kernel) (by decide +kernel) rfl (by omega) (Or.inr ⟨E, hx, rfl⟩)
def mL_toPay : ME := (⟨RL, "toPay", "(LNamedCoins;III[J)I"⟩, method_19_code, 6, some .int)
def hL_toPay : List (Nat × Nat × Nat × Nat) := [(0, 12, 15, 18), (0, 12, 19, 13)]
theorem okL_toPay : okV RL 64 RX10 mX10_toPay 3 := ⟨ty1179, ty1180, ty1181, ty105, ty1182, ⟨rfl, by decide +kernel, by decide +kernel, by decide +kernel⟩, by decide⟩
theorem h_toPay {l : Launch} {n : Nat} {d : DS} {Q : Option Value → DS → Prop} {X : String → DS → Prop} (hl : l.stackTraces = false) {a1 a2 a3 : Int32} (hC : CM l mX10_toPay (n + 60) 3 [.ref 0, .int a1, .int a2, .int a3] d Q X) (hQ : ∀ v d, Q v d → ∃ x, v = some (.int x)) (hX : ∀ E d, X E d → E = exn 0 ∨ E = exn 1) : CH l mL_toPay hL_toPay (n + 61) 3 [.ref 0, .int a1, .int a2, .int a3, .ref 87] d (hpQ kE2 Q X) := by
  refine CH.walk hl (by decide +kernel) (by show 5 ≤ 6; decide) (fun p e R s m args below meth c g ad A cy ht => ?_)
  show WF p l e R s m args below meth c 6 g ad A _ 0 [some (.ref 0), some (.int a1), some (.int a2), some (.int a3), some (.ref 87), none] [] d 0
  refine yr_aload cy (j := 4) (by decide +kernel) rfl ?_
  refine yr_iconst cy (v := 0) (by decide +kernel) ?_
  refine yr_aload_n cy (j := 0) (by decide +kernel) rfl ?_
  refine yr_iload_n cy (j := 1) (by decide +kernel) rfl ?_
  refine yr_iload_n cy (j := 2) (by decide +kernel) rfl ?_
  refine yr_iload_n cy (j := 3) (by decide +kernel) rfl ?_
  refine yr_callV cy (idx := 64) (as := [.int a1, .int a2, .int a3]) (rest := [.int 0, .ref 87]) (by decide +kernel) okL_toPay L0 rfl rfl (by omega) (by omega) (by decide) hC (fun v d1 hq => ?_) (fun E d1 hx => ?_)
  · obtain ⟨x, rfl⟩ := hQ v d1 hq
    refine yr_i2l cy (x := x) (by decide +kernel) ?_
    refine yr_lastore cy (a := 87) (i := 0) (x := x) (by decide +kernel) L87 v01 ?_
    refine yr_goto cy (t := 23) (off := 11) (by decide +kernel) (by decide) ?_
    refine yr_iconst cy (v := 0) (by decide +kernel) ?_
    exact ye_ret cy (x := 0) (ty := .int) (by decide +kernel) rfl rfl (by omega) (Or.inl ⟨x, d1, hq, rfl, rfl⟩)
  · intro H locs la q ce hP hS hl2 h1 h2 h3
    rcases hX E d1 hx with hE | hE
    · refine ycatch (own := RL) (E := E) (nm := exn 0) cy.2.2.2.1 (pre := []) ht (fun y hy => by cases hy) (by decide) (by decide) (cy.2.2.2.2.1 _ kl_18) (by rw [hE]; exact yself cy) h1 h2 h3 ?_
      exact yhand cy (j := 5) (v := 1) hP hS hl2 (by decide +kernel) (by decide) (by decide +kernel) (by decide +kernel) rfl (by omega) (Or.inr ⟨E, hx, by unfold kE2; rw [if_pos hE]; rfl⟩)
    · refine ycatch (own := RL) (E := E) (nm := exn 1) cy.2.2.2.1 (pre := [⟨0, 12, 15, 18⟩]) (r := []) ht (fun y hy => ⟨by rw [List.mem_singleton.mp hy]; decide, exn 0, by rw [List.mem_singleton.mp hy]; exact cy.2.2.2.2.1 _ kl_18, by rw [hE]; exact yno cy⟩) (by decide) (by decide) (cy.2.2.2.2.1 _ kl_13) (by rw [hE]; exact yself cy) h1 h2 h3 ?_
      exact yhand cy (j := 5) (v := 2) hP hS hl2 (by decide +kernel) (by decide) (by decide +kernel) (by decide +kernel) rfl (by omega) (Or.inr ⟨E, hx, by unfold kE2; rw [if_neg (by rw [hE]; decide)]; rfl⟩)
def mL_change : ME := (⟨RL, "change", "(LNamedCoins;IIII[J)I"⟩, method_20_code, 7, some .int)
def hL_change : List (Nat × Nat × Nat × Nat) := [(0, 14, 17, 18), (0, 14, 21, 13)]
theorem okL_change : okV RL 67 RX10 mX10_change 4 := ⟨ty1219, ty1220, ty1221, ty105, ty1222, ⟨rfl, by decide +kernel, by decide +kernel, by decide +kernel⟩, by decide⟩
theorem h_change {l : Launch} {n : Nat} {d : DS} {Q : Option Value → DS → Prop} {X : String → DS → Prop} (hl : l.stackTraces = false) {a1 a2 a3 a4 : Int32} (hC : CM l mX10_change (n + 60) 5 [.ref 0, .int a1, .int a2, .int a3, .int a4] d Q X) (hQ : ∀ v d, Q v d → ∃ x, v = some (.int x)) (hX : ∀ E d, X E d → E = exn 0 ∨ E = exn 1) : CH l mL_change hL_change (n + 61) 5 [.ref 0, .int a1, .int a2, .int a3, .int a4, .ref 87] d (hpQ kE2 Q X) := by
  refine CH.walk hl (by decide +kernel) (by show 6 ≤ 7; decide) (fun p e R s m args below meth c g ad A cy ht => ?_)
  show WF p l e R s m args below meth c 7 g ad A _ 0 [some (.ref 0), some (.int a1), some (.int a2), some (.int a3), some (.int a4), some (.ref 87), none] [] d 0
  refine yr_aload cy (j := 5) (by decide +kernel) rfl ?_
  refine yr_iconst cy (v := 0) (by decide +kernel) ?_
  refine yr_aload_n cy (j := 0) (by decide +kernel) rfl ?_
  refine yr_iload_n cy (j := 1) (by decide +kernel) rfl ?_
  refine yr_iload_n cy (j := 2) (by decide +kernel) rfl ?_
  refine yr_iload_n cy (j := 3) (by decide +kernel) rfl ?_
  refine yr_iload cy (j := 4) (by decide +kernel) rfl ?_
  refine yr_callV cy (idx := 67) (as := [.int a1, .int a2, .int a3, .int a4]) (rest := [.int 0, .ref 87]) (by decide +kernel) okL_change L0 rfl rfl (by omega) (by omega) (by decide) hC (fun v d1 hq => ?_) (fun E d1 hx => ?_)
  · obtain ⟨x, rfl⟩ := hQ v d1 hq
    refine yr_i2l cy (x := x) (by decide +kernel) ?_
    refine yr_lastore cy (a := 87) (i := 0) (x := x) (by decide +kernel) L87 v01 ?_
    refine yr_goto cy (t := 25) (off := 11) (by decide +kernel) (by decide) ?_
    refine yr_iconst cy (v := 0) (by decide +kernel) ?_
    exact ye_ret cy (x := 0) (ty := .int) (by decide +kernel) rfl rfl (by omega) (Or.inl ⟨x, d1, hq, rfl, rfl⟩)
  · intro H locs la q ce hP hS hl2 h1 h2 h3
    rcases hX E d1 hx with hE | hE
    · refine ycatch (own := RL) (E := E) (nm := exn 0) cy.2.2.2.1 (pre := []) ht (fun y hy => by cases hy) (by decide) (by decide) (cy.2.2.2.2.1 _ kl_18) (by rw [hE]; exact yself cy) h1 h2 h3 ?_
      exact yhand cy (j := 6) (v := 1) hP hS hl2 (by decide +kernel) (by decide) (by decide +kernel) (by decide +kernel) rfl (by omega) (Or.inr ⟨E, hx, by unfold kE2; rw [if_pos hE]; rfl⟩)
    · refine ycatch (own := RL) (E := E) (nm := exn 1) cy.2.2.2.1 (pre := [⟨0, 14, 17, 18⟩]) (r := []) ht (fun y hy => ⟨by rw [List.mem_singleton.mp hy]; decide, exn 0, by rw [List.mem_singleton.mp hy]; exact cy.2.2.2.2.1 _ kl_18, by rw [hE]; exact yno cy⟩) (by decide) (by decide) (cy.2.2.2.2.1 _ kl_13) (by rw [hE]; exact yself cy) h1 h2 h3 ?_
      exact yhand cy (j := 6) (v := 2) hP hS hl2 (by decide +kernel) (by decide) (by decide +kernel) (by decide +kernel) rfl (by omega) (Or.inr ⟨E, hx, by unfold kE2; rw [if_neg (by rw [hE]; decide)]; rfl⟩)
def mL_share : ME := (⟨RL, "share", "(LNamedCoins;III[J)I"⟩, method_21_code, 6, some .int)
def hL_share : List (Nat × Nat × Nat × Nat) := [(0, 12, 15, 18), (0, 12, 19, 13)]
theorem okL_share : okV RL 71 RX10 mX10_share 3 := ⟨ty1231, ty1232, ty1233, ty105, ty1234, ⟨rfl, by decide +kernel, by decide +kernel, by decide +kernel⟩, by decide⟩
theorem h_share {l : Launch} {n : Nat} {d : DS} {Q : Option Value → DS → Prop} {X : String → DS → Prop} (hl : l.stackTraces = false) {a1 a2 a3 : Int32} (hC : CM l mX10_share (n + 60) 4 [.ref 0, .int a1, .int a2, .int a3] d Q X) (hQ : ∀ v d, Q v d → ∃ x, v = some (.int x)) (hX : ∀ E d, X E d → E = exn 0 ∨ E = exn 1) : CH l mL_share hL_share (n + 61) 4 [.ref 0, .int a1, .int a2, .int a3, .ref 87] d (hpQ kE2 Q X) := by
  refine CH.walk hl (by decide +kernel) (by show 5 ≤ 6; decide) (fun p e R s m args below meth c g ad A cy ht => ?_)
  show WF p l e R s m args below meth c 6 g ad A _ 0 [some (.ref 0), some (.int a1), some (.int a2), some (.int a3), some (.ref 87), none] [] d 0
  refine yr_aload cy (j := 4) (by decide +kernel) rfl ?_
  refine yr_iconst cy (v := 0) (by decide +kernel) ?_
  refine yr_aload_n cy (j := 0) (by decide +kernel) rfl ?_
  refine yr_iload_n cy (j := 1) (by decide +kernel) rfl ?_
  refine yr_iload_n cy (j := 2) (by decide +kernel) rfl ?_
  refine yr_iload_n cy (j := 3) (by decide +kernel) rfl ?_
  refine yr_callV cy (idx := 71) (as := [.int a1, .int a2, .int a3]) (rest := [.int 0, .ref 87]) (by decide +kernel) okL_share L0 rfl rfl (by omega) (by omega) (by decide) hC (fun v d1 hq => ?_) (fun E d1 hx => ?_)
  · obtain ⟨x, rfl⟩ := hQ v d1 hq
    refine yr_i2l cy (x := x) (by decide +kernel) ?_
    refine yr_lastore cy (a := 87) (i := 0) (x := x) (by decide +kernel) L87 v01 ?_
    refine yr_goto cy (t := 23) (off := 11) (by decide +kernel) (by decide) ?_
    refine yr_iconst cy (v := 0) (by decide +kernel) ?_
    exact ye_ret cy (x := 0) (ty := .int) (by decide +kernel) rfl rfl (by omega) (Or.inl ⟨x, d1, hq, rfl, rfl⟩)
  · intro H locs la q ce hP hS hl2 h1 h2 h3
    rcases hX E d1 hx with hE | hE
    · refine ycatch (own := RL) (E := E) (nm := exn 0) cy.2.2.2.1 (pre := []) ht (fun y hy => by cases hy) (by decide) (by decide) (cy.2.2.2.2.1 _ kl_18) (by rw [hE]; exact yself cy) h1 h2 h3 ?_
      exact yhand cy (j := 5) (v := 1) hP hS hl2 (by decide +kernel) (by decide) (by decide +kernel) (by decide +kernel) rfl (by omega) (Or.inr ⟨E, hx, by unfold kE2; rw [if_pos hE]; rfl⟩)
    · refine ycatch (own := RL) (E := E) (nm := exn 1) cy.2.2.2.1 (pre := [⟨0, 12, 15, 18⟩]) (r := []) ht (fun y hy => ⟨by rw [List.mem_singleton.mp hy]; decide, exn 0, by rw [List.mem_singleton.mp hy]; exact cy.2.2.2.2.1 _ kl_18, by rw [hE]; exact yno cy⟩) (by decide) (by decide) (cy.2.2.2.2.1 _ kl_13) (by rw [hE]; exact yself cy) h1 h2 h3 ?_
      exact yhand cy (j := 5) (v := 2) hP hS hl2 (by decide +kernel) (by decide) (by decide +kernel) (by decide +kernel) rfl (by omega) (Or.inr ⟨E, hx, by unfold kE2; rw [if_neg (by rw [hE]; decide)]; rfl⟩)
def mL_lacks : ME := (⟨RL, "lacks", "(LNamedCoins;I[J)I"⟩, method_22_code, 4, some .int)
def hL_lacks : List (Nat × Nat × Nat × Nat) := [(0, 9, 12, 18)]
theorem okL_lacks : okV RL 74 RX10 mX10_lacks 1 := ⟨ty1250, ty1251, ty1252, ty105, ty1253, ⟨rfl, by decide +kernel, by decide +kernel, by decide +kernel⟩, by decide⟩
theorem h_lacks {l : Launch} {n : Nat} {d : DS} {Q : Option Value → DS → Prop} {X : String → DS → Prop} (hl : l.stackTraces = false) {a1 : Int32} (hC : CM l mX10_lacks (n + 60) 1 [.ref 0, .int a1] d Q X) (hQ : ∀ v d, Q v d → ∃ x, v = some (.int x)) (hX : ∀ E d, X E d → E = exn 0) : CH l mL_lacks hL_lacks (n + 61) 1 [.ref 0, .int a1, .ref 87] d (hpQ kE1 Q X) := by
  refine CH.walk hl (by decide +kernel) (by show 3 ≤ 4; decide) (fun p e R s m args below meth c g ad A cy ht => ?_)
  show WF p l e R s m args below meth c 4 g ad A _ 0 [some (.ref 0), some (.int a1), some (.ref 87), none] [] d 0
  refine yr_aload_n cy (j := 2) (by decide +kernel) rfl ?_
  refine yr_iconst cy (v := 0) (by decide +kernel) ?_
  refine yr_aload_n cy (j := 0) (by decide +kernel) rfl ?_
  refine yr_iload_n cy (j := 1) (by decide +kernel) rfl ?_
  refine yr_callV cy (idx := 74) (as := [.int a1]) (rest := [.int 0, .ref 87]) (by decide +kernel) okL_lacks L0 rfl rfl (by omega) (by omega) (by decide) hC (fun v d1 hq => ?_) (fun E d1 hx => ?_)
  · obtain ⟨x, rfl⟩ := hQ v d1 hq
    refine yr_i2l cy (x := x) (by decide +kernel) ?_
    refine yr_lastore cy (a := 87) (i := 0) (x := x) (by decide +kernel) L87 v01 ?_
    refine yr_goto cy (t := 15) (off := 6) (by decide +kernel) (by decide) ?_
    refine yr_iconst cy (v := 0) (by decide +kernel) ?_
    exact ye_ret cy (x := 0) (ty := .int) (by decide +kernel) rfl rfl (by omega) (Or.inl ⟨x, d1, hq, rfl, rfl⟩)
  · intro H locs la q ce hP hS hl2 h1 h2 h3
    have hE := hX E d1 hx
    refine ycatch (own := RL) (E := E) (nm := exn 0) cy.2.2.2.1 (pre := []) (r := []) ht (fun y hy => by cases hy) (by decide) (by decide) (cy.2.2.2.2.1 _ kl_18) (by rw [hE]; exact yself cy) h1 h2 h3 ?_
    exact yhand_n cy (j := 3) (v := 1) hP hS hl2 (by decide +kernel) (by decide) (by decide +kernel) (by decide +kernel) rfl (by omega) (Or.inr ⟨E, hx, rfl⟩)
def mL_toName : ME := (⟨RL, "toName", "(LNamedCoins;III[J)I"⟩, method_23_code, 6, some .int)
def hL_toName : List (Nat × Nat × Nat × Nat) := [(0, 12, 15, 18), (0, 12, 19, 13)]
theorem okL_toName : okV RL 77 RX10 mX10_toName 3 := ⟨ty1260, ty1261, ty1262, ty105, ty1263, ⟨rfl, by decide +kernel, by decide +kernel, by decide +kernel⟩, by decide⟩
theorem h_toName {l : Launch} {n : Nat} {d : DS} {Q : Option Value → DS → Prop} {X : String → DS → Prop} (hl : l.stackTraces = false) {a1 a2 a3 : Int32} (hC : CM l mX10_toName (n + 60) 3 [.ref 0, .int a1, .int a2, .int a3] d Q X) (hQ : ∀ v d, Q v d → ∃ x, v = some (.int x)) (hX : ∀ E d, X E d → E = exn 0 ∨ E = exn 1) : CH l mL_toName hL_toName (n + 61) 3 [.ref 0, .int a1, .int a2, .int a3, .ref 87] d (hpQ kE2 Q X) := by
  refine CH.walk hl (by decide +kernel) (by show 5 ≤ 6; decide) (fun p e R s m args below meth c g ad A cy ht => ?_)
  show WF p l e R s m args below meth c 6 g ad A _ 0 [some (.ref 0), some (.int a1), some (.int a2), some (.int a3), some (.ref 87), none] [] d 0
  refine yr_aload cy (j := 4) (by decide +kernel) rfl ?_
  refine yr_iconst cy (v := 0) (by decide +kernel) ?_
  refine yr_aload_n cy (j := 0) (by decide +kernel) rfl ?_
  refine yr_iload_n cy (j := 1) (by decide +kernel) rfl ?_
  refine yr_iload_n cy (j := 2) (by decide +kernel) rfl ?_
  refine yr_iload_n cy (j := 3) (by decide +kernel) rfl ?_
  refine yr_callV cy (idx := 77) (as := [.int a1, .int a2, .int a3]) (rest := [.int 0, .ref 87]) (by decide +kernel) okL_toName L0 rfl rfl (by omega) (by omega) (by decide) hC (fun v d1 hq => ?_) (fun E d1 hx => ?_)
  · obtain ⟨x, rfl⟩ := hQ v d1 hq
    refine yr_i2l cy (x := x) (by decide +kernel) ?_
    refine yr_lastore cy (a := 87) (i := 0) (x := x) (by decide +kernel) L87 v01 ?_
    refine yr_goto cy (t := 23) (off := 11) (by decide +kernel) (by decide) ?_
    refine yr_iconst cy (v := 0) (by decide +kernel) ?_
    exact ye_ret cy (x := 0) (ty := .int) (by decide +kernel) rfl rfl (by omega) (Or.inl ⟨x, d1, hq, rfl, rfl⟩)
  · intro H locs la q ce hP hS hl2 h1 h2 h3
    rcases hX E d1 hx with hE | hE
    · refine ycatch (own := RL) (E := E) (nm := exn 0) cy.2.2.2.1 (pre := []) ht (fun y hy => by cases hy) (by decide) (by decide) (cy.2.2.2.2.1 _ kl_18) (by rw [hE]; exact yself cy) h1 h2 h3 ?_
      exact yhand cy (j := 5) (v := 1) hP hS hl2 (by decide +kernel) (by decide) (by decide +kernel) (by decide +kernel) rfl (by omega) (Or.inr ⟨E, hx, by unfold kE2; rw [if_pos hE]; rfl⟩)
    · refine ycatch (own := RL) (E := E) (nm := exn 1) cy.2.2.2.1 (pre := [⟨0, 12, 15, 18⟩]) (r := []) ht (fun y hy => ⟨by rw [List.mem_singleton.mp hy]; decide, exn 0, by rw [List.mem_singleton.mp hy]; exact cy.2.2.2.2.1 _ kl_18, by rw [hE]; exact yno cy⟩) (by decide) (by decide) (cy.2.2.2.2.1 _ kl_13) (by rw [hE]; exact yself cy) h1 h2 h3 ?_
      exact yhand cy (j := 5) (v := 2) hP hS hl2 (by decide +kernel) (by decide) (by decide +kernel) (by decide +kernel) rfl (by omega) (Or.inr ⟨E, hx, by unfold kE2; rw [if_neg (by rw [hE]; decide)]; rfl⟩)
def mL_see : ME := (⟨RL, "see", "(LNamedCoins;II[J)I"⟩, method_24_code, 5, some .int)
def hL_see : List (Nat × Nat × Nat × Nat) := [(0, 10, 13, 18)]
theorem okL_see : okV RL 80 RX10 mX10_see 2 := ⟨ty1271, ty1272, ty1273, ty105, ty1274, ⟨rfl, by decide +kernel, by decide +kernel, by decide +kernel⟩, by decide⟩
theorem h_see {l : Launch} {n : Nat} {d : DS} {Q : Option Value → DS → Prop} {X : String → DS → Prop} (hl : l.stackTraces = false) {a1 a2 : Int32} (hC : CM l mX10_see (n + 60) 1 [.ref 0, .int a1, .int a2] d Q X) (hQ : ∀ v d, Q v d → ∃ x, v = some (.int x)) (hX : ∀ E d, X E d → E = exn 0) : CH l mL_see hL_see (n + 61) 1 [.ref 0, .int a1, .int a2, .ref 87] d (hpQ kE1 Q X) := by
  refine CH.walk hl (by decide +kernel) (by show 4 ≤ 5; decide) (fun p e R s m args below meth c g ad A cy ht => ?_)
  show WF p l e R s m args below meth c 5 g ad A _ 0 [some (.ref 0), some (.int a1), some (.int a2), some (.ref 87), none] [] d 0
  refine yr_aload_n cy (j := 3) (by decide +kernel) rfl ?_
  refine yr_iconst cy (v := 0) (by decide +kernel) ?_
  refine yr_aload_n cy (j := 0) (by decide +kernel) rfl ?_
  refine yr_iload_n cy (j := 1) (by decide +kernel) rfl ?_
  refine yr_iload_n cy (j := 2) (by decide +kernel) rfl ?_
  refine yr_callV cy (idx := 80) (as := [.int a1, .int a2]) (rest := [.int 0, .ref 87]) (by decide +kernel) okL_see L0 rfl rfl (by omega) (by omega) (by decide) hC (fun v d1 hq => ?_) (fun E d1 hx => ?_)
  · obtain ⟨x, rfl⟩ := hQ v d1 hq
    refine yr_i2l cy (x := x) (by decide +kernel) ?_
    refine yr_lastore cy (a := 87) (i := 0) (x := x) (by decide +kernel) L87 v01 ?_
    refine yr_goto cy (t := 17) (off := 7) (by decide +kernel) (by decide) ?_
    refine yr_iconst cy (v := 0) (by decide +kernel) ?_
    exact ye_ret cy (x := 0) (ty := .int) (by decide +kernel) rfl rfl (by omega) (Or.inl ⟨x, d1, hq, rfl, rfl⟩)
  · intro H locs la q ce hP hS hl2 h1 h2 h3
    have hE := hX E d1 hx
    refine ycatch (own := RL) (E := E) (nm := exn 0) cy.2.2.2.1 (pre := []) (r := []) ht (fun y hy => by cases hy) (by decide) (by decide) (cy.2.2.2.2.1 _ kl_18) (by rw [hE]; exact yself cy) h1 h2 h3 ?_
    exact yhand cy (j := 4) (v := 1) hP hS hl2 (by decide +kernel) (by decide) (by decide +kernel) (by decide +kernel) rfl (by omega) (Or.inr ⟨E, hx, rfl⟩)
def mL_needy : ME := (⟨RL, "needy", "(LNamedCoins;I[J)I"⟩, method_25_code, 4, some .int)
def hL_needy : List (Nat × Nat × Nat × Nat) := [(0, 9, 12, 18)]
theorem okL_needy : okV RL 83 RX10 mX10_needy 1 := ⟨ty1282, ty1283, ty1284, ty105, ty1285, ⟨rfl, by decide +kernel, by decide +kernel, by decide +kernel⟩, by decide⟩
theorem h_needy {l : Launch} {n : Nat} {d : DS} {Q : Option Value → DS → Prop} {X : String → DS → Prop} (hl : l.stackTraces = false) {a1 : Int32} (hC : CM l mX10_needy (n + 60) 1 [.ref 0, .int a1] d Q X) (hQ : ∀ v d, Q v d → ∃ x, v = some (.int x)) (hX : ∀ E d, X E d → E = exn 0) : CH l mL_needy hL_needy (n + 61) 1 [.ref 0, .int a1, .ref 87] d (hpQ kE1 Q X) := by
  refine CH.walk hl (by decide +kernel) (by show 3 ≤ 4; decide) (fun p e R s m args below meth c g ad A cy ht => ?_)
  show WF p l e R s m args below meth c 4 g ad A _ 0 [some (.ref 0), some (.int a1), some (.ref 87), none] [] d 0
  refine yr_aload_n cy (j := 2) (by decide +kernel) rfl ?_
  refine yr_iconst cy (v := 0) (by decide +kernel) ?_
  refine yr_aload_n cy (j := 0) (by decide +kernel) rfl ?_
  refine yr_iload_n cy (j := 1) (by decide +kernel) rfl ?_
  refine yr_callV cy (idx := 83) (as := [.int a1]) (rest := [.int 0, .ref 87]) (by decide +kernel) okL_needy L0 rfl rfl (by omega) (by omega) (by decide) hC (fun v d1 hq => ?_) (fun E d1 hx => ?_)
  · obtain ⟨x, rfl⟩ := hQ v d1 hq
    refine yr_i2l cy (x := x) (by decide +kernel) ?_
    refine yr_lastore cy (a := 87) (i := 0) (x := x) (by decide +kernel) L87 v01 ?_
    refine yr_goto cy (t := 15) (off := 6) (by decide +kernel) (by decide) ?_
    refine yr_iconst cy (v := 0) (by decide +kernel) ?_
    exact ye_ret cy (x := 0) (ty := .int) (by decide +kernel) rfl rfl (by omega) (Or.inl ⟨x, d1, hq, rfl, rfl⟩)
  · intro H locs la q ce hP hS hl2 h1 h2 h3
    have hE := hX E d1 hx
    refine ycatch (own := RL) (E := E) (nm := exn 0) cy.2.2.2.1 (pre := []) (r := []) ht (fun y hy => by cases hy) (by decide) (by decide) (cy.2.2.2.2.1 _ kl_18) (by rw [hE]; exact yself cy) h1 h2 h3 ?_
    exact yhand_n cy (j := 3) (v := 1) hP hS hl2 (by decide +kernel) (by decide) (by decide +kernel) (by decide +kernel) rfl (by omega) (Or.inr ⟨E, hx, rfl⟩)
def mL_look : ME := (⟨RL, "look", "(LNamedCoins;I[J)I"⟩, method_26_code, 4, some .int)
def hL_look : List (Nat × Nat × Nat × Nat) := [(0, 9, 12, 18)]
theorem okL_look : okV RL 86 RX10 mX10_look 1 := ⟨ty1322, ty1323, ty1324, ty105, ty1325, ⟨rfl, by decide +kernel, by decide +kernel, by decide +kernel⟩, by decide⟩
theorem h_look {l : Launch} {n : Nat} {d : DS} {Q : Option Value → DS → Prop} {X : String → DS → Prop} (hl : l.stackTraces = false) {a1 : Int32} (hC : CM l mX10_look (n + 60) 1 [.ref 0, .int a1] d Q X) (hQ : ∀ v d, Q v d → ∃ x, v = some (.int x)) (hX : ∀ E d, X E d → E = exn 0) : CH l mL_look hL_look (n + 61) 1 [.ref 0, .int a1, .ref 87] d (hpQ kE1 Q X) := by
  refine CH.walk hl (by decide +kernel) (by show 3 ≤ 4; decide) (fun p e R s m args below meth c g ad A cy ht => ?_)
  show WF p l e R s m args below meth c 4 g ad A _ 0 [some (.ref 0), some (.int a1), some (.ref 87), none] [] d 0
  refine yr_aload_n cy (j := 2) (by decide +kernel) rfl ?_
  refine yr_iconst cy (v := 0) (by decide +kernel) ?_
  refine yr_aload_n cy (j := 0) (by decide +kernel) rfl ?_
  refine yr_iload_n cy (j := 1) (by decide +kernel) rfl ?_
  refine yr_callV cy (idx := 86) (as := [.int a1]) (rest := [.int 0, .ref 87]) (by decide +kernel) okL_look L0 rfl rfl (by omega) (by omega) (by decide) hC (fun v d1 hq => ?_) (fun E d1 hx => ?_)
  · obtain ⟨x, rfl⟩ := hQ v d1 hq
    refine yr_i2l cy (x := x) (by decide +kernel) ?_
    refine yr_lastore cy (a := 87) (i := 0) (x := x) (by decide +kernel) L87 v01 ?_
    refine yr_goto cy (t := 15) (off := 6) (by decide +kernel) (by decide) ?_
    refine yr_iconst cy (v := 0) (by decide +kernel) ?_
    exact ye_ret cy (x := 0) (ty := .int) (by decide +kernel) rfl rfl (by omega) (Or.inl ⟨x, d1, hq, rfl, rfl⟩)
  · intro H locs la q ce hP hS hl2 h1 h2 h3
    have hE := hX E d1 hx
    refine ycatch (own := RL) (E := E) (nm := exn 0) cy.2.2.2.1 (pre := []) (r := []) ht (fun y hy => by cases hy) (by decide) (by decide) (cy.2.2.2.2.1 _ kl_18) (by rw [hE]; exact yself cy) h1 h2 h3 ?_
    exact yhand_n cy (j := 3) (v := 1) hP hS hl2 (by decide +kernel) (by decide) (by decide +kernel) (by decide +kernel) rfl (by omega) (Or.inr ⟨E, hx, rfl⟩)
def mL_thieves : ME := (⟨RL, "thieves", "(LNamedCoins;III[J)I"⟩, method_27_code, 6, some .int)
def hL_thieves : List (Nat × Nat × Nat × Nat) := [(0, 12, 15, 18), (0, 12, 19, 13)]
theorem okL_thieves : okV RL 89 RX10 mX10_thieves 3 := ⟨ty1344, ty1345, ty1346, ty105, ty1347, ⟨rfl, by decide +kernel, by decide +kernel, by decide +kernel⟩, by decide⟩
theorem h_thieves {l : Launch} {n : Nat} {d : DS} {Q : Option Value → DS → Prop} {X : String → DS → Prop} (hl : l.stackTraces = false) {a1 a2 a3 : Int32} (hC : CM l mX10_thieves (n + 60) 2 [.ref 0, .int a1, .int a2, .int a3] d Q X) (hQ : ∀ v d, Q v d → ∃ x, v = some (.int x)) (hX : ∀ E d, X E d → E = exn 0 ∨ E = exn 1) : CH l mL_thieves hL_thieves (n + 61) 2 [.ref 0, .int a1, .int a2, .int a3, .ref 87] d (hpQ kE2 Q X) := by
  refine CH.walk hl (by decide +kernel) (by show 5 ≤ 6; decide) (fun p e R s m args below meth c g ad A cy ht => ?_)
  show WF p l e R s m args below meth c 6 g ad A _ 0 [some (.ref 0), some (.int a1), some (.int a2), some (.int a3), some (.ref 87), none] [] d 0
  refine yr_aload cy (j := 4) (by decide +kernel) rfl ?_
  refine yr_iconst cy (v := 0) (by decide +kernel) ?_
  refine yr_aload_n cy (j := 0) (by decide +kernel) rfl ?_
  refine yr_iload_n cy (j := 1) (by decide +kernel) rfl ?_
  refine yr_iload_n cy (j := 2) (by decide +kernel) rfl ?_
  refine yr_iload_n cy (j := 3) (by decide +kernel) rfl ?_
  refine yr_callV cy (idx := 89) (as := [.int a1, .int a2, .int a3]) (rest := [.int 0, .ref 87]) (by decide +kernel) okL_thieves L0 rfl rfl (by omega) (by omega) (by decide) hC (fun v d1 hq => ?_) (fun E d1 hx => ?_)
  · obtain ⟨x, rfl⟩ := hQ v d1 hq
    refine yr_i2l cy (x := x) (by decide +kernel) ?_
    refine yr_lastore cy (a := 87) (i := 0) (x := x) (by decide +kernel) L87 v01 ?_
    refine yr_goto cy (t := 23) (off := 11) (by decide +kernel) (by decide) ?_
    refine yr_iconst cy (v := 0) (by decide +kernel) ?_
    exact ye_ret cy (x := 0) (ty := .int) (by decide +kernel) rfl rfl (by omega) (Or.inl ⟨x, d1, hq, rfl, rfl⟩)
  · intro H locs la q ce hP hS hl2 h1 h2 h3
    rcases hX E d1 hx with hE | hE
    · refine ycatch (own := RL) (E := E) (nm := exn 0) cy.2.2.2.1 (pre := []) ht (fun y hy => by cases hy) (by decide) (by decide) (cy.2.2.2.2.1 _ kl_18) (by rw [hE]; exact yself cy) h1 h2 h3 ?_
      exact yhand cy (j := 5) (v := 1) hP hS hl2 (by decide +kernel) (by decide) (by decide +kernel) (by decide +kernel) rfl (by omega) (Or.inr ⟨E, hx, by unfold kE2; rw [if_pos hE]; rfl⟩)
    · refine ycatch (own := RL) (E := E) (nm := exn 1) cy.2.2.2.1 (pre := [⟨0, 12, 15, 18⟩]) (r := []) ht (fun y hy => ⟨by rw [List.mem_singleton.mp hy]; decide, exn 0, by rw [List.mem_singleton.mp hy]; exact cy.2.2.2.2.1 _ kl_18, by rw [hE]; exact yno cy⟩) (by decide) (by decide) (cy.2.2.2.2.1 _ kl_13) (by rw [hE]; exact yself cy) h1 h2 h3 ?_
      exact yhand cy (j := 5) (v := 2) hP hS hl2 (by decide +kernel) (by decide) (by decide +kernel) (by decide +kernel) rfl (by omega) (Or.inr ⟨E, hx, by unfold kE2; rw [if_neg (by rw [hE]; decide)]; rfl⟩)
def mL_game : ME := (⟨RL, "game", "(LNamedCoins;III[J)I"⟩, method_28_code, 6, some .int)
def hL_game : List (Nat × Nat × Nat × Nat) := [(0, 12, 15, 18), (0, 12, 19, 13)]
theorem okL_game : okV RL 92 RX10 mX10_game 3 := ⟨ty1371, ty1372, ty1373, ty105, ty1374, ⟨rfl, by decide +kernel, by decide +kernel, by decide +kernel⟩, by decide⟩
theorem h_game {l : Launch} {n : Nat} {d : DS} {Q : Option Value → DS → Prop} {X : String → DS → Prop} (hl : l.stackTraces = false) {a1 a2 a3 : Int32} (hC : CM l mX10_game (n + 60) 4 [.ref 0, .int a1, .int a2, .int a3] d Q X) (hQ : ∀ v d, Q v d → ∃ x, v = some (.int x)) (hX : ∀ E d, X E d → E = exn 0 ∨ E = exn 1) : CH l mL_game hL_game (n + 61) 4 [.ref 0, .int a1, .int a2, .int a3, .ref 87] d (hpQ kE2 Q X) := by
  refine CH.walk hl (by decide +kernel) (by show 5 ≤ 6; decide) (fun p e R s m args below meth c g ad A cy ht => ?_)
  show WF p l e R s m args below meth c 6 g ad A _ 0 [some (.ref 0), some (.int a1), some (.int a2), some (.int a3), some (.ref 87), none] [] d 0
  refine yr_aload cy (j := 4) (by decide +kernel) rfl ?_
  refine yr_iconst cy (v := 0) (by decide +kernel) ?_
  refine yr_aload_n cy (j := 0) (by decide +kernel) rfl ?_
  refine yr_iload_n cy (j := 1) (by decide +kernel) rfl ?_
  refine yr_iload_n cy (j := 2) (by decide +kernel) rfl ?_
  refine yr_iload_n cy (j := 3) (by decide +kernel) rfl ?_
  refine yr_callV cy (idx := 92) (as := [.int a1, .int a2, .int a3]) (rest := [.int 0, .ref 87]) (by decide +kernel) okL_game L0 rfl rfl (by omega) (by omega) (by decide) hC (fun v d1 hq => ?_) (fun E d1 hx => ?_)
  · obtain ⟨x, rfl⟩ := hQ v d1 hq
    refine yr_i2l cy (x := x) (by decide +kernel) ?_
    refine yr_lastore cy (a := 87) (i := 0) (x := x) (by decide +kernel) L87 v01 ?_
    refine yr_goto cy (t := 23) (off := 11) (by decide +kernel) (by decide) ?_
    refine yr_iconst cy (v := 0) (by decide +kernel) ?_
    exact ye_ret cy (x := 0) (ty := .int) (by decide +kernel) rfl rfl (by omega) (Or.inl ⟨x, d1, hq, rfl, rfl⟩)
  · intro H locs la q ce hP hS hl2 h1 h2 h3
    rcases hX E d1 hx with hE | hE
    · refine ycatch (own := RL) (E := E) (nm := exn 0) cy.2.2.2.1 (pre := []) ht (fun y hy => by cases hy) (by decide) (by decide) (cy.2.2.2.2.1 _ kl_18) (by rw [hE]; exact yself cy) h1 h2 h3 ?_
      exact yhand cy (j := 5) (v := 1) hP hS hl2 (by decide +kernel) (by decide) (by decide +kernel) (by decide +kernel) rfl (by omega) (Or.inr ⟨E, hx, by unfold kE2; rw [if_pos hE]; rfl⟩)
    · refine ycatch (own := RL) (E := E) (nm := exn 1) cy.2.2.2.1 (pre := [⟨0, 12, 15, 18⟩]) (r := []) ht (fun y hy => ⟨by rw [List.mem_singleton.mp hy]; decide, exn 0, by rw [List.mem_singleton.mp hy]; exact cy.2.2.2.2.1 _ kl_18, by rw [hE]; exact yno cy⟩) (by decide) (by decide) (cy.2.2.2.2.1 _ kl_13) (by rw [hE]; exact yself cy) h1 h2 h3 ?_
      exact yhand cy (j := 5) (v := 2) hP hS hl2 (by decide +kernel) (by decide) (by decide +kernel) (by decide +kernel) rfl (by omega) (Or.inr ⟨E, hx, by unfold kE2; rw [if_neg (by rw [hE]; decide)]; rfl⟩)
def mL_ages : ME := (⟨RL, "ages", "(LNamedCoins;III[J)I"⟩, method_29_code, 6, some .int)
def hL_ages : List (Nat × Nat × Nat × Nat) := [(0, 12, 15, 18), (0, 12, 19, 13)]
theorem okL_ages : okV RL 95 RX10 mX10_ages 3 := ⟨ty1401, ty1402, ty1403, ty105, ty1404, ⟨rfl, by decide +kernel, by decide +kernel, by decide +kernel⟩, by decide⟩
theorem h_ages {l : Launch} {n : Nat} {d : DS} {Q : Option Value → DS → Prop} {X : String → DS → Prop} (hl : l.stackTraces = false) {a1 a2 a3 : Int32} (hC : CM l mX10_ages (n + 60) 2 [.ref 0, .int a1, .int a2, .int a3] d Q X) (hQ : ∀ v d, Q v d → ∃ x, v = some (.int x)) (hX : ∀ E d, X E d → E = exn 0 ∨ E = exn 1) : CH l mL_ages hL_ages (n + 61) 2 [.ref 0, .int a1, .int a2, .int a3, .ref 87] d (hpQ kE2 Q X) := by
  refine CH.walk hl (by decide +kernel) (by show 5 ≤ 6; decide) (fun p e R s m args below meth c g ad A cy ht => ?_)
  show WF p l e R s m args below meth c 6 g ad A _ 0 [some (.ref 0), some (.int a1), some (.int a2), some (.int a3), some (.ref 87), none] [] d 0
  refine yr_aload cy (j := 4) (by decide +kernel) rfl ?_
  refine yr_iconst cy (v := 0) (by decide +kernel) ?_
  refine yr_aload_n cy (j := 0) (by decide +kernel) rfl ?_
  refine yr_iload_n cy (j := 1) (by decide +kernel) rfl ?_
  refine yr_iload_n cy (j := 2) (by decide +kernel) rfl ?_
  refine yr_iload_n cy (j := 3) (by decide +kernel) rfl ?_
  refine yr_callV cy (idx := 95) (as := [.int a1, .int a2, .int a3]) (rest := [.int 0, .ref 87]) (by decide +kernel) okL_ages L0 rfl rfl (by omega) (by omega) (by decide) hC (fun v d1 hq => ?_) (fun E d1 hx => ?_)
  · obtain ⟨x, rfl⟩ := hQ v d1 hq
    refine yr_i2l cy (x := x) (by decide +kernel) ?_
    refine yr_lastore cy (a := 87) (i := 0) (x := x) (by decide +kernel) L87 v01 ?_
    refine yr_goto cy (t := 23) (off := 11) (by decide +kernel) (by decide) ?_
    refine yr_iconst cy (v := 0) (by decide +kernel) ?_
    exact ye_ret cy (x := 0) (ty := .int) (by decide +kernel) rfl rfl (by omega) (Or.inl ⟨x, d1, hq, rfl, rfl⟩)
  · intro H locs la q ce hP hS hl2 h1 h2 h3
    rcases hX E d1 hx with hE | hE
    · refine ycatch (own := RL) (E := E) (nm := exn 0) cy.2.2.2.1 (pre := []) ht (fun y hy => by cases hy) (by decide) (by decide) (cy.2.2.2.2.1 _ kl_18) (by rw [hE]; exact yself cy) h1 h2 h3 ?_
      exact yhand cy (j := 5) (v := 1) hP hS hl2 (by decide +kernel) (by decide) (by decide +kernel) (by decide +kernel) rfl (by omega) (Or.inr ⟨E, hx, by unfold kE2; rw [if_pos hE]; rfl⟩)
    · refine ycatch (own := RL) (E := E) (nm := exn 1) cy.2.2.2.1 (pre := [⟨0, 12, 15, 18⟩]) (r := []) ht (fun y hy => ⟨by rw [List.mem_singleton.mp hy]; decide, exn 0, by rw [List.mem_singleton.mp hy]; exact cy.2.2.2.2.1 _ kl_18, by rw [hE]; exact yno cy⟩) (by decide) (by decide) (cy.2.2.2.2.1 _ kl_13) (by rw [hE]; exact yself cy) h1 h2 h3 ?_
      exact yhand cy (j := 5) (v := 2) hP hS hl2 (by decide +kernel) (by decide) (by decide +kernel) (by decide +kernel) rfl (by omega) (Or.inr ⟨E, hx, by unfold kE2; rw [if_neg (by rw [hE]; decide)]; rfl⟩)
