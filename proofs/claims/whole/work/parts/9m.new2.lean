/-! CONSTRUCTORS: walks, calls, strings, the JDK's fill -/
theorem nwC.walk {l : Launch} {me : ME} {n k z : Nat} {g : GG} {ad : Nat → Nat} {as : List Value} {wc : va_W} {B : va_W → Prop} (hy : plainName me.1.cls = true) (hret : me.2.2.2 = none) (hlen : (eloc as).length ≤ me.2.2.1)
    (body : ∀ (p : Program) (e : Env) (s : State) (m : MethodId) (args : Array Value) (below : List Frame) (meth : Method) (c : Code) (A : Nat → Prop) (Z : State → Prop), nwX p l e (nwR n k z) s m args meth c me.1.cls me.2.1 me.2.2.1 n none g ad A → meth.name = me.1.name →
      (∀ (pc : Nat) (ls : ALs) (w : va_W) (u z' : Nat), decode me.2.1 pc = .ok (.return_, 1) → B w → u ≤ k → z' ≤ z → nwW p l e (nwR n k z) s m args below meth c me.2.2.1 g A Z pc ls [] w u z') →
      nwW p l e (nwR n k z) s m args below meth c me.2.2.1 g A Z 0 (eloc as ++ List.replicate (me.2.2.1 - (eloc as).length) none) [] wc 0 0) : nwC l me n k z g ad as wc B := by
  intro sz
  refine Met.ofW (cc := me.2.1) (maxL := me.2.2.1) (ret := me.2.2.2) hy rfl ?_
  intro p e s m args below meth c s₁ BL hml hv
  obtain ⟨rfl, hsz, hP, hG, hN, hD0⟩ := hv
  subst hsz
  have hts := atoms_spec (ws := wsM me) BL.pre
  have hD := hD0.self (sz := s.heap.size)
  have hr : meth.sig.returnType = none := BL.returns.trans hret
  have hlk := BL.notSynchronized
  have cx : nwX p l e (nwR n k z) s m as.toArray meth c me.1.cls me.2.1 me.2.2.1 n none g ad (va_A wc s.heap.size) :=
    ⟨BL.exec, BL.bytes, hml, findClass_of_methodNamed BL.named, fun w hw => hts w (List.mem_cons_of_mem _ hw), hr, hlk, ⟨Nat.le_refl _, Nat.le_refl _⟩, hG, hN, fun q h => Or.inr h⟩
  have em : as.map (cv id) = as := by
    rw [show cv id = id from funext cv_id, List.map_id]
  have hl0 := lv_entry (as.map (cv id)) (n := me.2.2.1) (by rw [sl_len]; exact hlen)
  have hl1 := lvh_mono (l' := lof id 0 (eloc as ++ List.replicate (me.2.2.1 - (eloc as).length) none)) hl0 (fun q hq => eloc_args hq)
  rw [em] at hl1
  rw [lg_entry_eq]
  refine body p e s m _ below meth c _ _ cx (name_of_methodNamed BL.named BL.method).1 (fun pc ls w u z' hd hB hu hz => ?_) s.heap [] _ hP hD va_S.rf hl1
  intro H locs la hP hD hS hl
  refine W.widen (k := k) (n := z) hu hz ?_
  exact W.vret BL.exec BL.bytes hr (fun t ht hW => ⟨⟨w, rfl, hB, by rw [ht]; exact hP, hD⟩, hS.F ht⟩) hS.2.2 hd hlk
def okI (own : String) (idx : Nat) (me : ME) (na : Nat) : Prop :=
  Cond.methodLink own idx me.1 ∈ gw ∧ Cond.initialized me.1.cls ∈ gw ∧ Cond.instanceMethod me.1 ∈ gw ∧ Cond.code me.1 me.2.1 me.2.2.1 me.2.2.2 ∈ gw ∧ me.2.2.2 = none ∧ me.1.name = "<init>" ∧
  (me.1.cls ≠ "java/lang/invoke/MethodHandle" ∧ me.1.cls ≠ "java/lang/invoke/VarHandle" ∧ (parseMethodDescriptor me.1.desc).map (fun d => d.parameters.length) = some na) ∧ me.2.2.1 ≤ 150
/-- a private constructor of the nest -/
def okN (own : String) (idx : Nat) (me : ME) (na : Nat) : Prop :=
  (∃ host, Cond.methodLinkNest own idx me.1 host ∈ nests) ∧ Cond.initialized me.1.cls ∈ gw ∧ Cond.instanceMethod me.1 ∈ gw ∧ Cond.code me.1 me.2.1 me.2.2.1 me.2.2.2 ∈ gw ∧ me.2.2.2 = none ∧ me.1.name = "<init>" ∧
  (me.1.cls ≠ "java/lang/invoke/MethodHandle" ∧ me.1.cls ≠ "java/lang/invoke/VarHandle" ∧ (parseMethodDescriptor me.1.desc).map (fun d => d.parameters.length) = some na) ∧ me.2.2.1 ≤ 150
theorem map_some {α : Type} {is : List Nat} {f : Nat → Option α} {w : List α} (h : is.map f = w.map some) : is.filterMap f = w := by
  have h2 := congrArg (List.filterMap id) h
  simpa [List.filterMap_map, Function.comp_def] using h2
section New2
variable {p : Program} {l : Launch} {e : Env} {R : Room} {s : State} {m : MethodId} {args : Array Value} {below : List Frame} {meth : Method} {c : Code} {own : String} {cc : ByteArray} {nL n : Nat} {ret : Option FieldType} {g : GG} {ad : Nat → Nat} {A : Nat → Prop} {Z : State → Prop} {pc : Nat} {ls : ALs} {st : List Value} {ws : va_W} {u z : Nat}
theorem nw_pre (cx : nwX p l e R s m args meth c own cc nL n ret g ad A) {H : Heap} {locs : List Loc} {as : List Value} {wc : va_W} {isC : List Nat} (hP : va_P g.1 vwCl ws H) (hD : va_D A ws) (hS : va_S A s.heap H locs) (hnC : va_nd isC = true) (hCs : isC.map (fun i => ws[i]?) = wc.map some) :
    PreS s H (nwP g ad as wc H.size) as ∧ ∀ q, va_A wc H.size q → A q := by
  obtain ⟨hx, hb, hml, hown, hts, hr, hlk, ⟨hR1, hR2⟩, hG, hN, hA⟩ := cx
  have hPc : va_P g.1 vwCl wc H := hP.sub (ws' := wc) isC (map_some hCs)
  have hDc := hD.sub (ws' := wc) isC hnC hCs
  have hFc := va_free (wc := wc) hD hS hA isC hCs
  exact ⟨⟨nwP_blind, fun U hU hW => ⟨rfl, by rw [hU], by rw [hU]; exact hPc, by rw [hU]; exact GI.to hG hW hFc hS.2.1, NW.warm hW hN, hDc.weaken (fun _ _ _ _ => trivial)⟩⟩, hFc⟩
theorem nw_good {me : ME} (h3 : Cond.code me.1 me.2.1 me.2.2.1 me.2.2.2 ∈ gw) : GoodIn gw (wsM me) := goodGw (fun w hw => by
  rcases List.mem_cons.mp hw with rfl | hw
  · exact h3
  · exact hw)
set_option maxRecDepth 100000 in
set_option maxHeartbeats 4000000 in
theorem n_init (cx : nwX p l e R s m args meth c own cc nL n ret g ad A) {idx na n' k' z' b : Nat} {me : ME} {as rest : List Value} {wc wr : va_W} {B : va_W → Prop} (isC isR : List Nat) (hd : decode cc pc = .ok (.invokespecial idx, 3)) (hk : okI own idx me na) (hna : as.length = na) (hn : n' < n) (hu : u + k' ≤ R.cells) (hz : z + z' ≤ R.slots) (hcat : (rest.map fun v => v.category).sum ≤ 8) (hC : nwC l me n' k' z' g ad (.ref b :: as) wc B)
    (hCs : isC.map (fun i => ws[i]?) = wc.map some) (hRs : isR.map (fun i => ws[i]?) = wr.map some) (hnC : va_nd isC = true) (hnR : va_nd isR = true) (hdis : ∀ i ∈ isR, i ∉ isC)
    (h : ∀ w, B w → nwW p l e R s m args below meth c nL g A Z (pc + 3) ls rest (wr ++ w) (u + k') (z + z')) : nwW p l e R s m args below meth c nL g A Z pc ls (as.reverse ++ .ref b :: rest) ws u z := by
  intro H locs la hP hD hS hl
  obtain ⟨hp, hFc⟩ := nw_pre (as := .ref b :: as) cx hP hD hS hnC hCs
  obtain ⟨hx, hb, hml, hown, hts, hr, hlk, ⟨hR1, hR2⟩, hG, hN, hA⟩ := cx
  obtain ⟨k1, k2, k3, k4, k5, k6, k7, k8⟩ := hk
  have cb : CallB R s args own idx me.1 me.2.1 me.2.2.1 none (wsM me) (nwR n' k' z') k' z' na := callB_of na hts (nw_good k4) (by unfold wsM; rw [k5]) rfl rfl (hts _ k2) (hts _ k1) k7 ⟨by show n' + 1 ≤ R.frames; omega, by show 8 + (me.2.2.1 + 11) + 200 * n' ≤ R.locals; omega⟩
  refine va_callv (va_runI (As := as) (rest := rest) (nL := nL) ⟨hx, hb, hml, hown, hts⟩ (hC H.size) ⟨cb, k6, hts _ k3⟩ hp rfl hna hl.1 rfl (by show 2 * 0 + _ ≤ 8; omega) hd ⟨hu, hz⟩) hS (fun q _ h => hFc q h) hFc (fun w t H1 locs ht hvm hB hBt hz1 hk1 hS => ?_)
  obtain ⟨hP1, hD1⟩ := hBt
  rw [ht] at hP1
  obtain ⟨hP', hD'⟩ := va_join (wr := wr) (w1 := w) hP hD isC isR hCs hRs hnR hdis hk1 hFc hP1 hD1
  exact h w hB H1 locs la hP' hD' hS hl
set_option maxRecDepth 100000 in
set_option maxHeartbeats 4000000 in
theorem n_initN (cx : nwX p l e R s m args meth c own cc nL n ret g ad A) {idx na n' k' z' b : Nat} {me : ME} {as rest : List Value} {wc wr : va_W} {B : va_W → Prop} (isC isR : List Nat) (hd : decode cc pc = .ok (.invokespecial idx, 3)) (hk : okN own idx me na) (hna : as.length = na) (hn : n' < n) (hu : u + k' ≤ R.cells) (hz : z + z' ≤ R.slots) (hcat : (rest.map fun v => v.category).sum ≤ 8) (hC : nwC l me n' k' z' g ad (.ref b :: as) wc B)
    (hCs : isC.map (fun i => ws[i]?) = wc.map some) (hRs : isR.map (fun i => ws[i]?) = wr.map some) (hnC : va_nd isC = true) (hnR : va_nd isR = true) (hdis : ∀ i ∈ isR, i ∉ isC)
    (h : ∀ w, B w → nwW p l e R s m args below meth c nL g A Z (pc + 3) ls rest (wr ++ w) (u + k') (z + z')) : nwW p l e R s m args below meth c nL g A Z pc ls (as.reverse ++ .ref b :: rest) ws u z := by
  intro H locs la hP hD hS hl
  obtain ⟨hp, hFc⟩ := nw_pre (as := .ref b :: as) cx hP hD hS hnC hCs
  obtain ⟨hx, hb, hml, hown, hts, hr, hlk, ⟨hR1, hR2⟩, hG, hN, hA⟩ := cx
  obtain ⟨⟨host, k1⟩, k2, k3, k4, k5, k6, k7, k8⟩ := hk
  have cb : va_CN R s args own idx me.1 host me.2.1 me.2.2.1 none (wsM me) (nwR n' k' z') k' z' na := va_cnB na hts (nw_good k4) (by unfold wsM; rw [k5]) rfl rfl (hN.1 _ k1) (hts _ k2) k7 ⟨by show n' + 1 ≤ R.frames; omega, by show 8 + (me.2.2.1 + 11) + 200 * n' ≤ R.locals; omega⟩
  refine va_callv (va_runIN (As := as) (rest := rest) (nL := nL) ⟨hx, hb, hml, hown, hts⟩ (hC H.size) ⟨cb, k6, hts _ k3⟩ hp rfl hna hl.1 rfl (by show 2 * 0 + _ ≤ 8; omega) hd ⟨hu, hz⟩) hS (fun q _ h => hFc q h) hFc (fun w t H1 locs ht hvm hB hBt hz1 hk1 hS => ?_)
  obtain ⟨hP1, hD1⟩ := hBt
  rw [ht] at hP1
  obtain ⟨hP', hD'⟩ := va_join (wr := wr) (w1 := w) hP hD isC isR hCs hRs hnR hdis hk1 hFc hP1 hD1
  exact h w hB H1 locs la hP' hD' hS hl
set_option maxRecDepth 100000 in
set_option maxHeartbeats 4000000 in
theorem n_callS (cx : nwX p l e R s m args meth c own cc nL n ret g ad A) {idx na n' k' z' : Nat} {me : ME} {as rest : List Value} {wc wr : va_W} {B : va_W → Prop} (isC isR : List Nat) (hd : decode cc pc = .ok (.invokestatic idx, 3)) (hk : okS own idx me na) (hna : as.length = na) (hn : n' < n) (hu : u + k' ≤ R.cells) (hz : z + z' ≤ R.slots) (hcat : (rest.map fun v => v.category).sum ≤ 8) (hC : nwC l me n' k' z' g ad as wc B)
    (hCs : isC.map (fun i => ws[i]?) = wc.map some) (hRs : isR.map (fun i => ws[i]?) = wr.map some) (hnC : va_nd isC = true) (hnR : va_nd isR = true) (hdis : ∀ i ∈ isR, i ∉ isC)
    (h : ∀ w, B w → nwW p l e R s m args below meth c nL g A Z (pc + 3) ls rest (wr ++ w) (u + k') (z + z')) : nwW p l e R s m args below meth c nL g A Z pc ls (as.reverse ++ rest) ws u z := by
  intro H locs la hP hD hS hl
  obtain ⟨hp, hFc⟩ := nw_pre (as := as) cx hP hD hS hnC hCs
  obtain ⟨hx, hb, hml, hown, hts, hr, hlk, ⟨hR1, hR2⟩, hG, hN, hA⟩ := cx
  obtain ⟨k1, k2, k3, k4, k5, k6⟩ := hk
  have cb : CallB R s args own idx me.1 me.2.1 me.2.2.1 me.2.2.2 (wsM me) (nwR n' k' z') k' z' na := callB_of na hts (nw_good k4) rfl rfl rfl (hts _ k3) (hts _ k1) k5 ⟨by show n' + 1 ≤ R.frames; omega, by show 8 + (me.2.2.1 + 11) + 200 * n' ≤ R.locals; omega⟩
  refine va_callv (va_runS (As := as) (rest := rest) (nL := nL) ⟨hx, hb, hml, hown, hts⟩ (hC H.size) ⟨cb, hts _ k2⟩ hp rfl hna hl.1 rfl (by show 2 * 0 + _ ≤ 8; omega) hd ⟨hu, hz⟩) hS (fun q _ h => hFc q h) hFc (fun w t H1 locs ht hvm hB hBt hz1 hk1 hS => ?_)
  obtain ⟨hP1, hD1⟩ := hBt
  rw [ht] at hP1
  obtain ⟨hP', hD'⟩ := va_join (wr := wr) (w1 := w) hP hD isC isR hCs hRs hnR hdis hk1 hFc hP1 hD1
  exact h w hB H1 locs la hP' hD' hS hl
set_option maxRecDepth 100000 in
set_option maxHeartbeats 4000000 in
theorem n_aast (cx : nwX p l e R s m args meth c own cc nL n ret g ad A) {a q0 N j : Nat} {f : Nat → Option Nat} {i : Int32} (hd : decode cc pc = .ok (.aastore, 1)) (he : ws[q0]? = some (a, .inl (g.2.2.2.2.1, N, .inr (.inr (.inr (.inr f)))))) (hin : vp_in i N) (hj : j < 28)
    (h : nwW p l e R s m args below meth c nL g A Z (pc + 1) ls st (ws.set q0 (a, .inl (g.2.2.2.2.1, N, .inr (.inr (.inr (.inr (va_up f i.toNatClampNeg (some (ad (1000 + j)))))))))) u z) : nwW p l e R s m args below meth c nL g A Z pc ls (.ref (ad (1000 + j)) :: .int i :: .ref a :: st) ws u z := by
  intro H locs la hP hD hS hl
  obtain ⟨hx, hb, hml, hown, hts, hr, hlk, ⟨hR1, hR2⟩, hG, hN, hA⟩ := cx
  obtain ⟨cell, h1, h2, h3⟩ := vk_recv (hG.2.2.1 j hj) (Nat.zero_lt_one) hS
  obtain ⟨kC, hkC, -⟩ := Vm.findClass_spec h3
  exact va_astqM (D := g.1) (cl := vwCl) (E := "java/lang/String") hx hb hG.1 hP hD hS q0 3 he rfl ⟨cell, h1, h2, ⟨kC, hkC⟩, fun comp hc => by rw [h3] at hc; cases hc; exact va_asg _ _⟩ hin hd (fun H1 locs1 hP hD hS => h H1 locs1 la hP hD hS hl)
set_option maxRecDepth 100000 in
set_option maxHeartbeats 4000000 in
theorem n_same {a q0 : Nat} {cA : ClassId} {x x' : vp_A} (he : ws[q0]? = some (a, .inl (cA, x))) (hc : vp_cell cA x = vp_cell cA x') (h : nwW p l e R s m args below meth c nL g A Z pc ls st (ws.set q0 (a, .inl (cA, x'))) u z) : nwW p l e R s m args below meth c nL g A Z pc ls st ws u z := by
  intro H locs la hP hD hS hl
  refine h H locs la (hP.set hD he ?_ (fun _ _ => rfl)) (hD.set he) hS hl
  show H[a]? = some (vp_cell cA x')
  rw [← hc]
  exact hP q0 _ he
end New2
