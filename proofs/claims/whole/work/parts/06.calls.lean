/-! RETURNS AND CALLS -/
/-- q is thrown over the frame at pc -/
def VX (p : Program) (l : Launch) (e : Env) (R : Room) (s : State) (m : MethodId) (args : Array Value) (below : List Frame) (meth : Method) (c : Code) (nL : Nat) (g : GG) (ad : Nat → Nat) (A : Nat → Prop) (Z : State → Prop) (pc : Nat) (ls : ALs) (st : List Value) (d : DS) (u : Nat) (E : String) : Prop :=
  ∀ (H : Heap) (locs : List Loc) (la : Array Slot) (q : Nat) (ce : Cell), va_P g.1 vwCl (wld g ad d) H → va_S A s.heap H locs → lv_has la nL (lof ad 0 ls) → H[q]? = some ce → ce.vm = .none → s.vm.findClass E = some ce.cls → vx_W p l e R s m args below meth c H locs u (8 * u) Z (F0 m pc la (st.map (cv ad))) q
/-- the words of a call by name of an object's method -/
def okV (own : String) (idx : Nat) (C : String) (me : ME) (na : Nat) : Prop :=
  Cond.methodLink own idx me.1 ∈ gw ∧ Cond.instanceMethod me.1 ∈ gw ∧ Cond.selects C me.1 me.1 ∈ gw ∧ Cond.initialized C ∈ gw ∧ Cond.code me.1 me.2.1 me.2.2.1 me.2.2.2 ∈ gw ∧
  (me.1.cls = C ∧ me.1.cls ≠ "java/lang/invoke/MethodHandle" ∧ me.1.cls ≠ "java/lang/invoke/VarHandle" ∧ (parseMethodDescriptor me.1.desc).map (fun d => d.parameters.length) = some na) ∧ me.2.2.1 ≤ 150
def okS (own : String) (idx : Nat) (me : ME) (na : Nat) : Prop :=
  Cond.methodLink own idx me.1 ∈ gw ∧ Cond.static me.1 ∈ gw ∧ Cond.initialized me.1.cls ∈ gw ∧ Cond.code me.1 me.2.1 me.2.2.1 me.2.2.2 ∈ gw ∧
  (me.1.cls ≠ "java/lang/invoke/MethodHandle" ∧ me.1.cls ≠ "java/lang/invoke/VarHandle" ∧ (parseMethodDescriptor me.1.desc).map (fun d => d.parameters.length) = some na) ∧ me.2.2.1 ≤ 150
theorem PM_blind {g : GG} {ad : Nat → Nat} {as : List Value} {d : DS} {sz : Nat} : FrameBlind (PM g ad as d sz) := fun a U g' mk q => by
  obtain ⟨q0, q1, qP, qK, qD⟩ := q
  exact ⟨q0, q1, qP, GI.same qK rfl, qD⟩
theorem cat_map (ad : Nat → Nat) (st : List Value) : ((st.map (cv ad)).map fun v => v.category).sum = (st.map fun v => v.category).sum := by
  rw [List.map_map]
  congr 1
  apply List.map_congr_left
  intro v _
  exact cv_cat ad v
section Rules3
variable {p : Program} {l : Launch} {e : Env} {R : Room} {s : State} {m : MethodId} {args : Array Value} {below : List Frame} {meth : Method} {c : Code} {own : String} {cc : ByteArray} {nL n k : Nat} {ret : Option FieldType} {g : GG} {ad : Nat → Nat} {A : Nat → Prop} {Z : State → Prop} {pc : Nat} {ls : ALs} {st : List Value} {d : DS} {u : Nat} {Q : Option Value → DS → Prop} {X : String → DS → Prop}
theorem e_ret (cx : Cx p l e R s m args meth c own cc nL n k ret g ad A) {ty : FieldType} {x : Int32} (hd : decode cc pc = .ok (.ireturn, 1)) (ht : ret = some ty) (hn : narrow ty (.int x) = .int x) (hu : u ≤ k) (hq : Q (some (.int x)) d) :
    WF p l e R s m args below meth c nL g ad A (vx_MQ below (QM g ad A Q) (XM g ad A X) args s k (8 * k) A) pc ls [.int x] d u := by
  intro H locs la hP hS hl
  obtain ⟨hx, hb, hml, hown, hts, hr, hlk, hex, hR, hG, hD, hA, hst⟩ := cx
  refine W.widen (k := k) (n := 8 * k) hu (by omega) (vx_ret ?_)
  exact W.zret hx hb (hr.trans ht) hn (fun t ht hW => ⟨⟨some (.int x), d, rfl, hq, by rw [ht]; exact hP⟩, hS.F ht⟩) hS.2.2 hd hlk
theorem e_vret (cx : Cx p l e R s m args meth c own cc nL n k ret g ad A) (hd : decode cc pc = .ok (.return_, 1)) (ht : ret = none) (hu : u ≤ k) (hq : Q none d) :
    WF p l e R s m args below meth c nL g ad A (vx_MQ below (QM g ad A Q) (XM g ad A X) args s k (8 * k) A) pc ls [] d u := by
  intro H locs la hP hS hl
  obtain ⟨hx, hb, hml, hown, hts, hr, hlk, hex, hR, hG, hD, hA, hst⟩ := cx
  refine W.widen (k := k) (n := 8 * k) hu (by omega) (vx_ret ?_)
  exact W.vret hx hb (hr.trans ht) (fun t ht hW => ⟨⟨none, d, rfl, hq, by rw [ht]; exact hP⟩, hS.F ht⟩) hS.2.2 hd hlk
theorem e_out (cx : Cx p l e R s m args meth c own cc nL n k ret g ad A) {E : String} (hu : u ≤ k) (hx : X E d) :
    VX p l e R s m args below meth c nL g ad A (vx_MQ below (QM g ad A Q) (XM g ad A X) args s k (8 * k) A) pc ls st d u E := by
  intro H locs la q ce hP hS hl h1 h2 h3
  obtain ⟨_, hb, hml, hown, hts, hr, hlk, hex, hR, hG, hD, hA, hst⟩ := cx
  exact vx_out (fun z hz => (hex z hz).elim) hlk h1 h2 h3 (fun t ht _ => ⟨⟨d, hx, by rw [ht]; exact hP⟩, hS.F ht⟩) hS.2.2 hu (by omega)
theorem A_sub {H : Heap} {locs : List Loc} (hD : ∀ d, va_D A (wld g ad d)) (hA : ∀ q, s.heap.size ≤ q → A q) (hS : va_S A s.heap H locs) : ∀ q, va_A (wld g ad d) H.size q → A q := by
  intro q hq
  rcases hq with ⟨j, e, hj⟩ | hq
  · exact (hD d).2 j _ hj
  · exact hA q (Nat.le_trans hS.1 hq)
theorem PM_at (cx : Cx p l e R s m args meth c own cc nL n k ret g ad A) {H : Heap} {locs : List Loc} {as : List Value} (hP : va_P g.1 vwCl (wld g ad d) H) (hS : va_S A s.heap H locs) (U : State) (hU : U.heap = H) (hW : s.WarmedH U.vm) : PM g ad as d H.size (as.map (cv ad)).toArray U := by
  obtain ⟨hx, hb, hml, hown, hts, hr, hlk, hex, hR, hG, hD, hA, hst⟩ := cx
  exact ⟨rfl, by rw [hU], by rw [hU]; exact hP, by rw [hU]; exact GI.to hG hW (A_sub hD hA hS) hS.2.1, (hD d).weaken (fun _ _ _ _ => trivial)⟩
theorem r_after (cx : Cx p l e R s m args meth c own cc nL n k ret g ad A) {H : Heap} {locs : List Loc} {la : Array Slot} {kc : Nat} {rest : List Value} {st0 : List Value} {a : Array Value} {Q' : Option Value → DS → Prop} {X' : String → DS → Prop} (hS : va_S A s.heap H locs) (hl : lv_has la nL (lof ad 0 ls))
    (run : vx_Run p l e R s m args below meth c H locs u (8 * u) kc (8 * kc) (F0 m pc la st0) (rest.map (cv ad)) (QM g ad (va_A (wld g ad d) H.size) Q' a) (XM g ad (va_A (wld g ad d) H.size) X') (va_A (wld g ad d) H.size))
    (h : ∀ v d', Q' v d' → WF p l e R s m args below meth c nL g ad A Z (pc + 3) ls (v.toList ++ rest) d' (u + kc)) (hX : ∀ E d', X' E d' → VX p l e R s m args below meth c nL g ad A Z pc ls rest d' (u + kc) E) : W p l e R s m args below meth c H locs u (8 * u) Z (F0 m pc la st0) := by
  obtain ⟨hx, hb, hml, hown, hts, hr, hlk, hex, hR, hG, hD, hA, hst⟩ := cx
  have hAs := A_sub (d := d) hD hA hS
  intro T hT XX
  rcases run T hT XX with ⟨v, st₀, t, T', L, h0, X1, hL, e1, e2, ⟨⟨v', d', hv, hq, hp'⟩, hF⟩, go⟩ | ⟨q, st₀, t, T', L, E, ce, h0, X1, hL, e1, e2, ⟨⟨d', hx', hp'⟩, hF⟩, hce, hcv, hcl, go⟩
  · have hv : v = v'.map (cv ad) := by injection hv
    subst hv
    obtain ⟨k1, k2, k3⟩ := vx_keep h0 e1 hS (fun q _ h => hAs q h) hAs hL hF
    have e8 : 8 * u + 8 * kc = 8 * (u + kc) := by omega
    rw [e8] at X1
    obtain ⟨t2, a1, b1⟩ := h v' d' hq T'.heap (locs ++ L) la (by rw [e1]; exact hp') k3 hl T' rfl X1
    refine ⟨t2, go t2 ?_, b1⟩
    have e9 : (v'.map (cv ad)).toList ++ rest.map (cv ad) = (v'.toList ++ rest).map (cv ad) := by cases v' <;> rfl
    rw [e9]
    exact a1
  · obtain ⟨k1, k2, k3⟩ := vx_keep h0 e1 hS (fun q _ h => hAs q h) hAs hL hF
    have e8 : 8 * u + 8 * kc = 8 * (u + kc) := by omega
    rw [e8] at X1
    obtain ⟨t2, a1, b1⟩ := hX E d' hx' T'.heap (locs ++ L) la q ce (by rw [e1]; exact hp') k3 hl (by rw [e1]; exact hce) hcv hcl T' rfl X1
    exact ⟨t2, go.trans a1, b1⟩
theorem goodGw {ws : List Cond} (h : ∀ w ∈ ws, w ∈ gw) : GoodIn gw ws := fun w hw => ⟨h w hw, good_of_word (gw_good (h w hw))⟩
theorem cb_of (cx : Cx p l e R s m args meth c own cc nL n k ret g ad A) {idx na kc n' : Nat} {me : ME} (h1 : Cond.methodLink own idx me.1 ∈ gw) (h2 : Cond.initialized me.1.cls ∈ gw) (h3 : Cond.code me.1 me.2.1 me.2.2.1 me.2.2.2 ∈ gw)
    (hd : me.1.cls ≠ "java/lang/invoke/MethodHandle" ∧ me.1.cls ≠ "java/lang/invoke/VarHandle" ∧ (parseMethodDescriptor me.1.desc).map (fun d => d.parameters.length) = some na) (hm : me.2.2.1 ≤ 150) (hn : n' < n) :
    CallB R s args own idx me.1 me.2.1 me.2.2.1 me.2.2.2 (wsM me) (rmM n' kc) kc (8 * kc) na := by
  obtain ⟨hx, hb, hml, hown, hts, hr, hlk, hex, ⟨r1, r2, r3, r4⟩, hG, hD, hA, hst⟩ := cx
  refine callB_of na hts (goodGw (fun w hw => ?_)) rfl rfl rfl (hts _ h2) (hts _ h1) hd ⟨?_, ?_⟩
  · rcases List.mem_cons.mp hw with rfl | hw
    · exact h3
    · exact hw
  · show n' + 1 ≤ R.frames
    omega
  · show 8 + (me.2.2.1 + 11) + 200 * n' ≤ R.locals
    omega
theorem r_callV (cx : Cx p l e R s m args meth c own cc nL n k ret g ad A) {idx na kc n' b ci : Nat} {me : ME} {C : String} {T : u_T} {N : Nat} {sl : List Nat} {as rest : List Value} {Q' : Option Value → DS → Prop} {X' : String → DS → Prop} (hd : decode cc pc = .ok (.invokevirtual idx, 3)) (hk : okV own idx C me na) (hb : lay[b]? = some (0, ci, sl)) (hci : vwCl[ci]? = some (C, T, N)) (hna : as.length = na) (hn : n' < n) (hu : u + kc ≤ k) (hcat : (rest.map fun v => v.category).sum ≤ 8)
    (hC : CM l me n' kc (.ref b :: as) d Q' X') (h : ∀ v d', Q' v d' → WF p l e R s m args below meth c nL g ad A Z (pc + 3) ls (v.toList ++ rest) d' (u + kc)) (hX : ∀ E d', X' E d' → VX p l e R s m args below meth c nL g ad A Z pc ls rest d' (u + kc) E) : WF p l e R s m args below meth c nL g ad A Z pc ls (as.reverse ++ .ref b :: rest) d u := by
  intro H locs la hP hS hl
  obtain ⟨k1, k2, k3, k4, k5, k6, k7⟩ := hk
  have cb := cb_of cx (kc := kc) k1 (by rw [k6.1]; exact k4) k5 k6.2 k7 hn
  have hts := cx.2.2.2.2.1
  have hrm := cx.2.2.2.2.2.2.2.2.1
  have hrec := va_recv (D := g.1) (cl := vwCl) cx.2.2.2.2.2.2.2.2.2.1.1 hP hci (wld_at hb)
  have run := vx_runV (p := p) (e := e) (below := below) (meth := meth) (H := H) (locs := locs) (cells := u) (slots := 8 * u) (C := C) (b := ad b) (As := as.map (cv ad)) (rest := rest.map (cv ad)) (Ts := gw) (own := own) (g := F0 m pc la ((as.reverse ++ .ref b :: rest).map (cv ad))) ⟨cx.1, cx.2.1, cx.2.2.1, cx.2.2.2.1, hts⟩ (hC g ad H.size) ⟨cb, hts _ k2, hts _ k3⟩ ⟨PM_blind, hrec, fun U hU hW => PM_at cx (as := .ref b :: as) hP hS U hU hW⟩
    rfl (by rw [List.length_map]; exact hna) hl.1 (by simp [cv]) (by show 2 * 0 + _ ≤ 8; rw [cat_map]; omega) hd ⟨by omega, by omega⟩
  exact r_after cx hS hl run h hX
theorem r_callS (cx : Cx p l e R s m args meth c own cc nL n k ret g ad A) {idx na kc n' : Nat} {me : ME} {as rest : List Value} {Q' : Option Value → DS → Prop} {X' : String → DS → Prop} (hd : decode cc pc = .ok (.invokestatic idx, 3)) (hk : okS own idx me na) (hna : as.length = na) (hn : n' < n) (hu : u + kc ≤ k) (hcat : (rest.map fun v => v.category).sum ≤ 8)
    (hC : CM l me n' kc as d Q' X') (h : ∀ v d', Q' v d' → WF p l e R s m args below meth c nL g ad A Z (pc + 3) ls (v.toList ++ rest) d' (u + kc)) (hX : ∀ E d', X' E d' → VX p l e R s m args below meth c nL g ad A Z pc ls rest d' (u + kc) E) : WF p l e R s m args below meth c nL g ad A Z pc ls (as.reverse ++ rest) d u := by
  intro H locs la hP hS hl
  obtain ⟨k1, k2, k4, k5, k6, k7⟩ := hk
  have cb := cb_of cx (kc := kc) k1 k4 k5 k6 k7 hn
  have hts := cx.2.2.2.2.1
  have hrm := cx.2.2.2.2.2.2.2.2.1
  have run := vx_runS (p := p) (e := e) (below := below) (meth := meth) (H := H) (locs := locs) (cells := u) (slots := 8 * u) (As := as.map (cv ad)) (rest := rest.map (cv ad)) (Ts := gw) (own := own) (g := F0 m pc la ((as.reverse ++ rest).map (cv ad))) ⟨cx.1, cx.2.1, cx.2.2.1, cx.2.2.2.1, hts⟩ (hC g ad H.size) ⟨cb, hts _ k2⟩ ⟨PM_blind, fun U hU hW => PM_at cx (as := as) hP hS U hU hW⟩
    rfl (by rw [List.length_map]; exact hna) hl.1 (by simp) (by show 2 * 0 + _ ≤ 8; rw [cat_map]; omega) hd ⟨by omega, by omega⟩
  exact r_after cx hS hl run h hX
theorem r_callVs (cx : Cx p l e R s m args meth c own cc nL n k ret g ad A) {idx na kc n' j : Nat} {me : ME} {as rest : List Value} {Q' : Option Value → DS → Prop} {X' : String → DS → Prop} (hd : decode cc pc = .ok (.invokevirtual idx, 3)) (hk : okV own idx "java/lang/String" me na) (hj : j < 28) (hna : as.length = na) (hn : n' < n) (hu : u + kc ≤ k) (hcat : (rest.map fun v => v.category).sum ≤ 8)
    (hC : CM l me n' kc (.ref (1000 + j) :: as) d Q' X') (h : ∀ v d', Q' v d' → WF p l e R s m args below meth c nL g ad A Z (pc + 3) ls (v.toList ++ rest) d' (u + kc)) (hX : ∀ E d', X' E d' → VX p l e R s m args below meth c nL g ad A Z pc ls rest d' (u + kc) E) : WF p l e R s m args below meth c nL g ad A Z pc ls (as.reverse ++ .ref (1000 + j) :: rest) d u := by
  intro H locs la hP hS hl
  obtain ⟨k1, k2, k3, k4, k5, k6, k7⟩ := hk
  have cb := cb_of cx (kc := kc) k1 (by rw [k6.1]; exact k4) k5 k6.2 k7 hn
  have hts := cx.2.2.2.2.1
  have hrm := cx.2.2.2.2.2.2.2.2.1
  have hrec := vk_recv (cx.2.2.2.2.2.2.2.2.2.1.2.2.1 j hj) (Nat.zero_lt_one) hS
  have run := vx_runV (p := p) (e := e) (below := below) (meth := meth) (H := H) (locs := locs) (cells := u) (slots := 8 * u) (C := "java/lang/String") (b := ad (1000 + j)) (As := as.map (cv ad)) (rest := rest.map (cv ad)) (Ts := gw) (own := own) (g := F0 m pc la ((as.reverse ++ .ref (1000 + j) :: rest).map (cv ad))) ⟨cx.1, cx.2.1, cx.2.2.1, cx.2.2.2.1, hts⟩ (hC g ad H.size) ⟨cb, hts _ k2, hts _ k3⟩ ⟨PM_blind, hrec, fun U hU hW => PM_at cx (as := .ref (1000 + j) :: as) hP hS U hU hW⟩
    rfl (by rw [List.length_map]; exact hna) hl.1 (by simp [cv]) (by show 2 * 0 + _ ≤ 8; rw [cat_map]; omega) hd ⟨by omega, by omega⟩
  exact r_after cx hS hl run h hX
end Rules3
