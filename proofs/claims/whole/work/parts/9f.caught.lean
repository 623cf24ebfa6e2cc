/-! A THROW THAT IS CAUGHT: the rows of a method's table are gone through; one that isn't for the thing thrown lets it by, the first that is takes it -/
/-- the row y lets by what is of the class t -/
def yBy (pl : Platform) (s0 : State) (dc : ClassId) (pc : Nat) (t : ClassId) (y : ExceptionTableEntry) : Prop := covers y pc = false ∨ (y.catchType ≠ 0 ∧ ∃ c, s0.vm.ClassLinks pl dc y.catchType c ∧ s0.vm.assignable t c = false)
/-- the row x takes it -/
def yTk (pl : Platform) (s0 : State) (dc : ClassId) (pc : Nat) (t : ClassId) (x : ExceptionTableEntry) : Prop := covers x pc = true ∧ x.catchType ≠ 0 ∧ ∃ c, s0.vm.ClassLinks pl dc x.catchType c ∧ s0.vm.assignable t c = true
section Caught
variable {e : Env} {s0 : State} {f : JFrame} {q : Addr} {cell : Cell}
theorem yrow {S : State} {x : ExceptionTableEntry} {r : List ExceptionTableEntry} {c : ClassId} {b : Bool} (hx : covers x f.pc = true) (h0 : x.catchType ≠ 0) (hl : S.vm.ClassLinks e.platform f.method.cls x.catchType c) (hcell : S.heap[q]? = some cell) (hobj : ∀ k, cell.vm ≠ .statics k) (hk : ∃ k, S.vm.classes[cell.cls]? = some k) (hc : ∃ k, S.vm.classes[c]? = some k) (hb : S.vm.assignable cell.cls c = b) (P : Handler → Pre) (E : CtlPost) (dr : Bool) (acts : List Action) :
    wp (findHandler.go f q (x :: r)) P E e dr acts S ↔ (if b = true then P (.found x.handlerPc) dr acts (S.setVm (S.vm.noted f.method.cls x.catchType (.cls c))) else wp (findHandler.go f q r) P E e dr acts (S.setVm (S.vm.noted f.method.cls x.catchType (.cls c)))) := by
  have hal : S.vm.Alike (S.vm.noted f.method.cls x.catchType (.cls c)) := (Vm.Alike.refl S.vm).noted _ _ _
  have hb' : (S.vm.noted f.method.cls x.catchType (.cls c)).assignable cell.cls c = b := by rw [hal.assignable]; exact hb
  obtain ⟨g1, g2⟩ := (resolveClass_links e.toSetting hl).op (op := VmOp.resolveClass f.method.cls x.catchType) rfl
  obtain ⟨a1, ha1⟩ := hk
  obtain ⟨a2, ha2⟩ := hc
  obtain ⟨b1, hb1, -⟩ := hal.2.2 _ _ ha1
  obtain ⟨b2, hb2, -⟩ := hal.2.2 _ _ ha2
  simp only [covers] at hx
  cases b <;> simp [findHandler.go, hx, h0, g1, g2, hcell, hobj, hb1, hb2, hb', VmOp.dirties, VmOp.acts]
theorem ygo (hobj : ∀ k, cell.vm ≠ .statics k) (hk0 : ∃ k, s0.vm.classes[cell.cls]? = some k) {x : ExceptionTableEntry} {r : List ExceptionTableEntry} (hx : yTk e.platform s0 f.method.cls f.pc cell.cls x) :
    ∀ (pre : List ExceptionTableEntry) (S : State), s0.WarmedH S.vm → S.heap[q]? = some cell → (∀ y ∈ pre, yBy e.platform s0 f.method.cls f.pc cell.cls y) →
      ∃ vm', s0.WarmedH vm' ∧ ∀ (P : Handler → Pre) (E : CtlPost) (dr : Bool) (acts : List Action), wp (findHandler.go f q (pre ++ x :: r)) P E e dr acts S ↔ P (.found x.handlerPc) dr acts (S.setVm vm') := by
  obtain ⟨k0, hk0⟩ := hk0
  intro pre
  induction pre with
  | nil =>
    intro S hW hcell _
    obtain ⟨hx1, hx0, c, hl, hfit⟩ := hx
    obtain ⟨k1, hk1, -⟩ := hW.alike.2.2 _ _ hk0
    obtain ⟨_, _, _, kt, hd, _, _, _, _, hkt, _, hopen⟩ := hl.here
    obtain ⟨k2, hk2, -⟩ := hW.alike.2.2 _ _ hkt
    refine ⟨_, hW.noted hd hopen (State.rightAt_cls hl), fun P E dr acts => ?_⟩
    rw [List.nil_append, yrow hx1 hx0 (hW.classLinks hl) hcell hobj ⟨k1, hk1⟩ ⟨k2, hk2⟩ (b := true) (by rw [hW.alike.assignable]; exact hfit), if_pos rfl]
  | cons y ys ih =>
    intro S hW hcell hpass
    have hr : ∀ z ∈ ys, yBy e.platform s0 f.method.cls f.pc cell.cls z := fun z hz => hpass z (List.mem_cons_of_mem _ hz)
    rcases hpass y List.mem_cons_self with hno | ⟨hy0, c, hl, hfit⟩
    · obtain ⟨vm', hW', hq⟩ := ih S hW hcell hr
      refine ⟨vm', hW', fun P E dr acts => ?_⟩
      rw [List.cons_append, W.findHandler_go_skip hno]
      exact hq P E dr acts
    · by_cases hcov : covers y f.pc = true
      · obtain ⟨k1, hk1, -⟩ := hW.alike.2.2 _ _ hk0
        obtain ⟨_, _, _, kt, hd, _, _, _, _, hkt, _, hopen⟩ := hl.here
        obtain ⟨k2, hk2, -⟩ := hW.alike.2.2 _ _ hkt
        obtain ⟨vm', hW', hq⟩ := ih (S.setVm (S.vm.noted f.method.cls y.catchType (.cls c))) (hW.noted hd hopen (State.rightAt_cls hl)) hcell hr
        refine ⟨vm', hW', fun P E dr acts => ?_⟩
        rw [List.cons_append, yrow hcov hy0 (hW.classLinks hl) hcell hobj ⟨k1, hk1⟩ ⟨k2, hk2⟩ (b := false) (by rw [hW.alike.assignable]; exact hfit), if_neg (by decide)]
        exact hq P E dr acts
      · obtain ⟨vm', hW', hq⟩ := ih S hW hcell hr
        refine ⟨vm', hW', fun P E dr acts => ?_⟩
        rw [List.cons_append, W.findHandler_go_skip (by simpa using hcov)]
        exact hq P E dr acts
end Caught
section Caught2
variable {p : Program} {l : Launch} {e : Env} {R : Room} {s : State} {m : MethodId} {args : Array Value} {below : List Frame} {meth : Method} {c : Code} {T : State} {locs : List Loc} {cells slots : Nat} {H : Heap} {Z : State → Prop} {ls : Array Slot} {rest : List Value} {pc : Nat}
theorem ycaught (X : Stand p l e R s m args below meth c T locs cells slots) {q : Addr} {cell : Cell} (hcell : T.heap[q]? = some cell) (hobj : cell.vm.isStatics = false) (hk0 : ∃ k, s.vm.classes[cell.cls]? = some k) {pre : List ExceptionTableEntry} {x : ExceptionTableEntry} {r : List ExceptionTableEntry} (hsplit : c.exceptionTable.toList = pre ++ x :: r) (hpass : ∀ y ∈ pre, yBy e.platform s m.cls pc cell.cls y) (hx : yTk e.platform s m.cls pc cell.cls x) :
    ∃ vm', Stand p l e R s m args below meth c (T.setVm vm') locs cells slots ∧ ∀ target, Steps p.tables e below ((T.setVm vm').setTop (F0 m x.handlerPc ls [.ref q])) target → Steps p.tables e below ((T.setTop (F0 m pc ls rest)).pushFrame (.throwing q)) target := by
  obtain ⟨vm', hW', hf⟩ := ygo (e := e) (s0 := s) (f := F0 m pc ls rest) (q := q) (cell := cell) (VmData.ne_statics_of hobj) hk0 (r := r) hx pre ((T.setTop (F0 m pc ls rest)).pushFrame (.throwing q)) X.warmed hcell hpass
  refine ⟨vm', X.noted hW', fun target hrest => ?_⟩
  have hfind : ∀ (P : Handler → Pre) (E : CtlPost) (dr : Bool) (acts : List Action), wp (findHandler (F0 m pc ls rest) q) P E e dr acts ((T.setTop (F0 m pc ls rest)).pushFrame (.throwing q)) ↔ P (.found x.handlerPc) dr acts (((T.setTop (F0 m pc ls rest)).pushFrame (.throwing q)).setVm vm') := fun P E dr acts => by
    rw [W.findHandler_eq (meth := meth) (code := c) X.method' X.code, hsplit]
    exact hf P E dr acts
  have hat : At T (F0 m pc ls rest).method c below := X.here
  obtain ⟨hgo, hw⟩ := hat.throwing (g := F0 m pc ls rest) q
  refine Steps.head hgo hw ?_
  rw [stepThread_throwing (frames_entered hat.top _)]
  obtain ⟨g0, hg0⟩ := X.frames_eq
  have hst : (stepThrowing e ((T.setTop (F0 m pc ls rest)).pushFrame (.throwing q)) q (.java (F0 m pc ls rest) :: T.frames.tail)).1 = ((((T.setTop (F0 m pc ls rest)).pushFrame (.throwing q)).setVm vm').setFrames (.java (F0 m x.handlerPc ls [.ref q]) :: T.frames.tail)) := by
    simp only [stepThrowing, searchFrame, vmDo]
    generalize hr : Sem.go _ e false [] _ = res
    obtain ⟨as, rfl, ha⟩ := Sem.eq_ok_of hr (a := Handler.found x.handlerPc) (s' := ((T.setTop (F0 m pc ls rest)).pushFrame (.throwing q)).setVm vm') (acts' := []) (by simp [hfind _ _ _ _])
    rfl
  rw [hst]
  have hg1 : (T.setVm vm').frames = .java g0 :: below := hg0
  rw [State.setTop_of_frames _ hg1] at hrest
  have e1 : (((T.setTop (F0 m pc ls rest)).pushFrame (.throwing q)).setVm vm').setFrames (.java (F0 m x.handlerPc ls [.ref q]) :: T.frames.tail) = (T.setVm vm').setFrames (.java (F0 m x.handlerPc ls [.ref q]) :: below) := by
    have k1 : ∀ (u : State) (F G : List Frame), ((u.setFrames F).setVm vm').setFrames G = (u.setVm vm').setFrames G := fun u F G => by
      rw [show (u.setFrames F).setVm vm' = (u.setVm vm').setFrames F from rfl, State.setFrames_setFrames]
    rw [hg0, List.tail_cons, State.pushFrame, State.setTop_of_frames _ hg0, k1, k1]
  rw [e1]
  exact hrest
/-- the words give the rows -/
theorem yBy_of {own nm E : String} {y : ExceptionTableEntry} {t : ClassId} (hpl : e.platform.magicAccessors = ({} : Platform).magicAccessors) (hown : s.vm.findClass own = some m.cls) (h0 : y.catchType ≠ 0) (hl : (Cond.classLink own y.catchType nm).before args s = true) (ht : s.vm.findClass E = some t) (hn : va_Nc E nm s) : yBy e.platform s m.cls pc t y := by
  obtain ⟨c6, hc6, hcl6⟩ := Cond.classLink_spec hown hl e.platform hpl
  obtain ⟨a8, b8, h1, h2, h3⟩ := hn
  cases Option.some.inj (h1.symm.trans ht)
  cases Option.some.inj (h2.symm.trans hc6)
  exact Or.inr ⟨h0, _, hcl6, h3⟩
theorem yTk_of {own nm E : String} {y : ExceptionTableEntry} {t : ClassId} (hpl : e.platform.magicAccessors = ({} : Platform).magicAccessors) (hown : s.vm.findClass own = some m.cls) (hc : covers y pc = true) (h0 : y.catchType ≠ 0) (hl : (Cond.classLink own y.catchType nm).before args s = true) (ht : s.vm.findClass E = some t) (hn : (Cond.castable E nm).before args s = true) : yTk e.platform s m.cls pc t y := by
  obtain ⟨c6, hc6, hcl6⟩ := Cond.classLink_spec hown hl e.platform hpl
  obtain ⟨a8, b8, h1, h2, h3⟩ := Cond.castable_spec hn
  cases Option.some.inj (h1.symm.trans ht)
  cases Option.some.inj (h2.symm.trans hc6)
  exact ⟨hc, h0, _, hcl6, h3⟩
theorem ycatch {own E : String} {ce : Cell} {q : Addr} (hown : s.vm.findClass own = some m.cls) {pre : List ExceptionTableEntry} {x : ExceptionTableEntry} {r : List ExceptionTableEntry} {nm : String} (hsplit : c.exceptionTable.toList = pre ++ x :: r) (hpass : ∀ y ∈ pre, y.catchType ≠ 0 ∧ ∃ nm : String, (Cond.classLink own y.catchType nm).before args s = true ∧ va_Nc E nm s) (hx : covers x pc = true) (h0 : x.catchType ≠ 0) (hlink : (Cond.classLink own x.catchType nm).before args s = true) (hcast : (Cond.castable E nm).before args s = true) (hcell : H[q]? = some ce) (hv : ce.vm = .none) (hcl : s.vm.findClass E = some ce.cls)
    (kk : W p l e R s m args below meth c H locs cells slots Z (F0 m x.handlerPc ls [.ref q])) : vx_W p l e R s m args below meth c H locs cells slots Z (F0 m pc ls rest) q := by
  intro T hT X
  have hpl : e.platform.magicAccessors = ({} : Platform).magicAccessors := by rw [X.admits.platform]
  obtain ⟨vm', X', st⟩ := ycaught (ls := ls) (rest := rest) (pc := pc) X (q := q) (cell := ce) (by rw [hT]; exact hcell) (by rw [hv]; rfl) (by obtain ⟨k9, h9, -⟩ := Vm.findClass_spec hcl; exact ⟨k9, h9⟩) hsplit (fun y hy => by
    obtain ⟨a0, nm', a1, a2⟩ := hpass y hy
    exact yBy_of hpl hown a0 a1 hcl a2) (yTk_of hpl hown hx h0 hlink hcl hcast)
  obtain ⟨t, a1, b1⟩ := kk (T.setVm vm') hT X'
  exact ⟨t, st t a1, b1⟩
end Caught2
