/-! THE RULES: one instruction of a frame, over the abstract state -/
/-- what a body knows of its start -/
def Cx (p : Program) (l : Launch) (e : Env) (R : Room) (s : State) (m : MethodId) (args : Array Value) (meth : Method) (c : Code) (own : String) (cc : ByteArray) (nL n k : Nat) (ret : Option FieldType) (g : GG) (ad : Nat → Nat) (A : Nat → Prop) : Prop :=
  p.tables.exec = Jvm.exec ∧ c.code = cc ∧ c.maxLocals = nL ∧ s.vm.findClass own = some m.cls ∧ (∀ w ∈ gw, w.before args s = true) ∧ meth.sig.returnType = ret ∧ meth.locks = false ∧ (∀ x ∈ c.exceptionTable.toList, False) ∧ (n ≤ R.frames ∧ 200 * n ≤ R.locals ∧ k ≤ R.cells ∧ 8 * k ≤ R.slots) ∧ GI g ad A s s.heap ∧
  (∀ d, va_D A (wld g ad d)) ∧ (∀ q, s.heap.size ≤ q → A q) ∧ l.stackTraces = false
/-- the frame at pc with locals ls, operands st, in d, u cells made so far: comes to Z -/
def WF (p : Program) (l : Launch) (e : Env) (R : Room) (s : State) (m : MethodId) (args : Array Value) (below : List Frame) (meth : Method) (c : Code) (nL : Nat) (g : GG) (ad : Nat → Nat) (A : Nat → Prop) (Z : State → Prop) (pc : Nat) (ls : ALs) (st : List Value) (d : DS) (u : Nat) : Prop :=
  ∀ (H : Heap) (locs : List Loc) (la : Array Slot), va_P g.1 vwCl (wld g ad d) H → va_S A s.heap H locs → lv_has la nL (lof ad 0 ls) → W p l e R s m args below meth c H locs u (8 * u) Z (F0 m pc la (st.map (cv ad)))
theorem vw_K {g : GG} {ad : Nat → Nat} {A : Nat → Prop} {s : State} {H : Heap} (h : GI g ad A s H) : va_K g.1 vwCl (tysG g) s := h.1
section Rules
variable {p : Program} {l : Launch} {e : Env} {R : Room} {s : State} {m : MethodId} {args : Array Value} {below : List Frame} {meth : Method} {c : Code} {own : String} {cc : ByteArray} {nL n k : Nat} {ret : Option FieldType} {g : GG} {ad : Nat → Nat} {A : Nat → Prop} {Z : State → Prop} {pc : Nat} {ls : ALs} {st : List Value} {d : DS} {u : Nat}
theorem r_iconst (cx : Cx p l e R s m args meth c own cc nL n k ret g ad A) {v : Int} (hd : decode cc pc = .ok (.iconst v, 1)) (h : WF p l e R s m args below meth c nL g ad A Z (pc + 1) ls (.int (Int32.ofInt v) :: st) d u) : WF p l e R s m args below meth c nL g ad A Z pc ls st d u :=
  fun H locs la hP hS hl => lv_iconst cx.1 cx.2.1 hd rfl (h H locs la hP hS hl)
theorem r_bipush (cx : Cx p l e R s m args meth c own cc nL n k ret g ad A) {v : Int} (hd : decode cc pc = .ok (.bipush v, 2)) (h : WF p l e R s m args below meth c nL g ad A Z (pc + 2) ls (.int (Int8.ofInt v).toInt32 :: st) d u) : WF p l e R s m args below meth c nL g ad A Z pc ls st d u :=
  fun H locs la hP hS hl => lv_bipush cx.1 cx.2.1 hd rfl (h H locs la hP hS hl)
theorem r_sipush (cx : Cx p l e R s m args meth c own cc nL n k ret g ad A) {v : Int} (hd : decode cc pc = .ok (.sipush v, 3)) (h : WF p l e R s m args below meth c nL g ad A Z (pc + 3) ls (.int (Int16.ofInt v).toInt32 :: st) d u) : WF p l e R s m args below meth c nL g ad A Z pc ls st d u :=
  fun H locs la hP hS hl => lv_sipush cx.1 cx.2.1 hd rfl (h H locs la hP hS hl)
theorem r_lconst (cx : Cx p l e R s m args meth c own cc nL n k ret g ad A) {v : Fin 2} (hd : decode cc pc = .ok (.lconst v, 1)) (h : WF p l e R s m args below meth c nL g ad A Z (pc + 1) ls (.long (Int64.ofNat (v : Nat)) :: st) d u) : WF p l e R s m args below meth c nL g ad A Z pc ls st d u :=
  fun H locs la hP hS hl => lv_lconst cx.1 cx.2.1 hd rfl (h H locs la hP hS hl)
theorem r_iload_n (cx : Cx p l e R s m args meth c own cc nL n k ret g ad A) {j : Fin 4} {x : Int32} (hd : decode cc pc = .ok (.iload_n j, 1)) (hj : ls[(j : Nat)]? = some (some (.int x))) (h : WF p l e R s m args below meth c nL g ad A Z (pc + 1) ls (.int x :: st) d u) : WF p l e R s m args below meth c nL g ad A Z pc ls st d u :=
  fun H locs la hP hS hl => lv_iload_n cx.1 cx.2.1 hd rfl (lvh_at hl hj) (h H locs la hP hS hl)
theorem r_iload (cx : Cx p l e R s m args meth c own cc nL n k ret g ad A) {j : Nat} {x : Int32} (hd : decode cc pc = .ok (.iload j, 2)) (hj : ls[j]? = some (some (.int x))) (h : WF p l e R s m args below meth c nL g ad A Z (pc + 2) ls (.int x :: st) d u) : WF p l e R s m args below meth c nL g ad A Z pc ls st d u :=
  fun H locs la hP hS hl => lv_iload cx.1 cx.2.1 hd (lvh_at hl hj) (h H locs la hP hS hl)
theorem r_aload_n (cx : Cx p l e R s m args meth c own cc nL n k ret g ad A) {j : Fin 4} {x : Nat} (hd : decode cc pc = .ok (.aload_n j, 1)) (hj : ls[(j : Nat)]? = some (some (.ref x))) (h : WF p l e R s m args below meth c nL g ad A Z (pc + 1) ls (.ref x :: st) d u) : WF p l e R s m args below meth c nL g ad A Z pc ls st d u :=
  fun H locs la hP hS hl => lv_aload_n cx.1 cx.2.1 hd rfl (lvh_at hl hj) (h H locs la hP hS hl)
theorem r_aload (cx : Cx p l e R s m args meth c own cc nL n k ret g ad A) {j : Nat} {x : Nat} (hd : decode cc pc = .ok (.aload j, 2)) (hj : ls[j]? = some (some (.ref x))) (h : WF p l e R s m args below meth c nL g ad A Z (pc + 2) ls (.ref x :: st) d u) : WF p l e R s m args below meth c nL g ad A Z pc ls st d u :=
  fun H locs la hP hS hl => lv_aload cx.1 cx.2.1 hd (lvh_at hl hj) (h H locs la hP hS hl)
theorem r_lload_n (cx : Cx p l e R s m args meth c own cc nL n k ret g ad A) {j : Fin 4} {x : Int64} (hd : decode cc pc = .ok (.lload_n j, 1)) (hj : ls[(j : Nat)]? = some (some (.long x))) (h : WF p l e R s m args below meth c nL g ad A Z (pc + 1) ls (.long x :: st) d u) : WF p l e R s m args below meth c nL g ad A Z pc ls st d u :=
  fun H locs la hP hS hl => lv_lload_n cx.1 cx.2.1 hd rfl (lvh_at hl hj) (h H locs la hP hS hl)
theorem r_lload (cx : Cx p l e R s m args meth c own cc nL n k ret g ad A) {j : Nat} {x : Int64} (hd : decode cc pc = .ok (.lload j, 2)) (hj : ls[j]? = some (some (.long x))) (h : WF p l e R s m args below meth c nL g ad A Z (pc + 2) ls (.long x :: st) d u) : WF p l e R s m args below meth c nL g ad A Z pc ls st d u :=
  fun H locs la hP hS hl => lv_lload cx.1 cx.2.1 hd (lvh_at hl hj) (h H locs la hP hS hl)
theorem r_istore_n (cx : Cx p l e R s m args meth c own cc nL n k ret g ad A) {j : Fin 4} {x : Int32} (hd : decode cc pc = .ok (.istore_n j, 1)) (hj : (j : Nat) < nL) (hk : lok ls j = true) (h : WF p l e R s m args below meth c nL g ad A Z (pc + 1) (ls.set j (some (.int x))) st d u) : WF p l e R s m args below meth c nL g ad A Z pc ls (.int x :: st) d u :=
  fun H locs la hP hS hl => lv_istore_n cx.1 cx.2.1 hd rfl hl hj rfl (fun la' hl' => h H locs la' hP hS (lvh_mono hl' (lof_set hk)))
theorem r_istore (cx : Cx p l e R s m args meth c own cc nL n k ret g ad A) {j : Nat} {x : Int32} (hd : decode cc pc = .ok (.istore j, 2)) (hj : j < nL) (hk : lok ls j = true) (h : WF p l e R s m args below meth c nL g ad A Z (pc + 2) (ls.set j (some (.int x))) st d u) : WF p l e R s m args below meth c nL g ad A Z pc ls (.int x :: st) d u :=
  fun H locs la hP hS hl => lv_istore cx.1 cx.2.1 hd hl hj rfl (fun la' hl' => h H locs la' hP hS (lvh_mono hl' (lof_set hk)))
theorem r_astore_n (cx : Cx p l e R s m args meth c own cc nL n k ret g ad A) {j : Fin 4} {x : Nat} (hd : decode cc pc = .ok (.astore_n j, 1)) (hj : (j : Nat) < nL) (hk : lok ls j = true) (h : WF p l e R s m args below meth c nL g ad A Z (pc + 1) (ls.set j (some (.ref x))) st d u) : WF p l e R s m args below meth c nL g ad A Z pc ls (.ref x :: st) d u :=
  fun H locs la hP hS hl => lv_astore_n cx.1 cx.2.1 hd rfl hl hj rfl (fun la' hl' => h H locs la' hP hS (lvh_mono hl' (lof_set hk)))
theorem r_astore (cx : Cx p l e R s m args meth c own cc nL n k ret g ad A) {j : Nat} {x : Nat} (hd : decode cc pc = .ok (.astore j, 2)) (hj : j < nL) (hk : lok ls j = true) (h : WF p l e R s m args below meth c nL g ad A Z (pc + 2) (ls.set j (some (.ref x))) st d u) : WF p l e R s m args below meth c nL g ad A Z pc ls (.ref x :: st) d u :=
  fun H locs la hP hS hl => lv_astore cx.1 cx.2.1 hd hl hj rfl (fun la' hl' => h H locs la' hP hS (lvh_mono hl' (lof_set hk)))
theorem r_iinc (cx : Cx p l e R s m args meth c own cc nL n k ret g ad A) {j : Nat} {v : Int} {x : Int32} (hd : decode cc pc = .ok (.iinc j v, 3)) (hj : ls[j]? = some (some (.int x))) (hn : j < nL) (hk : lok ls j = true) (h : WF p l e R s m args below meth c nL g ad A Z (pc + 3) (ls.set j (some (.int (x + Int32.ofInt v)))) st d u) : WF p l e R s m args below meth c nL g ad A Z pc ls st d u := by
  intro H locs la hP hS hl
  obtain ⟨i, hi⟩ := List.getElem?_of_mem (lof_in (ad := ad) hj)
  exact lv_iinc cx.1 cx.2.1 hd hl hi rfl hn rfl (fun la' hl' => h H locs la' hP hS (lvh_mono hl' (lof_set hk)))
theorem r_iadd (cx : Cx p l e R s m args meth c own cc nL n k ret g ad A) {x y : Int32} (hd : decode cc pc = .ok (.iadd, 1)) (h : WF p l e R s m args below meth c nL g ad A Z (pc + 1) ls (.int (x + y) :: st) d u) : WF p l e R s m args below meth c nL g ad A Z pc ls (.int y :: .int x :: st) d u :=
  fun H locs la hP hS hl => lv_iadd cx.1 cx.2.1 hd (h H locs la hP hS hl)
theorem r_isub (cx : Cx p l e R s m args meth c own cc nL n k ret g ad A) {x y : Int32} (hd : decode cc pc = .ok (.isub, 1)) (h : WF p l e R s m args below meth c nL g ad A Z (pc + 1) ls (.int (x - y) :: st) d u) : WF p l e R s m args below meth c nL g ad A Z pc ls (.int y :: .int x :: st) d u :=
  fun H locs la hP hS hl => lv_isub cx.1 cx.2.1 hd (h H locs la hP hS hl)
theorem r_imul (cx : Cx p l e R s m args meth c own cc nL n k ret g ad A) {x y : Int32} (hd : decode cc pc = .ok (.imul, 1)) (h : WF p l e R s m args below meth c nL g ad A Z (pc + 1) ls (.int (x * y) :: st) d u) : WF p l e R s m args below meth c nL g ad A Z pc ls (.int y :: .int x :: st) d u :=
  fun H locs la hP hS hl => lv_imul cx.1 cx.2.1 hd (h H locs la hP hS hl)
theorem r_iand (cx : Cx p l e R s m args meth c own cc nL n k ret g ad A) {x y : Int32} (hd : decode cc pc = .ok (.iand, 1)) (h : WF p l e R s m args below meth c nL g ad A Z (pc + 1) ls (.int (x &&& y) :: st) d u) : WF p l e R s m args below meth c nL g ad A Z pc ls (.int y :: .int x :: st) d u :=
  fun H locs la hP hS hl => lv_iand cx.1 cx.2.1 hd (h H locs la hP hS hl)
theorem r_ior (cx : Cx p l e R s m args meth c own cc nL n k ret g ad A) {x y : Int32} (hd : decode cc pc = .ok (.ior, 1)) (h : WF p l e R s m args below meth c nL g ad A Z (pc + 1) ls (.int (x ||| y) :: st) d u) : WF p l e R s m args below meth c nL g ad A Z pc ls (.int y :: .int x :: st) d u :=
  fun H locs la hP hS hl => lv_ior cx.1 cx.2.1 hd (h H locs la hP hS hl)
theorem r_ixor (cx : Cx p l e R s m args meth c own cc nL n k ret g ad A) {x y : Int32} (hd : decode cc pc = .ok (.ixor, 1)) (h : WF p l e R s m args below meth c nL g ad A Z (pc + 1) ls (.int (x ^^^ y) :: st) d u) : WF p l e R s m args below meth c nL g ad A Z pc ls (.int y :: .int x :: st) d u :=
  fun H locs la hP hS hl => lv_ixor cx.1 cx.2.1 hd (h H locs la hP hS hl)
theorem r_ishl (cx : Cx p l e R s m args meth c own cc nL n k ret g ad A) {x y : Int32} (hd : decode cc pc = .ok (.ishl, 1)) (h : WF p l e R s m args below meth c nL g ad A Z (pc + 1) ls (.int (x <<< (y &&& 31)) :: st) d u) : WF p l e R s m args below meth c nL g ad A Z pc ls (.int y :: .int x :: st) d u :=
  fun H locs la hP hS hl => lv_ishl cx.1 cx.2.1 hd (h H locs la hP hS hl)
theorem r_ishr (cx : Cx p l e R s m args meth c own cc nL n k ret g ad A) {x y : Int32} (hd : decode cc pc = .ok (.ishr, 1)) (h : WF p l e R s m args below meth c nL g ad A Z (pc + 1) ls (.int (x >>> (y &&& 31)) :: st) d u) : WF p l e R s m args below meth c nL g ad A Z pc ls (.int y :: .int x :: st) d u :=
  fun H locs la hP hS hl => lv_ishr cx.1 cx.2.1 hd (h H locs la hP hS hl)
theorem r_iushr (cx : Cx p l e R s m args meth c own cc nL n k ret g ad A) {x y : Int32} (hd : decode cc pc = .ok (.iushr, 1)) (h : WF p l e R s m args below meth c nL g ad A Z (pc + 1) ls (.int (x.toUInt32 >>> (y.toUInt32 &&& Int32.toUInt32 31)).toInt32 :: st) d u) : WF p l e R s m args below meth c nL g ad A Z pc ls (.int y :: .int x :: st) d u :=
  fun H locs la hP hS hl => lv_iushr cx.1 cx.2.1 hd rfl (h H locs la hP hS hl)
theorem r_idiv (cx : Cx p l e R s m args meth c own cc nL n k ret g ad A) {x y : Int32} (hd : decode cc pc = .ok (.idiv, 1)) (hy : ¬ y = 0) (h : WF p l e R s m args below meth c nL g ad A Z (pc + 1) ls (.int (x / y) :: st) d u) : WF p l e R s m args below meth c nL g ad A Z pc ls (.int y :: .int x :: st) d u :=
  fun H locs la hP hS hl => lv_idiv cx.1 cx.2.1 hd hy (h H locs la hP hS hl)
theorem r_irem (cx : Cx p l e R s m args meth c own cc nL n k ret g ad A) {x y : Int32} (hd : decode cc pc = .ok (.irem, 1)) (hy : ¬ y = 0) (h : WF p l e R s m args below meth c nL g ad A Z (pc + 1) ls (.int (x - x / y * y) :: st) d u) : WF p l e R s m args below meth c nL g ad A Z pc ls (.int y :: .int x :: st) d u :=
  fun H locs la hP hS hl => lv_irem cx.1 cx.2.1 hd hy (h H locs la hP hS hl)
theorem r_ineg (cx : Cx p l e R s m args meth c own cc nL n k ret g ad A) {x : Int32} (hd : decode cc pc = .ok (.ineg, 1)) (h : WF p l e R s m args below meth c nL g ad A Z (pc + 1) ls (.int (-x) :: st) d u) : WF p l e R s m args below meth c nL g ad A Z pc ls (.int x :: st) d u :=
  fun H locs la hP hS hl => lv_ineg cx.1 cx.2.1 hd (h H locs la hP hS hl)
theorem r_i2l (cx : Cx p l e R s m args meth c own cc nL n k ret g ad A) {x : Int32} (hd : decode cc pc = .ok (.i2l, 1)) (h : WF p l e R s m args below meth c nL g ad A Z (pc + 1) ls (.long x.toInt64 :: st) d u) : WF p l e R s m args below meth c nL g ad A Z pc ls (.int x :: st) d u :=
  fun H locs la hP hS hl => lv_i2l cx.1 cx.2.1 hd rfl (h H locs la hP hS hl)
theorem r_i2b (cx : Cx p l e R s m args meth c own cc nL n k ret g ad A) {x : Int32} (hd : decode cc pc = .ok (.i2b, 1)) (h : WF p l e R s m args below meth c nL g ad A Z (pc + 1) ls (.int x.toInt8.toInt32 :: st) d u) : WF p l e R s m args below meth c nL g ad A Z pc ls (.int x :: st) d u :=
  fun H locs la hP hS hl => lv_i2b cx.1 cx.2.1 hd rfl (h H locs la hP hS hl)
theorem r_lcmp (cx : Cx p l e R s m args meth c own cc nL n k ret g ad A) {x y : Int64} (hd : decode cc pc = .ok (.lcmp, 1)) (h : WF p l e R s m args below meth c nL g ad A Z (pc + 1) ls (.int (lg_cmp x y) :: st) d u) : WF p l e R s m args below meth c nL g ad A Z pc ls (.long y :: .long x :: st) d u :=
  fun H locs la hP hS hl => W.lcmp cx.1 cx.2.1 hd (h H locs la hP hS hl)
theorem r_dup (cx : Cx p l e R s m args meth c own cc nL n k ret g ad A) {v : Value} (hd : decode cc pc = .ok (.dup, 1)) (hv : v.category = 1) (h : WF p l e R s m args below meth c nL g ad A Z (pc + 1) ls (v :: v :: st) d u) : WF p l e R s m args below meth c nL g ad A Z pc ls (v :: st) d u :=
  fun H locs la hP hS hl => lv_dup cx.1 cx.2.1 hd (by rw [cv_cat]; exact hv) (h H locs la hP hS hl)
theorem r_dup2 (cx : Cx p l e R s m args meth c own cc nL n k ret g ad A) {v w : Value} (hd : decode cc pc = .ok (.dup2, 1)) (hv : v.category = 1) (hw : w.category = 1) (h : WF p l e R s m args below meth c nL g ad A Z (pc + 1) ls (v :: w :: v :: w :: st) d u) : WF p l e R s m args below meth c nL g ad A Z pc ls (v :: w :: st) d u :=
  fun H locs la hP hS hl => lv_dup2_11 cx.1 cx.2.1 hd (by rw [cv_cat]; exact hv) (by rw [cv_cat]; exact hw) (h H locs la hP hS hl)
theorem r_goto (cx : Cx p l e R s m args meth c own cc nL n k ret g ad A) {off : Int} {t : Nat} (hd : decode cc pc = .ok (.goto off, 3)) (ht : (pc : Int) + off = (t : Int)) (h : WF p l e R s m args below meth c nL g ad A Z t ls st d u) : WF p l e R s m args below meth c nL g ad A Z pc ls st d u :=
  fun H locs la hP hS hl => lv_goto cx.1 cx.2.1 hd ht (h H locs la hP hS hl)
/-- the branch's test -/
def cnd : ClassFile.Cond → Int32 → Int32 → Prop
  | .eq, x, y => x = y
  | .ne, x, y => ¬ x = y
  | .lt, x, y => x < y
  | .ge, x, y => y ≤ x
  | .gt, x, y => y < x
  | .le, x, y => x ≤ y
end Rules
