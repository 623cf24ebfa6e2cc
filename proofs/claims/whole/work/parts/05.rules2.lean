/-- a field's entry of a class's pool: the class ci of vwCl, slot j -/
def okF (own : String) (idx ci j : Nat) : Prop := ∃ (C : String) (T : u_T) (N : Nat), vwCl[ci]? = some (C, T, N) ∧ j < N ∧ Cond.fieldLink own idx (T j).1 (T j).2.1 (T j).2.2.1 ∈ gw
/-- it isn't final; its type: 0 int, 1 boolean, 2 String[] -/
def okP (ci j t : Nat) : Prop := ∃ (C : String) (T : u_T) (N : Nat), vwCl[ci]? = some (C, T, N) ∧ (T j).2.2.2 = false ∧ parseFieldDescriptor (T j).2.2.1 = some (if t = 0 then .int else if t = 1 then .boolean else .array (.object "java/lang/String"))
theorem vw_ok : ∀ (ci : Nat) (C : String) (T : u_T) (N : Nat), vwCl[ci]? = some (C, T, N) → (∃ ty0 : Nat → FieldType, ∀ j, j < N → parseFieldDescriptor (T j).2.2.1 = some (ty0 j)) ∧ (∀ a, a < N → ∀ b, b < N → a ≠ b → (T a).2.1 ≠ (T b).2.1) := by
  intro ci C T N h
  match ci, h with
  | 0, h => cases h; exact ⟨⟨_, tyX0_ok⟩, nmX0⟩
  | 1, h => cases h; exact ⟨⟨_, tyX1_ok⟩, nmX1⟩
  | 2, h => cases h; exact ⟨⟨_, tyX2_ok⟩, nmX2⟩
  | 3, h => cases h; exact ⟨⟨_, tyX4_ok⟩, nmX4⟩
  | 4, h => cases h; exact ⟨⟨_, tyX5_ok⟩, nmX5⟩
  | 5, h => cases h; exact ⟨⟨_, tyX6_ok⟩, nmX6⟩
  | 6, h => cases h; exact ⟨⟨_, tyX7_ok⟩, nmX7⟩
  | 7, h => cases h; exact ⟨⟨_, tyX8_ok⟩, nmX8⟩
  | 8, h => cases h; exact ⟨⟨_, tyX9_ok⟩, nmX9⟩
  | 9, h => cases h; exact ⟨⟨_, tyX10_ok⟩, nmX10⟩
  | 10, h => cases h; exact ⟨⟨_, tyX11_ok⟩, nmX11⟩
  | i + 11, h => simp [vwCl] at h
/-- each class's lay of fields is among the words -/
def vw_lay (q : vw_C) : Bool := (u_ws q.1 q.2.1 q.2.2).all (fun w => decide (w ∈ gw))
set_option maxRecDepth 100000 in
theorem vw_in : ∀ (ci : Nat) (C : String) (T : u_T) (N : Nat), vwCl[ci]? = some (C, T, N) → ∀ w ∈ u_ws C T N, w ∈ gw := by
  have h0 : vwCl.all vw_lay = true := by decide +kernel
  intro ci C T N h w hw
  have h1 := List.all_eq_true.mp h0 (C, T, N) (List.mem_of_getElem? h)
  have h2 := List.all_eq_true.mp h1 w hw
  exact of_decide_eq_true h2
theorem fls_at {ad : Nat → Nat} {d : DS} {a j code : Nat} {sl : List Nat} (h : sl[j]? = some code) : (fls ad d a sl)[j]? = some (cv ad (slv d a j code)) := by
  have hj : j < sl.length := (List.getElem?_eq_some_iff.mp h).1
  unfold fls
  rw [List.getElem?_map, List.getElem?_range hj]
  simp only [Option.map_some, List.getD_eq_getElem?_getD, h, Option.getD_some]
theorem fls_len {ad : Nat → Nat} {d : DS} {a : Nat} {sl : List Nat} : (fls ad d a sl).length = sl.length := by simp [fls]
theorem fls_set {ad : Nat → Nat} {d : DS} {a j code : Nat} {sl : List Nat} {x : Int32} (h : sl[j]? = some code) : (fls ad d a sl).set j (cv ad (slv (dset d a j x) a j code)) = fls ad (dset d a j x) a sl := by
  apply List.ext_getElem?
  intro i
  by_cases hi : i = j
  · subst hi
    rw [fls_at h, List.getElem?_set_self]
    rw [fls_len]
    exact (List.getElem?_eq_some_iff.mp h).1
  · rw [List.getElem?_set_ne (fun e => hi e.symm)]
    cases hc : sl[i]? with
    | none =>
      have h1 : sl.length ≤ i := by simpa using hc
      rw [List.getElem?_eq_none (by rw [fls_len]; exact h1), List.getElem?_eq_none (by rw [fls_len]; exact h1)]
    | some cd =>
      rw [fls_at hc, fls_at hc]
      simp [slv, dset, va_up, upd, hi]
theorem dset_other {d : DS} {a j : Nat} {x : Int32} : ∀ c', c' ≠ a → dset d a j x c' = d c' := fun c' h => by simp [dset, va_up, h]
theorem drow_other {d : DS} {a : Nat} {f : Nat → Int32} : ∀ c', c' ≠ a → drow d a f c' = d c' := fun c' h => by simp [drow, va_up, h]
theorem dset_self {d : DS} {a j : Nat} {x : Int32} : dset d a j x a = upd (d a) j x := by simp [dset, va_up]
theorem drow_self {d : DS} {a : Nat} {f : Nat → Int32} : drow d a f a = f := by simp [drow, va_up]
section Rules2
variable {p : Program} {l : Launch} {e : Env} {R : Room} {s : State} {m : MethodId} {args : Array Value} {below : List Frame} {meth : Method} {c : Code} {own : String} {cc : ByteArray} {nL n k : Nat} {ret : Option FieldType} {g : GG} {ad : Nat → Nat} {A : Nat → Prop} {Z : State → Prop} {pc : Nat} {ls : ALs} {st : List Value} {d : DS} {u : Nat}
theorem r_if (cx : Cx p l e R s m args meth c own cc nL n k ret g ad A) {q : ClassFile.Cond} {off : Int} {t : Nat} {x : Int32} (hd : decode cc pc = .ok (.ifCond q off, 3)) (ht : (pc : Int) + off = (t : Int)) (h1 : cnd q x 0 → WF p l e R s m args below meth c nL g ad A Z t ls st d u) (h2 : ¬ cnd q x 0 → WF p l e R s m args below meth c nL g ad A Z (pc + 3) ls st d u) : WF p l e R s m args below meth c nL g ad A Z pc ls (.int x :: st) d u := by
  intro H locs la hP hS hl
  cases q with
  | eq => exact lv_if_eq cx.1 cx.2.1 hd ht (fun q => h1 q H locs la hP hS hl) (fun q => h2 q H locs la hP hS hl)
  | ne => exact lv_if_ne cx.1 cx.2.1 hd ht (fun q => h1 q H locs la hP hS hl) (fun q => h2 (fun z => z q) H locs la hP hS hl)
  | lt => exact lv_if_lt cx.1 cx.2.1 hd ht (fun q => h1 q H locs la hP hS hl) (fun q => h2 q H locs la hP hS hl)
  | ge => exact lv_if_ge cx.1 cx.2.1 hd ht (fun q => h1 q H locs la hP hS hl) (fun q => h2 q H locs la hP hS hl)
  | gt => exact lv_if_gt cx.1 cx.2.1 hd ht (fun q => h1 q H locs la hP hS hl) (fun q => h2 q H locs la hP hS hl)
  | le => exact lv_if_le cx.1 cx.2.1 hd ht (fun q => h1 q H locs la hP hS hl) (fun q => h2 q H locs la hP hS hl)
theorem r_icmp (cx : Cx p l e R s m args meth c own cc nL n k ret g ad A) {q : ClassFile.Cond} {off : Int} {t : Nat} {x y : Int32} (hd : decode cc pc = .ok (.if_icmp q off, 3)) (ht : (pc : Int) + off = (t : Int)) (h1 : cnd q x y → WF p l e R s m args below meth c nL g ad A Z t ls st d u) (h2 : ¬ cnd q x y → WF p l e R s m args below meth c nL g ad A Z (pc + 3) ls st d u) : WF p l e R s m args below meth c nL g ad A Z pc ls (.int y :: .int x :: st) d u := by
  intro H locs la hP hS hl
  cases q with
  | eq => exact lv_icmp_eq cx.1 cx.2.1 hd ht (fun q => h1 q H locs la hP hS hl) (fun q => h2 q H locs la hP hS hl)
  | ne => exact lv_icmp_ne cx.1 cx.2.1 hd ht (fun q => h1 q H locs la hP hS hl) (fun q => h2 (fun z => z q) H locs la hP hS hl)
  | lt => exact lv_icmp_lt cx.1 cx.2.1 hd ht (fun q => h1 q H locs la hP hS hl) (fun q => h2 q H locs la hP hS hl)
  | ge => exact lv_icmp_ge cx.1 cx.2.1 hd ht (fun q => h1 q H locs la hP hS hl) (fun q => h2 q H locs la hP hS hl)
  | gt => exact lv_icmp_gt cx.1 cx.2.1 hd ht (fun q => h1 q H locs la hP hS hl) (fun q => h2 q H locs la hP hS hl)
  | le => exact lv_icmp_le cx.1 cx.2.1 hd ht (fun q => h1 q H locs la hP hS hl) (fun q => h2 q H locs la hP hS hl)
theorem r_get (cx : Cx p l e R s m args meth c own cc nL n k ret g ad A) {idx ci j a code : Nat} {sl : List Nat} (hd : decode cc pc = .ok (.getfield idx, 3)) (hF : okF own idx ci j) (hc : lay[a]? = some (0, ci, sl)) (hs : sl[j]? = some code) (h : WF p l e R s m args below meth c nL g ad A Z (pc + 3) ls (slv d a j code :: st) d u) : WF p l e R s m args below meth c nL g ad A Z pc ls (.ref a :: st) d u := by
  intro H locs la hP hS hl
  obtain ⟨hx, hb, hml, hown, hts, hr, hlk, hex, hR, hG, hD, hA, hst⟩ := cx
  obtain ⟨C, T, N, f1, f2, f3⟩ := hF
  exact va_get (D := g.1) (cl := vwCl) (ws := wld g ad d) (a := ad a) (ci := ci) (fs := fls ad d a sl) (v := cv ad (slv d a j code)) (C := C) (T := T) (N := N) (ref := (T j).1) (Ts := gw) hx hb hts (vw_in ci C T N f1) hown hG.1 hP a (wld_at hc) f1 j f2 (hts _ f3) (fun _ h9 => h9) (fls_at hs) hd (h H locs la hP hS hl)
theorem r_put (cx : Cx p l e R s m args meth c own cc nL n k ret g ad A) {idx ci j a t code : Nat} {sl : List Nat} {x : Int32} {v : Value} (hd : decode cc pc = .ok (.putfield idx, 3)) (hF : okF own idx ci j) (hT : okP ci j t) (hc : lay[a]? = some (0, ci, sl)) (hs : sl[j]? = some code) (hv : v = slv (dset d a j x) a j code)
    (hn : ∀ w : Value, w = cv ad v → narrow (if t = 0 then .int else if t = 1 then .boolean else .array (.object "java/lang/String")) w = w ∧ fits (if t = 0 then .int else if t = 1 then .boolean else .array (.object "java/lang/String")) w = true) (h : WF p l e R s m args below meth c nL g ad A Z (pc + 3) ls st (dset d a j x) u) : WF p l e R s m args below meth c nL g ad A Z pc ls (v :: .ref a :: st) d u := by
  intro H locs la hP hS hl
  obtain ⟨hx, hb, hml, hown, hts, hr, hlk, hex, hR, hG, hD, hA, hst⟩ := cx
  obtain ⟨C, T, N, f1, f2, f3⟩ := hF
  obtain ⟨C2, T2, N2, g1, g2, g3⟩ := hT
  cases f1.symm.trans g1
  obtain ⟨⟨ty0, hty⟩, hnm⟩ := vw_ok ci C T N f1
  obtain ⟨n1, n2⟩ := hn (cv ad v) rfl
  refine va_put (D := g.1) (cl := vwCl) (ws := wld g ad d) (a := ad a) (ci := ci) (fs := fls ad d a sl) (v := cv ad v) (C := C) (T := T) (N := N) (ref := (T j).1) (Ts := gw) hx hb hts (vw_in ci C T N f1) ty0 hty hnm hown hG.1 hP (hD d) hS a (wld_at hc) f1 j f2 (hts _ f3) (fun _ h9 => h9) g2 g3 n1 n2 (by rw [fls_len]; exact (List.getElem?_eq_some_iff.mp hs).1) hd (fun H1 locs1 hP1 hD1 hS1 => ?_)
  have e1 : (wld g ad d).set a (ad a, .inr (ci, (fls ad d a sl).set j (cv ad v))) = wld g ad (dset d a j x) := by
    rw [hv, fls_set hs]
    exact wld_set hc dset_other
  rw [e1] at hP1
  exact h H1 locs1 la hP1 hS1 hl
theorem r_iaload (cx : Cx p l e R s m args meth c own cc nL n k ret g ad A) {a len : Nat} {q : List Nat} {i : Int32} (hd : decode cc pc = .ok (.iaload, 1)) (hc : lay[a]? = some (1, len, q)) (hin : vp_in i len) (h : WF p l e R s m args below meth c nL g ad A Z (pc + 1) ls (.int (d a i.toNatClampNeg) :: st) d u) : WF p l e R s m args below meth c nL g ad A Z pc ls (.int i :: .ref a :: st) d u := by
  intro H locs la hP hS hl
  exact va_iald (D := g.1) (cl := vwCl) (ws := wld g ad d) (a := ad a) (f := d a) cx.1 cx.2.1 (vw_K cx.2.2.2.2.2.2.2.2.2.1) hP a 0 (wld_at hc) rfl hin hd (h H locs la hP hS hl)
theorem r_baload (cx : Cx p l e R s m args meth c own cc nL n k ret g ad A) {a len : Nat} {q : List Nat} {i : Int32} (hd : decode cc pc = .ok (.baload, 1)) (hc : lay[a]? = some (2, len, q)) (hin : vp_in i len) (h : WF p l e R s m args below meth c nL g ad A Z (pc + 1) ls (.int (d a i.toNatClampNeg) :: st) d u) : WF p l e R s m args below meth c nL g ad A Z pc ls (.int i :: .ref a :: st) d u := by
  intro H locs la hP hS hl
  exact va_bald (D := g.1) (cl := vwCl) (ws := wld g ad d) (a := ad a) (f := d a) cx.1 cx.2.1 (vw_K cx.2.2.2.2.2.2.2.2.2.1) hP a 1 (wld_at hc) rfl hin hd (h H locs la hP hS hl)
theorem r_laload (cx : Cx p l e R s m args meth c own cc nL n k ret g ad A) {a len : Nat} {q : List Nat} {i : Int32} (hd : decode cc pc = .ok (.laload, 1)) (hc : lay[a]? = some (3, len, q)) (hin : vp_in i len) (h : WF p l e R s m args below meth c nL g ad A Z (pc + 1) ls (.long (d a i.toNatClampNeg).toInt64 :: st) d u) : WF p l e R s m args below meth c nL g ad A Z pc ls (.int i :: .ref a :: st) d u := by
  intro H locs la hP hS hl
  exact va_lald (D := g.1) (cl := vwCl) (ws := wld g ad d) (a := ad a) (f := fun i => (d a i).toInt64) cx.1 cx.2.1 (vw_K cx.2.2.2.2.2.2.2.2.2.1) hP a 2 (wld_at hc) rfl hin hd (h H locs la hP hS hl)
theorem r_aaload (cx : Cx p l e R s m args meth c own cc nL n k ret g ad A) {a len b : Nat} {q : List Nat} {i : Int32} (hd : decode cc pc = .ok (.aaload, 1)) (hc : lay[a]? = some (4, len, q)) (hin : vp_in i len) (hb : q[i.toNatClampNeg]? = some b) (h : WF p l e R s m args below meth c nL g ad A Z (pc + 1) ls (.ref b :: st) d u) : WF p l e R s m args below meth c nL g ad A Z pc ls (.int i :: .ref a :: st) d u := by
  intro H locs la hP hS hl
  refine va_aldq (D := g.1) (cl := vwCl) (ws := wld g ad d) (a := ad a) (f := fun i => (q[i]?).map ad) cx.1 cx.2.1 (vw_K cx.2.2.2.2.2.2.2.2.2.1) hP a 3 (wld_at hc) rfl hin hd ?_
  simp only [hb]
  exact h H locs la hP hS hl
theorem r_iastore (cx : Cx p l e R s m args meth c own cc nL n k ret g ad A) {a len : Nat} {q : List Nat} {i x : Int32} (hd : decode cc pc = .ok (.iastore, 1)) (hc : lay[a]? = some (1, len, q)) (hin : vp_in i len) (h : WF p l e R s m args below meth c nL g ad A Z (pc + 1) ls st (dset d a i.toNatClampNeg x) u) : WF p l e R s m args below meth c nL g ad A Z pc ls (.int x :: .int i :: .ref a :: st) d u := by
  intro H locs la hP hS hl
  refine va_iast (D := g.1) (cl := vwCl) (ws := wld g ad d) (a := ad a) (f := d a) (x := x) cx.1 cx.2.1 (vw_K cx.2.2.2.2.2.2.2.2.2.1) hP (cx.2.2.2.2.2.2.2.2.2.2.1 d) hS a 0 (wld_at hc) rfl hin hd (fun H1 locs1 hP1 hD1 hS1 => ?_)
  have e1 : (wld g ad d).set a (ad a, .inl (g.2.1, len, .inl (upd (d a) i.toNatClampNeg x))) = wld g ad (dset d a i.toNatClampNeg x) := by
    rw [← dset_self]
    exact wld_set hc dset_other
  rw [e1] at hP1
  exact h H1 locs1 la hP1 hS1 hl
theorem r_bastore (cx : Cx p l e R s m args meth c own cc nL n k ret g ad A) {a len : Nat} {q : List Nat} {i x : Int32} (hd : decode cc pc = .ok (.bastore, 1)) (hc : lay[a]? = some (2, len, q)) (hin : vp_in i len) (h : WF p l e R s m args below meth c nL g ad A Z (pc + 1) ls st (dset d a i.toNatClampNeg x.toInt8.toInt32) u) : WF p l e R s m args below meth c nL g ad A Z pc ls (.int x :: .int i :: .ref a :: st) d u := by
  intro H locs la hP hS hl
  refine va_bast (D := g.1) (cl := vwCl) (ws := wld g ad d) (a := ad a) (f := d a) (x := x) cx.1 cx.2.1 (vw_K cx.2.2.2.2.2.2.2.2.2.1) hP (cx.2.2.2.2.2.2.2.2.2.2.1 d) hS a 1 (wld_at hc) rfl hin hd (fun H1 locs1 hP1 hD1 hS1 => ?_)
  have e1 : (wld g ad d).set a (ad a, .inl (g.2.2.1, len, .inl (upd (d a) i.toNatClampNeg (vp_nar .byte x)))) = wld g ad (dset d a i.toNatClampNeg x.toInt8.toInt32) := by
    rw [vp_nar_byte, ← dset_self]
    exact wld_set hc dset_other
  rw [e1] at hP1
  exact h H1 locs1 la hP1 hS1 hl
theorem r_lastore (cx : Cx p l e R s m args meth c own cc nL n k ret g ad A) {a len : Nat} {q : List Nat} {i x : Int32} (hd : decode cc pc = .ok (.lastore, 1)) (hc : lay[a]? = some (3, len, q)) (hin : vp_in i len) (h : WF p l e R s m args below meth c nL g ad A Z (pc + 1) ls st (dset d a i.toNatClampNeg x) u) : WF p l e R s m args below meth c nL g ad A Z pc ls (.long x.toInt64 :: .int i :: .ref a :: st) d u := by
  intro H locs la hP hS hl
  refine va_last (D := g.1) (cl := vwCl) (ws := wld g ad d) (a := ad a) (f := fun i => (d a i).toInt64) (x := x.toInt64) cx.1 cx.2.1 (vw_K cx.2.2.2.2.2.2.2.2.2.1) hP (cx.2.2.2.2.2.2.2.2.2.2.1 d) hS a 2 (wld_at hc) rfl hin hd (fun H1 locs1 hP1 hD1 hS1 => ?_)
  have e0 : vp_updL (fun i => (d a i).toInt64) i.toNatClampNeg x.toInt64 = fun j => (dset d a i.toNatClampNeg x a j).toInt64 := by
    funext j
    simp only [vp_updL, dset_self, upd]
    split <;> rfl
  have e1 : (wld g ad d).set a (ad a, .inl (g.2.2.2.1, len, .inr (.inl (vp_updL (fun i => (d a i).toInt64) i.toNatClampNeg x.toInt64)))) = wld g ad (dset d a i.toNatClampNeg x) := by
    rw [e0]
    exact wld_set hc dset_other
  rw [e1] at hP1
  exact h H1 locs1 la hP1 hS1 hl
theorem r_alen (cx : Cx p l e R s m args meth c own cc nL n k ret g ad A) {a t len : Nat} {q : List Nat} (hd : decode cc pc = .ok (.arraylength, 1)) (hc : lay[a]? = some (t + 1, len, q)) (ht : t < 4) (h : WF p l e R s m args below meth c nL g ad A Z (pc + 1) ls (.int (nI len) :: st) d u) : WF p l e R s m args below meth c nL g ad A Z pc ls (.ref a :: st) d u := by
  intro H locs la hP hS hl
  have hK := vw_K cx.2.2.2.2.2.2.2.2.2.1
  match t, hc, ht with
  | 0, hc, _ => exact va_alen (D := g.1) (cl := vwCl) (ws := wld g ad d) (a := ad a) cx.1 cx.2.1 hK hP a 0 (wld_at hc) (ty := .int) rfl rfl hd (h H locs la hP hS hl)
  | 1, hc, _ => exact va_alen (D := g.1) (cl := vwCl) (ws := wld g ad d) (a := ad a) cx.1 cx.2.1 hK hP a 1 (wld_at hc) (ty := .byte) rfl rfl hd (h H locs la hP hS hl)
  | 2, hc, _ => exact va_alen (D := g.1) (cl := vwCl) (ws := wld g ad d) (a := ad a) cx.1 cx.2.1 hK hP a 2 (wld_at hc) (ty := .long) rfl rfl hd (h H locs la hP hS hl)
  | 3, hc, _ => exact va_alen (D := g.1) (cl := vwCl) (ws := wld g ad d) (a := ad a) cx.1 cx.2.1 hK hP a 3 (wld_at hc) (ty := .object "java/lang/String") rfl rfl hd (h H locs la hP hS hl)
theorem r_table (cx : Cx p l e R s m args meth c own cc nL n k ret g ad A) {dflt lo hi : Int} {offs : Array Int} {len : Nat} {x : Int32} (hd : decode cc pc = .ok (.tableswitch dflt lo hi offs, len)) (hlen : lo + offs.size = hi + 1) (hoff : ∀ (j : Nat) (off : Int), offs[j]? = some off → 0 ≤ (pc : Int) + off) (hdf : 0 ≤ (pc : Int) + dflt)
    (h1 : ∀ (j : Nat) (off : Int), offs[j]? = some off → x.toInt = lo + j → WF p l e R s m args below meth c nL g ad A Z (((pc : Int) + off).toNat) ls st d u) (h2 : (x.toInt < lo ∨ hi < x.toInt) → WF p l e R s m args below meth c nL g ad A Z (((pc : Int) + dflt).toNat) ls st d u) : WF p l e R s m args below meth c nL g ad A Z pc ls (.int x :: st) d u := by
  intro H locs la hP hS hl
  by_cases hq : x.toInt < lo ∨ hi < x.toInt
  · exact lv_tableOut cx.1 cx.2.1 hd hq (by omega) (h2 hq H locs la hP hS hl)
  · have q1 : ¬ x.toInt < lo := fun z => hq (Or.inl z)
    have q2 : ¬ hi < x.toInt := fun z => hq (Or.inr z)
    have hj : (x.toInt - lo).toNat < offs.size := by omega
    have ho : offs[(x.toInt - lo).toNat]? = some offs[(x.toInt - lo).toNat] := Array.getElem?_eq_getElem hj
    have h0 := hoff _ _ ho
    exact lv_tableIn cx.1 cx.2.1 hd q1 q2 ho (by omega) (h1 _ _ ho (by omega) H locs la hP hS hl)
theorem r_lookup (cx : Cx p l e R s m args meth c own cc nL n k ret g ad A) {dflt : Int} {ps : Array (Int × Int)} {len : Nat} {x : Int32} (hd : decode cc pc = .ok (.lookupswitch dflt ps, len)) (hp : (ps.toList.zip (ps.toList.drop 1)).all (fun (a, next) => a.1 < next.1) = true) (hoff : 0 ≤ (pc : Int) + Op.lookupswitch.offset ps.toList dflt x.toInt)
    (h : WF p l e R s m args below meth c nL g ad A Z (((pc : Int) + Op.lookupswitch.offset ps.toList dflt x.toInt).toNat) ls st d u) : WF p l e R s m args below meth c nL g ad A Z pc ls (.int x :: st) d u := by
  intro H locs la hP hS hl
  exact lv_lookup cx.1 cx.2.1 hd hp rfl (by omega) (h H locs la hP hS hl)
theorem r_ldc (cx : Cx p l e R s m args meth c own cc nL n k ret g ad A) {idx : Nat} {v : Int32} (hd : decode cc pc = .ok (.ldc idx, 2)) (hw : Jvm.Cond.constant own idx v ∈ gw) (h : WF p l e R s m args below meth c nL g ad A Z (pc + 2) ls (.int v :: st) d u) : WF p l e R s m args below meth c nL g ad A Z pc ls st d u :=
  fun H locs la hP hS hl => lv_ldc cx.1 cx.2.1 cx.2.2.2.1 (cx.2.2.2.2.1 _ hw) hd (h H locs la hP hS hl)
theorem r_ldcw (cx : Cx p l e R s m args meth c own cc nL n k ret g ad A) {idx : Nat} {v : Int32} (hd : decode cc pc = .ok (.ldc_w idx, 3)) (hw : Jvm.Cond.constant own idx v ∈ gw) (h : WF p l e R s m args below meth c nL g ad A Z (pc + 3) ls (.int v :: st) d u) : WF p l e R s m args below meth c nL g ad A Z pc ls st d u :=
  fun H locs la hP hS hl => lv_ldcw cx.1 cx.2.1 cx.2.2.2.1 (cx.2.2.2.2.1 _ hw) hd (h H locs la hP hS hl)
theorem r_ldc2 (cx : Cx p l e R s m args meth c own cc nL n k ret g ad A) {idx : Nat} {v : Int64} (hd : decode cc pc = .ok (.ldc2_w idx, 3)) (hw : Jvm.Cond.constantLong own idx v ∈ gw) (h : WF p l e R s m args below meth c nL g ad A Z (pc + 3) ls (.long v :: st) d u) : WF p l e R s m args below meth c nL g ad A Z pc ls st d u :=
  fun H locs la hP hS hl => lv_ldc2 cx.1 cx.2.1 cx.2.2.2.1 (cx.2.2.2.2.1 _ hw) hd (h H locs la hP hS hl)
theorem r_ldcS (cx : Cx p l e R s m args meth c own cc nL n k ret g ad A) {idx j : Nat} {tx : String} (hd : decode cc pc = .ok (.ldc idx, 2)) (hw : (own, idx, tx, j) ∈ strs) (h : WF p l e R s m args below meth c nL g ad A Z (pc + 2) ls (.ref (1000 + j) :: st) d u) : WF p l e R s m args below meth c nL g ad A Z pc ls st d u :=
  fun H locs la hP hS hl => va_ldcS cx.1 cx.2.1 cx.2.2.2.1 (cx.2.2.2.2.2.2.2.2.2.1.2.1 _ hw) hd (h H locs la hP hS hl)
end Rules2
