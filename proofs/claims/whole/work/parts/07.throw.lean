/-! THROWS; MATH; ARRAYCOPY; THE CONTRACT FROM A WALK -/
def atW (own : String) (ic : Nat) (cls : String) : List Cond := if cls = "java/util/NoSuchElementException" then nkAt own ic cls else vx_atS own ic cls ["java/lang/RuntimeException", "java/lang/Exception"]
/-- the words of 'throw new E("text")' -/
def okT (own cls text : String) (ik is ic j : Nat) : Prop :=
  Cond.classLink own ik cls ∈ gw ∧ Cond.initialized cls ∈ gw ∧ (own, is, text, j) ∈ strs ∧ Bundle.fit cls = true ∧ (∀ w ∈ atW own ic cls, w ∈ gw ∨ w ∈ ngw) ∧ (∀ w ∈ atW own ic cls, vx_ot w = true)
theorem names_fit : ∀ n ∈ ["java/lang/RuntimeException", "java/lang/Exception"], Bundle.fit n = true := by decide +kernel
theorem ngw_tab {w : Cond} (h : w ∈ ngw) : w.onTables = true := by
  have h1 := (List.mem_filter.mp h).2
  cases w <;> first | rfl | cases h1
section Rules4
variable {p : Program} {l : Launch} {e : Env} {R : Room} {s : State} {m : MethodId} {args : Array Value} {below : List Frame} {meth : Method} {c : Code} {own : String} {cc : ByteArray} {nL n k : Nat} {ret : Option FieldType} {g : GG} {ad : Nat → Nat} {A : Nat → Prop} {Z : State → Prop} {pc : Nat} {ls : ALs} {st : List Value} {d : DS} {u : Nat} {Q : Option Value → DS → Prop} {X : String → DS → Prop}
theorem e_throw (cx : Cx p l e R s m args meth c own cc nL n k ret g ad A) {cls text : String} {ik is ic j : Nat} (hk : okT own cls text ik is ic j) (d0 : decode cc pc = .ok (.new ik, 3)) (d3 : decode cc (pc + 3) = .ok (.dup, 1)) (d4 : decode cc (pc + 4) = .ok (.ldc is, 2)) (d6 : decode cc (pc + 6) = .ok (.invokespecial ic, 3)) (d9 : decode cc (pc + 9) = .ok (.athrow, 1))
    (hn : 6 ≤ n) (hcat : (st.map fun v => v.category).sum ≤ 8) (hu : u + 1 ≤ k) (hx : X cls d) :
    WF p l e R s m args below meth c nL g ad A (vx_MQ below (QM g ad A Q) (XM g ad A X) args s k (8 * k) A) pc ls st d u := by
  intro H locs la hP hS hl
  obtain ⟨h1, hb, hml, hown, hts, hr, hlk, hex, ⟨r1, r2, r3, r4⟩, hG, hD, hA, hst⟩ := cx
  obtain ⟨k1, k2, k3, k4, k5, k6⟩ := hk
  by_cases hq : cls = "java/util/NoSuchElementException"
  · rw [atW, if_pos hq] at k5 k6
    refine nk_throw (text := text) (sa := ad (1000 + j)) (A := A) h1 hb hst hown k4 (hts _ k1) (hts _ k2) (hG.2.1 _ k3) (fun w hw => ?_) (fun w hw => ?_) hG.2.2.2.1 hG.2.2.2.2.1 hS (hl.1.trans hml.symm) d0 d3 d4 d6 d9 (fun x hx => (hex x hx).elim) ?_ ?_ (by omega) (by omega) hlk (fun t hal hsz hq => ⟨⟨d, hx, hP.kept (fun i q hi => hq _ (hP i q hi).lt)⟩, ⟨Nat.le_trans hS.1 hsz, fun q q1 q2 => by rw [hq q (Nat.lt_of_lt_of_le q1 hS.1)]; exact hS.2.1 q q1 q2⟩⟩) hS.2.2 (by omega) (by omega)
    · rcases k5 w hw with q | q
      · exact hts w q
      · exact va_Nw.use (ngw_tab q) (hG.2.2.2.2.2.2.2.1 w q)
    · rcases List.mem_cons.mp hw with rfl | hw
      · simp [vx_ot, gw_good k1]
      · rcases List.mem_cons.mp hw with rfl | hw
        · simp [vx_ot, gw_good k2]
        · exact k6 w hw
    · show 5 < R.frames
      omega
    · show _ + (13 * (2 + 1) + 43) ≤ R.locals
      rw [cat_map]
      omega
  · rw [atW, if_neg hq] at k5 k6
    refine vx_throwS (names := ["java/lang/RuntimeException", "java/lang/Exception"]) (text := text) (sa := ad (1000 + j)) (A := A) h1 hb hst hown k4 names_fit (hts _ k1) (hts _ k2) (hG.2.1 _ k3) (fun w hw => ?_) (fun w hw => ?_) hG.2.2.2.1 hG.2.2.2.2.1 hS (hl.1.trans hml.symm) d0 d3 d4 d6 d9 (fun x hx => (hex x hx).elim) ?_ ?_ (by omega) (by omega) hlk (fun t hal hsz hq => ⟨⟨d, hx, hP.kept (fun i q hi => hq _ (hP i q hi).lt)⟩, ⟨Nat.le_trans hS.1 hsz, fun q q1 q2 => by rw [hq q (Nat.lt_of_lt_of_le q1 hS.1)]; exact hS.2.1 q q1 q2⟩⟩) hS.2.2 (by omega) (by omega)
    · rcases k5 w hw with q | q
      · exact hts w q
      · exact va_Nw.use (ngw_tab q) (hG.2.2.2.2.2.2.2.1 w q)
    · rcases List.mem_cons.mp hw with rfl | hw
      · simp [vx_ot, gw_good k1]
      · rcases List.mem_cons.mp hw with rfl | hw
        · simp [vx_ot, gw_good k2]
        · exact k6 w hw
    · show 2 + 3 < R.frames
      omega
    · show _ + (13 * (2 + 1) + 43) ≤ R.locals
      rw [cat_map]
      omega
theorem e_throwW (cx : Cx p l e R s m args meth c own cc nL n k ret g ad A) {cls text : String} {ik is ic j : Nat} (hk : okT own cls text ik is ic j) (d0 : decode cc pc = .ok (.new ik, 3)) (d3 : decode cc (pc + 3) = .ok (.dup, 1)) (d4 : decode cc (pc + 4) = .ok (.ldc_w is, 3)) (d6 : decode cc (pc + 7) = .ok (.invokespecial ic, 3)) (d9 : decode cc (pc + 10) = .ok (.athrow, 1))
    (hn : 6 ≤ n) (hcat : (st.map fun v => v.category).sum ≤ 8) (hu : u + 1 ≤ k) (hx : X cls d) :
    WF p l e R s m args below meth c nL g ad A (vx_MQ below (QM g ad A Q) (XM g ad A X) args s k (8 * k) A) pc ls st d u := by
  intro H locs la hP hS hl
  obtain ⟨h1, hb, hml, hown, hts, hr, hlk, hex, ⟨r1, r2, r3, r4⟩, hG, hD, hA, hst⟩ := cx
  obtain ⟨k1, k2, k3, k4, k5, k6⟩ := hk
  by_cases hq : cls = "java/util/NoSuchElementException"
  · rw [atW, if_pos hq] at k5 k6
    refine nk_throwW (text := text) (sa := ad (1000 + j)) (A := A) h1 hb hst hown k4 (hts _ k1) (hts _ k2) (hG.2.1 _ k3) (fun w hw => ?_) (fun w hw => ?_) hG.2.2.2.1 hG.2.2.2.2.1 hS (hl.1.trans hml.symm) d0 d3 d4 d6 d9 (fun x hx => (hex x hx).elim) ?_ ?_ (by omega) (by omega) hlk (fun t hal hsz hq => ⟨⟨d, hx, hP.kept (fun i q hi => hq _ (hP i q hi).lt)⟩, ⟨Nat.le_trans hS.1 hsz, fun q q1 q2 => by rw [hq q (Nat.lt_of_lt_of_le q1 hS.1)]; exact hS.2.1 q q1 q2⟩⟩) hS.2.2 (by omega) (by omega)
    · rcases k5 w hw with q | q
      · exact hts w q
      · exact va_Nw.use (ngw_tab q) (hG.2.2.2.2.2.2.2.1 w q)
    · rcases List.mem_cons.mp hw with rfl | hw
      · simp [vx_ot, gw_good k1]
      · rcases List.mem_cons.mp hw with rfl | hw
        · simp [vx_ot, gw_good k2]
        · exact k6 w hw
    · show 5 < R.frames
      omega
    · show _ + (13 * (2 + 1) + 43) ≤ R.locals
      rw [cat_map]
      omega
  · rw [atW, if_neg hq] at k5 k6
    refine vx_throwSW (names := ["java/lang/RuntimeException", "java/lang/Exception"]) (text := text) (sa := ad (1000 + j)) (A := A) h1 hb hst hown k4 names_fit (hts _ k1) (hts _ k2) (hG.2.1 _ k3) (fun w hw => ?_) (fun w hw => ?_) hG.2.2.2.1 hG.2.2.2.2.1 hS (hl.1.trans hml.symm) d0 d3 d4 d6 d9 (fun x hx => (hex x hx).elim) ?_ ?_ (by omega) (by omega) hlk (fun t hal hsz hq => ⟨⟨d, hx, hP.kept (fun i q hi => hq _ (hP i q hi).lt)⟩, ⟨Nat.le_trans hS.1 hsz, fun q q1 q2 => by rw [hq q (Nat.lt_of_lt_of_le q1 hS.1)]; exact hS.2.1 q q1 q2⟩⟩) hS.2.2 (by omega) (by omega)
    · rcases k5 w hw with q | q
      · exact hts w q
      · exact va_Nw.use (ngw_tab q) (hG.2.2.2.2.2.2.2.1 w q)
    · rcases List.mem_cons.mp hw with rfl | hw
      · simp [vx_ot, gw_good k1]
      · rcases List.mem_cons.mp hw with rfl | hw
        · simp [vx_ot, gw_good k2]
        · exact k6 w hw
    · show 2 + 3 < R.frames
      omega
    · show _ + (13 * (2 + 1) + 43) ≤ R.locals
      rw [cat_map]
      omega
def okMath (own : String) (idx : Nat) (y : MethodName) (b : ByteArray) (mL : Nat) : Prop := Cond.methodLink own idx y ∈ gw ∧ Cond.static y ∈ gw ∧ Cond.initialized "java/lang/Math" ∈ gw ∧ Cond.code y b mL (some .int) ∈ gw
theorem r_max (cx : Cx p l e R s m args meth c own cc nL n k ret g ad A) {idx : Nat} {x y : Int32} (hd : decode cc pc = .ok (.invokestatic idx, 3)) (hk : okMath own idx Lib.Math.max.name Lib.Math.max.code 2) (hn : 1 ≤ n) (hu : u ≤ k) (hcat : (st.map fun v => v.category).sum ≤ 8) (h : WF p l e R s m args below meth c nL g ad A Z (pc + 3) ls (.int (if x < y then y else x) :: st) d u) : WF p l e R s m args below meth c nL g ad A Z pc ls (.int y :: .int x :: st) d u := by
  intro H locs la hP hS hl
  obtain ⟨h1, hb, hml, hown, hts, hr, hlk, hex, ⟨r1, r2, r3, r4⟩, hG, hD, hA, hst⟩ := cx
  obtain ⟨k1, k2, k3, k4⟩ := hk
  exact va_mmax h1 hb (hml.trans hl.1.symm) hown (hts _ k1) (hts _ k2) (hts _ k3) (hts _ k4) (by omega) (by rw [cat_map]; omega) (by omega) (by omega) hd (h H locs la hP hS hl)
theorem r_min (cx : Cx p l e R s m args meth c own cc nL n k ret g ad A) {idx : Nat} {x y : Int32} (hd : decode cc pc = .ok (.invokestatic idx, 3)) (hk : okMath own idx Lib.Math.min.name Lib.Math.min.code 2) (hn : 1 ≤ n) (hu : u ≤ k) (hcat : (st.map fun v => v.category).sum ≤ 8) (h : WF p l e R s m args below meth c nL g ad A Z (pc + 3) ls (.int (if y < x then y else x) :: st) d u) : WF p l e R s m args below meth c nL g ad A Z pc ls (.int y :: .int x :: st) d u := by
  intro H locs la hP hS hl
  obtain ⟨h1, hb, hml, hown, hts, hr, hlk, hex, ⟨r1, r2, r3, r4⟩, hG, hD, hA, hst⟩ := cx
  obtain ⟨k1, k2, k3, k4⟩ := hk
  exact va_mmin h1 hb (hml.trans hl.1.symm) hown (hts _ k1) (hts _ k2) (hts _ k3) (hts _ k4) (by omega) (by rw [cat_map]; omega) (by omega) (by omega) hd (h H locs la hP hS hl)
theorem r_abs (cx : Cx p l e R s m args meth c own cc nL n k ret g ad A) {idx : Nat} {x : Int32} (hd : decode cc pc = .ok (.invokestatic idx, 3)) (hk : okMath own idx Lib.Math.abs.name Lib.Math.abs.code 1) (hn : 1 ≤ n) (hu : u ≤ k) (hcat : (st.map fun v => v.category).sum ≤ 8) (h : WF p l e R s m args below meth c nL g ad A Z (pc + 3) ls (.int (if 0 ≤ x then x else 0 - x) :: st) d u) : WF p l e R s m args below meth c nL g ad A Z pc ls (.int x :: st) d u := by
  intro H locs la hP hS hl
  obtain ⟨h1, hb, hml, hown, hts, hr, hlk, hex, ⟨r1, r2, r3, r4⟩, hG, hD, hA, hst⟩ := cx
  obtain ⟨k1, k2, k3, k4⟩ := hk
  exact va_mabs h1 hb (hml.trans hl.1.symm) hown (hts _ k1) (hts _ k2) (hts _ k3) (hts _ k4) (by omega) (by rw [cat_map]; omega) (by omega) (by omega) hd (h H locs la hP hS hl)
def okCopy (own : String) (idx : Nat) : Prop := Cond.methodLink own idx arraycopyName ∈ gw ∧ Cond.native arraycopyName ∈ gw ∧ Cond.static arraycopyName ∈ gw ∧ Cond.initialized "java/lang/System" ∈ gw
theorem copy_words : nativeFrameWords "java/lang/System" "arraycopy" 5 ≤ 150 := by decide +kernel
theorem r_copy (cx : Cx p l e R s m args meth c own cc nL n k ret g ad A) {idx a b n0 n1 : Nat} {q0 q1 : List Nat} {sp dp cn : Int32} (hd : decode cc pc = .ok (.invokestatic idx, 3)) (hk : okCopy own idx) (ha : lay[a]? = some (1, n0, q0)) (hb' : lay[b]? = some (1, n1, q1)) (h1 : ¬ sp < 0) (h2 : ¬ dp < 0) (h3 : ¬ cn < 0) (h4 : sp.toNatClampNeg + cn.toNatClampNeg ≤ n0) (h5 : dp.toNatClampNeg + cn.toNatClampNeg ≤ n1)
    (hn : 1 ≤ n) (hcat : (st.map fun v => v.category).sum ≤ 8) (h : WF p l e R s m args below meth c nL g ad A Z (pc + 3) ls st (drow d b (va_cpy (d a) (d b) sp.toNatClampNeg dp.toNatClampNeg cn.toNatClampNeg)) u) : WF p l e R s m args below meth c nL g ad A Z pc ls (.int cn :: .int dp :: .ref b :: .int sp :: .ref a :: st) d u := by
  intro H locs la hP hS hl
  obtain ⟨hx, hb, hml, hown, hts, hr, hlk, hex, ⟨r1, r2, r3, r4⟩, hG, hD, hA, hst⟩ := cx
  obtain ⟨k1, k2, k3, k4⟩ := hk
  have hw := copy_words
  refine va_copyi (D := g.1) (cl := vwCl) (ws := wld g ad d) (a0 := ad a) (a := ad b) (f := d a) (g := d b) (ty := .int) hx hb (hml.trans hl.1.symm) hown (hts _ k1) (hts _ k2) (hts _ k3) (hts _ k4) hG.1 hP (hD d) hS a b 0 0 (wld_at ha) (wld_at hb') rfl rfl rfl h1 h2 h3 h4 h5 (fun i _ => rfl) (by omega) (by rw [cat_map]; omega) hd (fun H1 locs1 hP1 hD1 hS1 => ?_)
  have e1 : (wld g ad d).set b (ad b, .inl (g.2.1, n1, .inl (va_cpy (d a) (d b) sp.toNatClampNeg dp.toNatClampNeg cn.toNatClampNeg))) = wld g ad (drow d b (va_cpy (d a) (d b) sp.toNatClampNeg dp.toNatClampNeg cn.toNatClampNeg)) := by
    conv => lhs; rw [← drow_self (d := d) (a := b) (f := va_cpy (d a) (d b) sp.toNatClampNeg dp.toNatClampNeg cn.toNatClampNeg)]
    exact wld_set hb' drow_other
  rw [e1] at hP1
  exact h H1 locs1 la hP1 hS1 hl
end Rules4
/-- the locals with which a method begins -/
def eloc : List Value → ALs
  | [] => []
  | v :: r => if v.category = 2 then some v :: none :: eloc r else some v :: eloc r
theorem eloc_args {ad : Nat → Nat} {q : Nat × Value} : ∀ {as : List Value} {i j : Nat}, q ∈ lof ad i (eloc as ++ List.replicate j none) → q ∈ lv_args i (as.map (cv ad)) := by
  intro as
  induction as with
  | nil =>
    intro i j h
    rw [lof_mem] at h
    obtain ⟨a, v, h1, -⟩ := h
    simp only [eloc, List.nil_append] at h1
    have := List.eq_of_mem_replicate (List.mem_of_getElem? h1)
    cases this
  | cons v r ih =>
    intro i j h
    rw [List.map_cons, lv_args]
    by_cases hc : v.category = 2
    · rw [eloc, if_pos hc] at h
      rw [List.cons_append, List.cons_append, lof, lof, List.mem_cons] at h
      rw [cv_cat, if_pos hc]
      rcases h with h | h
      · rw [h]; exact List.mem_cons_self
      · exact List.mem_cons_of_mem _ (ih h)
    · rw [eloc, if_neg hc] at h
      rw [List.cons_append, lof, List.mem_cons] at h
      rw [cv_cat, if_neg hc]
      rcases h with h | h
      · rw [h]; exact List.mem_cons_self
      · exact List.mem_cons_of_mem _ (ih h)
theorem sl_len (ad : Nat → Nat) : ∀ as : List Value, (lg_sl (as.map (cv ad))).length = (eloc as).length := by
  intro as
  induction as with
  | nil => rfl
  | cons v r ih =>
    rw [List.map_cons, eloc]
    unfold lg_sl at ih ⊢
    rw [List.flatMap_cons, List.length_append, ih, cv_cat]
    split <;> simp <;> omega
/-- A CONTRACT FROM A WALK -/
theorem CM.walk {l : Launch} {me : ME} {n k : Nat} {as : List Value} {d : DS} {Q : Option Value → DS → Prop} {X : String → DS → Prop} (hl : l.stackTraces = false) (hy : plainName me.1.cls = true) (hlen : (eloc as).length ≤ me.2.2.1)
    (body : ∀ (p : Program) (e : Env) (R : Room) (s : State) (m : MethodId) (args : Array Value) (below : List Frame) (meth : Method) (c : Code) (g : GG) (ad : Nat → Nat) (A : Nat → Prop), Cx p l e R s m args meth c me.1.cls me.2.1 me.2.2.1 n k me.2.2.2 g ad A →
      WF p l e R s m args below meth c me.2.2.1 g ad A (vx_MQ below (QM g ad A Q) (XM g ad A X) args s k (8 * k) A) 0 (eloc as ++ List.replicate (me.2.2.1 - (eloc as).length) none) [] d 0) : CM l me n k as d Q X := by
  intro g ad sz
  refine vx_ofW (cc := me.2.1) (maxL := me.2.2.1) (ret := me.2.2.2) hy rfl ?_
  intro p e s m args below meth c s₁ B hml hex hv
  obtain ⟨rfl, hsz, hP, hG, hD0⟩ := hv
  subst hsz
  have hts := atoms_spec (ws := wsM me) B.pre
  have hD : ∀ d', va_D (va_A (wld g ad d) s.heap.size) (wld g ad d') := fun d' => wld_D (hD0.self (sz := s.heap.size))
  have cx : Cx p l e (rmM n k) s m (as.map (cv ad)).toArray meth c me.1.cls me.2.1 me.2.2.1 n k me.2.2.2 g ad (va_A (wld g ad d) s.heap.size) :=
    ⟨B.exec, B.bytes, hml, findClass_of_methodNamed B.named, fun w hw => hts w (List.mem_cons_of_mem _ hw), B.returns, B.notSynchronized, hex, ⟨Nat.le_refl _, Nat.le_refl _, Nat.le_refl _, Nat.le_refl _⟩, hG, hD, fun q h => Or.inr h, hl⟩
  have hl0 := lv_entry (as.map (cv ad)) (n := me.2.2.1) (by rw [sl_len]; exact hlen)
  rw [lg_entry_eq]
  exact body p e (rmM n k) s m _ below meth c g ad _ cx s.heap [] _ hP va_S.rf (lvh_mono hl0 (fun q hq => eloc_args hq))
section Rules5
variable {p : Program} {l : Launch} {e : Env} {R : Room} {s : State} {m : MethodId} {args : Array Value} {below : List Frame} {meth : Method} {c : Code} {own : String} {cc : ByteArray} {nL n k : Nat} {ret : Option FieldType} {g : GG} {ad : Nat → Nat} {A : Nat → Prop} {Z : State → Prop} {pc : Nat} {ls : ALs} {st : List Value} {d : DS} {u : Nat}
theorem r_ldcwS (cx : Cx p l e R s m args meth c own cc nL n k ret g ad A) {idx j : Nat} {tx : String} (hd : decode cc pc = .ok (.ldc_w idx, 3)) (hw : (own, idx, tx, j) ∈ strs) (h : WF p l e R s m args below meth c nL g ad A Z (pc + 3) ls (.ref (1000 + j) :: st) d u) : WF p l e R s m args below meth c nL g ad A Z pc ls st d u := by
  intro H locs la hP hS hl T hT X
  obtain ⟨hx, hb, hml, hown, hts, hr, hlk, hex, hR, hG, hD, hA, hst⟩ := cx
  obtain ⟨t, a1, b1⟩ := h H locs la hP hS hl T hT X
  have hZ := hG.2.1 _ hw
  exact ⟨t, X.ldcStringW hx hown (text := tx) (a := ad (1000 + j)) hZ.1 hZ.2 (g := F0 m pc la (st.map (cv ad))) rfl (by rw [hb]; exact hd) t a1, b1⟩
end Rules5
