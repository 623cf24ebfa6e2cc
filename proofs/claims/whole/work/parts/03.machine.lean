/-! THE ABSTRACT MACHINE: the running system's cells are numbers (lay), its changing ints one function d; a method's contract CM; a frame's judgement WF -/
abbrev DS : Type := Nat → Nat → Int32
abbrev ALs : Type := List (Option Value)
/-- a method: name, code, locals, what it returns -/
abbrev ME : Type := MethodName × ByteArray × Nat × Option FieldType
/-- class numbers: of the objects; of int[], byte[], long[], String[]; where the Strings' own arrays lie -/
abbrev GG : Type := va_G × ClassId × ClassId × ClassId × ClassId × (Nat → Nat)
def cv (ad : Nat → Nat) : Value → Value
  | .ref a => .ref (ad a)
  | v => v
theorem cv_cat (ad : Nat → Nat) (v : Value) : (cv ad v).category = v.category := by cases v <;> rfl
def dset (d : DS) (c k : Nat) (v : Int32) : DS := va_up d c (upd (d c) k v)
def drow (d : DS) (c : Nat) (f : Nat → Int32) : DS := va_up d c f
def slv (d : DS) (c k code : Nat) : Value := if code = 0 then .int (d c k) else if code = 1 then .ref (d c k).toNatClampNeg else .ref (code - 2)
def fls (ad : Nat → Nat) (d : DS) (c : Nat) (sl : List Nat) : List Value := (List.range sl.length).map (fun k => cv ad (slv d c k (sl.getD k 0)))
def ent (g : GG) (ad : Nat → Nat) (d : DS) (c : Nat) (q : Nat × Nat × List Nat) : va_E :=
  if q.1 = 0 then .inr (q.2.1, fls ad d c q.2.2)
  else if q.1 = 1 then .inl (g.2.1, q.2.1, .inl (d c))
  else if q.1 = 2 then .inl (g.2.2.1, q.2.1, .inl (d c))
  else if q.1 = 3 then .inl (g.2.2.2.1, q.2.1, .inr (.inl (fun i => (d c i).toInt64)))
  else .inl (g.2.2.2.2.1, q.2.1, .inr (.inr (.inr (.inr (fun i => (q.2.2[i]?).map ad)))))
def wld (g : GG) (ad : Nat → Nat) (d : DS) : va_W := (List.range lay.length).map (fun c => (ad c, ent g ad d c (lay.getD c (9, 0, []))))
theorem wld_at {g : GG} {ad : Nat → Nat} {d : DS} {c : Nat} {q : Nat × Nat × List Nat} (h : lay[c]? = some q) : (wld g ad d)[c]? = some (ad c, ent g ad d c q) := by
  have hc : c < lay.length := (List.getElem?_eq_some_iff.mp h).1
  have h2 : lay.getD c (9, 0, []) = q := by rw [List.getD_eq_getElem?_getD, h]; rfl
  unfold wld
  rw [List.getElem?_map, List.getElem?_range hc]
  simp only [Option.map_some, h2]
theorem wld_out {g : GG} {ad : Nat → Nat} {d : DS} {c : Nat} (h : lay[c]? = none) : (wld g ad d)[c]? = none := by
  have hc : lay.length ≤ c := by simpa using h
  unfold wld
  simpa using hc
theorem ent_congr {g : GG} {ad : Nat → Nat} {d d' : DS} {c : Nat} (q : Nat × Nat × List Nat) (h : d c = d' c) : ent g ad d c q = ent g ad d' c q := by
  unfold ent fls slv
  simp only [h]
theorem wld_set {g : GG} {ad : Nat → Nat} {d d' : DS} {c : Nat} {q : Nat × Nat × List Nat} (h : lay[c]? = some q) (ho : ∀ c', c' ≠ c → d' c' = d c') : (wld g ad d).set c (ad c, ent g ad d' c q) = wld g ad d' := by
  apply List.ext_getElem?
  intro i
  by_cases hi : i = c
  · subst hi
    rw [wld_at h, List.getElem?_set_self]
    exact (List.getElem?_eq_some_iff.mp (wld_at (g := g) (ad := ad) (d := d) h)).1
  · rw [List.getElem?_set_ne (fun e => hi e.symm)]
    cases hq : lay[i]? with
    | none => rw [wld_out hq, wld_out hq]
    | some q2 => rw [wld_at hq, wld_at hq, ent_congr q2 (ho i hi)]
theorem wld_A {g : GG} {ad : Nat → Nat} {d d' : DS} {sz q : Nat} (h : va_A (wld g ad d) sz q) : va_A (wld g ad d') sz q := by
  rcases h with ⟨k, e, hk⟩ | h
  · left
    cases hq : lay[k]? with
    | none => rw [wld_out hq] at hk; cases hk
    | some q2 =>
      rw [wld_at hq] at hk
      cases hk
      exact ⟨k, _, wld_at hq⟩
  · exact Or.inr h
theorem wld_D {g : GG} {ad : Nat → Nat} {d d' : DS} {A : Nat → Prop} (h : va_D A (wld g ad d)) : va_D A (wld g ad d') := by
  have key : ∀ (i : Nat) (p : Nat × va_E), (wld g ad d')[i]? = some p → ∃ p' : Nat × va_E, (wld g ad d)[i]? = some p' ∧ p'.1 = p.1 := by
    intro i p hp
    cases hq : lay[i]? with
    | none => rw [wld_out hq] at hp; cases hp
    | some q2 =>
      rw [wld_at hq] at hp
      cases hp
      exact ⟨_, wld_at hq, rfl⟩
  refine ⟨fun i j p q hp hq e => ?_, fun k q hq => ?_⟩
  · obtain ⟨p', h1, h2⟩ := key i p hp
    obtain ⟨q', h3, h4⟩ := key j q hq
    exact h.1 i j p' q' h1 h3 (by rw [h2, h4, e])
  · obtain ⟨q', h3, h4⟩ := key k q hq
    rw [← h4]
    exact h.2 k q' h3
def tysG (g : GG) : List (ClassId × FieldType) := [(g.2.1, .int), (g.2.2.1, .byte), (g.2.2.2.1, .long), (g.2.2.2.2.1, .object "java/lang/String")]
/-- words of the tables that aren't 'good': carried by themselves -/
def ngw : List Cond := lw_tbl.filter (fun w => match w with | .castable .. => true | .declares .. => true | _ => false)
theorem ngw_warm {w : Cond} (h : w ∈ ngw) {s U : State} (hW : s.WarmedH U.vm) (hZ : va_Nw w s) : va_Nw w U := by
  have h1 := (List.mem_filter.mp h).2
  cases w <;> first | exact va_Nw.warmC hW hZ | exact va_Nw.warmD hW hZ | cases h1
theorem ngw_same {w : Cond} (h : w ∈ ngw) {s U : State} (hv : s.vm = U.vm) (hZ : va_Nw w s) : va_Nw w U := by
  have h1 := (List.mem_filter.mp h).2
  refine va_Nw.same ?_ hv hZ
  cases w <;> first | rfl | cases h1
/-- what the heap outside holds: Strings, some statics -/
def GS (g : GG) (ad : Nat → Nat) (A : Nat → Prop) (U : State) (H : Heap) : Prop :=
  (∀ q ∈ strs, vk_R q.1 q.2.1 q.2.2.1 (ad (1000 + q.2.2.2)) U) ∧ (∀ i : Nat, i < 28 → vk_S 1 [slen.getD i 0] [sbyt.getD i []] (fun _ => ad (1000 + i)) (fun _ => g.2.2.2.2.2 i) A U H) ∧
  vx_Zq Bundle.tN "UNASSIGNED_STACK" Bundle.steD A U H ∧ vx_Zq Bundle.tN "SUPPRESSED_SENTINEL" Bundle.listD A U H ∧ va_Z "java/lang/String" "COMPACT_STRINGS" "Z" (.int 1) A U H ∧ va_Zq "jdk/internal/util/Preconditions" "SIOOBE_FORMATTER" "Ljava/util/function/BiFunction;" A U H ∧
  (∀ w ∈ ngw, va_Nw w U) ∧ va_Nc "java/lang/IllegalArgumentException" "java/util/NoSuchElementException" U ∧ va_Nc "java/util/NoSuchElementException" "java/lang/IllegalArgumentException" U
def GI (g : GG) (ad : Nat → Nat) (A : Nat → Prop) (U : State) (H : Heap) : Prop := va_K g.1 vwCl (tysG g) U ∧ GS g ad A U H
theorem GI.to {g : GG} {ad : Nat → Nat} {A B : Nat → Prop} {s U : State} {H : Heap} (h : GI g ad A s s.heap) (hW : s.WarmedH U.vm) (hAB : ∀ q, B q → A q) (hq : ∀ a : Nat, a < s.heap.size → ¬ A a → H[a]? = s.heap[a]?) : GI g ad B U H := by
  obtain ⟨h0, h1, h2, h3, h4, h5, h6, h7, h8, h9⟩ := h
  refine ⟨va_K.moved hW.alike h0, fun q hm => vk_R.warm hW (h1 q hm), fun i hi => ((vk_S.moved hW.alike (h2 i hi)).kept hq).narrow hAB, ((h3.moved hW.alike).kept hq).narrow hAB, ((h4.moved hW.alike).kept hq).narrow hAB, ((va_Z.moved hW.alike h5).kept hq).narrow hAB, ((va_Zq.moved hW.alike h6).kept hq).narrow hAB, fun w hw => ngw_warm hw hW (h7 w hw), h8.moved hW.alike, h9.moved hW.alike⟩
theorem GI.same {g : GG} {ad : Nat → Nat} {A : Nat → Prop} {u U : State} {H : Heap} (h : GI g ad A u H) (hv : U.vm = u.vm) : GI g ad A U H := by
  obtain ⟨h0, h1, h2, h3, h4, h5, h6, h7, h8, h9⟩ := h
  have hal : u.vm.Alike U.vm := by rw [hv]; exact Vm.Alike.refl u.vm
  exact ⟨va_K.moved hal h0, fun q hm => vk_R.same hv (h1 q hm), fun i hi => vk_S.moved hal (h2 i hi), h3.moved hal, h4.moved hal, va_Z.moved hal h5, va_Zq.moved hal h6, fun w hw => ngw_same hw hv.symm (h7 w hw), h8.moved hal, h9.moved hal⟩
def rmM (n k : Nat) : Room := { frames := n, cells := k, slots := 8 * k, locals := 200 * n }
def gw : List Cond := lw_tbl.filter goodWord
theorem gw_at {w : Cond} (i : Nat) (h : lw_tbl[i]? = some w) (hg : goodWord w = true) : w ∈ gw := List.mem_filter.mpr ⟨List.mem_of_getElem? h, hg⟩
theorem gw_good {w : Cond} (h : w ∈ gw) : goodWord w = true := (List.mem_filter.mp h).2
def wsM (me : ME) : List Cond := Cond.code me.1 me.2.1 me.2.2.1 me.2.2.2 :: gw
def QM (g : GG) (ad : Nat → Nat) (A : Nat → Prop) (Q : Option Value → DS → Prop) : Array Value → State → Outcome → State → Prop := fun _ st oc t =>
  (∃ (v : Option Value) (d : DS), oc = .returned (v.map (cv ad)) ∧ Q v d ∧ va_P g.1 vwCl (wld g ad d) t.heap) ∧ va_F A st t
def XM (g : GG) (ad : Nat → Nat) (A : Nat → Prop) (X : String → DS → Prop) : String → State → State → Prop := fun E st t =>
  (∃ d : DS, X E d ∧ va_P g.1 vwCl (wld g ad d) t.heap) ∧ va_F A st t
def PM (g : GG) (ad : Nat → Nat) (as : List Value) (d : DS) (sz : Nat) : Array Value → State → Prop :=
  va_Pc (as.map (cv ad)) (fun U => U.heap.size = sz ∧ va_P g.1 vwCl (wld g ad d) U.heap ∧ GI g ad (va_A (wld g ad d) sz) U U.heap ∧ va_D (fun _ => True) (wld g ad d))
/-- THE CONTRACT: method me, called at depth n with as in d, making at most k cells, returns with Q or throws with X -/
def CM (l : Launch) (me : ME) (n k : Nat) (as : List Value) (d : DS) (Q : Option Value → DS → Prop) (X : String → DS → Prop) : Prop :=
  ∀ (g : GG) (ad : Nat → Nat) (sz : Nat), vx_Met l me.1 (wsM me) (rmM n k) (PM g ad as d sz) (QM g ad (va_A (wld g ad d) sz) Q) (XM g ad (va_A (wld g ad d) sz) X) k (8 * k) (va_A (wld g ad d) sz)
theorem CM.mono {l : Launch} {me : ME} {n k : Nat} {as : List Value} {d : DS} {Q Q' : Option Value → DS → Prop} {X X' : String → DS → Prop} (h : CM l me n k as d Q X) (hQ : ∀ v d, Q v d → Q' v d) (hX : ∀ E d, X E d → X' E d) : CM l me n k as d Q' X' := by
  intro g ad sz p e ha hc hk s m args below hf happ hP hK
  obtain ⟨n, o, h1, h2, h3, h4⟩ := h g ad sz p e ha hc hk s m args below hf happ hP hK
  refine ⟨n, o, h1, h2, h3, ?_⟩
  rcases h4 with ⟨⟨⟨v, d', e1, q1, q2⟩, hF⟩, hL⟩ | ⟨q, e1, E, ce, L, ⟨⟨d', x1, x2⟩, hF⟩, hr⟩
  · exact Or.inl ⟨⟨⟨v, d', e1, hQ v d' q1, q2⟩, hF⟩, hL⟩
  · exact Or.inr ⟨q, e1, E, ce, L, ⟨⟨d', hX E d' x1, x2⟩, hF⟩, hr⟩
/-- the locals that are known -/
def lof (ad : Nat → Nat) : Nat → ALs → List (Nat × Value)
  | _, [] => []
  | i, none :: r => lof ad (i + 1) r
  | i, some v :: r => (i, cv ad v) :: lof ad (i + 1) r
theorem lof_mem {ad : Nat → Nat} {q : Nat × Value} : ∀ {ls : ALs} {i : Nat}, q ∈ lof ad i ls ↔ ∃ (j : Nat) (v : Value), ls[j]? = some (some v) ∧ q = (i + j, cv ad v) := by
  intro ls
  induction ls with
  | nil => intro i; simp [lof]
  | cons o r ih =>
    intro i
    cases o with
    | none =>
      rw [lof, ih]
      constructor
      · rintro ⟨j, v, h1, h2⟩
        exact ⟨j + 1, v, by simpa using h1, by rw [h2]; congr 1; omega⟩
      · rintro ⟨j, v, h1, h2⟩
        cases j with
        | zero => simp at h1
        | succ j => exact ⟨j, v, by simpa using h1, by rw [h2]; congr 1; omega⟩
    | some w =>
      rw [lof, List.mem_cons, ih]
      constructor
      · rintro (h | ⟨j, v, h1, h2⟩)
        · exact ⟨0, w, by simp, by rw [h]; rfl⟩
        · exact ⟨j + 1, v, by simpa using h1, by rw [h2]; congr 1; omega⟩
      · rintro ⟨j, v, h1, h2⟩
        cases j with
        | zero =>
          simp at h1
          exact Or.inl (by rw [h2, ← h1]; rfl)
        | succ j => exact Or.inr ⟨j, v, by simpa using h1, by rw [h2]; congr 1; omega⟩
theorem lof_in {ad : Nat → Nat} {ls : ALs} {j : Nat} {v : Value} (h : ls[j]? = some (some v)) : (j, cv ad v) ∈ lof ad 0 ls := lof_mem.mpr ⟨j, v, h, by rw [Nat.zero_add]⟩
theorem lvh_at {a : Array Slot} {nL : Nat} {ad : Nat → Nat} {ls : ALs} {j : Nat} {v : Value} (h : lv_has a nL (lof ad 0 ls)) (hj : ls[j]? = some (some v)) : a[j]? = some (.val (cv ad v)) := h.2.2 _ (lof_in hj)
theorem lvh_mono {a : Array Slot} {nL : Nat} {l l' : List (Nat × Value)} (h : lv_has a nL l) (hl : ∀ q ∈ l', q ∈ l) : lv_has a nL l' := ⟨h.1, h.2.1, fun q hq => h.2.2 q (hl q hq)⟩
/-- a store at j doesn't break a long ahead of it -/
def lok (ls : ALs) : Nat → Bool
  | 0 => true
  | j + 1 => match ls[j]? with
    | some (some v) => v.category == 1
    | _ => true
theorem lof_set {ad : Nat → Nat} {ls : ALs} {j : Nat} {v : Value} (hk : lok ls j = true) : ∀ q ∈ lof ad 0 (ls.set j (some v)), q ∈ (j, cv ad v) :: (lof ad 0 ls).filter (fun q => !(q.1 == j) && !(q.1 + 1 == j && q.2.category == 2)) := by
  intro q hq
  obtain ⟨i, w, h1, h2⟩ := lof_mem.mp hq
  rw [Nat.zero_add] at h2
  by_cases hi : i = j
  · subst hi
    have hl : i < ls.length := by
      have := (List.getElem?_eq_some_iff.mp h1).1
      simpa using this
    rw [List.getElem?_set_self hl] at h1
    cases h1
    rw [h2]
    exact List.mem_cons_self
  · rw [List.getElem?_set_ne (fun e => hi e.symm)] at h1
    refine List.mem_cons_of_mem _ (List.mem_filter.mpr ⟨by rw [h2]; exact lof_in h1, ?_⟩)
    rw [h2]
    simp only [Bool.and_eq_true, Bool.not_eq_true', beq_eq_false_iff_ne, ne_eq, hi, not_false_eq_true, true_and, cv_cat]
    cases hb : (i + 1 == j && w.category == 2) with
    | false => rfl
    | true =>
      exfalso
      simp only [Bool.and_eq_true, beq_iff_eq] at hb
      obtain ⟨e1, e2⟩ := hb
      subst e1
      simp only [lok, h1, beq_iff_eq] at hk
      omega
