/-! A BLOCK'S PROPOSITION GIVES THE WALK -/
theorem pI_spec {st : List Value} {f : Int32 → List Value → Prop} (h : pI st f) : ∃ x r, st = .int x :: r ∧ f x r := by
  match st, h with
  | .int x :: r, h => exact ⟨x, r, rfl, h⟩
theorem pII_spec {st : List Value} {f : Int32 → Int32 → List Value → Prop} (h : pII st f) : ∃ x y r, st = .int y :: .int x :: r ∧ f x y r := by
  match st, h with
  | .int y :: .int x :: r, h => exact ⟨x, y, r, rfl, h⟩
theorem pLL_spec {st : List Value} {f : Int64 → Int64 → List Value → Prop} (h : pLL st f) : ∃ x y r, st = .long y :: .long x :: r ∧ f x y r := by
  match st, h with
  | .long y :: .long x :: r, h => exact ⟨x, y, r, rfl, h⟩
theorem pR_spec {st : List Value} {f : Nat → List Value → Prop} (h : pR st f) : ∃ x r, st = .ref x :: r ∧ f x r := by
  match st, h with
  | .ref x :: r, h => exact ⟨x, r, rfl, h⟩
theorem pIR_spec {st : List Value} {f : Int32 → Nat → List Value → Prop} (h : pIR st f) : ∃ i a r, st = .int i :: .ref a :: r ∧ f i a r := by
  match st, h with
  | .int i :: .ref a :: r, h => exact ⟨i, a, r, rfl, h⟩
theorem pIIR_spec {st : List Value} {f : Int32 → Int32 → Nat → List Value → Prop} (h : pIIR st f) : ∃ x i a r, st = .int x :: .int i :: .ref a :: r ∧ f x i a r := by
  match st, h with
  | .int x :: .int i :: .ref a :: r, h => exact ⟨x, i, a, r, rfl, h⟩
theorem lI_spec {ls : ALs} {j : Nat} {f : Int32 → Prop} (h : lI ls j f) : ∃ x, ls[j]? = some (some (.int x)) ∧ f x := by
  unfold lI at h
  split at h
  · rename_i x hx; exact ⟨x, hx, h⟩
  · exact h.elim
theorem lR_spec {ls : ALs} {j : Nat} {f : Nat → Prop} (h : lR ls j f) : ∃ x, ls[j]? = some (some (.ref x)) ∧ f x := by
  unfold lR at h
  split at h
  · rename_i x hx; exact ⟨x, hx, h⟩
  · exact h.elim
theorem lL_spec {ls : ALs} {j : Nat} {f : Int64 → Prop} (h : lL ls j f) : ∃ x, ls[j]? = some (some (.long x)) ∧ f x := by
  unfold lL at h
  split at h
  · rename_i x hx; exact ⟨x, hx, h⟩
  · exact h.elim
theorem aK_spec {a t : Nat} {f : Nat → List Nat → Prop} (h : aK a t f) : ∃ len q, lay[a]? = some (t, len, q) ∧ f len q := by
  unfold aK at h
  split at h
  · rename_i q hq
    obtain ⟨t', len, q⟩ := q
    obtain ⟨rfl, h⟩ := h
    exact ⟨len, q, hq, h⟩
  · exact h.elim
theorem fK_spec {a ci j : Nat} {f : Nat → Prop} (h : fK a ci j f) : ∃ sl code, lay[a]? = some (0, ci, sl) ∧ sl[j]? = some code ∧ f code := by
  unfold fK at h
  split at h
  · rename_i q hq
    obtain ⟨t', ci', sl⟩ := q
    obtain ⟨h1, h2, h⟩ := h
    split at h
    · rename_i code hc
      cases h1; cases h2
      exact ⟨sl, code, hq, hc, h⟩
    · exact h.elim
  · exact h.elim
theorem tgt_ok {pc : Nat} {off : Int} (h : 0 ≤ (pc : Int) + off) : (pc : Int) + off = ((tgt pc off : Nat) : Int) := by
  unfold tgt
  omega
theorem look_in (dflt x : Int) (P : Int → Prop) (h2 : P dflt) : ∀ (ps : List (Int × Int)), (∀ q ∈ ps, P q.2) → P (Op.lookupswitch.offset ps dflt x) := by
  intro ps
  induction ps with
  | nil => intro _; exact h2
  | cons q r ih =>
    intro h1
    obtain ⟨a, o⟩ := q
    unfold Op.lookupswitch.offset
    split
    · exact h1 (a, o) List.mem_cons_self
    · exact ih (fun q hq => h1 q (List.mem_cons_of_mem _ hq))
theorem rok_nar {rt : Option FieldType} {x : Int32} (h : rok rt x) : ∃ ty, rt = some ty ∧ narrow ty (.int x) = .int x := by
  unfold rok at h
  split at h
  · exact ⟨.int, rfl, rfl⟩
  · refine ⟨.boolean, rfl, ?_⟩
    rcases h with rfl | rfl <;> rfl
  · rename_i ty _ _; exact ⟨ty, rfl, h⟩
  · exact h.elim
section Sound
variable {p : Program} {l : Launch} {e : Env} {R : Room} {s : State} {m : MethodId} {args : Array Value} {below : List Frame} {meth : Method} {c : Code} {own : String} {cc : ByteArray} {nL n k : Nat} {ret : Option FieldType} {g : GG} {ad : Nat → Nat} {A : Nat → Prop} {Q : Option Value → DS → Prop} {X : String → DS → Prop}
set_option maxHeartbeats 4000000 in
theorem vcI_ok (cx : Cx p l e R s m args meth c own cc nL (n + 1) k ret g ad A) {pc : Nat} {i : Instr} {r : RS} {kk : ALs → List Value → DS → Nat → Prop} {ls : ALs} {st : List Value} {d : DS} {u : Nat} (hd : dcd cc pc i) (hk : lnk own cc pc i r)
    (hkk : ∀ ls st d u, kk ls st d u → WF p l e R s m args below meth c nL g ad A (vx_MQ below (QM g ad A Q) (XM g ad A X) args s k (8 * k) A) (pc + ilen i) ls st d u)
    (h : vcI l n k nL ret Q X (fun pc ls st d u => WF p l e R s m args below meth c nL g ad A (vx_MQ below (QM g ad A Q) (XM g ad A X) args s k (8 * k) A) pc ls st d u) pc i r kk ls st d u) :
    WF p l e R s m args below meth c nL g ad A (vx_MQ below (QM g ad A Q) (XM g ad A X) args s k (8 * k) A) pc ls st d u := by
  cases i <;> simp only [vcI] at h <;> first | exact h.elim | skip
  case iconst v => exact r_iconst cx hd (hkk _ _ _ _ h)
  case bipush v => exact r_bipush cx hd (hkk _ _ _ _ h)
  case sipush v => exact r_sipush cx hd (hkk _ _ _ _ h)
  case lconst v => exact r_lconst cx hd (hkk _ _ _ _ h)
  case iload_n j => obtain ⟨x, h1, h2⟩ := lI_spec h; exact r_iload_n cx hd h1 (hkk _ _ _ _ h2)
  case iload j => obtain ⟨x, h1, h2⟩ := lI_spec h; exact r_iload cx hd h1 (hkk _ _ _ _ h2)
  case aload_n j => obtain ⟨x, h1, h2⟩ := lR_spec h; exact r_aload_n cx hd h1 (hkk _ _ _ _ h2)
  case aload j => obtain ⟨x, h1, h2⟩ := lR_spec h; exact r_aload cx hd h1 (hkk _ _ _ _ h2)
  case lload_n j => obtain ⟨x, h1, h2⟩ := lL_spec h; exact r_lload_n cx hd h1 (hkk _ _ _ _ h2)
  case lload j => obtain ⟨x, h1, h2⟩ := lL_spec h; exact r_lload cx hd h1 (hkk _ _ _ _ h2)
  case istore_n j => obtain ⟨x, t, rfl, h1, h2, h3⟩ := pI_spec h; exact r_istore_n cx hd h1 h2 (hkk _ _ _ _ h3)
  case istore j => obtain ⟨x, t, rfl, h1, h2, h3⟩ := pI_spec h; exact r_istore cx hd h1 h2 (hkk _ _ _ _ h3)
  case astore_n j => obtain ⟨x, t, rfl, h1, h2, h3⟩ := pR_spec h; exact r_astore_n cx hd h1 h2 (hkk _ _ _ _ h3)
  case astore j => obtain ⟨x, t, rfl, h1, h2, h3⟩ := pR_spec h; exact r_astore cx hd h1 h2 (hkk _ _ _ _ h3)
  case iinc j v => obtain ⟨x, h1, h2, h3, h4⟩ := lI_spec h; exact r_iinc cx hd h1 h2 h3 (hkk _ _ _ _ h4)
  case iadd => obtain ⟨x, y, t, rfl, h1⟩ := pII_spec h; exact r_iadd cx hd (hkk _ _ _ _ h1)
  case isub => obtain ⟨x, y, t, rfl, h1⟩ := pII_spec h; exact r_isub cx hd (hkk _ _ _ _ h1)
  case imul => obtain ⟨x, y, t, rfl, h1⟩ := pII_spec h; exact r_imul cx hd (hkk _ _ _ _ h1)
  case iand => obtain ⟨x, y, t, rfl, h1⟩ := pII_spec h; exact r_iand cx hd (hkk _ _ _ _ h1)
  case ior => obtain ⟨x, y, t, rfl, h1⟩ := pII_spec h; exact r_ior cx hd (hkk _ _ _ _ h1)
  case ixor => obtain ⟨x, y, t, rfl, h1⟩ := pII_spec h; exact r_ixor cx hd (hkk _ _ _ _ h1)
  case ishl => obtain ⟨x, y, t, rfl, h1⟩ := pII_spec h; exact r_ishl cx hd (hkk _ _ _ _ h1)
  case ishr => obtain ⟨x, y, t, rfl, h1⟩ := pII_spec h; exact r_ishr cx hd (hkk _ _ _ _ h1)
  case iushr => obtain ⟨x, y, t, rfl, h1⟩ := pII_spec h; exact r_iushr cx hd (hkk _ _ _ _ h1)
  case idiv => obtain ⟨x, y, t, rfl, h0, h1⟩ := pII_spec h; exact r_idiv cx hd h0 (hkk _ _ _ _ h1)
  case irem => obtain ⟨x, y, t, rfl, h0, h1⟩ := pII_spec h; exact r_irem cx hd h0 (hkk _ _ _ _ h1)
  case ineg => obtain ⟨x, t, rfl, h1⟩ := pI_spec h; exact r_ineg cx hd (hkk _ _ _ _ h1)
  case i2l => obtain ⟨x, t, rfl, h1⟩ := pI_spec h; exact r_i2l cx hd (hkk _ _ _ _ h1)
  case i2b => obtain ⟨x, t, rfl, h1⟩ := pI_spec h; exact r_i2b cx hd (hkk _ _ _ _ h1)
  case lcmp => obtain ⟨x, y, t, rfl, h1⟩ := pLL_spec h; exact r_lcmp cx hd (hkk _ _ _ _ h1)
  case dup =>
    match st, h with
    | v :: t, h => exact r_dup cx hd h.1 (hkk _ _ _ _ h.2)
  case dup2 => obtain ⟨x, a, t, rfl, h1⟩ := pIR_spec h; exact r_dup2 cx hd rfl rfl (hkk _ _ _ _ h1)
  case getfield idx => obtain ⟨a, t, rfl, h1⟩ := pR_spec h; obtain ⟨sl, code, h2, h3, h4⟩ := fK_spec h1; exact r_get cx hd hk h2 h3 (hkk _ _ _ _ h4)
  case putfield idx =>
    match st, h with
    | .int x :: .ref a :: t, h =>
      obtain ⟨sl, code, h2, h3, h4, h5, h6⟩ := fK_spec h
      subst h4
      refine r_put cx hd hk.1 hk.2 h2 h3 (x := x) ?_ (fun w hw => ?_) (hkk _ _ _ _ h6)
      · simp [slv, dset, va_up, upd]
      · subst hw
        rcases h5 with h5 | ⟨h5, rfl | rfl⟩ <;> rw [h5] <;> exact ⟨rfl, rfl⟩
    | .ref b :: .ref a :: t, h =>
      obtain ⟨sl, code, h2, h3, h4, h5, h7, h6⟩ := fK_spec h
      subst h4
      refine r_put cx hd hk.1 hk.2 h2 h3 (x := nI b) ?_ (fun w hw => ?_) (hkk _ _ _ _ h6)
      · simp only [slv, dset_self, upd, if_true]
        simp only [Nat.succ_ne_zero, if_false, if_true]
        rw [nI_clamp (Nat.lt_trans h7 (by decide))]
      · subst hw
        rw [h5]
        exact ⟨rfl, rfl⟩
  case iaload => obtain ⟨i, a, t, rfl, h1⟩ := pIR_spec h; obtain ⟨len, q, h2, h3, h4⟩ := aK_spec h1; exact r_iaload cx hd h2 h3 (hkk _ _ _ _ h4)
  case baload => obtain ⟨i, a, t, rfl, h1⟩ := pIR_spec h; obtain ⟨len, q, h2, h3, h4⟩ := aK_spec h1; exact r_baload cx hd h2 h3 (hkk _ _ _ _ h4)
  case laload => obtain ⟨i, a, t, rfl, h1⟩ := pIR_spec h; obtain ⟨len, q, h2, h3, h4⟩ := aK_spec h1; exact r_laload cx hd h2 h3 (hkk _ _ _ _ h4)
  case aaload =>
    obtain ⟨i, a, t, rfl, h1⟩ := pIR_spec h
    obtain ⟨len, q, h2, h3, h4⟩ := aK_spec h1
    split at h4
    · rename_i b hb; exact r_aaload cx hd h2 h3 hb (hkk _ _ _ _ h4)
    · exact h4.elim
  case iastore => obtain ⟨x, i, a, t, rfl, h1⟩ := pIIR_spec h; obtain ⟨len, q, h2, h3, h4⟩ := aK_spec h1; exact r_iastore cx hd h2 h3 (hkk _ _ _ _ h4)
  case bastore => obtain ⟨x, i, a, t, rfl, h1⟩ := pIIR_spec h; obtain ⟨len, q, h2, h3, h4⟩ := aK_spec h1; exact r_bastore cx hd h2 h3 (hkk _ _ _ _ h4)
  case arraylength =>
    obtain ⟨a, t, rfl, h1⟩ := pR_spec h
    split at h1
    · rename_i q hq
      obtain ⟨t', len, q⟩ := q
      obtain ⟨h2, h3, h4⟩ := h1
      obtain ⟨t2, rfl⟩ : ∃ t2, t' = t2 + 1 := ⟨t' - 1, by dsimp only at h2; omega⟩
      exact r_alen cx hd hq (by dsimp only at h3; omega) (hkk _ _ _ _ h4)
    · exact h1.elim
  case ifCond q off => obtain ⟨x, t, rfl, h1, h2⟩ := pI_spec h; exact r_if cx hd (tgt_ok hk) h1 (fun z => hkk _ _ _ _ (h2 z))
  case if_icmp q off => obtain ⟨x, y, t, rfl, h1, h2⟩ := pII_spec h; exact r_icmp cx hd (tgt_ok hk) h1 (fun z => hkk _ _ _ _ (h2 z))
  case goto off => exact r_goto cx hd (tgt_ok hk) h
  case tableswitch dflt lo hi offs =>
    obtain ⟨x, t, rfl, h1, h2⟩ := pI_spec h
    obtain ⟨len, hd⟩ := hd
    obtain ⟨k1, k2, k3⟩ := hk
    refine r_table cx hd k1 (fun j off ho => ?_) k3 h1 h2
    have := List.all_eq_true.mp k2 off (by
      have := Array.mem_of_getElem? ho
      exact Array.mem_def.mp this)
    exact of_decide_eq_true this
  case lookupswitch dflt ps =>
    obtain ⟨x, t, rfl, h1⟩ := pI_spec h
    obtain ⟨len, hd⟩ := hd
    obtain ⟨k1, k2, k3⟩ := hk
    exact r_lookup cx hd k1 (look_in _ _ (fun z => 0 ≤ (pc : Int) + z) k3 _ (fun q hq => of_decide_eq_true (List.all_eq_true.mp k2 q hq))) h1
  case ireturn =>
    match st, h with
    | [.int x], h =>
      obtain ⟨ty, h1, h2⟩ := rok_nar h.1
      exact e_ret cx hd h1 h2 h.2.1 h.2.2
  case return_ => obtain ⟨rfl, h2, h3, h4⟩ := h; exact e_vret cx hd h2 h3 h4
  case ldc idx =>
    rcases hk with ⟨k1, k2⟩ | ⟨k1, tx, k2⟩
    · rw [if_pos k1] at h; exact r_ldc cx hd k2 (hkk _ _ _ _ h)
    · rw [if_neg (by omega)] at h; exact r_ldcS cx hd k2 (hkk _ _ _ _ h)
  case ldc_w idx =>
    rcases hk with ⟨k1, k2⟩ | ⟨k1, tx, k2⟩
    · rw [if_pos k1] at h; exact r_ldcw cx hd k2 (hkk _ _ _ _ h)
    · rw [if_neg (by omega)] at h; exact r_ldcwS cx hd k2 (hkk _ _ _ _ h)
  case ldc2_w idx => exact r_ldc2 cx hd hk (hkk _ _ _ _ h)
  case new ik =>
    obtain ⟨text, j, k1, k2, ⟨k3, k4, k5⟩ | ⟨k3, k4, k5⟩⟩ := hk
    · exact e_throw cx k1 hd k2 k3 k4 k5 h.1 h.2.1 h.2.2.1 h.2.2.2
    · exact e_throwW cx k1 hd k2 k3 k4 k5 h.1 h.2.1 h.2.2.1 h.2.2.2
  case invokevirtual idx =>
    obtain ⟨me, hme, hk⟩ := hk
    rw [hme] at h
    split at h
    · rename_i me' b t hm ht
      cases hm
      obtain ⟨h1, h2, h3, h4, h5⟩ := h
      have hst : st = ((st.take r.2.1).reverse).reverse ++ .ref b :: t := by rw [List.reverse_reverse, ← ht, List.take_append_drop]
      have hln : ((st.take r.2.1).reverse).length = r.2.1 := by rw [List.length_reverse, List.length_take]; omega
      rw [hst]
      rcases h1 with ⟨c1, c2, c3⟩ | ⟨sl, c1⟩
      · obtain ⟨j, rfl⟩ : ∃ j, b = 1000 + j := ⟨b - 1000, (Nat.add_sub_cancel' c2).symm⟩
        rcases hk with ⟨-, hk⟩ | ⟨C, T, N, k1, k2⟩
        · exact r_callVs cx hd hk (by omega) hln (Nat.lt_succ_self n) h3 h4 h5 (fun v d' hq => hkk _ _ _ _ hq) (fun E d' hx => e_out cx h3 hx)
        · rw [c1] at k1; simp [vwCl] at k1
      · rcases hk with ⟨k0, hk⟩ | ⟨C, T, N, k1, k2⟩
        · exfalso
          rw [k0] at c1
          have hmem := List.mem_of_getElem? c1
          revert hmem
          have : (lay.all (fun q => decide (q.1 = 0 → q.2.1 ≠ 99))) = true := by decide +kernel
          intro hmem
          have h9 := of_decide_eq_true (List.all_eq_true.mp this _ hmem)
          exact h9 rfl rfl
        · exact r_callV cx hd k2 c1 k1 hln (Nat.lt_succ_self n) h3 h4 h5 (fun v d' hq => hkk _ _ _ _ hq) (fun E d' hx => e_out cx h3 hx)
    · exact h.elim
  case invokestatic idx =>
    simp only [lnk] at hk
    split at h
    · rename_i me hm
      rw [hm] at hk
      obtain ⟨h1, h2, h3, h4⟩ := h
      have hst : st = ((st.take r.2.1).reverse).reverse ++ st.drop r.2.1 := by rw [List.reverse_reverse, List.take_append_drop]
      have hln : ((st.take r.2.1).reverse).length = r.2.1 := by rw [List.length_reverse, List.length_take]; omega
      rw [hst]
      exact r_callS cx hd hk hln (Nat.lt_succ_self n) h2 h3 h4 (fun v d' hq => hkk _ _ _ _ hq) (fun E d' hx => e_out cx h2 hx)
    · rename_i hm
      rw [hm] at hk
      obtain ⟨hu, h⟩ := h
      rcases hk with ⟨k1, k2⟩ | ⟨k1, k2⟩ | ⟨k1, k2⟩ | ⟨k1, k2⟩
      · rw [if_pos k1] at h
        obtain ⟨x, y, t, rfl, h1, h2⟩ := pII_spec h
        exact r_max cx hd k2 (by omega) hu h1 (hkk _ _ _ _ h2)
      · rw [if_neg (by omega), if_pos k1] at h
        obtain ⟨x, y, t, rfl, h1, h2⟩ := pII_spec h
        exact r_min cx hd k2 (by omega) hu h1 (hkk _ _ _ _ h2)
      · rw [if_neg (by omega), if_neg (by omega), if_pos k1] at h
        obtain ⟨x, t, rfl, h1, h2⟩ := pI_spec h
        exact r_abs cx hd k2 (by omega) hu h1 (hkk _ _ _ _ h2)
      · rw [if_neg (by omega), if_neg (by omega), if_neg (by omega)] at h
        split at h
        · obtain ⟨n0, q0, a1, h⟩ := aK_spec h
          obtain ⟨n1, q1, b1, h1, h2, h3, h4, h5, h6, h7⟩ := aK_spec h
          exact r_copy cx hd k2 a1 b1 h1 h2 h3 h4 h5 (by omega) h6 (hkk _ _ _ _ h7)
        · exact h.elim
theorem vcB_ok (cx : Cx p l e R s m args meth c own cc nL (n + 1) k ret g ad A) : ∀ (bl : List IN) (pc : Nat), okB own cc pc bl → ∀ (ls : ALs) (st : List Value) (d : DS) (u : Nat),
    vcB l n k nL ret Q X (fun pc ls st d u => WF p l e R s m args below meth c nL g ad A (vx_MQ below (QM g ad A Q) (XM g ad A X) args s k (8 * k) A) pc ls st d u) bl pc ls st d u →
    WF p l e R s m args below meth c nL g ad A (vx_MQ below (QM g ad A Q) (XM g ad A X) args s k (8 * k) A) pc ls st d u := by
  intro bl
  induction bl with
  | nil => intro pc _ ls st d u h; exact h
  | cons q t ih =>
    intro pc hok ls st d u h
    obtain ⟨h1, h2, h3⟩ := hok
    exact vcI_ok cx h1 h2 (fun ls st d u hq => ih _ h3 ls st d u hq) h
end Sound
/-- THE CONTRACT FROM ITS BLOCKS -/
theorem CM.by {l : Launch} {me : ME} {n k : Nat} {as : List Value} {d : DS} {Q : Option Value → DS → Prop} {X : String → DS → Prop} (hl : l.stackTraces = false) (bls : List (Nat × List IN)) (hy : plainName me.1.cls = true) (hok : ∀ q ∈ bls, okB me.1.cls me.2.1 q.1 q.2) (hlen : (eloc as).length ≤ me.2.2.1)
    (body : ∀ K : Nat → ALs → List Value → DS → Nat → Prop, (∀ (j : Nat) (q : Nat × List IN), bls[j]? = some q → ∀ ls st d u, vcB l n k me.2.2.1 me.2.2.2 Q X K q.2 q.1 ls st d u → K q.1 ls st d u) → (∀ pc ls ls' st d u, (∀ (i : Nat) (v : Value), ls'[i]? = some (some v) → ls[i]? = some (some v)) → K pc ls' st d u → K pc ls st d u) →
      K 0 (eloc as ++ List.replicate (me.2.2.1 - (eloc as).length) none) [] d 0) : CM l me (n + 1) k as d Q X := by
  refine CM.walk hl hy hlen (fun p e R s m args below meth c g ad A cx => ?_)
  refine body (fun pc ls st d u => WF p l e R s m args below meth c me.2.2.1 g ad A (vx_MQ below (QM g ad A Q) (XM g ad A X) args s k (8 * k) A) pc ls st d u) (fun j q hj ls st d u h => ?_) (fun pc ls ls' st d u hs h => ?_)
  · exact vcB_ok cx q.2 q.1 (hok q (List.mem_of_getElem? hj)) ls st d u h
  · intro H locs la hP hS hl
    refine h H locs la hP hS (lvh_mono hl (fun q hq => ?_))
    obtain ⟨i, v, h1, h2⟩ := lof_mem.mp hq
    exact lof_mem.mpr ⟨i, v, hs i v h1, h2⟩
