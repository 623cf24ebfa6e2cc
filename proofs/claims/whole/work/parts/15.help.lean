theorem ic_m8 : Int32.ofInt (-8) = (-8) := by decide
theorem ic_m1 : Int32.ofInt (-1) = (-1) := by decide
theorem ic_0 : Int32.ofInt 0 = 0 := by decide
theorem ic_1 : Int32.ofInt 1 = 1 := by decide
theorem ic_2 : Int32.ofInt 2 = 2 := by decide
theorem ic_3 : Int32.ofInt 3 = 3 := by decide
theorem ic_4 : Int32.ofInt 4 = 4 := by decide
theorem ic_5 : Int32.ofInt 5 = 5 := by decide
theorem ic_8 : Int32.ofInt 8 = 8 := by decide
theorem ic_16 : Int32.ofInt 16 = 16 := by decide
theorem bp_m28 : (Int8.ofInt (-28)).toInt32 = (-28) := by decide
theorem bp_m27 : (Int8.ofInt (-27)).toInt32 = (-27) := by decide
theorem bp_m26 : (Int8.ofInt (-26)).toInt32 = (-26) := by decide
theorem bp_m25 : (Int8.ofInt (-25)).toInt32 = (-25) := by decide
theorem bp_m24 : (Int8.ofInt (-24)).toInt32 = (-24) := by decide
theorem bp_m23 : (Int8.ofInt (-23)).toInt32 = (-23) := by decide
theorem bp_m22 : (Int8.ofInt (-22)).toInt32 = (-22) := by decide
theorem bp_m21 : (Int8.ofInt (-21)).toInt32 = (-21) := by decide
theorem bp_m20 : (Int8.ofInt (-20)).toInt32 = (-20) := by decide
theorem bp_m2 : (Int8.ofInt (-2)).toInt32 = (-2) := by decide
theorem bp_6 : (Int8.ofInt 6).toInt32 = 6 := by decide
theorem bp_7 : (Int8.ofInt 7).toInt32 = 7 := by decide
theorem bp_8 : (Int8.ofInt 8).toInt32 = 8 := by decide
theorem bp_9 : (Int8.ofInt 9).toInt32 = 9 := by decide
theorem bp_10 : (Int8.ofInt 10).toInt32 = 10 := by decide
theorem bp_11 : (Int8.ofInt 11).toInt32 = 11 := by decide
theorem bp_12 : (Int8.ofInt 12).toInt32 = 12 := by decide
theorem bp_13 : (Int8.ofInt 13).toInt32 = 13 := by decide
theorem bp_14 : (Int8.ofInt 14).toInt32 = 14 := by decide
theorem bp_15 : (Int8.ofInt 15).toInt32 = 15 := by decide
theorem bp_16 : (Int8.ofInt 16).toInt32 = 16 := by decide
theorem bp_17 : (Int8.ofInt 17).toInt32 = 17 := by decide
theorem bp_18 : (Int8.ofInt 18).toInt32 = 18 := by decide
theorem bp_20 : (Int8.ofInt 20).toInt32 = 20 := by decide
theorem bp_21 : (Int8.ofInt 21).toInt32 = 21 := by decide
theorem bp_22 : (Int8.ofInt 22).toInt32 = 22 := by decide
theorem bp_23 : (Int8.ofInt 23).toInt32 = 23 := by decide
theorem bp_24 : (Int8.ofInt 24).toInt32 = 24 := by decide
theorem bp_30 : (Int8.ofInt 30).toInt32 = 30 := by decide
theorem bp_32 : (Int8.ofInt 32).toInt32 = 32 := by decide
theorem bp_39 : (Int8.ofInt 39).toInt32 = 39 := by decide
theorem bp_40 : (Int8.ofInt 40).toInt32 = 40 := by decide
theorem bp_41 : (Int8.ofInt 41).toInt32 = 41 := by decide
theorem bp_42 : (Int8.ofInt 42).toInt32 = 42 := by decide
theorem bp_43 : (Int8.ofInt 43).toInt32 = 43 := by decide
theorem bp_44 : (Int8.ofInt 44).toInt32 = 44 := by decide
theorem bp_45 : (Int8.ofInt 45).toInt32 = 45 := by decide
theorem bp_47 : (Int8.ofInt 47).toInt32 = 47 := by decide
theorem bp_48 : (Int8.ofInt 48).toInt32 = 48 := by decide
theorem bp_57 : (Int8.ofInt 57).toInt32 = 57 := by decide
theorem bp_59 : (Int8.ofInt 59).toInt32 = 59 := by decide
theorem bp_60 : (Int8.ofInt 60).toInt32 = 60 := by decide
theorem bp_61 : (Int8.ofInt 61).toInt32 = 61 := by decide
theorem bp_63 : (Int8.ofInt 63).toInt32 = 63 := by decide
theorem bp_64 : (Int8.ofInt 64).toInt32 = 64 := by decide
theorem bp_97 : (Int8.ofInt 97).toInt32 = 97 := by decide
theorem bp_99 : (Int8.ofInt 99).toInt32 = 99 := by decide
theorem bp_100 : (Int8.ofInt 100).toInt32 = 100 := by decide
theorem bp_122 : (Int8.ofInt 122).toInt32 = 122 := by decide
theorem sp_255 : (Int16.ofInt 255).toInt32 = 255 := by decide
theorem sp_256 : (Int16.ofInt 256).toInt32 = 256 := by decide
theorem sp_700 : (Int16.ofInt 700).toInt32 = 700 := by decide
theorem sp_936 : (Int16.ofInt 936).toInt32 = 936 := by decide
theorem sp_960 : (Int16.ofInt 960).toInt32 = 960 := by decide
theorem sp_999 : (Int16.ofInt 999).toInt32 = 999 := by decide
theorem sp_4096 : (Int16.ofInt 4096).toInt32 = 4096 := by decide
theorem sp_9999 : (Int16.ofInt 9999).toInt32 = 9999 := by decide
theorem sp_10000 : (Int16.ofInt 10000).toInt32 = 10000 := by decide
theorem sp_12345 : (Int16.ofInt 12345).toInt32 = 12345 := by decide
theorem sp_32767 : (Int16.ofInt 32767).toInt32 = 32767 := by decide
/-! HELP FOR READING BLOCKS -/
theorem slv_ref (d : DS) (a j k : Nat) : slv d a j (k + 2) = .ref k := by simp [slv]
theorem slv_int (d : DS) (a j : Nat) : slv d a j 0 = .int (d a j) := rfl
theorem f4_0 : ((0 : Fin 4) : Nat) = 0 := rfl
theorem f4_1 : ((1 : Fin 4) : Nat) = 1 := rfl
theorem f4_2 : ((2 : Fin 4) : Nat) = 2 := rfl
theorem f4_3 : ((3 : Fin 4) : Nat) = 3 := rfl
theorem i01 (c : Prop) [Decidable c] : ((if c then (1 : Int32) else 0) = 0) = ¬ c := by
  by_cases h : c
  · rw [if_pos h]
    exact propext ⟨fun q => absurd q (by decide), fun q => absurd h q⟩
  · rw [if_neg h]
    exact propext ⟨fun _ => h, fun _ => rfl⟩
theorem i10 (c : Prop) [Decidable c] : ((if c then (0 : Int32) else 1) = 0) = c := by
  by_cases h : c
  · rw [if_pos h]
    exact propext ⟨fun _ => h, fun _ => rfl⟩
  · rw [if_neg h]
    exact propext ⟨fun q => absurd q (by decide), fun q => absurd q h⟩
def bI (p : Prop) [Decidable p] : Int32 := if p then 1 else 0
/-- w is a World, its rows behind it -/
def isW (w : Nat) : Prop := lay[w]? = some (0, 8, [0, 0, 0, 0, 0, 0, 0, 0, w + 1 + 2, w + 2 + 2, w + 3 + 2, w + 4 + 2, w + 5 + 2, w + 6 + 2]) ∧ lay[w + 1]? = some (1, 8, []) ∧ lay[w + 2]? = some (1, 8, []) ∧ lay[w + 3]? = some (1, 8, []) ∧ lay[w + 4]? = some (1, 12, []) ∧ lay[w + 5]? = some (1, 12, []) ∧ lay[w + 6]? = some (1, 8, [])
theorem isW_7 : isW 7 := ⟨rfl, rfl, rfl, rfl, rfl, rfl, rfl⟩
theorem isW_19 : isW 19 := ⟨rfl, rfl, rfl, rfl, rfl, rfl, rfl⟩
theorem isW_26 : isW 26 := ⟨rfl, rfl, rfl, rfl, rfl, rfl, rfl⟩
theorem dec_ind {P : Nat → Prop} (N : Nat) (h0 : P N) (hs : ∀ j, j < N → P (j + 1) → P j) : ∀ j, j ≤ N → P j := by
  intro j hj
  obtain ⟨m, rfl⟩ := Nat.exists_eq_add_of_le hj
  clear hj
  induction m generalizing j with
  | zero => exact h0
  | succ m ih => exact hs j (by omega) (by have := ih (j + 1) (by rw [show j + 1 + m = j + (m + 1) by omega]; exact h0) (by rw [show j + 1 + m = j + (m + 1) by omega]; exact hs); exact this)
abbrev isP (n p : Int32) : Prop := 0 ≤ p ∧ p < n ∧ p < 8
abbrev isC (n p : Int32) : Prop := 0 ≤ p ∧ p < n ∧ p < 12
section Sound2
variable {p : Program} {l : Launch} {e : Env} {R : Room} {s : State} {m : MethodId} {args : Array Value} {below : List Frame} {meth : Method} {c : Code} {own : String} {cc : ByteArray} {nL n k : Nat} {ret : Option FieldType} {g : GG} {ad : Nat → Nat} {A : Nat → Prop} {Q : Option Value → DS → Prop} {X : String → DS → Prop}
set_option maxHeartbeats 4000000 in
theorem vcI_ok2 (cx : Cx p l e R s m args meth c own cc nL (n + 1) k ret g ad A) {pc : Nat} {i : Instr} {r : RS} {kk : ALs → List Value → DS → Nat → Prop} {ls : ALs} {st : List Value} {d : DS} {u : Nat} (hd : dcd cc pc i) (hk : lnk own cc pc i r)
    (hkk : ∀ ls st d u, kk ls st d u → WF p l e R s m args below meth c nL g ad A (vx_MQ below (QM g ad A Q) (XM g ad A X) args s k (8 * k) A) (pc + ilen i) ls st d u)
    {K : Nat → ALs → List Value → DS → Nat → Prop} (hK : ∀ pc ls st d u, K pc ls st d u → WF p l e R s m args below meth c nL g ad A (vx_MQ below (QM g ad A Q) (XM g ad A X) args s k (8 * k) A) pc ls st d u) (h : vcI l n k nL ret Q X K pc i r kk ls st d u) :
    WF p l e R s m args below meth c nL g ad A (vx_MQ below (QM g ad A Q) (XM g ad A X) args s k (8 * k) A) pc ls st d u := by
  cases i <;> simp only [vcI] at h <;> first | exact h.elim | skip
  case iconst v => exact r_iconst cx hd (hkk _ _ _ _ h)
  case bipush v => exact r_bipush cx hd (hkk _ _ _ _ h)
  case sipush v => exact r_sipush cx hd (hkk _ _ _ _ h)
  case lconst v => exact r_lconst cx hd (hkk _ _ _ _ h)
  case iload_n j => obtain ⟨x, h1, h2⟩ := lI_spec h; exact r_iload_n cx hd h1 (hkk _ _ _ _ h2)
  case iload j => obtain ⟨x, h1, h2⟩ := lI_spec h; exact r_iload cx hd h1 (hkk _ _ _ _ h2)
  case aload_n j => obtain ⟨x, h1, h2⟩ := lR_spec h; exact r_aload_n cx hd h1 (hkk _ _ _ _ h2)
  case aload j => obtain ⟨x, h1, h2⟩ := lR_spec h; exact r_aload cx hd h1 (hkk _ _ _ _ h2)
  case lload_n j => obtain ⟨x, h1, h2⟩ := lL_spec h; exact r_lload_n cx hd h1 (hkk _ _ _ _ h2)
  case lload j => obtain ⟨x, h1, h2⟩ := lL_spec h; exact r_lload cx hd h1 (hkk _ _ _ _ h2)
  case istore_n j => obtain ⟨x, t, rfl, h1, h2, h3⟩ := pI_spec h; exact r_istore_n cx hd h1 h2 (hkk _ _ _ _ h3)
  case istore j => obtain ⟨x, t, rfl, h1, h2, h3⟩ := pI_spec h; exact r_istore cx hd h1 h2 (hkk _ _ _ _ h3)
  case astore_n j => obtain ⟨x, t, rfl, h1, h2, h3⟩ := pR_spec h; exact r_astore_n cx hd h1 h2 (hkk _ _ _ _ h3)
  case astore j => obtain ⟨x, t, rfl, h1, h2, h3⟩ := pR_spec h; exact r_astore cx hd h1 h2 (hkk _ _ _ _ h3)
  case iinc j v => obtain ⟨x, h1, h2, h3, h4⟩ := lI_spec h; exact r_iinc cx hd h1 h2 h3 (hkk _ _ _ _ h4)
  case iadd => obtain ⟨x, y, t, rfl, h1⟩ := pII_spec h; exact r_iadd cx hd (hkk _ _ _ _ h1)
  case isub => obtain ⟨x, y, t, rfl, h1⟩ := pII_spec h; exact r_isub cx hd (hkk _ _ _ _ h1)
  case imul => obtain ⟨x, y, t, rfl, h1⟩ := pII_spec h; exact r_imul cx hd (hkk _ _ _ _ h1)
  case iand => obtain ⟨x, y, t, rfl, h1⟩ := pII_spec h; exact r_iand cx hd (hkk _ _ _ _ h1)
  case ior => obtain ⟨x, y, t, rfl, h1⟩ := pII_spec h; exact r_ior cx hd (hkk _ _ _ _ h1)
  case ixor => obtain ⟨x, y, t, rfl, h1⟩ := pII_spec h; exact r_ixor cx hd (hkk _ _ _ _ h1)
  case ishl => obtain ⟨x, y, t, rfl, h1⟩ := pII_spec h; exact r_ishl cx hd (hkk _ _ _ _ h1)
  case ishr => obtain ⟨x, y, t, rfl, h1⟩ := pII_spec h; exact r_ishr cx hd (hkk _ _ _ _ h1)
  case iushr => obtain ⟨x, y, t, rfl, h1⟩ := pII_spec h; exact r_iushr cx hd (hkk _ _ _ _ h1)
  case idiv => obtain ⟨x, y, t, rfl, h0, h1⟩ := pII_spec h; exact r_idiv cx hd h0 (hkk _ _ _ _ h1)
  case irem => obtain ⟨x, y, t, rfl, h0, h1⟩ := pII_spec h; exact r_irem cx hd h0 (hkk _ _ _ _ h1)
  case ineg => obtain ⟨x, t, rfl, h1⟩ := pI_spec h; exact r_ineg cx hd (hkk _ _ _ _ h1)
  case i2l => obtain ⟨x, t, rfl, h1⟩ := pI_spec h; exact r_i2l cx hd (hkk _ _ _ _ h1)
  case i2b => obtain ⟨x, t, rfl, h1⟩ := pI_spec h; exact r_i2b cx hd (hkk _ _ _ _ h1)
  case lcmp => obtain ⟨x, y, t, rfl, h1⟩ := pLL_spec h; exact r_lcmp cx hd (hkk _ _ _ _ h1)
  case dup =>
    match st, h with
    | v :: t, h => exact r_dup cx hd h.1 (hkk _ _ _ _ h.2)
  case dup2 => obtain ⟨x, a, t, rfl, h1⟩ := pIR_spec h; exact r_dup2 cx hd rfl rfl (hkk _ _ _ _ h1)
  case getfield idx => obtain ⟨a, t, rfl, h1⟩ := pR_spec h; obtain ⟨sl, code, h2, h3, h4⟩ := fK_spec h1; exact r_get cx hd hk h2 h3 (hkk _ _ _ _ h4)
  case putfield idx =>
    match st, h with
    | .int x :: .ref a :: t, h =>
      obtain ⟨sl, code, h2, h3, h4, h5, h6⟩ := fK_spec h
      subst h4
      refine r_put cx hd hk.1 hk.2 h2 h3 (x := x) ?_ (fun w hw => ?_) (hkk _ _ _ _ h6)
      · simp [slv, dset, va_up, upd]
      · subst hw
        rcases h5 with h5 | ⟨h5, rfl | rfl⟩ <;> rw [h5] <;> exact ⟨rfl, rfl⟩
    | .ref b :: .ref a :: t, h =>
      obtain ⟨sl, code, h2, h3, h4, h5, h7, h6⟩ := fK_spec h
      subst h4
      refine r_put cx hd hk.1 hk.2 h2 h3 (x := nI b) ?_ (fun w hw => ?_) (hkk _ _ _ _ h6)
      · simp only [slv, dset_self, upd, if_true]
        simp only [Nat.succ_ne_zero, if_false, if_true]
        rw [nI_clamp (Nat.lt_trans h7 (by decide))]
      · subst hw
        rw [h5]
        exact ⟨rfl, rfl⟩
  case iaload => obtain ⟨i, a, t, rfl, h1⟩ := pIR_spec h; obtain ⟨len, q, h2, h3, h4⟩ := aK_spec h1; exact r_iaload cx hd h2 h3 (hkk _ _ _ _ h4)
  case baload => obtain ⟨i, a, t, rfl, h1⟩ := pIR_spec h; obtain ⟨len, q, h2, h3, h4⟩ := aK_spec h1; exact r_baload cx hd h2 h3 (hkk _ _ _ _ h4)
  case laload => obtain ⟨i, a, t, rfl, h1⟩ := pIR_spec h; obtain ⟨len, q, h2, h3, h4⟩ := aK_spec h1; exact r_laload cx hd h2 h3 (hkk _ _ _ _ h4)
  case aaload =>
    obtain ⟨i, a, t, rfl, h1⟩ := pIR_spec h
    obtain ⟨len, q, h2, h3, h4⟩ := aK_spec h1
    split at h4
    · rename_i b hb; exact r_aaload cx hd h2 h3 hb (hkk _ _ _ _ h4)
    · exact h4.elim
  case iastore => obtain ⟨x, i, a, t, rfl, h1⟩ := pIIR_spec h; obtain ⟨len, q, h2, h3, h4⟩ := aK_spec h1; exact r_iastore cx hd h2 h3 (hkk _ _ _ _ h4)
  case bastore => obtain ⟨x, i, a, t, rfl, h1⟩ := pIIR_spec h; obtain ⟨len, q, h2, h3, h4⟩ := aK_spec h1; exact r_bastore cx hd h2 h3 (hkk _ _ _ _ h4)
  case arraylength =>
    obtain ⟨a, t, rfl, h1⟩ := pR_spec h
    split at h1
    · rename_i q hq
      obtain ⟨t', len, q⟩ := q
      obtain ⟨h2, h3, h4⟩ := h1
      obtain ⟨t2, rfl⟩ : ∃ t2, t' = t2 + 1 := ⟨t' - 1, by dsimp only at h2; omega⟩
      exact r_alen cx hd hq (by dsimp only at h3; omega) (hkk _ _ _ _ h4)
    · exact h1.elim
  case ifCond q off => obtain ⟨x, t, rfl, h1, h2⟩ := pI_spec h; exact r_if cx hd (tgt_ok hk) (fun z => hK _ _ _ _ _ (h1 z)) (fun z => hkk _ _ _ _ (h2 z))
  case if_icmp q off => obtain ⟨x, y, t, rfl, h1, h2⟩ := pII_spec h; exact r_icmp cx hd (tgt_ok hk) (fun z => hK _ _ _ _ _ (h1 z)) (fun z => hkk _ _ _ _ (h2 z))
  case goto off => exact r_goto cx hd (tgt_ok hk) (hK _ _ _ _ _ h)
  case tableswitch dflt lo hi offs =>
    obtain ⟨x, t, rfl, h1, h2⟩ := pI_spec h
    obtain ⟨len, hd⟩ := hd
    obtain ⟨k1, k2, k3⟩ := hk
    refine r_table cx hd k1 (fun j off ho => ?_) k3 (fun j off ho he => hK _ _ _ _ _ (h1 j off ho he)) (fun z => hK _ _ _ _ _ (h2 z))
    have := List.all_eq_true.mp k2 off (by
      have := Array.mem_of_getElem? ho
      exact Array.mem_def.mp this)
    exact of_decide_eq_true this
  case lookupswitch dflt ps =>
    obtain ⟨x, t, rfl, h1⟩ := pI_spec h
    obtain ⟨len, hd⟩ := hd
    obtain ⟨k1, k2, k3⟩ := hk
    exact r_lookup cx hd k1 (look_in _ _ (fun z => 0 ≤ (pc : Int) + z) k3 _ (fun q hq => of_decide_eq_true (List.all_eq_true.mp k2 q hq))) (hK _ _ _ _ _ h1)
  case ireturn =>
    match st, h with
    | [.int x], h =>
      obtain ⟨ty, h1, h2⟩ := rok_nar h.1
      exact e_ret cx hd h1 h2 h.2.1 h.2.2
  case return_ => obtain ⟨rfl, h2, h3, h4⟩ := h; exact e_vret cx hd h2 h3 h4
  case ldc idx =>
    rcases hk with ⟨k1, k2⟩ | ⟨k1, tx, k2⟩
    · rw [if_pos k1] at h; exact r_ldc cx hd k2 (hkk _ _ _ _ h)
    · rw [if_neg (by omega)] at h; exact r_ldcS cx hd k2 (hkk _ _ _ _ h)
  case ldc_w idx =>
    rcases hk with ⟨k1, k2⟩ | ⟨k1, tx, k2⟩
    · rw [if_pos k1] at h; exact r_ldcw cx hd k2 (hkk _ _ _ _ h)
    · rw [if_neg (by omega)] at h; exact r_ldcwS cx hd k2 (hkk _ _ _ _ h)
  case ldc2_w idx => exact r_ldc2 cx hd hk (hkk _ _ _ _ h)
  case new ik =>
    obtain ⟨text, j, k1, k2, ⟨k3, k4, k5⟩ | ⟨k3, k4, k5⟩⟩ := hk
    · exact e_throw cx k1 hd k2 k3 k4 k5 h.1 h.2.1 h.2.2.1 h.2.2.2
    · exact e_throwW cx k1 hd k2 k3 k4 k5 h.1 h.2.1 h.2.2.1 h.2.2.2
  case invokevirtual idx =>
    obtain ⟨me, hme, hk⟩ := hk
    rw [hme] at h
    split at h
    · rename_i me' b t hm ht
      cases hm
      obtain ⟨h1, h2, h3, h4, h5⟩ := h
      have hst : st = ((st.take r.2.1).reverse).reverse ++ .ref b :: t := by rw [List.reverse_reverse, ← ht, List.take_append_drop]
      have hln : ((st.take r.2.1).reverse).length = r.2.1 := by rw [List.length_reverse, List.length_take]; omega
      rw [hst]
      rcases h1 with ⟨c1, c2, c3⟩ | ⟨sl, c1⟩
      · obtain ⟨j, rfl⟩ : ∃ j, b = 1000 + j := ⟨b - 1000, (Nat.add_sub_cancel' c2).symm⟩
        rcases hk with ⟨-, hk⟩ | ⟨C, T, N, k1, k2⟩
        · exact r_callVs cx hd hk (by omega) hln (Nat.lt_succ_self n) h3 h4 h5 (fun v d' hq => hkk _ _ _ _ hq) (fun E d' hx => e_out cx h3 hx)
        · rw [c1] at k1; simp [vwCl] at k1
      · rcases hk with ⟨k0, hk⟩ | ⟨C, T, N, k1, k2⟩
        · exfalso
          rw [k0] at c1
          have hmem := List.mem_of_getElem? c1
          revert hmem
          have : (lay.all (fun q => decide (q.1 = 0 → q.2.1 ≠ 99))) = true := by decide +kernel
          intro hmem
          have h9 := of_decide_eq_true (List.all_eq_true.mp this _ hmem)
          exact h9 rfl rfl
        · exact r_callV cx hd k2 c1 k1 hln (Nat.lt_succ_self n) h3 h4 h5 (fun v d' hq => hkk _ _ _ _ hq) (fun E d' hx => e_out cx h3 hx)
    · exact h.elim
  case invokestatic idx =>
    simp only [lnk] at hk
    split at h
    · rename_i me hm
      rw [hm] at hk
      obtain ⟨h1, h2, h3, h4⟩ := h
      have hst : st = ((st.take r.2.1).reverse).reverse ++ st.drop r.2.1 := by rw [List.reverse_reverse, List.take_append_drop]
      have hln : ((st.take r.2.1).reverse).length = r.2.1 := by rw [List.length_reverse, List.length_take]; omega
      rw [hst]
      exact r_callS cx hd hk hln (Nat.lt_succ_self n) h2 h3 h4 (fun v d' hq => hkk _ _ _ _ hq) (fun E d' hx => e_out cx h2 hx)
    · rename_i hm
      rw [hm] at hk
      obtain ⟨hu, h⟩ := h
      rcases hk with ⟨k1, k2⟩ | ⟨k1, k2⟩ | ⟨k1, k2⟩ | ⟨k1, k2⟩
      · rw [if_pos k1] at h
        obtain ⟨x, y, t, rfl, h1, h2⟩ := pII_spec h
        exact r_max cx hd k2 (by omega) hu h1 (hkk _ _ _ _ h2)
      · rw [if_neg (by omega), if_pos k1] at h
        obtain ⟨x, y, t, rfl, h1, h2⟩ := pII_spec h
        exact r_min cx hd k2 (by omega) hu h1 (hkk _ _ _ _ h2)
      · rw [if_neg (by omega), if_neg (by omega), if_pos k1] at h
        obtain ⟨x, t, rfl, h1, h2⟩ := pI_spec h
        exact r_abs cx hd k2 (by omega) hu h1 (hkk _ _ _ _ h2)
      · rw [if_neg (by omega), if_neg (by omega), if_neg (by omega)] at h
        split at h
        · obtain ⟨n0, q0, a1, h⟩ := aK_spec h
          obtain ⟨n1, q1, b1, h1, h2, h3, h4, h5, h6, h7⟩ := aK_spec h
          exact r_copy cx hd k2 a1 b1 h1 h2 h3 h4 h5 (by omega) h6 (hkk _ _ _ _ h7)
        · exact h.elim
theorem vcB_ok2 (cx : Cx p l e R s m args meth c own cc nL (n + 1) k ret g ad A) {K : Nat → ALs → List Value → DS → Nat → Prop} (hK : ∀ pc ls st d u, K pc ls st d u → WF p l e R s m args below meth c nL g ad A (vx_MQ below (QM g ad A Q) (XM g ad A X) args s k (8 * k) A) pc ls st d u) : ∀ (bl : List IN) (pc : Nat), okB own cc pc bl → ∀ (ls : ALs) (st : List Value) (d : DS) (u : Nat),
    vcB l n k nL ret Q X K bl pc ls st d u → WF p l e R s m args below meth c nL g ad A (vx_MQ below (QM g ad A Q) (XM g ad A X) args s k (8 * k) A) pc ls st d u := by
  intro bl
  induction bl with
  | nil => intro pc _ ls st d u h; exact hK _ _ _ _ _ h
  | cons q t ih =>
    intro pc hok ls st d u h
    obtain ⟨h1, h2, h3⟩ := hok
    exact vcI_ok2 cx h1 h2 (fun ls st d u hq => ih _ h3 ls st d u hq) hK h
end Sound2
/-! A WHOLE REGION WITHOUT LOOPS AS ONE PROPOSITION -/
def blk : List (Nat × List IN) → Nat → Option (List IN)
  | [], _ => none
  | q :: t, pc => if q.1 = pc then some q.2 else blk t pc
theorem blk_ok {own : String} {cc : ByteArray} {pc : Nat} {bl : List IN} : ∀ {bls : List (Nat × List IN)}, (∀ q ∈ bls, okB own cc q.1 q.2) → blk bls pc = some bl → okB own cc pc bl := by
  intro bls
  induction bls with
  | nil => intro _ h; cases h
  | cons q t ih =>
    intro hok h
    unfold blk at h
    split at h
    · rename_i hq
      cases h
      have := hok q List.mem_cons_self
      rw [hq] at this
      exact this
    · exact ih (fun z hz => hok z (List.mem_cons_of_mem _ hz)) h
section Tree
variable (l : Launch) (n k nL : Nat) (rt : Option FieldType) (Q : Option Value → DS → Prop) (X : String → DS → Prop) (bls : List (Nat × List IN)) (K : Nat → ALs → List Value → DS → Nat → Prop)
/-- on through the blocks, f of them at most, till a place of 'heads' -/
def vcT (heads : List Nat) : Nat → Nat → ALs → List Value → DS → Nat → Prop
  | 0, pc, ls, st, d, u => K pc ls st d u
  | f + 1, pc, ls, st, d, u => if pc ∈ heads then K pc ls st d u else match blk bls pc with
    | some bl => vcB l n k nL rt Q X (vcT heads f) bl pc ls st d u
    | none => False
/-- the same, from a place that may be a head itself -/
def vcH (heads : List Nat) (f pc : Nat) (ls : ALs) (st : List Value) (d : DS) (u : Nat) : Prop := match blk bls pc with
  | some bl => vcB l n k nL rt Q X (vcT l n k nL rt Q X bls K heads f) bl pc ls st d u
  | none => False
end Tree
/-- THE CONTRACT FROM ITS BLOCKS, region by region -/
theorem CM.tree {l : Launch} {me : ME} {n k : Nat} {as : List Value} {d : DS} {Q : Option Value → DS → Prop} {X : String → DS → Prop} (hl : l.stackTraces = false) (bls : List (Nat × List IN)) (heads : List Nat) (hy : plainName me.1.cls = true) (hok : ∀ q ∈ bls, okB me.1.cls me.2.1 q.1 q.2) (hlen : (eloc as).length ≤ me.2.2.1)
    (body : ∀ K : Nat → ALs → List Value → DS → Nat → Prop, (∀ (f pc : Nat) (ls : ALs) (st : List Value) (d : DS) (u : Nat), vcH l n k me.2.2.1 me.2.2.2 Q X bls K heads f pc ls st d u → K pc ls st d u) → (∀ pc ls ls' st d u, (∀ (i : Nat) (v : Value), ls'[i]? = some (some v) → ls[i]? = some (some v)) → K pc ls' st d u → K pc ls st d u) →
      K 0 (eloc as ++ List.replicate (me.2.2.1 - (eloc as).length) none) [] d 0) : CM l me (n + 1) k as d Q X := by
  refine CM.walk hl hy hlen (fun p e R s m args below meth c g ad A cx => ?_)
  have hT : ∀ (f pc : Nat) (ls : ALs) (st : List Value) (d : DS) (u : Nat), vcT l n k me.2.2.1 me.2.2.2 Q X bls (fun pc ls st d u => WF p l e R s m args below meth c me.2.2.1 g ad A (vx_MQ below (QM g ad A Q) (XM g ad A X) args s k (8 * k) A) pc ls st d u) heads f pc ls st d u → WF p l e R s m args below meth c me.2.2.1 g ad A (vx_MQ below (QM g ad A Q) (XM g ad A X) args s k (8 * k) A) pc ls st d u := by
    intro f
    induction f with
    | zero => intro pc ls st d u h; exact h
    | succ f ih =>
      intro pc ls st d u h
      unfold vcT at h
      split at h
      · exact h
      · split at h
        · rename_i bl hb
          exact vcB_ok2 cx ih bl pc (blk_ok hok hb) ls st d u h
        · exact h.elim
  refine body (fun pc ls st d u => WF p l e R s m args below meth c me.2.2.1 g ad A (vx_MQ below (QM g ad A Q) (XM g ad A X) args s k (8 * k) A) pc ls st d u) (fun f pc ls st d u h => ?_) (fun pc ls ls' st d u hs h => ?_)
  · unfold vcH at h
    split at h
    · rename_i bl hb
      exact vcB_ok2 cx (hT f) bl pc (blk_ok hok hb) ls st d u h
    · exact h.elim
  · intro H locs la hP hS hl
    refine h H locs la hP hS (lvh_mono hl (fun q hq => ?_))
    obtain ⟨i, v, h1, h2⟩ := lof_mem.mp hq
    exact lof_mem.mpr ⟨i, v, hs i v h1, h2⟩
