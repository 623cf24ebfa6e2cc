theorem tw122 : (Cond.initialized "java/lang/StringLatin1") ∈ gw := gw_at 122 (by decide +kernel) (by decide +kernel)
theorem tw123 : (Cond.initialized "jdk/internal/util/Preconditions") ∈ gw := gw_at 123 (by decide +kernel) (by decide +kernel)
theorem tw794 : (Cond.methodLink "java/lang/String" (335 : Nat) ({ cls := "java/lang/String", name := "coder", desc := "()B" } : Jvm.MethodName)) ∈ gw := gw_at 794 (by decide +kernel) (by decide +kernel)
theorem tw795 : (Cond.instanceMethod ({ cls := "java/lang/String", name := "coder", desc := "()B" } : Jvm.MethodName)) ∈ gw := gw_at 795 (by decide +kernel) (by decide +kernel)
theorem tw796 : (Cond.selects "java/lang/String" ({ cls := "java/lang/String", name := "coder", desc := "()B" } : Jvm.MethodName) ({ cls := "java/lang/String", name := "coder", desc := "()B" } : Jvm.MethodName)) ∈ gw := gw_at 796 (by decide +kernel) (by decide +kernel)
theorem tw797 : (Cond.code ({ cls := "java/lang/String", name := "coder", desc := "()B" } : Jvm.MethodName) prog_22_method_152_code (1 : Nat) (Option.some Jvm.ClassFile.FieldType.byte)) ∈ gw := gw_at 797 (by decide +kernel) (by decide +kernel)
theorem tw798 : (Cond.fieldLink "java/lang/String" (38 : Nat) "java/lang/String" "COMPACT_STRINGS" "Z") ∈ gw := gw_at 798 (by decide +kernel) (by decide +kernel)
theorem tw804 : (Cond.methodLink "java/lang/String" (492 : Nat) ({ cls := "java/lang/String", name := "isLatin1", desc := "()Z" } : Jvm.MethodName)) ∈ gw := gw_at 804 (by decide +kernel) (by decide +kernel)
theorem tw805 : (Cond.instanceMethod ({ cls := "java/lang/String", name := "isLatin1", desc := "()Z" } : Jvm.MethodName)) ∈ gw := gw_at 805 (by decide +kernel) (by decide +kernel)
theorem tw806 : (Cond.selects "java/lang/String" ({ cls := "java/lang/String", name := "isLatin1", desc := "()Z" } : Jvm.MethodName) ({ cls := "java/lang/String", name := "isLatin1", desc := "()Z" } : Jvm.MethodName)) ∈ gw := gw_at 806 (by decide +kernel) (by decide +kernel)
theorem tw807 : (Cond.code ({ cls := "java/lang/String", name := "isLatin1", desc := "()Z" } : Jvm.MethodName) prog_22_method_154_code (1 : Nat) (Option.some Jvm.ClassFile.FieldType.boolean)) ∈ gw := gw_at 807 (by decide +kernel) (by decide +kernel)
theorem tw808 : (Cond.methodLink "java/lang/String" (495 : Nat) ({ cls := "java/lang/StringLatin1", name := "charAt", desc := "([BI)C" } : Jvm.MethodName)) ∈ gw := gw_at 808 (by decide +kernel) (by decide +kernel)
theorem tw809 : (Cond.static ({ cls := "java/lang/StringLatin1", name := "charAt", desc := "([BI)C" } : Jvm.MethodName)) ∈ gw := gw_at 809 (by decide +kernel) (by decide +kernel)
theorem tw810 : (Cond.code ({ cls := "java/lang/StringLatin1", name := "charAt", desc := "([BI)C" } : Jvm.MethodName) prog_23_method_2_code (2 : Nat) (Option.some Jvm.ClassFile.FieldType.char)) ∈ gw := gw_at 810 (by decide +kernel) (by decide +kernel)
theorem tw811 : (Cond.methodLink "java/lang/StringLatin1" (9 : Nat) ({ cls := "java/lang/String", name := "checkIndex", desc := "(II)V" } : Jvm.MethodName)) ∈ gw := gw_at 811 (by decide +kernel) (by decide +kernel)
theorem tw812 : (Cond.static ({ cls := "java/lang/String", name := "checkIndex", desc := "(II)V" } : Jvm.MethodName)) ∈ gw := gw_at 812 (by decide +kernel) (by decide +kernel)
theorem tw813 : (Cond.code ({ cls := "java/lang/String", name := "checkIndex", desc := "(II)V" } : Jvm.MethodName) prog_22_method_155_code (2 : Nat) (Option.none : Option Jvm.ClassFile.FieldType)) ∈ gw := gw_at 813 (by decide +kernel) (by decide +kernel)
theorem tw814 : (Cond.fieldLink "java/lang/String" (1053 : Nat) "jdk/internal/util/Preconditions" "SIOOBE_FORMATTER" "Ljava/util/function/BiFunction;") ∈ gw := gw_at 814 (by decide +kernel) (by decide +kernel)
theorem tw816 : (Cond.methodLink "java/lang/String" (1059 : Nat) ({ cls := "jdk/internal/util/Preconditions", name := "checkIndex", desc := "(IILjava/util/function/BiFunction;)I" } : Jvm.MethodName)) ∈ gw := gw_at 816 (by decide +kernel) (by decide +kernel)
theorem tw817 : (Cond.static ({ cls := "jdk/internal/util/Preconditions", name := "checkIndex", desc := "(IILjava/util/function/BiFunction;)I" } : Jvm.MethodName)) ∈ gw := gw_at 817 (by decide +kernel) (by decide +kernel)
theorem tw818 : (Cond.code ({ cls := "jdk/internal/util/Preconditions", name := "checkIndex", desc := "(IILjava/util/function/BiFunction;)I" } : Jvm.MethodName) prog_31_method_11_code (3 : Nat) (Option.some Jvm.ClassFile.FieldType.int)) ∈ gw := gw_at 818 (by decide +kernel) (by decide +kernel)
theorem tw2060 : (Cond.fieldLink "java/lang/String" (9 : Nat) "java/lang/String" "value" "[B") ∈ gw := gw_at 2060 (by decide +kernel) (by decide +kernel)
theorem tw2061 : (Cond.fieldLink "java/lang/String" (15 : Nat) "java/lang/String" "coder" "B") ∈ gw := gw_at 2061 (by decide +kernel) (by decide +kernel)
theorem lm_RJ0_335 : okV RJ0 335 RJ0 mJ0_coder_7d493 0 := ⟨tw794, tw795, tw796, tw121, tw797, ⟨rfl, by decide +kernel, by decide +kernel, by decide +kernel⟩, by decide⟩
theorem lm_RJ0_492 : okV RJ0 492 RJ0 mJ0_isLatin1_aae02 0 := ⟨tw804, tw805, tw806, tw121, tw807, ⟨rfl, by decide +kernel, by decide +kernel, by decide +kernel⟩, by decide⟩
theorem lm_RJ0_495 : okS RJ0 495 mJ1_charAt_3b067 2 := ⟨tw808, tw809, tw122, tw810, ⟨by decide +kernel, by decide +kernel, by decide +kernel⟩, by decide⟩
theorem lm_RJ1_9 : okS RJ1 9 mJ0_checkIndex_df160 2 := ⟨tw811, tw812, tw121, tw813, ⟨by decide +kernel, by decide +kernel, by decide +kernel⟩, by decide⟩
theorem lm_RJ0_1059 : okS RJ0 1059 mJ3_checkIndex_8e157 3 := ⟨tw816, tw817, tw123, tw818, ⟨by decide +kernel, by decide +kernel, by decide +kernel⟩, by decide⟩
theorem deJ0_length_8abf5_0 : decode cJ0_length_8abf5 0 = .ok (.aload_n 0, 1) := by decide +kernel
theorem deJ0_length_8abf5_1 : decode cJ0_length_8abf5 1 = .ok (.getfield 9, 3) := by decide +kernel
theorem deJ0_length_8abf5_4 : decode cJ0_length_8abf5 4 = .ok (.arraylength, 1) := by decide +kernel
theorem deJ0_length_8abf5_5 : decode cJ0_length_8abf5 5 = .ok (.aload_n 0, 1) := by decide +kernel
theorem deJ0_length_8abf5_6 : decode cJ0_length_8abf5 6 = .ok (.invokevirtual 335, 3) := by decide +kernel
theorem deJ0_length_8abf5_9 : decode cJ0_length_8abf5 9 = .ok (.ishr, 1) := by decide +kernel
theorem deJ0_length_8abf5_10 : decode cJ0_length_8abf5 10 = .ok (.ireturn, 1) := by decide +kernel
theorem deJ0_charAt_5068e_0 : decode cJ0_charAt_5068e 0 = .ok (.aload_n 0, 1) := by decide +kernel
theorem deJ0_charAt_5068e_1 : decode cJ0_charAt_5068e 1 = .ok (.invokevirtual 492, 3) := by decide +kernel
theorem deJ0_charAt_5068e_4 : decode cJ0_charAt_5068e 4 = .ok (.ifCond .eq 12, 3) := by decide +kernel
theorem deJ0_charAt_5068e_7 : decode cJ0_charAt_5068e 7 = .ok (.aload_n 0, 1) := by decide +kernel
theorem deJ0_charAt_5068e_8 : decode cJ0_charAt_5068e 8 = .ok (.getfield 9, 3) := by decide +kernel
theorem deJ0_charAt_5068e_11 : decode cJ0_charAt_5068e 11 = .ok (.iload_n 1, 1) := by decide +kernel
theorem deJ0_charAt_5068e_12 : decode cJ0_charAt_5068e 12 = .ok (.invokestatic 495, 3) := by decide +kernel
theorem deJ0_charAt_5068e_15 : decode cJ0_charAt_5068e 15 = .ok (.ireturn, 1) := by decide +kernel
theorem deJ0_charAt_5068e_16 : decode cJ0_charAt_5068e 16 = .ok (.aload_n 0, 1) := by decide +kernel
theorem deJ0_charAt_5068e_17 : decode cJ0_charAt_5068e 17 = .ok (.getfield 9, 3) := by decide +kernel
theorem deJ0_charAt_5068e_20 : decode cJ0_charAt_5068e 20 = .ok (.iload_n 1, 1) := by decide +kernel
theorem deJ0_charAt_5068e_21 : decode cJ0_charAt_5068e 21 = .ok (.invokestatic 498, 3) := by decide +kernel
theorem deJ0_charAt_5068e_24 : decode cJ0_charAt_5068e 24 = .ok (.ireturn, 1) := by decide +kernel
theorem deJ0_coder_7d493_0 : decode cJ0_coder_7d493 0 = .ok (.getstatic 38, 3) := by decide +kernel
theorem deJ0_coder_7d493_3 : decode cJ0_coder_7d493 3 = .ok (.ifCond .eq 10, 3) := by decide +kernel
theorem deJ0_coder_7d493_6 : decode cJ0_coder_7d493 6 = .ok (.aload_n 0, 1) := by decide +kernel
theorem deJ0_coder_7d493_7 : decode cJ0_coder_7d493 7 = .ok (.getfield 15, 3) := by decide +kernel
theorem deJ0_coder_7d493_10 : decode cJ0_coder_7d493 10 = .ok (.goto 4, 3) := by decide +kernel
theorem deJ0_coder_7d493_13 : decode cJ0_coder_7d493 13 = .ok (.iconst 1, 1) := by decide +kernel
theorem deJ0_coder_7d493_14 : decode cJ0_coder_7d493 14 = .ok (.ireturn, 1) := by decide +kernel
theorem deJ0_isLatin1_aae02_0 : decode cJ0_isLatin1_aae02 0 = .ok (.getstatic 38, 3) := by decide +kernel
theorem deJ0_isLatin1_aae02_3 : decode cJ0_isLatin1_aae02 3 = .ok (.ifCond .eq 14, 3) := by decide +kernel
theorem deJ0_isLatin1_aae02_6 : decode cJ0_isLatin1_aae02 6 = .ok (.aload_n 0, 1) := by decide +kernel
theorem deJ0_isLatin1_aae02_7 : decode cJ0_isLatin1_aae02 7 = .ok (.getfield 15, 3) := by decide +kernel
theorem deJ0_isLatin1_aae02_10 : decode cJ0_isLatin1_aae02 10 = .ok (.ifCond .ne 7, 3) := by decide +kernel
theorem deJ0_isLatin1_aae02_13 : decode cJ0_isLatin1_aae02 13 = .ok (.iconst 1, 1) := by decide +kernel
theorem deJ0_isLatin1_aae02_14 : decode cJ0_isLatin1_aae02 14 = .ok (.goto 4, 3) := by decide +kernel
theorem deJ0_isLatin1_aae02_17 : decode cJ0_isLatin1_aae02 17 = .ok (.iconst 0, 1) := by decide +kernel
theorem deJ0_isLatin1_aae02_18 : decode cJ0_isLatin1_aae02 18 = .ok (.ireturn, 1) := by decide +kernel
theorem deJ0_checkIndex_df160_0 : decode cJ0_checkIndex_df160 0 = .ok (.iload_n 0, 1) := by decide +kernel
theorem deJ0_checkIndex_df160_1 : decode cJ0_checkIndex_df160 1 = .ok (.iload_n 1, 1) := by decide +kernel
theorem deJ0_checkIndex_df160_2 : decode cJ0_checkIndex_df160 2 = .ok (.getstatic 1053, 3) := by decide +kernel
theorem deJ0_checkIndex_df160_5 : decode cJ0_checkIndex_df160 5 = .ok (.invokestatic 1059, 3) := by decide +kernel
theorem deJ0_checkIndex_df160_8 : decode cJ0_checkIndex_df160 8 = .ok (.pop, 1) := by decide +kernel
theorem deJ0_checkIndex_df160_9 : decode cJ0_checkIndex_df160 9 = .ok (.return_, 1) := by decide +kernel
theorem deJ1_charAt_3b067_0 : decode cJ1_charAt_3b067 0 = .ok (.iload_n 1, 1) := by decide +kernel
theorem deJ1_charAt_3b067_1 : decode cJ1_charAt_3b067 1 = .ok (.aload_n 0, 1) := by decide +kernel
theorem deJ1_charAt_3b067_2 : decode cJ1_charAt_3b067 2 = .ok (.arraylength, 1) := by decide +kernel
theorem deJ1_charAt_3b067_3 : decode cJ1_charAt_3b067 3 = .ok (.invokestatic 9, 3) := by decide +kernel
theorem deJ1_charAt_3b067_6 : decode cJ1_charAt_3b067 6 = .ok (.aload_n 0, 1) := by decide +kernel
theorem deJ1_charAt_3b067_7 : decode cJ1_charAt_3b067 7 = .ok (.iload_n 1, 1) := by decide +kernel
theorem deJ1_charAt_3b067_8 : decode cJ1_charAt_3b067 8 = .ok (.baload, 1) := by decide +kernel
theorem deJ1_charAt_3b067_9 : decode cJ1_charAt_3b067 9 = .ok (.sipush 255, 3) := by decide +kernel
theorem deJ1_charAt_3b067_12 : decode cJ1_charAt_3b067 12 = .ok (.iand, 1) := by decide +kernel
theorem deJ1_charAt_3b067_13 : decode cJ1_charAt_3b067 13 = .ok (.i2c, 1) := by decide +kernel
theorem deJ1_charAt_3b067_14 : decode cJ1_charAt_3b067 14 = .ok (.ireturn, 1) := by decide +kernel
theorem deJ3_checkIndex_8e157_0 : decode cJ3_checkIndex_8e157 0 = .ok (.iload_n 0, 1) := by decide +kernel
theorem deJ3_checkIndex_8e157_1 : decode cJ3_checkIndex_8e157 1 = .ok (.ifCond .lt 8, 3) := by decide +kernel
theorem deJ3_checkIndex_8e157_4 : decode cJ3_checkIndex_8e157 4 = .ok (.iload_n 0, 1) := by decide +kernel
theorem deJ3_checkIndex_8e157_5 : decode cJ3_checkIndex_8e157 5 = .ok (.iload_n 1, 1) := by decide +kernel
theorem deJ3_checkIndex_8e157_6 : decode cJ3_checkIndex_8e157 6 = .ok (.if_icmp .lt 10, 3) := by decide +kernel
theorem deJ3_checkIndex_8e157_9 : decode cJ3_checkIndex_8e157 9 = .ok (.aload_n 2, 1) := by decide +kernel
theorem deJ3_checkIndex_8e157_10 : decode cJ3_checkIndex_8e157 10 = .ok (.iload_n 0, 1) := by decide +kernel
theorem deJ3_checkIndex_8e157_11 : decode cJ3_checkIndex_8e157 11 = .ok (.iload_n 1, 1) := by decide +kernel
theorem deJ3_checkIndex_8e157_12 : decode cJ3_checkIndex_8e157 12 = .ok (.invokestatic 95, 3) := by decide +kernel
theorem deJ3_checkIndex_8e157_15 : decode cJ3_checkIndex_8e157 15 = .ok (.athrow, 1) := by decide +kernel
theorem deJ3_checkIndex_8e157_16 : decode cJ3_checkIndex_8e157 16 = .ok (.iload_n 0, 1) := by decide +kernel
theorem deJ3_checkIndex_8e157_17 : decode cJ3_checkIndex_8e157 17 = .ok (.ireturn, 1) := by decide +kernel
/-! STRING CONSTANTS: length and charAt, walked on the machine itself (their rows are no cells of ours) -/
def QRA (g : GG) (ad : Nat → Nat) (d : DS) (A : Nat → Prop) (v : Option Value) : Array Value → State → Outcome → State → Prop := fun _ st oc t => (oc = .returned v ∧ va_P g.1 vwCl (wld g ad d) t.heap) ∧ va_F A st t
def XRA : String → State → State → Prop := fun _ _ _ => False
def PRA (g : GG) (ad : Nat → Nat) (as : List Value) (d : DS) (sz : Nat) : Array Value → State → Prop :=
  va_Pc as (fun U => U.heap.size = sz ∧ va_P g.1 vwCl (wld g ad d) U.heap ∧ GI g ad (va_A (wld g ad d) sz) U U.heap ∧ va_D (fun _ => True) (wld g ad d))
def CR (l : Launch) (me : ME) (n : Nat) (g : GG) (ad : Nat → Nat) (as : List Value) (d : DS) (v : Option Value) : Prop :=
  ∀ sz : Nat, vx_Met l me.1 (wsM me) (rmM n 0) (PRA g ad as d sz) (QRA g ad d (va_A (wld g ad d) sz) v) XRA 0 0 (va_A (wld g ad d) sz)
theorem PRA_blind {g : GG} {ad : Nat → Nat} {as : List Value} {d : DS} {sz : Nat} : FrameBlind (PRA g ad as d sz) := fun a U g' mk q => by
  obtain ⟨q0, q1, qP, qK, qD⟩ := q
  exact ⟨q0, q1, qP, GI.same qK rfl, qD⟩
theorem CM.ofR {l : Launch} {me : ME} {n : Nat} {as : List Value} {d : DS} {v0 : Option Value} (h : ∀ g ad, CR l me n g ad (as.map (cv ad)) d (v0.map (cv ad))) : CM l me n 0 as d (fun v d' => v = v0 ∧ d' = d) NX := by
  intro g ad sz p e ha hc hk s m args below hf happ hP hK
  obtain ⟨n, o, h1, h2, h3, h4⟩ := h g ad sz p e ha hc hk s m args below hf happ hP hK
  refine ⟨n, o, h1, h2, h3, ?_⟩
  rcases h4 with ⟨⟨⟨e1, q2⟩, hF⟩, hL⟩ | ⟨q, e1, E, ce, L, hx, hr⟩
  · exact Or.inl ⟨⟨⟨v0, d, e1, ⟨rfl, rfl⟩, q2⟩, hF⟩, hL⟩
  · exact hx.elim
theorem CR.walk {l : Launch} {me : ME} {n : Nat} {g : GG} {ad : Nat → Nat} {as : List Value} {d : DS} {v : Option Value} (hl : l.stackTraces = false) (hy : plainName me.1.cls = true) (hlen : (lg_sl as).length ≤ me.2.2.1)
    (body : ∀ (p : Program) (e : Env) (s : State) (m : MethodId) (below : List Frame) (meth : Method) (c : Code) (A : Nat → Prop), Cx p l e (rmM n 0) s m as.toArray meth c me.1.cls me.2.1 me.2.2.1 n 0 me.2.2.2 g ad A → ∀ la : Array Slot, lv_has la me.2.2.1 (lv_args 0 as) → va_P g.1 vwCl (wld g ad d) s.heap → va_S A s.heap s.heap [] →
      W p l e (rmM n 0) s m as.toArray below meth c s.heap [] 0 0 (vx_MQ below (QRA g ad d A v) XRA as.toArray s 0 0 A) (F0 m 0 la [])) : CR l me n g ad as d v := by
  intro sz
  refine vx_ofW (cc := me.2.1) (maxL := me.2.2.1) (ret := me.2.2.2) hy rfl ?_
  intro p e s m args below meth c s₁ B hml hex hv
  obtain ⟨rfl, hsz, hP, hG, hD0⟩ := hv
  subst hsz
  have hts := atoms_spec (ws := wsM me) B.pre
  have hD : ∀ d', va_D (va_A (wld g ad d) s.heap.size) (wld g ad d') := fun d' => wld_D (hD0.self (sz := s.heap.size))
  have cx : Cx p l e (rmM n 0) s m as.toArray meth c me.1.cls me.2.1 me.2.2.1 n 0 me.2.2.2 g ad (va_A (wld g ad d) s.heap.size) :=
    ⟨B.exec, B.bytes, hml, findClass_of_methodNamed B.named, fun w hw => hts w (List.mem_cons_of_mem _ hw), B.returns, B.notSynchronized, hex, ⟨Nat.le_refl _, Nat.le_refl _, Nat.le_refl _, Nat.le_refl _⟩, hG, hD, fun q h => Or.inr h, hl⟩
  have hl0 := lv_entry as (n := me.2.2.1) hlen
  rw [lg_entry_eq]
  exact body p e s m below meth c _ cx _ hl0 hP va_S.rf
section RawCalls
variable {p : Program} {l : Launch} {e : Env} {R : Room} {s : State} {m : MethodId} {args : Array Value} {below : List Frame} {meth : Method} {c : Code} {own : String} {cc : ByteArray} {nL n : Nat} {ret : Option FieldType} {g : GG} {ad : Nat → Nat} {A : Nat → Prop} {Z : State → Prop} {pc : Nat} {d : DS} {H : Heap} {locs : List Loc} {la : Array Slot}
theorem cr_after (cx : Cx p l e R s m args meth c own cc nL n 0 ret g ad A) {st0 rest : List Value} {a : Array Value} {v : Option Value} (hS : va_S A s.heap H locs)
    (run : vx_Run p l e R s m args below meth c H locs 0 0 0 0 (F0 m pc la st0) rest (QRA g ad d (va_A (wld g ad d) H.size) v a) XRA (va_A (wld g ad d) H.size))
    (h : ∀ (H' : Heap) (locs' : List Loc), va_P g.1 vwCl (wld g ad d) H' → va_S A s.heap H' locs' → W p l e R s m args below meth c H' locs' 0 0 Z (F0 m (pc + 3) la (v.toList ++ rest))) : W p l e R s m args below meth c H locs 0 0 Z (F0 m pc la st0) := by
  obtain ⟨hx, hb, hml, hown, hts, hr, hlk, hex, hR, hG, hD, hA, hst⟩ := cx
  have hAs := A_sub (d := d) hD hA hS
  intro T hT XX
  rcases run T hT XX with ⟨v', st₀, t, T', L, h0, X1, hL, e1, e2, ⟨⟨hv, hp'⟩, hF⟩, go⟩ | ⟨q, st₀, t, T', L, E, ce, h0, X1, hL, e1, e2, hx', _⟩
  · have hv : v' = v := by injection hv
    subst hv
    obtain ⟨k1, k2, k3⟩ := vx_keep h0 e1 hS (fun q _ h => hAs q h) hAs hL hF
    obtain ⟨t2, a1, b1⟩ := h T'.heap (locs ++ L) (by rw [e1]; exact hp') k3 T' rfl X1
    exact ⟨t2, go t2 a1, b1⟩
  · exact hx'.elim
theorem PRA_at (cx : Cx p l e R s m args meth c own cc nL n 0 ret g ad A) {as : List Value} (hP : va_P g.1 vwCl (wld g ad d) H) (hS : va_S A s.heap H locs) (U : State) (hU : U.heap = H) (hW : s.WarmedH U.vm) : PRA g ad as d H.size as.toArray U := by
  obtain ⟨hx, hb, hml, hown, hts, hr, hlk, hex, hR, hG, hD, hA, hst⟩ := cx
  exact ⟨rfl, by rw [hU], by rw [hU]; exact hP, by rw [hU]; exact GI.to hG hW (A_sub hD hA hS) hS.2.1, (hD d).weaken (fun _ _ _ _ => trivial)⟩
theorem cr_callS (cx : Cx p l e R s m args meth c own cc nL n 0 ret g ad A) {idx na n' : Nat} {me : ME} {as rest : List Value} {v : Option Value} (hd : decode cc pc = .ok (.invokestatic idx, 3)) (hk : okS own idx me na) (hna : as.length = na) (hn : n' < n) (hcat : (rest.map fun v => v.category).sum ≤ 8) (hP : va_P g.1 vwCl (wld g ad d) H) (hS : va_S A s.heap H locs) (hla : la.size = nL)
    (hC : CR l me n' g ad as d v) (h : ∀ (H' : Heap) (locs' : List Loc), va_P g.1 vwCl (wld g ad d) H' → va_S A s.heap H' locs' → W p l e R s m args below meth c H' locs' 0 0 Z (F0 m (pc + 3) la (v.toList ++ rest))) : W p l e R s m args below meth c H locs 0 0 Z (F0 m pc la (as.reverse ++ rest)) := by
  obtain ⟨k1, k2, k4, k5, k6, k7⟩ := hk
  have cb := cb_of cx (kc := 0) k1 k4 k5 k6 k7 hn
  have hts := cx.2.2.2.2.1
  have hrm := cx.2.2.2.2.2.2.2.2.1
  have run := vx_runS (p := p) (e := e) (below := below) (meth := meth) (H := H) (locs := locs) (cells := 0) (slots := 0) (As := as) (rest := rest) (Ts := gw) (own := own) (g := F0 m pc la (as.reverse ++ rest)) ⟨cx.1, cx.2.1, cx.2.2.1, cx.2.2.2.1, hts⟩ (hC H.size) ⟨cb, hts _ k2⟩ ⟨PRA_blind, fun U hU hW => PRA_at cx (as := as) hP hS U hU hW⟩
    rfl hna hla rfl (by show 2 * 0 + _ ≤ 8; omega) hd ⟨by omega, by omega⟩
  exact cr_after cx hS run h
theorem cr_callV (cx : Cx p l e R s m args meth c own cc nL n 0 ret g ad A) {idx na n' j : Nat} {me : ME} {as rest : List Value} {v : Option Value} (hd : decode cc pc = .ok (.invokevirtual idx, 3)) (hk : okV own idx "java/lang/String" me na) (hj : j < 28) (hna : as.length = na) (hn : n' < n) (hcat : (rest.map fun v => v.category).sum ≤ 8) (hP : va_P g.1 vwCl (wld g ad d) H) (hS : va_S A s.heap H locs) (hla : la.size = nL)
    (hC : CR l me n' g ad (.ref (ad (1000 + j)) :: as) d v) (h : ∀ (H' : Heap) (locs' : List Loc), va_P g.1 vwCl (wld g ad d) H' → va_S A s.heap H' locs' → W p l e R s m args below meth c H' locs' 0 0 Z (F0 m (pc + 3) la (v.toList ++ rest))) : W p l e R s m args below meth c H locs 0 0 Z (F0 m pc la (as.reverse ++ .ref (ad (1000 + j)) :: rest)) := by
  obtain ⟨k1, k2, k3, k4, k5, k6, k7⟩ := hk
  have cb := cb_of cx (kc := 0) k1 (by rw [k6.1]; exact k4) k5 k6.2 k7 hn
  have hts := cx.2.2.2.2.1
  have hrm := cx.2.2.2.2.2.2.2.2.1
  have hrec := vk_recv (cx.2.2.2.2.2.2.2.2.2.1.2.2.1 j hj) (Nat.zero_lt_one) hS
  have run := vx_runV (p := p) (e := e) (below := below) (meth := meth) (H := H) (locs := locs) (cells := 0) (slots := 0) (C := "java/lang/String") (b := ad (1000 + j)) (As := as) (rest := rest) (Ts := gw) (own := own) (g := F0 m pc la (as.reverse ++ .ref (ad (1000 + j)) :: rest)) ⟨cx.1, cx.2.1, cx.2.2.1, cx.2.2.2.1, hts⟩ (hC H.size) ⟨cb, hts _ k2, hts _ k3⟩ ⟨PRA_blind, hrec, fun U hU hW => PRA_at cx (as := .ref (ad (1000 + j)) :: as) hP hS U hU hW⟩
    rfl hna hla rfl (by show 2 * 0 + _ ≤ 8; omega) hd ⟨by omega, by omega⟩
  exact cr_after cx hS run h
theorem cr_ret (cx : Cx p l e R s m args meth c own cc nL n 0 ret g ad A) {ty : FieldType} {x : Int32} (hd : decode cc pc = .ok (.ireturn, 1)) (ht : ret = some ty) (hn : narrow ty (.int x) = .int x) (hP : va_P g.1 vwCl (wld g ad d) H) (hS : va_S A s.heap H locs) : W p l e R s m args below meth c H locs 0 0 (vx_MQ below (QRA g ad d A (some (.int x))) XRA args s 0 0 A) (F0 m pc la [.int x]) := by
  obtain ⟨hx, hb, hml, hown, hts, hr, hlk, hex, hR, hG, hD, hA, hst⟩ := cx
  exact vx_ret (W.zret hx hb (hr.trans ht) hn (fun t ht hW => ⟨⟨rfl, by rw [ht]; exact hP⟩, hS.F ht⟩) hS.2.2 hd hlk)
theorem cr_vret (cx : Cx p l e R s m args meth c own cc nL n 0 ret g ad A) (hd : decode cc pc = .ok (.return_, 1)) (ht : ret = none) (hP : va_P g.1 vwCl (wld g ad d) H) (hS : va_S A s.heap H locs) : W p l e R s m args below meth c H locs 0 0 (vx_MQ below (QRA g ad d A none) XRA args s 0 0 A) (F0 m pc la []) := by
  obtain ⟨hx, hb, hml, hown, hts, hr, hlk, hex, hR, hG, hD, hA, hst⟩ := cx
  exact vx_ret (W.vret hx hb (hr.trans ht) (fun t ht hW => ⟨⟨rfl, by rw [ht]; exact hP⟩, hS.F ht⟩) hS.2.2 hd hlk)
end RawCalls
theorem lvh_m {a : Array Slot} {nL : Nat} {L : List (Nat × Value)} {i : Nat} {v : Value} (h : lv_has a nL L) (hm : (i, v) ∈ L) : a[i]? = some (.val v) := h.2.2 _ hm
section Strings
variable {l : Launch} {n j : Nat} {g : GG} {ad : Nat → Nat} {d : DS}
set_option maxRecDepth 100000 in
set_option maxHeartbeats 4000000 in
theorem s_coder (hl : l.stackTraces = false) (hj : j < 28) : CR l mJ0_coder_7d493 n g ad [.ref (ad (1000 + j))] d (some (.int 0)) := by
  refine CR.walk hl (by decide +kernel) (Nat.le_refl 1) ?_
  intro p e s m below meth c A cx la hla hP hS
  have cx' := cx
  obtain ⟨hx, hb, hml, hown, hts, hr, hlk, hex, hR, ⟨h0, h1, h2, h3, h4, h5, h6, h7, h8, h9⟩, hD, hA, hst⟩ := cx
  have hs := (h2 j hj).1 0 Nat.zero_lt_one
  refine va_gets hx hb (own := RJ0) (index := 38) h5 hS hown (hts _ tw798) (fun _ h => h) deJ0_coder_7d493_0 ?_
  refine lv_if_eq hx hb deJ0_coder_7d493_3 (tgt := 13) (by decide) (fun q => absurd q (by decide)) (fun _ => ?_)
  refine lv_aload_n hx hb deJ0_coder_7d493_6 rfl (lvh_m hla (List.mem_cons_self ..)) ?_
  refine vk_getf hx hb hs.2.1 hS hown (hts _ tw2061) (fun _ h => h) deJ0_coder_7d493_7 ?_
  refine lv_goto hx hb deJ0_coder_7d493_10 (tgt := 14) (by decide) ?_
  exact cr_ret cx' deJ0_coder_7d493_14 rfl rfl hP hS
set_option maxRecDepth 100000 in
set_option maxHeartbeats 4000000 in
theorem s_isLatin1 (hl : l.stackTraces = false) (hj : j < 28) : CR l mJ0_isLatin1_aae02 n g ad [.ref (ad (1000 + j))] d (some (.int 1)) := by
  refine CR.walk hl (by decide +kernel) (Nat.le_refl 1) ?_
  intro p e s m below meth c A cx la hla hP hS
  have cx' := cx
  obtain ⟨hx, hb, hml, hown, hts, hr, hlk, hex, hR, ⟨h0, h1, h2, h3, h4, h5, h6, h7, h8, h9⟩, hD, hA, hst⟩ := cx
  have hs := (h2 j hj).1 0 Nat.zero_lt_one
  refine va_gets hx hb (own := RJ0) (index := 38) h5 hS hown (hts _ tw798) (fun _ h => h) deJ0_isLatin1_aae02_0 ?_
  refine lv_if_eq hx hb deJ0_isLatin1_aae02_3 (tgt := 17) (by decide) (fun q => absurd q (by decide)) (fun _ => ?_)
  refine lv_aload_n hx hb deJ0_isLatin1_aae02_6 rfl (lvh_m hla (List.mem_cons_self ..)) ?_
  refine vk_getf hx hb hs.2.1 hS hown (hts _ tw2061) (fun _ h => h) deJ0_isLatin1_aae02_7 ?_
  refine lv_if_ne hx hb deJ0_isLatin1_aae02_10 (tgt := 17) (by decide) (fun q => absurd rfl q) (fun _ => ?_)
  refine lv_iconst hx hb deJ0_isLatin1_aae02_13 rfl ?_
  refine lv_goto hx hb deJ0_isLatin1_aae02_14 (tgt := 18) (by decide) ?_
  exact cr_ret cx' deJ0_isLatin1_aae02_18 rfl rfl hP hS
set_option maxRecDepth 100000 in
set_option maxHeartbeats 4000000 in
theorem s_length (hl : l.stackTraces = false) (hj : j < 28) : CR l mJ0_length_8abf5 (n + 1) g ad [.ref (ad (1000 + j))] d (some (.int (nI (slen.getD j 0)))) := by
  refine CR.walk hl (by decide +kernel) (Nat.le_refl 1) ?_
  intro p e s m below meth c A cx la hla hP hS
  have cx' := cx
  obtain ⟨hx, hb, hml, hown, hts, hr, hlk, hex, hR, ⟨h0, h1, h2, h3, h4, h5, h6, h7, h8, h9⟩, hD, hA, hst⟩ := cx
  have hs := (h2 j hj).1 0 Nat.zero_lt_one
  have hsm : slen.getD j 0 < 2 ^ 31 := by
    have : ∀ j, j < 28 → slen.getD j 0 < 2 ^ 31 := by decide
    exact this j hj
  refine lv_aload_n hx hb deJ0_length_8abf5_0 rfl (lvh_m hla (List.mem_cons_self ..)) ?_
  refine vk_getf hx hb hs.2.2.1 hS hown (hts _ tw2060) (fun _ h => h) deJ0_length_8abf5_1 ?_
  refine va_tlen hx hb hs.2.2.2 hS (v := nI (slen.getD j 0)) rfl deJ0_length_8abf5_4 ?_
  refine lv_aload_n hx hb deJ0_length_8abf5_5 rfl (lvh_m hla (List.mem_cons_self ..)) ?_
  refine cr_callV cx' (as := []) (n' := n) deJ0_length_8abf5_6 lm_RJ0_335 hj rfl (Nat.lt_succ_self n) (Nat.le_of_ble_eq_true rfl) hP hS hla.1 (s_coder hl hj) (fun H' locs' hP hS => ?_)
  refine lv_ishr hx hb deJ0_length_8abf5_9 ?_
  rw [sc_shr0 hsm]
  exact cr_ret cx' deJ0_length_8abf5_10 rfl rfl hP hS
set_option maxRecDepth 100000 in
set_option maxHeartbeats 4000000 in
theorem s_check3 (hl : l.stackTraces = false) {i L : Int32} (q : Value) (hq : q.category = 1) (h0 : ¬ i < 0) (h1 : i < L) : CR l mJ3_checkIndex_8e157 n g ad [.int i, .int L, q] d (some (.int i)) := by
  refine CR.walk hl (by decide +kernel) (by
    have e3 : (lg_sl [Value.int i, Value.int L, q]).length = 3 := by
      have hne : ¬ q.category = 2 := by omega
      show ((if Value.category (.int i) = 2 then [Slot.val (.int i), Slot.second] else [Slot.val (.int i)]) ++ ((if Value.category (.int L) = 2 then [Slot.val (.int L), Slot.second] else [Slot.val (.int L)]) ++ ((if q.category = 2 then [Slot.val q, Slot.second] else [Slot.val q]) ++ []))).length = 3
      rw [if_neg hne]
      rfl
    rw [e3]
    exact Nat.le_refl 3) ?_
  intro p e s m below meth c A cx la hla hP hS
  have cx' := cx
  obtain ⟨hx, hb, hml, hown, hts, hr, hlk, hex, hR, -, hD, hA, hst⟩ := cx
  have l0 : la[0]? = some (.val (.int i)) := lvh_m hla (List.mem_cons_self ..)
  have l1 : la[1]? = some (.val (.int L)) := lvh_m hla (List.mem_cons_of_mem _ (List.mem_cons_self ..))
  refine lv_iload_n hx hb deJ3_checkIndex_8e157_0 rfl l0 ?_
  refine lv_if_lt hx hb deJ3_checkIndex_8e157_1 (tgt := 9) (by decide) (fun q => absurd q h0) (fun _ => ?_)
  refine lv_iload_n hx hb deJ3_checkIndex_8e157_4 rfl l0 ?_
  refine lv_iload_n hx hb deJ3_checkIndex_8e157_5 rfl l1 ?_
  refine lv_icmp_lt hx hb deJ3_checkIndex_8e157_6 (tgt := 16) (by decide) (fun _ => ?_) (fun q => absurd h1 q)
  refine lv_iload_n hx hb deJ3_checkIndex_8e157_16 rfl l0 ?_
  exact cr_ret cx' deJ3_checkIndex_8e157_17 rfl rfl hP hS
set_option maxRecDepth 100000 in
set_option maxHeartbeats 4000000 in
theorem s_check2 (hl : l.stackTraces = false) {i L : Int32} (h0 : ¬ i < 0) (h1 : i < L) : CR l mJ0_checkIndex_df160 (n + 1) g ad [.int i, .int L] d none := by
  refine CR.walk hl (by decide +kernel) (Nat.le_refl 2) ?_
  intro p e s m below meth c A cx la hla hP hS
  have cx' := cx
  obtain ⟨hx, hb, hml, hown, hts, hr, hlk, hex, hR, ⟨z0, z1, z2, z3, z4, z5, z6, z7, z8, z9⟩, hD, hA, hst⟩ := cx
  have l0 : la[0]? = some (.val (.int i)) := lvh_m hla (List.mem_cons_self ..)
  have l1 : la[1]? = some (.val (.int L)) := lvh_m hla (List.mem_cons_of_mem _ (List.mem_cons_self ..))
  have fin : ∀ q : Value, q.category = 1 → W p l e (rmM (n + 1) 0) s m [Value.int i, .int L].toArray below meth c s.heap [] 0 0 (vx_MQ below (QRA g ad d A none) XRA [Value.int i, .int L].toArray s 0 0 A) (F0 m 5 la ([.int i, .int L, q].reverse ++ [])) := by
    intro q hq
    refine cr_callS cx' (as := [.int i, .int L, q]) (n' := n) deJ0_checkIndex_df160_5 lm_RJ0_1059 rfl (Nat.lt_succ_self n) (by decide) hP hS hla.1 (s_check3 hl q hq h0 h1) (fun H' locs' hP hS => ?_)
    refine lv_pop hx hb deJ0_checkIndex_df160_8 rfl ?_
    exact cr_vret cx' deJ0_checkIndex_df160_9 rfl hP hS
  refine lv_iload_n hx hb deJ0_checkIndex_df160_0 rfl l0 ?_
  refine lv_iload_n hx hb deJ0_checkIndex_df160_1 rfl l1 ?_
  rcases z6 with z | ⟨t, z⟩
  · exact va_gets hx hb (own := RJ0) (index := 1053) z hS hown (hts _ tw814) (fun _ h => h) deJ0_checkIndex_df160_2 (fin _ rfl)
  · exact va_gets hx hb (own := RJ0) (index := 1053) z hS hown (hts _ tw814) (fun _ h => h) deJ0_checkIndex_df160_2 (fin _ rfl)
/-- the char k of the text j -/
def chS (j k : Nat) : Int32 := (sbyt.getD j []).getD k 0
theorem chS_ok : ∀ j, j < 28 → (sbyt.getD j []).length = slen.getD j 0 ∧ ∀ b ∈ sbyt.getD j [], ((b &&& 255).toUInt32 % 65536).toInt32 = b ∧ b.toInt < 128 ∧ 0 ≤ b.toInt := by decide +kernel
theorem chS_fact (hj : j < 28) {k : Nat} (hk : k < slen.getD j 0) : ((chS j k &&& 255).toUInt32 % 65536).toInt32 = chS j k ∧ narrow .char (.int (chS j k)) = .int (chS j k) := by
  obtain ⟨h1, h2⟩ := chS_ok j hj
  have hm : chS j k ∈ sbyt.getD j [] := by
    have hk2 : k < (sbyt.getD j []).length := by omega
    unfold chS
    generalize sbyt.getD j [] = L at hk2 ⊢
    rw [List.getD_eq_getElem?_getD, List.getElem?_eq_getElem hk2]
    exact List.getElem_mem _
  have h3 := (h2 _ hm).1
  refine ⟨h3, ?_⟩
  rw [sc_c2] at h3
  rw [← h3]
  exact sc_nar _
set_option maxRecDepth 100000 in
set_option maxHeartbeats 4000000 in
theorem s_latin (hl : l.stackTraces = false) (hj : j < 28) {k : Nat} (hk : k < slen.getD j 0) : CR l mJ1_charAt_3b067 (n + 2) g ad [.ref (g.2.2.2.2.2 j), .int (nI k)] d (some (.int (chS j k))) := by
  refine CR.walk hl (by decide +kernel) (Nat.le_refl 2) ?_
  intro p e s m below meth c A cx la hla hP hS
  have cx' := cx
  obtain ⟨hx, hb, hml, hown, hts, hr, hlk, hex, hR, ⟨z0, z1, z2, z3, z4, z5, z6, z7, z8, z9⟩, hD, hA, hst⟩ := cx
  have hs := (z2 j hj).1 0 Nat.zero_lt_one
  have hsm : slen.getD j 0 < 2 ^ 31 := by
    have : ∀ j, j < 28 → slen.getD j 0 < 2 ^ 31 := by decide
    exact this j hj
  have l0 : la[0]? = some (.val (.ref (g.2.2.2.2.2 j))) := lvh_m hla (List.mem_cons_self ..)
  have l1 : la[1]? = some (.val (.int (nI k))) := lvh_m hla (List.mem_cons_of_mem _ (List.mem_cons_self ..))
  refine lv_iload_n hx hb deJ1_charAt_3b067_0 rfl l1 ?_
  refine lv_aload_n hx hb deJ1_charAt_3b067_1 rfl l0 ?_
  refine va_tlen hx hb hs.2.2.2 hS (v := nI (slen.getD j 0)) rfl deJ1_charAt_3b067_2 ?_
  refine cr_callS cx' (as := [.int (nI k), .int (nI (slen.getD j 0))]) (rest := []) (n' := n + 1) deJ1_charAt_3b067_3 lm_RJ1_9 rfl (Nat.lt_succ_self _) (by decide) hP hS hla.1 (s_check2 hl (nI_pos (by omega)) (nI_lt hk hsm)) (fun H' locs' hP hS => ?_)
  refine lv_aload_n hx hb deJ1_charAt_3b067_6 rfl l0 ?_
  refine lv_iload_n hx hb deJ1_charAt_3b067_7 rfl l1 ?_
  refine va_tb hx hb hs.2.2.2 hS (vp_in_nI hk hsm) (v := .int (chS j k)) (by rw [nI_clamp (by omega)]; rfl) deJ1_charAt_3b067_8 ?_
  refine lv_sipush hx hb deJ1_charAt_3b067_9 (v := 255) (by decide) ?_
  refine lv_iand hx hb deJ1_charAt_3b067_12 ?_
  refine lv_i2c hx hb deJ1_charAt_3b067_13 (chS_fact hj hk).1 ?_
  exact cr_ret cx' deJ1_charAt_3b067_14 rfl (chS_fact hj hk).2 hP hS
set_option maxRecDepth 100000 in
set_option maxHeartbeats 4000000 in
theorem s_charAt (hl : l.stackTraces = false) (hj : j < 28) {k : Nat} (hk : k < slen.getD j 0) : CR l mJ0_charAt_5068e (n + 3) g ad [.ref (ad (1000 + j)), .int (nI k)] d (some (.int (chS j k))) := by
  refine CR.walk hl (by decide +kernel) (Nat.le_refl 2) ?_
  intro p e s m below meth c A cx la hla hP hS
  have cx' := cx
  obtain ⟨hx, hb, hml, hown, hts, hr, hlk, hex, hR, ⟨z0, z1, z2, z3, z4, z5, z6, z7, z8, z9⟩, hD, hA, hst⟩ := cx
  have hs := (z2 j hj).1 0 Nat.zero_lt_one
  have l0 : la[0]? = some (.val (.ref (ad (1000 + j)))) := lvh_m hla (List.mem_cons_self ..)
  have l1 : la[1]? = some (.val (.int (nI k))) := lvh_m hla (List.mem_cons_of_mem _ (List.mem_cons_self ..))
  refine lv_aload_n hx hb deJ0_charAt_5068e_0 rfl l0 ?_
  refine cr_callV cx' (as := []) (n' := n) deJ0_charAt_5068e_1 lm_RJ0_492 hj rfl (by omega) (by decide) hP hS hla.1 (s_isLatin1 hl hj) (fun H' locs' hP hS => ?_)
  refine lv_if_eq hx hb deJ0_charAt_5068e_4 (tgt := 16) (by decide) (fun q => absurd q (by decide)) (fun _ => ?_)
  refine lv_aload_n hx hb deJ0_charAt_5068e_7 rfl l0 ?_
  refine vk_getf hx hb hs.2.2.1 hS hown (hts _ tw2060) (fun _ h => h) deJ0_charAt_5068e_8 ?_
  refine lv_iload_n hx hb deJ0_charAt_5068e_11 rfl l1 ?_
  refine cr_callS cx' (as := [.ref (g.2.2.2.2.2 j), .int (nI k)]) (rest := []) (n' := n + 2) deJ0_charAt_5068e_12 lm_RJ0_495 rfl (Nat.lt_succ_self _) (by decide) hP hS hla.1 (s_latin hl hj hk) (fun H' locs' hP hS => ?_)
  exact cr_ret cx' deJ0_charAt_5068e_15 rfl (chS_fact hj hk).2 hP hS
set_option maxRecDepth 100000 in
set_option maxHeartbeats 4000000 in
theorem j_length (hl : l.stackTraces = false) (hj : j < 28) : CM l mJ0_length_8abf5 (n + 1) 0 [.ref (1000 + j)] d (fun v d' => v = some (.int (nI (slen.getD j 0))) ∧ d' = d) NX := CM.ofR (fun g ad => s_length hl hj)
set_option maxRecDepth 100000 in
set_option maxHeartbeats 4000000 in
theorem j_charAt (hl : l.stackTraces = false) (hj : j < 28) {k : Nat} (hk : k < slen.getD j 0) : CM l mJ0_charAt_5068e (n + 3) 0 [.ref (1000 + j), .int (nI k)] d (fun v d' => v = some (.int (chS j k)) ∧ d' = d) NX := CM.ofR (fun g ad => s_charAt hl hj hk)
end Strings
