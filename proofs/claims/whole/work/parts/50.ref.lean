/-! THE REFERENCE: its world by rows -/
def mf (g f : Nat → Int32) : Nat → Int32 := fun k => if k = 33 then f 2 else if k = 34 then f 1 else if k = 35 then f 5 else if k = 36 then f 6 else if k = 41 then f 7 else g k
def setM (d : DS) (a : AW) (as sk : Nat → Int32) : DS := fun c => if c = 52 then mf (d 52) (aF a) else if c = 66 then aNe a else if c = 68 then aWo a else if c = 69 then aHo a else if c = 70 then aSo a else if c = 71 then aPa a else if c = 73 then as else if c = 74 then sk else d c
theorem pj_F (f ne so pa wo ho : Nat → Int32) : aF (f, ne, so, pa, wo, ho) = f := rfl
theorem pj_Ne (f ne so pa wo ho : Nat → Int32) : aNe (f, ne, so, pa, wo, ho) = ne := rfl
theorem pj_So (f ne so pa wo ho : Nat → Int32) : aSo (f, ne, so, pa, wo, ho) = so := rfl
theorem pj_Pa (f ne so pa wo ho : Nat → Int32) : aPa (f, ne, so, pa, wo, ho) = pa := rfl
theorem pj_Wo (f ne so pa wo ho : Nat → Int32) : aWo (f, ne, so, pa, wo, ho) = wo := rfl
theorem pj_Ho (f ne so pa wo ho : Nat → Int32) : aHo (f, ne, so, pa, wo, ho) = ho := rfl
section SetM
variable (d : DS) (a : AW) (as sk : Nat → Int32)
theorem sm_0 : setM d a as sk 0 = d 0 := by simp [setM]
theorem sm_1 : setM d a as sk 1 = d 1 := by simp [setM]
theorem sm_2 : setM d a as sk 2 = d 2 := by simp [setM]
theorem sm_3 : setM d a as sk 3 = d 3 := by simp [setM]
theorem sm_4 : setM d a as sk 4 = d 4 := by simp [setM]
theorem sm_5 : setM d a as sk 5 = d 5 := by simp [setM]
theorem sm_6 : setM d a as sk 6 = d 6 := by simp [setM]
theorem sm_7 : setM d a as sk 7 = d 7 := by simp [setM]
theorem sm_8 : setM d a as sk 8 = d 8 := by simp [setM]
theorem sm_9 : setM d a as sk 9 = d 9 := by simp [setM]
theorem sm_10 : setM d a as sk 10 = d 10 := by simp [setM]
theorem sm_11 : setM d a as sk 11 = d 11 := by simp [setM]
theorem sm_12 : setM d a as sk 12 = d 12 := by simp [setM]
theorem sm_13 : setM d a as sk 13 = d 13 := by simp [setM]
theorem sm_14 : setM d a as sk 14 = d 14 := by simp [setM]
theorem sm_15 : setM d a as sk 15 = d 15 := by simp [setM]
theorem sm_16 : setM d a as sk 16 = d 16 := by simp [setM]
theorem sm_17 : setM d a as sk 17 = d 17 := by simp [setM]
theorem sm_18 : setM d a as sk 18 = d 18 := by simp [setM]
theorem sm_19 : setM d a as sk 19 = d 19 := by simp [setM]
theorem sm_20 : setM d a as sk 20 = d 20 := by simp [setM]
theorem sm_21 : setM d a as sk 21 = d 21 := by simp [setM]
theorem sm_22 : setM d a as sk 22 = d 22 := by simp [setM]
theorem sm_23 : setM d a as sk 23 = d 23 := by simp [setM]
theorem sm_24 : setM d a as sk 24 = d 24 := by simp [setM]
theorem sm_25 : setM d a as sk 25 = d 25 := by simp [setM]
theorem sm_26 : setM d a as sk 26 = d 26 := by simp [setM]
theorem sm_27 : setM d a as sk 27 = d 27 := by simp [setM]
theorem sm_28 : setM d a as sk 28 = d 28 := by simp [setM]
theorem sm_29 : setM d a as sk 29 = d 29 := by simp [setM]
theorem sm_30 : setM d a as sk 30 = d 30 := by simp [setM]
theorem sm_31 : setM d a as sk 31 = d 31 := by simp [setM]
theorem sm_32 : setM d a as sk 32 = d 32 := by simp [setM]
theorem sm_33 : setM d a as sk 33 = d 33 := by simp [setM]
theorem sm_34 : setM d a as sk 34 = d 34 := by simp [setM]
theorem sm_35 : setM d a as sk 35 = d 35 := by simp [setM]
theorem sm_36 : setM d a as sk 36 = d 36 := by simp [setM]
theorem sm_37 : setM d a as sk 37 = d 37 := by simp [setM]
theorem sm_38 : setM d a as sk 38 = d 38 := by simp [setM]
theorem sm_39 : setM d a as sk 39 = d 39 := by simp [setM]
theorem sm_40 : setM d a as sk 40 = d 40 := by simp [setM]
theorem sm_41 : setM d a as sk 41 = d 41 := by simp [setM]
theorem sm_42 : setM d a as sk 42 = d 42 := by simp [setM]
theorem sm_43 : setM d a as sk 43 = d 43 := by simp [setM]
theorem sm_44 : setM d a as sk 44 = d 44 := by simp [setM]
theorem sm_45 : setM d a as sk 45 = d 45 := by simp [setM]
theorem sm_46 : setM d a as sk 46 = d 46 := by simp [setM]
theorem sm_47 : setM d a as sk 47 = d 47 := by simp [setM]
theorem sm_48 : setM d a as sk 48 = d 48 := by simp [setM]
theorem sm_49 : setM d a as sk 49 = d 49 := by simp [setM]
theorem sm_50 : setM d a as sk 50 = d 50 := by simp [setM]
theorem sm_51 : setM d a as sk 51 = d 51 := by simp [setM]
theorem sm_53 : setM d a as sk 53 = d 53 := by simp [setM]
theorem sm_54 : setM d a as sk 54 = d 54 := by simp [setM]
theorem sm_55 : setM d a as sk 55 = d 55 := by simp [setM]
theorem sm_56 : setM d a as sk 56 = d 56 := by simp [setM]
theorem sm_57 : setM d a as sk 57 = d 57 := by simp [setM]
theorem sm_58 : setM d a as sk 58 = d 58 := by simp [setM]
theorem sm_59 : setM d a as sk 59 = d 59 := by simp [setM]
theorem sm_60 : setM d a as sk 60 = d 60 := by simp [setM]
theorem sm_61 : setM d a as sk 61 = d 61 := by simp [setM]
theorem sm_62 : setM d a as sk 62 = d 62 := by simp [setM]
theorem sm_63 : setM d a as sk 63 = d 63 := by simp [setM]
theorem sm_64 : setM d a as sk 64 = d 64 := by simp [setM]
theorem sm_65 : setM d a as sk 65 = d 65 := by simp [setM]
theorem sm_67 : setM d a as sk 67 = d 67 := by simp [setM]
theorem sm_72 : setM d a as sk 72 = d 72 := by simp [setM]
theorem sm_75 : setM d a as sk 75 = d 75 := by simp [setM]
theorem sm_76 : setM d a as sk 76 = d 76 := by simp [setM]
theorem sm_77 : setM d a as sk 77 = d 77 := by simp [setM]
theorem sm_78 : setM d a as sk 78 = d 78 := by simp [setM]
theorem sm_79 : setM d a as sk 79 = d 79 := by simp [setM]
theorem sm_80 : setM d a as sk 80 = d 80 := by simp [setM]
theorem sm_81 : setM d a as sk 81 = d 81 := by simp [setM]
theorem sm_82 : setM d a as sk 82 = d 82 := by simp [setM]
theorem sm_83 : setM d a as sk 83 = d 83 := by simp [setM]
theorem sm_84 : setM d a as sk 84 = d 84 := by simp [setM]
theorem sm_85 : setM d a as sk 85 = d 85 := by simp [setM]
theorem sm_86 : setM d a as sk 86 = d 86 := by simp [setM]
theorem sm_87 : setM d a as sk 87 = d 87 := by simp [setM]
theorem sm_52 : setM d a as sk 52 = mf (d 52) (aF a) := by simp [setM]
theorem sm_66 : setM d a as sk 66 = aNe a := by simp [setM]
theorem sm_68 : setM d a as sk 68 = aWo a := by simp [setM]
theorem sm_69 : setM d a as sk 69 = aHo a := by simp [setM]
theorem sm_70 : setM d a as sk 70 = aSo a := by simp [setM]
theorem sm_71 : setM d a as sk 71 = aPa a := by simp [setM]
theorem sm_73 : setM d a as sk 73 = as := by simp [setM]
theorem sm_74 : setM d a as sk 74 = sk := by simp [setM]
theorem mf_r33 (g f : Nat → Int32) : mf g f 33 = f 2 := by simp [mf]
theorem mf_r34 (g f : Nat → Int32) : mf g f 34 = f 1 := by simp [mf]
theorem mf_r35 (g f : Nat → Int32) : mf g f 35 = f 5 := by simp [mf]
theorem mf_r36 (g f : Nat → Int32) : mf g f 36 = f 6 := by simp [mf]
theorem mf_r41 (g f : Nat → Int32) : mf g f 41 = f 7 := by simp [mf]
theorem mf_r3 (g f : Nat → Int32) : mf g f 3 = g 3 := by simp [mf]
theorem mf_r4 (g f : Nat → Int32) : mf g f 4 = g 4 := by simp [mf]
theorem mf_r17 (g f : Nat → Int32) : mf g f 17 = g 17 := by simp [mf]
theorem mf_r18 (g f : Nat → Int32) : mf g f 18 = g 18 := by simp [mf]
theorem mf_r19 (g f : Nat → Int32) : mf g f 19 = g 19 := by simp [mf]
theorem mf_r20 (g f : Nat → Int32) : mf g f 20 = g 20 := by simp [mf]
theorem mf_r21 (g f : Nat → Int32) : mf g f 21 = g 21 := by simp [mf]
theorem mf_r22 (g f : Nat → Int32) : mf g f 22 = g 22 := by simp [mf]
theorem mf_r23 (g f : Nat → Int32) : mf g f 23 = g 23 := by simp [mf]
theorem mf_r24 (g f : Nat → Int32) : mf g f 24 = g 24 := by simp [mf]
theorem mf_r25 (g f : Nat → Int32) : mf g f 25 = g 25 := by simp [mf]
theorem mf_r26 (g f : Nat → Int32) : mf g f 26 = g 26 := by simp [mf]
theorem mf_r27 (g f : Nat → Int32) : mf g f 27 = g 27 := by simp [mf]
theorem mf_r37 (g f : Nat → Int32) : mf g f 37 = g 37 := by simp [mf]
theorem mf_r38 (g f : Nat → Int32) : mf g f 38 = g 38 := by simp [mf]
theorem mf_r48 (g f : Nat → Int32) : mf g f 48 = g 48 := by simp [mf]
theorem mf_r50 (g f : Nat → Int32) : mf g f 50 = g 50 := by simp [mf]
theorem mf_r51 (g f : Nat → Int32) : mf g f 51 = g 51 := by simp [mf]
theorem mf_r52 (g f : Nat → Int32) : mf g f 52 = g 52 := by simp [mf]
theorem mf_r53 (g f : Nat → Int32) : mf g f 53 = g 53 := by simp [mf]
theorem mf_33 (g f : Nat → Int32) (x : Int32) : upd (mf g f) 33 x = mf g (upd f 2 x) := by
  funext k
  by_cases h : k = 33
  · subst h; simp [mf, upd]
  · simp [mf, upd, h]
theorem mf_34 (g f : Nat → Int32) (x : Int32) : upd (mf g f) 34 x = mf g (upd f 1 x) := by
  funext k
  by_cases h : k = 34
  · subst h; simp [mf, upd]
  · simp [mf, upd, h]
theorem mf_35 (g f : Nat → Int32) (x : Int32) : upd (mf g f) 35 x = mf g (upd f 5 x) := by
  funext k
  by_cases h : k = 35
  · subst h; simp [mf, upd]
  · simp [mf, upd, h]
theorem mf_36 (g f : Nat → Int32) (x : Int32) : upd (mf g f) 36 x = mf g (upd f 6 x) := by
  funext k
  by_cases h : k = 36
  · subst h; simp [mf, upd]
  · simp [mf, upd, h]
theorem mf_41 (g f : Nat → Int32) (x : Int32) : upd (mf g f) 41 x = mf g (upd f 7 x) := by
  funext k
  by_cases h : k = 41
  · subst h; simp [mf, upd]
  · simp [mf, upd, h]
theorem mf_o (g f : Nat → Int32) (x : Int32) {k : Nat} (h3 : k ≠ 33) (h4 : k ≠ 34) (h5 : k ≠ 35) (h6 : k ≠ 36) (h7 : k ≠ 41) : upd (mf g f) k x = mf (upd g k x) f := by
  funext j
  by_cases h : j = k
  · subst h; simp [mf, upd, h3, h4, h5, h6, h7]
  · simp [mf, upd, h]
theorem dset_to {D D' : DS} {c i : Nat} {x : Int32} (h : D' c = upd (D c) i x) (ho : ∀ e, e ≠ c → D' e = D e) : dset D c i x = D' := by
  funext e
  by_cases q : e = c
  · rw [q, ds_s, h]
  · rw [ds_n _ _ _ q, ho e q]
theorem drow_to {D D' : DS} {c : Nat} {f : Nat → Int32} (h : D' c = f) (ho : ∀ e, e ≠ c → D' e = D e) : drow D c f = D' := by
  funext e
  by_cases q : e = c
  · rw [q, dr_s, h]
  · rw [dr_n _ _ q, ho e q]
theorem ss_33 (x : Int32) : dset (setM d a as sk) 52 33 x = setM d (upd (aF a) 2 x, aNe a, aSo a, aPa a, aWo a, aHo a) as sk := dset_to (by rw [sm_52, sm_52, mf_33]) (fun e h => by simp [setM, h])
theorem ss_34 (x : Int32) : dset (setM d a as sk) 52 34 x = setM d (upd (aF a) 1 x, aNe a, aSo a, aPa a, aWo a, aHo a) as sk := dset_to (by rw [sm_52, sm_52, mf_34]) (fun e h => by simp [setM, h])
theorem ss_35 (x : Int32) : dset (setM d a as sk) 52 35 x = setM d (upd (aF a) 5 x, aNe a, aSo a, aPa a, aWo a, aHo a) as sk := dset_to (by rw [sm_52, sm_52, mf_35]) (fun e h => by simp [setM, h])
theorem ss_36 (x : Int32) : dset (setM d a as sk) 52 36 x = setM d (upd (aF a) 6 x, aNe a, aSo a, aPa a, aWo a, aHo a) as sk := dset_to (by rw [sm_52, sm_52, mf_36]) (fun e h => by simp [setM, h])
theorem ss_41 (x : Int32) : dset (setM d a as sk) 52 41 x = setM d (upd (aF a) 7 x, aNe a, aSo a, aPa a, aWo a, aHo a) as sk := dset_to (by rw [sm_52, sm_52, mf_41]) (fun e h => by simp [setM, h])
theorem ss_o (x : Int32) {k : Nat} (h3 : k ≠ 33) (h4 : k ≠ 34) (h5 : k ≠ 35) (h6 : k ≠ 36) (h7 : k ≠ 41) : dset (setM d a as sk) 52 k x = setM (dset d 52 k x) a as sk := dset_to (by rw [sm_52, sm_52, mf_o _ _ _ h3 h4 h5 h6 h7, ds_s]) (fun e h => by
  unfold setM
  rw [if_neg h, if_neg h]
  repeat' split
  all_goals first | rfl | exact ds_n _ _ _ h)
theorem ss_66 (i : Nat) (x : Int32) : dset (setM d a as sk) 66 i x = setM d (aF a, upd (aNe a) i x, aSo a, aPa a, aWo a, aHo a) as sk := dset_to (by rw [sm_66, sm_66]) (fun e h => by simp [setM, h])
theorem ss_68 (i : Nat) (x : Int32) : dset (setM d a as sk) 68 i x = setM d (aF a, aNe a, aSo a, aPa a, upd (aWo a) i x, aHo a) as sk := dset_to (by rw [sm_68, sm_68]) (fun e h => by simp [setM, h])
theorem ss_69 (i : Nat) (x : Int32) : dset (setM d a as sk) 69 i x = setM d (aF a, aNe a, aSo a, aPa a, aWo a, upd (aHo a) i x) as sk := dset_to (by rw [sm_69, sm_69]) (fun e h => by simp [setM, h])
theorem ss_70 (i : Nat) (x : Int32) : dset (setM d a as sk) 70 i x = setM d (aF a, aNe a, upd (aSo a) i x, aPa a, aWo a, aHo a) as sk := dset_to (by rw [sm_70, sm_70]) (fun e h => by simp [setM, h])
theorem ss_71 (i : Nat) (x : Int32) : dset (setM d a as sk) 71 i x = setM d (aF a, aNe a, aSo a, upd (aPa a) i x, aWo a, aHo a) as sk := dset_to (by rw [sm_71, sm_71]) (fun e h => by simp [setM, h])
theorem ss_73 (i : Nat) (x : Int32) : dset (setM d a as sk) 73 i x = setM d a (upd as i x) sk := dset_to (by rw [sm_73, sm_73]) (fun e h => by simp [setM, h])
theorem ss_74 (i : Nat) (x : Int32) : dset (setM d a as sk) 74 i x = setM d a as (upd sk i x) := dset_to (by rw [sm_74, sm_74]) (fun e h => by simp [setM, h])
theorem ss_c {c : Nat} (h1 : c ≠ 52) (h2 : c ≠ 66) (h3 : c ≠ 68) (h4 : c ≠ 69) (h5 : c ≠ 70) (h6 : c ≠ 71) (h7 : c ≠ 73) (h8 : c ≠ 74) (i : Nat) (x : Int32) : dset (setM d a as sk) c i x = setM (dset d c i x) a as sk := by
  have o : ∀ D : DS, setM D a as sk c = D c := fun D => by unfold setM; rw [if_neg h1, if_neg h2, if_neg h3, if_neg h4, if_neg h5, if_neg h6, if_neg h7, if_neg h8]
  refine dset_to (by rw [o, o, ds_s]) (fun e h => ?_)
  unfold setM
  rw [ds_n _ _ _ h]
  by_cases q : e = 52
  · rw [if_pos q, if_pos q, ds_n _ _ _ (fun z => h1 z.symm)]
  · rw [if_neg q, if_neg q]
end SetM
def mF (d : DS) (bg : Int32) : Nat → Int32 := fun k => if k = 0 then d 56 0 else if k = 1 then d 52 34 else if k = 2 then d 52 33 else if k = 3 then d 56 2 else if k = 4 then bg else if k = 5 then d 52 35 else if k = 6 then d 52 36 else d 52 41
/-- the reference's world; the beggars' bits are bg -/
def mW (d : DS) (bg : Int32) : AW := (mF d bg, d 66, d 70, d 71, d 68, d 69)
theorem setM_id (d : DS) (bg : Int32) : setM d (mW d bg) (d 73) (d 74) = d := by
  funext c
  by_cases q : c = 52
  · subst q
    rw [sm_52]
    funext k
    show mf (d 52) (mF d bg) k = d 52 k
    by_cases h3 : k = 33
    · subst h3; rw [mf_r33]; rfl
    by_cases h4 : k = 34
    · subst h4; rw [mf_r34]; rfl
    by_cases h5 : k = 35
    · subst h5; rw [mf_r35]; rfl
    by_cases h6 : k = 36
    · subst h6; rw [mf_r36]; rfl
    by_cases h7 : k = 41
    · subst h7; rw [mf_r41]; rfl
    unfold mf
    rw [if_neg h3, if_neg h4, if_neg h5, if_neg h6, if_neg h7]
  by_cases h1 : c = 66
  · subst h1; rw [sm_66]; rfl
  by_cases h2 : c = 68
  · subst h2; rw [sm_68]; rfl
  by_cases h3 : c = 69
  · subst h3; rw [sm_69]; rfl
  by_cases h4 : c = 70
  · subst h4; rw [sm_70]; rfl
  by_cases h5 : c = 71
  · subst h5; rw [sm_71]; rfl
  by_cases h6 : c = 73
  · subst h6; rw [sm_73]
  by_cases h7 : c = 74
  · subst h7; rw [sm_74]
  unfold setM
  rw [if_neg q, if_neg h1, if_neg h2, if_neg h3, if_neg h4, if_neg h5, if_neg h6, if_neg h7]
/-- the reference's code of a step -/
def trC (c : Int32) : Int32 := if 100 ≤ c then c - 100 else if c < 5 then -1 - c else if c < 7 then -c else -10 - c
/-- what stays over years: people, minting, beggars, rules -/
def mK (u : RU) (F : Nat → Int32) (d : DS) : Prop := d 56 0 = F 0 ∧ d 56 2 = F 3 ∧ d 56 3 = nI u.1.length ∧ d 56 4 = nI u.2.length ∧ (∀ p, p < pNf F → (d 57 p = 1 ↔ ¬ F 4 &&& bit p = 0)) ∧ laid (d 63) 0 (u.1.map trC) ∧ laid (d 64) 0 (u.2.map trC) ∧ u.1.length ≤ 700 ∧ u.2.length ≤ 700
def okA (a : AW) : Prop := szA a ∧ (∃ m, 1 ≤ m ∧ m ≤ 9 ∧ aF a 3 = nI m) ∧ (∀ c, c < cNf (aF a) → (aF a 6 &&& bit c = 0 ∧ ∃ p, p < pNf (aF a) ∧ aHo a c = nI p) ∨ (¬ aF a 6 &&& bit c = 0 ∧ aHo a c = -1 ∧ aWo a c = 0 ∧ aF a 5 &&& bit c = 0)) ∧ (∀ c, cNf (aF a) ≤ c → c < 12 → aHo a c = -1 ∧ aWo a c = 0 ∧ aF a 6 &&& bit c = 0 ∧ aF a 5 &&& bit c = 0) ∧ (∀ p, p < pNf (aF a) → (aPa a p = -1 ∨ ∃ q, q < pNf (aF a) ∧ ¬ q = p ∧ aPa a p = nI q) ∧ ∃ y, y ≤ 30 ∧ aSo a p = nI y) ∧ (∀ c, c < 12 → ∃ w, w ≤ 99 ∧ aWo a c = nI w) ∧ (∃ x, x < 4096 ∧ aF a 6 = nI x) ∧ ∃ x, x < 4096 ∧ aF a 5 = nI x
theorem pN8 (f : Nat → Int32) : pNf f ≤ 8 := by unfold pNf; omega
theorem cN12 (f : Nat → Int32) : cNf f ≤ 12 := by unfold cNf; omega
/-! bits -/
theorem bt_bit : ∀ k, k < 32 → ∀ i, i < 32 → bt (bit k) i = decide (i = k) := by decide +kernel
theorem bt_one : ∀ i, i < 32 → bt 1 i = decide (i = 0) := by decide +kernel
theorem and_bit (s : Int32) {k : Nat} (hk : k < 32) : s &&& bit k = 0 ↔ bt s k = false := by
  refine ⟨fun h => ?_, fun h => b_ext (fun i hi => ?_)⟩
  · have := congrArg (fun z => bt z k) h
    simp only [b_and, bt_bit k hk k hk, b_0, decide_true, Bool.and_true] at this
    exact this
  · rw [b_and, bt_bit k hk i hi, b_0]
    by_cases q : i = k
    · rw [q, h]; rfl
    · simp [q]
theorem isOf_bit (s : Int32) {k : Nat} (hk : k < 32) : (s >>> (nI k &&& 31)) &&& 1 = 1 ↔ ¬ s &&& bit k = 0 := by
  rw [and_bit s hk]
  have h0 : bt (s >>> (nI k &&& 31)) 0 = bt s k := by rw [b_sshr k hk s (by decide), if_pos (by omega), Nat.add_zero]
  refine ⟨fun h z => ?_, fun h => b_ext (fun i hi => ?_)⟩
  · have := congrArg (fun z => bt z 0) h
    simp only [b_and, h0, z, Bool.false_and] at this
    exact absurd this (by decide)
  · rw [b_and, bt_one i hi]
    by_cases q : i = 0
    · rw [q, h0]; cases e : bt s k with
      | true => rfl
      | false => exact absurd e h
    · simp [q]
theorem bc_step0 : ∀ q, q < 64 → ∀ r, r < 64 → 0 < 64 * q + r → bcF (nI (64 * q + r)) = bcF (nI ((64 * q + r) &&& (64 * q + r - 1))) + 1 ∧ nI (64 * q + r) &&& (nI (64 * q + r) - 1) = nI ((64 * q + r) &&& (64 * q + r - 1)) ∧ (64 * q + r) &&& (64 * q + r - 1) < 64 * q + r := by decide +kernel
theorem bc_step {s : Nat} (hs : s < 4096) (h0 : 0 < s) : bcF (nI s) = bcF (nI (s &&& (s - 1))) + 1 ∧ nI s &&& (nI s - 1) = nI (s &&& (s - 1)) ∧ s &&& (s - 1) < s := by
  have := bc_step0 (s / 64) (by omega) (s % 64) (by omega)
  rw [show 64 * (s / 64) + s % 64 = s by omega] at this
  exact this h0
section RefA
variable {l : Launch} {n : Nat} {d : DS} {a : AW} {u : RU} {as sk : Nat → Int32}
set_option maxRecDepth 100000 in
set_option maxHeartbeats 4000000 in
theorem m_isIn (hl : l.stackTraces = false) {x y z : Int32} : CM l mX11_isIn (n + 1) 0 [.long x.toInt64, .long y.toInt64, .long z.toInt64] d (fun v d' => v = some (.int (if y ≤ x ∧ x ≤ z then 1 else 0)) ∧ d' = d) NX := by
  refine CM.tree2 6 (some .boolean) _ rfl rfl hl BX11_isIn [] (by decide +kernel) OKX11_isIn (Nat.le_of_ble_eq_true rfl) rfl (fun K hK hm => ?_)
  show K 0 [some (.long x.toInt64), none, some (.long y.toInt64), none, some (.long z.toInt64), none] [] _ 0
  refine hK 4 _ _ _ _ _ ?_
  simp only [↓bX11_isIn_0, ↓bX11_isIn_17, ↓bX11_isIn_18, ↓vh_go bkX11_isIn_0, ↓vh_go bkX11_isIn_17, ↓vh_go bkX11_isIn_18, ↓vt_go (heads := []) bkX11_isIn_0 (by decide), ↓vt_go (heads := []) bkX11_isIn_17 (by decide), ↓vt_go (heads := []) bkX11_isIn_18 (by decide), lg_cmp_lt, lg_cmp_gt, Int32.toInt64_lt, ↓vz_iconst, ↓vz_bipush, ↓vz_sipush, ↓vz_lconst, ↓vz_iload_n, ↓vz_iload, ↓vz_aload_n, ↓vz_aload, ↓vz_lload_n, ↓vz_lload, ↓vz_istore_n, ↓vz_istore, ↓vz_astore_n, ↓vz_astore, ↓vz_iinc, ↓vz_iadd, ↓vz_isub, ↓vz_imul, ↓vz_iand, ↓vz_ior, ↓vz_ixor, ↓vz_ishl, ↓vz_ishr, ↓vz_iushr, ↓vz_idiv, ↓vz_irem, ↓vz_ineg, ↓vz_i2l, ↓vz_i2b, ↓vz_lcmp, ↓vz_dup2, ↓vz_getfield, ↓vz_iaload, ↓vz_baload, ↓vz_laload, ↓vz_iastore, ↓vz_bastore, ↓vz_ifCond, ↓vz_if_icmp, ↓vz_goto, ↓vz_tableswitch, ↓vz_lookupswitch, ↓vz_return_, ↓vz_ldc, ↓vz_ldc_w, ↓vz_ldc2_w, ↓vz_new, ↓vz_nil, ↓vz_callV, ↓vz_callS, ↓vz_max, ↓vz_min, ↓vz_abs, ↓vz_copy, ↓vz_dup, ↓vz_putI, ↓vz_putR, ↓vz_ireturn, ↓vz_alen, ↓vz_aaload, ↓cnt_some, ↓cnt_none, ↓pI_c, ↓pII_c, ↓pLL_c, ↓pR_c, ↓pIR_c, ↓pIIR_c, ↓lI_0, ↓lI_s, ↓lR_0, ↓lR_s, ↓lL_0, ↓lL_s, ↓dR_0, ↓dR_s, ↓nK_0, ↓nK_s, ↓vt_0, ↓reduceIte, List.mem_cons, List.not_mem_nil, or_false, false_or, or_self, Nat.reduceEqDiff, rok, exn, i01, i10, lok, cnd, slv_ref, slv_int, List.getElem?_cons_zero, List.getElem?_cons_succ, List.set_cons_zero, List.set_cons_succ, List.cons_append, List.nil_append, List.take_succ_cons, List.take_zero, List.drop_succ_cons, List.drop_zero, List.reverse_cons, List.reverse_nil, Option.toList_some, Option.toList_none, List.length_cons, List.length_nil, catL, List.map_cons, List.map_nil, List.sum_cons, List.sum_nil, Value.category, Nat.reduceAdd, Nat.reduceLT, Nat.reduceLeDiff, Fin.isValue, tgt, Int.cast_ofNat_Int, Int.reduceAdd, Int.reduceNeg, Int.reduceToNat, Int.zero_add, f4_0, f4_1, f4_2, f4_3, true_and, and_true, Classical.not_not, implies_true, true_implies, false_implies, not_false_eq_true, not_true_eq_false, and_self, true_or, or_true, beq_self_eq_true, ic_m8, ic_m1, ic_0, ic_1, ic_2, ic_3, ic_4, ic_5, ic_8, ic_16, bp_m28, bp_m27, bp_m26, bp_m25, bp_m24, bp_m23, bp_m22, bp_m21, bp_m20, bp_m2, bp_6, bp_7, bp_8, bp_9, bp_10, bp_11, bp_12, bp_13, bp_14, bp_15, bp_16, bp_17, bp_18, bp_20, bp_21, bp_22, bp_23, bp_24, bp_30, bp_32, bp_39, bp_40, bp_41, bp_42, bp_43, bp_44, bp_45, bp_47, bp_48, bp_57, bp_59, bp_60, bp_61, bp_63, bp_64, bp_97, bp_99, bp_100, bp_122, sp_255, sp_256, sp_700, sp_936, sp_960, sp_999, sp_4096, sp_9999, sp_10000, sp_12345, sp_32767]
  exact ⟨fun h => by rw [if_neg (fun q => absurd h (Int32.not_lt.mpr q.1))], fun h => ⟨fun h2 => by rw [if_neg (fun q => absurd h2 (Int32.not_lt.mpr q.2))], fun h2 => by rw [if_pos ⟨Int32.not_lt.mp h, Int32.not_lt.mp h2⟩]⟩⟩
set_option maxRecDepth 100000 in
set_option maxHeartbeats 4000000 in
theorem m_isOf (hl : l.stackTraces = false) {s : Int32} {k : Nat} (hk : k < 32) : CM l mX11_isOf (n + 1) 0 [.int s, .int (nI k)] d (fun v d' => v = some (.int (if s &&& bit k = 0 then 0 else 1)) ∧ d' = d) NX := by
  refine CM.tree2 2 (some .boolean) _ rfl rfl hl BX11_isOf [] (by decide +kernel) OKX11_isOf (Nat.le_of_ble_eq_true rfl) rfl (fun K hK hm => ?_)
  show K 0 [some (.int s), some (.int (nI k))] [] _ 0
  refine hK 4 _ _ _ _ _ ?_
  simp only [↓bX11_isOf_0, ↓bX11_isOf_13, ↓bX11_isOf_14, ↓vh_go bkX11_isOf_0, ↓vh_go bkX11_isOf_13, ↓vh_go bkX11_isOf_14, ↓vt_go (heads := []) bkX11_isOf_0 (by decide), ↓vt_go (heads := []) bkX11_isOf_13 (by decide), ↓vt_go (heads := []) bkX11_isOf_14 (by decide), isOf_bit s hk, ↓vz_iconst, ↓vz_bipush, ↓vz_sipush, ↓vz_lconst, ↓vz_iload_n, ↓vz_iload, ↓vz_aload_n, ↓vz_aload, ↓vz_lload_n, ↓vz_lload, ↓vz_istore_n, ↓vz_istore, ↓vz_astore_n, ↓vz_astore, ↓vz_iinc, ↓vz_iadd, ↓vz_isub, ↓vz_imul, ↓vz_iand, ↓vz_ior, ↓vz_ixor, ↓vz_ishl, ↓vz_ishr, ↓vz_iushr, ↓vz_idiv, ↓vz_irem, ↓vz_ineg, ↓vz_i2l, ↓vz_i2b, ↓vz_lcmp, ↓vz_dup2, ↓vz_getfield, ↓vz_iaload, ↓vz_baload, ↓vz_laload, ↓vz_iastore, ↓vz_bastore, ↓vz_ifCond, ↓vz_if_icmp, ↓vz_goto, ↓vz_tableswitch, ↓vz_lookupswitch, ↓vz_return_, ↓vz_ldc, ↓vz_ldc_w, ↓vz_ldc2_w, ↓vz_new, ↓vz_nil, ↓vz_callV, ↓vz_callS, ↓vz_max, ↓vz_min, ↓vz_abs, ↓vz_copy, ↓vz_dup, ↓vz_putI, ↓vz_putR, ↓vz_ireturn, ↓vz_alen, ↓vz_aaload, ↓cnt_some, ↓cnt_none, ↓pI_c, ↓pII_c, ↓pLL_c, ↓pR_c, ↓pIR_c, ↓pIIR_c, ↓lI_0, ↓lI_s, ↓lR_0, ↓lR_s, ↓lL_0, ↓lL_s, ↓dR_0, ↓dR_s, ↓nK_0, ↓nK_s, ↓vt_0, ↓reduceIte, List.mem_cons, List.not_mem_nil, or_false, false_or, or_self, Nat.reduceEqDiff, rok, exn, i01, i10, lok, cnd, slv_ref, slv_int, List.getElem?_cons_zero, List.getElem?_cons_succ, List.set_cons_zero, List.set_cons_succ, List.cons_append, List.nil_append, List.take_succ_cons, List.take_zero, List.drop_succ_cons, List.drop_zero, List.reverse_cons, List.reverse_nil, Option.toList_some, Option.toList_none, List.length_cons, List.length_nil, catL, List.map_cons, List.map_nil, List.sum_cons, List.sum_nil, Value.category, Nat.reduceAdd, Nat.reduceLT, Nat.reduceLeDiff, Fin.isValue, tgt, Int.cast_ofNat_Int, Int.reduceAdd, Int.reduceNeg, Int.reduceToNat, Int.zero_add, f4_0, f4_1, f4_2, f4_3, true_and, and_true, Classical.not_not, implies_true, true_implies, false_implies, not_false_eq_true, not_true_eq_false, and_self, true_or, or_true, beq_self_eq_true, ic_m8, ic_m1, ic_0, ic_1, ic_2, ic_3, ic_4, ic_5, ic_8, ic_16, bp_m28, bp_m27, bp_m26, bp_m25, bp_m24, bp_m23, bp_m22, bp_m21, bp_m20, bp_m2, bp_6, bp_7, bp_8, bp_9, bp_10, bp_11, bp_12, bp_13, bp_14, bp_15, bp_16, bp_17, bp_18, bp_20, bp_21, bp_22, bp_23, bp_24, bp_30, bp_32, bp_39, bp_40, bp_41, bp_42, bp_43, bp_44, bp_45, bp_47, bp_48, bp_57, bp_59, bp_60, bp_61, bp_63, bp_64, bp_97, bp_99, bp_100, bp_122, sp_255, sp_256, sp_700, sp_936, sp_960, sp_999, sp_4096, sp_9999, sp_10000, sp_12345, sp_32767]
  exact ⟨fun h => by rw [if_pos h], fun h => by rw [if_neg h]⟩
set_option maxRecDepth 100000 in
set_option maxHeartbeats 4000000 in
theorem m_bitsOf (hl : l.stackTraces = false) {s : Nat} (hs : s < 4096) : CM l mX11_bitsOf (n + 1) 0 [.int (nI s)] d (fun v d' => v = some (.int (bcF (nI s))) ∧ d' = d) NX := by
  refine CM.tree2 3 (some .int) _ rfl rfl hl BX11_bitsOf [4] (by decide +kernel) OKX11_bitsOf (Nat.le_of_ble_eq_true rfl) rfl (fun K hK hm => ?_)
  show K 0 [some (.int (nI s)), none, none] [] _ 0
  generalize hR : bcF (nI s) = R at hK
  have key : ∀ B x, x < B → x < 4096 → ∀ m : Int32, m + bcF (nI x) = R → K 4 [some (.int (nI s)), some (.int m), some (.int (nI x))] [] d 0 := by
    intro B
    induction B with
    | zero => intro x hx; omega
    | succ B ih =>
      intro x hx h4 m hm
      refine hK 4 _ _ _ _ _ ?_
      rcases Nat.eq_zero_or_pos x with q | q
      · have e0 : nI x = 0 := by rw [q]; rfl
        simp only [↓bX11_bitsOf_0, ↓bX11_bitsOf_4, ↓bX11_bitsOf_20, ↓vh_go bkX11_bitsOf_0, ↓vh_go bkX11_bitsOf_4, ↓vh_go bkX11_bitsOf_20, ↓vt_go (heads := [4]) bkX11_bitsOf_0 (by decide), ↓vt_go (heads := [4]) bkX11_bitsOf_20 (by decide), ↓vt_stop (pc := 4) (heads := [4]) (by decide), e0, ↓vz_iconst, ↓vz_bipush, ↓vz_sipush, ↓vz_lconst, ↓vz_iload_n, ↓vz_iload, ↓vz_aload_n, ↓vz_aload, ↓vz_lload_n, ↓vz_lload, ↓vz_istore_n, ↓vz_istore, ↓vz_astore_n, ↓vz_astore, ↓vz_iinc, ↓vz_iadd, ↓vz_isub, ↓vz_imul, ↓vz_iand, ↓vz_ior, ↓vz_ixor, ↓vz_ishl, ↓vz_ishr, ↓vz_iushr, ↓vz_idiv, ↓vz_irem, ↓vz_ineg, ↓vz_i2l, ↓vz_i2b, ↓vz_lcmp, ↓vz_dup2, ↓vz_getfield, ↓vz_iaload, ↓vz_baload, ↓vz_laload, ↓vz_iastore, ↓vz_bastore, ↓vz_ifCond, ↓vz_if_icmp, ↓vz_goto, ↓vz_tableswitch, ↓vz_lookupswitch, ↓vz_return_, ↓vz_ldc, ↓vz_ldc_w, ↓vz_ldc2_w, ↓vz_new, ↓vz_nil, ↓vz_callV, ↓vz_callS, ↓vz_max, ↓vz_min, ↓vz_abs, ↓vz_copy, ↓vz_dup, ↓vz_putI, ↓vz_putR, ↓vz_ireturn, ↓vz_alen, ↓vz_aaload, ↓cnt_some, ↓cnt_none, ↓pI_c, ↓pII_c, ↓pLL_c, ↓pR_c, ↓pIR_c, ↓pIIR_c, ↓lI_0, ↓lI_s, ↓lR_0, ↓lR_s, ↓lL_0, ↓lL_s, ↓dR_0, ↓dR_s, ↓nK_0, ↓nK_s, ↓vt_0, ↓reduceIte, List.mem_cons, List.not_mem_nil, or_false, false_or, or_self, Nat.reduceEqDiff, rok, exn, i01, i10, lok, cnd, slv_ref, slv_int, List.getElem?_cons_zero, List.getElem?_cons_succ, List.set_cons_zero, List.set_cons_succ, List.cons_append, List.nil_append, List.take_succ_cons, List.take_zero, List.drop_succ_cons, List.drop_zero, List.reverse_cons, List.reverse_nil, Option.toList_some, Option.toList_none, List.length_cons, List.length_nil, catL, List.map_cons, List.map_nil, List.sum_cons, List.sum_nil, Value.category, Nat.reduceAdd, Nat.reduceLT, Nat.reduceLeDiff, Fin.isValue, tgt, Int.cast_ofNat_Int, Int.reduceAdd, Int.reduceNeg, Int.reduceToNat, Int.zero_add, f4_0, f4_1, f4_2, f4_3, true_and, and_true, Classical.not_not, implies_true, true_implies, false_implies, not_false_eq_true, not_true_eq_false, and_self, true_or, or_true, beq_self_eq_true, ic_m8, ic_m1, ic_0, ic_1, ic_2, ic_3, ic_4, ic_5, ic_8, ic_16, bp_m28, bp_m27, bp_m26, bp_m25, bp_m24, bp_m23, bp_m22, bp_m21, bp_m20, bp_m2, bp_6, bp_7, bp_8, bp_9, bp_10, bp_11, bp_12, bp_13, bp_14, bp_15, bp_16, bp_17, bp_18, bp_20, bp_21, bp_22, bp_23, bp_24, bp_30, bp_32, bp_39, bp_40, bp_41, bp_42, bp_43, bp_44, bp_45, bp_47, bp_48, bp_57, bp_59, bp_60, bp_61, bp_63, bp_64, bp_97, bp_99, bp_100, bp_122, sp_255, sp_256, sp_700, sp_936, sp_960, sp_999, sp_4096, sp_9999, sp_10000, sp_12345, sp_32767]
        rw [e0, show bcF 0 = 0 by decide, Int32.add_zero] at hm
        rw [hm]
      · obtain ⟨h1, h2, h3⟩ := bc_step h4 q
        have ne : ¬ nI x = 0 := fun z => by
          have := (nI_eq (a := x) (b := 0) (by omega) (by decide)).mp z
          omega
        simp only [↓bX11_bitsOf_0, ↓bX11_bitsOf_4, ↓bX11_bitsOf_20, ↓vh_go bkX11_bitsOf_0, ↓vh_go bkX11_bitsOf_4, ↓vh_go bkX11_bitsOf_20, ↓vt_go (heads := [4]) bkX11_bitsOf_0 (by decide), ↓vt_go (heads := [4]) bkX11_bitsOf_20 (by decide), ↓vt_stop (pc := 4) (heads := [4]) (by decide), ne, h2, ↓vz_iconst, ↓vz_bipush, ↓vz_sipush, ↓vz_lconst, ↓vz_iload_n, ↓vz_iload, ↓vz_aload_n, ↓vz_aload, ↓vz_lload_n, ↓vz_lload, ↓vz_istore_n, ↓vz_istore, ↓vz_astore_n, ↓vz_astore, ↓vz_iinc, ↓vz_iadd, ↓vz_isub, ↓vz_imul, ↓vz_iand, ↓vz_ior, ↓vz_ixor, ↓vz_ishl, ↓vz_ishr, ↓vz_iushr, ↓vz_idiv, ↓vz_irem, ↓vz_ineg, ↓vz_i2l, ↓vz_i2b, ↓vz_lcmp, ↓vz_dup2, ↓vz_getfield, ↓vz_iaload, ↓vz_baload, ↓vz_laload, ↓vz_iastore, ↓vz_bastore, ↓vz_ifCond, ↓vz_if_icmp, ↓vz_goto, ↓vz_tableswitch, ↓vz_lookupswitch, ↓vz_return_, ↓vz_ldc, ↓vz_ldc_w, ↓vz_ldc2_w, ↓vz_new, ↓vz_nil, ↓vz_callV, ↓vz_callS, ↓vz_max, ↓vz_min, ↓vz_abs, ↓vz_copy, ↓vz_dup, ↓vz_putI, ↓vz_putR, ↓vz_ireturn, ↓vz_alen, ↓vz_aaload, ↓cnt_some, ↓cnt_none, ↓pI_c, ↓pII_c, ↓pLL_c, ↓pR_c, ↓pIR_c, ↓pIIR_c, ↓lI_0, ↓lI_s, ↓lR_0, ↓lR_s, ↓lL_0, ↓lL_s, ↓dR_0, ↓dR_s, ↓nK_0, ↓nK_s, ↓vt_0, ↓reduceIte, List.mem_cons, List.not_mem_nil, or_false, false_or, or_self, Nat.reduceEqDiff, rok, exn, i01, i10, lok, cnd, slv_ref, slv_int, List.getElem?_cons_zero, List.getElem?_cons_succ, List.set_cons_zero, List.set_cons_succ, List.cons_append, List.nil_append, List.take_succ_cons, List.take_zero, List.drop_succ_cons, List.drop_zero, List.reverse_cons, List.reverse_nil, Option.toList_some, Option.toList_none, List.length_cons, List.length_nil, catL, List.map_cons, List.map_nil, List.sum_cons, List.sum_nil, Value.category, Nat.reduceAdd, Nat.reduceLT, Nat.reduceLeDiff, Fin.isValue, tgt, Int.cast_ofNat_Int, Int.reduceAdd, Int.reduceNeg, Int.reduceToNat, Int.zero_add, f4_0, f4_1, f4_2, f4_3, true_and, and_true, Classical.not_not, implies_true, true_implies, false_implies, not_false_eq_true, not_true_eq_false, and_self, true_or, or_true, beq_self_eq_true, ic_m8, ic_m1, ic_0, ic_1, ic_2, ic_3, ic_4, ic_5, ic_8, ic_16, bp_m28, bp_m27, bp_m26, bp_m25, bp_m24, bp_m23, bp_m22, bp_m21, bp_m20, bp_m2, bp_6, bp_7, bp_8, bp_9, bp_10, bp_11, bp_12, bp_13, bp_14, bp_15, bp_16, bp_17, bp_18, bp_20, bp_21, bp_22, bp_23, bp_24, bp_30, bp_32, bp_39, bp_40, bp_41, bp_42, bp_43, bp_44, bp_45, bp_47, bp_48, bp_57, bp_59, bp_60, bp_61, bp_63, bp_64, bp_97, bp_99, bp_100, bp_122, sp_255, sp_256, sp_700, sp_936, sp_960, sp_999, sp_4096, sp_9999, sp_10000, sp_12345, sp_32767]
        refine ih _ (by omega) (by omega) _ ?_
        rw [← hm, h1]
        rw [Int32.add_assoc, Int32.add_comm 1]
  refine hK 4 _ _ _ _ _ ?_
  simp only [↓bX11_bitsOf_0, ↓bX11_bitsOf_4, ↓bX11_bitsOf_20, ↓vh_go bkX11_bitsOf_0, ↓vh_go bkX11_bitsOf_4, ↓vh_go bkX11_bitsOf_20, ↓vt_go (heads := [4]) bkX11_bitsOf_0 (by decide), ↓vt_go (heads := [4]) bkX11_bitsOf_20 (by decide), ↓vt_stop (pc := 4) (heads := [4]) (by decide), ↓vz_iconst, ↓vz_bipush, ↓vz_sipush, ↓vz_lconst, ↓vz_iload_n, ↓vz_iload, ↓vz_aload_n, ↓vz_aload, ↓vz_lload_n, ↓vz_lload, ↓vz_istore_n, ↓vz_istore, ↓vz_astore_n, ↓vz_astore, ↓vz_iinc, ↓vz_iadd, ↓vz_isub, ↓vz_imul, ↓vz_iand, ↓vz_ior, ↓vz_ixor, ↓vz_ishl, ↓vz_ishr, ↓vz_iushr, ↓vz_idiv, ↓vz_irem, ↓vz_ineg, ↓vz_i2l, ↓vz_i2b, ↓vz_lcmp, ↓vz_dup2, ↓vz_getfield, ↓vz_iaload, ↓vz_baload, ↓vz_laload, ↓vz_iastore, ↓vz_bastore, ↓vz_ifCond, ↓vz_if_icmp, ↓vz_goto, ↓vz_tableswitch, ↓vz_lookupswitch, ↓vz_return_, ↓vz_ldc, ↓vz_ldc_w, ↓vz_ldc2_w, ↓vz_new, ↓vz_nil, ↓vz_callV, ↓vz_callS, ↓vz_max, ↓vz_min, ↓vz_abs, ↓vz_copy, ↓vz_dup, ↓vz_putI, ↓vz_putR, ↓vz_ireturn, ↓vz_alen, ↓vz_aaload, ↓cnt_some, ↓cnt_none, ↓pI_c, ↓pII_c, ↓pLL_c, ↓pR_c, ↓pIR_c, ↓pIIR_c, ↓lI_0, ↓lI_s, ↓lR_0, ↓lR_s, ↓lL_0, ↓lL_s, ↓dR_0, ↓dR_s, ↓nK_0, ↓nK_s, ↓vt_0, ↓reduceIte, List.mem_cons, List.not_mem_nil, or_false, false_or, or_self, Nat.reduceEqDiff, rok, exn, i01, i10, lok, cnd, slv_ref, slv_int, List.getElem?_cons_zero, List.getElem?_cons_succ, List.set_cons_zero, List.set_cons_succ, List.cons_append, List.nil_append, List.take_succ_cons, List.take_zero, List.drop_succ_cons, List.drop_zero, List.reverse_cons, List.reverse_nil, Option.toList_some, Option.toList_none, List.length_cons, List.length_nil, catL, List.map_cons, List.map_nil, List.sum_cons, List.sum_nil, Value.category, Nat.reduceAdd, Nat.reduceLT, Nat.reduceLeDiff, Fin.isValue, tgt, Int.cast_ofNat_Int, Int.reduceAdd, Int.reduceNeg, Int.reduceToNat, Int.zero_add, f4_0, f4_1, f4_2, f4_3, true_and, and_true, Classical.not_not, implies_true, true_implies, false_implies, not_false_eq_true, not_true_eq_false, and_self, true_or, or_true, beq_self_eq_true, ic_m8, ic_m1, ic_0, ic_1, ic_2, ic_3, ic_4, ic_5, ic_8, ic_16, bp_m28, bp_m27, bp_m26, bp_m25, bp_m24, bp_m23, bp_m22, bp_m21, bp_m20, bp_m2, bp_6, bp_7, bp_8, bp_9, bp_10, bp_11, bp_12, bp_13, bp_14, bp_15, bp_16, bp_17, bp_18, bp_20, bp_21, bp_22, bp_23, bp_24, bp_30, bp_32, bp_39, bp_40, bp_41, bp_42, bp_43, bp_44, bp_45, bp_47, bp_48, bp_57, bp_59, bp_60, bp_61, bp_63, bp_64, bp_97, bp_99, bp_100, bp_122, sp_255, sp_256, sp_700, sp_936, sp_960, sp_999, sp_4096, sp_9999, sp_10000, sp_12345, sp_32767]
  exact key 4096 s hs hs 0 (by rw [Int32.zero_add, hR])
end RefA
