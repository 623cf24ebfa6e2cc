/-! WORLDS THAT ARE WELL BUILT stay so -/
theorem bit_clr (m : Int32) {i j : Nat} (hi : i < 12) (hj : j < 12) : (m &&& (bit j ^^^ -1)) &&& bit i = 0 ↔ (m &&& bit i = 0 ∨ i = j) := by
  rw [and_bit _ (by omega), and_bit _ (by omega), b_and, b_xor, bt_bit j (by omega) i (by omega), b_m1 i (by omega)]
  by_cases q : i = j <;> simp [q]
theorem or_lt {x : Nat} (hx : x < 4096) {j : Nat} (hj : j < 12) : ∃ y, y < 4096 ∧ nI x ||| bit j = nI y := by
  refine ⟨x ||| 2 ^ j, Nat.or_lt_two_pow (n := 12) hx (Nat.pow_lt_pow_right (by decide) hj), by rw [bit_nI j hj, nI_or]⟩
theorem and_lt {x : Nat} (hx : x < 4096) (y : Int32) : ∃ z, z < 4096 ∧ nI x &&& y = nI z := by
  obtain ⟨s, h1, h2⟩ := and_nI y hx
  exact ⟨s, by omega, by rw [Int32.and_comm]; exact h2⟩
theorem clampV_at (x : Int32) : ∃ w, w ≤ 99 ∧ clampV x = nI w := by
  unfold clampV
  by_cases q : x < 99
  · rw [if_pos q]
    by_cases p : 0 < x
    · rw [if_pos p]
      exact nI_of2 (n := 99) (M := 99) rfl (fun z => absurd (Int32.lt_trans p z) (by decide)) (Int32.le_of_lt q)
    · rw [if_neg p]; exact ⟨0, by decide, rfl⟩
  · rw [if_neg q, if_pos (by decide)]; exact ⟨99, by decide, rfl⟩
theorem wx_at {wo : Nat → Int32} {j w : Nat} (hw : w ≤ 99) (e : wo j = nI w) : wx wo j = nI (w - 1) := by
  unfold wx
  rw [e]
  rcases Nat.eq_zero_or_pos w with q | q
  · rw [q]; decide
  · rw [nI_s1 q]
    rcases Nat.eq_zero_or_pos (w - 1) with p | p
    · rw [p]; decide
    · rw [if_pos (show (0 : Int32) < nI (w - 1) from nI_lt (a := 0) p (by omega))]
section OkA
variable {a : AW} {u : RU}
theorem ok_poor (ho : okA a) (hp : 0 < pNf (aF a)) : ∃ p, p < pNf (aF a) ∧ poorA a = nI p := poorA_at hp
theorem ok_name (ho : okA a) (hd : dueA a) : okA (nameA u a) := by
  obtain ⟨hz, hp, hc⟩ := sz_name (u := u) ho.1 hd
  have c12 := due_c ho.1 hd
  obtain ⟨p, p1, p2⟩ := poorA_at (due_p ho.1 hd)
  obtain ⟨h1, h2, h3, h4, h5, h6, ⟨x6, h7, h7'⟩, x5, h8, h8'⟩ := ho
  have p8 := pN8 (aF a)
  have f6 : aF (nameA u a) 6 = aF a 6 := by
    show upd (if aSo a (poorA a).toNatClampNeg = 0 then aF a else upd (aF a) 5 (aF a 5 ||| bit (cNf (aF a)))) 1 (aF a 1 + 1) 6 = _
    rw [upd_other _ _ (by decide)]
    split
    · rfl
    · rw [upd_other _ _ (by decide)]
  have f3 : aF (nameA u a) 3 = aF a 3 := by
    show upd (if aSo a (poorA a).toNatClampNeg = 0 then aF a else upd (aF a) 5 (aF a 5 ||| bit (cNf (aF a)))) 1 (aF a 1 + 1) 3 = _
    rw [upd_other _ _ (by decide)]
    split
    · rfl
    · rw [upd_other _ _ (by decide)]
  have f5 : aF (nameA u a) 5 = aF a 5 ∨ aF (nameA u a) 5 = aF a 5 ||| bit (cNf (aF a)) := by
    show upd (if aSo a (poorA a).toNatClampNeg = 0 then aF a else upd (aF a) 5 (aF a 5 ||| bit (cNf (aF a)))) 1 (aF a 1 + 1) 5 = _ ∨ upd (if aSo a (poorA a).toNatClampNeg = 0 then aF a else upd (aF a) 5 (aF a 5 ||| bit (cNf (aF a)))) 1 (aF a 1 + 1) 5 = _
    rw [upd_other _ _ (by decide)]
    split
    · exact Or.inl rfl
    · exact Or.inr (upd_same _ _ _)
  have f5b : ∀ c, c < 12 → ¬ c = cNf (aF a) → (aF a 5 &&& bit c = 0) → aF (nameA u a) 5 &&& bit c = 0 := by
    intro c hc hne h
    rcases f5 with e | e
    · rw [e]; exact h
    · rw [e, bit_or _ hc c12]; exact ⟨h, hne⟩
  have wo : ∀ c, ¬ c = cNf (aF a) → aWo (nameA u a) c = aWo a c ∧ aHo (nameA u a) c = aHo a c := fun c hc => ⟨upd_other _ _ hc, upd_other _ _ hc⟩
  have woC : aWo (nameA u a) (cNf (aF a)) = clampV (namA u a (poorA a).toNatClampNeg) := upd_same _ _ _
  have hoC : aHo (nameA u a) (cNf (aF a)) = nI p := by rw [← p2]; exact upd_same _ _ _
  refine ⟨hz, by rw [f3]; exact h2, fun c hcc => ?_, fun c hcc hc12 => ?_, fun q hq => ?_, fun c hc => ?_, ⟨x6, h7, by rw [f6, h7']⟩, ?_⟩
  · rw [hc] at hcc
    rw [f6, hp]
    by_cases q : c = cNf (aF a)
    · rw [q, hoC]
      exact Or.inl ⟨(h4 _ (Nat.le_refl _) c12).2.2.1, p, p1, rfl⟩
    · rw [(wo c q).1, (wo c q).2]
      rcases h3 c (by omega) with z | ⟨z1, z2, z3, z4⟩
      · exact Or.inl z
      · exact Or.inr ⟨z1, z2, z3, f5b c (by omega) q z4⟩
  · rw [hc] at hcc
    have q : ¬ c = cNf (aF a) := by omega
    rw [(wo c q).1, (wo c q).2, f6]
    obtain ⟨z1, z2, z3, z4⟩ := h4 c (by omega) hc12
    exact ⟨z1, z2, z3, f5b c hc12 q z4⟩
  · rw [hp] at hq ⊢
    exact h5 q hq
  · by_cases q : c = cNf (aF a)
    · rw [q, woC]; exact clampV_at _
    · rw [(wo c q).1]; exact h6 c hc
  · rcases f5 with e | e
    · exact ⟨x5, h8, by rw [e, h8']⟩
    · rw [e, h8']; exact or_lt h8 c12
theorem ok_set {f ho wo : Nat → Int32} (h : okA a) (h1 : ∀ k, k < 7 → f k = aF a k) (hw : wo = aWo a) (hh : ∀ c, c < 12 → ho c = aHo a c ∨ (aF a 6 &&& bit c = 0 ∧ c < cNf (aF a) ∧ ∃ p, p < pNf (aF a) ∧ ho c = nI p)) : okA (f, aNe a, aSo a, aPa a, wo, ho) := by
  obtain ⟨hz, h2, h3, h4, h5, h6, h7, h8⟩ := h
  have p0 : pNf f = pNf (aF a) := by unfold pNf; rw [h1 0 (by decide)]
  have c0 : cNf f = cNf (aF a) := by unfold cNf; rw [h1 1 (by decide)]
  have c12 := cN12 (aF a)
  subst hw
  refine ⟨⟨?_, ?_⟩, ?_, fun c hc => ?_, fun c hc h12 => ?_, fun p hp => ?_, h6, ?_, ?_⟩
  · show f 0 = nI (pNf f); rw [p0, h1 0 (by decide)]; exact hz.1
  · show f 1 = nI (cNf f); rw [c0, h1 1 (by decide)]; exact hz.2
  · show ∃ m, 1 ≤ m ∧ m ≤ 9 ∧ f 3 = nI m; rw [h1 3 (by decide)]; exact h2
  · have hc : c < cNf (aF a) := by rw [← c0]; exact hc
    show (f 6 &&& bit c = 0 ∧ ∃ p, p < pNf f ∧ ho c = nI p) ∨ (¬ f 6 &&& bit c = 0 ∧ ho c = -1 ∧ aWo a c = 0 ∧ f 5 &&& bit c = 0)
    rw [p0, h1 6 (by decide), h1 5 (by decide)]
    rcases hh c (by omega) with e | ⟨e1, e2, e3⟩
    · rw [e]; exact h3 c hc
    · exact Or.inl ⟨e1, e3⟩
  · have hc : cNf (aF a) ≤ c := by rw [← c0]; exact hc
    show ho c = -1 ∧ aWo a c = 0 ∧ f 6 &&& bit c = 0 ∧ f 5 &&& bit c = 0
    rw [h1 6 (by decide), h1 5 (by decide)]
    rcases hh c h12 with e | ⟨e1, e2, e3⟩
    · rw [e]; exact h4 c hc h12
    · omega
  · have hp : p < pNf (aF a) := by rw [← p0]; exact hp
    show (aPa a p = -1 ∨ ∃ q, q < pNf f ∧ ¬ q = p ∧ aPa a p = nI q) ∧ _
    rw [p0]; exact h5 p hp
  · show ∃ x, x < 4096 ∧ f 6 = nI x; rw [h1 6 (by decide)]; exact h7
  · show ∃ x, x < 4096 ∧ f 5 = nI x; rw [h1 5 (by decide)]; exact h8
theorem up_lt {f : Nat → Int32} {i : Nat} {x : Int32} (hi : 7 ≤ i) : ∀ k, k < 7 → upd f i x k = f k := fun k hk => upd_other _ _ (by omega)
theorem isP_nat {a : AW} {x : Int32} (h : isP (aF a 0) x) : ∃ q, q < pNf (aF a) ∧ x = nI q := by
  obtain ⟨j, hj, e⟩ := isP_of h
  have := isP_lt h
  rw [e, nI_clamp (by omega)] at this
  exact ⟨j, this, e⟩
theorem ok_pass (ho : okA a) {c : Nat} (hc : c < cNf (aF a)) : okA (passA u a c) := by
  unfold passA
  split
  · rename_i hm
    obtain ⟨m1, m2, -⟩ := hm
    refine ok_set ho (up_lt (by decide)) rfl (fun e he => ?_)
    by_cases q : e = c
    · subst q
      rw [upd_same]
      have h6 : aF a 6 &&& bit e = 0 := by
        rcases ho.2.2.1 e hc with z | ⟨z1, z2, -⟩
        · exact z.1
        · rw [z2] at m1; exact absurd m1 not_isP
      exact Or.inr ⟨h6, hc, isP_nat m2⟩
    · exact Or.inl (upd_other _ _ q)
  · exact ho
theorem ok_passS (ho : okA a) : ∀ n, n ≤ cNf (aF a) → okA (passS u a n)
  | 0, _ => ho
  | n + 1, hn => ok_pass (ok_passS ho n (by omega)) (by rw [(sz_passS (u := u) ho.1 n).2.2]; omega)
theorem ok_wear (ho : okA a) {c : Nat} (hc : c < cNf (aF a)) : okA (wearA a c) := by
  obtain ⟨hz, hp, hcn⟩ := sz_wear ho.1 c
  have c12 := cN12 (aF a)
  revert hz hp hcn
  unfold wearA
  by_cases q : aF a 5 &&& bit c = 0
  · rw [if_pos q]; exact fun _ _ _ => ho
  rw [if_neg q]
  intro hz hp hcn
  obtain ⟨h1, h2, h3, h4, h5, h6, ⟨x6, h7, h7'⟩, x5, h8, h8'⟩ := ho
  obtain ⟨w, hw, ew⟩ := h6 c (by omega)
  have wv := wx_at hw ew
  have hn : aF a 6 &&& bit c = 0 ∧ ∃ p, p < pNf (aF a) ∧ aHo a c = nI p := by
    rcases h3 c hc with z | ⟨z1, z2, z3, z4⟩
    · exact z
    · exact absurd z4 q
  have wo : ∀ e, ¬ e = c → upd (aWo a) c (wx (aWo a) c) e = aWo a e := fun e he => upd_other _ _ he
  have k3 : wearF (aF a) (aWo a) c 3 = aF a 3 := by
    unfold wearF; split
    · rw [upd_other _ _ (by decide), upd_other _ _ (by decide)]
    · rfl
  have k5 : ∀ e, e < 12 → aF a 5 &&& bit e = 0 → wearF (aF a) (aWo a) c 5 &&& bit e = 0 := by
    intro e he h
    unfold wearF; split
    · rw [upd_other _ _ (by decide), upd_same, bit_clr _ he (by omega)]; exact Or.inl h
    · exact h
  have k6 : ∀ e, e < 12 → ¬ e = c → (wearF (aF a) (aWo a) c 6 &&& bit e = 0 ↔ aF a 6 &&& bit e = 0) := by
    intro e he hne
    unfold wearF; split
    · rw [upd_same, bit_or _ he (by omega)]; exact ⟨fun z => z.1, fun z => ⟨z, hne⟩⟩
    · exact Iff.rfl
  have kh : ∀ e, ¬ e = c → wearH (aWo a) (aHo a) c e = aHo a e := by
    intro e hne
    unfold wearH; split
    · exact upd_other _ _ hne
    · rfl
  have hp : pNf (wearF (aF a) (aWo a) c) = pNf (aF a) := hp
  have hcn : cNf (wearF (aF a) (aWo a) c) = cNf (aF a) := hcn
  refine ⟨hz, ?_, fun e he => ?_, fun e he h12 => ?_, fun p hpp => ?_, fun e he => ?_, ?_, ?_⟩
  · show ∃ m, 1 ≤ m ∧ m ≤ 9 ∧ wearF (aF a) (aWo a) c 3 = nI m; rw [k3]; exact h2
  · have he : e < cNf (aF a) := by rw [← hcn]; exact he
    show (wearF (aF a) (aWo a) c 6 &&& bit e = 0 ∧ ∃ p, p < pNf (wearF (aF a) (aWo a) c) ∧ wearH (aWo a) (aHo a) c e = nI p) ∨ (¬ wearF (aF a) (aWo a) c 6 &&& bit e = 0 ∧ wearH (aWo a) (aHo a) c e = -1 ∧ upd (aWo a) c (wx (aWo a) c) e = 0 ∧ wearF (aF a) (aWo a) c 5 &&& bit e = 0)
    rw [hp]
    by_cases qe : e = c
    · subst qe
      rw [upd_same]
      by_cases z : wx (aWo a) e = 0
      · right
        unfold wearF wearH
        rw [if_pos z, if_pos z, upd_same, upd_same, upd_other _ _ (by decide), upd_same, bit_or _ (by omega) (by omega), bit_clr _ (by omega) (by omega)]
        exact ⟨fun y => y.2 rfl, rfl, z, Or.inr rfl⟩
      · left
        unfold wearF wearH
        rw [if_neg z, if_neg z]
        exact hn
    · rw [k6 e (by omega) qe, kh e qe, wo e qe]
      rcases h3 e he with z | ⟨z1, z2, z3, z4⟩
      · exact Or.inl z
      · exact Or.inr ⟨z1, z2, z3, k5 e (by omega) z4⟩
  · have he : cNf (aF a) ≤ e := by rw [← hcn]; exact he
    have qe : ¬ e = c := by omega
    show wearH (aWo a) (aHo a) c e = -1 ∧ upd (aWo a) c (wx (aWo a) c) e = 0 ∧ wearF (aF a) (aWo a) c 6 &&& bit e = 0 ∧ wearF (aF a) (aWo a) c 5 &&& bit e = 0
    rw [k6 e h12 qe, kh e qe, wo e qe]
    obtain ⟨z1, z2, z3, z4⟩ := h4 e he h12
    exact ⟨z1, z2, z3, k5 e h12 z4⟩
  · have hpp : p < pNf (aF a) := by rw [← hp]; exact hpp
    show (aPa a p = -1 ∨ ∃ q, q < pNf (wearF (aF a) (aWo a) c) ∧ ¬ q = p ∧ aPa a p = nI q) ∧ _
    rw [hp]; exact h5 p hpp
  · show ∃ w, w ≤ 99 ∧ upd (aWo a) c (wx (aWo a) c) e = nI w
    by_cases qe : e = c
    · rw [qe, upd_same, wv]; exact ⟨w - 1, by omega, rfl⟩
    · rw [wo e qe]; exact h6 e he
  · show ∃ x, x < 4096 ∧ wearF (aF a) (aWo a) c 6 = nI x
    unfold wearF; split
    · rw [upd_same, h7']; exact or_lt h7 (by omega)
    · exact ⟨x6, h7, h7'⟩
  · show ∃ x, x < 4096 ∧ wearF (aF a) (aWo a) c 5 = nI x
    unfold wearF; split
    · rw [upd_other _ _ (by decide), upd_same, h8']; exact and_lt h8 _
    · exact ⟨x5, h8, h8'⟩
theorem ok_wearS (ho : okA a) : ∀ n, n ≤ cNf (aF a) → okA (wearS a n)
  | 0, _ => ho
  | n + 1, hn => ok_wear (ok_wearS ho n (by omega)) (by rw [(sz_wearS ho.1 n).2.2]; omega)
theorem ok_end (ho : okA a) : okA (endA a) := by
  obtain ⟨hz, h2, h3, h4, h5, h6, h7, h8⟩ := ho
  exact ⟨(sz_end hz).1, h2, h3, h4, h5, h6, h7, h8⟩
theorem ok_mint (ho : okA a) : okA (mintA u a) := by
  unfold mintA
  split
  · rename_i hd; exact ok_name ho hd
  · exact ho
theorem ok_year (ho : okA a) : okA (yearA u a) := by
  have h1 := ok_mint (u := u) ho
  unfold yearA
  exact ok_end (ok_wearS (ok_passS h1 _ (Nat.le_refl _)) _ (by rw [(sz_passS (u := u) h1.1 _).2.2]; exact Nat.le_refl _))
theorem ok_years (ho : okA a) : ∀ n, okA (yearsA u a n)
  | 0 => ho
  | n + 1 => ok_year (ok_years ho n)
/-- people, minting, beggars and needs stay -/
def stA (a b : AW) : Prop := aF b 0 = aF a 0 ∧ aF b 3 = aF a 3 ∧ aF b 4 = aF a 4 ∧ aNe b = aNe a
theorem stA.rfl : stA a a := ⟨Eq.refl _, Eq.refl _, Eq.refl _, Eq.refl _⟩
theorem stA.trans {b c : AW} (h : stA a b) (h2 : stA b c) : stA a c := ⟨h2.1.trans h.1, h2.2.1.trans h.2.1, h2.2.2.1.trans h.2.2.1, h2.2.2.2.trans h.2.2.2⟩
theorem nm_o {k : Nat} (h1 : k ≠ 1) (h5 : k ≠ 5) : aF (nameA u a) k = aF a k := by
  show upd (if aSo a (poorA a).toNatClampNeg = 0 then aF a else upd (aF a) 5 (aF a 5 ||| bit (cNf (aF a)))) 1 (aF a 1 + 1) k = _
  rw [upd_other _ _ h1]
  split
  · exact Eq.refl _
  · rw [upd_other _ _ h5]
theorem st_name : stA a (nameA u a) := ⟨nm_o (by decide) (by decide), nm_o (by decide) (by decide), nm_o (by decide) (by decide), Eq.refl _⟩
theorem st_pass (c : Nat) : stA a (passA u a c) := by
  unfold passA
  split
  · exact ⟨upd_other (aF a) (k := 7) (j := 0) (aF a 7 + 1) (by decide), upd_other (aF a) (k := 7) (j := 3) (aF a 7 + 1) (by decide), upd_other (aF a) (k := 7) (j := 4) (aF a 7 + 1) (by decide), Eq.refl _⟩
  · exact stA.rfl
theorem st_passS : ∀ n, stA a (passS u a n)
  | 0 => stA.rfl
  | n + 1 => (st_passS n).trans (st_pass n)
theorem wr_o {c k : Nat} (h5 : k ≠ 5) (h6 : k ≠ 6) : wearF (aF a) (aWo a) c k = aF a k := by
  unfold wearF
  split
  · rw [upd_other _ _ h6, upd_other _ _ h5]
  · exact Eq.refl _
theorem st_wear (c : Nat) : stA a (wearA a c) := by
  unfold wearA
  split
  · exact stA.rfl
  · exact ⟨wr_o (by decide) (by decide), wr_o (by decide) (by decide), wr_o (by decide) (by decide), Eq.refl _⟩
theorem st_wearS : ∀ n, stA a (wearS a n)
  | 0 => stA.rfl
  | n + 1 => (st_wearS n).trans (st_wear n)
theorem st_end : stA a (endA a) := ⟨upd_other (aF a) (k := 2) (j := 0) (aF a 2 + 1) (by decide), upd_other (aF a) (k := 2) (j := 3) (aF a 2 + 1) (by decide), upd_other (aF a) (k := 2) (j := 4) (aF a 2 + 1) (by decide), Eq.refl _⟩
theorem st_mint : stA a (mintA u a) := by
  unfold mintA
  split
  · exact st_name
  · exact stA.rfl
theorem st_year : stA a (yearA u a) := ((st_mint.trans (st_passS _)).trans (st_wearS _)).trans st_end
theorem st_years : ∀ n, stA a (yearsA u a n)
  | 0 => stA.rfl
  | n + 1 => (st_years n).trans st_year
theorem mK.st {b : AW} {d : DS} (h : mK u (aF a) d) (hs : stA a b) : mK u (aF b) d := by
  unfold mK
  have p0 : pNf (aF b) = pNf (aF a) := by unfold pNf; rw [hs.1]
  rw [hs.1, hs.2.1, hs.2.2.1, p0]
  exact h
end OkA
