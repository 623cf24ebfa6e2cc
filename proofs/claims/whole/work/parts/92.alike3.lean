/-! BOTH SIDES ANSWER ALIKE: the game, the needy, the look -/
section AlikeB
variable {a b : AW} {u : RU}
theorem monA_al (h : eqA 7 b a) (p : Int32) : monA b p = monA a p := by
  unfold monA monF
  rw [orN_congr 12 (fun c hc => by rw [(h.2.2 c hc).2] : ∀ c, c < 12 → (if aHo b c = p then bit c else 0) = (if aHo a c = p then bit c else 0)), orN_congr 12 (fun c hc => by rw [(h.2.2 c hc).2, (h.2.2 c hc).1, h.1 0 (by decide)] : ∀ c, c < 12 → (if aWo b c = 0 ∧ isP (aF b 0) (aHo b c) then bit c else 0) = (if aWo a c = 0 ∧ isP (aF a 0) (aHo a c) then bit c else 0))]
theorem fcA_al (h : eqA 7 b a) (p : Int32) : fcA b p = fcA a p := by
  unfold fcA
  rw [monA_al h p]
  exact dear_congr (fun c hc => (h.2.2 c hc).1)
theorem dm_none {m : Int32} {wo : Nat → Int32} (hw : ∀ c, c < 12 → ∃ w, w ≤ 99 ∧ wo c = nI w) : ∀ n, n ≤ 12 → ((∀ c, c < n → m &&& bit c = 0) ∧ dmC (fun c => ¬ m &&& bit c = 0) wo n = (-1, -1)) ∨ ((∃ c, c < n ∧ ¬ m &&& bit c = 0) ∧ ¬ (dmC (fun c => ¬ m &&& bit c = 0) wo n).1 = -1)
  | 0, _ => Or.inl ⟨fun c hc => absurd hc (by omega), rfl⟩
  | n + 1, hn => by
    rcases dm_none hw n (by omega) with ⟨h1, h2⟩ | ⟨⟨c, hc, h1⟩, h2⟩
    · by_cases q : m &&& bit n = 0
      · refine Or.inl ⟨fun c hc => ?_, ?_⟩
        · rcases Nat.lt_or_ge c n with z | z
          · exact h1 c z
          · rw [show c = n by omega]; exact q
        · unfold dmC
          rw [if_neg (fun z => z.1 q)]; exact h2
      · refine Or.inr ⟨⟨n, by omega, q⟩, ?_⟩
        unfold dmC
        obtain ⟨w, hw1, hw2⟩ := hw n (by omega)
        rw [if_pos ⟨q, by rw [h2, hw2]; exact Int32.not_le.mp (fun z => nI_pos (n := w) (by omega) (Int32.lt_of_le_of_lt z (by decide)))⟩]
        exact nI_neg (by omega)
    · refine Or.inr ⟨⟨c, by omega, h1⟩, ?_⟩
      unfold dmC
      split
      · exact nI_neg (by omega)
      · exact h2
theorem chc_may (ho : okA a) {p : Int32} : chcF (fcA a p) = mayI a p := by
  obtain ⟨M, hM, eM⟩ := mon_lt a p
  unfold chcF mayI fcA dearS
  rcases dm_none (m := monA a p) ho.2.2.2.2.2.1 12 (by decide) with ⟨h1, h2⟩ | ⟨⟨c, hc, h1⟩, h2⟩
  · rw [h2, if_pos rfl, if_pos]
    refine b_ext (fun i hi => ?_)
    rw [b_0]
    rcases Nat.lt_or_ge i 12 with z | z
    · exact (and_bit _ hi).mp (h1 i z)
    · rw [eM, bt_nI hi]
      exact Nat.testBit_lt_two_pow (Nat.lt_of_lt_of_le hM (Nat.pow_le_pow_right (n := 2) (by decide) z))
  · rw [if_neg h2, if_neg]
    intro z
    rw [z] at h1
    exact h1 (Int32.zero_and)
theorem pg_al (hs : szA b) (h : eqA 7 b a) (p q : Int32) (c : Nat) : eqA 7 (pgA u b p q c) (pgW u a p q c) := by
  have e0 := nrm_to h
  have e1 : eqA 7 (pg1 b p q c) (pm1 a (fcA a p) q c) ∧ szA (pg1 b p q c) := by
    unfold pg1 pm1
    rw [fcA_al h]
    split
    · exact ⟨handA_al e0 _ _, nrm_sz hs⟩
    · exact ⟨e0, nrm_sz hs⟩
  have e2 : eqA 7 (pg2 b p q c) (pm2 a (fcA a p) (fcA a q) p q c) ∧ szA (pg2 b p q c) := by
    unfold pg2 pm2
    rw [fcA_al h q]
    split
    · exact ⟨handA_al e1.1 _ _, e1.2⟩
    · exact e1
  exact yearsA_congr e2.2 e2.1 (by decide) 6
theorem gnA_al (h : eqA 7 b a) (r : Int32) : gnA b r = gnA a r := by
  unfold gnA
  rw [h.1 0 (by decide), hasA_congr h (by decide), poorA_congr h (by decide)]
theorem xor_lt4 : ∀ c, c < 4 → c ^^^ 2 < 4 ∧ c ^^^ 1 < 4 := by decide
theorem rsP_al {x y : Int32} {f g f' g' : Nat → Int32} (hf : ∀ c, c < 4 → f c = f' c) (hg : ∀ c, c < 4 → g c = g' c) {c : Nat} (hc : c < 4) : rsP x y f g c ↔ rsP x y f' g' c := by
  obtain ⟨h1, h2⟩ := xor_lt4 c hc
  unfold rsP
  rw [hf c hc, hg c hc, hf _ h1, hg _ h2]
theorem crF_al {x y : Int32} {f g f' g' : Nat → Int32} (hf : ∀ c, c < 4 → f c = f' c) (hg : ∀ c, c < 4 → g c = g' c) : ∀ n, n ≤ 4 → crF x y f g n = crF x y f' g' n
  | 0, _ => rfl
  | n + 1, hn => by
    unfold crF
    rw [crF_al hf hg n (by omega)]
    by_cases q : rsP x y f g n
    · rw [if_pos q, if_pos ((rsP_al hf hg (by omega)).mp q)]
    · rw [if_neg q, if_neg (fun z => q ((rsP_al hf hg (by omega)).mpr z))]
theorem frR_al {x y : Int32} {f g f' g' : Nat → Int32} (hf : ∀ c, c < 4 → f c = f' c) (hg : ∀ c, c < 4 → g c = g' c) : ∀ k c, c + k ≤ 4 → frR x y f g k c = frR x y f' g' k c
  | 0, _, _ => rfl
  | k + 1, c, hn => by
    unfold frR
    rw [frR_al hf hg k (c + 1) (by omega)]
    by_cases q : rsP x y f g c
    · rw [if_pos q, if_pos ((rsP_al hf hg (by omega)).mp q)]
    · rw [if_neg q, if_neg (fun z => q ((rsP_al hf hg (by omega)).mpr z))]
theorem al_game (hs : szA b) (ho : okA a) (h : eqA 7 b a) {d : DS} (hd : nowW d = b) (p q x : Int32) : gmC u d p q x = gmM u a p q x := by
  have e : ∀ r (h0 : Nat → Int32) c, c < 4 → gsF u b p q r h0 4 c = gnA (pgW u a p q c) r := fun r h0 c hc => by
    unfold gsF
    rw [if_pos hc, gnA_al (pg_al hs h p q c)]
  unfold gmC gmM
  rw [hd, fcA_al h, fcA_al h, chc_may ho, chc_may ho, crF_al (e p (d 50)) (e q (d 51)) 4 (by decide), frR_al (e p (d 50)) (e q (d 51)) 4 0 (by decide)]
/-! the needy -/
theorem saG_al {sy sp sy' sp' : Nat → Int32} {S : Nat} (h : ∀ i, i < S → sy i = sy' i ∧ sp i = sp' i) {g p : Int32} : ∀ k j, j + k ≤ S → saG sy sp g p k j = saG sy' sp' g p k j
  | 0, _, _ => rfl
  | k + 1, j, hj => by
    unfold saG
    rw [(h j (by omega)).1, (h j (by omega)).2, saG_al h k (j + 1) (by omega)]
theorem asG_al {sy sp sy' sp' : Nat → Int32} {S : Nat} (hq : ∀ i, i < S → sy i = sy' i ∧ sp i = sp' i) : ∀ k j {a b : AW}, szA b → eqA 7 b a → asG u S sy sp k j b = asG u S sy' sp' k j a
  | 0, _, _, _, _, _ => rfl
  | k + 1, j, a, b, hs, h => by
    have e := yearA_congr (u := u) hs h (by decide)
    have s1 : szA (yearA u b) := (sz_years (u := u) hs 1).1
    unfold asG
    rw [poorA_congr h (by decide), saG_al hq S 0 (by omega), asG_al hq k (j + 1) s1 e]
theorem mlF_al {sy sy' : Nat → Int32} : ∀ S, (∀ i, i < S → sy i = sy' i) → mlF sy S = mlF sy' S
  | 0, _ => rfl
  | S + 1, h => by
    unfold mlF
    rw [mlF_al S (fun i hi => h i (by omega)), h S (by omega)]
theorem ml_mx {sy : Nat → Int32} : ∀ S, (∀ i, i < S → ∃ y, y ≤ 20 ∧ sy i = nI y) → (S = 0 ∧ mxF sy S = -1 ∧ mlF sy S = 0) ∨ (0 < S ∧ ∃ y, y ≤ 20 ∧ mxF sy S = nI y ∧ mlF sy S = nI y)
  | 0, _ => Or.inl ⟨rfl, rfl, rfl⟩
  | S + 1, h => by
    refine Or.inr ⟨by omega, ?_⟩
    obtain ⟨y, hy, ey⟩ := h S (by omega)
    unfold mxF mlF
    rw [ey]
    rcases ml_mx S (fun i hi => h i (by omega)) with ⟨h0, h1, h2⟩ | ⟨h0, z, hz, h1, h2⟩
    · rw [h1, h2, if_pos (Int32.not_le.mp (fun z => nI_pos (n := y) (by omega) (Int32.lt_of_le_of_lt z (by decide))))]
      refine ⟨y, hy, rfl, ?_⟩
      rcases Nat.eq_zero_or_pos y with w | w
      · rw [w]; rfl
      · rw [if_pos (show (0 : Int32) < nI y from nI_lt (a := 0) w (by omega))]
    · rw [h1, h2]
      by_cases q : nI z < nI y
      · rw [if_pos q]; exact ⟨y, hy, rfl, rfl⟩
      · rw [if_neg q]; exact ⟨z, hz, rfl, rfl⟩
theorem as_all {sy sp : Nat → Int32} (S : Nat) (hy : ∀ i, i < S → ∃ y, y ≤ 20 ∧ sy i = nI y) (x : AW) : asG u S sy sp (lsN sy S) 0 x = asG u S sy sp ((mlF sy S).toNatClampNeg + 1) 0 x := by
  unfold lsN
  rcases ml_mx S hy with ⟨h0, h1, h2⟩ | ⟨h0, z, hz, h1, h2⟩
  · rw [h1, h2, h0]
    rfl
  · rw [h1, h2, nI_1, nI_clamp (by omega), nI_clamp (by omega)]
theorem putNe_al (h : eqA 7 b a) (p : Nat) (x : Int32) : eqA 7 (putNe b p x) (putNe a p x) := ⟨h.1, fun k hk => ⟨upd_congr (fun _ => (h.2.1 k hk).1) rfl, (h.2.1 k hk).2.1, (h.2.1 k hk).2.2⟩, h.2.2⟩
section Fit
variable {sy sp sy' sp' : Nat → Int32} {S : Nat}
theorem as_al (hs : szA b) (h : eqA 7 b a) (hq : ∀ i, i < S → sy i = sy' i ∧ sp i = sp' i) (hy : ∀ i, i < S → ∃ y, y ≤ 20 ∧ sy i = nI y) : asG u S sy sp (lsN sy S) 0 b = asM u S sy' sp' a := by
  unfold asM
  rw [as_all S hy, mlF_al S (fun i hi => (hq i hi).1)]
  exact asG_al hq _ 0 hs h
theorem fit_al (hs : szA b) (h : eqA 7 b a) (hq : ∀ i, i < S → sy i = sy' i ∧ sp i = sp' i) (hy : ∀ i, i < S → ∃ y, y ≤ 20 ∧ sy i = nI y) {c : Nat} (hc : c < 10 * pNf (aF a)) : fitP u b S sy sp c ↔ fitM u S sy' sp' a c := by
  have hp : c / 10 < pNf (aF b) := by rw [h.p (by decide)]; omega
  unfold fitP okC fitM fitG
  have hz : szA (putNe (nrmA b) (c / 10) (nI (c % 10))) := nrm_sz hs
  rw [as_al (b := putNe (nrmA b) (c / 10) (nI (c % 10))) hz (putNe_al (nrm_to h) _ _) hq hy, (h.2.1 _ hp).1]
  exact ⟨fun z => ⟨fun w => z.1.2 w.symm, z.2⟩, fun z => ⟨⟨hp, fun w => z.1 w.symm⟩, z.2⟩⟩
theorem cn_al (hs : szA b) (h : eqA 7 b a) (hq : ∀ i, i < S → sy i = sy' i ∧ sp i = sp' i) (hy : ∀ i, i < S → ∃ y, y ≤ 20 ∧ sy i = nI y) : ∀ n, n ≤ 10 * pNf (aF a) → cnG u b S sy sp n = nI (ftL u S sy' sp' a n).length
  | 0, _ => rfl
  | n + 1, hn => by
    have ih := cn_al hs h hq hy n (by omega)
    unfold cnG ftL
    by_cases q : fitP u b S sy sp n
    · rw [if_pos q, if_pos ((fit_al hs h hq hy (by omega)).mp q), ih, List.length_append, nI_1]; rfl
    · rw [if_neg q, if_neg (fun z => q ((fit_al hs h hq hy (by omega)).mpr z)), ih]
theorem ft_pre {n : Nat} : ∀ k, ∃ L, ftL u S sy sp a (n + k) = ftL u S sy sp a n ++ L
  | 0 => ⟨[], by rw [List.append_nil]; rfl⟩
  | k + 1 => by
    obtain ⟨L, e⟩ := ft_pre (n := n) k
    show ∃ M, (if fitM u S sy sp a (n + k) then ftL u S sy sp a (n + k) ++ [n + k] else ftL u S sy sp a (n + k)) = _ ++ M
    by_cases q : fitM u S sy sp a (n + k)
    · rw [if_pos q, e, List.append_assoc]; exact ⟨_, rfl⟩
    · rw [if_neg q, e]; exact ⟨_, rfl⟩
def hdL (L : List Nat) : Int32 := match L with
  | [] => -1
  | c :: _ => nI c
theorem fn_al (hs : szA b) (h : eqA 7 b a) (hq : ∀ i, i < S → sy i = sy' i ∧ sp i = sp' i) (hy : ∀ i, i < S → ∃ y, y ≤ 20 ∧ sy i = nI y) : ∀ k c, c + k ≤ 10 * pNf (aF a) → ftL u S sy' sp' a c = [] → fnG u b S sy sp k c = hdL (ftL u S sy' sp' a (c + k))
  | 0, c, _, h0 => by rw [Nat.add_zero, h0]; rfl
  | k + 1, c, hk, h0 => by
    have e1 : ftL u S sy' sp' a (c + 1) = if fitM u S sy' sp' a c then [c] else [] := by
      show (if fitM u S sy' sp' a c then ftL u S sy' sp' a c ++ [c] else ftL u S sy' sp' a c) = _
      rw [h0]; rfl
    unfold fnG
    by_cases q : fitP u b S sy sp c
    · rw [if_pos ((fit_al hs h hq hy (by omega)).mp q)] at e1
      obtain ⟨L, e⟩ := ft_pre (u := u) (a := a) (S := S) (sy := sy') (sp := sp') (n := c + 1) k
      rw [if_pos q, show c + (k + 1) = c + 1 + k by omega, e, e1]; rfl
    · rw [if_neg (fun z => q ((fit_al hs h hq hy (by omega)).mpr z))] at e1
      rw [if_neg q, show c + (k + 1) = c + 1 + k by omega]
      exact fn_al hs h hq hy k (c + 1) (by omega) e1
theorem hdM_snoc {c : Nat} : ∀ (L : List Nat) (g : Nat → Int32), hdM u a (L ++ [c]) g = noteG (yearsA u (putNe a (c / 10) (nI (c % 10))) 8) (hdM u a L g) 12
  | [], _ => rfl
  | _ :: t, g => hdM_snoc t _
theorem hd_al (hs : szA b) (h : eqA 7 b a) (hq : ∀ i, i < S → sy i = sy' i ∧ sp i = sp' i) (hy : ∀ i, i < S → ∃ y, y ≤ 20 ∧ sy i = nI y) {g g' : Nat → Int32} (h0 : ∀ i, i < 12 → g i = g' i) : ∀ n, n ≤ 10 * pNf (aF a) → ∀ i, i < 12 → hdG u b S sy sp g n i = hdM u a (ftL u S sy' sp' a n) g' i
  | 0, _, i, hi => h0 i hi
  | n + 1, hn, i, hi => by
    have ih := hd_al hs h hq hy h0 n (by omega) i hi
    unfold hdG ftL
    by_cases q : fitP u b S sy sp n
    · rw [if_pos q, if_pos ((fit_al hs h hq hy (by omega)).mp q), hdM_snoc]
      have e := yearsA_congr (u := u) (a := putNe (nrmA b) (n / 10) (nI (n % 10))) (nrm_sz hs) (putNe_al (nrm_to h) _ _) (by decide) 8
      unfold noteG
      rw [if_pos hi, if_pos hi, ih, (e.2.2 i hi).2]
    · rw [if_neg q, if_neg (fun z => q ((fit_al hs h hq hy (by omega)).mpr z)), ih]
theorem ulF_al {g g' : Nat → Int32} (h0 : ∀ i, i < 12 → g i = g' i) (x : Int32) : ulF g x = ulF g' x := by
  unfold ulF
  by_cases q : 0 ≤ x ∧ x < 12
  · obtain ⟨y, hy, ey⟩ := isC_of (n := 12) (p := x) ⟨q.1, q.2, q.2⟩
    rw [if_pos q, if_pos q, ey, nI_clamp (by omega), h0 y hy]
  · rw [if_neg q, if_neg q]
theorem bsG_al {g g' : Nat → Int32} (h0 : ∀ i, i < 12 → g i = g' i) : ∀ n, bsG g n = bsG g' n
  | 0 => rfl
  | n + 1 => by
    unfold bsG
    rw [bsG_al h0 n, ulF_al h0, ulF_al h0]
theorem al_needy (hs : szA b) (h : eqA 7 b a) (hq : ∀ i, i < S → sy i = sy' i ∧ sp i = sp' i) (hy : ∀ i, i < S → ∃ y, y ≤ 20 ∧ sy i = nI y) {d : DS} (hd : nowW d = b) (h4 : d 4 = sy) (h3 : d 3 = sp) {x : Int32} (hx : inW x 2) : nyC u d S x = nyM u S sy' sp' a x := by
  have e7 : d 7 = aF b := by rw [← hd]; rfl
  have hp : pNf (aF b) * 10 = 10 * pNf (aF a) := by rw [h.p (by decide), Nat.mul_comm]
  obtain ⟨y, hy2, ey⟩ := nI_of2 (x := x) (n := 2) (M := 2) rfl (fun z => absurd hx.1 (Int32.not_le.mpr z)) hx.2
  unfold nyC nyM
  rw [hd, h4, h3, e7, hp]
  by_cases q2 : x = 2
  · rw [q2, if_neg (by decide), if_neg (by decide), if_pos rfl]
    exact as_al (nrm_sz hs) (nrm_to h) hq hy
  rw [if_neg q2]
  by_cases q0 : x = 0
  · rw [if_pos q0, if_pos q0]; exact cn_al hs h hq hy _ (Nat.le_refl _)
  rw [if_neg q0, if_neg q0]
  have q1 : x = 1 := by
    have : y = 1 := by
      rcases Nat.lt_or_ge y 1 with z | z
      · exact absurd (by rw [ey, show y = 0 by omega]; rfl) q0
      · rcases Nat.lt_or_ge y 2 with w | w
        · omega
        · exact absurd (by rw [ey, show y = 2 by omega]; rfl) q2
    rw [ey, this]; rfl
  rw [if_pos q1]
  have := fn_al (u := u) hs h hq hy (10 * pNf (aF a)) 0 (by omega) rfl
  rw [Nat.zero_add] at this
  rw [this]
  unfold hdL
  rfl
theorem al_look (hs : szA b) (h : eqA 7 b a) (hq : ∀ i, i < S → sy i = sy' i ∧ sp i = sp' i) (hy : ∀ i, i < S → ∃ y, y ≤ 20 ∧ sy i = nI y) {d : DS} (hd : nowW d = b) (h4 : d 4 = sy) (h3 : d 3 = sp) (x : Int32) : lkC u d S x = lkM u S sy' sp' a x := by
  have e7 : d 7 = aF b := by rw [← hd]; rfl
  have hp : pNf (aF b) * 10 = 10 * pNf (aF a) := by rw [h.p (by decide), Nat.mul_comm]
  have e := hd_al (u := u) hs h hq hy (g := fun i => if i < 12 then 0 else d 48 i) (g' := fun _ => 0) (fun i hi => if_pos hi) (10 * pNf (aF a)) (Nat.le_refl _)
  unfold lkC lkM hdC
  rw [hd, h4, h3, e7, hp, ulF_al e, bsG_al e]
end Fit
end AlikeB
