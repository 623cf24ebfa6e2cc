/-! BOTH SIDES ANSWER ALIKE: what comes -/
section AlikeA
variable {a b : AW} {u : RU}
theorem nrm_to (h : eqA 7 b a) : eqA 7 (nrmA b) a := nrm_eq.trans h (by decide)
theorem nrm_sz (hs : szA b) : szA (nrmA b) := sz_congr hs (nrm_eq.symm (by decide)) (by decide)
theorem eqA_a7 (p : Int32) : eqA 7 a (a7 a p) := ⟨fun k hk => by show aF a k = upd (aF a) 7 p k; rw [upd_other _ _ (by omega)], fun _ _ => ⟨Eq.refl _, Eq.refl _, Eq.refl _⟩, fun _ _ => ⟨Eq.refl _, Eq.refl _⟩⟩
theorem nrm_8 (h : eqA 7 b a) : eqA 8 (nrmA b) (a7 a 0) := by
  have h1 := (nrm_to h).trans (eqA_a7 0) (by decide)
  refine ⟨fun k hk => ?_, h1.2⟩
  by_cases q : k = 7
  · subst q
    show (if 7 < 7 then aF b 7 else 0) = upd (aF a) 7 0 7
    rw [upd_same]; rfl
  · exact h1.1 k (by omega)
theorem yr_al (hs : szA b) (h : eqA 7 b a) (n : Nat) : eqA 7 (yearsA u (nrmA b) n) (yearsA u a n) := yearsA_congr (nrm_sz hs) (nrm_to h) (by decide) n
theorem al_then (hs : szA b) (h : eqA 7 b a) {c x : Int32} (n : Nat) (hc : isC 12 c) : thC (yearsA u (nrmA b) n) c x = thC (yearsA u a n) c x := by
  obtain ⟨j, hj, e⟩ := isC_of hc
  have hc2 : c.toNatClampNeg < 12 := by rw [e, nI_clamp (by omega)]; exact hj
  obtain ⟨e1, e2⟩ := (yr_al (u := u) hs h n).2.2 _ hc2
  unfold thC
  rw [e1, e2]
theorem al_later (hs : szA b) (h : eqA 7 b a) {x : Int32} {d : DS} (hd : d 7 1 = aF b 1) (n : Nat) : ltC d (yearsA u (nrmA b) n) x = ltM (aF a 1) (yearsA u (a7 a 0) n) x := by
  have e := yearsA_congr (u := u) (nrm_sz hs) (nrm_8 h) (by decide) n
  unfold ltC ltM
  rw [poorA_congr e (by decide), richA_congr e (by decide), e.1 1 (by decide), e.1 7 (by decide), hd, h.1 1 (by decide)]
theorem nxF_al {C : Int32} : ∀ k {a b : AW}, szA b → eqA 7 b a → nxF u C k b = nxF u C k a
  | 0, _, _, _, _ => rfl
  | k + 1, a, b, hs, h => by
    have e := yearA_congr (u := u) hs h (by decide)
    have s1 : szA (yearA u b) := (sz_years (u := u) hs 1).1
    unfold nxF
    rw [e.1 1 (by decide), poorA_congr h (by decide), nxF_al k s1 e]
theorem uhF_al {c : Nat} (hc : c < 12) {p : Int32} : ∀ k j {a b : AW}, szA b → eqA 7 b a → uhF u c p k j b = uhF u c p k j a
  | 0, _, _, _, _, _ => rfl
  | k + 1, j, a, b, hs, h => by
    have e := yearA_congr (u := u) hs h (by decide)
    have s1 : szA (yearA u b) := (sz_years (u := u) hs 1).1
    unfold uhF
    rw [(h.2.2 c hc).2, uhF_al hc k (j + 1) s1 e]
theorem hwF_al {c : Nat} (hc : c < 12) : ∀ k s {a b : AW}, szA b → eqA 7 b a → hwF u c k s b = hwF u c k s a
  | 0, _, _, _, _, _ => rfl
  | k + 1, s, a, b, hs, h => by
    have e := yearA_congr (u := u) hs h (by decide)
    have s1 : szA (yearA u b) := (sz_years (u := u) hs 1).1
    unfold hwF
    rw [(h.2.2 c hc).2, h.1 0 (by decide), hwF_al hc k _ s1 e]
theorem putWo_al (h : eqA 7 b a) (c : Nat) (x : Int32) : eqA 7 (putWo b c x) (putWo a c x) := ⟨h.1, h.2.1, fun k hk => ⟨upd_congr (fun _ => (h.2.2 k hk).1) rfl, (h.2.2 k hk).2⟩⟩
theorem wfF_al (hs : szA b) (h : eqA 7 b a) {c : Nat} {p : Int32} {N : Nat} : ∀ k j, wfF u b c p N k j = wmF u a c p N k j
  | 0, _ => rfl
  | k + 1, j => by
    have e := yearsA_congr (u := u) (a := putWo (nrmA b) c (nI j)) (nrm_sz hs) (putWo_al (nrm_to h) c (nI j)) (by decide) N
    unfold wfF wmF
    rw [poorA_congr e (by decide), wfF_al hs h k (j + 1)]
theorem handA_al (h : eqA 7 b a) (c p : Int32) : eqA 7 (handA b c p) (handA a c p) := by
  refine ⟨h.1, h.2.1, fun k hk => ⟨(h.2.2 k hk).1, ?_⟩⟩
  show (if isC (aF b 1) c ∧ isP (aF b 0) p ∧ aF b 6 &&& (1 <<< (c &&& 31)) = 0 then upd (aHo b) c.toNatClampNeg p else aHo b) k = (if isC (aF a 1) c ∧ isP (aF a 0) p ∧ aF a 6 &&& (1 <<< (c &&& 31)) = 0 then upd (aHo a) c.toNatClampNeg p else aHo a) k
  rw [h.1 0 (by decide), h.1 1 (by decide), h.1 6 (by decide)]
  split
  · exact upd_congr (fun _ => (h.2.2 k hk).2) rfl
  · exact (h.2.2 k hk).2
theorem handA_sz (hs : szA b) (c p : Int32) : szA (handA b c p) := hs
theorem dmC_congr {c : Nat → Prop} {e : ∀ k, Decidable (c k)} {v w : Nat → Int32} : ∀ n, (∀ k, k < n → v k = w k) → dmC c v n = dmC c w n
  | 0, _ => rfl
  | n + 1, h => by
    unfold dmC
    rw [dmC_congr n (fun k hk => h k (by omega)), h n (by omega)]
theorem dearS_al {m : Int32} {v w : Nat → Int32} (h : ∀ k, k < 12 → v k = w k) : dearS m v = dearS m w := by
  unfold dearS
  rw [dmC_congr 12 h]
theorem stealA_al (h : eqA 7 b a) : eqA 7 (stealA b) (stealA a) := by
  unfold stealA
  rw [dearS_al (fun k hk => (h.2.2 k hk).1), poorA_congr h (by decide), h.1 1 (by decide), h.1 6 (by decide)]
  exact handA_al h _ _
theorem thA_al (hs : szA b) (h : eqA 7 b a) (t : Int32) : ∀ n, eqA 7 (thA u b t n) (thM u a t n) ∧ szA (thA u b t n)
  | 0 => ⟨nrm_to h, nrm_sz hs⟩
  | n + 1 => by
    obtain ⟨e, s⟩ := thA_al hs h t n
    unfold thA thM
    by_cases q : t &&& bit n = 0
    · rw [if_pos q, if_pos q]; exact ⟨yearA_congr s e (by decide), (sz_years (u := u) s 1).1⟩
    · rw [if_neg q, if_neg q]
      have s2 : szA (stealA (thA u b t n)) := s
      exact ⟨yearA_congr s2 (stealA_al e) (by decide), (sz_years (u := u) s2 1).1⟩
theorem wt_num {t th : Int32} (h0 : 0 ≤ th) (h1 : th ≤ 10) : ∀ n, n ≤ 5 → ∃ x, x ≤ 10 ^ n ∧ wtF t th n = nI x
  | 0, _ => ⟨1, by decide, rfl⟩
  | n + 1, hn => by
    obtain ⟨x, hx, e⟩ := wt_num (t := t) h0 h1 n (by omega)
    obtain ⟨y, hy, ey⟩ := nI_of2 (x := th) (n := 10) (M := 10) rfl (fun z => absurd h0 (Int32.not_le.mpr z)) h1
    have e2 : (10 : Int32) - th = nI (10 - y) := by
      rw [ey]
      have : ∀ y, y ≤ 10 → (10 : Int32) - nI y = nI (10 - y) := by decide
      exact this y hy
    have p5 : 10 ^ n ≤ 10 ^ 4 := Nat.pow_le_pow_right (by decide) (by omega)
    unfold wtF
    by_cases q : t &&& bit n = 0
    · refine ⟨x * (10 - y), ?_, ?_⟩
      · rw [Nat.pow_succ]; exact Nat.mul_le_mul hx (by omega)
      · rw [if_pos q, e, e2, nI_mul]
    · refine ⟨x * y, ?_, ?_⟩
      · rw [Nat.pow_succ]; exact Nat.mul_le_mul hx hy
      · rw [if_neg q, e, ey, nI_mul]
theorem chF_al (hs : szA b) (h : eqA 7 b a) {p th : Int32} (h0 : 0 ≤ th) (h1 : th ≤ 10) {N : Nat} (hN : N ≤ 5) : ∀ t, chF u b p th N t = chM u a p th N t
  | 0 => rfl
  | t + 1 => by
    have e := (thA_al (u := u) hs h (nI t) N).1
    obtain ⟨x, hx, ex⟩ := wt_num (t := nI t) h0 h1 N hN
    have p5 : 10 ^ N ≤ 10 ^ 5 := Nat.pow_le_pow_right (by decide) hN
    unfold chF chM
    rw [chF_al hs h h0 h1 hN t, poorA_congr e (by decide), ex]
    by_cases q : poorA (thM u a (nI t) N) = p
    · rw [if_pos q]
      rcases Nat.eq_zero_or_pos x with z | z
      · rw [z, if_neg (fun w => absurd w.1 (by decide))]; exact (Int32.add_zero _).symm
      · rw [if_pos ⟨nI_lt (a := 0) z (by omega), q⟩]
    · rw [if_neg q, if_neg (fun w => q w.2)]; exact (Int32.add_zero _).symm
theorem putSo_al (h : eqA 7 b a) (p x : Int32) : eqA 7 (putSo b p x) (putSo a p x) := by
  unfold putSo
  rw [h.1 0 (by decide)]
  split
  · exact ⟨h.1, fun k hk => ⟨(h.2.1 k hk).1, upd_congr (fun _ => (h.2.1 k hk).2.1) rfl, (h.2.1 k hk).2.2⟩, h.2.2⟩
  · exact h
theorem putPa_al (h : eqA 7 b a) (p x : Int32) : eqA 7 (putPa b p x) (putPa a p x) := by
  unfold putPa
  rw [h.1 0 (by decide)]
  split
  · exact ⟨h.1, fun k hk => ⟨(h.2.1 k hk).1, (h.2.1 k hk).2.1, upd_congr (fun _ => (h.2.1 k hk).2.2) rfl⟩, h.2.2⟩
  · exact h
theorem sz_put (hs : szA b) (p x : Int32) : szA (putSo b p x) ∧ szA (putPa b p x) := by
  unfold putSo putPa
  refine ⟨?_, ?_⟩
  · split <;> exact hs
  · split <;> exact hs
theorem fateA_al (hs : szA b) (h : eqA 7 b a) (s k : Int32) : eqA 7 (fateA b s k).1 (fateA a s k).1 ∧ (fateA b s k).2 = (fateA a s k).2 ∧ szA (fateA b s k).1 := by
  unfold fateA
  rw [h.1 0 (by decide), h.1 1 (by decide)]
  split
  · exact ⟨h, rfl, hs⟩
  split
  · exact ⟨handA_al h _ _, rfl, hs⟩
  split
  · exact ⟨putSo_al h _ _, rfl, (sz_put hs _ _).1⟩
  split
  · exact ⟨putPa_al h _ _, rfl, (sz_put hs _ _).2⟩
  · exact ⟨h, rfl, hs⟩
theorem ageA_al (hs : szA b) (h : eqA 7 b a) (s0 : Int32) : ∀ n, eqA 7 (ageA u b s0 n).1 (ageM u a s0 n).1 ∧ (ageA u b s0 n).2 = (ageM u a s0 n).2 ∧ szA (ageA u b s0 n).1
  | 0 => ⟨nrm_to h, rfl, nrm_sz hs⟩
  | n + 1 => by
    obtain ⟨e1, e2, e3⟩ := ageA_al hs h s0 n
    obtain ⟨f1, f2, f3⟩ := fateA_al e3 e1 (drS (ageM u a s0 n).2) (drV (drS (ageM u a s0 n).2) 6)
    unfold ageA ageM
    rw [e2]
    exact ⟨yearA_congr f3 f1 (by decide), f2, (sz_years (u := u) f3 1).1⟩
/-- all that people have is all that is held -/
theorem sum_add (f g : Nat → Int32) : ∀ n, sumN (fun i => f i + g i) n = sumN f n + sumN g n
  | 0 => rfl
  | n + 1 => by
    show sumN (fun i => f i + g i) n + (f n + g n) = sumN f n + f n + (sumN g n + g n)
    rw [sum_add f g n, Int32.add_assoc, Int32.add_assoc, ← Int32.add_assoc (sumN g n) (f n), Int32.add_comm (sumN g n) (f n), Int32.add_assoc]
theorem sum_zero : ∀ n, sumN (fun _ => 0) n = 0
  | 0 => rfl
  | n + 1 => by unfold sumN; rw [sum_zero n]; rfl
theorem sum_swap (f : Nat → Nat → Int32) (C : Nat) : ∀ P, sumN (fun p => sumN (fun c => f p c) C) P = sumN (fun c => sumN (fun p => f p c) P) C
  | 0 => by
    show 0 = sumN (fun c => 0) C
    rw [sum_zero]
  | P + 1 => by
    show sumN (fun p => sumN (fun c => f p c) C) P + sumN (fun c => f P c) C = _
    rw [sum_swap f C P, ← sum_add]
    rfl
theorem sum_one {x : Int32} {q : Nat} (hq8 : q < 8) : ∀ P, P ≤ 8 → sumN (fun p => if nI q = nI p then x else 0) P = if q < P then x else 0
  | 0, _ => rfl
  | P + 1, hP => by
    unfold sumN
    rw [sum_one hq8 P (by omega)]
    by_cases e : q = P
    · subst e
      rw [if_neg (by omega), if_pos rfl, if_pos (by omega)]; exact Int32.zero_add _
    · rw [if_neg (fun z => e ((nI_eq (by omega) (by omega)).mp z))]
      by_cases e2 : q < P
      · rw [if_pos e2, if_pos (by omega)]; exact Int32.add_zero _
      · rw [if_neg e2, if_neg (by omega)]; exact Int32.add_zero _
theorem sum_tail {f : Nat → Int32} {C : Nat} : ∀ n, C ≤ n → (∀ c, C ≤ c → c < n → f c = 0) → sumN f n = sumN f C
  | 0, h, _ => by rw [show C = 0 by omega]
  | n + 1, h, hz => by
    rcases Nat.lt_or_ge C (n + 1) with z | z
    · show sumN f n + f n = _
      rw [sum_tail n (by omega) (fun c h1 h2 => hz c h1 (by omega)), hz n (by omega) (by omega)]
      exact Int32.add_zero _
    · rw [show C = n + 1 by omega]
theorem all_has (ho : okA a) : sumN (hasA a) (pNf (aF a)) = sumN (fun c => if isP (aF a 0) (aHo a c) then aWo a c else 0) 12 := by
  have hc12 := cN12 (aF a)
  have hp8 := pN8 (aF a)
  rw [sum_tail (C := cNf (aF a)) 12 hc12 (fun c h1 h2 => by rw [(ho.2.2.2.1 c h1 h2).1, if_neg not_isP])]
  show sumN (fun p => sumN (fun c => if isP (aF a 0) (aHo a c) ∧ aHo a c = nI p then aWo a c else 0) (cNf (aF a))) (pNf (aF a)) = _
  rw [sum_swap]
  refine sumN_congr _ (fun c hc => ?_)
  by_cases q : isP (aF a 0) (aHo a c)
  · rw [if_pos q]
    obtain ⟨j, hj, e⟩ := isP_of q
    have hlt := isP_lt q
    rw [e, nI_clamp (by omega)] at hlt
    have hq : isP (aF a 0) (nI j) := by rw [← e]; exact q
    have e1 : sumN (fun p => if isP (aF a 0) (aHo a c) ∧ aHo a c = nI p then aWo a c else 0) (pNf (aF a)) = sumN (fun p => if nI j = nI p then aWo a c else 0) (pNf (aF a)) := sumN_congr _ (fun p hp => by
      rw [e]
      by_cases z : nI j = nI p
      · rw [if_pos ⟨hq, z⟩, if_pos z]
      · rw [if_neg (fun w => z w.2), if_neg z])
    rw [e1, sum_one hj _ hp8, if_pos hlt]
  · rw [if_neg q]
    exact (sumN_congr _ (fun p hp => if_neg (fun z => q z.1))).trans (sum_zero _)
theorem al_ages (hs : szA b) (ho : okA a) (h : eqA 7 b a) {x s0 : Int32} {d : DS} (hd : d 7 = aF b) (n : Nat) : agC d (ageA u b s0 n).1 x = agM (aF a 1) (aF a 6) (ageM u a s0 n).1 x := by
  have e := (ageA_al (u := u) hs h s0 n).1
  have ok := (ok_age (u := u) ho s0 n).1
  generalize (ageA u b s0 n).1 = A at e ⊢
  generalize (ageM u a s0 n).1 = M at e ok ⊢
  have e3 : sumN (fun c => if isP (aF A 0) (aHo A c) then aWo A c else 0) 12 = sumN (hasA M) (pNf (aF M)) := by
    rw [all_has ok]
    exact sumN_congr _ (fun c hc => by rw [(e.2.2 c hc).1, (e.2.2 c hc).2, e.1 0 (by decide)])
  unfold agC agM
  rw [e3, hd, h.1 1 (by decide), h.1 6 (by decide), e.1 1 (by decide), e.1 6 (by decide)]
end AlikeA
