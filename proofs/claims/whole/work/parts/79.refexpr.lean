/-! THE REFERENCE: what an expression's reader leaves -/
def rdM (B : Nat → Int32) (N s p U : Nat) (d : DS) : Prop := lxM B N p d ∧ tpM B N d ∧ p ≤ N ∧ U ≤ p ∧ d 56 (8 + s) = nI U ∧ d 52 27 = nI s ∧ d 52 24 = 0 ∧ (d 52 3).toNatClampNeg = 54 + s
def pfM (s U : Nat) (d d' : DS) : Prop := fr [52, 56, 63 + s] d d' ∧ (∀ k, (k ≤ 17 ∨ k = 19 ∨ 26 ≤ k) → d' 52 k = d 52 k) ∧ (∀ i, i ≠ 8 + s → d' 56 i = d 56 i) ∧ ∀ i, i < 700 + U → d' (63 + s) i = d (63 + s) i
def gM (B : Nat → Int32) (N s : Nat) (d : DS) (U q : Nat) (L : List Int32) (d' : DS) : Prop := pfM s U d d' ∧ lxM B N q d' ∧ d' 52 24 = 0 ∧ d' 56 (8 + s) = nI (U + L.length) ∧ laid (d' (63 + s)) (700 + U) (L.map trC)
def rsM (B : Nat → Int32) (N s : Nat) (d : DS) (U : Nat) (R : PRs) (d' : DS) : Prop := match R with
  | .inl e => pfM s U d d' ∧ d' 52 24 = e.1 ∧ ¬ e.1 = 0 ∧ d' 52 25 = nI e.2
  | .inr q => gM B N s d U q.1 q.2 d'
def pstM (B : Nat → Int32) (N s : Nat) (d : DS) (U : Nat) (R : PRs) : Option Value → DS → Prop := fun v d' => v = none ∧ rsM B N s d U R d'
def ctM0 (l : Launch) (me : ME) (k : Nat) (B : Nat → Int32) (N s : Nat) (dd : Int32) (F : Nat → PRs) : Prop := ∀ (p U : Nat) (d : DS), rdM B N s p U d → CM l me k 0 [.ref 52, .int dd] d (pstM B N s d U (F p)) NX
section RefAA
variable {B : Nat → Int32} {N s p U q : Nat} {d d1 d2 : DS} {L M : List Int32}
theorem pfM.rfl : pfM s U d d := ⟨fr.rfl, fun _ _ => Eq.refl _, fun _ _ => Eq.refl _, fun _ _ => Eq.refl _⟩
theorem pfM.trans {V : Nat} (h : pfM s U d d1) (h2 : pfM s V d1 d2) (hV : U ≤ V) : pfM s U d d2 := ⟨h.1.trans h2.1, fun k hk => (h2.2.1 k hk).trans (h.2.1 k hk), fun i hi => (h2.2.2.1 i hi).trans (h.2.2.1 i hi), fun i hi => (h2.2.2.2 i (by omega)).trans (h.2.2.2 i hi)⟩
theorem pfM.st (h : stM d d1) (hs : s = 0 ∨ s = 1) : pfM s U d d1 := by
  refine ⟨h.1.mono (by simp), fun k hk => h.2 k (by omega) (by omega) (by omega) (by omega) (by omega), fun i _ => ?_, fun i _ => ?_⟩
  · rw [h.1 56 (by decide)]
  · rw [h.1 (63 + s) (by simp only [List.mem_cons, List.not_mem_nil, or_false]; omega)]
theorem gM.nil (h : rdM B N s p U d) : gM B N s d U p [] d := ⟨pfM.rfl, h.1, h.2.2.2.2.2.2.1, h.2.2.2.2.1, fun i x hi => by simp at hi⟩
theorem gM.trans {q2 : Nat} (h : gM B N s d U q L d1) (h2 : gM B N s d1 (U + L.length) q2 M d2) : gM B N s d U q2 (L ++ M) d2 := by
  refine ⟨h.1.trans h2.1 (by omega), h2.2.1, h2.2.2.1, by rw [h2.2.2.2.1, List.length_append, Nat.add_assoc], ?_⟩
  rw [List.map_append]
  refine laid_app (laid_keep h.2.2.2.2 (b := 700 + (U + L.length)) (by rw [List.length_map]; omega) (fun i hi => h2.1.2.2.2 i hi)) ?_
  have := h2.2.2.2.2
  rw [List.length_map]
  rwa [← Nat.add_assoc] at this
theorem gM.adv {q2 : Nat} (h : gM B N s d U q L d1) (hs : s = 0 ∨ s = 1) (hst : stM d1 d2) (hx : lxM B N q2 d2) : gM B N s d U q2 L d2 := by
  have f := pfM.st (s := s) (U := U) hst hs
  refine ⟨h.1.trans f (Nat.le_refl _), hx, ?_, ?_, ?_⟩
  · rw [hst.2 24 (by decide) (by decide) (by decide) (by decide) (by decide)]; exact h.2.2.1
  · rw [hst.1 56 (by decide)]; exact h.2.2.2.1
  · rw [hst.1 (63 + s) (by simp only [List.mem_cons, List.not_mem_nil, or_false]; omega)]; exact h.2.2.2.2
theorem lxM.keep (h : lxM B N p d) (e : ∀ k, (k = 18 ∨ k = 20 ∨ k = 21 ∨ k = 22 ∨ k = 23) → d1 52 k = d 52 k) : lxM B N p d1 := by
  unfold lxM
  rw [e 22 (by decide), e 18 (by decide), e 23 (by decide), e 20 (by decide), e 21 (by decide)]
  exact h
theorem gM.lay (h : gM B N s d U q L d1) (hs : s = 0 ∨ s = 1) {c x : Int32} (hx : x = trC c) : gM B N s d U q (L ++ [c]) (dset (dset d1 (63 + s) (700 + (U + L.length)) x) 56 (8 + s) (nI (U + L.length + 1))) := by
  have n1 : 56 ≠ 63 + s := by omega
  have n2 : 52 ≠ 63 + s := by omega
  have g : ∀ y z, dset (dset d1 (63 + s) (700 + (U + L.length)) y) 56 (8 + s) z 52 = d1 52 := fun y z => by rw [ds_n _ _ _ (by decide), ds_n _ _ _ n2]
  have g56 : ∀ y z, dset (dset d1 (63 + s) (700 + (U + L.length)) y) 56 (8 + s) z 56 = upd (d1 56) (8 + s) z := fun y z => by rw [ds_s, ds_n _ _ _ n1]
  have g63 : ∀ y z, dset (dset d1 (63 + s) (700 + (U + L.length)) y) 56 (8 + s) z (63 + s) = upd (d1 (63 + s)) (700 + (U + L.length)) y := fun y z => by rw [ds_n _ _ _ (fun w => n1 w.symm), ds_s]
  refine ⟨⟨(h.1.1.set (by simp) _ _).set (by simp) _ _, fun k hk => ?_, fun i hi => ?_, fun i hi => ?_⟩, h.2.1.keep (fun k _ => by rw [g]), ?_, ?_, ?_⟩
  · rw [g]; exact h.1.2.1 k hk
  · rw [g56, upd_other _ _ hi]; exact h.1.2.2.1 i hi
  · rw [g63, upd_other _ _ (by omega)]; exact h.1.2.2.2 i hi
  · rw [g]; exact h.2.2.1
  · rw [g56, upd_same, List.length_append]; rfl
  · rw [g63, List.map_append]
    refine laid_app (laid_keep h.2.2.2.2 (b := 700 + (U + L.length)) (by rw [List.length_map]; omega) (fun i hi => upd_other _ _ (by omega))) ?_
    intro i y hi
    cases i with
    | zero =>
      rw [List.length_map, Nat.add_zero, show 700 + U + L.length = 700 + (U + L.length) by omega, upd_same, hx]
      simpa using hi
    | succ i => simp at hi
theorem gM.rd (hr : rdM B N s p U d) (h : gM B N s d U q L d1) (hs : s = 0 ∨ s = 1) (hq : q ≤ N) (hL : U + L.length ≤ q) : rdM B N s q (U + L.length) d1 := by
  obtain ⟨-, ⟨t1, t2⟩, -, -, -, r5, -, r7⟩ := hr
  refine ⟨h.2.1, ⟨?_, fun i hi => ?_⟩, hq, hL, h.2.2.2.1, ?_, h.2.2.1, ?_⟩
  · rw [h.1.2.1 19 (by decide)]; exact t1
  · rw [h.1.1 67 (by simp only [List.mem_cons, List.not_mem_nil, or_false]; omega)]; exact t2 i hi
  · rw [h.1.2.1 27 (by decide)]; exact r5
  · rw [h.1.2.1 3 (by decide)]; exact r7
theorem rsM_bad {k : Int32} (h : gM B N s d U q L d1) (hk : ¬ k = 0) : rsM B N s d U (.inl (k, q)) (bdD d1 k) := by
  have g : ∀ c, c ≠ 52 → bdD d1 k c = d1 c := fun c hc => by unfold bdD; rw [ds_n _ _ _ hc, ds_n _ _ _ hc]
  refine ⟨⟨(h.1.1.set (by simp) _ _).set (by simp) _ _, fun j hj => ?_, fun i hi => ?_, fun i hi => ?_⟩, bd_24, hk, ?_⟩
  · unfold bdD; rw [ds_s, upd_other _ _ (by omega), ds_s, upd_other _ _ (by omega)]; exact h.1.2.1 j hj
  · rw [g 56 (by decide)]; exact h.1.2.2.1 i hi
  · rw [g (63 + s) (by omega)]; exact h.1.2.2.2 i hi
  · unfold bdD; rw [ds_s, upd_same]; exact h.2.1.1
theorem rsM_err {V : Nat} {e : Int32 × Nat} (hf : pfM s U d d1) (hV : U ≤ V) (h : rsM B N s d1 V (.inl e) d2) : rsM B N s d U (.inl e) d2 := ⟨hf.trans h.1 hV, h.2⟩
end RefAA
