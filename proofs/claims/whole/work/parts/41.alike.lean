/-! ALIKE WORLDS: what is asked of a world rests on what matters alone -/
def eqA (K : Nat) (a b : AW) : Prop := (∀ k, k < K → aF a k = aF b k) ∧ (∀ p, p < pNf (aF a) → aNe a p = aNe b p ∧ aSo a p = aSo b p ∧ aPa a p = aPa b p) ∧ ∀ c, c < 12 → aWo a c = aWo b c ∧ aHo a c = aHo b c
section Alike
variable {K : Nat} {a b : AW} {u : RU}
theorem eqA.rfl : eqA K a a := ⟨fun _ _ => Eq.refl _, fun _ _ => ⟨Eq.refl _, Eq.refl _, Eq.refl _⟩, fun _ _ => ⟨Eq.refl _, Eq.refl _⟩⟩
theorem eqA.less (h : eqA K a b) {J : Nat} (hJ : J ≤ K) : eqA J a b := ⟨fun k hk => h.1 k (by omega), h.2⟩
theorem eqA.p (h : eqA K a b) (hK : 7 ≤ K) : pNf (aF a) = pNf (aF b) := by unfold pNf; rw [h.1 0 (by omega)]
theorem eqA.c (h : eqA K a b) (hK : 7 ≤ K) : cNf (aF a) = cNf (aF b) := by unfold cNf; rw [h.1 1 (by omega)]
theorem eqA.symm (h : eqA K a b) (hK : 7 ≤ K) : eqA K b a := ⟨fun k hk => (h.1 k hk).symm, fun p hp => by
  obtain ⟨x, y, z⟩ := h.2.1 p (by rw [h.p hK]; exact hp)
  exact ⟨x.symm, y.symm, z.symm⟩, fun c hc => ⟨(h.2.2 c hc).1.symm, (h.2.2 c hc).2.symm⟩⟩
theorem eqA.trans {e : AW} (h : eqA K a b) (h2 : eqA K b e) (hK : 7 ≤ K) : eqA K a e := ⟨fun k hk => (h.1 k hk).trans (h2.1 k hk), fun p hp => by
  obtain ⟨x, y, z⟩ := h.2.1 p hp
  obtain ⟨x', y', z'⟩ := h2.2.1 p (by rw [← h.p hK]; exact hp)
  exact ⟨x.trans x', y.trans y', z.trans z'⟩, fun c hc => ⟨(h.2.2 c hc).1.trans (h2.2.2 c hc).1, (h.2.2 c hc).2.trans (h2.2.2 c hc).2⟩⟩
theorem isP_lt {f : Nat → Int32} {x : Int32} (h : isP (f 0) x) : x.toNatClampNeg < pNf f := by
  obtain ⟨j, hj, e⟩ := isP_of h
  obtain ⟨h1, h2, h3⟩ := h
  have h4 : ¬ f 0 ≤ nI j := by rw [← e]; exact Int32.not_le.mpr h2
  rw [le_nI (by omega)] at h4
  rw [e, nI_clamp (by omega)]
  unfold pNf
  omega
theorem hasA_congr (h : eqA K a b) (hK : 7 ≤ K) (p : Nat) : hasA a p = hasA b p := by
  unfold hasA hasS
  rw [h.c hK]
  refine sumN_congr _ (fun c hc => ?_)
  obtain ⟨e1, e2⟩ := h.2.2 c (by unfold cNf at hc; omega)
  rw [h.1 0 (by omega), e1, e2]
theorem poorA_congr (h : eqA K a b) (hK : 7 ≤ K) : poorA a = poorA b := by
  unfold poorA
  rw [h.p hK]
  congr 1
  refine pmC_congr _ (fun p hp => ?_)
  unfold cntW
  rw [h.1 4 (by omega), hasA_congr h hK]
theorem richA_congr (h : eqA K a b) (hK : 7 ≤ K) : richA a = richA b := by
  unfold richA
  rw [h.p hK]
  congr 1
  exact rmC_congr _ (fun p hp => hasA_congr h hK p)
theorem vaN_congr (h : eqA K a b) (hK : 7 ≤ K) {p : Nat} (hp : p < pNf (aF a)) : vaN a p = vaN b p := by
  obtain ⟨x, y, z⟩ := h.2.1 p hp
  funext k
  unfold vaN
  rw [x, y, hasA_congr h hK, h.1 1 (by omega), h.1 2 (by omega), h.1 6 (by omega)]
theorem vaS_congr (h : eqA K a b) (hK : 7 ≤ K) {c p q : Nat} (hc : c < 12) (hp : p < pNf (aF a)) : vaS a c p q = vaS b c p q := by
  obtain ⟨x, y, z⟩ := h.2.1 p hp
  funext k
  unfold vaS
  rw [x, hasA_congr h hK, hasA_congr h hK, h.1 1 (by omega), h.1 2 (by omega), h.1 6 (by omega), (h.2.2 c hc).1]
theorem namA_congr (h : eqA K a b) (hK : 7 ≤ K) {p : Nat} (hp : p < pNf (aF a)) : namA u a p = namA u b p := by
  unfold namA
  rw [vaN_congr h hK hp, hasA_congr h hK, (h.2.1 p hp).1]
theorem dueA_congr (h : eqA K a b) (hK : 7 ≤ K) : dueA a ↔ dueA b := by
  unfold dueA
  rw [h.1 0 (by omega), h.1 1 (by omega), h.1 2 (by omega), h.1 3 (by omega)]
theorem eqA_set {f g ne so pa wo ho ne' so' pa' wo' ho' : Nat → Int32} (hf : ∀ k, k < K → f k = g k) (hp : ∀ p, p < pNf f → ne p = ne' p ∧ so p = so' p ∧ pa p = pa' p) (hc : ∀ c, c < 12 → wo c = wo' c ∧ ho c = ho' c) : eqA K (f, ne, so, pa, wo, ho) (g, ne', so', pa', wo', ho') := ⟨hf, hp, hc⟩
theorem upd_congr {f g : Nat → Int32} {i : Nat} {x y : Int32} {k : Nat} (h : k ≠ i → f k = g k) (hx : x = y) : upd f i x k = upd g i y k := by
  by_cases q : k = i
  · rw [q, upd_same, upd_same, hx]
  · rw [upd_other _ _ q, upd_other _ _ q, h q]
theorem pNf_upd {f : Nat → Int32} {i : Nat} {x : Int32} (hi : i ≠ 0) : pNf (upd f i x) = pNf f := by unfold pNf; rw [upd_other _ _ (fun z => hi z.symm)]
theorem nameA_congr (h : eqA K a b) (hK : 7 ≤ K) (hp : 0 < pNf (aF a)) : eqA K (nameA u a) (nameA u b) := by
  obtain ⟨p, hp1, ep⟩ := poorA_at hp
  have ep2 : poorA b = nI p := by rw [← poorA_congr h hK, ep]
  have hp8 : p < 8 := by unfold pNf at hp1; omega
  have cp : (nI p).toNatClampNeg = p := nI_clamp (by omega)
  unfold nameA
  rw [ep, ep2, cp, (h.2.1 p hp1).2.1, h.c hK, namA_congr h hK hp1]
  have hF : ∀ k, k < K → (if aSo b p = 0 then aF a else upd (aF a) 5 (aF a 5 ||| bit (cNf (aF b)))) k = (if aSo b p = 0 then aF b else upd (aF b) 5 (aF b 5 ||| bit (cNf (aF b)))) k := by
    intro k hk
    by_cases q : aSo b p = 0
    · rw [if_pos q, if_pos q, h.1 k hk]
    · rw [if_neg q, if_neg q]; exact upd_congr (fun _ => h.1 k hk) (by rw [h.1 5 (by omega)])
  refine eqA_set (fun k hk => upd_congr (fun _ => hF k hk) (by rw [h.1 1 (by omega)])) (fun p hp => h.2.1 p ?_) (fun c hc => ⟨upd_congr (fun _ => (h.2.2 c hc).1) (Eq.refl _), upd_congr (fun _ => (h.2.2 c hc).2) (Eq.refl _)⟩)
  rw [pNf_upd (by decide)] at hp
  by_cases q : aSo b p = 0
  all_goals (revert hp; split; exact id; rw [pNf_upd (by decide)]; exact id)
theorem movA_congr (h : eqA K a b) (hK : 7 ≤ K) {c : Nat} (hc : c < 12) : movA u a c ↔ movA u b c := by
  unfold movA
  obtain ⟨e1, e2⟩ := h.2.2 c hc
  rw [h.1 0 (by omega), ← e2, ← e1]
  refine and_congr_right (fun hP => ?_)
  have hp : (aHo a c).toNatClampNeg < pNf (aF a) := by rw [h.p hK]; exact isP_lt hP
  obtain ⟨x, y, z⟩ := h.2.1 _ hp
  rw [← z]
  refine and_congr_right (fun hQ => ?_)
  unfold spA
  rw [hasA_congr h hK, vaS_congr h hK hc hp, e1]
theorem passA_congr (h : eqA K a b) (hK : 7 ≤ K) {c : Nat} (hc : c < 12) : eqA K (passA u a c) (passA u b c) := by
  unfold passA
  by_cases q : movA u a c
  · rw [if_pos q, if_pos ((movA_congr h hK hc).mp q)]
    have hp : (aHo a c).toNatClampNeg < pNf (aF a) := isP_lt q.1
    obtain ⟨x, y, z⟩ := h.2.1 _ hp
    rw [← (h.2.2 c hc).2, ← z]
    refine eqA_set (fun k hk => ?_) (fun p hp => h.2.1 p (by rw [pNf_upd (by decide)] at hp; exact hp)) (fun c hc => ⟨(h.2.2 c hc).1, upd_congr (fun _ => (h.2.2 c hc).2) (Eq.refl _)⟩)
    by_cases q7 : k = 7
    · rw [q7] at hk ⊢; rw [upd_same, upd_same, h.1 7 hk]
    · rw [upd_other _ _ q7, upd_other _ _ q7, h.1 k hk]
  · rw [if_neg q, if_neg (fun z => q ((movA_congr h hK hc).mpr z))]; exact h
theorem passS_congr (h : eqA K a b) (hK : 7 ≤ K) : ∀ n, n ≤ 12 → eqA K (passS u a n) (passS u b n)
  | 0, _ => h
  | n + 1, hn => passA_congr (passS_congr h hK n (by omega)) hK (by omega)
theorem wearA_congr (h : eqA K a b) (hK : 7 ≤ K) {c : Nat} (hc : c < 12) : eqA K (wearA a c) (wearA b c) := by
  obtain ⟨e1, e2⟩ := h.2.2 c hc
  unfold wearA
  rw [← h.1 5 (by omega)]
  have ew : wx (aWo b) c = wx (aWo a) c := by unfold wx; rw [e1]
  by_cases q : aF a 5 &&& bit c = 0
  · rw [if_pos q, if_pos q]; exact h
  · rw [if_neg q, if_neg q]
    unfold wearF wearH
    rw [ew]
    by_cases q2 : wx (aWo a) c = 0
    · rw [if_pos q2, if_pos q2, if_pos q2, if_pos q2]
      refine eqA_set (fun k hk => upd_congr (fun _ => upd_congr (fun _ => h.1 k hk) (by rw [h.1 5 (by omega)])) (by rw [h.1 6 (by omega)])) (fun p hp => h.2.1 p ?_) (fun c hc => ⟨upd_congr (fun _ => (h.2.2 c hc).1) (Eq.refl _), upd_congr (fun _ => (h.2.2 c hc).2) (Eq.refl _)⟩)
      rw [pNf_upd (by decide), pNf_upd (by decide)] at hp
      exact hp
    · rw [if_neg q2, if_neg q2, if_neg q2, if_neg q2]
      exact eqA_set (fun k hk => h.1 k hk) (fun p hp => h.2.1 p hp) (fun c hc => ⟨upd_congr (fun _ => (h.2.2 c hc).1) (Eq.refl _), (h.2.2 c hc).2⟩)
theorem wearS_congr (h : eqA K a b) (hK : 7 ≤ K) : ∀ n, n ≤ 12 → eqA K (wearS a n) (wearS b n)
  | 0, _ => h
  | n + 1, hn => wearA_congr (wearS_congr h hK n (by omega)) hK (by omega)
theorem endA_congr (h : eqA K a b) (hK : 7 ≤ K) : eqA K (endA a) (endA b) := eqA_set (fun k hk => upd_congr (fun _ => h.1 k hk) (by rw [h.1 2 (by omega)])) (fun p hp => h.2.1 p (by rw [pNf_upd (by decide)] at hp; exact hp)) (fun c hc => h.2.2 c hc)
theorem mintA_congr (hs : szA a) (h : eqA K a b) (hK : 7 ≤ K) : eqA K (mintA u a) (mintA u b) := by
  unfold mintA
  by_cases q : dueA a
  · rw [if_pos q, if_pos ((dueA_congr h hK).mp q)]; exact nameA_congr h hK (due_p hs q)
  · rw [if_neg q, if_neg (fun z => q ((dueA_congr h hK).mpr z))]; exact h
theorem yearA_congr (hs : szA a) (h : eqA K a b) (hK : 7 ≤ K) : eqA K (yearA u a) (yearA u b) := by
  have hm := mintA_congr (u := u) hs h hK
  unfold yearA
  rw [← hm.c hK]
  have hc : cNf (aF (mintA u a)) ≤ 12 := by unfold cNf; omega
  exact endA_congr (wearS_congr (passS_congr hm hK _ hc) hK _ hc) hK
theorem yearsA_congr (hs : szA a) (h : eqA K a b) (hK : 7 ≤ K) : ∀ n, eqA K (yearsA u a n) (yearsA u b n)
  | 0 => h
  | n + 1 => yearA_congr (sz_years hs n).1 (yearsA_congr hs h hK n) hK
theorem sz_congr (hs : szA a) (h : eqA K a b) (hK : 7 ≤ K) : szA b := by
  unfold szA
  rw [← h.p hK, ← h.c hK, ← h.1 0 (by omega), ← h.1 1 (by omega)]
  exact hs
theorem nrm_eq : eqA 7 (nrmA b) b := ⟨fun k hk => if_pos hk, fun p hp => by
  have hp8 : p < 8 := by unfold pNf at hp; omega
  exact ⟨if_pos hp8, if_pos hp8, if_pos hp8⟩, fun c hc => ⟨if_pos hc, if_pos hc⟩⟩
theorem nrm_congr (h : eqA 7 a b) : eqA 8 (nrmA a) (nrmA b) := by
  refine ⟨fun k hk => ?_, fun p hp => ?_, fun c hc => ?_⟩
  · show (if k < 7 then aF a k else 0) = (if k < 7 then aF b k else 0)
    by_cases q : k < 7
    · rw [if_pos q, if_pos q, h.1 k q]
    · rw [if_neg q, if_neg q]
  · have hp8 : p < 8 := by unfold pNf at hp; omega
    obtain ⟨x, y, z⟩ := h.2.1 p hp
    exact ⟨by rw [show aNe (nrmA a) p = aNe a p from if_pos hp8, show aNe (nrmA b) p = aNe b p from if_pos hp8, x], by rw [show aSo (nrmA a) p = aSo a p from if_pos hp8, show aSo (nrmA b) p = aSo b p from if_pos hp8, y], by rw [show aPa (nrmA a) p = aPa a p from if_pos hp8, show aPa (nrmA b) p = aPa b p from if_pos hp8, z]⟩
  · exact ⟨by rw [show aWo (nrmA a) c = aWo a c from if_pos hc, show aWo (nrmA b) c = aWo b c from if_pos hc, (h.2.2 c hc).1], by rw [show aHo (nrmA a) c = aHo a c from if_pos hc, show aHo (nrmA b) c = aHo b c from if_pos hc, (h.2.2 c hc).2]⟩
end Alike
