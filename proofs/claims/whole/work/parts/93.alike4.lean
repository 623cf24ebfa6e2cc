/-! BOTH SIDES ANSWER ALIKE: who pays whom -/
def cB (f : Nat → Bool) : Nat → Nat
  | 0 => 0
  | n + 1 => cB f n + (if f n = true then 1 else 0)
theorem cB_le (f : Nat → Bool) : ∀ n, cB f n ≤ n
  | 0 => Nat.le_refl _
  | n + 1 => by
    have := cB_le f n
    unfold cB
    split <;> omega
theorem cB_mono {f g : Nat → Bool} : ∀ n, (∀ i, i < n → f i = true → g i = true) → cB f n ≤ cB g n
  | 0, _ => Nat.le_refl _
  | n + 1, h => by
    have := cB_mono (f := f) (g := g) n (fun i hi => h i (by omega))
    have h2 := h n (by omega)
    unfold cB
    by_cases q : f n = true
    · rw [if_pos q, if_pos (h2 q)]; omega
    · rw [if_neg q]; omega
theorem cB_lt {f g : Nat → Bool} {i : Nat} : ∀ n, (∀ i, i < n → f i = true → g i = true) → i < n → g i = true → ¬ f i = true → cB f n + 1 ≤ cB g n
  | 0, _, hi, _, _ => absurd hi (by omega)
  | n + 1, h, hi, hg, hf => by
    have m := cB_mono (f := f) (g := g) n (fun i hi => h i (by omega))
    unfold cB
    by_cases q : i = n
    · subst q
      rw [if_neg hf, if_pos hg]; omega
    · have := cB_lt (f := f) (g := g) n (fun i hi => h i (by omega)) (by omega) hg hf
      have h2 := h n (by omega)
      by_cases q : f n = true
      · rw [if_pos q, if_pos (h2 q)]; omega
      · rw [if_neg q]; omega
theorem cB_pos {f : Nat → Bool} {i : Nat} : ∀ n, i < n → f i = true → 1 ≤ cB f n
  | 0, hi, _ => absurd hi (by omega)
  | n + 1, hi, hf => by
    unfold cB
    by_cases q : i = n
    · subst q; rw [if_pos hf]; omega
    · have := cB_pos n (by omega) hf; omega
theorem cB_full {f : Nat → Bool} : ∀ n, cB f n = n → ∀ i, i < n → f i = true
  | 0, _, i, hi => absurd hi (by omega)
  | n + 1, h, i, hi => by
    have l := cB_le f n
    unfold cB at h
    by_cases q : f n = true
    · rw [if_pos q] at h
      by_cases e : i = n
      · rw [e]; exact q
      · exact cB_full n (by omega) i (by omega)
    · rw [if_neg q] at h; omega
theorem and0 {s c : Int32} : s &&& c = 0 ↔ ∀ i, i < 32 → bt s i = true → ¬ bt c i = true := by
  refine ⟨fun h i hi hs hc => ?_, fun h => b_ext (fun i hi => ?_)⟩
  · have := congrArg (fun z => bt z i) h
    simp only [b_and, hs, hc, b_0] at this
    exact absurd this (by decide)
  · rw [b_and, b_0]
    cases e : bt s i with
    | false => rfl
    | true =>
      cases e2 : bt c i with
      | false => rfl
      | true => exact absurd e2 (h i hi e)
/-- a map that adds comes to rest -/
theorem rests {f : Int32 → Int32} {g : Nat → Int32} {P : Nat} (hg : ∀ k, g (k + 1) = f (g k)) (hm : ∀ k i, i < 32 → bt (g k) i = true → bt (f (g k)) i = true) (hc : ∀ k i, i < 32 → bt (g k) i = true → i < P) (h0 : ∃ i, i < P ∧ bt (g 0) i = true) : ∀ k, f (g k) = g k ∨ k + 1 ≤ cB (bt (g k)) P
  | 0 => by
    obtain ⟨i, hi, h⟩ := h0
    exact Or.inr (cB_pos P hi h)
  | k + 1 => by
    by_cases q : f (g k) = g k
    · left
      rw [hg k, q, q]
    · right
      have ih := (rests hg hm hc h0 k).resolve_left q
      have hex : ∃ i, i < 32 ∧ bt (f (g k)) i = true ∧ ¬ bt (g k) i = true := by
        refine Classical.byContradiction (fun hn => q (b_ext (fun i hi => ?_)))
        cases e : bt (g k) i with
        | true => exact hm k i hi e
        | false =>
          cases e2 : bt (f (g k)) i with
          | false => rfl
          | true => exact absurd ⟨i, hi, e2, by rw [e]; decide⟩ hn
      obtain ⟨i, hi, h1, h2⟩ := hex
      have hiP : i < P := hc (k + 1) i hi (by rw [hg k]; exact h1)
      have := cB_lt (f := bt (g k)) (g := bt (f (g k))) P (fun j hj e => hm k j (by
        rcases Nat.lt_or_ge j 32 with z | z
        · exact z
        · rw [b_big z] at e; cases e) e) hiP h1 h2
      rw [hg k]
      omega
theorem rests_at {f : Int32 → Int32} {g : Nat → Int32} {P : Nat} (hg : ∀ k, g (k + 1) = f (g k)) (hm : ∀ k i, i < 32 → bt (g k) i = true → bt (f (g k)) i = true) (hc : ∀ k i, i < 32 → bt (g k) i = true → i < P) (h0 : ∃ i, i < P ∧ bt (g 0) i = true) {k : Nat} (hk : P ≤ k) : f (g k) = g k := by
  rcases rests hg hm hc h0 k with z | z
  · exact z
  · have := cB_le (bt (g k)) P
    omega
section Parts
variable {pa : Nat → Int32} {P : Nat}
def okPa (P : Nat) (pa : Nat → Int32) : Prop := P ≤ 8 ∧ ∀ o, o < P → pa o = -1 ∨ ∃ q, q < P ∧ pa o = nI q
def clo (P : Nat) (pa : Nat → Int32) (K : Nat → Bool) : Prop := ∀ o q, o < P → q < P → pa o = nI q → (K o = true ↔ K q = true)
theorem isP_mk {o : Nat} (hP : P ≤ 8) (h : o < P) : isP (nI P) (nI o) := ⟨nI_leq (i := 0) (Nat.zero_le _) (by omega), nI_lt h (by omega), nI_lt (b := 8) (by omega) (by decide)⟩
theorem po_at {o : Nat} (hP : P ≤ 8) (h : o < P) : po (nI P) pa (nI o) = pa o := by
  show (if isP (nI P) (nI o) then pa (nI o).toNatClampNeg else -1) = pa o
  rw [if_pos (isP_mk hP h), nI_clamp (by omega)]
theorem cpl_none {o : Nat} (hP : P ≤ 8) (h : o < P) (e : pa o = -1) : cpl (nI P) pa o = 0 := by unfold cpl; rw [po_at hP h, if_pos e]
theorem cpl_some {o q i : Nat} (hP : P ≤ 8) (h : o < P) (hq : q < P) (e : pa o = nI q) (hi : i < 32) : bt (cpl (nI P) pa o) i = true ↔ (i = o ∨ i = q) := by
  unfold cpl
  rw [po_at hP h, e, if_neg (nI_neg (by omega)), b_or]
  show (bt (bit o) i || bt (bit q) i) = true ↔ _
  rw [bt_bit o (by omega) i hi, bt_bit q (by omega) i hi]
  simp
theorem ptI_mono {F s : Int32} {i : Nat} (hs : bt s i = true) : ∀ n, bt (ptI F pa s n) i = true
  | 0 => hs
  | n + 1 => by
    have := ptI_mono (F := F) hs n
    unfold ptI
    split
    · exact this
    · rw [b_or, this]; rfl
theorem ptI_up {F s : Int32} {i m : Nat} (hs : bt (ptI F pa s m) i = true) : ∀ k, bt (ptI F pa s (m + k)) i = true
  | 0 => hs
  | k + 1 => by
    have := ptI_up hs k
    show bt (ptI F pa s (m + k + 1)) i = true
    unfold ptI
    split
    · exact this
    · rw [b_or, this]; rfl
theorem ptI_sub (ho : okPa P pa) {s : Int32} {K : Nat → Bool} (hK : clo P pa K) (hs : ∀ i, i < 32 → bt s i = true → K i = true) : ∀ n, n ≤ P → ∀ i, i < 32 → bt (ptI (nI P) pa s n) i = true → K i = true
  | 0, _, i, hi, h => hs i hi h
  | n + 1, hn, i, hi, h => by
    have ih := ptI_sub ho hK hs n (by omega)
    unfold ptI at h
    split at h
    · exact ih i hi h
    · rename_i hz
      rw [b_or, Bool.or_eq_true] at h
      rcases h with h | h
      · exact ih i hi h
      · rcases ho.2 n (by omega) with e | ⟨q, hq, e⟩
        · rw [cpl_none ho.1 (by omega) e, b_0] at h; cases h
        · have hw : ∃ j, j < 32 ∧ bt (ptI (nI P) pa s n) j = true ∧ bt (cpl (nI P) pa n) j = true := Classical.byContradiction (fun w => hz (and0.mpr (fun j hj a b => w ⟨j, hj, a, b⟩)))
          obtain ⟨j, hj, a, b⟩ := hw
          have c := hK n q (by omega) hq e
          have kj := ih j hj a
          have kn : K n = true := by
            rcases (cpl_some ho.1 (by omega) hq e hj).mp b with z | z
            · rw [← z]; exact kj
            · exact c.mpr (by rw [← z]; exact kj)
          rcases (cpl_some ho.1 (by omega) hq e hi).mp h with z | z
          · rw [z]; exact kn
          · rw [z]; exact c.mp kn
theorem ptI_fix (ho : okPa P pa) {s : Int32} (h : ptI (nI P) pa s P = s) : clo P pa (bt s) := by
  intro o q hoP hq e
  have hP := ho.1
  have e0 : ∀ n, n ≤ P → ptI (nI P) pa s n = s := fun n hn => b_ext (fun i hi => by
    cases z : bt s i with
    | true => exact ptI_mono z n
    | false =>
      cases z2 : bt (ptI (nI P) pa s n) i with
      | false => rfl
      | true =>
        have := ptI_up z2 (P - n)
        rw [show n + (P - n) = P by omega, h, z] at this
        cases this)
  have e1 := e0 (o + 1) (by omega)
  rw [ptI, e0 o (by omega)] at e1
  have key : ∀ j, (j = o ∨ j = q) → bt s j = true → ∀ i, (i = o ∨ i = q) → bt s i = true := by
    intro j hj hs i hi
    have hn : ¬ s &&& cpl (nI P) pa o = 0 := fun z => and0.mp z j (by omega) hs ((cpl_some hP hoP hq e (by omega)).mpr hj)
    rw [if_neg hn] at e1
    rw [← e1, b_or, (cpl_some hP hoP hq e (by omega)).mpr hi, Bool.or_true]
  exact ⟨fun z => key o (Or.inl rfl) z q (Or.inr rfl), fun z => key q (Or.inr rfl) z o (Or.inl rfl)⟩
theorem nb_bit {q i : Nat} (ho : okPa P pa) (hq : q < P) (hi : i < 32) : bt (nbM (nI P) pa P q) i = true ↔ ((i < P ∧ pa i = nI q) ∨ pa q = nI i) := by
  have hP := ho.1
  unfold nbM pyS
  rw [b_or, Bool.or_eq_true, bt_orN hi P (by omega), decide_eq_true_eq]
  refine or_congr ?_ ?_
  · refine and_congr_right (fun h => ?_)
    rw [po_at hP h]
  · rcases ho.2 q hq with e | ⟨r, hr, e⟩
    · rw [if_pos e, b_0, e]
      exact ⟨fun z => (by cases z), fun z => absurd z.symm (nI_neg (by omega))⟩
    · rw [if_neg (by rw [e]; exact nI_neg (by omega)), e]
      show bt (bit r) i = true ↔ _
      rw [bt_bit r (by omega) i hi, decide_eq_true_eq, nI_eq (by omega) (by omega)]
      exact ⟨fun z => z.symm, fun z => z.symm⟩
theorem mpI_mono {F s : Int32} {i : Nat} (hs : bt s i = true) : ∀ n, bt (mpI F pa P s n) i = true
  | 0 => hs
  | n + 1 => by
    have := mpI_mono (F := F) hs n
    unfold mpI
    split
    · exact this
    · rw [b_or, this]; rfl
theorem mpI_up {F s : Int32} {i m : Nat} (hs : bt (mpI F pa P s m) i = true) : ∀ k, bt (mpI F pa P s (m + k)) i = true
  | 0 => hs
  | k + 1 => by
    have := mpI_up hs k
    show bt (mpI F pa P s (m + k + 1)) i = true
    unfold mpI
    split
    · exact this
    · rw [b_or, this]; rfl
theorem mpI_sub (ho : okPa P pa) {s : Int32} {K : Nat → Bool} (hK : clo P pa K) (hs : ∀ i, i < 32 → bt s i = true → K i = true) : ∀ n, n ≤ P → ∀ i, i < 32 → bt (mpI (nI P) pa P s n) i = true → K i = true
  | 0, _, i, hi, h => hs i hi h
  | n + 1, hn, i, hi, h => by
    have hP := ho.1
    have ih := mpI_sub ho hK hs n (by omega)
    unfold mpI at h
    split at h
    · exact ih i hi h
    · rename_i hz
      rw [b_or, Bool.or_eq_true] at h
      rcases h with h | h
      · exact ih i hi h
      · have kn : K n = true := ih n (by omega) (by
          cases z : bt (mpI (nI P) pa P s n) n with
          | true => rfl
          | false => exact absurd ((and_bit _ (by omega)).mpr z) hz)
        rcases (nb_bit ho (by omega) hi).mp h with ⟨z1, z2⟩ | z
        · exact (hK i n z1 (by omega) z2).mpr kn
        · rcases ho.2 n (by omega) with e | ⟨q, hq, e⟩
          · rw [e] at z; exact absurd z.symm (nI_neg (by omega))
          · rw [e, nI_eq (by omega) (by omega)] at z
            rw [← z]
            exact (hK n q (by omega) hq e).mp kn
theorem mpI_fix (ho : okPa P pa) {s : Int32} (h : mpI (nI P) pa P s P = s) : clo P pa (bt s) := by
  intro o q hoP hq e
  have hP := ho.1
  have e0 : ∀ n, n ≤ P → mpI (nI P) pa P s n = s := fun n hn => b_ext (fun i hi => by
    cases z : bt s i with
    | true => exact mpI_mono z n
    | false =>
      cases z2 : bt (mpI (nI P) pa P s n) i with
      | false => rfl
      | true =>
        have := mpI_up z2 (P - n)
        rw [show n + (P - n) = P by omega, h, z] at this
        cases this)
  have key : ∀ j, j < P → bt s j = true → ∀ i, i < 32 → ((i < P ∧ pa i = nI j) ∨ pa j = nI i) → bt s i = true := by
    intro j hj hs i hi hb
    have e1 := e0 (j + 1) (by omega)
    rw [mpI, e0 j (by omega)] at e1
    have hn : ¬ s &&& bit j = 0 := fun z => by rw [(and_bit s (by omega)).mp z] at hs; cases hs
    rw [if_neg hn] at e1
    rw [← e1, b_or, (nb_bit ho hj hi).mpr hb, Bool.or_true]
  exact ⟨fun z => key o hoP z q (by omega) (Or.inr e), fun z => key q hq z o (by omega) (Or.inl ⟨hoP, e⟩)⟩
theorem bit_at {p i : Nat} (hp : p < 32) (hi : i < 32) : bt (bit p) i = true ↔ i = p := by rw [bt_bit p hp i hi, decide_eq_true_eq]
theorem clo_lt (P : Nat) (pa : Nat → Int32) : clo P pa (fun i => decide (i < P)) := fun o q h1 h2 _ => by simp [h1, h2]
theorem pt_mp (ho : okPa P pa) {p : Nat} (hp : p < P) : ptR (nI P) pa P (bit p) 8 = mpR (nI P) pa P (bit p) P := by
  have hP := ho.1
  have sub1 : ∀ K, clo P pa K → K p = true → ∀ k i, i < 32 → bt (ptR (nI P) pa P (bit p) k) i = true → K i = true := by
    intro K hK hp1 k
    induction k with
    | zero => intro i hi h; rw [(bit_at (by omega) hi).mp h]; exact hp1
    | succ k ih => exact ptI_sub ho hK ih P (Nat.le_refl _)
  have sub2 : ∀ K, clo P pa K → K p = true → ∀ k i, i < 32 → bt (mpR (nI P) pa P (bit p) k) i = true → K i = true := by
    intro K hK hp1 k
    induction k with
    | zero => intro i hi h; rw [(bit_at (by omega) hi).mp h]; exact hp1
    | succ k ih => exact mpI_sub ho hK ih P (Nat.le_refl _)
  have f1 := rests_at (f := fun s => ptI (nI P) pa s P) (g := ptR (nI P) pa P (bit p)) (P := P) (fun _ => rfl) (fun k i _ h => ptI_mono h P) (fun k i hi h => of_decide_eq_true (sub1 _ (clo_lt P pa) (decide_eq_true hp) k i hi h)) ⟨p, hp, (bit_at (by omega) (by omega)).mpr rfl⟩ (k := 8) hP
  have f2 := rests_at (f := fun s => mpI (nI P) pa P s P) (g := mpR (nI P) pa P (bit p)) (P := P) (fun _ => rfl) (fun k i _ h => mpI_mono h P) (fun k i hi h => of_decide_eq_true (sub2 _ (clo_lt P pa) (decide_eq_true hp) k i hi h)) ⟨p, hp, (bit_at (by omega) (by omega)).mpr rfl⟩ (k := P) (Nat.le_refl _)
  have c1 := ptI_fix ho f1
  have c2 := mpI_fix ho f2
  have in1 : ∀ k, bt (ptR (nI P) pa P (bit p) k) p = true := by
    intro k
    induction k with
    | zero => exact (bit_at (by omega) (by omega)).mpr rfl
    | succ k ih => exact ptI_mono ih P
  have in2 : ∀ k, bt (mpR (nI P) pa P (bit p) k) p = true := by
    intro k
    induction k with
    | zero => exact (bit_at (by omega) (by omega)).mpr rfl
    | succ k ih => exact mpI_mono ih P
  refine b_ext (fun i hi => ?_)
  have d1 := sub1 _ c2 (in2 P) 8 i hi
  have d2 := sub2 _ c1 (in1 8) P i hi
  cases e : bt (ptR (nI P) pa P (bit p) 8) i with
  | true => exact (d1 e).symm
  | false =>
    cases e2 : bt (mpR (nI P) pa P (bit p) P) i with
    | false => rfl
    | true => rw [d2 e2] at e; cases e
theorem pp_mp (ho : okPa P pa) : ∀ n, n ≤ P → ppS (nI P) pa P n = mpS (nI P) pa P n
  | 0, _ => rfl
  | n + 1, hn => by
    unfold ppS mpS
    rw [pp_mp ho n (by omega), pt_mp ho (by omega)]
/-! steps -/
theorem ds_none {o : Int32} {V : Nat → Bool} (hP : P ≤ 8) (hV : ∀ i, i < P → V i = true → ¬ nI i = o ∧ (pa i = -1 ∨ ∃ j, j < P ∧ pa i = nI j ∧ V j = true)) (ho : ¬ o = -1) : ∀ k j (q : Int32), (q = -1 ∨ ∃ i, i < P ∧ q = nI i ∧ V i = true) → dsF (nI P) pa o k j q = -1 ∧ dsM pa o k j q = -1
  | 0, _, _, _ => ⟨rfl, rfl⟩
  | k + 1, j, q, h => by
    unfold dsF dsM
    rcases h with rfl | ⟨i, hi, rfl, hv⟩
    · rw [if_neg (fun z => ho z.symm), if_pos rfl]
      have e : po (nI P) pa (-1) = -1 := if_neg not_isP
      rw [e]
      exact ⟨(ds_none hP hV ho k (j + 1) (-1) (Or.inl rfl)).1, rfl⟩
    · obtain ⟨h1, h2⟩ := hV i hi hv
      rw [if_neg h1, if_neg (nI_neg (by omega)), if_neg h1, po_at hP hi, nI_clamp (by omega)]
      exact ds_none hP hV ho k (j + 1) (pa i) h2
theorem ds_eq (ho : okPa P pa) {o : Nat} (hoP : o < P) : ∀ k' k j (q : Int32) (V : Nat → Bool), k' ≤ k → cB V P + k' = P → (∀ i, i < P → V i = true → ¬ i = o ∧ (pa i = q ∨ pa i = -1 ∨ ∃ j, j < P ∧ pa i = nI j ∧ V j = true)) → (q = -1 ∨ ∃ i, i < P ∧ q = nI i) → dsF (nI P) pa (nI o) k j q = dsM pa (nI o) k' j q
  | 0, k, j, q, V, _, hc, hV, _ => absurd rfl (hV o hoP (cB_full P (by omega) o hoP)).1
  | k' + 1, 0, _, _, _, hk, _, _, _ => absurd hk (by omega)
  | k' + 1, k + 1, j, q, V, hk, hc, hV, hq => by
    have hP := ho.1
    have hno : ¬ nI o = -1 := nI_neg (by omega)
    have ne : ∀ i, i < P → ¬ i = o → ¬ nI i = nI o := fun i hi z w => z ((nI_eq (by omega) (by omega)).mp w)
    by_cases hcl : q = -1 ∨ ∃ i, i < P ∧ q = nI i ∧ V i = true
    · by_cases qo : q = nI o
      · unfold dsF dsM
        rw [if_pos qo, if_neg (by rw [qo]; exact hno), if_pos qo]
      · have hV2 : ∀ i, i < P → V i = true → ¬ nI i = nI o ∧ (pa i = -1 ∨ ∃ j, j < P ∧ pa i = nI j ∧ V j = true) := by
          intro i hi hv
          obtain ⟨h1, h2⟩ := hV i hi hv
          refine ⟨ne i hi h1, ?_⟩
          rcases h2 with h2 | h2
          · rcases hcl with w | ⟨r, hr, e, hvr⟩
            · exact Or.inl (h2.trans w)
            · exact Or.inr ⟨r, hr, h2.trans e, hvr⟩
          · exact h2
        rw [(ds_none hP hV2 hno (k + 1) j q hcl).1, (ds_none hP hV2 hno (k' + 1) j q hcl).2]
    · obtain ⟨r, hr, e⟩ : ∃ i, i < P ∧ q = nI i := hq.resolve_left (fun z => hcl (Or.inl z))
      have hvr : ¬ V r = true := fun z => hcl (Or.inr ⟨r, hr, e, z⟩)
      by_cases qo : q = nI o
      · unfold dsF dsM
        rw [if_pos qo, if_neg (by rw [qo]; exact hno), if_pos qo]
      · unfold dsF dsM
        rw [if_neg qo, if_neg (fun z => hcl (Or.inl z)), if_neg qo, e, po_at hP hr, nI_clamp (by omega)]
        have hcnt : cB V P + 1 ≤ cB (fun i => decide (i = r) || V i) P := cB_lt P (fun i hi h => by simp [h]) hr (by simp) hvr
        have hcnt2 : cB (fun i => decide (i = r) || V i) P ≤ cB V P + 1 := by
          have : ∀ n, cB (fun i => decide (i = r) || V i) n ≤ cB V n + (if r < n then 1 else 0) := by
            intro n
            induction n with
            | zero => exact Nat.zero_le _
            | succ n ih =>
              unfold cB
              by_cases w : n = r
              · subst w
                rw [if_neg (by omega)] at ih
                rw [if_pos (show n < n + 1 by omega), if_neg hvr]
                split <;> omega
              · have : (decide (n = r) || V n) = V n := by simp [w]
                rw [this]
                by_cases w2 : r < n
                · rw [if_pos w2] at ih; rw [if_pos (show r < n + 1 by omega)]; omega
                · rw [if_neg w2] at ih; rw [if_neg (show ¬ r < n + 1 by omega)]; omega
          have := this P
          rw [if_pos hr] at this
          exact this
        refine ds_eq ho hoP k' k (j + 1) (pa r) (fun i => decide (i = r) || V i) (by omega) (by omega) (fun i hi hv => ?_) (ho.2 r hr)
        by_cases w : i = r
        · subst w
          exact ⟨fun z => qo (by rw [e, z]), Or.inl rfl⟩
        · have hv' : V i = true := by simpa [w] using hv
          obtain ⟨h1, h2⟩ := hV i hi hv'
          refine ⟨h1, ?_⟩
          rcases h2 with h2 | h2 | ⟨s, hs, h3, h4⟩
          · exact Or.inr (Or.inr ⟨r, hr, h2.trans e, by simp⟩)
          · exact Or.inr (Or.inl h2)
          · exact Or.inr (Or.inr ⟨s, hs, h3, by simp [h4]⟩)
theorem ds_al (ho : okPa P pa) {p o : Nat} (hp : p < P) (hoP : o < P) : dsF (nI P) pa (nI o) 8 0 (nI p) = dsM pa (nI o) P 0 (nI p) := by
  have h0 : ∀ n, cB (fun _ => false) n = 0 := by
    intro n
    induction n with
    | zero => rfl
    | succ n ih => unfold cB; rw [ih]; rfl
  exact ds_eq ho hoP P 8 0 (nI p) (fun _ => false) ho.1 (by rw [h0]; omega) (fun i _ h => by cases h) (Or.inr ⟨p, hp, rfl⟩)
end Parts
section AlikeC
variable {a b : AW} {u : RU}
theorem okPa_of (ho : okA a) : okPa (pNf (aF a)) (aPa a) := ⟨pN8 _, fun o h => (ho.2.2.2.2.1 o h).1.elim Or.inl (fun ⟨q, h1, _, h3⟩ => Or.inr ⟨q, h1, h3⟩)⟩
theorem po_al (h : eqA 7 b a) (q : Int32) : po (aF b 0) (aPa b) q = po (aF a 0) (aPa a) q := by
  show (if isP (aF b 0) q then aPa b q.toNatClampNeg else -1) = (if isP (aF a 0) q then aPa a q.toNatClampNeg else -1)
  by_cases z : isP (aF b 0) q
  · rw [if_pos z, if_pos (by rw [← h.1 0 (by decide)]; exact z), (h.2.1 _ (isP_lt z)).2.2]
  · rw [if_neg z, if_neg (by rw [← h.1 0 (by decide)]; exact z)]
theorem rcF_al (h : eqA 7 b a) : ∀ k q s, rcF (aF b 0) (aPa b) k q s = rcF (aF a 0) (aPa a) k q s
  | 0, _, _ => rfl
  | k + 1, q, s => by unfold rcF; rw [po_al h, rcF_al h k]
theorem dsF_al (h : eqA 7 b a) (o : Int32) : ∀ k j q, dsF (aF b 0) (aPa b) o k j q = dsF (aF a 0) (aPa a) o k j q
  | 0, _, _ => rfl
  | k + 1, j, q => by unfold dsF; rw [po_al h, dsF_al h o k]
theorem pyS_al (h : eqA 7 b a) (p : Int32) (n : Nat) : pyS (aF b 0) (aPa b) p n = pyS (aF a 0) (aPa a) p n := orN_congr n (fun c _ => by rw [po_al h])
theorem rgS_al (h : eqA 7 b a) (n : Nat) : rgS (aF b 0) (aPa b) n = rgS (aF a 0) (aPa a) n := orN_congr n (fun c _ => by rw [po_al h, rcF_al h])
theorem skS_al (h : eqA 7 b a) (P n : Nat) : skS (aF b 0) (aPa b) P n = skS (aF a 0) (aPa a) P n := orN_congr n (fun c _ => by rw [po_al h, pyS_al h])
theorem cpl_al (h : eqA 7 b a) (o : Nat) : cpl (aF b 0) (aPa b) o = cpl (aF a 0) (aPa a) o := by unfold cpl; rw [po_al h]
theorem ptI_al (h : eqA 7 b a) (s : Int32) : ∀ n, ptI (aF b 0) (aPa b) s n = ptI (aF a 0) (aPa a) s n
  | 0 => rfl
  | n + 1 => by unfold ptI; rw [ptI_al h s n, cpl_al h]
theorem ptR_al (h : eqA 7 b a) (P : Nat) (s : Int32) : ∀ n, ptR (aF b 0) (aPa b) P s n = ptR (aF a 0) (aPa a) P s n
  | 0 => rfl
  | n + 1 => by unfold ptR; rw [ptR_al h P s n, ptI_al h]
theorem ppS_al (h : eqA 7 b a) (P : Nat) : ∀ n, ppS (aF b 0) (aPa b) P n = ppS (aF a 0) (aPa a) P n
  | 0 => rfl
  | n + 1 => by unfold ppS; rw [ppS_al h P n, ptR_al h]
theorem al_parts (ho : okA a) (h : eqA 7 b a) : ppS (aF b 0) (aPa b) (pNf (aF b)) (pNf (aF b)) = mpS (aF a 0) (aPa a) (pNf (aF a)) (pNf (aF a)) := by
  rw [h.p (by decide), ppS_al h, ho.1.1]
  exact pp_mp (okPa_of ho) _ (Nat.le_refl _)
theorem al_steps (ho : okA a) (h : eqA 7 b a) {p o : Int32} (hp : isP (aF b 0) p) (hoP : isP (aF b 0) o) : dsF (aF b 0) (aPa b) o 8 0 p = dsM (aPa a) o (pNf (aF a)) 0 p := by
  obtain ⟨i, hi, ei⟩ := isP_of hp
  obtain ⟨j, hj, ej⟩ := isP_of hoP
  have li := isP_lt hp
  have lj := isP_lt hoP
  rw [ei, nI_clamp (by omega), h.p (by decide)] at li
  rw [ej, nI_clamp (by omega), h.p (by decide)] at lj
  rw [dsF_al h, ei, ej, ho.1.1]
  exact ds_al (okPa_of ho) li lj
theorem gfF_al (h : eqA 7 b a) : gfF (aF b) (aWo b) (aHo b) = gfF (aF a) (aWo a) (aHo a) := orN_congr 12 (fun c hc => by rw [(h.2.2 c hc).1, (h.2.2 c hc).2, h.1 0 (by decide)])
theorem hbF_al (h : eqA 7 b a) (p : Int32) : hbF (aHo b) p = hbF (aHo a) p := orN_congr 12 (fun c hc => by rw [(h.2.2 c hc).2])
theorem al_count (ho : okA a) (h : eqA 7 b a) {d d' : DS} (hd : nowW d = b) (h11 : d 2 4 = d' 52 37) (h12 : d 2 3 = d' 52 38) (h13 : d 0 12 = d' 52 17) (h14 : ∀ i, i < 3 → d 6 i = d' 65 i) (x : Int32) : ctC d x = ctM d' a x := by
  have e7 : d 7 = aF b := by rw [← hd]; rfl
  have e10 : d 10 = aPa b := by rw [← hd]; rfl
  have e11 : d 11 = aWo b := by rw [← hd]; rfl
  have e12 : d 12 = aHo b := by rw [← hd]; rfl
  unfold ctC ctM
  rw [hd, e7, e10, e11, e12, al_parts ho h, skS_al h, rgS_al h, gfF_al h, poorA_congr h (by decide), h.p (by decide), h.1 0 (by decide), h.1 1 (by decide), h.1 2 (by decide), h.1 3 (by decide), h.1 5 (by decide), h.1 6 (by decide), h11, h12, h13, h14 0 (by decide), h14 1 (by decide), h14 2 (by decide)]
theorem and1_if (s : Int32) {k : Nat} (hk : k < 32) : (s >>> (nI k &&& 31)) &&& 1 = if s &&& bit k = 0 then 0 else 1 := by
  have h := isOf_bit s hk
  by_cases q : s &&& bit k = 0
  · rw [if_pos q]
    refine b_ext (fun i hi => ?_)
    rw [b_and, b_0, bt_one i hi]
    by_cases e : i = 0
    · rw [e, b_sshr k hk s (by decide), if_pos (by omega), Nat.add_zero, (and_bit s hk).mp q]; rfl
    · simp [e]
  · rw [if_neg q]; exact h.mpr q
theorem al_person (h : eqA 7 b a) {d d' : DS} (hd : nowW d = b) {p x : Int32} (hp : isP (aF b 0) p) (h57 : ∀ i, i < pNf (aF a) → (d' 57 i = 1 ↔ ¬ aF a 4 &&& bit i = 0) ∧ (d' 57 i = 0 ∨ d' 57 i = 1)) : psC d p x = psM d' a p x := by
  have e7 : d 7 = aF b := by rw [← hd]; rfl
  have e8 : d 8 = aNe b := by rw [← hd]; rfl
  have e9 : d 9 = aSo b := by rw [← hd]; rfl
  have e10 : d 10 = aPa b := by rw [← hd]; rfl
  have e12 : d 12 = aHo b := by rw [← hd]; rfl
  obtain ⟨i, hi, ei⟩ := isP_of hp
  have li := isP_lt hp
  have li2 := li
  rw [ei, nI_clamp (by omega), h.p (by decide)] at li2
  obtain ⟨x1, x2, x3⟩ := h.2.1 _ li
  have e6 : (if aF a 4 &&& (1 <<< (p &&& 31)) = 0 then 0 else 1) = d' 57 p.toNatClampNeg := by
    obtain ⟨y1, y2⟩ := h57 i li2
    rw [ei, nI_clamp (by omega)]
    show (if aF a 4 &&& bit i = 0 then 0 else 1) = d' 57 i
    by_cases q : aF a 4 &&& bit i = 0
    · rw [if_pos q]
      exact (y2.resolve_right (fun z => y1.mp z q)).symm
    · rw [if_neg q]; exact (y1.mpr q).symm
  unfold psC psM
  rw [hd, e7, e8, e9, e10, e12, x1, x2, x3, hasA_congr h (by decide), hbF_al h, pyS_al h, h.p (by decide), h.1 4 (by decide), e6]
theorem al_coin (h : eqA 7 b a) {d : DS} (hd : nowW d = b) {c x : Int32} (hc : isC (aF b 1) c) : cnC d c x = cnM a c x := by
  have e7 : d 7 = aF b := by rw [← hd]; rfl
  have e11 : d 11 = aWo b := by rw [← hd]; rfl
  have e12 : d 12 = aHo b := by rw [← hd]; rfl
  obtain ⟨i, hi, ei⟩ := isC_of hc
  unfold cnC cnM
  rw [e7, e11, e12, ei, nI_clamp (by omega), (h.2.2 i hi).1, (h.2.2 i hi).2, h.1 5 (by decide), h.1 6 (by decide), and1_if _ (by omega), and1_if _ (by omega)]
  rfl
end AlikeC
