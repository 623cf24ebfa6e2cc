/-! BOTH SIDES ANSWER ALIKE: the least sum that can't be paid -/
section Lacks
variable {a b : AW} {m : Int32}
def tkS (a : AW) (m l : Int32) : Nat := sNat (fun c => if bt m c = true ∧ ¬ bt l c = true then woN a c else 0) 12
def cloS (a : AW) (m : Int32) (K : Nat → Prop) [DecidablePred K] : Prop := ∀ c, c < 12 → bt m c = true → ¬ K c → 1 + sNat (fun c => if K c then woN a c else 0) 12 < woN a c
abbrev tkP (m l : Int32) (c : Nat) : Prop := bt m c = true ∧ ¬ bt l c = true
theorem b_rm (l : Int32) {c i : Nat} (hc : c < 32) (hi : i < 32) : bt (l &&& (bit c ^^^ -1)) i = true ↔ (bt l i = true ∧ ¬ i = c) := by
  rw [b_and, b_xor, b_m1 i hi, bt_bit c hc i hi]
  by_cases e : i = c <;> cases bt l i <;> simp [e]
theorem tk_take {l : Int32} {c : Nat} (hc : c < 12) (h1 : bt m c = true) (h2 : bt l c = true) : tkS a m (l &&& (bit c ^^^ -1)) = tkS a m l + woN a c := by
  unfold tkS
  rw [← sNat_one (i := c) (x := woN a c) 12 hc, ← sNat_add]
  refine sNat_congr 12 (fun i hi => ?_)
  have hb := b_rm l (c := c) (i := i) (by omega) (by omega)
  by_cases e : i = c
  · subst e
    rw [if_pos ⟨h1, fun z => (hb.mp z).2 rfl⟩, if_neg (fun z => z.2 h2), if_pos rfl]; omega
  · rw [if_neg e, Nat.add_zero]
    by_cases q : bt m i = true ∧ ¬ bt l i = true
    · rw [if_pos q, if_pos ⟨q.1, fun z => q.2 (hb.mp z).1⟩]
    · rw [if_neg q, if_neg (fun z => q ⟨z.1, fun w => z.2 (hb.mpr ⟨w, e⟩)⟩)]
theorem tk_le (ho : okA a) (l : Int32) : tkS a m l ≤ 1188 := Nat.le_trans (sNat_le (B := 99) 12 (fun c hc => by split; exact (woN_at ho hc).1; exact Nat.zero_le _)) (by decide)
theorem take_in {l : Int32} {K : Nat → Prop} [DecidablePred K] (hK : cloS a m K) (hl : ∀ c, c < 12 → tkP m l c → K c) {c : Nat} (hc : c < 12) (h1 : bt m c = true) (h2 : woN a c ≤ 1 + tkS a m l) : K c := by
  refine Classical.byContradiction (fun hn => ?_)
  have h3 := hK c hc h1 hn
  have h4 : tkS a m l ≤ sNat (fun c => if K c then woN a c else 0) 12 := sNat_mono 12 (fun i hi => by
    by_cases q : tkP m l i
    · rw [if_pos q, if_pos (hl i hi q)]; exact Nat.le_refl _
    · rw [if_neg q]; exact Nat.zero_le _)
  omega
theorem take_sub {l : Int32} {K : Nat → Prop} [DecidablePred K] (hK : cloS a m K) (hl : ∀ c, c < 12 → tkP m l c → K c) {c : Nat} (hc : c < 12) (h1 : bt m c = true) (h2 : woN a c ≤ 1 + tkS a m l) : ∀ i, i < 12 → tkP m (l &&& (bit c ^^^ -1)) i → K i := by
  intro i hi hq
  by_cases e : i = c
  · rw [e]; exact take_in hK hl hc h1 h2
  · exact hl i hi ⟨hq.1, fun z => hq.2 ((b_rm l (by omega) (by omega)).mpr ⟨z, e⟩)⟩
theorem leM_min (v : Nat → Int32) (m : Int32) : ∀ n, n ≤ 12 → ∀ c, c < n → ¬ m &&& bit c = 0 → ¬ leM v m n = -1 ∧ v (leM v m n).toNatClampNeg ≤ v c
  | 0, _, c, hc, _ => absurd hc (by omega)
  | n + 1, hn, c, hc, hb => by
    have ih := leM_min v m n (by omega)
    rw [leM]
    by_cases h : ¬ m &&& bit n = 0 ∧ (leM v m n = -1 ∨ v n < v (leM v m n).toNatClampNeg)
    · rw [if_pos h, nI_clamp (by omega)]
      refine ⟨nI_neg (by omega), ?_⟩
      by_cases e : c = n
      · rw [e]; exact Int32.le_refl _
      · obtain ⟨i1, i2⟩ := ih c (by omega) hb
        exact Int32.le_trans (Int32.le_of_lt (h.2.resolve_left i1)) i2
    · rw [if_neg h]
      by_cases e : c = n
      · subst e
        refine ⟨fun z => h ⟨hb, Or.inl z⟩, Int32.not_lt.mp (fun z => h ⟨hb, Or.inr z⟩)⟩
      · exact ih c (by omega) hb
theorem bt_ne {l : Int32} {c : Nat} (hc : c < 32) : ¬ l &&& bit c = 0 ↔ bt l c = true := by
  rw [and_bit l hc]
  cases bt l c <;> simp
theorem la_spec (ho : okA a) {G : Nat} (hG : G ≤ 12) (hm : ∀ i, i < 32 → bt m i = true → i < G) : ∀ k l, (∀ i, i < 32 → bt l i = true → bt m i = true) → cB (bt l) 12 ≤ k → ∃ lf, cloS a m (tkP m lf) ∧ laM (aWo a) G k l (nI (tkS a m l)) = nI (1 + tkS a m lf) ∧ ∀ (K : Nat → Prop) [DecidablePred K], cloS a m K → (∀ c, c < 12 → tkP m l c → K c) → ∀ c, c < 12 → tkP m lf c → K c := by
  intro k
  have e1 : ∀ l, nI (tkS a m l) + 1 = nI (1 + tkS a m l) := fun l => by rw [nI_1, Nat.add_comm]
  induction k with
  | zero =>
    intro l hl hc
    refine ⟨l, fun c hc2 h1 h2 => ?_, e1 l, fun K _ _ h => h⟩
    have : bt l c = true := Classical.byContradiction (fun z => h2 ⟨h1, z⟩)
    have := cB_pos 12 hc2 this
    omega
  | succ k ih =>
    intro l hl hc
    unfold laM
    rw [e1 l]
    have htk := tk_le (m := m) ho l
    by_cases q : l = 0
    · rw [if_pos q]
      refine ⟨l, fun c hc2 h1 h2 => ?_, rfl, fun K _ _ h => h⟩
      exact absurd ⟨h1, by rw [q, b_0]; decide⟩ h2
    · rw [if_neg q]
      have hex : ∃ c, c < G ∧ leM (aWo a) l G = nI c ∧ ¬ l &&& bit c = 0 := by
        rcases leM_spec (aWo a) l G with ⟨z1, z2⟩ | z
        · refine absurd (b_ext (fun i hi => ?_)) q
          rw [b_0]
          cases e : bt l i with
          | false => rfl
          | true =>
            have := z2 i (hm i hi (hl i hi e))
            rw [(and_bit l hi).mp this] at e
            cases e
        · exact z
      obtain ⟨c, hcG, ec, hbc⟩ := hex
      have hb1 : bt l c = true := (bt_ne (by omega)).mp hbc
      obtain ⟨w1, w2⟩ := woN_at ho (c := c) (by omega)
      rw [ec, nI_clamp (by omega), w2]
      by_cases q2 : nI (1 + tkS a m l) < nI (woN a c)
      · rw [if_pos q2]
        refine ⟨l, fun i hi h1 h2 => ?_, rfl, fun K _ _ h => h⟩
        have hbi : bt l i = true := Classical.byContradiction (fun z => h2 ⟨h1, z⟩)
        have := (leM_min (aWo a) l G hG i (hm i (by omega) h1) ((bt_ne (by omega)).mpr hbi)).2
        obtain ⟨y1, y2⟩ := woN_at ho hi
        rw [ec, nI_clamp (by omega), w2, y2] at this
        have l1 : woN a c ≤ woN a i := by
          rcases Nat.le_total (woN a c) (woN a i) with z | z
          · exact z
          · rcases Nat.lt_or_ge (woN a i) (woN a c) with y | y
            · exact absurd this (Int32.not_le.mpr (nI_lt y (by omega)))
            · exact y
        have l2 : 1 + tkS a m l < woN a c := by
          rcases Nat.lt_or_ge (1 + tkS a m l) (woN a c) with z | z
          · exact z
          · exact absurd q2 (Int32.not_lt.mpr (nI_leq z (by omega)))
        show 1 + tkS a m l < woN a i
        omega
      · rw [if_neg q2]
        have l2 : woN a c ≤ 1 + tkS a m l := by
          rcases Nat.lt_or_ge (1 + tkS a m l) (woN a c) with z | z
          · exact absurd (nI_lt z (by omega)) q2
          · exact z
        have hmc : bt m c = true := hl c (by omega) hb1
        have es : nI (tkS a m l) + nI (woN a c) = nI (tkS a m (l &&& (bit c ^^^ -1))) := by rw [tk_take (by omega) hmc hb1, nI_add]
        rw [es]
        have hrm : ∀ i, i < 32 → bt (l &&& (bit c ^^^ -1)) i = true → bt l i = true := fun i hi z => ((b_rm l (by omega) hi).mp z).1
        have hcnt := cB_lt (f := bt (l &&& (bit c ^^^ -1))) (g := bt l) (i := c) 12 (fun i hi z => hrm i (by omega) z) (by omega) hb1 (fun z => ((b_rm l (by omega) (by omega)).mp z).2 rfl)
        obtain ⟨lf, c1, c2, c3⟩ := ih (l &&& (bit c ^^^ -1)) (fun i hi z => hl i hi (hrm i hi z)) (by omega)
        exact ⟨lf, c1, c2, fun K _ hK h => c3 K hK (take_sub hK h (by omega) hmc l2)⟩
/-! the class's rounds -/
def luP (a : AW) (m : Int32) (st : Int32 × Int32) : Prop := (∀ i, i < 32 → bt st.2 i = true → bt m i = true) ∧ st.1 = nI (1 + tkS a m st.2)
theorem luC_ok (ho : okA a) {st : Int32 × Int32} (h : luP a m st) {c : Nat} (hc : c < 12) : luP a m (luC (aWo a) st c) ∧ (∀ i, i < 32 → bt (luC (aWo a) st c).2 i = true → bt st.2 i = true) ∧ ∀ (K : Nat → Prop) [DecidablePred K], cloS a m K → (∀ i, i < 12 → tkP m st.2 i → K i) → ∀ i, i < 12 → tkP m (luC (aWo a) st c).2 i → K i := by
  obtain ⟨h1, h2⟩ := h
  obtain ⟨w1, w2⟩ := woN_at ho hc
  have htk := tk_le (m := m) ho st.2
  unfold luC
  by_cases q : ¬ st.2 &&& bit c = 0 ∧ aWo a c ≤ st.1
  · rw [if_pos q]
    have hb := (bt_ne (by omega)).mp q.1
    have hm := h1 c (by omega) hb
    have l2 : woN a c ≤ 1 + tkS a m st.2 := by
      have := q.2
      rw [w2, h2] at this
      rcases Nat.lt_or_ge (1 + tkS a m st.2) (woN a c) with z | z
      · exact absurd this (Int32.not_le.mpr (nI_lt z (by omega)))
      · exact z
    have hrm : ∀ i, i < 32 → bt (st.2 &&& (bit c ^^^ -1)) i = true → bt st.2 i = true := fun i hi z => ((b_rm st.2 (by omega) hi).mp z).1
    refine ⟨⟨fun i hi z => h1 i hi (hrm i hi z), ?_⟩, hrm, fun K _ hK hl => take_sub hK hl hc hm l2⟩
    show st.1 + aWo a c = nI (1 + tkS a m (st.2 &&& (bit c ^^^ -1)))
    rw [tk_take hc hm hb, h2, w2, nI_add, Nat.add_assoc]
  · rw [if_neg q]; exact ⟨⟨h1, h2⟩, fun i _ z => z, fun K _ _ h => h⟩
theorem luI_ok (ho : okA a) {st : Int32 × Int32} (h : luP a m st) : ∀ n, n ≤ 12 → luP a m (luI (aWo a) st n) ∧ (∀ i, i < 32 → bt (luI (aWo a) st n).2 i = true → bt st.2 i = true) ∧ ∀ (K : Nat → Prop) [DecidablePred K], cloS a m K → (∀ i, i < 12 → tkP m st.2 i → K i) → ∀ i, i < 12 → tkP m (luI (aWo a) st n).2 i → K i
  | 0, _ => ⟨h, fun i _ z => z, fun K _ _ h => h⟩
  | n + 1, hn => by
    obtain ⟨i1, i2, i3⟩ := luI_ok ho h n (by omega)
    obtain ⟨j1, j2, j3⟩ := luC_ok ho i1 (c := n) (by omega)
    exact ⟨j1, fun i hi z => i2 i hi (j2 i hi z), fun K _ hK hl => j3 K hK (i3 K hK hl)⟩
theorem luI_up (ho : okA a) {st : Int32 × Int32} (h : luP a m st) {n : Nat} : ∀ k, n + k ≤ 12 → ∀ i, i < 32 → bt (luI (aWo a) st (n + k)).2 i = true → bt (luI (aWo a) st n).2 i = true
  | 0, _, _, _, z => z
  | k + 1, hk, i, hi, z => luI_up ho h k (by omega) i hi ((luC_ok ho (luI_ok ho h (n + k) (by omega)).1 (c := n + k) (by omega)).2.1 i hi z)
theorem lu_ext {s t : Int32 × Int32} (hs : luP a m s) (ht : luP a m t) (e : s.2 = t.2) : s = t := by
  have : s.1 = t.1 := by rw [hs.2, ht.2, e]
  cases s; cases t
  simp only at this e
  rw [this, e]
theorem lu_fix (ho : okA a) {st : Int32 × Int32} (h : luP a m st) (e : luI (aWo a) st 12 = st) : cloS a m (tkP m st.2) := by
  have e0 : ∀ n, n ≤ 12 → luI (aWo a) st n = st := fun n hn => lu_ext (luI_ok ho h n hn).1 h (b_ext (fun i hi => by
    cases z : bt st.2 i with
    | true =>
      refine luI_up ho h (n := n) (12 - n) (by omega) i hi ?_
      rw [show n + (12 - n) = 12 by omega, e]; exact z
    | false =>
      cases z2 : bt (luI (aWo a) st n).2 i with
      | false => rfl
      | true => rw [(luI_ok ho h n hn).2.1 i hi z2] at z; cases z))
  intro c hc h1 h2
  have hb : bt st.2 c = true := Classical.byContradiction (fun z => h2 ⟨h1, z⟩)
  have e1 : luC (aWo a) (luI (aWo a) st c) c = st := e0 (c + 1) (by omega)
  rw [e0 c (by omega)] at e1
  obtain ⟨w1, w2⟩ := woN_at ho hc
  have htk := tk_le (m := m) ho st.2
  rcases Nat.lt_or_ge (1 + tkS a m st.2) (woN a c) with z | z
  · exact z
  · exfalso
    unfold luC at e1
    rw [if_pos ⟨(bt_ne (by omega)).mpr hb, by rw [h.2, w2]; exact nI_leq z (by omega)⟩] at e1
    have := congrArg (fun s => bt s.2 c) e1
    have e2 : bt (st.2 &&& (bit c ^^^ -1)) c = bt st.2 c := this
    rw [hb] at e2
    exact ((b_rm st.2 (by omega) (by omega)).mp e2).2 rfl
theorem luR_ok (ho : okA a) {st : Int32 × Int32} (h : luP a m st) : ∀ k, luP a m (luR (aWo a) st k) ∧ ∀ (K : Nat → Prop) [DecidablePred K], cloS a m K → (∀ i, i < 12 → tkP m st.2 i → K i) → ∀ i, i < 12 → tkP m (luR (aWo a) st k).2 i → K i
  | 0 => ⟨h, fun K _ _ h => h⟩
  | k + 1 => by
    obtain ⟨i1, i2⟩ := luR_ok ho h k
    obtain ⟨j1, j2, j3⟩ := luI_ok ho i1 12 (Nat.le_refl _)
    exact ⟨j1, fun K _ hK hl => j3 K hK (i2 K hK hl)⟩
theorem lu_rest (ho : okA a) {st : Int32 × Int32} (h : luP a m st) : ∀ k, luI (aWo a) (luR (aWo a) st k) 12 = luR (aWo a) st k ∨ cB (bt (luR (aWo a) st k).2) 12 + k ≤ 12
  | 0 => Or.inr (by
    have := cB_le (bt (luR (aWo a) st 0).2) 12
    omega)
  | k + 1 => by
    by_cases q : luI (aWo a) (luR (aWo a) st k) 12 = luR (aWo a) st k
    · left
      show luI (aWo a) (luI (aWo a) (luR (aWo a) st k) 12) 12 = luI (aWo a) (luR (aWo a) st k) 12
      rw [q, q]
    · right
      have ih := (lu_rest ho h k).resolve_left q
      have hk := (luR_ok ho h k).1
      obtain ⟨j1, j2, -⟩ := luI_ok ho hk 12 (Nat.le_refl _)
      have hex : ∃ i, i < 32 ∧ bt (luR (aWo a) st k).2 i = true ∧ ¬ bt (luI (aWo a) (luR (aWo a) st k) 12).2 i = true := by
        refine Classical.byContradiction (fun hn => q (lu_ext j1 hk (b_ext (fun i hi => ?_))))
        cases e : bt (luR (aWo a) st k).2 i with
        | true => exact Classical.byContradiction (fun z => hn ⟨i, hi, e, z⟩)
        | false =>
          cases e2 : bt (luI (aWo a) (luR (aWo a) st k) 12).2 i with
          | false => rfl
          | true => rw [j2 i hi e2] at e; cases e
      obtain ⟨i, hi, a1, a2⟩ := hex
      show cB (bt (luI (aWo a) (luR (aWo a) st k) 12).2) 12 + (k + 1) ≤ 12
      rcases Nat.lt_or_ge i 12 with z | z
      · have := cB_lt (f := bt (luI (aWo a) (luR (aWo a) st k) 12).2) (g := bt (luR (aWo a) st k).2) (i := i) 12 (fun i hi z => j2 i (by omega) z) z a1 a2
        omega
      · exfalso
        refine a2 ?_
        have key : ∀ n, n ≤ 12 → bt (luI (aWo a) (luR (aWo a) st k) n).2 i = true := by
          intro n
          induction n with
          | zero => intro _; exact a1
          | succ n ihn =>
            intro hn
            show bt (luC (aWo a) (luI (aWo a) (luR (aWo a) st k) n) n).2 i = true
            unfold luC
            split
            · exact (b_rm _ (by omega) hi).mpr ⟨ihn (by omega), by omega⟩
            · exact ihn (by omega)
        exact key 12 (Nat.le_refl _)
theorem lu_end (ho : okA a) {st : Int32 × Int32} (h : luP a m st) : cloS a m (tkP m (luR (aWo a) st 12).2) := by
  rcases lu_rest ho h 12 with z | z
  · exact lu_fix ho (luR_ok ho h 12).1 z
  · intro c hc h1 h2
    have hb : bt (luR (aWo a) st 12).2 c = true := Classical.byContradiction (fun z => h2 ⟨h1, z⟩)
    have := cB_pos 12 hc hb
    omega
theorem luI_al {v w : Nat → Int32} (h : ∀ c, c < 12 → v c = w c) (s : Int32 × Int32) : ∀ n, n ≤ 12 → luI v s n = luI w s n
  | 0, _ => rfl
  | n + 1, hn => by
    show luC v (luI v s n) n = luC w (luI w s n) n
    rw [luI_al h s n (by omega)]
    unfold luC
    rw [h n (by omega)]
theorem luR_al {v w : Nat → Int32} (h : ∀ c, c < 12 → v c = w c) (s : Int32 × Int32) : ∀ n, luR v s n = luR w s n
  | 0 => rfl
  | n + 1 => by
    show luI v (luR v s n) 12 = luI w (luR w s n) 12
    rw [luR_al h s n, luI_al h _ 12 (Nat.le_refl _)]
theorem al_lacks (ho : okA a) (h : eqA 7 b a) {p : Int32} (hp : ¬ p = -1) : (luR (aWo b) (1, monA b p) 12).1 = laM (aWo a) (cNf (aF a)) 4096 (monA a p) 0 := by
  obtain ⟨M, hM, eM⟩ := mon_lt a p
  have hi := mon_hi ho hp
  rw [monA_al h, luR_al (fun c hc => (h.2.2 c hc).1)]
  have hm : ∀ i, i < 32 → bt (monA a p) i = true → i < cNf (aF a) := by
    intro i hi32 z
    rcases Nat.lt_or_ge i 12 with y | y
    · rcases Nat.lt_or_ge i (cNf (aF a)) with w | w
      · exact w
      · exact absurd (hi i w y) ((bt_ne hi32).mpr z)
    · rw [eM, bt_nI hi32, Nat.testBit_lt_two_pow (x := M) (Nat.lt_of_lt_of_le hM (Nat.pow_le_pow_right (n := 2) (by decide) y))] at z
      cases z
  generalize monA a p = m at hm ⊢
  have t0 : tkS a m m = 0 := by
    have : ∀ n, sNat (fun c => if bt m c = true ∧ ¬ bt m c = true then woN a c else 0) n = 0 := by
      intro n
      induction n with
      | zero => rfl
      | succ n ih =>
        show sNat (fun c => if bt m c = true ∧ ¬ bt m c = true then woN a c else 0) n + (if bt m n = true ∧ ¬ bt m n = true then woN a n else 0) = 0
        rw [ih, if_neg (fun z => z.2 z.1)]
    exact this 12
  have hst : luP a m (1, m) := ⟨fun i _ z => z, by show 1 = nI (1 + tkS a m m); rw [t0]; rfl⟩
  obtain ⟨lf, c1, c2, c3⟩ := la_spec ho (cN12 (aF a)) hm 4096 m (fun i _ z => z) (Nat.le_trans (cB_le _ 12) (by decide))
  rw [t0] at c2
  have c2 : laM (aWo a) (cNf (aF a)) 4096 m 0 = nI (1 + tkS a m lf) := c2
  have f1 := lu_end ho hst
  obtain ⟨r1, r2⟩ := luR_ok ho hst 12
  rw [c2, r1.2]
  have s1 := r2 (tkP m lf) c1 (fun i _ z => absurd z.1 z.2)
  have s2 := c3 (tkP m (luR (aWo a) (1, m) 12).2) f1 (fun i _ z => absurd z.1 z.2)
  have : tkS a m (luR (aWo a) (1, m) 12).2 = tkS a m lf := sNat_congr 12 (fun c hc => by
    by_cases q : tkP m lf c
    · rw [if_pos q, if_pos (s2 c hc q)]
    · rw [if_neg q, if_neg (fun z => q (s1 c hc z))])
  rw [this]
end Lacks
