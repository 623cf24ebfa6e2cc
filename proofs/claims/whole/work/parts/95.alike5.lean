/-! BOTH SIDES ANSWER ALIKE: sums -/
theorem sum_sub (f g : Nat → Int32) (n : Nat) : sumN (fun c => f c - g c) n = sumN f n - sumN g n := by
  have h := sum_add (fun c => f c - g c) g n
  have e : sumN (fun c => (fun c => f c - g c) c + g c) n = sumN f n := sumN_congr n (fun c _ => by
    show f c - g c + g c = f c
    exact Int32.sub_add_cancel _ _)
  rw [e] at h
  rw [h, Int32.add_sub_cancel]
theorem smM_12 {v : Nat → Int32} {m : Int32} {G : Nat} (hG : G ≤ 12) (hz : ∀ c, G ≤ c → c < 12 → v c = 0) : smM v m G = smM v m 12 := by
  unfold smM
  exact (sum_tail 12 hG (fun c h1 h2 => by rw [hz c h1 h2]; split <;> rfl)).symm
theorem nI_and (x y : Nat) : nI x &&& nI y = nI (x &&& y) := by
  refine b_ext (fun i hi => ?_)
  rw [b_and, bt_nI hi, bt_nI hi, bt_nI hi, Nat.testBit_and]
theorem bit_tb {x c : Nat} (hc : c < 32) : nI x &&& bit c = 0 ↔ x.testBit c = false := by rw [and_bit _ hc, bt_nI hc]
theorem bs_ch {own oth t : Nat} {va vb : Nat → Int32} (hd : ∀ c, c < 12 → own.testBit c = true → oth.testBit c = false) (hv : ∀ c, c < 12 → vb c = va c) : bsN (vlF (nI own) (nI oth) vb) t 12 = smM va (nI t &&& nI own) 12 - smM va (nI t &&& nI oth) 12 := by
  unfold smM
  rw [← sum_sub]
  unfold bsN
  refine sumN_congr 12 (fun c hc => ?_)
  unfold vlF
  rw [nI_and, nI_and, hv c hc]
  have b1 := bit_tb (x := own) (c := c) (by omega)
  have b2 := bit_tb (x := oth) (c := c) (by omega)
  have b3 := bit_tb (x := t &&& own) (c := c) (by omega)
  have b4 := bit_tb (x := t &&& oth) (c := c) (by omega)
  rw [Nat.testBit_and] at b3 b4
  cases ht : t.testBit c with
  | false =>
    rw [ht] at b3 b4
    rw [if_pos (b3.mpr rfl), if_pos (b4.mpr rfl), if_neg (by decide)]; rfl
  | true =>
    rw [ht, Bool.true_and] at b3 b4
    rw [if_pos rfl]
    cases h1 : own.testBit c with
    | true =>
      have h2 := hd c hc h1
      rw [if_neg (fun z => by rw [b1.mp z] at h1; cases h1), if_neg (fun z => by rw [b3.mp z] at h1; cases h1), if_pos (b4.mpr h2)]
      exact (Int32.sub_zero _).symm
    | false =>
      rw [if_pos (b1.mpr h1), if_pos (b3.mpr h1)]
      cases h2 : oth.testBit c with
      | true =>
        rw [if_neg (fun z => by rw [b2.mp z] at h2; cases h2), if_neg (fun z => by rw [b4.mp z] at h2; cases h2)]
        exact (Int32.zero_sub _).symm
      | false => rw [if_pos (b2.mpr h2), if_pos (b4.mpr h2)]; rfl
theorem smM_0 (v : Nat → Int32) (G : Nat) : smM v 0 G = 0 := by
  unfold smM
  exact (sumN_congr G (fun c _ => if_pos Int32.zero_and)).trans (sum_zero G)
theorem bs_own {M t : Nat} {va vb : Nat → Int32} (ht : sbN t M) (hv : ∀ c, c < 12 → vb c = va c) : bsN (vlF (nI M) 0 vb) t 12 = smM va (nI t) 12 := by
  have h := bs_ch (own := M) (oth := 0) (t := t) (fun c _ _ => Nat.zero_testBit c) hv
  have e : nI t &&& nI M = nI t := by rw [nI_and]; exact congrArg nI ht
  have e0 : nI t &&& nI 0 = 0 := by rw [nI_and, Nat.and_zero]; rfl
  rw [e, e0, smM_0, Int32.sub_zero] at h
  exact h
section AlikeD
variable {a b : AW} {u : RU}
theorem wo_hi (ho : okA a) : ∀ c, cNf (aF a) ≤ c → c < 12 → aWo a c = 0 := fun c h1 h2 => (ho.2.2.2.1 c h1 h2).2.1
theorem al_toPay (ho : okA a) (h : eqA 7 b a) (p sum x : Int32) : tyC b p sum x = tyM a p sum x := by
  obtain ⟨M, hM, eM⟩ := mon_lt a p
  have hw : ∀ c, c < 12 → aWo b c = aWo a c := fun c hc => (h.2.2 c hc).1
  have hc : ∀ t, t ≤ M → (tpK (aWo a) (cNf (aF a)) (nI M) sum t = true ↔ (sbN t M ∧ bsN (vlF (nI M) 0 (aWo b)) t 12 = sum)) := by
    intro t ht
    unfold tpK
    rw [decide_eq_true_eq, sb_int (by omega) (by omega), smM_12 (cN12 _) (wo_hi ho)]
    exact and_congr_right (fun s => by rw [bs_own s hw])
  obtain ⟨e1, e2⟩ := fw_bf hM hc
  unfold tyC tyM
  rw [monA_al h, eM, Int32.or_zero, nI_clamp (by omega), e1, e2]
theorem mon_dis (ho : okA a) {p o : Int32} {O T : Nat} (hp : ¬ p = -1) (hoo : ¬ o = -1) (hne : ¬ p = o) (eO : monA a p = nI O) (eT : monA a o = nI T) : ∀ c, c < 12 → O.testBit c = true → T.testBit c = false := by
  intro c hc h1
  cases h2 : T.testBit c with
  | false => rfl
  | true =>
    have q1 := (mon_bit ho hp hc (by rw [eO]; exact fun z => by rw [(bit_tb (by omega)).mp z] at h1; cases h1)).2.1
    have q2 := (mon_bit ho hoo hc (by rw [eT]; exact fun z => by rw [(bit_tb (by omega)).mp z] at h2; cases h2)).2.1
    exact absurd (q1.symm.trans q2) hne
theorem al_change (ho : okA a) (h : eqA 7 b a) {p o : Int32} (hp : ¬ p = -1) (hoo : ¬ o = -1) (hne : ¬ p = o) (sum x : Int32) : cgC b p o sum x = cgM a p o sum x := by
  obtain ⟨O, hO, eO⟩ := mon_lt a p
  obtain ⟨T, hT, eT⟩ := mon_lt a o
  have hw : ∀ c, c < 12 → aWo b c = aWo a c := fun c hc => (h.2.2 c hc).1
  have hM : O ||| T < 4096 := Nat.or_lt_two_pow (n := 12) hO hT
  have hc : ∀ t, t ≤ O ||| T → (cgK (aWo a) (cNf (aF a)) (nI O) (nI T) sum t = true ↔ (sbN t (O ||| T) ∧ bsN (vlF (nI O) (nI T) (aWo b)) t 12 = sum)) := by
    intro t ht
    unfold cgK
    rw [decide_eq_true_eq, nI_or, sb_int (by omega) (by omega), smM_12 (cN12 _) (wo_hi ho), smM_12 (cN12 _) (wo_hi ho), bs_ch (mon_dis ho hp hoo hne eO eT) hw]
  have e1 := (fw_bf hM hc).1
  have e2 : fwA b p o sum = cgB a p o sum := by
    unfold fwA cgB
    rw [monA_al h, monA_al h, eO, eT, nI_or, nI_clamp (by omega), e1]
  unfold cgC cgM
  rw [e2]
/-- a sum of worths as a number -/
def sNat (f : Nat → Nat) : Nat → Nat
  | 0 => 0
  | n + 1 => sNat f n + f n
theorem sNat_I {f : Nat → Nat} : ∀ n, sumN (fun c => nI (f c)) n = nI (sNat f n)
  | 0 => rfl
  | n + 1 => by
    show sumN (fun c => nI (f c)) n + nI (f n) = nI (sNat f n + f n)
    rw [sNat_I n, nI_add]
theorem sNat_le {f : Nat → Nat} {B : Nat} : ∀ n, (∀ c, c < n → f c ≤ B) → sNat f n ≤ B * n
  | 0, _ => Nat.zero_le _
  | n + 1, h => by
    have := sNat_le n (fun c hc => h c (by omega))
    have := h n (by omega)
    show sNat f n + f n ≤ B * (n + 1)
    rw [Nat.mul_succ]
    omega
theorem sNat_congr {f g : Nat → Nat} : ∀ n, (∀ c, c < n → f c = g c) → sNat f n = sNat g n
  | 0, _ => rfl
  | n + 1, h => by
    show sNat f n + f n = sNat g n + g n
    rw [sNat_congr n (fun c hc => h c (by omega)), h n (by omega)]
theorem sNat_mono {f g : Nat → Nat} : ∀ n, (∀ c, c < n → f c ≤ g c) → sNat f n ≤ sNat g n
  | 0, _ => Nat.le_refl _
  | n + 1, h => by
    have := sNat_mono n (fun c hc => h c (by omega))
    have := h n (by omega)
    show sNat f n + f n ≤ sNat g n + g n
    omega
theorem sNat_add {f g : Nat → Nat} : ∀ n, sNat (fun c => f c + g c) n = sNat f n + sNat g n
  | 0 => rfl
  | n + 1 => by
    show sNat (fun c => f c + g c) n + (f n + g n) = sNat f n + f n + (sNat g n + g n)
    rw [sNat_add n]; omega
theorem sNat_one {i x : Nat} : ∀ n, i < n → sNat (fun c => if c = i then x else 0) n = x
  | 0, h => absurd h (by omega)
  | n + 1, h => by
    show sNat (fun c => if c = i then x else 0) n + (if n = i then x else 0) = x
    by_cases e : n = i
    · subst e
      rw [if_pos rfl]
      have : sNat (fun c => if c = n then x else 0) n = 0 := by
        have z : ∀ m, m ≤ n → sNat (fun c => if c = n then x else 0) m = 0 := by
          intro m
          induction m with
          | zero => intro _; rfl
          | succ m ih =>
            intro hm
            show sNat (fun c => if c = n then x else 0) m + (if m = n then x else 0) = 0
            rw [ih (by omega), if_neg (by omega)]
        exact z n (Nat.le_refl _)
      omega
    · rw [if_neg e, sNat_one n (by omega), Nat.add_zero]
def woN (a : AW) (c : Nat) : Nat := (aWo a c).toNatClampNeg
theorem woN_at (ho : okA a) {c : Nat} (hc : c < 12) : woN a c ≤ 99 ∧ aWo a c = nI (woN a c) := by
  obtain ⟨w, hw, e⟩ := ho.2.2.2.2.2.1 c hc
  unfold woN
  rw [e, nI_clamp (by omega)]
  exact ⟨hw, rfl⟩
theorem smM_N (ho : okA a) (m : Int32) : smM (aWo a) m 12 = nI (sNat (fun c => if bt m c = true then woN a c else 0) 12) := by
  rw [← sNat_I]
  unfold smM
  refine sumN_congr 12 (fun c hc => ?_)
  show _ = nI (if bt m c = true then woN a c else 0)
  cases e : bt m c with
  | false => rw [if_pos ((and_bit m (by omega)).mpr e)]; rfl
  | true =>
    rw [if_neg (fun z => by rw [(and_bit m (by omega)).mp z] at e; cases e), if_pos rfl]
    exact (woN_at ho hc).2
theorem abF_diff {T R : Nat} (hT : T ≤ 2000) (hR : R ≤ 2000) : abF (nI T - nI R) = abF (nI R - nI T) ∧ abF (nI T - nI R) < 1000000 := by
  have key : ∀ x y : Nat, x ≤ y → y ≤ 2000 → abF (nI y - nI x) = nI (y - x) ∧ abF (nI x - nI y) = nI (y - x) := by
    intro x y h1 h2
    have e1 : nI y - nI x = nI (y - x) := by
      rw [show y = (y - x) + x by omega, ← nI_add, Int32.add_sub_cancel, show y - x + x - x = y - x by omega]
    have e2 : (0 : Int32) - (nI x - nI y) = nI (y - x) := by rw [← e1, Int32.zero_sub, Int32.neg_sub]
    have h0 : (0 : Int32) ≤ nI (y - x) := nI_leq (i := 0) (by omega) (by omega)
    refine ⟨by rw [e1]; exact if_pos h0, ?_⟩
    unfold abF
    by_cases q : 0 ≤ nI x - nI y
    · rw [if_pos q]
      have e3 : nI x - nI y = 0 - nI (y - x) := by rw [← e2]; rw [Int32.zero_sub, Int32.zero_sub, Int32.neg_neg]
      rcases Nat.eq_zero_or_pos (y - x) with z | z
      · rw [e3, z]; rfl
      · exfalso
        have : ∀ k, k < 2001 → 0 < k → ¬ (0 : Int32) ≤ 0 - nI k := by decide +kernel
        rw [e3] at q
        exact this _ (by omega) z q
    · rw [if_neg q, e2]
  rcases Nat.le_total T R with z | z
  · obtain ⟨k1, k2⟩ := key T R z hR
    rw [k1, k2]
    exact ⟨rfl, nI_lt (b := 1000000) (by omega) (by decide)⟩
  · obtain ⟨k1, k2⟩ := key R T z hT
    rw [k1, k2]
    exact ⟨rfl, nI_lt (b := 1000000) (by omega) (by decide)⟩
theorem al_share (ho : okA a) (h : eqA 7 b a) (p o : Int32) {x : Int32} (hx : inW x 1) : shC b p o x = shM a p o x := by
  obtain ⟨O, hO, eO⟩ := mon_lt a p
  obtain ⟨T, hT, eT⟩ := mon_lt a o
  have hw : ∀ c, c < 12 → aWo b c = aWo a c := fun c hc => (h.2.2 c hc).1
  have hM : O ||| T < 4096 := Nat.or_lt_two_pow (n := 12) hO hT
  have eA : monA a p ||| monA a o = nI (O ||| T) := by rw [eO, eT, nI_or]
  have eB : allA b p o = nI (O ||| T) := by unfold allA; rw [monA_al h, monA_al h, eA]
  generalize O ||| T = M at hM eA eB
  have hc : ∀ t, t ≤ M → (shS (nI M) t = true ↔ sbN t M) := by
    intro t ht
    unfold shS
    rw [decide_eq_true_eq, sb_int (by omega) (by omega)]
  have hsum : ∀ t, t ≤ M → sbN t M → ∃ X Y, X ≤ 2000 ∧ Y ≤ 2000 ∧ smM (aWo a) (nI t) 12 = nI X ∧ smM (aWo a) (nI M &&& (nI t ^^^ -1)) 12 = nI Y ∧ smM (aWo a) (nI M) 12 = nI (X + Y) := by
    intro t ht hs
    refine ⟨_, _, ?_, ?_, smM_N ho _, smM_N ho _, ?_⟩
    · exact Nat.le_trans (sNat_le (B := 99) 12 (fun c hc => by split; exact (woN_at ho hc).1; exact Nat.zero_le _)) (by decide)
    · exact Nat.le_trans (sNat_le (B := 99) 12 (fun c hc => by split; exact (woN_at ho hc).1; exact Nat.zero_le _)) (by decide)
    · rw [smM_N ho, ← sNat_add]
      refine congrArg nI (sNat_congr 12 (fun c hc => ?_))
      rw [b_and, b_xor, b_m1 c (by omega), bt_nI (by omega), bt_nI (by omega)]
      have hb : t.testBit c = true → M.testBit c = true := fun z => by
        have hs : t &&& M = t := hs
        rw [← hs, Nat.testBit_and] at z
        cases e : M.testBit c with
        | true => rfl
        | false => rw [e, Bool.and_false] at z; cases z
      cases e1 : M.testBit c with
      | true => cases e2 : t.testBit c <;> simp
      | false =>
        cases e2 : t.testBit c with
        | true => rw [hb e2] at e1; cases e1
        | false => simp
  have hself : sbN M M := Nat.and_self M
  have hf : ∀ t, t ≤ M → sbN t M → shV (aWo a) (cNf (aF a)) (nI M) t = apF (vlF (nI M) 0 (aWo b)) (nI M) (nI t) := by
    intro t ht hs
    obtain ⟨X, Y, hX, hY, e1, e2, e3⟩ := hsum t ht hs
    unfold shV apF
    rw [smM_12 (cN12 _) (wo_hi ho), smM_12 (cN12 _) (wo_hi ho), nI_clamp (by omega), nI_clamp (by omega), bs_own hself hw, bs_own hs hw, e1, e2, e3]
    have e4 : nI (X + Y) - 2 * nI X = nI Y - nI X := by
      have q : (2 : Int32) * nI X = nI (X + X) := by
        have := nI_mul 2 X
        rw [show 2 * X = X + X by omega] at this
        exact this
      rw [q, ← nI_add, ← nI_add, Int32.add_comm (nI X) (nI Y), ← Int32.sub_sub, Int32.add_sub_cancel]
    rw [e4, (abF_diff hX hY).1]
    rfl
  have hB : shV (aWo a) (cNf (aF a)) (nI M) 0 < 1000000 := by
    obtain ⟨X, Y, hX, hY, e1, e2, e3⟩ := hsum 0 (by omega) (sb_0 M)
    unfold shV
    rw [smM_12 (cN12 _) (wo_hi ho), smM_12 (cN12 _) (wo_hi ho), e1, e2]
    exact (abF_diff hX hY).2
  obtain ⟨r1, r2⟩ := fr_all hM hc hf hB
  unfold shC shM shR
  rw [eB, eA, nI_clamp (by omega), r2, r1]
  obtain ⟨y, hy2, ey⟩ := nI_of2 (x := x) (n := 1) (M := 1) rfl (fun z => absurd hx.1 (Int32.not_le.mpr z)) hx.2
  rcases Nat.eq_zero_or_pos y with z | z
  · have : x = 0 := by rw [ey, z]; rfl
    rw [this, if_neg (by decide), if_pos rfl]
  · have : x = 1 := by rw [ey, show y = 1 by omega]; rfl
    rw [this, if_pos rfl, if_neg (by decide)]
end AlikeD
