/-! SETS GONE THROUGH: the next subset of a set -/
theorem land_half (x y : Nat) : (x &&& y) / 2 = x / 2 &&& y / 2 := by
  apply Nat.eq_of_testBit_eq
  intro i
  rw [Nat.testBit_and, show (2 : Nat) = 2 ^ 1 from rfl, Nat.testBit_div_two_pow, Nat.testBit_div_two_pow, Nat.testBit_div_two_pow, Nat.testBit_and]
theorem land_odd (x y : Nat) : (x &&& y) % 2 = 1 ↔ (x % 2 = 1 ∧ y % 2 = 1) := by
  have h : (x &&& y).testBit 0 = (x.testBit 0 && y.testBit 0) := Nat.testBit_and x y 0
  rw [Nat.testBit_zero, Nat.testBit_zero, Nat.testBit_zero] at h
  by_cases a : x % 2 = 1 <;> by_cases b : y % 2 = 1 <;> simp [a, b] at h ⊢ <;> omega
def sbN (t M : Nat) : Prop := t &&& M = t
theorem sbN_half {t M : Nat} (h : sbN t M) : sbN (t / 2) (M / 2) ∧ (t % 2 = 1 → M % 2 = 1) := by
  unfold sbN at h ⊢
  refine ⟨by rw [← land_half, h], fun z => ?_⟩
  have := land_odd t M
  rw [h] at this
  exact (this.mp z).2
theorem sbN_le {t M : Nat} (h : sbN t M) : t ≤ M := by unfold sbN at h; rw [← h]; exact Nat.and_le_right
theorem sbN_mk {t M : Nat} (h : sbN (t / 2) (M / 2)) (h1 : t % 2 = 1 → M % 2 = 1) : sbN t M := by
  unfold sbN at h ⊢
  have a := land_half t M
  have b := land_odd t M
  rw [h] at a
  by_cases z : t % 2 = 1
  · have := b.mpr ⟨z, h1 z⟩; omega
  · have : ¬ (t &&& M) % 2 = 1 := fun w => z (b.mp w).1
    omega
/-- what isn't in M less t, of M, is t -/
theorem com_sb : ∀ k M t, M < 2 ^ k → sbN t M → (2 ^ k - 1 - (M - t)) &&& M = t
  | 0, M, t, hM, h => by
    have := sbN_le h
    rw [show t = 0 by omega, show M = 0 by omega]; rfl
  | k + 1, M, t, hM, h => by
    obtain ⟨h1, h2⟩ := sbN_half h
    have hl := sbN_le h
    have hl2 := sbN_le h1
    rw [Nat.pow_succ] at hM ⊢
    have ih := com_sb k (M / 2) (t / 2) (by omega) h1
    generalize 2 ^ k = q at hM ih ⊢
    have e1 : (q * 2 - 1 - (M - t)) / 2 = q - 1 - (M / 2 - t / 2) := by
      rcases Nat.mod_two_eq_zero_or_one M with a | a <;> rcases Nat.mod_two_eq_zero_or_one t with b | b <;> omega
    have e2 : (q * 2 - 1 - (M - t)) % 2 = 1 ↔ M % 2 = t % 2 := by
      rcases Nat.mod_two_eq_zero_or_one M with a | a <;> rcases Nat.mod_two_eq_zero_or_one t with b | b <;> omega
    have a := land_half (q * 2 - 1 - (M - t)) M
    have b := land_odd (q * 2 - 1 - (M - t)) M
    rw [e1, ih] at a
    rw [e2] at b
    generalize q * 2 - 1 - (M - t) &&& M = r at a b ⊢
    by_cases z : t % 2 = 1
    · have := b.mpr ⟨by have := h2 z; omega, h2 z⟩
      omega
    · have : ¬ r % 2 = 1 := fun w => by have := b.mp w; omega
      omega
theorem next_sb : ∀ k M t, M < 2 ^ k → sbN t M → t < M → t < (2 ^ k + t - M) &&& M ∧ sbN ((2 ^ k + t - M) &&& M) M ∧ ∀ z, sbN z M → t < z → (2 ^ k + t - M) &&& M ≤ z
  | 0, M, t, hM, h, hlt => absurd hlt (by omega)
  | k + 1, M, t, hM, h, hlt => by
    obtain ⟨h1, h2⟩ := sbN_half h
    have hl2 := sbN_le h1
    rw [Nat.pow_succ] at hM ⊢
    have cm := com_sb k (M / 2) (t / 2) (by omega) h1
    have ih := next_sb k (M / 2) (t / 2) (by omega) h1
    generalize 2 ^ k = q at hM ih cm ⊢
    have a := land_half (q * 2 + t - M) M
    have b := land_odd (q * 2 + t - M) M
    have hsb : sbN (q * 2 + t - M &&& M) M := by
      unfold sbN
      rw [Nat.and_assoc, Nat.and_self]
    refine ⟨?_, hsb, ?_⟩
    · by_cases z : M % 2 = t % 2
      · have e1 : (q * 2 + t - M) / 2 = q + t / 2 - M / 2 := by omega
        rw [e1] at a
        have := (ih (by omega)).1
        omega
      · have e1 : (q * 2 + t - M) / 2 = q - 1 - (M / 2 - t / 2) := by omega
        rw [e1, cm] at a
        have := b.mpr ⟨by omega, by omega⟩
        omega
    · intro w hw hwt
      obtain ⟨w1, w2⟩ := sbN_half hw
      by_cases z : M % 2 = t % 2
      · have e1 : (q * 2 + t - M) / 2 = q + t / 2 - M / 2 := by omega
        rw [e1] at a
        have i2 := (ih (by omega)).2.2 (w / 2) w1
        have par : ¬ (q * 2 + t - M &&& M) % 2 = 1 := fun y => by have := (b.mp y).1; omega
        have : t / 2 < w / 2 := by
          rcases Nat.mod_two_eq_zero_or_one w with y | y
          · omega
          · have := w2 y; omega
        have := i2 this
        omega
      · have e1 : (q * 2 + t - M) / 2 = q - 1 - (M / 2 - t / 2) := by omega
        rw [e1, cm] at a
        have := b.mpr ⟨by omega, by omega⟩
        have : t % 2 = 0 := by
          rcases Nat.mod_two_eq_zero_or_one t with y | y
          · exact y
          · have := h2 y; omega
        omega
def nxtS (M t : Nat) : Nat := (2 ^ 32 + t - M) &&& M
theorem nxtS_self {M : Nat} (h : M < 2 ^ 31) : nxtS M M = 0 := by
  unfold nxtS
  rw [show 2 ^ 32 + M - M = 2 ^ 32 by omega]
  apply Nat.eq_of_testBit_eq
  intro i
  rw [Nat.testBit_and, Nat.zero_testBit]
  by_cases z : i < 32
  · rw [Nat.testBit_two_pow_of_ne (by omega)]; rfl
  · rw [Nat.testBit_lt_two_pow (x := M) (Nat.lt_of_lt_of_le h (Nat.pow_le_pow_right (n := 2) (by decide) (by omega))), Bool.and_false]
theorem nI_wrap (t : Nat) : nI (2 ^ 32 + t) = nI t := by
  refine b_ext (fun i hi => ?_)
  show (BitVec.ofNat 32 (2 ^ 32 + t)).getLsbD i = (BitVec.ofNat 32 t).getLsbD i
  have e : BitVec.ofNat 32 (2 ^ 32 + t) = BitVec.ofNat 32 t := by
    apply BitVec.eq_of_toNat_eq
    rw [BitVec.toNat_ofNat, BitVec.toNat_ofNat, Nat.add_mod_left]
  rw [e]
theorem nxtS_I {M t : Nat} (h : t ≤ M) (hM : M < 2 ^ 31) : nI t - nI M &&& nI M = nI (nxtS M t) := by
  have e : nI t - nI M = nI (2 ^ 32 + t - M) := by
    rw [← nI_wrap t, show 2 ^ 32 + t = (2 ^ 32 + t - M) + M by omega, ← nI_add, Int32.add_sub_cancel, show 2 ^ 32 + t - M + M - M = 2 ^ 32 + t - M by omega]
  rw [e]
  refine b_ext (fun i hi => ?_)
  rw [b_and, bt_nI hi, bt_nI hi, bt_nI hi]
  unfold nxtS
  rw [Nat.testBit_and]
/-- the whole set of subsets, from the least up -/
noncomputable def foS {α : Type} (M : Nat) (st : α → Nat → α) (s0 : α) : Nat → α
  | 0 => s0
  | t + 1 => if t &&& M = t then st (foS M st s0 t) t else foS M st s0 t
def enS {α : Type} (M : Nat) (st : α → Nat → α) : Nat → α → Nat → α
  | 0, s, _ => s
  | k + 1, s, t => if nxtS M t = 0 then st s t else enS M st k (st s t) (nxtS M t)
theorem foS_gap {α : Type} {M : Nat} {st : α → Nat → α} {s0 : α} {m : Nat} : ∀ k, (∀ z, m ≤ z → z < m + k → ¬ sbN z M) → foS M st s0 (m + k) = foS M st s0 m
  | 0, _ => rfl
  | k + 1, h => by
    show (if (m + k) &&& M = m + k then st (foS M st s0 (m + k)) (m + k) else foS M st s0 (m + k)) = _
    rw [if_neg (show ¬ (m + k) &&& M = m + k from h (m + k) (by omega) (by omega)), foS_gap k (fun z h1 h2 => h z h1 (by omega))]
theorem enS_eq {α : Type} {M : Nat} {st : α → Nat → α} {s0 : α} (hM : M < 2 ^ 31) : ∀ k t, sbN t M → M < t + k → enS M st k (foS M st s0 t) t = foS M st s0 (M + 1)
  | 0, t, h, hk => absurd (sbN_le h) (by omega)
  | k + 1, t, h, hk => by
    have e1 : foS M st s0 (t + 1) = st (foS M st s0 t) t := if_pos h
    have hl := sbN_le h
    unfold enS
    rw [← e1]
    by_cases z : t = M
    · subst z
      rw [nxtS_self hM, if_pos rfl]
    · obtain ⟨n1, n2, n3⟩ := next_sb 32 M t (by omega) h (by omega)
      have n1 : t < nxtS M t := n1
      rw [if_neg (by omega)]
      have e2 : foS M st s0 (nxtS M t) = foS M st s0 (t + 1) := by
        have := foS_gap (st := st) (s0 := s0) (M := M) (m := t + 1) (nxtS M t - (t + 1)) (fun z h1 h2 hz => by have := n3 z hz (by omega); unfold nxtS at h2; omega)
        rw [show t + 1 + (nxtS M t - (t + 1)) = nxtS M t by omega] at this
        exact this
      rw [← e2]
      exact enS_eq hM k (nxtS M t) n2 (by omega)
theorem sb_int {M t : Nat} (hM : M < 2 ^ 31) (ht : t < 2 ^ 31) : nI t &&& (nI M ^^^ -1) = 0 ↔ sbN t M := by
  rw [and0]
  unfold sbN
  refine ⟨fun h => ?_, fun h i hi a b => ?_⟩
  · apply Nat.eq_of_testBit_eq
    intro i
    rw [Nat.testBit_and]
    rcases Nat.lt_or_ge i 32 with hi | hi
    · cases e : t.testBit i with
      | false => rfl
      | true =>
        have := h i hi (by rw [bt_nI hi]; exact e)
        rw [b_xor, b_m1 i hi, bt_nI hi] at this
        cases e2 : M.testBit i with
        | true => rfl
        | false => rw [e2] at this; exact absurd rfl this
    · rw [Nat.testBit_lt_two_pow (x := t) (Nat.lt_of_lt_of_le ht (Nat.pow_le_pow_right (n := 2) (by decide) (by omega)))]; rfl
  · rw [bt_nI hi] at a
    rw [b_xor, b_m1 i hi, bt_nI hi] at b
    rw [← h, Nat.testBit_and] at a
    cases e2 : M.testBit i with
    | true => rw [e2] at b; exact absurd b (by decide)
    | false => rw [e2, Bool.and_false] at a; cases a
/-! the class's three loops over the sets -/
theorem sb_0 (M : Nat) : sbN 0 M := Nat.zero_and M
section Loops
variable {v : Nat → Int32} {M : Nat} {sum : Int32}
theorem fwF_en (hM : M < 4096) : ∀ k best t, sbN t M → fwF v (nI M) sum k best (nI t) = enS M (fun b t => fwB v sum b (nI t)) k best t
  | 0, _, _, _ => rfl
  | k + 1, best, t, h => by
    have hl := sbN_le h
    unfold fwF enS
    rw [nxtS_I hl (by omega)]
    by_cases z : nxtS M t = 0
    · rw [if_pos (by rw [z]; rfl), if_pos z]
    · have hn : nxtS M t ≤ M := Nat.and_le_right
      rw [if_neg (show ¬ nI (nxtS M t) = 0 from fun w => z ((nI_eq (b := 0) (by omega) (by decide)).mp w)), if_neg z]
      exact fwF_en hM k _ _ (by unfold sbN nxtS; rw [Nat.and_assoc, Nat.and_self])
theorem csF_en (hM : M < 4096) : ∀ k r t, sbN t M → csF v (nI M) sum k r (nI t) = enS M (fun r t => if bsN v t 12 = sum then r + 1 else r) k r t
  | 0, _, _, _ => rfl
  | k + 1, r, t, h => by
    have hl := sbN_le h
    unfold csF enS
    rw [nxtS_I hl (by omega), nI_clamp (by omega)]
    by_cases z : nxtS M t = 0
    · rw [if_pos (by rw [z]; rfl), if_pos z]
    · have hn : nxtS M t ≤ M := Nat.and_le_right
      rw [if_neg (show ¬ nI (nxtS M t) = 0 from fun w => z ((nI_eq (b := 0) (by omega) (by decide)).mp w)), if_neg z]
      exact csF_en hM k _ _ (by unfold sbN nxtS; rw [Nat.and_assoc, Nat.and_self])
theorem frF_en (hM : M < 4096) : ∀ k best t, sbN t M → frF v (nI M) k best (nI t) = enS M (fun b t => frB v (nI M) b (nI t)) k best t
  | 0, _, _, _ => rfl
  | k + 1, best, t, h => by
    have hl := sbN_le h
    unfold frF enS
    rw [nxtS_I hl (by omega)]
    by_cases z : nxtS M t = 0
    · rw [if_pos (by rw [z]; rfl), if_pos z]
    · have hn : nxtS M t ≤ M := Nat.and_le_right
      rw [if_neg (show ¬ nI (nxtS M t) = 0 from fun w => z ((nI_eq (b := 0) (by omega) (by decide)).mp w)), if_neg z]
      exact frF_en hM k _ _ (by unfold sbN nxtS; rw [Nat.and_assoc, Nat.and_self])
/-- the fewest, and how many, by the reference's count -/
theorem bf_fw {c : Nat → Bool} (hM : M < 4096) (hc : ∀ t, t ≤ M → (c t = true ↔ (sbN t M ∧ bsN v t 12 = sum))) : ∀ n, n ≤ M + 1 → (bfM c n).1 = foS M (fun b t => fwB v sum b (nI t)) (-1) n ∧ (bfM c n).2 = foS M (fun r t => if bsN v t 12 = sum then r + 1 else r) 0 n
  | 0, _ => ⟨rfl, rfl⟩
  | n + 1, hn => by
    obtain ⟨i1, i2⟩ := bf_fw hM hc n (by omega)
    have h := hc n (by omega)
    unfold bfM foS
    by_cases q : c n = true
    · obtain ⟨h1, h2⟩ := h.mp q
      have h1 : n &&& M = n := h1
      rw [if_pos q, if_pos h1, if_pos h1, if_pos h2, i1, i2]
      refine ⟨?_, rfl⟩
      generalize foS M (fun b t => fwB v sum b (nI t)) (-1) n = X
      show beB X (nI n) = fwB v sum X (nI n)
      unfold beB fwB
      rw [nI_clamp (by omega)]
      by_cases w : X = -1 ∨ bcF (nI n) < bcF X
      · rw [if_pos w, if_pos ⟨h2, w⟩]
      · rw [if_neg w, if_neg (fun x => w x.2)]
    · rw [if_neg q]
      by_cases s : n &&& M = n
      · have h2 : ¬ bsN v n 12 = sum := fun z => q (h.mpr ⟨s, z⟩)
        rw [if_pos s, if_pos s, if_neg h2, i1, i2]
        refine ⟨?_, rfl⟩
        generalize foS M (fun b t => fwB v sum b (nI t)) (-1) n = X
        show X = fwB v sum X (nI n)
        unfold fwB
        rw [nI_clamp (by omega), if_neg (fun x => h2 x.1)]
      · rw [if_neg s, if_neg s]; exact ⟨i1, i2⟩
theorem fw_bf {c : Nat → Bool} (hM : M < 4096) (hc : ∀ t, t ≤ M → (c t = true ↔ (sbN t M ∧ bsN v t 12 = sum))) : fwF v (nI M) sum 4096 (-1) 0 = (bfM c (M + 1)).1 ∧ csF v (nI M) sum 4096 0 0 = (bfM c (M + 1)).2 := by
  obtain ⟨h1, h2⟩ := bf_fw hM hc (M + 1) (Nat.le_refl _)
  rw [h1, h2]
  have e1 := fwF_en (v := v) (sum := sum) hM 4096 (-1) 0 (sb_0 M)
  have e2 := csF_en (v := v) (sum := sum) hM 4096 0 0 (sb_0 M)
  refine ⟨?_, ?_⟩
  · show fwF v (nI M) sum 4096 (-1) (nI 0) = _
    rw [e1]
    exact enS_eq (s0 := -1) (by omega) 4096 0 (sb_0 M) (by omega)
  · show csF v (nI M) sum 4096 0 (nI 0) = _
    rw [e2]
    exact enS_eq (s0 := 0) (by omega) 4096 0 (sb_0 M) (by omega)
/-- the fairest -/
theorem fr_sn {c : Nat → Bool} {f : Nat → Int32} {B : Int32} (hM : M < 4096) (hc : ∀ t, t ≤ M → (c t = true ↔ sbN t M)) (hf : ∀ t, t ≤ M → sbN t M → f t = apF v (nI M) (nI t)) (hB : f 0 < B) : ∀ n, n ≤ M → ∃ b, b ≤ M ∧ sbN b M ∧ snM B c f (n + 1) = (nI b, f b) ∧ foS M (fun b t => frB v (nI M) b (nI t)) 0 (n + 1) = nI b
  | 0, _ => by
    have c0 : c 0 = true := (hc 0 (by omega)).mpr (sb_0 M)
    refine ⟨0, by omega, sb_0 M, ?_, ?_⟩
    · unfold snM
      rw [if_pos ⟨c0, by exact hB⟩]
    · unfold foS
      rw [if_pos (show 0 &&& M = 0 from sb_0 M)]
      show frB v (nI M) 0 (nI 0) = nI 0
      unfold frB
      split <;> rfl
  | n + 1, hn => by
    obtain ⟨b, hb, hs, e1, e2⟩ := fr_sn hM hc hf hB n (by omega)
    have h := hc (n + 1) (by omega)
    unfold snM
    rw [e1]
    show ∃ b, _ ∧ _ ∧ _ ∧ (if (n + 1) &&& M = n + 1 then frB v (nI M) (foS M (fun b t => frB v (nI M) b (nI t)) 0 (n + 1)) (nI (n + 1)) else foS M (fun b t => frB v (nI M) b (nI t)) 0 (n + 1)) = nI b
    rw [e2]
    by_cases q : c (n + 1) = true
    · have s : sbN (n + 1) M := h.mp q
      rw [if_pos (show (n + 1) &&& M = n + 1 from s)]
      unfold frB
      rw [← hf (n + 1) (by omega) s, ← hf b hb hs]
      by_cases w : f (n + 1) < f b
      · exact ⟨n + 1, by omega, s, by rw [if_pos ⟨q, w⟩], by rw [if_pos w]⟩
      · exact ⟨b, hb, hs, by rw [if_neg (fun x => w x.2)], by rw [if_neg w]⟩
    · rw [if_neg (show ¬ (n + 1) &&& M = n + 1 from fun z => q (h.mpr z))]
      exact ⟨b, hb, hs, by rw [if_neg (fun x => q x.1)], rfl⟩
theorem fr_all {c : Nat → Bool} {f : Nat → Int32} {B : Int32} (hM : M < 4096) (hc : ∀ t, t ≤ M → (c t = true ↔ sbN t M)) (hf : ∀ t, t ≤ M → sbN t M → f t = apF v (nI M) (nI t)) (hB : f 0 < B) : frF v (nI M) 4096 0 0 = (snM B c f (M + 1)).1 ∧ apF v (nI M) (frF v (nI M) 4096 0 0) = (snM B c f (M + 1)).2 := by
  obtain ⟨b, hb, hs, e1, e2⟩ := fr_sn hM hc hf hB M (Nat.le_refl _)
  have e3 : frF v (nI M) 4096 0 0 = nI b := by
    rw [← e2]
    show frF v (nI M) 4096 0 (nI 0) = _
    rw [frF_en hM 4096 0 0 (sb_0 M)]
    exact enS_eq (s0 := 0) (by omega) 4096 0 (sb_0 M) (by omega)
  rw [e3, e1, hf b hb hs]
  exact ⟨rfl, rfl⟩
end Loops
