/-! THE REFERENCE: which value a word is -/
def jsM (s i : Nat) : Nat := if i < 4 then 8 + i else if s = 0 then 12 else 13 + (i - 4)
def nmM (s : Nat) : Int32 := if s = 0 then 1 else 0
theorem whF5 (f : Nat → Bool) : whF f 5 0 = if f 0 = true then nI 0 else if f 1 = true then nI 1 else if f 2 = true then nI 2 else if f 3 = true then nI 3 else if f 4 = true then nI 4 else -1 := rfl
theorem whF6 (f : Nat → Bool) : whF f 6 0 = if f 0 = true then nI 0 else if f 1 = true then nI 1 else if f 2 = true then nI 2 else if f 3 = true then nI 3 else if f 4 = true then nI 4 else if f 5 = true then nI 5 else -1 := rfl
abbrev wvP (w v : Int32) : Prop := (w = -1 ∧ v = -1) ∨ (¬ w = -1 ∧ ¬ v = -1 ∧ -1 - w = trC v)
theorem wv0 : ∀ a b c e f : Bool, wvP (if a = true then nI 0 else if b = true then nI 1 else if c = true then nI 2 else if e = true then nI 3 else if f = true then nI 4 else -1) (if a = true then 0 else if b = true then 1 else if c = true then 2 else if e = true then 3 else if f = true then 4 else -1) := by decide
theorem wv1 : ∀ a b c e f g : Bool, wvP (if a = true then nI 0 else if b = true then nI 1 else if c = true then nI 2 else if e = true then nI 3 else if f = true then nI 4 else if g = true then nI 5 else -1) (if a = true then 0 else if b = true then 1 else if c = true then 2 else if e = true then 3 else if f = true then 5 else if g = true then 6 else -1) := by decide
theorem wh_val {B : Nat → Int32} {N p s : Nat} (hs : s = 0 ∨ s = 1) : wvP (whF (fun i => wdB B N p (jsM s i)) (5 + s) 0) (valO B N (nmM s) p) := by
  rcases hs with rfl | rfl
  · unfold valO
    rw [if_neg (show ¬ nmM 0 = 0 by decide), whF5]
    exact wv0 (wdB B N p 8) (wdB B N p 9) (wdB B N p 10) (wdB B N p 11) (wdB B N p 12)
  · unfold valO
    rw [if_pos (show nmM 1 = 0 by decide), whF6]
    exact wv1 (wdB B N p 8) (wdB B N p 9) (wdB B N p 10) (wdB B N p 11) (wdB B N p 13) (wdB B N p 14)
theorem tr_num {x : Nat} (h : x ≤ 9999) : nI x = trC (100 + nI x) := by
  have e : (100 : Int32) + nI x = nI (100 + x) := nI_add 100 x
  unfold trC
  rw [e, if_pos (show (100 : Int32) ≤ nI (100 + x) from nI_leq (i := 100) (by omega) (by omega)), Nat.add_comm, ← nI_add]
  exact (Int32.add_sub_cancel _ _).symm
theorem jsM_at {s : Nat} (hs : s = 0 ∨ s = 1) : ∃ q, lay[54 + s]? = some (4, 5 + s, q) ∧ ∀ i, i < 5 + s → jsM s i < 28 ∧ q[i]? = some (1000 + jsM s i) := by
  rcases hs with rfl | rfl
  · exact ⟨[1008, 1009, 1010, 1011, 1012], rfl, by decide⟩
  · exact ⟨[1008, 1009, 1010, 1011, 1013, 1014], rfl, by decide⟩
