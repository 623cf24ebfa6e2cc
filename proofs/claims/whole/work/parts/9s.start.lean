/-! THE START: what every cell holds, and that both sides are alike there -/
def z0 : Nat → Int32 := fun _ => 0
def d0 : DS := fun c =>
  if c = 10 ∨ c = 12 ∨ c = 22 ∨ c = 24 ∨ c = 29 ∨ c = 31 ∨ c = 69 ∨ c = 71 then (fun _ => -1)
  else if c = 7 ∨ c = 19 ∨ c = 26 then upd z0 3 4
  else if c = 0 then upd z0 13 (-1)
  else if c = 42 then upd z0 6 (-1)
  else if c = 49 then upd (upd z0 5 1) 6 1
  else if c = 52 then upd (upd z0 26 (-1)) 3 54
  else if c = 56 then upd z0 2 4
  else z0
theorem JI0 : JI d0 := by
  have hz : (0 : Int32) = nI 0 := rfl
  have p0 : pNf (d0 7) = 0 := by decide +kernel
  have m0 : pNf (mF d0 (d0 7 4)) = 0 := by decide +kernel
  have mc0 : cNf (mF d0 (d0 7 4)) = 0 := by decide +kernel
  refine ⟨([], []), 0, 0, 0, ⟨⟨0, 0, rfl, rfl, by decide, rfl, rfl, by decide, fun i x h => by simp at h, fun i x h => by simp at h⟩, ⟨Or.inl rfl, Or.inl rfl, fun c h => (by cases h), fun c h => (by cases h)⟩, ⟨by decide +kernel, by decide +kernel⟩, ⟨rfl, rfl⟩, ⟨by decide, rfl, fun i h => absurd h (by omega)⟩, by decide, rfl⟩, ⟨⟨by decide +kernel, fun p h => absurd h (by rw [show aF (nowW d0) = d0 7 from rfl, p0]; omega), by decide +kernel⟩, ?_, ?_, fun p h => absurd h (by rw [p0]; omega)⟩, ⟨rfl, rfl, fun i h => absurd h (by omega), fun k h => absurd h (by omega), by decide +kernel⟩, ⟨by decide, rfl, rfl, fun i => by show (0 : Int32) = 0 &&& 255; decide, rfl⟩, Or.inl ⟨rfl, rfl⟩⟩
  · refine ⟨⟨by decide +kernel, by decide +kernel⟩, ⟨4, by decide, by decide, rfl⟩, fun c h => absurd h (by rw [show aF (mW d0 (d0 7 4)) = mF d0 (d0 7 4) from rfl, mc0]; omega), fun c _ h => ?_, fun p h => absurd h (by rw [show aF (mW d0 (d0 7 4)) = mF d0 (d0 7 4) from rfl, m0]; omega), fun c h => ⟨0, by decide, rfl⟩, ⟨0, by decide, rfl⟩, ⟨0, by decide, rfl⟩⟩
    refine ⟨rfl, rfl, ?_, ?_⟩
    · show (0 : Int32) &&& bit c = 0
      exact Int32.zero_and
    · show (0 : Int32) &&& bit c = 0
      exact Int32.zero_and
  · exact ⟨rfl, rfl, rfl, rfl, fun p h => absurd h (by rw [m0]; omega), fun i x h => by simp at h, fun i x h => by simp at h, by decide, by decide⟩
