/-! ROWS BEYOND THEIR LENGTH DON'T COUNT -/
theorem arrV_congr (c : ClassId) {N : Nat} {f g : Nat → Value} (h : ∀ j, j < N → f j = g j) : arrV c N f = arrV c N g := by
  unfold arrV
  have e : (fun j : Fin N => f j.val) = (fun j : Fin N => g j.val) := by
    funext j
    exact h j.val j.isLt
  rw [e]
/-- alike where the cells have places -/
def inb (d d' : DS) : Prop := ∀ (c : Nat) (q : Nat × Nat × List Nat), lay[c]? = some q → (q.1 = 0 → ∀ i, i < q.2.2.length → q.2.2.getD i 0 < 2 → d c i = d' c i) ∧ (q.1 ≠ 0 → ∀ i, i < q.2.1 → d c i = d' c i)
theorem wld_in {g : GG} {ad : Nat → Nat} {d d' : DS} {H : Heap} (h : inb d d') (hP : va_P g.1 vwCl (wld g ad d) H) : va_P g.1 vwCl (wld g ad d') H := by
  intro k q hq
  cases hl : lay[k]? with
  | none => rw [wld_out hl] at hq; cases hq
  | some z =>
    rw [wld_at hl] at hq
    cases hq
    have hz := hP k _ (wld_at hl)
    obtain ⟨h1, h2⟩ := h k z hl
    unfold ent at hz ⊢
    by_cases q0 : z.1 = 0
    · rw [if_pos q0] at hz ⊢
      have e : fls ad d k z.2.2 = fls ad d' k z.2.2 := by
        unfold fls
        apply List.map_congr_left
        intro i hi
        have hi : i < z.2.2.length := List.mem_range.mp hi
        unfold slv
        by_cases c2 : z.2.2.getD i 0 < 2
        · rw [h1 q0 i hi c2]
        · rw [if_neg (by omega), if_neg (by omega), if_neg (by omega), if_neg (by omega)]
      rw [← e]
      exact hz
    · rw [if_neg q0] at hz ⊢
      have h3 := h2 q0
      by_cases q1 : z.1 = 1
      · rw [if_pos q1] at hz ⊢
        show H[ad k]? = some (arrV g.2.1 z.2.1 (fun j => .int (d' k j)))
        rw [← arrV_congr g.2.1 (f := fun j => .int (d k j)) (fun j hj => by show Value.int _ = Value.int _; rw [h3 j hj])]
        exact hz
      · rw [if_neg q1] at hz ⊢
        by_cases q2 : z.1 = 2
        · rw [if_pos q2] at hz ⊢
          show H[ad k]? = some (arrV g.2.2.1 z.2.1 (fun j => .int (d' k j)))
          rw [← arrV_congr g.2.2.1 (f := fun j => .int (d k j)) (fun j hj => by show Value.int _ = Value.int _; rw [h3 j hj])]
          exact hz
        · rw [if_neg q2] at hz ⊢
          by_cases q4 : z.1 = 3
          · rw [if_pos q4] at hz ⊢
            show H[ad k]? = some (arrV g.2.2.2.1 z.2.1 (fun j => .long (d' k j).toInt64))
            rw [← arrV_congr g.2.2.2.1 (f := fun j => .long (d k j).toInt64) (fun j hj => by show Value.long _ = Value.long _; rw [h3 j hj])]
            exact hz
          · rw [if_neg q4] at hz ⊢
            exact hz
theorem CM.norm {l : Launch} {me : ME} {n k : Nat} {as : List Value} {d : DS} {Q Q' : Option Value → DS → Prop} {X X' : String → DS → Prop} (h : CM l me n k as d Q X) (hQ : ∀ v d, Q v d → ∃ d', inb d d' ∧ Q' v d') (hX : ∀ E d, X E d → X' E d) : CM l me n k as d Q' X' := by
  intro g ad sz p e ha hc hk s m args below hf happ hP hK
  obtain ⟨n, o, h1, h2, h3, h4⟩ := h g ad sz p e ha hc hk s m args below hf happ hP hK
  refine ⟨n, o, h1, h2, h3, ?_⟩
  rcases h4 with ⟨⟨⟨v, d', e1, q1, q2⟩, hF⟩, hL⟩ | ⟨q, e1, E, ce, L, ⟨⟨d', x1, x2⟩, hF⟩, hr⟩
  · obtain ⟨d2, i2, q3⟩ := hQ v d' q1
    exact Or.inl ⟨⟨⟨v, d2, e1, q3, wld_in i2 q2⟩, hF⟩, hL⟩
  · exact Or.inr ⟨q, e1, E, ce, L, ⟨⟨d', hX E d' x1, x2⟩, hF⟩, hr⟩
theorem inb_refl (d : DS) : inb d d := fun _ _ _ => ⟨fun _ _ _ _ => rfl, fun _ _ _ => rfl⟩
/-- alike but for one world -/
theorem inb_w {d : DS} {w : Nat} (hw : isW w) {f ne so pa wo ho we f' ne' so' pa' wo' ho' we' : Nat → Int32} (h0 : ∀ i, i < 8 → f i = f' i) (h1 : ∀ i, i < 8 → ne i = ne' i) (h2 : ∀ i, i < 8 → so i = so' i) (h3 : ∀ i, i < 8 → pa i = pa' i) (h4 : ∀ i, i < 12 → wo i = wo' i) (h5 : ∀ i, i < 12 → ho i = ho' i) (h6 : ∀ i, i < 8 → we i = we' i) :
    inb (setW d w f ne so pa wo ho we) (setW d w f' ne' so' pa' wo' ho' we') := by
  intro c q hq
  by_cases hc : c < w ∨ w + 6 < c
  · refine ⟨fun _ i _ _ => ?_, fun _ i _ => ?_⟩ <;> rw [setW_out _ _ _ _ _ _ _ _ _ hc, setW_out _ _ _ _ _ _ _ _ _ hc]
  · have key : ∀ (n : Nat) (row row' : Nat → Int32), lay[c]? = some (1, n, []) → setW d w f ne so pa wo ho we c = row → setW d w f' ne' so' pa' wo' ho' we' c = row' → (∀ i, i < n → row i = row' i) → (q.1 = 0 → ∀ i, i < q.2.2.length → q.2.2.getD i 0 < 2 → setW d w f ne so pa wo ho we c i = setW d w f' ne' so' pa' wo' ho' we' c i) ∧ (q.1 ≠ 0 → ∀ i, i < q.2.1 → setW d w f ne so pa wo ho we c i = setW d w f' ne' so' pa' wo' ho' we' c i) := by
      intro n row row' hn e1 e2 e3
      rw [hn] at hq
      cases hq
      refine ⟨fun h => absurd (show (1 : Nat) = 0 from h) (by decide), fun _ i hi => ?_⟩
      rw [e1, e2]
      exact e3 i hi
    rcases (show c = w ∨ c = w + 1 ∨ c = w + 2 ∨ c = w + 3 ∨ c = w + 4 ∨ c = w + 5 ∨ c = w + 6 by omega) with rfl | rfl | rfl | rfl | rfl | rfl | rfl
    · rw [hw.1] at hq
      cases hq
      refine ⟨fun _ i hi h2 => ?_, fun h => absurd rfl h⟩
      rw [setW_0, setW_0]
      by_cases i8 : i < 8
      · exact h0 i i8
      · exfalso
        have hi : i < 14 := hi
        match i, hi, i8, h2 with
        | 8, _, _, h2 => simp at h2; omega
        | 9, _, _, h2 => simp at h2; omega
        | 10, _, _, h2 => simp at h2; omega
        | 11, _, _, h2 => simp at h2; omega
        | 12, _, _, h2 => simp at h2; omega
        | 13, _, _, h2 => simp at h2; omega
    · exact key 8 _ _ hw.2.1 (setW_1 _ _ _ _ _ _ _ _ _) (setW_1 _ _ _ _ _ _ _ _ _) h1
    · exact key 8 _ _ hw.2.2.1 (setW_2 _ _ _ _ _ _ _ _ _) (setW_2 _ _ _ _ _ _ _ _ _) h2
    · exact key 8 _ _ hw.2.2.2.1 (setW_3 _ _ _ _ _ _ _ _ _) (setW_3 _ _ _ _ _ _ _ _ _) h3
    · exact key 12 _ _ hw.2.2.2.2.1 (setW_4 _ _ _ _ _ _ _ _ _) (setW_4 _ _ _ _ _ _ _ _ _) h4
    · exact key 12 _ _ hw.2.2.2.2.2.1 (setW_5 _ _ _ _ _ _ _ _ _) (setW_5 _ _ _ _ _ _ _ _ _) h5
    · exact key 8 _ _ hw.2.2.2.2.2.2 (setW_6 _ _ _ _ _ _ _ _ _) (setW_6 _ _ _ _ _ _ _ _ _) h6
