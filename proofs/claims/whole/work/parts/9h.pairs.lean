/-! EACH OPERATION AS A PAIR: the class's side (by its helper) leaves the reference's side a contract whose end the law's tests pass -/
theorem CH.mono {l : Launch} {me : ME} {hh : List (Nat × Nat × Nat × Nat)} {n k : Nat} {as : List Value} {d : DS} {Q Q' : Option Value → DS → Prop} (h : CH l me hh n k as d Q) (hQ : ∀ v d, Q v d → Q' v d) : CH l me hh n k as d Q' := by
  intro g ad sz p e ha hc hk s m args below hf happ hP hK
  obtain ⟨n, o, h1, h2, h3, h4⟩ := h g ad sz p e ha hc hk s m args below hf happ hP hK
  refine ⟨n, o, h1, h2, h3, ?_⟩
  rcases h4 with ⟨⟨⟨v, d', e1, q1, q2⟩, hF⟩, hL⟩ | ⟨q, e1, E, ce, L, ⟨⟨d', x1, x2⟩, hF⟩, hr⟩
  · exact Or.inl ⟨⟨⟨v, d', e1, hQ v d' q1, q2⟩, hF⟩, hL⟩
  · exact Or.inr ⟨q, e1, E, ce, L, ⟨⟨d', x1, x2⟩, hF⟩, hr⟩
def LQ (l : Launch) (n : Nat) (me : ME) (as : List Value) : Option Value → DS → Prop := fun v d1 => ∃ k, v = some (.int k) ∧ CM l me (n + 60) 0 (.ref 52 :: as) d1 (PQ k (d1 87 0) d1) NX
def DQ (l : Launch) (n : Nat) (me : ME) (as : List Value) : Option Value → DS → Prop := fun v d1 => ∃ z, v = some (.int z) ∧ CM l me (n + 60) 0 (.ref 52 :: as) d1 (PD z d1) NX
def EQ (l : Launch) (n : Nat) (me : ME) : Option Value → DS → Prop := fun v d1 => v = none ∧ CM l me (n + 60) 0 [.ref 52] d1 (fun v d2 => v = none ∧ JI d2 ∧ d2 87 = d1 87) NX
section Pairs
variable {l : Launch} {n S A F : Nat} {u : RU} {d d1 : DS} {v : Option Value}
theorem rk_pq {c1 c2 : Prop} {ans k z : Int32} (h1 : JC u S A F d1) {d2 : DS} (hr : RK c1 c2 ans d1 v d2) (hk : (c1 ∧ c2 ∧ k = 0 ∧ z = ans) ∨ (¬ c1 ∧ k = 1) ∨ (c1 ∧ ¬ c2 ∧ k = 2)) : PQ k z d1 v d2 := by
  obtain ⟨hj, h87, y, rfl, hr⟩ := hr
  refine ⟨y, rfl, ⟨u, S, A, F, h1.keep hj⟩, ?_, ?_, h87⟩
  · rcases hk with ⟨a, b, rfl, -⟩ | ⟨a, rfl⟩ | ⟨a, b, rfl⟩
    · rcases hr with ⟨-, -, e, -⟩ | ⟨x, -⟩ | ⟨-, x, -⟩
      · exact e
      · exact absurd a x
      · exact absurd b x
    · rcases hr with ⟨x, -⟩ | ⟨-, e⟩ | ⟨x, -⟩
      · exact absurd x a
      · exact e
      · exact absurd x a
    · rcases hr with ⟨-, x, -⟩ | ⟨x, -⟩ | ⟨-, -, e⟩
      · exact absurd x b
      · exact absurd a x
      · exact e
  · intro k0
    rcases hk with ⟨a, b, -, e⟩ | ⟨a, rfl⟩ | ⟨a, b, rfl⟩
    · rcases hr with ⟨-, -, -, e2⟩ | ⟨x, -⟩ | ⟨-, x, -⟩
      · rw [e, e2]
      · exact absurd a x
      · exact absurd b x
    · exact absurd k0 (by decide)
    · exact absurd k0 (by decide)
theorem lq_ask {c1 c2 : Prop} {ans : Int32} {kE : String → Int32} {me : ME} {as : List Value} (h : JC u S A F d) (hp : hpQ kE (QK c1 c2 ans d) (XK c1 c2 d) v d1) (hk0 : kE (exn 0) = 1) (hk1 : ¬ c2 → kE (exn 1) = 2) (hR : ∀ d1, JC u S A F d1 → (∀ c, 52 ≤ c → c ≠ 87 → d1 c = d c) → CM l me (n + 60) 0 (.ref 52 :: as) d1 (RK c1 c2 ans d1) NX) : LQ l n me as v d1 := by
  rcases hp with ⟨x, dC, ⟨q1, q2, q3, q4⟩, rfl, rfl⟩ | ⟨E, ⟨rfl, hx⟩, rfl⟩
  · cases q3
    have hj : jf d (dset dC 87 0 ans) := (jf.qf q4).out 0 ans
    refine ⟨0, rfl, (hR _ (h.keep hj) (fun c h5 h8 => ?_)).mono (fun v d2 hr => rk_pq (h.keep hj) hr (Or.inl ⟨q1, q2, rfl, by rw [ds_s, upd_same]⟩)) (fun _ _ h => h)⟩
    rw [ds_n _ _ _ h8]
    exact q4.1 c (by simp only [List.mem_cons, List.not_mem_nil, or_false, not_or]; omega)
  · refine ⟨kE E, rfl, (hR _ h (fun _ _ _ => rfl)).mono (fun v d2 hr => rk_pq h hr ?_) (fun _ _ h => h)⟩
    rcases hx with ⟨a, rfl⟩ | ⟨a, b, rfl⟩
    · exact Or.inr (Or.inl ⟨a, hk0⟩)
    · exact Or.inr (Or.inr ⟨a, b, hk1 b⟩)
theorem ha_of {c1 rf : Prop} {no ans : Int32} {a' : AW} (hp : hpQ kE1 (AQ c1 rf no ans A a' d) (XK c1 True d) v d1) : ∃ k, v = some (.int k) ∧ HA c1 rf no ans A a' d k (d1 87 0) d1 := by
  rcases hp with ⟨x, dC, ⟨q1, q2⟩, rfl, rfl⟩ | ⟨E, ⟨rfl, hx⟩, rfl⟩
  · refine ⟨0, rfl, Or.inl ⟨q1, rfl, ?_⟩⟩
    have e87 : dset dC 87 0 x 87 0 = x := by rw [ds_s, upd_same]
    rw [e87]
    rcases q2 with ⟨r, e, f, g⟩ | ⟨r, e, f, ⟨g1, g2⟩, g3⟩
    · cases e
      exact Or.inl ⟨r, rfl, (f.mono (by decide)).set (by decide) _ _, by rw [ds_n _ _ _ (by decide)]; exact g⟩
    · cases e
      refine Or.inr ⟨r, rfl, (f.mono (fun c hc => List.mem_cons_of_mem _ hc)).set List.mem_cons_self _ _, ⟨by rw [ds_n _ _ _ (by decide)]; exact g1, by rw [ds_n _ _ _ (by decide)]; exact g2⟩, ?_⟩
      rw [← g3]
      show (dset dC 87 0 ans 7, dset dC 87 0 ans 8, dset dC 87 0 ans 9, dset dC 87 0 ans 10, dset dC 87 0 ans 11, dset dC 87 0 ans 12) = (dC 7, dC 8, dC 9, dC 10, dC 11, dC 12)
      rw [ds_n _ _ _ (by decide), ds_n _ _ _ (by decide), ds_n _ _ _ (by decide), ds_n _ _ _ (by decide), ds_n _ _ _ (by decide), ds_n _ _ _ (by decide)]
  · refine ⟨1, rfl, Or.inr ⟨?_, rfl, rfl⟩⟩
    rcases hx with ⟨a, -⟩ | ⟨-, b, -⟩
    · exact a
    · exact absurd trivial b
theorem xk_0 {c1 : Prop} : ∀ E d1, XK c1 True d E d1 → E = exn 0 := fun E d1 h => by
  rcases h.2 with ⟨-, e⟩ | ⟨-, b, -⟩
  · exact e
  · exact absurd trivial b
theorem xk_2 {c1 c2 : Prop} : ∀ E d1, XK c1 c2 d E d1 → E = exn 0 ∨ E = exn 1 := fun E d1 h => by
  rcases h.2 with ⟨-, e⟩ | ⟨-, -, e⟩
  · exact Or.inl e
  · exact Or.inr e
theorem qk_i {c1 c2 : Prop} {ans : Int32} : ∀ v d1, QK c1 c2 ans d v d1 → ∃ x, v = some (.int x) := fun v d1 h => ⟨_, h.2.2.1⟩
theorem aq_i {c1 rf : Prop} {no ans : Int32} {a' : AW} : ∀ v d1, AQ c1 rf no ans A a' d v d1 → ∃ x, v = some (.int x) := fun v d1 h => by
  rcases h.2 with ⟨-, e, -⟩ | ⟨-, e, -⟩
  · exact ⟨_, e⟩
  · exact ⟨_, e⟩
theorem kE2_0 : kE2 (exn 0) = 1 := by unfold kE2; rw [if_pos rfl]
theorem kE2_1 : kE2 (exn 1) = 2 := by unfold kE2; rw [if_neg (by decide)]
theorem L_count (hl : l.stackTraces = false) (h : JI d) {x : Int32} : CH l mL_count hL_count (n + 61) 1 [.ref 0, .int x, .ref 87] d (LQ l n mX11_count [.int x]) := by
  obtain ⟨u, S, A, F, h⟩ := h
  refine (h_count hl (o_count hl h.1) qk_i xk_0).mono (fun v d1 hp => lq_ask h hp rfl (fun w => absurd trivial w) (fun d1 h1 hc => R_count (n := n + 40) hl h h1 hc))
theorem L_person (hl : l.stackTraces = false) (h : JI d) {p x : Int32} : CH l mL_person hL_person (n + 61) 2 [.ref 0, .int p, .int x, .ref 87] d (LQ l n mX11_person [.int p, .int x]) := by
  obtain ⟨u, S, A, F, h⟩ := h
  refine (h_person hl (o_person hl h.1) qk_i xk_0).mono (fun v d1 hp => lq_ask h hp rfl (fun w => absurd trivial w) (fun d1 h1 hc => R_person (n := n + 40) hl h h1 hc))
theorem L_coin (hl : l.stackTraces = false) (h : JI d) {c x : Int32} : CH l mL_coin hL_coin (n + 61) 2 [.ref 0, .int c, .int x, .ref 87] d (LQ l n mX11_coin [.int c, .int x]) := by
  obtain ⟨u, S, A, F, h⟩ := h
  refine (h_coin hl (o_coin hl h.1) qk_i xk_0).mono (fun v d1 hp => lq_ask h hp rfl (fun w => absurd trivial w) (fun d1 h1 hc => R_coin (n := n + 40) hl h h1 hc))
theorem L_then (hl : l.stackTraces = false) (h : JI d) {c y x : Int32} : CH l mL_then hL_then (n + 61) 3 [.ref 0, .int c, .int y, .int x, .ref 87] d (LQ l n mX11_then [.int c, .int y, .int x]) := by
  obtain ⟨u, S, A, F, h⟩ := h
  refine (h_then hl (o_then hl h.1) qk_i xk_2).mono (fun v d1 hp => lq_ask h hp kE2_0 (fun _ => kE2_1) (fun d1 h1 hc => R_then (n := n + 40) hl h h1 hc))
theorem L_has (hl : l.stackTraces = false) (h : JI d) {p y : Int32} : CH l mL_has hL_has (n + 61) 2 [.ref 0, .int p, .int y, .ref 87] d (LQ l n mX11_has [.int p, .int y]) := by
  obtain ⟨u, S, A, F, h⟩ := h
  refine (h_has hl (o_has hl h.1) qk_i xk_2).mono (fun v d1 hp => lq_ask h hp kE2_0 (fun _ => kE2_1) (fun d1 h1 hc => R_has (n := n + 40) hl h h1 hc))
theorem L_later (hl : l.stackTraces = false) (h : JI d) {y x : Int32} : CH l mL_later hL_later (n + 61) 2 [.ref 0, .int y, .int x, .ref 87] d (LQ l n mX11_later [.int y, .int x]) := by
  obtain ⟨u, S, A, F, h⟩ := h
  refine (h_later hl (o_later hl h.1) qk_i xk_2).mono (fun v d1 hp => lq_ask h hp kE2_0 (fun _ => kE2_1) (fun d1 h1 hc => R_later (n := n + 40) hl h h1 hc))
theorem L_gets (hl : l.stackTraces = false) (h : JI d) {p c : Int32} : CH l mL_gets hL_gets (n + 61) 2 [.ref 0, .int p, .int c, .ref 87] d (LQ l n mX11_gets [.int p, .int c]) := by
  obtain ⟨u, S, A, F, h⟩ := h
  refine (h_gets hl (o_gets hl h.1) qk_i xk_0).mono (fun v d1 hp => lq_ask h hp rfl (fun w => absurd trivial w) (fun d1 h1 hc => R_gets (n := n + 40) hl h h1 hc))
theorem L_hands (hl : l.stackTraces = false) (h : JI d) {c y : Int32} : CH l mL_hands hL_hands (n + 61) 2 [.ref 0, .int c, .int y, .ref 87] d (LQ l n mX11_hands [.int c, .int y]) := by
  obtain ⟨u, S, A, F, h⟩ := h
  refine (h_hands hl (o_hands hl h.1) qk_i xk_2).mono (fun v d1 hp => lq_ask h hp kE2_0 (fun _ => kE2_1) (fun d1 h1 hc => R_hands (n := n + 40) hl h h1 hc))
theorem L_crumbles (hl : l.stackTraces = false) (h : JI d) {c : Int32} : CH l mL_crumbles hL_crumbles (n + 61) 1 [.ref 0, .int c, .ref 87] d (LQ l n mX11_crumbles [.int c]) := by
  obtain ⟨u, S, A, F, h⟩ := h
  refine (h_crumbles hl (o_crumbles hl h.1) qk_i xk_0).mono (fun v d1 hp => lq_ask h hp rfl (fun w => absurd trivial w) (fun d1 h1 hc => R_crumbles (n := n + 40) hl h h1 hc))
theorem L_comesTo (hl : l.stackTraces = false) (h : JI d) {p : Int32} : CH l mL_comesTo hL_comesTo (n + 61) 1 [.ref 0, .int p, .ref 87] d (LQ l n mX11_comesTo [.int p]) := by
  obtain ⟨u, S, A, F, h⟩ := h
  refine (h_comesTo hl (o_comesTo hl h.1) qk_i xk_0).mono (fun v d1 hp => lq_ask h hp rfl (fun w => absurd trivial w) (fun d1 h1 hc => R_comesTo (n := n + 40) hl h h1 hc))
theorem L_steps (hl : l.stackTraces = false) (h : JI d) {p o : Int32} : CH l mL_steps hL_steps (n + 61) 2 [.ref 0, .int p, .int o, .ref 87] d (LQ l n mX11_steps [.int p, .int o]) := by
  obtain ⟨u, S, A, F, h⟩ := h
  refine (h_steps hl (o_steps hl h.1) qk_i xk_0).mono (fun v d1 hp => lq_ask h hp rfl (fun w => absurd trivial w) (fun d1 h1 hc => R_steps (n := n + 40) hl h h1 hc))
theorem L_toPay (hl : l.stackTraces = false) (h : JI d) {p sum x : Int32} : CH l mL_toPay hL_toPay (n + 61) 3 [.ref 0, .int p, .int sum, .int x, .ref 87] d (LQ l n mX11_toPay [.int p, .int sum, .int x]) := by
  obtain ⟨u, S, A, F, h⟩ := h
  refine (h_toPay hl (o_toPay hl h.1) qk_i xk_2).mono (fun v d1 hp => lq_ask h hp kE2_0 (fun _ => kE2_1) (fun d1 h1 hc => R_toPay (n := n + 40) hl h h1 hc))
theorem L_change (hl : l.stackTraces = false) (h : JI d) {p o sum x : Int32} : CH l mL_change hL_change (n + 61) 5 [.ref 0, .int p, .int o, .int sum, .int x, .ref 87] d (LQ l n mX11_change [.int p, .int o, .int sum, .int x]) := by
  obtain ⟨u, S, A, F, h⟩ := h
  refine (h_change hl (o_change hl h.1) qk_i xk_2).mono (fun v d1 hp => lq_ask h hp kE2_0 (fun _ => kE2_1) (fun d1 h1 hc => R_change (n := n + 40) hl h h1 hc))
theorem L_share (hl : l.stackTraces = false) (h : JI d) {p o x : Int32} : CH l mL_share hL_share (n + 61) 4 [.ref 0, .int p, .int o, .int x, .ref 87] d (LQ l n mX11_share [.int p, .int o, .int x]) := by
  obtain ⟨u, S, A, F, h⟩ := h
  refine (h_share hl (o_share hl h.1) qk_i xk_2).mono (fun v d1 hp => lq_ask h hp kE2_0 (fun _ => kE2_1) (fun d1 h1 hc => R_share (n := n + 40) hl h h1 hc))
theorem L_lacks (hl : l.stackTraces = false) (h : JI d) {p : Int32} : CH l mL_lacks hL_lacks (n + 61) 1 [.ref 0, .int p, .ref 87] d (LQ l n mX11_lacks [.int p]) := by
  obtain ⟨u, S, A, F, h⟩ := h
  refine (h_lacks hl (o_lacks hl h.1) qk_i xk_0).mono (fun v d1 hp => lq_ask h hp rfl (fun w => absurd trivial w) (fun d1 h1 hc => R_lacks (n := n + 40) hl h h1 hc))
theorem L_toName (hl : l.stackTraces = false) (h : JI d) {c p y : Int32} : CH l mL_toName hL_toName (n + 61) 3 [.ref 0, .int c, .int p, .int y, .ref 87] d (LQ l n mX11_toName [.int c, .int p, .int y]) := by
  obtain ⟨u, S, A, F, h⟩ := h
  refine (h_toName hl (o_toName hl h.1) qk_i xk_2).mono (fun v d1 hp => lq_ask h hp kE2_0 (fun _ => kE2_1) (fun d1 h1 hc => R_toName (n := n + 40) hl h h1 hc))
theorem L_needy (hl : l.stackTraces = false) (h : JI d) {x : Int32} : CH l mL_needy hL_needy (n + 61) 1 [.ref 0, .int x, .ref 87] d (LQ l n mX11_needy [.int x]) := by
  obtain ⟨u, S, A, F, h⟩ := h
  refine (h_needy hl (o_needy hl h.1) qk_i xk_0).mono (fun v d1 hp => lq_ask h hp rfl (fun w => absurd trivial w) (fun d1 h1 hc => R_needy (n := n + 40) hl h h1 hc))
theorem L_look (hl : l.stackTraces = false) (h : JI d) {x : Int32} : CH l mL_look hL_look (n + 61) 1 [.ref 0, .int x, .ref 87] d (LQ l n mX11_look [.int x]) := by
  obtain ⟨u, S, A, F, h⟩ := h
  refine (h_look hl (o_look hl h.1) qk_i xk_0).mono (fun v d1 hp => lq_ask h hp rfl (fun w => absurd trivial w) (fun d1 h1 hc => R_look (n := n + 40) hl h h1 hc))
theorem L_thieves (hl : l.stackTraces = false) (h : JI d) {p y th : Int32} : CH l mL_thieves hL_thieves (n + 61) 2 [.ref 0, .int p, .int y, .int th, .ref 87] d (LQ l n mX11_thieves [.int p, .int y, .int th]) := by
  obtain ⟨u, S, A, F, h⟩ := h
  refine (h_thieves hl (o_thieves hl h.1) qk_i xk_2).mono (fun v d1 hp => lq_ask h hp kE2_0 (fun _ => kE2_1) (fun d1 h1 hc => R_thieves (n := n + 40) hl h h1 hc))
theorem L_game (hl : l.stackTraces = false) (h : JI d) {p q x : Int32} : CH l mL_game hL_game (n + 61) 4 [.ref 0, .int p, .int q, .int x, .ref 87] d (LQ l n mX11_game [.int p, .int q, .int x]) := by
  obtain ⟨u, S, A, F, h⟩ := h
  refine (h_game hl (o_game hl h.1) qk_i xk_2).mono (fun v d1 hp => lq_ask h hp kE2_0 (fun _ => kE2_1) (fun d1 h1 hc => R_game (n := n + 40) hl h h1 hc))
theorem L_ages (hl : l.stackTraces = false) (h : JI d) {s0 y x : Int32} : CH l mL_ages hL_ages (n + 61) 2 [.ref 0, .int s0, .int y, .int x, .ref 87] d (LQ l n mX11_ages [.int s0, .int y, .int x]) := by
  obtain ⟨u, S, A, F, h⟩ := h
  refine (h_ages hl (o_ages hl h.1) qk_i xk_2).mono (fun v d1 hp => lq_ask h hp kE2_0 (fun _ => kE2_1) (fun d1 h1 hc => R_ages (n := n + 40) hl h h1 hc))
theorem L_give (hl : l.stackTraces = false) (h : JI d) {c p : Int32} : CH l mL_give hL_give (n + 61) 2 [.ref 0, .int c, .int p, .ref 87] d (LQ l n mX11_give [.int c, .int p]) := by
  obtain ⟨u, S, A, F, h⟩ := h
  refine (h_give hl (o_give hl h.1) aq_i xk_0).mono (fun v d1 hp => ?_)
  obtain ⟨k, e, hA⟩ := ha_of hp
  exact ⟨k, e, R_give (n := n + 40) hl h hA⟩
theorem L_search (hl : l.stackTraces = false) (h : JI d) {p : Int32} : CH l mL_search hL_search (n + 61) 1 [.ref 0, .int p, .ref 87] d (LQ l n mX11_search [.int p]) := by
  obtain ⟨u, S, A, F, h⟩ := h
  refine (h_search hl (o_search hl h.1) aq_i xk_0).mono (fun v d1 hp => ?_)
  obtain ⟨k, e, hA⟩ := ha_of hp
  exact ⟨k, e, R_search (n := n + 40) hl h hA⟩
theorem L_pays (hl : l.stackTraces = false) (h : JI d) {p o : Int32} : CH l mL_pays hL_pays (n + 61) 2 [.ref 0, .int p, .int o, .ref 87] d (LQ l n mX11_pays [.int p, .int o]) := by
  obtain ⟨u, S, A, F, h⟩ := h
  refine (h_pays hl (o_pays hl h.1) aq_i xk_0).mono (fun v d1 hp => ?_)
  obtain ⟨k, e, hA⟩ := ha_of hp
  exact ⟨k, e, R_pays (n := n + 40) hl h hA⟩
theorem L_anew (hl : l.stackTraces = false) (h : JI d) {c w : Int32} : CH l mL_anew hL_anew (n + 61) 1 [.ref 0, .int c, .int w, .ref 87] d (LQ l n mX11_anew [.int c, .int w]) := by
  obtain ⟨u, S, A, F, h⟩ := h
  refine (h_anew hl (o_anew hl h.1) aq_i xk_0).mono (fun v d1 hp => ?_)
  obtain ⟨k, e, hA⟩ := ha_of hp
  exact ⟨k, e, R_anew (n := n + 40) hl h hA⟩
theorem L_see (hl : l.stackTraces = false) (h : JI d) {p y : Int32} : CH l mL_see hL_see (n + 61) 1 [.ref 0, .int p, .int y, .ref 87] d (LQ l n mX11_see [.int p, .int y]) := by
  obtain ⟨u, S, A, F, h⟩ := h
  refine (h_see hl (o_see hl h.1) (fun v d1 h => ?_) xk_0).mono (fun v d1 hp => ?_)
  · rcases h.2 with ⟨-, e, -⟩ | ⟨-, e, -⟩
    · exact ⟨_, e⟩
    · exact ⟨_, e⟩
  · rcases hp with ⟨x, dC, ⟨q1, q2⟩, rfl, rfl⟩ | ⟨E, ⟨rfl, hx⟩, rfl⟩
    · refine ⟨0, rfl, R_see (n := n + 40) hl h (Or.inl ⟨q1, rfl, ?_⟩)⟩
      have e87 : dset dC 87 0 x 87 0 = x := by rw [ds_s, upd_same]
      rw [e87]
      rcases q2 with ⟨r, e, f, g⟩ | ⟨r, e, f, g1, g2, g3⟩
      · cases e
        exact Or.inl ⟨r, rfl, (f.mono (by decide)).set (by decide) _ _, by rw [ds_n _ _ _ (by decide)]; exact g⟩
      · cases e
        exact Or.inr ⟨r, rfl, (f.mono (by decide)).set (by decide) _ _, by rw [ds_n _ _ _ (by decide)]; exact g1, by rw [ds_n _ _ _ (by decide)]; exact g2, by rw [ds_n _ _ _ (by decide)]; exact g3⟩
    · refine ⟨1, rfl, R_see (n := n + 40) hl h (Or.inr ⟨?_, rfl, rfl⟩)⟩
      rcases hx with ⟨a, -⟩ | ⟨-, b, -⟩
      · exact a
      · exact absurd trivial b
theorem L_mint (hl : l.stackTraces = false) (h : JI d) {x : Int32} : CH l mL_mint hL_mint (n + 61) 1 [.ref 0, .int x, .ref 87] d (LQ l n mX11_mint [.int x]) := by
  obtain ⟨u, S, A, F, h⟩ := h
  refine (h_mint hl (o_mint hl h.2.2.2.1.1 h.2.2.2.1.2.1) (fun v d1 hh => ?_) (fun E d1 hx => hx.2.2)).mono (fun v d1 hp => ?_)
  · obtain ⟨-, hh⟩ := hh
    unfold mtQ at hh
    generalize rdD d x.toNatClampNeg = Rr at hh
    cases Rr with
    | inl e => exact ⟨_, hh.2.1⟩
    | inr t => exact ⟨_, hh.2.1⟩
  · rcases hp with ⟨z, dC, ⟨q1, q2⟩, rfl, rfl⟩ | ⟨E, ⟨rfl, hx, -⟩, rfl⟩
    · refine ⟨0, rfl, R_mint hl h (Or.inl ⟨q1, rfl, dC, ?_, ?_⟩)⟩
      · rw [ds_s, upd_same]; exact q2
      · rw [ds_s, upd_same]
    · exact ⟨1, rfl, R_mint hl h (Or.inr ⟨hx, rfl, rfl⟩)⟩
theorem D_feed (hl : l.stackTraces = false) (h : JI d) {a b c e f : Int32} : CM l mX10_feed (n + 60) 0 [.ref 0, .int a, .int b, .int c, .int e, .int f] d (DQ l n mX11_feed [.int a, .int b, .int c, .int e, .int f]) NX := by
  obtain ⟨u, S, A, F, h⟩ := h
  refine (o_feed2 hl h.2.2.2.1.1 h.2.2.2.1.2.1).mono (fun v d1 hq => ?_) (fun _ _ h => h)
  have hv : ∃ z, v = some (.int z) := by
    rcases hq with ⟨-, e, -⟩ | ⟨-, e, -⟩
    · exact ⟨_, e⟩
    · exact ⟨_, e⟩
  obtain ⟨z, rfl⟩ := hv
  exact ⟨z, rfl, R_feed (n := n + 40) hl h hq⟩
theorem D_fault (hl : l.stackTraces = false) (h : JI d) : CM l mX10_fault (n + 60) 0 [.ref 0] d (DQ l n mX11_fault []) NX := by
  obtain ⟨u, S, A, F, h⟩ := h
  refine (o_fault hl).mono (fun v d1 hq => ?_) (fun _ _ h => h)
  obtain ⟨rfl, rfl⟩ := hq
  exact ⟨_, rfl, R_fault (n := n + 40) hl h⟩
theorem D_years (hl : l.stackTraces = false) (h : JI d) {y : Int32} : CM l mX10_years (n + 60) 0 [.ref 0, .int y] d (DQ l n mX11_years [.int y]) NX := by
  obtain ⟨u, S, A, F, h⟩ := h
  refine (o_years hl h.1).mono (fun v d1 hq => ?_) (fun _ _ h => h)
  obtain ⟨z, rfl⟩ := aq_i v d1 hq
  refine ⟨z, rfl, (R_years (n := n + 40) (k := 0) (z := z) hl h (Or.inl ⟨trivial, rfl, ?_⟩)).mono (fun v d2 hr => ?_) (fun _ _ h => h)⟩
  · rcases hq.2 with ⟨r, e, f, g⟩ | ⟨r, e, f, g, g3⟩
    · cases e
      exact Or.inl ⟨r, rfl, f.mono (by decide), g⟩
    · cases e
      exact Or.inr ⟨r, rfl, f.mono (fun c hc => List.mem_cons_of_mem _ hc), g, g3⟩
  · obtain ⟨y, rfl, h1, -, h2, h3⟩ := hr
    exact ⟨by rw [h2 rfl], h1, h3⟩
theorem D_undo (hl : l.stackTraces = false) (h : JI d) : CM l mX10_undo (n + 60) 0 [.ref 0] d (DQ l n mX11_undo []) NX := by
  obtain ⟨u, S, A, F, h⟩ := h
  refine (o_undo hl h.1).mono (fun v d1 hq => ?_) (fun _ _ h => h)
  have hv : ∃ z, v = some (.int z) := by
    rcases hq with ⟨-, e, -⟩ | ⟨-, e, -⟩
    · exact ⟨_, e⟩
    · exact ⟨_, e⟩
  obtain ⟨z, rfl⟩ := hv
  exact ⟨z, rfl, R_undo (n := n + 40) hl h hq⟩
theorem D_next (hl : l.stackTraces = false) (h : JI d) : CM l mX10_next (n + 60) 0 [.ref 0] d (DQ l n mX11_next []) NX := by
  obtain ⟨u, S, A, F, h⟩ := h
  refine (o_next hl h.1).mono (fun v d1 hq => ?_) (fun _ _ h => h)
  obtain ⟨rfl, q⟩ := hq
  have hj := jf.qf q
  refine ⟨_, rfl, (R_next (n := n + 40) hl h (h.keep hj) (fun c h5 h8 => q.1 c (by simp only [List.mem_cons, List.not_mem_nil, or_false, not_or]; omega))).mono (fun v d2 hr => ?_) (fun _ _ h => h)⟩
  obtain ⟨y, rfl, h1, -, h2, h3⟩ := rk_pq (k := 0) (h.keep hj) hr (Or.inl ⟨trivial, trivial, rfl, rfl⟩)
  exact ⟨by rw [h2 rfl], h1, h3⟩
theorem D_restore (hl : l.stackTraces = false) (h : JI d) : CM l mX10_restore (n + 60) 0 [.ref 0] d (DQ l n mX11_restore []) NX := by
  obtain ⟨u, S, A, F, h⟩ := h
  have h01 : d 0 14 = 0 ∨ d 0 14 = 1 := by
    rcases h.2.2.2.2 with ⟨e, -⟩ | ⟨e, -⟩
    · exact Or.inl e
    · exact Or.inr e
  refine (o_restore hl h01).mono (fun v d1 hq => ?_) (fun _ _ h => h)
  obtain ⟨rfl, q⟩ := hq
  exact ⟨_, rfl, R_restore (n := n + 40) hl h rfl q⟩
theorem D_forget (hl : l.stackTraces = false) (h : JI d) : CM l mX10_forget (n + 60) 0 [.ref 0] d (EQ l n mX11_forget) NX := by
  obtain ⟨u, S, A, F, h⟩ := h
  refine (o_forget hl).mono (fun v d1 hq => ?_) (fun _ _ h => h)
  obtain ⟨rfl, rfl⟩ := hq
  refine ⟨rfl, (R_forget (n := n + 40) hl h).mono (fun v d2 hr => ?_) (fun _ _ h => h)⟩
  rw [ds_n _ _ _ (by decide)]; exact hr
theorem D_image (hl : l.stackTraces = false) (h : JI d) : CM l mX10_image (n + 60) 0 [.ref 0] d (EQ l n mX11_image) NX := by
  obtain ⟨u, S, A, F, h⟩ := h
  refine (o_image hl).mono (fun v d1 hq => ?_) (fun _ _ h => h)
  obtain ⟨rfl, q1, q2, q3⟩ := hq
  exact ⟨rfl, R_image (n := n + 40) hl h q1 q2 q3⟩
end Pairs
