/-! A LOOP THAT FILLS, strings laid out -/
theorem cell_congS {cA : ClassId} {N : Nat} {f f' : Nat → Option Nat} (h : ∀ j, j < N → f j = f' j) : vp_cell cA (N, .inr (.inr (.inr (.inr f)))) = vp_cell cA (N, .inr (.inr (.inr (.inr f')))) := by
  rw [vp_cell_q, vp_cell_q]
  exact arrV_cong (fun j hj => by rw [h j hj])
theorem set_self2 {ws : va_W} {q0 : Nat} {x : Nat × va_E} (h : ws[q0]? = some x) : ws.set q0 x = ws := by
  apply List.ext_getElem?
  intro i
  by_cases hi : i = q0
  · subst hi
    rw [List.getElem?_set_self (List.getElem?_eq_some_iff.mp h).1, h]
  · rw [List.getElem?_set_ne (fun e => hi e.symm)]
section Minus
variable {p : Program} {l : Launch} {e : Env} {R : Room} {s : State} {m : MethodId} {args : Array Value} {below : List Frame} {meth : Method} {c : Code} {own : String} {cc : ByteArray} {n : Nat} {ret : Option FieldType} {g : GG} {ad : Nat → Nat} {A : Nat → Prop} {Z : State → Prop} {ws : va_W} {u z : Nat}
set_option maxRecDepth 100000 in
set_option maxHeartbeats 4000000 in
theorem n_minus (cx : nwX p l e R s m args meth c own cc 2 n ret g ad A) {b a o q0 ci jf idx N h : Nat} {fs : List Value} {f0 : Nat → Int32} {NN : Int} (hN : N < 2 ^ 31) (hNN : (Int8.ofInt NN).toInt32 = nI N)
    (d1 : decode cc h = .ok (.iload_n 1, 1)) (d2 : decode cc (h + 1) = .ok (.bipush NN, 2)) (d3 : decode cc (h + 1 + 2) = .ok (.if_icmp .ge 16, 3)) (d4 : decode cc (h + 1 + 2 + 3) = .ok (.aload_n 0, 1)) (d5 : decode cc (h + 1 + 2 + 3 + 1) = .ok (.getfield idx, 3)) (d6 : decode cc (h + 1 + 2 + 3 + 1 + 3) = .ok (.iload_n 1, 1)) (d7 : decode cc (h + 1 + 2 + 3 + 1 + 3 + 1) = .ok (.iconst (-1), 1)) (d8 : decode cc (h + 1 + 2 + 3 + 1 + 3 + 1 + 1) = .ok (.iastore, 1)) (d9 : decode cc (h + 1 + 2 + 3 + 1 + 3 + 1 + 1 + 1) = .ok (.iinc 1 1, 3)) (d10 : decode cc (h + 1 + 2 + 3 + 1 + 3 + 1 + 1 + 1 + 3) = .ok (.goto (-16), 3))
    (hF : okF own idx ci jf) (ho : o ≠ q0) (heo : ws[o]? = some (b, .inr (ci, fs))) (hv : fs[jf]? = some (.ref a)) (hea : ws[q0]? = some (a, .inl (g.2.1, N, .inl f0)))
    (K : nwW p l e R s m args below meth c 2 g A Z (h + 19) [some (.ref b), some (.int (nI N))] [] (ws.set q0 (a, aV g N (-1))) u z) : nwW p l e R s m args below meth c 2 g A Z h [some (.ref b), some (.int (nI 0))] [] ws u z := by
  have hlt : q0 < ws.length := (List.getElem?_eq_some_iff.mp hea).1
  have loop : ∀ (r i : Nat) (f : Nat → Int32), r = N - i → i ≤ N → (∀ j, j < i → f j = -1) → nwW p l e R s m args below meth c 2 g A Z h [some (.ref b), some (.int (nI i))] [] (ws.set q0 (a, .inl (g.2.1, N, .inl f))) u z := by
    intro r
    induction r with
    | zero =>
      intro i f hr hi hf
      have hi : i = N := by omega
      subst hi
      refine n_iload_n cx (j := 1) d1 rfl ?_
      refine n_bipush cx d2 ?_
      rw [hNN]
      refine n_icmpge cx (t := h + 19) d3 (by omega) (fun _ => ?_) (fun h => absurd (nI_leq (Nat.le_refl _) hN) h)
      refine n_same (q0 := q0) (a := a) (x' := (i, .inl (fun _ => -1))) (List.getElem?_set_self hlt) (cell_cong hf) ?_
      rw [List.set_set]
      exact K
    | succ r ih =>
      intro i f hr hi hf
      refine n_iload_n cx (j := 1) d1 rfl ?_
      refine n_bipush cx d2 ?_
      rw [hNN]
      refine n_icmpge cx (t := h + 19) d3 (by omega) (fun h => absurd h (nI_ge (by omega) hN)) (fun _ => ?_)
      refine n_aload_n cx (j := 0) d4 rfl ?_
      refine n_get cx (q0 := o) d5 hF (by rw [List.getElem?_set_ne (fun e => ho e.symm)]; exact heo) hv ?_
      refine n_iload_n cx (j := 1) d6 rfl ?_
      refine n_iconst cx d7 ?_
      refine n_iast cx (q0 := q0) (f := f) (N := N) d8 (List.getElem?_set_self hlt) (vp_in_nI (by omega) hN) ?_
      refine n_iinc cx (j := 1) (v := 1) d9 rfl (by decide) rfl ?_
      refine n_goto cx (t := h) d10 (by omega) ?_
      rw [List.set_set]
      have := ih (i + 1) (upd f (nI i).toNatClampNeg (-1)) (by omega) (by omega) (fun j hj => by
        rw [nI_clamp (by omega)]
        by_cases e : j = i
        · rw [e, upd_same]
        · rw [upd_other _ _ e]; exact hf j (by omega))
      rw [← nI_1] at this
      exact this
  have := loop N 0 f0 (by omega) (by omega) (fun j hj => absurd hj (by omega))
  rw [set_self2 hea] at this
  exact this
end Minus
