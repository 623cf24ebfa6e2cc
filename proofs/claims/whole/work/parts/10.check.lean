/-! A BLOCK'S CHECK BY PROGRAM -/
def isL : Instr → Bool
  | .getfield _ | .putfield _ | .invokevirtual _ | .invokestatic _ | .ldc _ | .ldc_w _ | .ldc2_w _ | .new _ => true
  | _ => false
def chkI (cc : ByteArray) (pc : Nat) (i : Instr) : Bool := match i with
  | .tableswitch dflt lo hi offs => (match decode cc pc with
    | .ok q => decide (q.1 = .tableswitch dflt lo hi offs)
    | .error _ => false) && decide (lo + offs.size = hi + 1) && (offs.toList.all (fun off => decide (0 ≤ (pc : Int) + off))) && decide (0 ≤ (pc : Int) + dflt)
  | .lookupswitch dflt ps => (match decode cc pc with
    | .ok q => decide (q.1 = .lookupswitch dflt ps)
    | .error _ => false) && ((ps.toList.zip (ps.toList.drop 1)).all (fun (a, next) => a.1 < next.1)) && (ps.toList.all (fun q => decide (0 ≤ (pc : Int) + q.2))) && decide (0 ≤ (pc : Int) + dflt)
  | .goto off => decide (decode cc pc = .ok (.goto off, 3)) && decide (0 ≤ (pc : Int) + off)
  | .ifCond q off => decide (decode cc pc = .ok (.ifCond q off, 3)) && decide (0 ≤ (pc : Int) + off)
  | .if_icmp q off => decide (decode cc pc = .ok (.if_icmp q off, 3)) && decide (0 ≤ (pc : Int) + off)
  | i => decide (decode cc pc = .ok (i, ilen i))
def chkB (cc : ByteArray) : Nat → List IN → Bool
  | _, [] => true
  | pc, q :: t => chkI cc pc q.1 && chkB cc (pc + ilen q.1) t
def lnkB (own : String) (cc : ByteArray) : Nat → List IN → Prop
  | _, [] => True
  | pc, q :: t => match isL q.1 with
    | true => lnk own cc pc q.1 q.2 ∧ lnkB own cc (pc + ilen q.1) t
    | false => lnkB own cc (pc + ilen q.1) t
theorem chkI_dcd {cc : ByteArray} {pc : Nat} {i : Instr} (h : chkI cc pc i = true) : dcd cc pc i := by
  cases i <;> first
    | (simp only [chkI, decide_eq_true_eq] at h; exact h)
    | (simp only [chkI, Bool.and_eq_true, decide_eq_true_eq] at h; exact h.1)
    | (simp only [chkI, Bool.and_eq_true] at h
       obtain ⟨⟨⟨h1, -⟩, -⟩, -⟩ := h
       split at h1
       · rename_i q hq
         have h2 := of_decide_eq_true h1
         obtain ⟨q1, q2⟩ := q
         dsimp only at h2
         subst h2
         exact ⟨q2, hq⟩
       · cases h1)
theorem chkI_lnk {own : String} {cc : ByteArray} {pc : Nat} {i : Instr} {r : RS} (h : chkI cc pc i = true) (hl : isL i = false) : lnk own cc pc i r := by
  cases i <;> first
    | (cases hl; done)
    | exact trivial
    | (simp only [chkI, Bool.and_eq_true, decide_eq_true_eq] at h; exact h.2)
    | (simp only [chkI, Bool.and_eq_true] at h
       exact ⟨of_decide_eq_true h.1.1.2, h.1.2, of_decide_eq_true h.2⟩)
    | (simp only [chkI, Bool.and_eq_true] at h
       exact ⟨h.1.1.2, h.1.2, of_decide_eq_true h.2⟩)
theorem okB_of {own : String} {cc : ByteArray} : ∀ {bl : List IN} {pc : Nat}, chkB cc pc bl = true → lnkB own cc pc bl → okB own cc pc bl := by
  intro bl
  induction bl with
  | nil => intro pc _ _; exact trivial
  | cons q t ih =>
    intro pc h hl
    simp only [chkB, Bool.and_eq_true] at h
    unfold lnkB at hl
    split at hl
    · exact ⟨chkI_dcd h.1, hl.1, ih h.2 hl.2⟩
    · rename_i hq
      exact ⟨chkI_dcd h.1, chkI_lnk h.1 hq, ih h.2 hl⟩
