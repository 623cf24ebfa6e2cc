def dR : List Value → Nat → (Nat → List Value → Prop) → Prop
  | st, 0, f => pR st f
  | [], _ + 1, _ => False
  | _ :: r, j + 1, f => dR r j f
def bK (a : Nat) (f : Nat → Prop) : Prop := match lay[a]? with
  | some q => 1 ≤ q.1 ∧ q.1 ≤ 4 ∧ f q.2.1
  | none => False
theorem dR_eq (f : Nat → List Value → Prop) : ∀ (st : List Value) (na : Nat), dR st na f = (match st.drop na with
    | .ref b :: rest => f b rest
    | _ => False) := by
  intro st
  induction st with
  | nil => intro na; cases na <;> rfl
  | cons v r ih =>
    intro na
    cases na with
    | zero => cases v <;> rfl
    | succ na =>
      rw [List.drop_succ_cons, ← ih na]
      rfl
/-! ROWS THAT OPEN A BLOCK, instruction by instruction, from the head on -/
section Vz
variable (l : Launch) (n k nL : Nat) (rt : Option FieldType) (Q : Option Value → DS → Prop) (X : String → DS → Prop) (K : Nat → ALs → List Value → DS → Nat → Prop) (t : List IN) (pc : Nat) (ls : ALs) (st : List Value) (d : DS) (u : Nat)
/-- what comes behind a call -/
def cnt (t : List IN) (pc : Nat) (ls : ALs) (rest : List Value) (u : Nat) : Option Value → DS → Prop := fun v d' => vcB l n k nL rt Q X K t pc ls (v.toList ++ rest) d' u
theorem vz_nil : vcB l n k nL rt Q X K [] pc ls st d u = K pc ls st d u := propext Iff.rfl
theorem cnt_some (rest : List Value) (v : Value) : cnt l n k nL rt Q X K t pc ls rest u (some v) d = vcB l n k nL rt Q X K t pc ls (v :: rest) d u := propext Iff.rfl
theorem cnt_none (rest : List Value) : cnt l n k nL rt Q X K t pc ls rest u none d = vcB l n k nL rt Q X K t pc ls rest d u := propext Iff.rfl
theorem vz_iconst (t9 : List IN) (r : RS) (v : Int) : vcB l n k nL rt Q X K ((.iconst v, r) :: t9) pc ls st d u = (vcB l n k nL rt Q X K t9 (pc + 1) ls (.int (Int32.ofInt v) :: st) d u) := propext Iff.rfl
theorem vz_bipush (t9 : List IN) (r : RS) (v : Int) : vcB l n k nL rt Q X K ((.bipush v, r) :: t9) pc ls st d u = (vcB l n k nL rt Q X K t9 (pc + 2) ls (.int (Int8.ofInt v).toInt32 :: st) d u) := propext Iff.rfl
theorem vz_sipush (t9 : List IN) (r : RS) (v : Int) : vcB l n k nL rt Q X K ((.sipush v, r) :: t9) pc ls st d u = (vcB l n k nL rt Q X K t9 (pc + 3) ls (.int (Int16.ofInt v).toInt32 :: st) d u) := propext Iff.rfl
theorem vz_lconst (t9 : List IN) (r : RS) (v : Fin 2) : vcB l n k nL rt Q X K ((.lconst v, r) :: t9) pc ls st d u = (vcB l n k nL rt Q X K t9 (pc + 1) ls (.long (Int64.ofNat (v : Nat)) :: st) d u) := propext Iff.rfl
theorem vz_iload_n (t9 : List IN) (r : RS) (j : Fin 4) : vcB l n k nL rt Q X K ((.iload_n j, r) :: t9) pc ls st d u = (lI ls j (fun x => vcB l n k nL rt Q X K t9 (pc + 1) ls (.int x :: st) d u)) := propext Iff.rfl
theorem vz_iload (t9 : List IN) (r : RS) (j : Nat) : vcB l n k nL rt Q X K ((.iload j, r) :: t9) pc ls st d u = (lI ls j (fun x => vcB l n k nL rt Q X K t9 (pc + 2) ls (.int x :: st) d u)) := propext Iff.rfl
theorem vz_aload_n (t9 : List IN) (r : RS) (j : Fin 4) : vcB l n k nL rt Q X K ((.aload_n j, r) :: t9) pc ls st d u = (lR ls j (fun x => vcB l n k nL rt Q X K t9 (pc + 1) ls (.ref x :: st) d u)) := propext Iff.rfl
theorem vz_aload (t9 : List IN) (r : RS) (j : Nat) : vcB l n k nL rt Q X K ((.aload j, r) :: t9) pc ls st d u = (lR ls j (fun x => vcB l n k nL rt Q X K t9 (pc + 2) ls (.ref x :: st) d u)) := propext Iff.rfl
theorem vz_lload_n (t9 : List IN) (r : RS) (j : Fin 4) : vcB l n k nL rt Q X K ((.lload_n j, r) :: t9) pc ls st d u = (lL ls j (fun x => vcB l n k nL rt Q X K t9 (pc + 1) ls (.long x :: st) d u)) := propext Iff.rfl
theorem vz_lload (t9 : List IN) (r : RS) (j : Nat) : vcB l n k nL rt Q X K ((.lload j, r) :: t9) pc ls st d u = (lL ls j (fun x => vcB l n k nL rt Q X K t9 (pc + 2) ls (.long x :: st) d u)) := propext Iff.rfl
theorem vz_istore_n (t9 : List IN) (r : RS) (j : Fin 4) : vcB l n k nL rt Q X K ((.istore_n j, r) :: t9) pc ls st d u = (pI st (fun x t => (j : Nat) < nL ∧ lok ls j = true ∧ vcB l n k nL rt Q X K t9 (pc + 1) (ls.set j (some (.int x))) t d u)) := propext Iff.rfl
theorem vz_istore (t9 : List IN) (r : RS) (j : Nat) : vcB l n k nL rt Q X K ((.istore j, r) :: t9) pc ls st d u = (pI st (fun x t => j < nL ∧ lok ls j = true ∧ vcB l n k nL rt Q X K t9 (pc + 2) (ls.set j (some (.int x))) t d u)) := propext Iff.rfl
theorem vz_astore_n (t9 : List IN) (r : RS) (j : Fin 4) : vcB l n k nL rt Q X K ((.astore_n j, r) :: t9) pc ls st d u = (pR st (fun x t => (j : Nat) < nL ∧ lok ls j = true ∧ vcB l n k nL rt Q X K t9 (pc + 1) (ls.set j (some (.ref x))) t d u)) := propext Iff.rfl
theorem vz_astore (t9 : List IN) (r : RS) (j : Nat) : vcB l n k nL rt Q X K ((.astore j, r) :: t9) pc ls st d u = (pR st (fun x t => j < nL ∧ lok ls j = true ∧ vcB l n k nL rt Q X K t9 (pc + 2) (ls.set j (some (.ref x))) t d u)) := propext Iff.rfl
theorem vz_iinc (t9 : List IN) (r : RS) (j : Nat) (v : Int) : vcB l n k nL rt Q X K ((.iinc j v, r) :: t9) pc ls st d u = (lI ls j (fun x => j < nL ∧ lok ls j = true ∧ vcB l n k nL rt Q X K t9 (pc + 3) (ls.set j (some (.int (x + Int32.ofInt v)))) st d u)) := propext Iff.rfl
theorem vz_iadd (t9 : List IN) (r : RS) : vcB l n k nL rt Q X K ((.iadd, r) :: t9) pc ls st d u = (pII st (fun x y t => vcB l n k nL rt Q X K t9 (pc + 1) ls (.int (x + y) :: t) d u)) := propext Iff.rfl
theorem vz_isub (t9 : List IN) (r : RS) : vcB l n k nL rt Q X K ((.isub, r) :: t9) pc ls st d u = (pII st (fun x y t => vcB l n k nL rt Q X K t9 (pc + 1) ls (.int (x - y) :: t) d u)) := propext Iff.rfl
theorem vz_imul (t9 : List IN) (r : RS) : vcB l n k nL rt Q X K ((.imul, r) :: t9) pc ls st d u = (pII st (fun x y t => vcB l n k nL rt Q X K t9 (pc + 1) ls (.int (x * y) :: t) d u)) := propext Iff.rfl
theorem vz_iand (t9 : List IN) (r : RS) : vcB l n k nL rt Q X K ((.iand, r) :: t9) pc ls st d u = (pII st (fun x y t => vcB l n k nL rt Q X K t9 (pc + 1) ls (.int (x &&& y) :: t) d u)) := propext Iff.rfl
theorem vz_ior (t9 : List IN) (r : RS) : vcB l n k nL rt Q X K ((.ior, r) :: t9) pc ls st d u = (pII st (fun x y t => vcB l n k nL rt Q X K t9 (pc + 1) ls (.int (x ||| y) :: t) d u)) := propext Iff.rfl
theorem vz_ixor (t9 : List IN) (r : RS) : vcB l n k nL rt Q X K ((.ixor, r) :: t9) pc ls st d u = (pII st (fun x y t => vcB l n k nL rt Q X K t9 (pc + 1) ls (.int (x ^^^ y) :: t) d u)) := propext Iff.rfl
theorem vz_ishl (t9 : List IN) (r : RS) : vcB l n k nL rt Q X K ((.ishl, r) :: t9) pc ls st d u = (pII st (fun x y t => vcB l n k nL rt Q X K t9 (pc + 1) ls (.int (x <<< (y &&& 31)) :: t) d u)) := propext Iff.rfl
theorem vz_ishr (t9 : List IN) (r : RS) : vcB l n k nL rt Q X K ((.ishr, r) :: t9) pc ls st d u = (pII st (fun x y t => vcB l n k nL rt Q X K t9 (pc + 1) ls (.int (x >>> (y &&& 31)) :: t) d u)) := propext Iff.rfl
theorem vz_iushr (t9 : List IN) (r : RS) : vcB l n k nL rt Q X K ((.iushr, r) :: t9) pc ls st d u = (pII st (fun x y t => vcB l n k nL rt Q X K t9 (pc + 1) ls (.int (x.toUInt32 >>> (y.toUInt32 &&& Int32.toUInt32 31)).toInt32 :: t) d u)) := propext Iff.rfl
theorem vz_idiv (t9 : List IN) (r : RS) : vcB l n k nL rt Q X K ((.idiv, r) :: t9) pc ls st d u = (pII st (fun x y t => ¬ y = 0 ∧ vcB l n k nL rt Q X K t9 (pc + 1) ls (.int (x / y) :: t) d u)) := propext Iff.rfl
theorem vz_irem (t9 : List IN) (r : RS) : vcB l n k nL rt Q X K ((.irem, r) :: t9) pc ls st d u = (pII st (fun x y t => ¬ y = 0 ∧ vcB l n k nL rt Q X K t9 (pc + 1) ls (.int (x - x / y * y) :: t) d u)) := propext Iff.rfl
theorem vz_ineg (t9 : List IN) (r : RS) : vcB l n k nL rt Q X K ((.ineg, r) :: t9) pc ls st d u = (pI st (fun x t => vcB l n k nL rt Q X K t9 (pc + 1) ls (.int (-x) :: t) d u)) := propext Iff.rfl
theorem vz_i2l (t9 : List IN) (r : RS) : vcB l n k nL rt Q X K ((.i2l, r) :: t9) pc ls st d u = (pI st (fun x t => vcB l n k nL rt Q X K t9 (pc + 1) ls (.long x.toInt64 :: t) d u)) := propext Iff.rfl
theorem vz_i2b (t9 : List IN) (r : RS) : vcB l n k nL rt Q X K ((.i2b, r) :: t9) pc ls st d u = (pI st (fun x t => vcB l n k nL rt Q X K t9 (pc + 1) ls (.int x.toInt8.toInt32 :: t) d u)) := propext Iff.rfl
theorem vz_lcmp (t9 : List IN) (r : RS) : vcB l n k nL rt Q X K ((.lcmp, r) :: t9) pc ls st d u = (pLL st (fun x y t => vcB l n k nL rt Q X K t9 (pc + 1) ls (.int (lg_cmp x y) :: t) d u)) := propext Iff.rfl
theorem vz_dup2 (t9 : List IN) (r : RS) : vcB l n k nL rt Q X K ((.dup2, r) :: t9) pc ls st d u = (pIR st (fun x a t => vcB l n k nL rt Q X K t9 (pc + 1) ls (.int x :: .ref a :: .int x :: .ref a :: t) d u)) := propext Iff.rfl
theorem vz_getfield (t9 : List IN) (r : RS) (x0 : Nat) : vcB l n k nL rt Q X K ((.getfield x0, r) :: t9) pc ls st d u = (pR st (fun a t => fK a r.1 r.2.1 (fun code => vcB l n k nL rt Q X K t9 (pc + 3) ls (slv d a r.2.1 code :: t) d u))) := propext Iff.rfl
theorem vz_iaload (t9 : List IN) (r : RS) : vcB l n k nL rt Q X K ((.iaload, r) :: t9) pc ls st d u = (pIR st (fun i a t => aK a 1 (fun len _ => vp_in i len ∧ vcB l n k nL rt Q X K t9 (pc + 1) ls (.int (d a i.toNatClampNeg) :: t) d u))) := propext Iff.rfl
theorem vz_baload (t9 : List IN) (r : RS) : vcB l n k nL rt Q X K ((.baload, r) :: t9) pc ls st d u = (pIR st (fun i a t => aK a 2 (fun len _ => vp_in i len ∧ vcB l n k nL rt Q X K t9 (pc + 1) ls (.int (d a i.toNatClampNeg) :: t) d u))) := propext Iff.rfl
theorem vz_laload (t9 : List IN) (r : RS) : vcB l n k nL rt Q X K ((.laload, r) :: t9) pc ls st d u = (pIR st (fun i a t => aK a 3 (fun len _ => vp_in i len ∧ vcB l n k nL rt Q X K t9 (pc + 1) ls (.long (d a i.toNatClampNeg).toInt64 :: t) d u))) := propext Iff.rfl
theorem vz_iastore (t9 : List IN) (r : RS) : vcB l n k nL rt Q X K ((.iastore, r) :: t9) pc ls st d u = (pIIR st (fun x i a t => aK a 1 (fun len _ => vp_in i len ∧ vcB l n k nL rt Q X K t9 (pc + 1) ls t (dset d a i.toNatClampNeg x) u))) := propext Iff.rfl
theorem vz_bastore (t9 : List IN) (r : RS) : vcB l n k nL rt Q X K ((.bastore, r) :: t9) pc ls st d u = (pIIR st (fun x i a t => aK a 2 (fun len _ => vp_in i len ∧ vcB l n k nL rt Q X K t9 (pc + 1) ls t (dset d a i.toNatClampNeg x.toInt8.toInt32) u))) := propext Iff.rfl
theorem vz_ifCond (t9 : List IN) (r : RS) (q : ClassFile.Cond) (off : Int) : vcB l n k nL rt Q X K ((.ifCond q off, r) :: t9) pc ls st d u = (pI st (fun x t => (cnd q x 0 → K (tgt pc off) ls t d u) ∧ (¬ cnd q x 0 → vcB l n k nL rt Q X K t9 (pc + 3) ls t d u))) := propext Iff.rfl
theorem vz_if_icmp (t9 : List IN) (r : RS) (q : ClassFile.Cond) (off : Int) : vcB l n k nL rt Q X K ((.if_icmp q off, r) :: t9) pc ls st d u = (pII st (fun x y t => (cnd q x y → K (tgt pc off) ls t d u) ∧ (¬ cnd q x y → vcB l n k nL rt Q X K t9 (pc + 3) ls t d u))) := propext Iff.rfl
theorem vz_goto (t9 : List IN) (r : RS) (off : Int) : vcB l n k nL rt Q X K ((.goto off, r) :: t9) pc ls st d u = (K (tgt pc off) ls st d u) := propext Iff.rfl
theorem vz_tableswitch (t9 : List IN) (r : RS) (dflt : Int) (lo : Int) (hi : Int) (offs : Array Int) : vcB l n k nL rt Q X K ((.tableswitch dflt lo hi offs, r) :: t9) pc ls st d u = (pI st (fun x t => (∀ (j : Nat) (off : Int), offs[j]? = some off → x.toInt = lo + j → K (tgt pc off) ls t d u) ∧ ((x.toInt < lo ∨ hi < x.toInt) → K (tgt pc dflt) ls t d u))) := propext Iff.rfl
theorem vz_lookupswitch (t9 : List IN) (r : RS) (dflt : Int) (ps : Array (Int × Int)) : vcB l n k nL rt Q X K ((.lookupswitch dflt ps, r) :: t9) pc ls st d u = (pI st (fun x t => K (tgt pc (Op.lookupswitch.offset ps.toList dflt x.toInt)) ls t d u)) := propext Iff.rfl
theorem vz_return_ (t9 : List IN) (r : RS) : vcB l n k nL rt Q X K ((.return_, r) :: t9) pc ls st d u = (st = [] ∧ rt = none ∧ u ≤ k ∧ Q none d) := propext Iff.rfl
theorem vz_ldc (t9 : List IN) (r : RS) (x0 : Nat) : vcB l n k nL rt Q X K ((.ldc x0, r) :: t9) pc ls st d u = (vcB l n k nL rt Q X K t9 (pc + 2) ls ((if r.1 = 0 then .int (nI r.2.1) else .ref (1000 + r.2.1)) :: st) d u) := propext Iff.rfl
theorem vz_ldc_w (t9 : List IN) (r : RS) (x0 : Nat) : vcB l n k nL rt Q X K ((.ldc_w x0, r) :: t9) pc ls st d u = (vcB l n k nL rt Q X K t9 (pc + 3) ls ((if r.1 = 0 then .int (nI r.2.1) else .ref (1000 + r.2.1)) :: st) d u) := propext Iff.rfl
theorem vz_ldc2_w (t9 : List IN) (r : RS) (x0 : Nat) : vcB l n k nL rt Q X K ((.ldc2_w x0, r) :: t9) pc ls st d u = (vcB l n k nL rt Q X K t9 (pc + 3) ls (.long (lng r) :: st) d u) := propext Iff.rfl
theorem vz_new (t9 : List IN) (r : RS) (x0 : Nat) : vcB l n k nL rt Q X K ((.new x0, r) :: t9) pc ls st d u = (6 ≤ n + 1 ∧ catL st ≤ 8 ∧ u + 1 ≤ k ∧ X (exn r.1) d) := propext Iff.rfl
theorem vz_callV (t9 : List IN) (i ci na kc : Nat) (me : ME) : vcB l n k nL rt Q X K ((.invokevirtual i, (ci, na, kc, some me)) :: t9) pc ls st d u = dR st na (fun b rest => rcv ci b ∧ na ≤ st.length ∧ u + kc ≤ k ∧ catL rest ≤ 8 ∧ CM l me n kc (.ref b :: (st.take na).reverse) d (cnt l n k nL rt Q X K t9 (pc + 3) ls rest (u + kc)) X) := by
  show vcI l n k nL rt Q X K pc _ _ _ ls st d u = _
  simp only [vcI]
  rw [dR_eq]
  generalize st.drop na = z
  match z with
  | [] => rfl
  | .ref b :: rest => rfl
  | .int _ :: _ => rfl
  | .long _ :: _ => rfl
  | .float _ :: _ => rfl
  | .double _ :: _ => rfl
  | .null :: _ => rfl
  | .retAddr _ :: _ => rfl
theorem vz_callS (t9 : List IN) (i c na kc : Nat) (me : ME) : vcB l n k nL rt Q X K ((.invokestatic i, (c, na, kc, some me)) :: t9) pc ls st d u = (na ≤ st.length ∧ u + kc ≤ k ∧ catL (st.drop na) ≤ 8 ∧ CM l me n kc (st.take na).reverse d (cnt l n k nL rt Q X K t9 (pc + 3) ls (st.drop na) (u + kc)) X) := propext Iff.rfl
theorem vz_max (t9 : List IN) (i : Nat) (x y : Int32) : vcB l n k nL rt Q X K ((.invokestatic i, (1, 0, 0, none)) :: t9) pc ls (.int y :: .int x :: st) d u = (u ≤ k ∧ catL st ≤ 8 ∧ vcB l n k nL rt Q X K t9 (pc + 3) ls (.int (if x < y then y else x) :: st) d u) := propext Iff.rfl
theorem vz_min (t9 : List IN) (i : Nat) (x y : Int32) : vcB l n k nL rt Q X K ((.invokestatic i, (2, 0, 0, none)) :: t9) pc ls (.int y :: .int x :: st) d u = (u ≤ k ∧ catL st ≤ 8 ∧ vcB l n k nL rt Q X K t9 (pc + 3) ls (.int (if y < x then y else x) :: st) d u) := propext Iff.rfl
theorem vz_abs (t9 : List IN) (i : Nat) (x : Int32) : vcB l n k nL rt Q X K ((.invokestatic i, (3, 0, 0, none)) :: t9) pc ls (.int x :: st) d u = (u ≤ k ∧ catL st ≤ 8 ∧ vcB l n k nL rt Q X K t9 (pc + 3) ls (.int (if 0 ≤ x then x else 0 - x) :: st) d u) := propext Iff.rfl
theorem vz_copy (t9 : List IN) (i a b : Nat) (cn dp sp : Int32) : vcB l n k nL rt Q X K ((.invokestatic i, (4, 0, 0, none)) :: t9) pc ls (.int cn :: .int dp :: .ref b :: .int sp :: .ref a :: st) d u = (u ≤ k ∧ aK a 1 (fun n0 _ => aK b 1 (fun n1 _ => ¬ sp < 0 ∧ ¬ dp < 0 ∧ ¬ cn < 0 ∧ sp.toNatClampNeg + cn.toNatClampNeg ≤ n0 ∧ dp.toNatClampNeg + cn.toNatClampNeg ≤ n1 ∧ catL st ≤ 8 ∧ vcB l n k nL rt Q X K t9 (pc + 3) ls st (drow d b (va_cpy (d a) (d b) sp.toNatClampNeg dp.toNatClampNeg cn.toNatClampNeg)) u))) := propext Iff.rfl
theorem vz_dup (t9 : List IN) (r : RS) (v : Value) : vcB l n k nL rt Q X K ((.dup, r) :: t9) pc ls (v :: st) d u = (v.category = 1 ∧ vcB l n k nL rt Q X K t9 (pc + 1) ls (v :: v :: st) d u) := propext Iff.rfl
theorem vz_putI (t9 : List IN) (i ci j ty a : Nat) (o : Option ME) (x : Int32) : vcB l n k nL rt Q X K ((.putfield i, (ci, j, ty, o)) :: t9) pc ls (.int x :: .ref a :: st) d u = fK a ci j (fun code => code = 0 ∧ (ty = 0 ∨ ty = 1 ∧ (x = 0 ∨ x = 1)) ∧ vcB l n k nL rt Q X K t9 (pc + 3) ls st (dset d a j x) u) := propext Iff.rfl
theorem vz_putR (t9 : List IN) (i ci j ty a b : Nat) (o : Option ME) : vcB l n k nL rt Q X K ((.putfield i, (ci, j, ty, o)) :: t9) pc ls (.ref b :: .ref a :: st) d u = fK a ci j (fun code => code = 1 ∧ ty = 2 ∧ b < 1000 ∧ vcB l n k nL rt Q X K t9 (pc + 3) ls st (dset d a j (nI b)) u) := propext Iff.rfl
theorem vz_ireturn (t9 : List IN) (r : RS) (x : Int32) : vcB l n k nL rt Q X K ((.ireturn, r) :: t9) pc ls [.int x] d u = (rok rt x ∧ u ≤ k ∧ Q (some (.int x)) d) := propext Iff.rfl
theorem vz_alen (t9 : List IN) (r : RS) (a : Nat) : vcB l n k nL rt Q X K ((.arraylength, r) :: t9) pc ls (.ref a :: st) d u = bK a (fun len => vcB l n k nL rt Q X K t9 (pc + 1) ls (.int (nI len) :: st) d u) := propext Iff.rfl
theorem vz_aaload (t9 : List IN) (r : RS) (a : Nat) (i : Int32) : vcB l n k nL rt Q X K ((.aaload, r) :: t9) pc ls (.int i :: .ref a :: st) d u = aK a 4 (fun len q => vp_in i len ∧ (match q[i.toNatClampNeg]? with
    | some b => vcB l n k nL rt Q X K t9 (pc + 1) ls (.ref b :: st) d u
    | none => False)) := propext Iff.rfl
end Vz
section VzT
variable {l : Launch} {n k nL : Nat} {rt : Option FieldType} {Q : Option Value → DS → Prop} {X : String → DS → Prop} {bls : List (Nat × List IN)} {K : Nat → ALs → List Value → DS → Nat → Prop} {heads : List Nat} {f pc : Nat} {ls : ALs} {st : List Value} {d : DS} {u : Nat} {bl : List IN}
theorem vt_stop (h : pc ∈ heads) : vcT l n k nL rt Q X bls K heads f pc ls st d u = K pc ls st d u := by
  cases f with
  | zero => rfl
  | succ f => unfold vcT; rw [if_pos h]
theorem vt_go (hb : blk bls pc = some bl) (h : pc ∉ heads) : vcT l n k nL rt Q X bls K heads (f + 1) pc ls st d u = vcB l n k nL rt Q X (vcT l n k nL rt Q X bls K heads f) bl pc ls st d u := by
  rw [vcT, if_neg h, hb]
theorem vh_go (hb : blk bls pc = some bl) : vcH l n k nL rt Q X bls K heads f pc ls st d u = vcB l n k nL rt Q X (vcT l n k nL rt Q X bls K heads f) bl pc ls st d u := by
  rw [vcH, hb]
theorem vt_0 : vcT l n k nL rt Q X bls K heads 0 pc ls st d u = K pc ls st d u := propext Iff.rfl
end VzT
theorem pI_c (x : Int32) (r : List Value) (f : Int32 → List Value → Prop) : pI (.int x :: r) f = f x r := propext Iff.rfl
theorem pII_c (x y : Int32) (r : List Value) (f : Int32 → Int32 → List Value → Prop) : pII (.int y :: .int x :: r) f = f x y r := propext Iff.rfl
theorem pLL_c (x y : Int64) (r : List Value) (f : Int64 → Int64 → List Value → Prop) : pLL (.long y :: .long x :: r) f = f x y r := propext Iff.rfl
theorem pR_c (x : Nat) (r : List Value) (f : Nat → List Value → Prop) : pR (.ref x :: r) f = f x r := propext Iff.rfl
theorem pIR_c (i : Int32) (a : Nat) (r : List Value) (f : Int32 → Nat → List Value → Prop) : pIR (.int i :: .ref a :: r) f = f i a r := propext Iff.rfl
theorem pIIR_c (x i : Int32) (a : Nat) (r : List Value) (f : Int32 → Int32 → Nat → List Value → Prop) : pIIR (.int x :: .int i :: .ref a :: r) f = f x i a r := propext Iff.rfl
theorem lI_0 (x : Int32) (r : ALs) (f : Int32 → Prop) : lI (some (.int x) :: r) 0 f = f x := propext Iff.rfl
theorem lI_s (o : Option Value) (r : ALs) (j : Nat) (f : Int32 → Prop) : lI (o :: r) (j + 1) f = lI r j f := propext Iff.rfl
theorem lR_0 (x : Nat) (r : ALs) (f : Nat → Prop) : lR (some (.ref x) :: r) 0 f = f x := propext Iff.rfl
theorem lR_s (o : Option Value) (r : ALs) (j : Nat) (f : Nat → Prop) : lR (o :: r) (j + 1) f = lR r j f := propext Iff.rfl
theorem lL_0 (x : Int64) (r : ALs) (f : Int64 → Prop) : lL (some (.long x) :: r) 0 f = f x := propext Iff.rfl
theorem lL_s (o : Option Value) (r : ALs) (j : Nat) (f : Int64 → Prop) : lL (o :: r) (j + 1) f = lL r j f := propext Iff.rfl
theorem dR_0 (b : Nat) (r : List Value) (f : Nat → List Value → Prop) : dR (.ref b :: r) 0 f = f b r := propext Iff.rfl
theorem dR_s (v : Value) (r : List Value) (j : Nat) (f : Nat → List Value → Prop) : dR (v :: r) (j + 1) f = dR r j f := propext Iff.rfl
theorem aK_of {a t len : Nat} {q : List Nat} (h : lay[a]? = some (t, len, q)) (f : Nat → List Nat → Prop) : aK a t f = f len q := by
  unfold aK
  rw [h]
  exact propext ⟨fun z => z.2, fun z => ⟨rfl, z⟩⟩
theorem bK_of {a t len : Nat} {q : List Nat} (h : lay[a]? = some (t + 1, len, q)) (ht : t < 4) (f : Nat → Prop) : bK a f = f len := by
  unfold bK
  rw [h]
  exact propext ⟨fun z => z.2.2, fun z => ⟨by dsimp only; omega, by dsimp only; omega, z⟩⟩
def nK (sl : List Nat) (j : Nat) (f : Nat → Prop) : Prop := match sl[j]? with
  | some code => f code
  | none => False
theorem nK_0 (c : Nat) (r : List Nat) (f : Nat → Prop) : nK (c :: r) 0 f = f c := propext Iff.rfl
theorem nK_s (c : Nat) (r : List Nat) (j : Nat) (f : Nat → Prop) : nK (c :: r) (j + 1) f = nK r j f := by
  unfold nK
  simp only [List.getElem?_cons_succ]
theorem fK_of {a ci : Nat} {sl : List Nat} (h : lay[a]? = some (0, ci, sl)) (j : Nat) (f : Nat → Prop) : fK a ci j f = nK sl j f := by
  unfold fK
  rw [h]
  exact propext ⟨fun z => z.2.2, fun z => ⟨rfl, rfl, z⟩⟩
/-- CM.tree, the method's numbers written out -/
theorem CM.tree2 {l : Launch} {me : ME} {n k : Nat} {as : List Value} {d : DS} {Q : Option Value → DS → Prop} {X : String → DS → Prop} (nL : Nat) (rt : Option FieldType) (ls0 : ALs) (h1 : me.2.2.1 = nL) (h2 : me.2.2.2 = rt) (hl : l.stackTraces = false) (bls : List (Nat × List IN)) (heads : List Nat) (hy : plainName me.1.cls = true) (hok : ∀ q ∈ bls, okB me.1.cls me.2.1 q.1 q.2) (hlen : (eloc as).length ≤ nL) (h0 : eloc as ++ List.replicate (nL - (eloc as).length) none = ls0)
    (body : ∀ K : Nat → ALs → List Value → DS → Nat → Prop, (∀ (f pc : Nat) (ls : ALs) (st : List Value) (d : DS) (u : Nat), vcH l n k nL rt Q X bls K heads f pc ls st d u → K pc ls st d u) → (∀ pc ls ls' st d u, (∀ (i : Nat) (v : Value), ls'[i]? = some (some v) → ls[i]? = some (some v)) → K pc ls' st d u → K pc ls st d u) →
      K 0 ls0 [] d 0) : CM l me (n + 1) k as d Q X := by
  subst h1 h2 h0
  exact CM.tree hl bls heads hy hok hlen body
