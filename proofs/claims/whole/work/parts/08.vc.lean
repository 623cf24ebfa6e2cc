/-! A BLOCK OF INSTRUCTIONS AS A PROPOSITION -/
/-- what an instruction's entry resolves to: (class, slot, type) of a field; (class or 99 for String, how many arguments, cells, the method); .. -/
abbrev RS : Type := Nat × Nat × Nat × Option ME
abbrev IN : Type := Instr × RS
def ilen : Instr → Nat
  | .bipush _ | .iload _ | .aload _ | .lload _ | .istore _ | .astore _ | .ldc _ => 2
  | .sipush _ | .ldc_w _ | .ldc2_w _ | .iinc _ _ | .goto _ | .ifCond _ _ | .if_icmp _ _ | .getfield _ | .putfield _ | .invokevirtual _ | .invokestatic _ | .new _ => 3
  | _ => 1
def dcd (cc : ByteArray) (pc : Nat) (i : Instr) : Prop := match i with
  | .tableswitch .. => ∃ len, decode cc pc = .ok (i, len)
  | .lookupswitch .. => ∃ len, decode cc pc = .ok (i, len)
  | i => decode cc pc = .ok (i, ilen i)
def exn (r : Nat) : String := if r = 0 then "java/util/NoSuchElementException" else "java/lang/IllegalArgumentException"
def lng (r : RS) : Int64 := if r.2.2.1 = 0 then Int64.ofNat r.2.1 else Int64.ofInt (-(r.2.1 : Int))
def lnk (own : String) (cc : ByteArray) (pc : Nat) (i : Instr) (r : RS) : Prop := match i with
  | .getfield idx => okF own idx r.1 r.2.1
  | .putfield idx => okF own idx r.1 r.2.1 ∧ okP r.1 r.2.1 r.2.2.1
  | .invokevirtual idx => ∃ me, r.2.2.2 = some me ∧ ((r.1 = 99 ∧ okV own idx "java/lang/String" me r.2.1) ∨ ∃ C T N, vwCl[r.1]? = some (C, T, N) ∧ okV own idx C me r.2.1)
  | .invokestatic idx => match r.2.2.2 with
    | some me => okS own idx me r.2.1
    | none => (r.1 = 1 ∧ okMath own idx Lib.Math.max.name Lib.Math.max.code 2) ∨ (r.1 = 2 ∧ okMath own idx Lib.Math.min.name Lib.Math.min.code 2) ∨ (r.1 = 3 ∧ okMath own idx Lib.Math.abs.name Lib.Math.abs.code 1) ∨ (r.1 = 4 ∧ okCopy own idx)
  | .ldc idx => (r.1 = 0 ∧ Jvm.Cond.constant own idx (nI r.2.1) ∈ gw) ∨ (r.1 = 1 ∧ ∃ tx, (own, idx, tx, r.2.1) ∈ strs)
  | .ldc_w idx => (r.1 = 0 ∧ Jvm.Cond.constant own idx (nI r.2.1) ∈ gw) ∨ (r.1 = 1 ∧ ∃ tx, (own, idx, tx, r.2.1) ∈ strs)
  | .ldc2_w idx => Jvm.Cond.constantLong own idx (lng r) ∈ gw
  | .new ik => ∃ (text : String) (j : Nat), okT own (exn r.1) text ik r.2.1 r.2.2.1 j ∧ decode cc (pc + 3) = .ok (.dup, 1) ∧ ((decode cc (pc + 4) = .ok (.ldc r.2.1, 2) ∧ decode cc (pc + 6) = .ok (.invokespecial r.2.2.1, 3) ∧ decode cc (pc + 9) = .ok (.athrow, 1)) ∨ (decode cc (pc + 4) = .ok (.ldc_w r.2.1, 3) ∧ decode cc (pc + 7) = .ok (.invokespecial r.2.2.1, 3) ∧ decode cc (pc + 10) = .ok (.athrow, 1)))
  | .goto off => 0 ≤ (pc : Int) + off
  | .ifCond _ off => 0 ≤ (pc : Int) + off
  | .if_icmp _ off => 0 ≤ (pc : Int) + off
  | .tableswitch dflt lo hi offs => lo + offs.size = hi + 1 ∧ (offs.toList.all (fun off => decide (0 ≤ (pc : Int) + off))) = true ∧ 0 ≤ (pc : Int) + dflt
  | .lookupswitch dflt ps => (ps.toList.zip (ps.toList.drop 1)).all (fun (a, next) => a.1 < next.1) = true ∧ (ps.toList.all (fun q => decide (0 ≤ (pc : Int) + q.2))) = true ∧ 0 ≤ (pc : Int) + dflt
  | _ => True
def okB (own : String) (cc : ByteArray) : Nat → List IN → Prop
  | _, [] => True
  | pc, q :: t => dcd cc pc q.1 ∧ lnk own cc pc q.1 q.2 ∧ okB own cc (pc + ilen q.1) t
def pI (st : List Value) (f : Int32 → List Value → Prop) : Prop := match st with
  | .int x :: r => f x r
  | _ => False
def pII (st : List Value) (f : Int32 → Int32 → List Value → Prop) : Prop := match st with
  | .int y :: .int x :: r => f x y r
  | _ => False
def pLL (st : List Value) (f : Int64 → Int64 → List Value → Prop) : Prop := match st with
  | .long y :: .long x :: r => f x y r
  | _ => False
def pR (st : List Value) (f : Nat → List Value → Prop) : Prop := match st with
  | .ref a :: r => f a r
  | _ => False
def pIR (st : List Value) (f : Int32 → Nat → List Value → Prop) : Prop := match st with
  | .int i :: .ref a :: r => f i a r
  | _ => False
def pIIR (st : List Value) (f : Int32 → Int32 → Nat → List Value → Prop) : Prop := match st with
  | .int x :: .int i :: .ref a :: r => f x i a r
  | _ => False
def lI (ls : ALs) (j : Nat) (f : Int32 → Prop) : Prop := match ls[j]? with
  | some (some (.int x)) => f x
  | _ => False
def lR (ls : ALs) (j : Nat) (f : Nat → Prop) : Prop := match ls[j]? with
  | some (some (.ref x)) => f x
  | _ => False
def lL (ls : ALs) (j : Nat) (f : Int64 → Prop) : Prop := match ls[j]? with
  | some (some (.long x)) => f x
  | _ => False
/-- the cell a is of the kind t -/
def aK (a t : Nat) (f : Nat → List Nat → Prop) : Prop := match lay[a]? with
  | some q => q.1 = t ∧ f q.2.1 q.2.2
  | none => False
/-- the slot j of the object a of the class ci -/
def fK (a ci j : Nat) (f : Nat → Prop) : Prop := match lay[a]? with
  | some q => q.1 = 0 ∧ q.2.1 = ci ∧ (match q.2.2[j]? with
    | some code => f code
    | none => False)
  | none => False
def rcv (ci b : Nat) : Prop := (ci = 99 ∧ 1000 ≤ b ∧ b < 1028) ∨ ∃ sl, lay[b]? = some (0, ci, sl)
def catL (st : List Value) : Nat := (st.map fun v => v.category).sum
def rok (rt : Option FieldType) (x : Int32) : Prop := match rt with
  | some .int => True
  | some .boolean => x = 0 ∨ x = 1
  | some ty => narrow ty (.int x) = .int x
  | none => False
def tgt (pc : Nat) (off : Int) : Nat := ((pc : Int) + off).toNat
section Vc
variable (l : Launch) (n k nL : Nat) (rt : Option FieldType) (Q : Option Value → DS → Prop) (X : String → DS → Prop) (K : Nat → ALs → List Value → DS → Nat → Prop)
def vcI (pc : Nat) (i : Instr) (r : RS) (kk : ALs → List Value → DS → Nat → Prop) (ls : ALs) (st : List Value) (d : DS) (u : Nat) : Prop := match i with
  | .iconst v => kk ls (.int (Int32.ofInt v) :: st) d u
  | .bipush v => kk ls (.int (Int8.ofInt v).toInt32 :: st) d u
  | .sipush v => kk ls (.int (Int16.ofInt v).toInt32 :: st) d u
  | .lconst v => kk ls (.long (Int64.ofNat (v : Nat)) :: st) d u
  | .iload_n j => lI ls j (fun x => kk ls (.int x :: st) d u)
  | .iload j => lI ls j (fun x => kk ls (.int x :: st) d u)
  | .aload_n j => lR ls j (fun x => kk ls (.ref x :: st) d u)
  | .aload j => lR ls j (fun x => kk ls (.ref x :: st) d u)
  | .lload_n j => lL ls j (fun x => kk ls (.long x :: st) d u)
  | .lload j => lL ls j (fun x => kk ls (.long x :: st) d u)
  | .istore_n j => pI st (fun x t => (j : Nat) < nL ∧ lok ls j = true ∧ kk (ls.set j (some (.int x))) t d u)
  | .istore j => pI st (fun x t => j < nL ∧ lok ls j = true ∧ kk (ls.set j (some (.int x))) t d u)
  | .astore_n j => pR st (fun x t => (j : Nat) < nL ∧ lok ls j = true ∧ kk (ls.set j (some (.ref x))) t d u)
  | .astore j => pR st (fun x t => j < nL ∧ lok ls j = true ∧ kk (ls.set j (some (.ref x))) t d u)
  | .iinc j v => lI ls j (fun x => j < nL ∧ lok ls j = true ∧ kk (ls.set j (some (.int (x + Int32.ofInt v)))) st d u)
  | .iadd => pII st (fun x y t => kk ls (.int (x + y) :: t) d u)
  | .isub => pII st (fun x y t => kk ls (.int (x - y) :: t) d u)
  | .imul => pII st (fun x y t => kk ls (.int (x * y) :: t) d u)
  | .iand => pII st (fun x y t => kk ls (.int (x &&& y) :: t) d u)
  | .ior => pII st (fun x y t => kk ls (.int (x ||| y) :: t) d u)
  | .ixor => pII st (fun x y t => kk ls (.int (x ^^^ y) :: t) d u)
  | .ishl => pII st (fun x y t => kk ls (.int (x <<< (y &&& 31)) :: t) d u)
  | .ishr => pII st (fun x y t => kk ls (.int (x >>> (y &&& 31)) :: t) d u)
  | .iushr => pII st (fun x y t => kk ls (.int (x.toUInt32 >>> (y.toUInt32 &&& Int32.toUInt32 31)).toInt32 :: t) d u)
  | .idiv => pII st (fun x y t => ¬ y = 0 ∧ kk ls (.int (x / y) :: t) d u)
  | .irem => pII st (fun x y t => ¬ y = 0 ∧ kk ls (.int (x - x / y * y) :: t) d u)
  | .ineg => pI st (fun x t => kk ls (.int (-x) :: t) d u)
  | .i2l => pI st (fun x t => kk ls (.long x.toInt64 :: t) d u)
  | .i2b => pI st (fun x t => kk ls (.int x.toInt8.toInt32 :: t) d u)
  | .lcmp => pLL st (fun x y t => kk ls (.int (lg_cmp x y) :: t) d u)
  | .dup => match st with
    | v :: t => v.category = 1 ∧ kk ls (v :: v :: t) d u
    | _ => False
  | .dup2 => pIR st (fun x a t => kk ls (.int x :: .ref a :: .int x :: .ref a :: t) d u)
  | .getfield _ => pR st (fun a t => fK a r.1 r.2.1 (fun code => kk ls (slv d a r.2.1 code :: t) d u))
  | .putfield _ => match st with
    | .int x :: .ref a :: t => fK a r.1 r.2.1 (fun code => code = 0 ∧ (r.2.2.1 = 0 ∨ r.2.2.1 = 1 ∧ (x = 0 ∨ x = 1)) ∧ kk ls t (dset d a r.2.1 x) u)
    | .ref b :: .ref a :: t => fK a r.1 r.2.1 (fun code => code = 1 ∧ r.2.2.1 = 2 ∧ b < 1000 ∧ kk ls t (dset d a r.2.1 (nI b)) u)
    | _ => False
  | .iaload => pIR st (fun i a t => aK a 1 (fun len _ => vp_in i len ∧ kk ls (.int (d a i.toNatClampNeg) :: t) d u))
  | .baload => pIR st (fun i a t => aK a 2 (fun len _ => vp_in i len ∧ kk ls (.int (d a i.toNatClampNeg) :: t) d u))
  | .laload => pIR st (fun i a t => aK a 3 (fun len _ => vp_in i len ∧ kk ls (.long (d a i.toNatClampNeg).toInt64 :: t) d u))
  | .aaload => pIR st (fun i a t => aK a 4 (fun len q => vp_in i len ∧ (match q[i.toNatClampNeg]? with
    | some b => kk ls (.ref b :: t) d u
    | none => False)))
  | .iastore => pIIR st (fun x i a t => aK a 1 (fun len _ => vp_in i len ∧ kk ls t (dset d a i.toNatClampNeg x) u))
  | .bastore => pIIR st (fun x i a t => aK a 2 (fun len _ => vp_in i len ∧ kk ls t (dset d a i.toNatClampNeg x.toInt8.toInt32) u))
  | .arraylength => pR st (fun a t => match lay[a]? with
    | some q => 1 ≤ q.1 ∧ q.1 ≤ 4 ∧ kk ls (.int (nI q.2.1) :: t) d u
    | none => False)
  | .ifCond q off => pI st (fun x t => (cnd q x 0 → K (tgt pc off) ls t d u) ∧ (¬ cnd q x 0 → kk ls t d u))
  | .if_icmp q off => pII st (fun x y t => (cnd q x y → K (tgt pc off) ls t d u) ∧ (¬ cnd q x y → kk ls t d u))
  | .goto off => K (tgt pc off) ls st d u
  | .tableswitch dflt lo hi offs => pI st (fun x t => (∀ (j : Nat) (off : Int), offs[j]? = some off → x.toInt = lo + j → K (tgt pc off) ls t d u) ∧ ((x.toInt < lo ∨ hi < x.toInt) → K (tgt pc dflt) ls t d u))
  | .lookupswitch dflt ps => pI st (fun x t => K (tgt pc (Op.lookupswitch.offset ps.toList dflt x.toInt)) ls t d u)
  | .ireturn => match st with
    | [.int x] => rok rt x ∧ u ≤ k ∧ Q (some (.int x)) d
    | _ => False
  | .return_ => st = [] ∧ rt = none ∧ u ≤ k ∧ Q none d
  | .ldc _ => kk ls ((if r.1 = 0 then .int (nI r.2.1) else .ref (1000 + r.2.1)) :: st) d u
  | .ldc_w _ => kk ls ((if r.1 = 0 then .int (nI r.2.1) else .ref (1000 + r.2.1)) :: st) d u
  | .ldc2_w _ => kk ls (.long (lng r) :: st) d u
  | .new _ => 6 ≤ n + 1 ∧ catL st ≤ 8 ∧ u + 1 ≤ k ∧ X (exn r.1) d
  | .invokevirtual _ => match r.2.2.2, st.drop r.2.1 with
    | some me, .ref b :: t => rcv r.1 b ∧ r.2.1 ≤ st.length ∧ u + r.2.2.1 ≤ k ∧ catL t ≤ 8 ∧ CM l me n r.2.2.1 (.ref b :: (st.take r.2.1).reverse) d (fun v d' => kk ls (v.toList ++ t) d' (u + r.2.2.1)) X
    | _, _ => False
  | .invokestatic _ => match r.2.2.2 with
    | some me => r.2.1 ≤ st.length ∧ u + r.2.2.1 ≤ k ∧ catL (st.drop r.2.1) ≤ 8 ∧ CM l me n r.2.2.1 (st.take r.2.1).reverse d (fun v d' => kk ls (v.toList ++ st.drop r.2.1) d' (u + r.2.2.1)) X
    | none => u ≤ k ∧ (if r.1 = 1 then pII st (fun x y t => catL t ≤ 8 ∧ kk ls (.int (if x < y then y else x) :: t) d u)
      else if r.1 = 2 then pII st (fun x y t => catL t ≤ 8 ∧ kk ls (.int (if y < x then y else x) :: t) d u)
      else if r.1 = 3 then pI st (fun x t => catL t ≤ 8 ∧ kk ls (.int (if 0 ≤ x then x else 0 - x) :: t) d u)
      else match st with
        | .int cn :: .int dp :: .ref b :: .int sp :: .ref a :: t => aK a 1 (fun n0 _ => aK b 1 (fun n1 _ => ¬ sp < 0 ∧ ¬ dp < 0 ∧ ¬ cn < 0 ∧ sp.toNatClampNeg + cn.toNatClampNeg ≤ n0 ∧ dp.toNatClampNeg + cn.toNatClampNeg ≤ n1 ∧ catL t ≤ 8 ∧ kk ls t (drow d b (va_cpy (d a) (d b) sp.toNatClampNeg dp.toNatClampNeg cn.toNatClampNeg)) u))
        | _ => False)
  | _ => False
def vcB : List IN → Nat → ALs → List Value → DS → Nat → Prop
  | [], pc, ls, st, d, u => K pc ls st d u
  | q :: t, pc, ls, st, d, u => vcI l n k nL rt Q X K pc q.1 q.2 (fun ls st d u => vcB t (pc + ilen q.1) ls st d u) ls st d u
end Vc
