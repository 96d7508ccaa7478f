/-! AN ABSTRACT MACHINE of typed values: what a run of it gives, the machine gives too. Ids of cells count from 1: id k lies at the address Bm + k; id 0 is the script. -/
/-- the memory: (next id, slots used), (tag, length) of an id, ints, references, longs -/
abbrev aM : Type := (Nat × Nat) × (Nat → Nat × Nat) × (Nat → Nat → Int32) × (Nat → Nat → Nat) × (Nat → Nat → Int64)
def a2 {α : Type} (f : Nat → Nat → α) (k j : Nat) (v : α) : Nat → Nat → α := fun k' => if k' = k then (fun j' => if j' = j then v else f k j') else f k'
def aN (M : aM) : Nat := M.1.1
def aZ (M : aM) : Nat := M.1.2
def rK (M : aM) (k : Nat) : Nat × Nat := M.2.1 k
def rI (M : aM) (k j : Nat) : Int32 := M.2.2.1 k j
def rR (M : aM) (k j : Nat) : Nat := M.2.2.2.1 k j
def rJ (M : aM) (k j : Nat) : Int64 := M.2.2.2.2 k j
def wI (M : aM) (k j : Nat) (x : Int32) : aM := (M.1, M.2.1, a2 M.2.2.1 k j x, M.2.2.2.1, M.2.2.2.2)
def wR (M : aM) (k j : Nat) (x : Nat) : aM := (M.1, M.2.1, M.2.2.1, a2 M.2.2.2.1 k j x, M.2.2.2.2)
def wJ (M : aM) (k j : Nat) (x : Int64) : aM := (M.1, M.2.1, M.2.2.1, M.2.2.2.1, a2 M.2.2.2.2 k j x)
def aNew (M : aM) (t len sl : Nat) : aM := ((aN M + 1, aZ M + sl), fun k => if k = aN M then (t, len) else M.2.1 k, fun k => if k = aN M then (fun _ => 0) else M.2.2.1 k, fun k => if k = aN M then (fun _ => 0) else M.2.2.2.1 k, fun k => if k = aN M then (fun _ => 0) else M.2.2.2.2 k)
/-- n ints of k0 from sp on to k1 from dp on -/
def aCpy (M : aM) (k0 k1 sp dp n : Nat) : aM := (M.1, M.2.1, fun k => if k = k1 then va_cpy (M.2.2.1 k0) (M.2.2.1 k1) sp dp n else M.2.2.1 k, M.2.2.2.1, M.2.2.2.2)
/-- a frame: pc, locals, stack, memory -/
abbrev aS : Type := Nat × List (Option aV) × List aV × aM
def aSw (x : Int32) (d : Nat) : List (Int32 × Nat) → Nat
  | [] => d
  | q :: r => if x = q.1 then q.2 else aSw x d r
def aCnd (c : ClassFile.Cond) (x y : Int32) : Prop := match c with
  | .eq => x = y
  | .ne => ¬ x = y
  | .lt => x < y
  | .ge => y ≤ x
  | .gt => y < x
  | .le => x ≤ y
def aFs (c : Nat) : List aF := tFs.getD c []
def aRf (t k : Nat) : aV := if k = 0 then aR 0 0 else aR t k
def aGet (fl : Bool) (M : aM) (k j : Nat) (f : aF) : aV := match f.1 with
  | 0 => aI (rI M k j)
  | 1 => aI (rI M k j)
  | 2 => bif fl then aR f.2.1 (k + f.2.2) else aRf f.2.1 (rR M k j)
  | 3 => bif fl then aR f.2.1 (rR M k j) else aRf f.2.1 (rR M k j)
  | _ => aJ (rJ M k j)
/-- what a store into a field asks, and the memory behind it -/
def aPut (fl : Bool) (M : aM) (k j : Nat) (f : aF) (v : aV) : Option (Prop × aM) := match f.1 with
  | 0 => match v with
    | Sum.inl x => some (True, wI M k j x)
    | _ => none
  | 1 => match v with
    | Sum.inl x => some (x = 0 ∨ x = 1, wI M k j x)
    | _ => none
  | 2 => match v with
    | Sum.inr (Sum.inl r) => bif fl then none else (bif r.1 == f.2.1 then some (True, wR M k j r.2) else none)
    | _ => none
  | 3 => match v with
    | Sum.inr (Sum.inl r) => bif r.1 == f.2.1 then some (True, wR M k j r.2) else none
    | _ => none
  | _ => match v with
    | Sum.inr (Sum.inr x) => some (True, wJ M k j x)
    | _ => none
def aLd (L : List (Option aV)) (n : Nat) : Option aV := L.getD n none
abbrev aA : Type := Option (Prop × aS)
abbrev aGo (σ : aS) : aA := some (True, σ)
/-- the instruction i of 'len' bytes at pc, in a method of class o: what it asks, and the frame behind it -/
def aStep (fl : Bool) (o pc : Nat) (i : Instr) (len : Nat) (v0 : Int32) (tg : Nat) (L : List (Option aV)) (st : List aV) (M : aM) : aA :=
  match i with
  | .iconst _ => aGo (pc + len, L, aI v0 :: st, M)
  | .bipush _ => aGo (pc + len, L, aI v0 :: st, M)
  | .sipush _ => aGo (pc + len, L, aI v0 :: st, M)
  | .aconst_null => aGo (pc + len, L, aR 0 0 :: st, M)
  | .ldc k => match tLdc o k with
    | some v => aGo (pc + len, L, v :: st, M)
    | none => none
  | .ldc_w k => match tLdc o k with
    | some v => aGo (pc + len, L, v :: st, M)
    | none => none
  | .iload_n k => match aLd L k.val with
    | some (Sum.inl x) => aGo (pc + len, L, aI x :: st, M)
    | _ => none
  | .iload k => match aLd L k with
    | some (Sum.inl x) => aGo (pc + len, L, aI x :: st, M)
    | _ => none
  | .aload_n k => match aLd L k.val with
    | some (Sum.inr (Sum.inl r)) => aGo (pc + len, L, aR r.1 r.2 :: st, M)
    | _ => none
  | .aload k => match aLd L k with
    | some (Sum.inr (Sum.inl r)) => aGo (pc + len, L, aR r.1 r.2 :: st, M)
    | _ => none
  | .istore_n k => match st with
    | Sum.inl x :: st => bif decide (k.val < L.length) then aGo (pc + len, L.set k.val (some (aI x)), st, M) else none
    | _ => none
  | .istore k => match st with
    | Sum.inl x :: st => bif decide (k < L.length) then aGo (pc + len, L.set k (some (aI x)), st, M) else none
    | _ => none
  | .astore_n k => match st with
    | Sum.inr (Sum.inl r) :: st => bif decide (k.val < L.length) then aGo (pc + len, L.set k.val (some (aR r.1 r.2)), st, M) else none
    | _ => none
  | .astore k => match st with
    | Sum.inr (Sum.inl r) :: st => bif decide (k < L.length) then aGo (pc + len, L.set k (some (aR r.1 r.2)), st, M) else none
    | _ => none
  | .iinc k _ => match aLd L k with
    | some (Sum.inl x) => bif decide (k < L.length) then aGo (pc + len, L.set k (some (aI (x + v0))), st, M) else none
    | _ => none
  | .iadd => match st with
    | Sum.inl y :: Sum.inl x :: st => some (True, (pc + len, L, aI (x + y) :: st, M))
    | _ => none
  | .isub => match st with
    | Sum.inl y :: Sum.inl x :: st => some (True, (pc + len, L, aI (x - y) :: st, M))
    | _ => none
  | .imul => match st with
    | Sum.inl y :: Sum.inl x :: st => some (True, (pc + len, L, aI (x * y) :: st, M))
    | _ => none
  | .idiv => match st with
    | Sum.inl y :: Sum.inl x :: st => some (¬ y = 0, (pc + len, L, aI (x / y) :: st, M))
    | _ => none
  | .irem => match st with
    | Sum.inl y :: Sum.inl x :: st => some (¬ y = 0, (pc + len, L, aI (x - x / y * y) :: st, M))
    | _ => none
  | .iand => match st with
    | Sum.inl y :: Sum.inl x :: st => some (True, (pc + len, L, aI (x &&& y) :: st, M))
    | _ => none
  | .ior => match st with
    | Sum.inl y :: Sum.inl x :: st => some (True, (pc + len, L, aI (x ||| y) :: st, M))
    | _ => none
  | .ixor => match st with
    | Sum.inl y :: Sum.inl x :: st => some (True, (pc + len, L, aI (x ^^^ y) :: st, M))
    | _ => none
  | .ishl => match st with
    | Sum.inl y :: Sum.inl x :: st => some (True, (pc + len, L, aI (x <<< (y &&& 31)) :: st, M))
    | _ => none
  | .ishr => match st with
    | Sum.inl y :: Sum.inl x :: st => some (True, (pc + len, L, aI (x >>> (y &&& 31)) :: st, M))
    | _ => none
  | .iushr => match st with
    | Sum.inl y :: Sum.inl x :: st => some (True, (pc + len, L, aI ((x.toUInt32 >>> (y.toUInt32 &&& Int32.toUInt32 31)).toInt32) :: st, M))
    | _ => none
  | .ineg => match st with
    | Sum.inl x :: st => aGo (pc + len, L, aI (-x) :: st, M)
    | _ => none
  | .i2l => match st with
    | Sum.inl x :: st => aGo (pc + len, L, aJ x.toInt64 :: st, M)
    | _ => none
  | .i2c => match st with
    | Sum.inl x :: st => aGo (pc + len, L, aI ((x.toUInt32 % 65536).toInt32) :: st, M)
    | _ => none
  | .i2b => match st with
    | Sum.inl x :: st => aGo (pc + len, L, aI (x.toInt8.toInt32) :: st, M)
    | _ => none
  | .lcmp => match st with
    | Sum.inr (Sum.inr y) :: Sum.inr (Sum.inr x) :: st => aGo (pc + len, L, aI (lg_cmp x y) :: st, M)
    | _ => none
  | .dup => match st with
    | Sum.inl x :: st => aGo (pc + len, L, aI x :: aI x :: st, M)
    | Sum.inr (Sum.inl r) :: st => aGo (pc + len, L, aR r.1 r.2 :: aR r.1 r.2 :: st, M)
    | _ => none
  | .dup_x1 => match st with
    | Sum.inl x :: Sum.inr (Sum.inl r) :: st => aGo (pc + len, L, aI x :: aR r.1 r.2 :: aI x :: st, M)
    | _ => none
  | .dup_x2 => match st with
    | Sum.inl x :: Sum.inl y :: Sum.inr (Sum.inl r) :: st => aGo (pc + len, L, aI x :: aI y :: aR r.1 r.2 :: aI x :: st, M)
    | _ => none
  | .dup2 => match st with
    | Sum.inl x :: Sum.inr (Sum.inl r) :: st => aGo (pc + len, L, aI x :: aR r.1 r.2 :: aI x :: aR r.1 r.2 :: st, M)
    | _ => none
  | .pop => match st with
    | Sum.inl _ :: st => aGo (pc + len, L, st, M)
    | Sum.inr (Sum.inl _) :: st => aGo (pc + len, L, st, M)
    | _ => none
  | .goto _ => aGo (tg, L, st, M)
  | .getfield k => match tFld o k with
    | some (ci, j, f) => match st with
      | Sum.inr (Sum.inl r) :: st => bif r.1 == 10 + ci then aGo (pc + len, L, aGet fl M r.2 j f :: st, M) else none
      | _ => none
    | none => none
  | .putfield k => match tFld o k with
    | some (ci, j, f) => match st with
      | v :: Sum.inr (Sum.inl r) :: st => bif r.1 == 10 + ci then (match aPut fl M r.2 j f v with
        | some (P, M1) => some (P, (pc + len, L, st, M1))
        | none => none) else none
      | _ => none
    | none => none
  | .iaload => match st with
    | Sum.inl i :: Sum.inr (Sum.inl r) :: st => bif r.1 == 4 || (r.1 == 2 && (r.2 == 0 && o == 13)) then some (vp_in i (rK M r.2).2, (pc + len, L, aI (rI M r.2 i.toNatClampNeg) :: st, M)) else none
    | _ => none
  | .baload => match st with
    | Sum.inl i :: Sum.inr (Sum.inl r) :: st => bif r.1 == 5 || r.1 == 7 then some (vp_in i (rK M r.2).2, (pc + len, L, aI (rI M r.2 i.toNatClampNeg) :: st, M)) else none
    | _ => none
  | .laload => match st with
    | Sum.inl i :: Sum.inr (Sum.inl r) :: st => bif r.1 == 6 then some (vp_in i (rK M r.2).2, (pc + len, L, aJ (rJ M r.2 i.toNatClampNeg) :: st, M)) else none
    | _ => none
  | .aaload => match st with
    | Sum.inl i :: Sum.inr (Sum.inl r) :: st => bif decide (100 ≤ r.1) then some (vp_in i (rK M r.2).2, (pc + len, L, (bif fl then aR (r.1 - 90) (rR M r.2 i.toNatClampNeg) else aRf (r.1 - 90) (rR M r.2 i.toNatClampNeg)) :: st, M)) else none
    | _ => none
  | .iastore => match st with
    | Sum.inl x :: Sum.inl i :: Sum.inr (Sum.inl r) :: st => bif r.1 == 4 then some (vp_in i (rK M r.2).2, (pc + len, L, st, wI M r.2 i.toNatClampNeg x)) else none
    | _ => none
  | .bastore => match st with
    | Sum.inl x :: Sum.inl i :: Sum.inr (Sum.inl r) :: st => bif r.1 == 5 then some (vp_in i (rK M r.2).2 ∧ (x = 0 ∨ x = 1), (pc + len, L, st, wI M r.2 i.toNatClampNeg x)) else bif r.1 == 7 then some (vp_in i (rK M r.2).2, (pc + len, L, st, wI M r.2 i.toNatClampNeg x.toInt8.toInt32)) else none
    | _ => none
  | .lastore => match st with
    | Sum.inr (Sum.inr x) :: Sum.inl i :: Sum.inr (Sum.inl r) :: st => bif r.1 == 6 then some (vp_in i (rK M r.2).2, (pc + len, L, st, wJ M r.2 i.toNatClampNeg x)) else none
    | _ => none
  | .aastore => match st with
    | Sum.inr (Sum.inl v) :: Sum.inl i :: Sum.inr (Sum.inl r) :: st => bif decide (100 ≤ r.1) && v.1 == r.1 - 90 then some (vp_in i (rK M r.2).2, (pc + len, L, st, wR M r.2 i.toNatClampNeg v.2)) else none
    | _ => none
  | .arraylength => match st with
    | Sum.inr (Sum.inl r) :: st => bif r.1 == 4 || r.1 == 5 || r.1 == 6 || r.1 == 7 || (r.1 == 2 && (r.2 == 0 && o == 13)) || decide (100 ≤ r.1) then aGo (pc + len, L, aI (Int32.ofNat (rK M r.2).2) :: st, M) else none
    | _ => none
  | .new k => match tNew o k with
    | some ci => bif fl then none else some (0 < aN M, (pc + len, L, aR (10 + ci) (aN M) :: st, aNew M (10 + ci) 0 (aFs ci).length))
    | none => none
  | .newarray ty => bif fl then none else match st with
    | Sum.inl n :: st => match ty with
      | .int => some (¬ n < 0 ∧ 0 < aN M ∧ n.toNatClampNeg ≤ 60000000, (pc + len, L, aR 4 (aN M) :: st, aNew M 4 n.toNatClampNeg n.toNatClampNeg))
      | .boolean => some (¬ n < 0 ∧ 0 < aN M ∧ n.toNatClampNeg ≤ 60000000, (pc + len, L, aR 5 (aN M) :: st, aNew M 5 n.toNatClampNeg n.toNatClampNeg))
      | .long => some (¬ n < 0 ∧ 0 < aN M ∧ n.toNatClampNeg ≤ 60000000, (pc + len, L, aR 6 (aN M) :: st, aNew M 6 n.toNatClampNeg n.toNatClampNeg))
      | .byte => some (¬ n < 0 ∧ 0 < aN M ∧ n.toNatClampNeg ≤ 60000000, (pc + len, L, aR 7 (aN M) :: st, aNew M 7 n.toNatClampNeg n.toNatClampNeg))
      | _ => none
    | _ => none
  | .anewarray k => match tNew o k with
    | some ci => bif fl then none else match st with
      | Sum.inl n :: st => some (¬ n < 0 ∧ 0 < aN M ∧ n.toNatClampNeg ≤ 60000000 ∧ ci = 3, (pc + len, L, aR (100 + ci) (aN M) :: st, aNew M (100 + ci) n.toNatClampNeg n.toNatClampNeg))
      | _ => none
    | none => none
  | .invokestatic k => match tPrim o k with
    | 1 => match st with
      | Sum.inl y :: Sum.inl x :: st => aGo (pc + len, L, aI (if x < y then y else x) :: st, M)
      | _ => none
    | 2 => match st with
      | Sum.inl y :: Sum.inl x :: st => aGo (pc + len, L, aI (if y < x then y else x) :: st, M)
      | _ => none
    | 3 => match st with
      | Sum.inl n :: Sum.inl dp :: Sum.inr (Sum.inl r1) :: Sum.inl sp :: Sum.inr (Sum.inl r0) :: st =>
        bif r0.1 == 4 && r1.1 == 4 then some (¬ sp < 0 ∧ ¬ dp < 0 ∧ ¬ n < 0 ∧ sp.toNatClampNeg + n.toNatClampNeg ≤ (rK M r0.2).2 ∧ dp.toNatClampNeg + n.toNatClampNeg ≤ (rK M r1.2).2, (pc + len, L, st, aCpy M r0.2 r1.2 sp.toNatClampNeg dp.toNatClampNeg n.toNatClampNeg)) else none
      | _ => none
    | _ => none
  | .invokevirtual k => match tPrim o k with
    | 4 => match st with
      | Sum.inr (Sum.inl r) :: st => bif r.1 == 1 then some (r.2 < 59, (pc + len, L, aI (Int32.ofNat (tStr.getD r.2 []).length) :: st, M)) else none
      | _ => none
    | 5 => match st with
      | Sum.inl i :: Sum.inr (Sum.inl r) :: st => bif r.1 == 1 then some (r.2 < 59 ∧ vp_in i (tStr.getD r.2 []).length, (pc + len, L, aI ((tStr.getD r.2 []).getD i.toNatClampNeg 0) :: st, M)) else none
      | _ => none
    | _ => none
  | .invokespecial k => match tPrim o k with
    | 6 => match st with
      | Sum.inr (Sum.inl r) :: st => bif r.1 == 0 then none else aGo (pc + len, L, st, M)
      | _ => none
    | _ => none
  | _ => none
/-- a branch: its condition, the stack behind it -/
def aBr (i : Instr) (st : List aV) : Option (Prop × List aV) := match i with
  | .ifCond c _ => match st with
    | Sum.inl x :: st => some (aCnd c x 0, st)
    | _ => none
  | .if_icmp c _ => match st with
    | Sum.inl y :: Sum.inl x :: st => some (aCnd c x y, st)
    | _ => none
  | _ => none
/-- a switch: its number, the stack behind it -/
def aSwOf (i : Instr) (st : List aV) : Option (Int32 × List aV) := match i with
  | .tableswitch _ _ _ _ => match st with
    | Sum.inl x :: st => some (x, st)
    | _ => none
  | .lookupswitch _ _ => match st with
    | Sum.inl x :: st => some (x, st)
    | _ => none
  | _ => none
/-- a return: what it asks, its value -/
def aEnd (rt : Option FieldType) (i : Instr) (st : List aV) : Option (Prop × Option aV) := match i with
  | .ireturn => match st with
    | [Sum.inl x] => match rt with
      | some .int => some (True, some (aI x))
      | some .boolean => some (x = 0 ∨ x = 1, some (aI x))
      | _ => none
    | _ => none
  | .areturn => match st with
    | [Sum.inr (Sum.inl r)] => match rt with
      | some (.object _) => some (True, some (aR r.1 r.2))
      | _ => none
    | _ => none
  | .return_ => match st with
    | [] => match rt with
      | none => some (True, none)
      | some _ => none
    | _ => none
  | _ => none
/-- how a run ends: a value, or a throw (number of its class, id); the memory; whether nothing was written -/
abbrev aO : Type := (Option aV ⊕ (Nat × Nat)) × aM × Bool
/-- a call of a method of ours: which, its arguments, what stays on the stack -/
def aCallOf (o : Nat) (i : Instr) (st : List aV) : Option (Nat × List aV × List aV) := match i with
  | .invokevirtual k => match tInv o k with
    | some q => bif decide (tPar q ≤ st.length) && (tMI q).2.2.2.2 == 1 then (match (st.take (tPar q)).reverse with
      | Sum.inr (Sum.inl r) :: as => bif r.1 == 10 + tOwn q then some (q, aR r.1 r.2 :: as, st.drop (tPar q)) else none
      | _ => none) else none
    | none => none
  | .invokestatic k => match tInv o k with
    | some q => bif decide (tPar q ≤ st.length) && ((tMI q).2.2.2.2 == 0 || (tMI q).2.2.2.2 == 3) then some (q, (st.take (tPar q)).reverse, st.drop (tPar q)) else none
    | none => none
  | .invokespecial k => match tInv o k with
    | some q => bif decide (tPar q ≤ st.length) && (tMI q).2.2.2.2 == 2 then (match (st.take (tPar q)).reverse with
      | Sum.inr (Sum.inl r) :: as => bif r.1 == 10 + tOwn q then some (q, aR r.1 r.2 :: as, st.drop (tPar q)) else none
      | _ => none) else none
    | none => none
  | _ => none
/-- words on the stack -/
def aWt : List aV → Nat
  | [] => 0
  | Sum.inl _ :: l => aWt l + 1
  | Sum.inr (Sum.inl _) :: l => aWt l + 1
  | Sum.inr (Sum.inr _) :: l => aWt l + 2
/-- no long among the arguments -/
def aNoJ (as : List aV) : Bool := as.all (fun v => match v with
  | Sum.inr (Sum.inr _) => false
  | _ => true)
/-- does the instruction write -/
def aWr (i : Instr) : Bool := match i with
  | .putfield _ => true
  | .iastore => true
  | .bastore => true
  | .lastore => true
  | .aastore => true
  | .new _ => true
  | .newarray _ => true
  | .anewarray _ => true
  | .invokestatic _ => true
  | _ => false
def aEnt (q : Nat) (as : List aV) : List (Option aV) := as.map some ++ List.replicate (tMl q - as.length) none
/-- which kind of row: 0 goes on, 1 a call, 2 a branch, 3 a switch, 4 a return, 5 a member of the library -/
def aKind (o : Nat) (i : Instr) : Nat := match i with
  | .ifCond _ _ => 2
  | .if_icmp _ _ => 2
  | .tableswitch _ _ _ _ => 3
  | .lookupswitch _ _ => 3
  | .ireturn => 4
  | .areturn => 4
  | .return_ => 4
  | .invokevirtual k => if (tInv o k).isSome then 1 else 5
  | .invokestatic k => if (tInv o k).isSome then 1 else 5
  | .invokespecial k => if (tInv o k).isSome then 1 else 5
  | _ => 0
/-- a run ends so: f: fuel; d: frames, w: words of locals that are left; q: the method; u: nothing was written yet -/
def aRun (fl : Bool) : Nat → Nat → Nat → Nat → Bool → aS → aO → Prop
  | 0, _, _, _, _, _, _ => False
  | f + 1, d, w, q, u, (pc, L, st, M), o =>
    match (tC q).find? (fun e => e.1 == pc) with
    | none => False
    | some (_, i, len, x, v0, tg, sw) =>
      match x with
      | x + 1 => (u = true ∧ 6 ≤ d ∧ 100 ≤ w ∧ aWt st ≤ 8 ∧ 0 < aN M) ∧ o = (Sum.inr (x, aN M), aNew M 3 x 6, false)
      | 0 => match aKind (tOwn q) i with
        | 0 => match aStep fl (tOwn q) pc i len v0 tg L st M with
          | some (P, σ) => P ∧ aRun fl f d w q (bif aWr i then false else u) σ o
          | none => False
        | 1 => match aCallOf (tOwn q) i st with
          | some (q1, as, rest) => (1 ≤ d ∧ tMl q1 + 19 ≤ w ∧ aWt rest ≤ 8 ∧ aNoJ as = true) ∧ ∃ o1 : aO, aRun fl f (d - 1) (w - (tMl q1 + 19)) q1 true (0, aEnt q1 as, [], M) o1 ∧
            (match o1 with
            | (Sum.inl v, M1, u1) => aRun fl f d w q (bif u1 then u else false) (pc + 3, L, v.toList ++ rest, M1) o
            | (Sum.inr z, M1, u1) => match aHnd q pc z.1 with
              | some h => aRun fl f d w q (bif u1 then u else false) (h, L, [aR 3 z.2], M1) o
              | none => o = (Sum.inr z, M1, bif u1 then u else false))
          | none => False
        | 2 => match aBr i st with
          | some (c, st1) => (c → aRun fl f d w q u (tg, L, st1, M) o) ∧ (¬ c → aRun fl f d w q u (pc + len, L, st1, M) o)
          | none => False
        | 3 => match aSwOf i st with
          | some (x, st1) => aRun fl f d w q u (aSw x tg sw, L, st1, M) o
          | none => False
        | 4 => match aEnd (tRt q) i st with
          | some (P, r) => P ∧ o = (Sum.inl r, M, u)
          | none => False
        | _ => match aStep fl (tOwn q) pc i len v0 tg L st M with
          | some (P, σ) => (P ∧ 6 ≤ d ∧ 200 ≤ w ∧ aWt st ≤ 8) ∧ aRun fl f d w q (bif aWr i then false else u) σ o
          | none => False
