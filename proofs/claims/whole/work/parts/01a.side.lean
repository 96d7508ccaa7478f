/-- a row of a code table, beside its decoding -/
def aSide (pc : Nat) (i : Instr) (len : Nat) (v0 : Int32) (tg : Nat) (sw : List (Int32 × Nat)) : Bool := match i with
  | .iconst n => len == 1 && Int32.ofInt n == v0
  | .bipush n => len == 2 && (Int8.ofInt n).toInt32 == v0
  | .sipush n => len == 3 && (Int16.ofInt n).toInt32 == v0
  | .iinc _ n => len == 3 && Int32.ofInt n == v0
  | .ldc _ => len == 2
  | .iload _ => len == 2
  | .aload _ => len == 2
  | .istore _ => len == 2
  | .astore _ => len == 2
  | .newarray _ => len == 2
  | .ldc_w _ => len == 3
  | .getfield _ => len == 3
  | .putfield _ => len == 3
  | .new _ => len == 3
  | .anewarray _ => len == 3
  | .invokevirtual _ => len == 3
  | .invokestatic _ => len == 3
  | .invokespecial _ => len == 3
  | .goto off => len == 3 && (pc : Int) + off == (tg : Int)
  | .ifCond _ off => len == 3 && (pc : Int) + off == (tg : Int)
  | .if_icmp _ off => len == 3 && (pc : Int) + off == (tg : Int)
  | .tableswitch d lo hi offs => (pc : Int) + d == (tg : Int) && (sw.length == offs.size && (hi == lo + offs.size - 1 && (List.range sw.length).all (fun j => (sw.getD j (0, 0)).1.toInt == lo + j && (pc : Int) + offs.toList.getD j 0 == ((sw.getD j (0, 0)).2 : Int))))
  | .lookupswitch d ps => (pc : Int) + d == (tg : Int) && ((ps.toList.zip (ps.toList.drop 1)).all (fun (a, next) => a.1 < next.1) && (sw.length == ps.toList.length && (List.range sw.length).all (fun j => (sw.getD j (0, 0)).1.toInt == (ps.toList.getD j (0, 0)).1 && (pc : Int) + (ps.toList.getD j (0, 0)).2 == ((sw.getD j (0, 0)).2 : Int))))
  | _ => len == 1
/-- the rows of a method's code table are its code's -/
def aDec (cc : ByteArray) (cd : List aC) : Bool := cd.all (fun e => decide (decode cc e.1 = .ok (e.2.1, e.2.2.1)) && aSide e.1 e.2.1 e.2.2.1 e.2.2.2.2.1 e.2.2.2.2.2.1 e.2.2.2.2.2.2)
theorem all_ch {α : Type} (p : α → Bool) (l : List α) (n : Nat) (hn : 0 < n) (h : ∀ k, k * n < l.length → ((l.drop (k * n)).take n).all p = true) : l.all p = true := by
  refine List.all_eq_true.mpr fun a ha => ?_
  obtain ⟨i, hi, he⟩ := List.mem_iff_getElem.mp ha
  have h1 : i / n * n ≤ i := Nat.div_mul_le_self i n
  have h2 : i < i / n * n + n := by
    have := Nat.lt_div_mul_add (a := i) hn
    omega
  refine List.all_eq_true.mp (h (i / n) (by omega)) a ?_
  refine List.mem_iff_getElem?.mpr ⟨i - i / n * n, ?_⟩
  rw [List.getElem?_take_of_lt (by omega), List.getElem?_drop]
  rw [show i / n * n + (i - i / n * n) = i by omega]
  rw [List.getElem?_eq_getElem hi, he]
