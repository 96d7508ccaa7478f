/-! BITS of bags. -/
theorem nI_and (a b : Nat) : nI a &&& nI b = nI (a &&& b) := by
  apply Int32.toBitVec_inj.1
  show BitVec.ofNat 32 a &&& BitVec.ofNat 32 b = BitVec.ofNat 32 (a &&& b)
  apply BitVec.eq_of_getLsbD_eq
  intro i hi
  simp [BitVec.getLsbD_and, BitVec.getLsbD_ofNat, hi]
theorem and_lt {a b : Nat} (ha : a < 256) : a &&& b < 256 := Nat.lt_of_le_of_lt Nat.and_le_left ha
theorem only8 : ∀ a, a < 256 → ∀ b, b < 256 → ((nI a &&& (nI b ^^^ (-1 : Int32))) = 0 ↔ a ||| b = b) := by decide +kernel
theorem shl1 : ∀ v, v < 8 → ((1 : Int32) <<< (nI v &&& 31)) = nI (1 <<< v) ∧ 1 <<< v < 256 := by decide +kernel
/-- the class counts the values of a bag -/
theorem c_bits {M : aM} {post : Int32 → Prop} {m : Nat} (hm : m < 256) (p : post (nI (pc m))) : w_In_bitCount post (nI m) M := by
  have key : ∀ (m : Nat), m < 256 → w_In_bitCount (fun x => x = nI (pc m)) (nI m) M := by
    unfold w_In_bitCount
    decide +kernel
  have k := key m hm
  unfold w_In_bitCount at k ⊢
  rw [k]
  exact p
