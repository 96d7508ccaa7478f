/-! ALL REQUESTS: digits, their order, how many. -/
def rz (T : Txt) (i : Nat) : Nat := if T.amany i then 2 ^ T.asz i else T.asz i + 1
/-- the bag of a digit -/
def bgd (T : Txt) (i d : Nat) : Nat := if T.amany i then d else if d = 0 then 0 else 2 ^ (d - 1)
def gOf (T : Txt) (D : Nat → Nat) (i : Nat) : Nat := if i < T.na then bgd T i (D i) else 0
/-- the next request: the last attribute goes first -/
def nd (T : Txt) : Nat → (Nat → Nat) → Bool × (Nat → Nat)
  | 0, D => (false, D)
  | i + 1, D => if D i + 1 < rz T i then (true, up D i (D i + 1)) else nd T i (up D i 0)
def Vd (T : Txt) (D : Nat → Nat) : Nat → Nat
  | 0 => 0
  | i + 1 => Vd T D i * rz T i + D i
def Qd (T : Txt) : Nat → Nat
  | 0 => 1
  | i + 1 => Qd T i * rz T i
/-- how many, as both count them -/
def rq (T : Txt) : Nat → Nat
  | 0 => 1
  | i + 1 => if 4096 < rq T i then rq T i else rq T i * rz T i
section OD
variable {T : Txt}
theorem Vd_fr {D D' : Nat → Nat} : ∀ i, (∀ j, j < i → D' j = D j) → Vd T D' i = Vd T D i := by
  intro i
  induction i with
  | zero => intro _; rfl
  | succ i ih => intro h; rw [Vd, Vd, ih (fun j hj => h j (by omega)), h i (by omega)]
theorem nd_hi : ∀ i D j, i ≤ j → (nd T i D).2 j = D j := by
  intro i
  induction i with
  | zero => intro D j _; rfl
  | succ i ih =>
    intro D j hj
    rw [nd]
    split
    · exact up_n (by omega)
    · rw [ih _ _ (by omega), up_n (by omega)]
theorem nd_ok : ∀ i D, (∀ j, j < i → D j < rz T j) → (∀ j, j < i → (nd T i D).2 j < rz T j) ∧ ((nd T i D).1 = true → Vd T (nd T i D).2 i = Vd T D i + 1) ∧ ((nd T i D).1 = false → Vd T D i + 1 = Qd T i) := by
  intro i
  induction i with
  | zero => intro D _; exact ⟨fun j hj => absurd hj (Nat.not_lt_zero _), fun h => (by cases h), fun _ => rfl⟩
  | succ i ih =>
    intro D hD
    have hi := hD i (by omega)
    rw [nd]
    by_cases h : D i + 1 < rz T i
    · rw [if_pos h]
      refine ⟨fun j hj => ?_, fun _ => ?_, fun c => (by cases c)⟩
      · show up D i (D i + 1) j < _
        by_cases z : j = i
        · subst z; rw [up_s]; exact h
        · rw [up_n z]; exact hD j hj
      · show Vd T (up D i (D i + 1)) (i + 1) = _
        rw [Vd, Vd, up_s, Vd_fr i (D := D) (fun j hj => up_n (by omega))]; omega
    · rw [if_neg h]
      obtain ⟨h1, h2, h3⟩ := ih (up D i 0) (fun j hj => by rw [up_n (by omega)]; exact hD j (by omega))
      have e1 : Vd T (up D i 0) i = Vd T D i := Vd_fr i (fun j hj => up_n (by omega))
      have e2 : (nd T i (up D i 0)).2 i = 0 := by rw [nd_hi _ _ _ (Nat.le_refl _), up_s]
      have e3 : rz T i = D i + 1 := by omega
      refine ⟨fun j hj => ?_, fun c => ?_, fun c => ?_⟩
      · by_cases z : j = i
        · subst z; rw [e2]; omega
        · exact h1 j (by omega)
      · have := h2 c
        rw [e1] at this
        rw [Vd, Vd, e2, this, Nat.add_mul, e3]; omega
      · have := h3 c
        rw [e1] at this
        rw [Vd, Qd, ← this, Nat.add_mul, e3]; omega
theorem Vd_lt : ∀ i D, (∀ j, j < i → D j < rz T j) → Vd T D i < Qd T i := by
  intro i
  induction i with
  | zero => intro D _; exact Nat.lt_succ_self 0
  | succ i ih =>
    intro D hD
    have h1 := ih D (fun j hj => hD j (by omega))
    have h2 := hD i (by omega)
    rw [Vd, Qd]
    calc Vd T D i * rz T i + D i < Vd T D i * rz T i + rz T i := by omega
      _ = (Vd T D i + 1) * rz T i := by rw [Nat.add_mul, Nat.one_mul]
      _ ≤ Qd T i * rz T i := Nat.mul_le_mul_right _ h1
theorem rq_Qd : ∀ i, rq T i ≤ 4096 → rq T i = Qd T i := by
  intro i
  induction i with
  | zero => intro _; rfl
  | succ i ih =>
    intro h
    rw [rq] at h ⊢
    by_cases c : 4096 < rq T i
    · rw [if_pos c] at h; omega
    · rw [if_neg c, Qd, ih (by omega)]
theorem rz_le (A : AI T) {i : Nat} (hi : i < T.na) : 2 ≤ rz T i ∧ rz T i ≤ 256 := by
  have h := A.z i hi
  have h2 : ∀ n, n < 9 → 1 ≤ n → 2 ≤ 2 ^ n ∧ 2 ^ n ≤ 256 := by decide
  unfold rz
  split
  · exact h2 _ (by omega) h.1
  · omega
theorem rq_le (A : AI T) : ∀ i, i ≤ T.na → rq T i ≤ 4096 * 256 ∧ 1 ≤ rq T i := by
  intro i
  induction i with
  | zero => intro _; exact ⟨by rw [rq]; omega, Nat.le_refl _⟩
  | succ i ih =>
    intro hi
    have h1 := ih (by omega)
    have h2 := rz_le A (i := i) (by omega)
    rw [rq]
    split
    · exact h1
    · refine ⟨Nat.mul_le_mul (by omega) h2.2, Nat.mul_pos (by omega) (by omega)⟩
/-- the digits of the r-th request -/
def Dq (T : Txt) : Nat → (Nat → Nat)
  | 0 => fun _ => 0
  | r + 1 => (nd T T.na (Dq T r)).2
theorem Dq_lt (A : AI T) : ∀ r j, j < T.na → Dq T r j < rz T j := by
  intro r
  induction r with
  | zero => intro j hj; have := rz_le A hj; show 0 < _; omega
  | succ r ih => exact (nd_ok T.na (Dq T r) ih).1
theorem Dq_V (A : AI T) : ∀ r, r < Qd T T.na → Vd T (Dq T r) T.na = r := by
  intro r
  induction r with
  | zero =>
    intro _
    have : ∀ i, Vd T (Dq T 0) i = 0 := by
      intro i
      induction i with
      | zero => rfl
      | succ i ih => rw [Vd, ih, Nat.zero_mul]; rfl
    exact this _
  | succ r ih =>
    intro h
    have h1 := ih (by omega)
    obtain ⟨_, h2, h3⟩ := nd_ok (T := T) T.na (Dq T r) (Dq_lt A r)
    cases c : (nd T T.na (Dq T r)).1 with
    | true => rw [Dq, h2 c, h1]
    | false => have := h3 c; omega
/-- there is a next one as long as not all were had -/
theorem Dq_more (A : AI T) {r : Nat} (h : r < Qd T T.na) : (nd T T.na (Dq T r)).1 = decide (r + 1 < Qd T T.na) := by
  obtain ⟨h1, h2, h3⟩ := nd_ok (T := T) T.na (Dq T r) (Dq_lt A r)
  have e := Dq_V A r h
  cases c : (nd T T.na (Dq T r)).1 with
  | true =>
    have := h2 c
    have l := Vd_lt (T := T) T.na _ h1
    rw [decide_eq_true (by omega)]
  | false => have := h3 c; rw [decide_eq_false (by omega)]
theorem bgd_lt (A : AI T) {i d : Nat} (hi : i < T.na) (hd : d < rz T i) : bgd T i d < 2 ^ T.asz i := by
  have h := A.z i hi
  unfold rz at hd
  unfold bgd
  split
  · rw [if_pos (by assumption)] at hd; exact hd
  · rw [if_neg (by assumption)] at hd
    split
    · exact Nat.two_pow_pos _
    · exact Nat.pow_lt_pow_right (by omega) (by omega)
theorem p256 : ∀ n, n < 9 → 2 ^ n ≤ 256 := by decide
theorem gOf_lt (A : AI T) {D : Nat → Nat} (h : ∀ j, j < T.na → D j < rz T j) (i : Nat) : gOf T D i < 256 := by
  unfold gOf
  split
  · next hi =>
    have h1 := bgd_lt A hi (h i hi)
    have h2 := p256 (T.asz i) (by have := A.z i hi; omega)
    omega
  · omega
/-- the next bag: behind it, or none -/
theorem bgd_many {i d : Nat} (m : T.amany i = true) : bgd T i d = d := by unfold bgd; rw [if_pos m]
theorem rz_many {i : Nat} (m : T.amany i = true) : rz T i = 2 ^ T.asz i := by unfold rz; rw [if_pos m]
theorem bgd_one {i d : Nat} (m : T.amany i = false) : bgd T i d = if d = 0 then 0 else 2 ^ (d - 1) := by unfold bgd; rw [if_neg (by rw [m]; decide)]
theorem rz_one {i : Nat} (m : T.amany i = false) : rz T i = T.asz i + 1 := by unfold rz; rw [if_neg (by rw [m]; decide)]
theorem bgd_0 {i : Nat} : bgd T i 0 = 0 := by unfold bgd; split <;> rfl
end OD
