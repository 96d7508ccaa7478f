/-! Rows of the memory, lengths of the cells, numbers. -/
def up {α : Type} (f : Nat → α) (k : Nat) (x : α) : Nat → α := fun j => if j = k then x else f j
theorem up_s {α : Type} {f : Nat → α} {k : Nat} {x : α} : up f k x k = x := if_pos rfl
theorem up_n {α : Type} {f : Nat → α} {k j : Nat} {x : α} (h : j ≠ k) : up f k x j = f j := if_neg h
theorem up_e {α : Type} {f : Nat → α} {k j : Nat} {x : α} : up f k x j = if j = k then x else f j := rfl
def bI (b : Bool) : Int32 := bif b then 1 else 0
def oI : Option Nat → Int32
  | none => -1
  | some k => nI k
theorem bI_01 (b : Bool) : bI b = 0 ∨ bI b = 1 := by cases b <;> simp [bI]
theorem bI_t : bI true = 1 := rfl
theorem bI_f : bI false = 0 := rfl
theorem bI_eq0 {b : Bool} : bI b = 0 ↔ b = false := by cases b <;> decide
theorem bI_eq1 {b : Bool} : bI b = 1 ↔ b = true := by cases b <;> decide
theorem nI_m1 {n : Nat} (h : n < 2 ^ 31) : ¬ nI n = -1 := by
  intro z
  have := congrArg Int32.toInt z
  rw [nI_toInt h] at this
  have h2 : (-1 : Int32).toInt = -1 := rfl
  omega
theorem oI_m1 {o : Option Nat} (h : ∀ k, o = some k → k < 2 ^ 31) : oI o = -1 ↔ o = none := by
  cases o with
  | none => simp [oI]
  | some k => simp only [oI, reduceCtorEq, iff_false]; exact nI_m1 (h k rfl)
section MS
variable {M : aM} {k j k' j' x' : Nat} {x : Int32} {y : Int64} {t l s : Nat}
theorem rw_s : rI (wI M k j x) k = up (rI M k) j x := by
  show a2 M.2.2.1 k j x k = _
  rw [a2_row]; rfl
theorem rw_n (h : k' ≠ k) : rI (wI M k j x) k' = rI M k' := a2_off _ _ _ h
theorem rw_ss : rI (wI M k j x) k j = x := by rw [rw_s, up_s]
theorem rw_sn (h : j' ≠ j) : rI (wI M k j x) k j' = rI M k j' := by rw [rw_s, up_n h]
theorem rw_e : rI (wI M k j x) k' j' = if k' = k ∧ j' = j then x else rI M k' j' := by
  by_cases h : k' = k
  · subst h
    rw [rw_s]
    by_cases h2 : j' = j
    · subst h2; rw [up_s, if_pos ⟨rfl, rfl⟩]
    · rw [up_n h2, if_neg (fun z => h2 z.2)]
  · rw [rw_n h, if_neg (fun z => h z.1)]
theorem rw_J : rI (wJ M k j y) = rI M := rfl
theorem rw_R : rI (wR M k j x') = rI M := rfl
theorem kw_I : rK (wI M k j x) = rK M := rfl
theorem kw_J : rK (wJ M k j y) = rK M := rfl
theorem kw_R : rK (wR M k j x') = rK M := rfl
theorem Rw_I : rR (wI M k j x) = rR M := rfl
theorem Rw_J : rR (wJ M k j y) = rR M := rfl
theorem Rw_e : rR (wR M k j x') k' j' = if k' = k ∧ j' = j then x' else rR M k' j' := by
  show a2 M.2.2.2.1 k j x' k' j' = _
  by_cases h : k' = k
  · subst h
    rw [a2_row]
    by_cases h2 : j' = j
    · subst h2; simp
    · simp only [h2, if_false, and_false]; rfl
  · rw [a2_off _ _ _ h, if_neg (fun z => h z.1)]; rfl
theorem Jw_I : rJ (wI M k j x) = rJ M := rfl
theorem Jw_R : rJ (wR M k j x') = rJ M := rfl
theorem Jw_s : rJ (wJ M k j y) k j = y := by
  show a2 M.2.2.2.2 k j y k j = y
  rw [a2_row]; simp
theorem Nw_I : aN (wI M k j x) = aN M := rfl
theorem Nw_J : aN (wJ M k j y) = aN M := rfl
theorem Nw_R : aN (wR M k j x') = aN M := rfl
theorem Zw_I : aZ (wI M k j x) = aZ M := rfl
theorem Zw_J : aZ (wJ M k j y) = aZ M := rfl
theorem Zw_R : aZ (wR M k j x') = aZ M := rfl
theorem rn_I (h : k' ≠ aN M) : rI (aNew M t l s) k' = rI M k' := if_neg h
theorem rn_K (h : k' ≠ aN M) : rK (aNew M t l s) k' = rK M k' := if_neg h
theorem rn_R (h : k' ≠ aN M) : rR (aNew M t l s) k' = rR M k' := if_neg h
end MS
/-- where the class's three texts lie -/
def tOk (t : Nat) : Prop := t = 11 ∨ t = 48 ∨ t = 84
/-- kinds and lengths of the cells, from id 1 on -/
def aKs : List (Nat × Nat) := [(10, 0), (11, 0), (12, 0), (4, 6000), (4, 6001), (4, 6001), (4, 6001), (15, 0), (4, 28), (4, 336), (13, 0), (14, 0), (15, 0), (4, 8), (4, 96), (4, 8), (5, 8), (5, 8), (4, 8), (16, 0), (15, 0), (4, 100), (4, 1200), (4, 100), (4, 100), (4, 100), (4, 100), (4, 100), (4, 100), (4, 100), (4, 100), (4, 100), (4, 100), (4, 100), (17, 0), (4, 400), (4, 400), (4, 400), (4, 400), (4, 400), (4, 400), (18, 0), (4, 100), (4, 100), (4, 100), (4, 100), (103, 2), (13, 0), (14, 0), (15, 0), (4, 8), (4, 96), (4, 8), (5, 8), (5, 8), (4, 8), (16, 0), (15, 0), (4, 100), (4, 1200), (4, 100), (4, 100), (4, 100), (4, 100), (4, 100), (4, 100), (4, 100), (4, 100), (4, 100), (4, 100), (4, 100), (17, 0), (4, 400), (4, 400), (4, 400), (4, 400), (4, 400), (4, 400), (18, 0), (4, 100), (4, 100), (4, 100), (4, 100), (13, 0), (14, 0), (15, 0), (4, 8), (4, 96), (4, 8), (5, 8), (5, 8), (4, 8), (16, 0), (15, 0), (4, 100), (4, 1200), (4, 100), (4, 100), (4, 100), (4, 100), (4, 100), (4, 100), (4, 100), (4, 100), (4, 100), (4, 100), (4, 100), (17, 0), (4, 400), (4, 400), (4, 400), (4, 400), (4, 400), (4, 400), (18, 0), (4, 100), (4, 100), (4, 100), (4, 100), (19, 0), (4, 36), (4, 8), (18, 0), (4, 100), (4, 100), (4, 100), (4, 100), (4, 8), (4, 8), (4, 8), (20, 0), (4, 22000), (15, 0), (4, 28), (4, 336), (21, 0), (7, 6000), (5, 3), (4, 3), (4, 24), (5, 24), (5, 24), (4, 24), (4, 324), (7, 3888), (4, 3), (4, 300), (4, 300), (4, 300), (4, 300), (4, 3), (4, 1200), (4, 1200), (4, 1200), (4, 1200), (4, 1200), (4, 1200), (4, 1200), (4, 3), (4, 3), (4, 300), (4, 300), (4, 300), (5, 3), (4, 300), (4, 300), (4, 24), (4, 24), (4, 24), (4, 24), (4, 24), (4, 400), (4, 6), (4, 2), (4, 200), (5, 100), (4, 36), (4, 8), (4, 16), (4, 200), (4, 200), (4, 8), (7, 40000), (4, 64), (5, 64), (4, 64), (6, 1)]
/-- kinds and lengths of a text's cells, from the text on -/
def tKs : List (Nat × Nat) := [(13, 0), (14, 0), (15, 0), (4, 8), (4, 96), (4, 8), (5, 8), (5, 8), (4, 8), (16, 0), (15, 0), (4, 100), (4, 1200), (4, 100), (4, 100), (4, 100), (4, 100), (4, 100), (4, 100), (4, 100), (4, 100), (4, 100), (4, 100), (4, 100), (17, 0), (4, 400), (4, 400), (4, 400), (4, 400), (4, 400), (4, 400), (18, 0), (4, 100), (4, 100), (4, 100), (4, 100)]
def KOk (K : Nat → Nat × Nat) : Prop := ∀ k, k < 187 → K (k + 1) = aKs.getD k (0, 0)
theorem KOk.l {K : Nat → Nat × Nat} (h : KOk K) (k n : Nat) (hk : k < 187 := by omega) (hn : (aKs.getD k (0, 0)).2 = n := by rfl) : (K (k + 1)).2 = n := by rw [h k hk, hn]
theorem KOk.t {K : Nat → Nat × Nat} (h : KOk K) {t : Nat} (ht : tOk t) (c : Nat) (hc : c < 36) : K (t + c) = tKs.getD c (0, 0) := by
  have e : ∀ c, c < 36 → aKs.getD (11 + c - 1) (0, 0) = tKs.getD c (0, 0) ∧ aKs.getD (48 + c - 1) (0, 0) = tKs.getD c (0, 0) ∧ aKs.getD (84 + c - 1) (0, 0) = tKs.getD c (0, 0) := by decide +kernel
  have := e c hc
  rcases ht with rfl | rfl | rfl
  · rw [show 11 + c = (11 + c - 1) + 1 by omega, h _ (by omega)]; exact this.1
  · rw [show 48 + c = (48 + c - 1) + 1 by omega, h _ (by omega)]; exact this.2.1
  · rw [show 84 + c = (84 + c - 1) + 1 by omega, h _ (by omega)]; exact this.2.2
theorem KOk.tl {K : Nat → Nat × Nat} (h : KOk K) {t : Nat} (ht : tOk t) (c n : Nat) (hc : c < 36 := by omega) (hn : (tKs.getD c (0, 0)).2 = n := by rfl) : (K (t + c)).2 = n := by rw [h.t ht c hc, hn]
/-- branches over numbers that are known -/
theorem pk_eqm {x y : Int32} {A B : Prop} (o : Option Nat) (f : o = none → A) (g : ∀ k, o = some k → B) (hx : x = oI o := by rfl) (hy : y = -1 := by rfl) (ho : ∀ k, o = some k → k < 2 ^ 31 := by omega) : (x = y → A) ∧ (¬ x = y → B) := by
  subst hx hy
  rw [oI_m1 ho]
  cases o with
  | none => exact ⟨fun _ => f rfl, fun z => absurd rfl z⟩
  | some k => exact ⟨fun z => absurd z (by simp), fun _ => g k rfl⟩
theorem pk_ne {x y : Int32} {A B : Prop} (a b : Nat) (f : a ≠ b → A) (g : a = b → B) (hx : x = nI a := by rfl) (hy : y = nI b := by rfl) (ha : a < 2 ^ 31 := by omega) (hb : b < 2 ^ 31 := by omega) : (¬ x = y → A) ∧ (¬ ¬ x = y → B) := by
  subst hx hy
  rw [nI_eq ha hb]
  exact ⟨f, fun z => g (by omega)⟩
theorem pk_b0 {x y : Int32} {A B : Prop} (b : Bool) (f : b = false → A) (g : b = true → B) (hx : x = bI b := by rfl) (hy : y = 0 := by rfl) : (x = y → A) ∧ (¬ x = y → B) := by
  subst hx hy
  rw [bI_eq0]
  cases b with
  | false => exact ⟨fun _ => f rfl, fun z => absurd rfl z⟩
  | true => exact ⟨fun z => absurd z (by simp), fun _ => g rfl⟩
theorem pk_nb0 {x y : Int32} {A B : Prop} (b : Bool) (f : b = true → A) (g : b = false → B) (hx : x = bI b := by rfl) (hy : y = 0 := by rfl) : (¬ x = y → A) ∧ (¬ ¬ x = y → B) := by
  subst hx hy
  rw [bI_eq0]
  cases b with
  | false => exact ⟨fun z => absurd rfl z, fun _ => g rfl⟩
  | true => exact ⟨fun _ => f rfl, fun z => absurd (fun h => by simp at h) z⟩
theorem nb_t {c A B : Prop} (h : c) (b : B) : (¬ c → A) ∧ (¬ ¬ c → B) := ⟨fun z => absurd h z, fun _ => b⟩
theorem nb_f {c A B : Prop} (h : ¬ c) (a : A) : (¬ c → A) ∧ (¬ ¬ c → B) := ⟨fun _ => a, fun z => absurd h z⟩
theorem vin {n N : Nat} (h : n < N) (hN : N < 2 ^ 31 := by omega) : vp_in (nI n) N := vp_in_nI h hN
