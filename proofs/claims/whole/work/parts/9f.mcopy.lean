/-! THE MODEL COPIES A TEXT. -/
def cpv (c : Nat) (x : Int32) : Int32 := if c = 7 then 0 else if c = 9 then x.toInt8.toInt32 else x
/-- what lies outside text i stays; of row c the first f c places are copied -/
def CPY (i : Nat) (M M1 : aM) (f : Nat → Nat) : Prop := (M1.1 = M.1) ∧ (M1.2.1 = M.2.1) ∧ (M1.2.2.2 = M.2.2.2) ∧ (∀ k j, ¬ (133 ≤ k ∧ k ≤ 157 ∧ i * szM (k - 130) ≤ j ∧ j < i * szM (k - 130) + szM (k - 130)) → rI M1 k j = rI M k j) ∧ (∀ c, 3 ≤ c → c < 28 → ∀ j, j < f c → rI M1 (130 + c) (i * szM c + j) = cpv c (rI M (130 + c) (2 * szM c + j)))
theorem CPY.n {i : Nat} {M M1 : aM} {f : Nat → Nat} (h : CPY i M M1 f) : M1.1 = M.1 := h.1
theorem CPY.k {i : Nat} {M M1 : aM} {f : Nat → Nat} (h : CPY i M M1 f) : M1.2.1 = M.2.1 := h.2.1
theorem CPY.r {i : Nat} {M M1 : aM} {f : Nat → Nat} (h : CPY i M M1 f) : M1.2.2.2 = M.2.2.2 := h.2.2.1
theorem CPY.o {i : Nat} {M M1 : aM} {f : Nat → Nat} (h : CPY i M M1 f) : ∀ k j, ¬ (133 ≤ k ∧ k ≤ 157 ∧ i * szM (k - 130) ≤ j ∧ j < i * szM (k - 130) + szM (k - 130)) → rI M1 k j = rI M k j := h.2.2.2.1
theorem CPY.d {i : Nat} {M M1 : aM} {f : Nat → Nat} (h : CPY i M M1 f) : ∀ c, 3 ≤ c → c < 28 → ∀ j, j < f c → rI M1 (130 + c) (i * szM c + j) = cpv c (rI M (130 + c) (2 * szM c + j)) := h.2.2.2.2
theorem CPY.refl {i : Nat} {M : aM} : CPY i M M (fun _ => 0) := ⟨rfl, rfl, rfl, fun _ _ _ => rfl, fun _ _ _ j hj => absurd hj (Nat.not_lt_zero _)⟩
theorem CPY.K {i : Nat} {M M1 : aM} {f : Nat → Nat} (h : CPY i M M1 f) : rK M1 = rK M := h.k
theorem CPY.less {i : Nat} {M M1 : aM} {f f' : Nat → Nat} (h : CPY i M M1 f) (hf : ∀ c, 3 ≤ c → c < 28 → f' c ≤ f c) : CPY i M M1 f' := ⟨h.n, h.k, h.r, h.o, fun c h1 h2 j hj => h.d c h1 h2 j (Nat.lt_of_lt_of_le hj (hf c h1 h2))⟩
theorem CPY.w {i : Nat} {M M1 : aM} {f : Nat → Nat} (h : CPY i M M1 f) (c j : Nat) (h1 : 3 ≤ c) (h2 : c < 28) (hj : j < szM c) (hf : f c = j) {x : Int32} (hx : x = cpv c (rI M (130 + c) (2 * szM c + j))) : CPY i M (wI M1 (130 + c) (i * szM c + j) x) (up f c (j + 1)) := by
  refine ⟨h.n, h.k, h.r, ?_, ?_⟩
  · intro k j' hn
    rw [rw_e, if_neg ?_]
    · exact h.o k j' hn
    · rintro ⟨rfl, rfl⟩
      apply hn
      rw [show 130 + c - 130 = c by omega]
      omega
  · intro c' h1' h2' j' hj'
    by_cases z : c' = c
    · subst z
      rw [up_s] at hj'
      by_cases y : j' = j
      · subst y
        rw [rw_ss]; exact hx
      · rw [rw_sn (by omega)]
        exact h.d c' h1' h2' j' (by omega)
    · rw [up_n z] at hj'
      rw [rw_n (by omega)]
      exact h.d c' h1' h2' j' hj'
theorem CPY.s {i : Nat} {M M1 : aM} {f : Nat → Nat} (h : CPY i M M1 f) (hi : i ≤ 1) (c j : Nat) (hj : j < szM c) : rI M1 (130 + c) (2 * szM c + j) = rI M (130 + c) (2 * szM c + j) := by
  refine h.o _ _ ?_
  rw [show 130 + c - 130 = c by omega]
  have : i = 0 ∨ i = 1 := by omega
  rcases this with rfl | rfl <;> omega
section CO
variable {M : aM} {i : Nat}
end CO
