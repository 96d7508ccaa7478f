/-! DUTIES, on: who takes part, what is owed. -/
def tkN (T : Txt) (g : Nat → Nat) : Nat → Nat → Bool
  | 0, _ => false
  | h + 1, i => decide (dec T g i = 1 ∨ dec T g i = 2) && (match T.fa i with
    | none => true
    | some f => tkN T g h f && (decide (dec T g i = dec T g f) && decide (((T.way f).getD 0 ≠ 2 ∧ (T.way f).getD 0 ≠ 3) ∨ chs T g f = some i)))
/-- node i takes part in the decision -/
def tk (T : Txt) (g : Nat → Nat) (i : Nat) : Bool := tkN T g (i + 1) i
/-- duties of node i from d on -/
def dl (T : Txt) (g : Nat → Nat) (i : Nat) : Nat → Nat → List Nat
  | 0, _ => []
  | n + 1, d => if T.dof d = i ∧ T.dfor d = dec T g i then T.dnum d :: dl T g i n (d + 1) else dl T g i n (d + 1)
def ownL (T : Txt) (g : Nat → Nat) (i : Nat) : List Nat := if tk T g i = true then dl T g i T.nd 0 else []
/-- what is owed -/
def owedL (T : Txt) (g : Nat → Nat) : List Nat := (pord T.fa T.nn (T.nn + 1) 0).flatMap (ownL T g)
section DU
variable {T : Txt} {g : Nat → Nat}
theorem tkN_fuel (N : NI T) : ∀ h h' i, i < h → i < h' → i < T.nn → tkN T g h i = tkN T g h' i := by
  intro h
  induction h with
  | zero => intro h' i h1; omega
  | succ h ih =>
    intro h' i h1 h2 h3
    obtain ⟨h'', rfl⟩ : ∃ x, h' = x + 1 := ⟨h' - 1, by omega⟩
    rw [tkN, tkN]
    cases hf : T.fa i with
    | none => rfl
    | some f =>
      have := (N.fl i h3 f hf).1
      dsimp only
      rw [ih h'' f (by omega) (by omega) (by omega)]
theorem tk_root {i : Nat} (hf : T.fa i = none) : tk T g i = decide (dec T g i = 1 ∨ dec T g i = 2) := by
  unfold tk
  rw [tkN, hf]
  simp
theorem tk_kid (N : NI T) {i f : Nat} (hi : i < T.nn) (hf : T.fa i = some f) : tk T g i = (decide (dec T g i = 1 ∨ dec T g i = 2) && (tk T g f && (decide (dec T g i = dec T g f) && decide (((T.way f).getD 0 ≠ 2 ∧ (T.way f).getD 0 ≠ 3) ∨ chs T g f = some i)))) := by
  have := (N.fl i hi f hf).1
  unfold tk
  rw [tkN, hf]
  dsimp only
  rw [tkN_fuel N i (f + 1) f (by omega) (by omega) (by omega)]
theorem tk_dec (N : NI T) {i : Nat} (hi : i < T.nn) (h : tk T g i = true) : dec T g i = 1 ∨ dec T g i = 2 := by
  unfold tk at h
  rw [tkN, Bool.and_eq_true] at h
  exact of_decide_eq_true h.1
theorem dl_len (i : Nat) : ∀ n d, (dl T g i (n + 1) d).length ≤ (if T.dof d = i then 1 else 0) + (dl T g i n (d + 1)).length := by
  intro n d
  rw [dl]
  by_cases h : T.dof d = i
  · rw [if_pos h]
    split
    · show _ + 1 ≤ _; omega
    · omega
  · rw [if_neg h, if_neg (fun z => h z.1)]; omega
theorem dl_sum1 (n d : Nat) : ∀ L : List Nat, (L.flatMap (fun i => dl T g i (n + 1) d)).length ≤ L.count (T.dof d) + (L.flatMap (fun i => dl T g i n (d + 1))).length := by
  intro L
  induction L with
  | nil => exact Nat.zero_le _
  | cons x L ih =>
    rw [List.flatMap_cons, List.flatMap_cons, List.length_append, List.length_append, List.count_cons]
    have := dl_len (T := T) (g := g) x n d
    by_cases h : T.dof d = x
    · rw [if_pos h] at this
      rw [if_pos (by simp [h])]
      omega
    · rw [if_neg h] at this
      have h2 : ¬ x = T.dof d := fun z => h z.symm
      rw [if_neg (by simp [h2])]
      omega
theorem dl_sum : ∀ n d (L : List Nat), (∀ a, L.count a ≤ 1) → (L.flatMap (fun i => dl T g i n d)).length ≤ n := by
  intro n
  induction n with
  | zero =>
    intro d L hx
    clear hx
    induction L with
    | nil => exact Nat.le_refl _
    | cons x L ih => exact ih
  | succ n ih =>
    intro d L h
    have h1 := dl_sum1 (T := T) (g := g) n d L
    have h2 := ih (d + 1) L h
    have h3 := h (T.dof d)
    omega
theorem own_sum (L : List Nat) (h : ∀ a, L.count a ≤ 1) : (L.flatMap (ownL T g)).length ≤ T.nd := by
  refine Nat.le_trans ?_ (dl_sum (T := T) (g := g) T.nd 0 L h)
  clear h
  induction L with
  | nil => exact Nat.le_refl _
  | cons x L ih =>
    rw [List.flatMap_cons, List.flatMap_cons, List.length_append, List.length_append]
    have : (ownL T g x).length ≤ (dl T g x T.nd 0).length := by
      unfold ownL
      split
      · exact Nat.le_refl _
      · exact Nat.zero_le _
    omega
theorem CS_all (N : NI T) : ∀ k, 1 ≤ k → k ≤ T.nn → ∃ cl pl, CS T.fa k cl pl := by
  intro k
  induction k with
  | zero => intro h; omega
  | succ k ih =>
    intro _ hk
    by_cases z : k = 0
    · subst z
      exact ⟨_, _, CS.one (N.r0 (by omega))⟩
    · obtain ⟨cl, pl, h⟩ := ih (by omega) (by omega)
      obtain ⟨m, c, hc, hp⟩ := N.ds (k - 1) (by omega)
      rw [show k - 1 + 1 = k by omega] at hc
      obtain ⟨A, rest, e1, e2⟩ := isP_cut m (k - 1) pl hp h.p
      subst e1
      exact ⟨_, _, CS.step (fun i hi a ha => (N.fl i (by omega) a ha).1) (by omega) hc h e2⟩
theorem owed_len (N : NI T) (h0 : 0 < T.nn) : (owedL T g).length ≤ T.nd := by
  obtain ⟨cl, pl, h⟩ := CS_all N T.nn (by omega) (Nat.le_refl _)
  refine own_sum _ ?_
  rw [← h.e]
  exact h.c
/-- the choice of a set that decides -/
theorem chs_of (N : NI T) {i w : Nat} (hi : i < T.nn) (hs : T.srt i = 2) (hw : T.way i = some w) (hd : dec T g i = 1 ∨ dec T g i = 2) : (w = 2 → chs T g i = fstC (dec T g) (kids T.fa T.nn i) ∧ chs T g i ≠ none) ∧ (w = 3 → chs T g i = oneC (tru T g) (kids T.fa T.nn i) ∧ chs T g i ≠ none) ∧ (w ≠ 2 → w ≠ 3 → chs T g i = none) := by
  have e := dec_eq (g := g) N hi
  rw [if_pos hs, hw, show (some w).getD 0 = w from rfl] at e
  have ht := tru_le T g i
  have e1 : tru T g i = 1 ∧ dec T g i = combV w (kids T.fa T.nn i) (dec T g) (tru T g) := by
    revert e
    generalize combV w (kids T.fa T.nn i) (dec T g) (tru T g) = x
    intro e
    unfold wk at e
    by_cases z0 : tru T g i = 0
    · rw [if_pos z0] at e; omega
    · rw [if_neg z0] at e
      by_cases z1 : tru T g i = 1
      · rw [if_pos z1] at e; exact ⟨z1, e⟩
      · rw [if_neg z1] at e
        by_cases z2 : x = 1 ∨ x = 2
        · rw [if_pos z2] at e; omega
        · rw [if_neg z2] at e; omega
  obtain ⟨e1, e2⟩ := e1
  have hc : chs T g i = if w = 2 then fstC (dec T g) (kids T.fa T.nn i) else if w = 3 then (if 2 ∈ (kids T.fa T.nn i).map (tru T g) ∨ 1 < ((kids T.fa T.nn i).map (tru T g)).count 1 then none else oneC (tru T g) (kids T.fa T.nn i)) else none := by
    unfold chs
    rw [if_neg (fun z => z.elim (by omega) (fun z => z hs)), hw]
    rfl
  refine ⟨fun z => ?_, fun z => ?_, fun z2 z3 => ?_⟩
  · subst z
    rw [hc, if_pos rfl]
    refine ⟨rfl, fun y => ?_⟩
    unfold combV at e2
    rw [if_neg (by omega), if_neg (by omega), if_pos rfl, y] at e2
    have : dec T g i = 0 := e2
    omega
  · subst z
    unfold combV at e2
    rw [if_neg (by omega), if_neg (by omega), if_neg (by omega), if_pos rfl] at e2
    rw [hc, if_neg (by omega), if_pos rfl]
    by_cases y : 2 ∈ (kids T.fa T.nn i).map (tru T g) ∨ 1 < ((kids T.fa T.nn i).map (tru T g)).count 1
    · rw [if_pos y] at e2; omega
    · rw [if_neg y] at e2 ⊢
      refine ⟨rfl, fun x => ?_⟩
      rw [x] at e2
      have : dec T g i = 0 := e2
      omega
  · rw [hc, if_neg z2, if_neg z3]
end DU
