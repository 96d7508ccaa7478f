/-! Calls behind the constructors: what the tables say, and all together. -/
theorem kIo_all {o : Nat} (h : o < 16) : kIo o = true := by
  rcases (show o = 0 ∨ o = 1 ∨ o = 2 ∨ o = 3 ∨ o = 4 ∨ o = 5 ∨ o = 6 ∨ o = 7 ∨ o = 8 ∨ o = 9 ∨ o = 10 ∨ o = 11 ∨ o = 12 ∨ o = 13 ∨ o = 14 ∨ o = 15 by omega) with rfl | rfl | rfl | rfl | rfl | rfl | rfl | rfl | rfl | rfl | rfl | rfl | rfl | rfl | rfl | rfl
  · exact ki_0
  · exact ki_1
  · exact ki_2
  · exact ki_3
  · exact ki_4
  · exact ki_5
  · exact ki_6
  · exact ki_7
  · exact ki_8
  · exact ki_9
  · exact ki_10
  · exact ki_11
  · exact ki_12
  · exact ki_13
  · exact ki_14
  · exact ki_15
theorem kP_q {q : Nat} (hq : q < 252) : tPar q ≤ tMl q ∧ plainName (tY q).cls = true ∧ ((tMI q).2.2.2.2 = 1 → tOwn q < 12) := by
  have h := List.all_eq_true.mp kP_all q (List.mem_range.mpr hq)
  simp only [Bool.and_eq_true, decide_eq_true_eq, Bool.or_eq_true, Bool.not_eq_true', beq_eq_false_iff_ne] at h
  exact ⟨h.1, h.2.1, fun h1 => h.2.2.resolve_left (fun n => n h1)⟩
/-- a link to a method of ours -/
theorem tInv_ok {o k q1 : Nat} (ho : o < 16) (h13 : o ≠ 13) (h : tInv o k = some q1) : q1 < 252 ∧ (tMI q1).2.2.2.2 < 3 ∧ tOwn q1 ≠ 13 ∧ ((tMI q1).2.2.2.2 = 2 ∨ Cond.methodLink (tCn o) k (tY q1) ∈ aTbl) := by
  have hm := lk_mem (L := tInvL.getD o []) h
  have hk := kIo_all ho
  unfold kIo at hk
  simp only [Bool.and_eq_true, decide_eq_true_eq] at hk
  have hb := List.all_eq_true.mp kB_all o (List.mem_range.mpr ho)
  rw [show (o == 13) = false by simp [h13], Bool.false_or] at hb
  have hall : ((tInvL.getD o []).zip (tInvI.getD o [])).all (fun z => kI o z.1 z.2 && (decide ((tMI z.1.2).2.2.2.2 < 3) && (!(tOwn z.1.2 == 13) && (z.2.2 == 0 || (tMI z.1.2).2.2.2.2 == 2)))) = true := by
    refine List.all_eq_true.mpr fun z hz => ?_
    rw [List.all_eq_true.mp hk.2 z hz, List.all_eq_true.mp hb z hz]
    rfl
  obtain ⟨x, hx⟩ := zip_all hk.1 hall hm
  simp only [Bool.and_eq_true, decide_eq_true_eq, Bool.not_eq_true', beq_eq_false_iff_ne, Bool.or_eq_true, beq_iff_eq] at hx
  obtain ⟨h1, h2, h3, h4⟩ := hx
  unfold kI at h1
  simp only [Bool.and_eq_true, decide_eq_true_eq] at h1
  refine ⟨h1.2.1, h2, h3, ?_⟩
  rcases h4 with h4 | h4
  · refine Or.inr ?_
    have h5 := h1.1
    rw [h4] at h5
    exact in_tbl_i (of_decide_eq_true h5) rfl
  · exact Or.inl h4
/-- calls behind the constructors (229, the words' rows, is called by constructors alone) -/
theorem aCalls_2 (q : Nat) (e : aC) (st : List aV) (q1 : Nat) (as rest : List aV) (hq : q < 252) (h13 : tOwn q ≠ 13) (hkd : (tMI q).2.2.2.2 < 2) (h229 : q ≠ 229) (hmem : e ∈ tC q) (hc : aCallOf (tOwn q) e.2.1 st = some (q1, as, rest)) : q1 < 252 ∧ ((tMI q1).2.2.2.2 < 2 ∧ q1 ≠ 229) ∧ (as.reverse ++ rest = st) ∧ as.length ≤ tMl q1 ∧ plainName (tY q1).cls = true ∧ (tY q1).cls = tCn (tOwn q1) ∧ tOwn q1 ≠ 13 := by
  obtain ⟨k, c1, c2, c3, c4⟩ := aCallOf_spec hc
  obtain ⟨d1, d2, d3, d4⟩ := tInv_ok (tOwn_lt q) h13 c1
  obtain ⟨p1, p2, -⟩ := kP_q d1
  have hcls : (tY q1).cls = tCn (tOwn q1) := by
    have hkm := kM_q d1
    unfold kM at hkm
    rcases (show (tMI q1).2.2.2.2 = 0 ∨ (tMI q1).2.2.2.2 = 1 ∨ (tMI q1).2.2.2.2 = 2 by omega) with h | h | h <;> rw [h] at hkm <;> simp only [Bool.and_eq_true, decide_eq_true_eq] at hkm
    · exact hkm.2.2.1
    · exact hkm.2.2.1
    · exact hkm.2.2.1
  refine ⟨d1, ?_, c2, by omega, p2, hcls, d3⟩
  have h9 := List.all_eq_true.mp kA_all q (List.mem_range.mpr hq)
  rw [show (tOwn q == 13) = false by simp [h13], Bool.false_or, show (!decide ((tMI q).2.2.2.2 < 2)) = false by simp [hkd], Bool.false_or, show (q == 229) = false by simp [h229], Bool.false_or] at h9
  have h8 := List.all_eq_true.mp h9 e hmem
  have k229 : (tMI 229).2.2.2.2 = 0 := by decide +kernel
  rcases c4 with ⟨hi, h⟩ | ⟨-, h, -⟩ | ⟨hi, h, -⟩
  · refine ⟨by omega, fun z => ?_⟩
    rw [hi] at h8
    have h8 : (!decide (tInv (tOwn q) k = some 229)) = true := h8
    rw [c1, z] at h8
    simp at h8
  · exact ⟨by omega, fun z => by rw [z, k229] at h; omega⟩
  · rw [hi] at h8
    have h8 : (tInv (tOwn q) k).isNone = true := h8
    rw [c1] at h8
    cases h8
theorem aHnd_none : ∀ q pc x, (tMI q).2.2.2.2 < 3 → aHnd q pc x = none := by
  intro q pc x hk
  unfold aHnd
  cases hf : tHdL.find? (fun e => e.1 == q) with
  | none => rfl
  | some e =>
    have h1 : ∀ e ∈ tHdL, (tMI e.1).2.2.2.2 = 3 := by decide +kernel
    have h2 := h1 e (List.mem_of_find?_eq_some hf)
    have h3 : e.1 = q := by simpa using List.find?_some hf
    rw [h3] at h2
    omega
