/-! Switches: the table of values and targets is the instruction's. -/
theorem aSw_look {pc tg : Nat} {d : Int} {x : Int32} (hd : (pc : Int) + d = (tg : Int)) : ∀ (ps : List (Int × Int)) (sw : List (Int32 × Nat)), sw.length = ps.length → (∀ j, j < sw.length → (sw.getD j (0, 0)).1.toInt = (ps.getD j (0, 0)).1 ∧ (pc : Int) + (ps.getD j (0, 0)).2 = ((sw.getD j (0, 0)).2 : Int)) → (pc : Int) + Op.lookupswitch.offset ps d x.toInt = (aSw x tg sw : Int) := by
  intro ps
  induction ps with
  | nil =>
    intro sw hl _
    have : sw = [] := List.length_eq_zero_iff.mp hl
    subst this
    exact hd
  | cons a l ih =>
    intro sw hl h
    obtain ⟨av, ao⟩ := a
    cases sw with
    | nil => cases hl
    | cons s r =>
      obtain ⟨sv, st⟩ := s
      have h0 := h 0 (by simp)
      have h01 : sv.toInt = av := h0.1
      have h02 : (pc : Int) + ao = (st : Int) := h0.2
      have hr := ih r (by simpa using hl) (fun j hj => by
        have := h (j + 1) (by simpa using hj)
        simpa using this)
      rw [Op.lookupswitch.offset_cons, aSw]
      by_cases hx : x = sv
      · rw [if_pos hx, if_pos (by rw [hx]; exact h01.symm)]
        exact h02
      · rw [if_neg hx, if_neg (fun q => hx (Int32.toInt_inj.mp (by rw [h01]; exact q.symm)))]
        exact hr
theorem aSw_miss {x : Int32} {tg : Nat} : ∀ (sw : List (Int32 × Nat)), (∀ q ∈ sw, x ≠ q.1) → aSw x tg sw = tg := by
  intro sw
  induction sw with
  | nil => intro _; rfl
  | cons s r ih =>
    intro h
    rw [aSw, if_neg (h s List.mem_cons_self)]
    exact ih (fun q hq => h q (List.mem_cons_of_mem _ hq))
theorem aSw_hit {x : Int32} {tg : Nat} : ∀ (sw : List (Int32 × Nat)) (j : Nat), j < sw.length → (∀ i, i < sw.length → ((sw.getD i (0, 0)).1 = x ↔ i = j)) → aSw x tg sw = (sw.getD j (0, 0)).2 := by
  intro sw
  induction sw with
  | nil => intro j hj; exact absurd hj (by simp)
  | cons s r ih =>
    intro j hj h
    rw [aSw]
    cases j with
    | zero =>
      have h0 := (h 0 (by simp)).mpr rfl
      rw [if_pos (show x = s.1 from h0.symm)]
      rfl
    | succ j =>
      have h0 : ¬ x = s.1 := fun q => by
        have := (h 0 (by simp)).mp q.symm
        omega
      rw [if_neg h0]
      have := ih j (by simpa using hj) (fun i hi => by
        have := h (i + 1) (by simpa using hi)
        simpa using this)
      simpa using this
theorem aSSw_all {E : aE} {l : Launch} : aSSw E l := by
  intro p e R s m args below meth c n0 z0 Q q pc i len v0 tg sw L st st1 M x u X hdg hsd hb k
  unfold aSwOf at hb
  split at hb
  · rename_i d lo hi offs
    split at hb
    · cases hb
      simp only [aSide, Bool.and_eq_true, beq_iff_eq, List.all_eq_true, List.mem_range] at hsd
      obtain ⟨h1, h2, h3, h4⟩ := hsd
      by_cases hr : x.toInt < lo ∨ hi < x.toInt
      · have hm : aSw x tg sw = tg := aSw_miss sw (fun z hz hx => by
          obtain ⟨j, hj, he⟩ := List.mem_iff_getElem.mp hz
          have h5 := (h4 j hj).1
          rw [List.getD_eq_getElem?_getD, List.getElem?_eq_getElem hj, he] at h5
          have h6 : z.1.toInt = lo + j := h5
          rw [hx, h6] at hr
          omega)
        rw [hm] at k
        exact ag_table_out X.1 X.2.1 hdg hr h1 k
      · have hlt : (x.toInt - lo).toNat < sw.length := by omega
        have hj : ((x.toInt - lo).toNat : Int) = x.toInt - lo := by omega
        have hh := aSw_hit (x := x) (tg := tg) sw (x.toInt - lo).toNat hlt (fun i hi => by
          have h5 := (h4 i hi).1
          constructor
          · intro q
            rw [q] at h5
            omega
          · intro q
            apply Int32.toInt_inj.mp
            rw [h5, q]
            omega)
        have h5 := (h4 _ hlt).2
        have ho : offs[(x.toInt - lo).toNat]? = some (offs.toList.getD (x.toInt - lo).toNat 0) := by
          have hlo : (x.toInt - lo).toNat < offs.toList.length := by
            rw [Array.length_toList]; omega
          rw [← Array.getElem?_toList, List.getD_eq_getElem?_getD, List.getElem?_eq_getElem hlo]
          rfl
        rw [hh] at k
        exact ag_table_in X.1 X.2.1 hdg hr ho h5 k
    · cases hb
  · rename_i d ps
    split at hb
    · cases hb
      simp only [aSide, Bool.and_eq_true, beq_iff_eq] at hsd
      obtain ⟨h1, h2, h3, h4⟩ := hsd
      simp only [List.all_eq_true, List.mem_range, Bool.and_eq_true, beq_iff_eq] at h4
      exact ag_lookup X.1 X.2.1 hdg h2 (aSw_look h1 ps.toList sw h3 h4) k
    · cases hb
  · cases hb
