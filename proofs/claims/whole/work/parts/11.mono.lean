/-! Cells and slots only grow; the locals keep their number. -/
theorem aPut_N {fl : Bool} {M M1 : aM} {k j : Nat} {f : aF} {v : aV} {P : Prop} (h : aPut fl M k j f v = some (P, M1)) : M1.1 = M.1 := by
  unfold aPut at h
  simp only [Bool.cond_eq_ite] at h
  repeat' split at h
  all_goals first | (cases h; rfl) | cases h
def aGr (M : aM) (L : List (Option aV)) (σ : aS) : Prop := aN M ≤ aN σ.2.2.2 ∧ aZ M ≤ aZ σ.2.2.2 ∧ σ.2.1.length = L.length
theorem aGr_same {M M1 : aM} {L L1 : List (Option aV)} {pc : Nat} {st : List aV} (h : M1.1 = M.1) (hl : L1.length = L.length) : aGr M L (pc, L1, st, M1) := ⟨by show aN M ≤ aN M1; unfold aN; rw [h]; exact Nat.le_refl _, by show aZ M ≤ aZ M1; unfold aZ; rw [h]; exact Nat.le_refl _, hl⟩
theorem aGr_new {M : aM} {L : List (Option aV)} {pc t n z : Nat} {st : List aV} : aGr M L (pc, L, st, aNew M t n z) := ⟨by show aN M ≤ aN M + 1; omega, by show aZ M ≤ aZ M + z; omega, rfl⟩
set_option maxHeartbeats 4000000 in
theorem aStep_N {fl : Bool} {o pc len tg : Nat} {i : Instr} {v0 : Int32} {L : List (Option aV)} {st : List aV} {M : aM} {P : Prop} {σ1 : aS} (hs : aStep fl o pc i len v0 tg L st M = some (P, σ1)) : aGr M L σ1 := by
  cases i
  all_goals first
    | exact absurd (show (none : aA) = some (P, σ1) from hs) (by simp)
    | skip
  all_goals
    unfold aStep at hs
    simp only [Bool.cond_eq_ite] at hs
    repeat' split at hs
  all_goals first
    | cases hs; done
    | (cases hs; exact aGr_same rfl rfl)
    | (cases hs; exact aGr_same rfl (List.length_set ..))
    | (cases hs; exact aGr_new)
    | (rename_i hp; cases hs; exact aGr_same (aPut_N hp) rfl)
    | (cases hs; exact aGr_same (aPut_N (by assumption)) rfl)
