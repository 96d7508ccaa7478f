/-! Row 0 of the memory (the script) is never written. -/
def aZ0 (M M1 : aM) : Prop := rK M1 0 = rK M 0 ∧ rI M1 0 = rI M 0
theorem aZ0_rf {M : aM} : aZ0 M M := ⟨rfl, rfl⟩
theorem aZ0_tr {M M1 M2 : aM} (h : aZ0 M M1) (h2 : aZ0 M1 M2) : aZ0 M M2 := ⟨h2.1.trans h.1, h2.2.trans h.2⟩
theorem aZ0_wI {M : aM} {k j : Nat} {x : Int32} (h : 0 < k) : aZ0 M (wI M k j x) := ⟨rfl, a2_off _ _ _ (by omega)⟩
theorem aZ0_wR {M : aM} {k j x : Nat} : aZ0 M (wR M k j x) := ⟨rfl, rfl⟩
theorem aZ0_wJ {M : aM} {k j : Nat} {x : Int64} : aZ0 M (wJ M k j x) := ⟨rfl, rfl⟩
theorem aZ0_new {M : aM} {t x n : Nat} (h : 0 < aN M) : aZ0 M (aNew M t x n) := ⟨aNew_K h, aNew_I h⟩
theorem aPut_0 {fl : Bool} {M M1 : aM} {k j : Nat} {f : aF} {v : aV} {P : Prop} (hk : 0 < k) (h : aPut fl M k j f v = some (P, M1)) : aZ0 M M1 := by
  unfold aPut at h
  simp only [Bool.cond_eq_ite] at h
  repeat' split at h
  all_goals first
    | (cases h; done)
    | (cases h; exact aZ0_wI hk)
    | (cases h; exact aZ0_wR)
    | (cases h; exact aZ0_wJ)
theorem aOkV_pos {M : aM} {t k : Nat} (h : aOkV M (aR t k)) (ht : 4 ≤ t) : 0 < k := by
  rcases h with h | h
  · omega
  · exact h.1
set_option maxHeartbeats 2000000 in
theorem aStep_0 {fl : Bool} {o pc len tg : Nat} {i : Instr} {v0 : Int32} {L : List (Option aV)} {st : List aV} {M : aM} {P : Prop} {σ1 : aS} (hs : aStep fl o pc i len v0 tg L st M = some (P, σ1)) (hP : P) (ok : aOkS M st) : aZ0 M σ1.2.2.2 := by
  cases hw : aWr i with
  | false => rw [aStep_M hs hw]; exact aZ0_rf
  | true =>
    cases i <;> try (cases hw; done)
    case putfield i =>
      unfold aStep at hs
      dsimp only at hs
      split at hs
      · split at hs
        · rename_i ci j f hf9 _ v r st9
          by_cases hr : r.1 = 10 + ci
          · rw [show (r.1 == 10 + ci) = true by simp [hr]] at hs
            dsimp only [cond] at hs
            cases hp : aPut fl M r.2 j f v with
            | none => rw [hp] at hs; cases hs
            | some y =>
              rw [hp] at hs
              cases hs
              exact aPut_0 (aOkV_pos (t := r.1) (aOkS_cons.mp (aOkS_cons.mp ok).2).1 (by omega)) hp
          · rw [show (r.1 == 10 + ci) = false by simp [hr]] at hs
            cases hs
        · cases hs
      · cases hs
    case iastore =>
      unfold aStep at hs
      simp only [Bool.cond_eq_ite] at hs
      repeat' split at hs
      all_goals first | (cases hs; done) | skip
      rename_i x i r st9 h4
      cases hs
      have h4 : r.1 = 4 := by simpa using h4
      exact aZ0_wI (aOkV_pos (t := r.1) (aOkS_cons.mp (aOkS_cons.mp (aOkS_cons.mp ok).2).2).1 (by omega))
    case bastore =>
      unfold aStep at hs
      simp only [Bool.cond_eq_ite] at hs
      repeat' split at hs
      all_goals first | (cases hs; done) | skip
      · rename_i x i r st9 h4
        cases hs
        have h4 : r.1 = 5 := by simpa using h4
        exact aZ0_wI (aOkV_pos (t := r.1) (aOkS_cons.mp (aOkS_cons.mp (aOkS_cons.mp ok).2).2).1 (by omega))
      · rename_i x i r st9 _ h4
        cases hs
        have h4 : r.1 = 7 := by simpa using h4
        exact aZ0_wI (aOkV_pos (t := r.1) (aOkS_cons.mp (aOkS_cons.mp (aOkS_cons.mp ok).2).2).1 (by omega))
    case lastore =>
      unfold aStep at hs
      simp only [Bool.cond_eq_ite] at hs
      repeat' split at hs
      all_goals first | (cases hs; done) | (cases hs; exact aZ0_wJ)
    case aastore =>
      unfold aStep at hs
      simp only [Bool.cond_eq_ite] at hs
      repeat' split at hs
      all_goals first | (cases hs; done) | (cases hs; exact aZ0_wR)
    case new k9 =>
      unfold aStep at hs
      simp only [Bool.cond_eq_ite] at hs
      repeat' split at hs
      all_goals first | (cases hs; done) | (cases hs; exact aZ0_new hP)
    case newarray k9 =>
      unfold aStep at hs
      simp only [Bool.cond_eq_ite] at hs
      repeat' split at hs
      all_goals first | (cases hs; done) | (cases hs; exact aZ0_new hP.2.1)
    case anewarray k9 =>
      unfold aStep at hs
      simp only [Bool.cond_eq_ite] at hs
      repeat' split at hs
      all_goals first | (cases hs; done) | (cases hs; exact aZ0_new hP.2.1)
    case invokestatic k9 =>
      unfold aStep at hs
      simp only [Bool.cond_eq_ite] at hs
      repeat' split at hs
      all_goals first | (cases hs; done) | (cases hs; exact aZ0_rf) | skip
      rename_i n dp r1 sp r0 st9 h4
      cases hs
      simp only [Bool.and_eq_true, beq_iff_eq] at h4
      have hk : 0 < r1.2 := aOkV_pos (t := r1.1) (aOkS_cons.mp (aOkS_cons.mp (aOkS_cons.mp ok).2).2).1 (by omega)
      refine ⟨rfl, ?_⟩
      show (if 0 = r1.2 then _ else M.2.2.1 0) = M.2.2.1 0
      rw [if_neg (by omega)]
theorem aRun_0 {fl : Bool} : ∀ (f d w q : Nat) (u : Bool) (σ : aS) (o : aO), aRun fl f d w q u σ o → aOk fl σ.2.2.2 σ.2.1 σ.2.2.1 → aZ0 σ.2.2.2 o.2.1 := by
  intro f
  induction f with
  | zero => intro d w q u σ o h; exact h.elim
  | succ f ih =>
    intro d w q u σ o h ok
    obtain ⟨pc, L, st, M⟩ := σ
    rw [aRun] at h
    cases hf : (tC q).find? (fun e => e.1 == pc) with
    | none => rw [hf] at h; exact h.elim
    | some e =>
      obtain ⟨e0, i, len, x, v0, tg, sw⟩ := e
      rw [hf] at h
      dsimp only at h
      cases x with
      | succ x => rw [h.2]; exact aZ0_new h.1.2.2.2.2
      | zero =>
        dsimp only at h
        revert h
        generalize aKind (tOwn q) i = kd
        intro h
        match kd, h with
        | 0, h =>
          try dsimp only at h
          cases hs : aStep fl (tOwn q) pc i len v0 tg L st M with
          | none => rw [hs] at h; exact h.elim
          | some a =>
            rw [hs] at h
            exact aZ0_tr (aStep_0 hs h.1 ok.1) (ih _ _ _ _ _ _ h.2 (aStep_ok (tOwn_lt q) hs h.1 ok).1)
        | 1, h =>
          try dsimp only at h
          cases hc : aCallOf (tOwn q) i st with
          | none => rw [hc] at h; exact h.elim
          | some y =>
            obtain ⟨q1, as, rest⟩ := y
            rw [hc] at h
            dsimp only at h
            obtain ⟨hd, ⟨r1, M1, u1⟩, h1, h2⟩ := h
            obtain ⟨k, -, c3, -, -⟩ := aCallOf_spec hc
            have okas : aOkS M as := fun v hv => ok.1 v (by rw [← c3]; exact List.mem_append_left _ (List.mem_reverse.mpr hv))
            have okrest : aOkS M rest := fun v hv => ok.1 v (by rw [← c3]; exact List.mem_append_right _ hv)
            have ok1 : aOk fl M (aEnt q1 as) [] := ⟨(fun v hv => absurd hv List.not_mem_nil), aEnt_ok okas, ok.2.2⟩
            have z1 : aZ0 M M1 := ih _ _ _ _ (0, aEnt q1 as, [], M) _ h1 ok1
            obtain ⟨b1, b2, b3⟩ := aRun_ok _ _ _ _ _ (0, aEnt q1 as, [], M) _ h1 ok1
            have okL1 : aOkL M1 L := fun j w hj => b2 _ (ok.2.1 j w hj)
            cases r1 with
            | inl v =>
              dsimp only at h2
              have okS1 : aOkS M1 (v.toList ++ rest) := by
                intro w9 hw9
                rcases List.mem_append.mp hw9 with h | h
                · cases v with
                  | none => cases h
                  | some v =>
                    have : w9 = v := by simpa using h
                    subst this
                    exact b3 _ rfl
                · exact b2 _ (okrest w9 h)
              exact aZ0_tr z1 (ih _ _ _ _ (pc + 3, L, v.toList ++ rest, M1) _ h2 ⟨okS1, okL1, b1⟩)
            | inr z =>
              dsimp only at h2
              cases hh : aHnd q pc z.1 with
              | none => rw [hh] at h2; rw [h2]; exact z1
              | some p =>
                rw [hh] at h2
                exact aZ0_tr z1 (ih _ _ _ _ (p, L, [aR 3 z.2], M1) _ h2 ⟨aOkS_cons.mpr ⟨Or.inl (by decide), fun v hv => absurd hv List.not_mem_nil⟩, okL1, b1⟩)
        | 2, h =>
          try dsimp only at h
          cases hb : aBr i st with
          | none => rw [hb] at h; exact h.elim
          | some y =>
            rw [hb] at h
            have ok1 : aOk fl M L y.2 := by
              refine ⟨fun v hv => ok.1 v ?_, ok.2⟩
              unfold aBr at hb
              repeat' split at hb
              all_goals first | (cases hb; exact List.mem_cons_of_mem _ hv) | (cases hb; exact List.mem_cons_of_mem _ (List.mem_cons_of_mem _ hv)) | cases hb
            by_cases hc : y.1
            · exact ih _ _ _ _ (tg, L, y.2, M) _ (h.1 hc) ok1
            · exact ih _ _ _ _ (pc + len, L, y.2, M) _ (h.2 hc) ok1
        | 3, h =>
          try dsimp only at h
          cases hb : aSwOf i st with
          | none => rw [hb] at h; exact h.elim
          | some y =>
            rw [hb] at h
            have ok1 : aOk fl M L y.2 := by
              refine ⟨fun v hv => ok.1 v ?_, ok.2⟩
              unfold aSwOf at hb
              repeat' split at hb
              all_goals first | (cases hb; exact List.mem_cons_of_mem _ hv) | cases hb
            exact ih _ _ _ _ (aSw y.1 tg sw, L, y.2, M) _ h ok1
        | 4, h =>
          try dsimp only at h
          cases hb : aEnd (tRt q) i st with
          | none => rw [hb] at h; exact h.elim
          | some y => rw [hb] at h; rw [h.2]; exact aZ0_rf
        | kd + 5, h =>
          try dsimp only at h
          cases hs : aStep fl (tOwn q) pc i len v0 tg L st M with
          | none => rw [hs] at h; exact h.elim
          | some a =>
            rw [hs] at h
            exact aZ0_tr (aStep_0 hs h.1.1 ok.1) (ih _ _ _ _ _ _ h.2 (aStep_ok (tOwn_lt q) hs h.1.1 ok).1)
