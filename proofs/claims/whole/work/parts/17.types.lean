/-! Types are kept (behind the constructors). -/
theorem aOkV_I {M : aM} {x : Int32} : aOkV M (Sum.inl x) ↔ True := Iff.rfl
theorem aOkV_J {M : aM} {x : Int64} : aOkV M (Sum.inr (Sum.inr x)) ↔ True := Iff.rfl
def aKp (M M1 : aM) : Prop := ∀ v, aOkV M v → aOkV M1 v
theorem aKp_rf {M : aM} : aKp M M := fun _ h => h
theorem aKp_same {M M1 : aM} (h : aSame M M1) : aKp M M1 := fun _ hv => aOkV_same h hv
theorem aSame_cpy (M : aM) (a b c d e : Nat) : aSame M (aCpy M a b c d e) := ⟨rfl, fun _ => rfl⟩
theorem aPut_ok {M M1 : aM} {ci j k9 : Nat} {v : aV} {P : Prop} (h : aPut true M k9 j (aFd ci j) v = some (P, M1)) (hw : aWf true M) (hk : aTy M (10 + ci) k9) (hv : aOkV M v) (hci : ci < 90) (hq : kQ ci j = true) : aWf true M1 ∧ aSame M M1 := by
  obtain ⟨hs, htag⟩ := kQ_spec hq
  revert h hs htag
  generalize hf : aFd ci j = f
  intro h hs htag
  obtain ⟨s0, tt, ww⟩ := f
  match s0, h, hs, htag with
  | 0, h, _, _ =>
    rcases v with x | r | x
    · cases h; exact ⟨aWf_same (aSame_wI _ _ _ _) (fun _ => rfl) hw, aSame_wI _ _ _ _⟩
    · cases h
    · cases h
  | 1, h, _, _ =>
    rcases v with x | r | x
    · cases h; exact ⟨aWf_same (aSame_wI _ _ _ _) (fun _ => rfl) hw, aSame_wI _ _ _ _⟩
    · cases h
    · cases h
  | 2, h, _, _ =>
    rcases v with x | r | x
    · cases h
    · cases h
    · cases h
  | 3, h, _, htag =>
    rcases v with x | r | x
    · cases h
    · obtain ⟨rt, rk⟩ := r
      dsimp only [aPut, cond] at h
      by_cases hr : rt = tt
      · subst hr
        rw [show ((rt == rt) = true) from beq_self_eq_true _] at h
        cases h
        have h4 : 4 ≤ rt := htag (Or.inr rfl)
        have hty : aTy M rt rk := by
          rcases hv with h | h
          · omega
          · exact h
        exact ⟨aWf_wR hci hw hk hty (by rw [hf]) (fun _ => by rw [hf]), aSame_wR _ _ _ _⟩
      · rw [show (rt == tt) = false by simp [hr]] at h
        cases h
    · cases h
  | 4, h, _, _ =>
    rcases v with x | r | x
    · cases h
    · cases h
    · cases h; exact ⟨aWf_same (aSame_wJ _ _ _ _) (fun _ => rfl) hw, aSame_wJ _ _ _ _⟩
  | n + 5, _, hs, _ => exact absurd hs (by omega)
set_option maxHeartbeats 4000000 in
theorem aStep_ok {o pc len tg : Nat} {i : Instr} {v0 : Int32} {L : List (Option aV)} {st : List aV} {M : aM} {P : Prop} {σ1 : aS} (ho : o < 16) (hs : aStep true o pc i len v0 tg L st M = some (P, σ1)) (hP : P) (ok : aOk true M L st) : aOk true σ1.2.2.2 σ1.2.1 σ1.2.2.1 ∧ aKp M σ1.2.2.2 := by
  cases i
  all_goals first
    | exact absurd (show (none : aA) = some (P, σ1) from hs) (by simp)
    | skip
  case getfield i =>
    unfold aStep at hs
    dsimp only at hs
    cases hf : tFld o i with
    | none => rw [hf] at hs; cases hs
    | some z =>
      obtain ⟨ci, j, f⟩ := z
      rw [hf] at hs
      dsimp only at hs
      obtain ⟨h1, h2, h3, rfl⟩ := tFld_ok ho hf
      obtain ⟨g1, g2, g3, g4, g5, g6, -⟩ := aCf_all h3
      split at hs
      · rename_i r st
        obtain ⟨t, k9⟩ := r
        by_cases ht : t = 10 + ci
        · subst ht
          rw [show ((10 + ci == 10 + ci) = true) from beq_self_eq_true _] at hs
          cases hs
          have o9 := aOkS_cons.mp ok.1
          have o8 : aTy M (10 + ci) k9 := by
            rcases o9.1 with h | h
            · omega
            · exact h
          exact ⟨⟨aOkS_cons.mpr ⟨(aGet_ok (E := (0, 0, fun _ => 0, #[], (fun _ => 0, fun _ _ => 0), fun _ => 0)) ok.2.2 o8 (by omega) h2 (g6 j h2)).2, o9.2⟩, ok.2⟩, aKp_rf⟩
        · rw [show (t == 10 + ci) = false by simp [ht]] at hs
          cases hs
      · cases hs
  case putfield i =>
    unfold aStep at hs
    dsimp only at hs
    cases hf : tFld o i with
    | none => rw [hf] at hs; cases hs
    | some z =>
      obtain ⟨ci, j, f⟩ := z
      rw [hf] at hs
      dsimp only at hs
      obtain ⟨h1, h2, h3, rfl⟩ := tFld_ok ho hf
      obtain ⟨g1, g2, g3, g4, g5, g6, -⟩ := aCf_all h3
      split at hs
      · rename_i v r st
        obtain ⟨t, k9⟩ := r
        by_cases ht : t = 10 + ci
        · subst ht
          rw [show ((10 + ci == 10 + ci) = true) from beq_self_eq_true _] at hs
          dsimp only [cond] at hs
          cases hp : aPut true M k9 j (aFd ci j) v with
          | none => rw [hp] at hs; cases hs
          | some y =>
            obtain ⟨P1, M1⟩ := y
            rw [hp] at hs
            cases hs
            have o9 := aOkS_cons.mp ok.1
            have o7 := aOkS_cons.mp o9.2
            have o8 : aTy M (10 + ci) k9 := by
              rcases o7.1 with h | h
              · omega
              · exact h
            obtain ⟨w1, w2⟩ := aPut_ok hp ok.2.2 o8 o9.1 (by omega) (g6 j h2)
            exact ⟨⟨aOkS_same w2 o7.2, aOkL_same w2 ok.2.1, w1⟩, aKp_same w2⟩
        · rw [show (t == 10 + ci) = false by simp [ht]] at hs
          cases hs
      · cases hs
  case aaload =>
    unfold aStep at hs
    dsimp only at hs
    split at hs
    · rename_i i r st
      obtain ⟨t, k9⟩ := r
      by_cases h4 : 100 ≤ t
      · rw [decide_eq_true h4] at hs
        cases hs
        have o9 := aOkS_cons.mp ok.1
        have o8 := aOkS_cons.mp o9.2
        obtain ⟨ci, rfl⟩ : ∃ ci, t = 100 + ci := ⟨t - 100, by omega⟩
        have hty : aTy M (100 + ci) k9 := by
          rcases o8.1 with h9 | h9
          · omega
          · exact h9
        obtain ⟨a0, a9⟩ := ok.2.2.2 k9 ci hty.1 hty.2.1 hty.2.2
        subst a0
        have hlt : i.toNatClampNeg < (rK M k9).2 := Nat.not_le.mp fun q => hP (Or.inr q)
        obtain ⟨a1, a2⟩ := a9 _ hlt
        exact ⟨⟨aOkS_cons.mpr ⟨Or.inr (a1.resolve_left (a2 rfl)), o8.2⟩, ok.2⟩, aKp_rf⟩
      · rw [decide_eq_false h4] at hs
        cases hs
    · cases hs
  case aastore =>
    unfold aStep at hs
    dsimp only at hs
    split at hs
    · rename_i x i r st
      obtain ⟨t, k9⟩ := r
      obtain ⟨xt, xk⟩ := x
      by_cases h4 : 100 ≤ t ∧ xt = t - 90
      · obtain ⟨h4, rfl⟩ := h4
        rw [show (decide (100 ≤ t) && (t - 90 == t - 90)) = true by simp [h4]] at hs
        cases hs
        have o9 := aOkS_cons.mp ok.1
        have o8 := aOkS_cons.mp o9.2
        have o7 := aOkS_cons.mp o8.2
        obtain ⟨ci, rfl⟩ : ∃ ci, t = 100 + ci := ⟨t - 100, by omega⟩
        have hty : aTy M (100 + ci) k9 := by
          rcases o7.1 with h9 | h9
          · omega
          · exact h9
        obtain ⟨a0, a9⟩ := ok.2.2.2 k9 ci hty.1 hty.2.1 hty.2.2
        subst a0
        have hxy : aTy M 13 xk := by
          rcases o9.1 with h9 | h9
          · omega
          · exact h9
        exact ⟨⟨aOkS_same (aSame_wR _ _ _ _) o7.2, aOkL_same (aSame_wR _ _ _ _) ok.2.1, aWf_wRA ok.2.2 hty hxy⟩, aKp_same (aSame_wR _ _ _ _)⟩
      · rw [show (decide (100 ≤ t) && (xt == t - 90)) = false by
          rcases Classical.not_and_iff_not_or_not.mp h4 with h | h
          · simp [h]
          · simp [h]] at hs
        cases hs
    · cases hs
  case aload_n i =>
    unfold aStep at hs
    dsimp only at hs
    split at hs
    · rename_i r hv
      cases hs
      exact ⟨⟨aOkS_cons.mpr ⟨ok.2.1 _ _ (aLd_some hv), ok.1⟩, ok.2⟩, aKp_rf⟩
    · cases hs
  case aload i =>
    unfold aStep at hs
    dsimp only at hs
    split at hs
    · rename_i r hv
      cases hs
      exact ⟨⟨aOkS_cons.mpr ⟨ok.2.1 _ _ (aLd_some hv), ok.1⟩, ok.2⟩, aKp_rf⟩
    · cases hs
  case ldc k9 =>
    unfold aStep at hs
    dsimp only at hs
    cases hv : tLdc o k9 with
    | none => rw [hv] at hs; cases hs
    | some v => rw [hv] at hs; cases hs; exact ⟨⟨aOkS_cons.mpr ⟨tLdc_ok hv, ok.1⟩, ok.2⟩, aKp_rf⟩
  case ldc_w k9 =>
    unfold aStep at hs
    dsimp only at hs
    cases hv : tLdc o k9 with
    | none => rw [hv] at hs; cases hs
    | some v => rw [hv] at hs; cases hs; exact ⟨⟨aOkS_cons.mpr ⟨tLdc_ok hv, ok.1⟩, ok.2⟩, aKp_rf⟩
  case new k9 =>
    unfold aStep at hs
    dsimp only at hs
    cases hv : tNew o k9 with
    | none => rw [hv] at hs; cases hs
    | some v => rw [hv] at hs; cases hs
  case anewarray k9 =>
    unfold aStep at hs
    dsimp only at hs
    cases hv : tNew o k9 with
    | none => rw [hv] at hs; cases hs
    | some v => rw [hv] at hs; cases hs
  case aconst_null => cases hs; exact ⟨⟨aOkS_cons.mpr ⟨Or.inl (by decide), ok.1⟩, ok.2⟩, aKp_rf⟩
  all_goals
    unfold aStep at hs
    simp only [Bool.cond_eq_ite] at hs
    repeat' split at hs
  all_goals first
    | cases hs; done
    | exact absurd rfl (by assumption)
    | (cases hs; obtain ⟨o1, o2, o3⟩ := ok; (try simp only [aOkS_cons, aOkV_I, aOkV_J, true_and] at o1); exact ⟨⟨by (try simp only [aOkS_cons, aOkV_I, aOkV_J, true_and]); first | exact o1 | exact o1.2 | exact o1.2.2 | exact ⟨o1.1, o1.1, o1.2⟩ | exact ⟨o1.1, o1⟩ | exact ⟨o1.1, o1.2⟩, o2, o3⟩, aKp_rf⟩)
    | (cases hs; obtain ⟨o1, o2, o3⟩ := ok; (try simp only [aOkS_cons, aOkV_I, aOkV_J, true_and] at o1); exact ⟨⟨o1, aOkL_set o2 trivial, o3⟩, aKp_rf⟩)
    | (cases hs; obtain ⟨o1, o2, o3⟩ := ok; (try simp only [aOkS_cons, aOkV_I, aOkV_J, true_and] at o1); exact ⟨⟨o1.2, aOkL_set o2 o1.1, o3⟩, aKp_rf⟩)
    | (cases hs; obtain ⟨o1, o2, o3⟩ := ok; (try simp only [aOkS_cons, aOkV_I, aOkV_J, true_and] at o1); exact ⟨⟨aOkS_same (aSame_wI _ _ _ _) o1.2, aOkL_same (aSame_wI _ _ _ _) o2, aWf_same (aSame_wI _ _ _ _) (fun _ => rfl) o3⟩, aKp_same (aSame_wI _ _ _ _)⟩)
    | (cases hs; obtain ⟨o1, o2, o3⟩ := ok; (try simp only [aOkS_cons, aOkV_I, aOkV_J, true_and] at o1); exact ⟨⟨aOkS_same (aSame_wJ _ _ _ _) o1.2, aOkL_same (aSame_wJ _ _ _ _) o2, aWf_same (aSame_wJ _ _ _ _) (fun _ => rfl) o3⟩, aKp_same (aSame_wJ _ _ _ _)⟩)
    | (cases hs; obtain ⟨o1, o2, o3⟩ := ok; (try simp only [aOkS_cons, aOkV_I, aOkV_J, true_and] at o1); exact ⟨⟨aOkS_same (aSame_cpy _ _ _ _ _ _) o1.2.2, aOkL_same (aSame_cpy _ _ _ _ _ _) o2, aWf_same (aSame_cpy _ _ _ _ _ _) (fun _ => rfl) o3⟩, aKp_same (aSame_cpy _ _ _ _ _ _)⟩)
/-- where a run comes back, its end is well typed -/
theorem aWf_exc {M : aM} {x n : Nat} (h : aWf true M) : aWf true (aNew M 3 x n) ∧ aKp M (aNew M 3 x n) := by
  have hT : ∀ t k, aTy M t k → aTy (aNew M 3 x n) t k := by
    intro t k ht
    refine ⟨ht.1, Nat.lt_succ_of_lt ht.2.1, ?_⟩
    show (if k = aN M then (3, x) else M.2.1 k).1 = t
    rw [if_neg (by have := ht.2.1; omega)]
    exact ht.2.2
  have hK : ∀ k, k < aN M → rK (aNew M 3 x n) k = rK M k := by
    intro k hk
    show (if k = aN M then (3, x) else M.2.1 k) = M.2.1 k
    rw [if_neg (by omega)]
  have hR : ∀ k, k < aN M → rR (aNew M 3 x n) k = rR M k := by
    intro k hk
    show (if k = aN M then (fun _ => 0) else M.2.2.2.1 k) = M.2.2.2.1 k
    rw [if_neg (by omega)]
  have hE : rK (aNew M 3 x n) (aN M) = (3, x) := by
    show (if aN M = aN M then (3, x) else M.2.1 (aN M)) = _
    rw [if_pos rfl]
  refine ⟨⟨fun k ci h0 h1 h2 h3 j hj hs => ?_, fun k ci h0 h1 h2 => ?_⟩, fun v hv => ?_⟩
  · have h1 : k < aN M + 1 := h1
    by_cases hk : k = aN M
    · subst hk; rw [hE] at h2; simp at h2; omega
    · have hk' : k < aN M := by omega
      rw [hK k hk'] at h2
      obtain ⟨a1, a2⟩ := h.1 k ci h0 hk' h2 h3 j hj hs
      rw [hR k hk']
      exact ⟨a1.imp id (hT _ _), a2⟩
  · have h1 : k < aN M + 1 := h1
    by_cases hk : k = aN M
    · subst hk; rw [hE] at h2; simp at h2; omega
    · have hk' : k < aN M := by omega
      rw [hK k hk'] at h2
      obtain ⟨a0, a9⟩ := h.2 k ci h0 hk' h2
      refine ⟨a0, fun j hj => ?_⟩
      rw [hK k hk'] at hj
      obtain ⟨a1, a2⟩ := a9 j hj
      rw [hR k hk']
      exact ⟨a1.imp id (hT _ _), a2⟩
  · rcases v with y | r | y
    · trivial
    · rcases hv with q | q
      · exact Or.inl q
      · exact Or.inr (hT _ _ q)
    · trivial
