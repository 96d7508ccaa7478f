/-! Types are kept (behind the constructors). -/
theorem aOkV_I {M : aM} {x : Int32} : aOkV M (Sum.inl x) ↔ True := Iff.rfl
theorem aOkV_J {M : aM} {x : Int64} : aOkV M (Sum.inr (Sum.inr x)) ↔ True := Iff.rfl
def aKp (M M1 : aM) : Prop := ∀ v, aOkV M v → aOkV M1 v
theorem aKp_rf {M : aM} : aKp M M := fun _ h => h
theorem aKp_same {M M1 : aM} (h : aSame M M1) : aKp M M1 := fun _ hv => aOkV_same h hv
theorem aSame_cpy (M : aM) (a b c d e : Nat) : aSame M (aCpy M a b c d e) := ⟨rfl, fun _ => rfl⟩
theorem aPut_ok {fl : Bool} {M M1 : aM} {ci j k9 : Nat} {v : aV} {P : Prop} (h : aPut fl M k9 j (aFd ci j) v = some (P, M1)) (hw : aWf fl M) (hk : aTy M (10 + ci) k9) (hv : aOkV M v) (hci : ci < 90) (hq : kQ ci j = true) : aWf fl M1 ∧ aSame M M1 := by
  obtain ⟨hs, htag⟩ := kQ_spec hq
  revert h hs htag
  generalize hf : aFd ci j = f
  intro h hs htag
  obtain ⟨s0, tt, ww⟩ := f
  match s0, h, hs, htag with
  | 0, h, _, _ =>
    rcases v with x | r | x
    · cases h; exact ⟨aWf_same (aSame_wI _ _ _ _) (fun _ => rfl) hw, aSame_wI _ _ _ _⟩
    · cases h
    · cases h
  | 1, h, _, _ =>
    rcases v with x | r | x
    · cases h; exact ⟨aWf_same (aSame_wI _ _ _ _) (fun _ => rfl) hw, aSame_wI _ _ _ _⟩
    · cases h
    · cases h
  | 2, h, _, htag =>
    rcases v with x | r | x
    · cases h
    · obtain ⟨rt, rk⟩ := r
      cases fl with
      | true => cases h
      | false =>
        dsimp only [aPut, cond] at h
        by_cases hr : rt = tt
        · subst hr
          rw [show ((rt == rt) = true) from beq_self_eq_true _] at h
          cases h
          have h4 : 4 ≤ rt := htag (Or.inl rfl)
          have hty : aTy M rt rk := by
            rcases hv with h | h
            · omega
            · exact h
          exact ⟨aWf_wR hci hw hk hty (by rw [hf]) (fun h => by cases h), aSame_wR _ _ _ _⟩
        · rw [show (rt == tt) = false by simp [hr]] at h
          cases h
    · cases h
  | 3, h, _, htag =>
    rcases v with x | r | x
    · cases h
    · obtain ⟨rt, rk⟩ := r
      dsimp only [aPut, cond] at h
      by_cases hr : rt = tt
      · subst hr
        rw [show ((rt == rt) = true) from beq_self_eq_true _] at h
        cases h
        have h4 : 4 ≤ rt := htag (Or.inr rfl)
        have hty : aTy M rt rk := by
          rcases hv with h | h
          · omega
          · exact h
        exact ⟨aWf_wR hci hw hk hty (by rw [hf]) (fun _ => by rw [hf]), aSame_wR _ _ _ _⟩
      · rw [show (rt == tt) = false by simp [hr]] at h
        cases h
    · cases h
  | 4, h, _, _ =>
    rcases v with x | r | x
    · cases h
    · cases h
    · cases h; exact ⟨aWf_same (aSame_wJ _ _ _ _) (fun _ => rfl) hw, aSame_wJ _ _ _ _⟩
  | n + 5, _, hs, _ => exact absurd hs (by omega)
theorem aWf_new {fl : Bool} {M : aM} {t x n : Nat} (h : aWf fl M) (hfl : fl = true → t < 10) (h100 : ∀ ci, t = 100 + ci → ci = 3) : aWf fl (aNew M t x n) ∧ aKp M (aNew M t x n) ∧ (0 < aN M → aTy (aNew M t x n) t (aN M)) := by
  have hT : ∀ t9 k, aTy M t9 k → aTy (aNew M t x n) t9 k := by
    intro t9 k ht
    refine ⟨ht.1, Nat.lt_succ_of_lt ht.2.1, ?_⟩
    show (if k = aN M then (t, x) else M.2.1 k).1 = t9
    rw [if_neg (by have := ht.2.1; omega)]
    exact ht.2.2
  have hK : ∀ k, k < aN M → rK (aNew M t x n) k = rK M k := by
    intro k hk
    show (if k = aN M then (t, x) else M.2.1 k) = M.2.1 k
    rw [if_neg (by omega)]
  have hR : ∀ k, k < aN M → rR (aNew M t x n) k = rR M k := by
    intro k hk
    show (if k = aN M then (fun _ => 0) else M.2.2.2.1 k) = M.2.2.2.1 k
    rw [if_neg (by omega)]
  have hE : rK (aNew M t x n) (aN M) = (t, x) := by
    show (if aN M = aN M then (t, x) else M.2.1 (aN M)) = _
    rw [if_pos rfl]
  refine ⟨⟨fun k ci h0 h1 h2 h3 j hj hs => ?_, fun k ci h0 h1 h2 => ?_⟩, fun v hv => ?_, fun h0 => ⟨h0, Nat.lt_succ_self _, by rw [hE]⟩⟩
  · have h1 : k < aN M + 1 := h1
    by_cases hk : k = aN M
    · subst hk
      rw [hE] at h2
      have h2 : t = 10 + ci := h2
      have hz : rR (aNew M t x n) (aN M) j = 0 := by
        show (if aN M = aN M then (fun _ => 0) else M.2.2.2.1 (aN M)) j = 0
        rw [if_pos rfl]
      exact ⟨Or.inl hz, fun h9 => absurd (hfl h9) (by omega)⟩
    · have hk' : k < aN M := by omega
      rw [hK k hk'] at h2
      obtain ⟨a1, a2⟩ := h.1 k ci h0 hk' h2 h3 j hj hs
      rw [hR k hk']
      exact ⟨a1.imp id (hT _ _), a2⟩
  · have h1 : k < aN M + 1 := h1
    by_cases hk : k = aN M
    · subst hk
      rw [hE] at h2
      have h2 : t = 100 + ci := h2
      refine ⟨h100 ci h2, fun j _ => ?_⟩
      have hz : rR (aNew M t x n) (aN M) j = 0 := by
        show (if aN M = aN M then (fun _ => 0) else M.2.2.2.1 (aN M)) j = 0
        rw [if_pos rfl]
      exact ⟨Or.inl hz, fun h9 => absurd (hfl h9) (by omega)⟩
    · have hk' : k < aN M := by omega
      rw [hK k hk'] at h2
      obtain ⟨a0, a9⟩ := h.2 k ci h0 hk' h2
      refine ⟨a0, fun j hj => ?_⟩
      rw [hK k hk'] at hj
      obtain ⟨a1, a2⟩ := a9 j hj
      rw [hR k hk']
      exact ⟨a1.imp id (hT _ _), a2⟩
  · rcases v with y | r | y
    · trivial
    · rcases hv with q | q
      · exact Or.inl q
      · exact Or.inr (hT _ _ q)
    · trivial
theorem aWf_exc {fl : Bool} {M : aM} {x n : Nat} (h : aWf fl M) : aWf fl (aNew M 3 x n) ∧ aKp M (aNew M 3 x n) := by
  obtain ⟨a, b, -⟩ := aWf_new (t := 3) (x := x) (n := n) h (fun _ => by decide) (fun ci h => by omega)
  exact ⟨a, b⟩
theorem tNew_lt {o k ci : Nat} (h : tNew o k = some ci) : ci < 12 := by
  have hm := lk_mem (L := tNewL.getD o []) h
  have h1 : ∀ l ∈ tNewL, ∀ e ∈ l, e.2 < 12 := by decide +kernel
  rw [List.getD_eq_getElem?_getD] at hm
  cases hl : tNewL[o]? with
  | none => rw [hl] at hm; cases hm
  | some l0 =>
    rw [hl] at hm
    exact h1 l0 (List.mem_of_getElem? hl) _ hm
set_option maxHeartbeats 4000000 in
theorem aStep_ok {fl : Bool} {o pc len tg : Nat} {i : Instr} {v0 : Int32} {L : List (Option aV)} {st : List aV} {M : aM} {P : Prop} {σ1 : aS} (ho : o < 16) (hs : aStep fl o pc i len v0 tg L st M = some (P, σ1)) (hP : P) (ok : aOk fl M L st) : aOk fl σ1.2.2.2 σ1.2.1 σ1.2.2.1 ∧ aKp M σ1.2.2.2 := by
  cases i
  all_goals first
    | exact absurd (show (none : aA) = some (P, σ1) from hs) (by simp)
    | skip
  case getfield i =>
    unfold aStep at hs
    dsimp only at hs
    cases hf : tFld o i with
    | none => rw [hf] at hs; cases hs
    | some z =>
      obtain ⟨ci, j, f⟩ := z
      rw [hf] at hs
      dsimp only at hs
      obtain ⟨h1, h2, h3, rfl⟩ := tFld_ok ho hf
      obtain ⟨g1, g2, g3, g4, g5, g6, -⟩ := aCf_all h3
      split at hs
      · rename_i r st
        obtain ⟨t, k9⟩ := r
        by_cases ht : t = 10 + ci
        · subst ht
          rw [show ((10 + ci == 10 + ci) = true) from beq_self_eq_true _] at hs
          cases hs
          have o9 := aOkS_cons.mp ok.1
          have o8 : aTy M (10 + ci) k9 := by
            rcases o9.1 with h | h
            · omega
            · exact h
          exact ⟨⟨aOkS_cons.mpr ⟨(aGet_ok (E := (0, 0, fun _ => 0, #[], (fun _ => 0, fun _ _ => 0), fun _ => 0)) ok.2.2 o8 (by omega) h2 (g6 j h2)).2, o9.2⟩, ok.2⟩, aKp_rf⟩
        · rw [show (t == 10 + ci) = false by simp [ht]] at hs
          cases hs
      · cases hs
  case putfield i =>
    unfold aStep at hs
    dsimp only at hs
    cases hf : tFld o i with
    | none => rw [hf] at hs; cases hs
    | some z =>
      obtain ⟨ci, j, f⟩ := z
      rw [hf] at hs
      dsimp only at hs
      obtain ⟨h1, h2, h3, rfl⟩ := tFld_ok ho hf
      obtain ⟨g1, g2, g3, g4, g5, g6, -⟩ := aCf_all h3
      split at hs
      · rename_i v r st
        obtain ⟨t, k9⟩ := r
        by_cases ht : t = 10 + ci
        · subst ht
          rw [show ((10 + ci == 10 + ci) = true) from beq_self_eq_true _] at hs
          dsimp only [cond] at hs
          cases hp : aPut fl M k9 j (aFd ci j) v with
          | none => rw [hp] at hs; cases hs
          | some y =>
            obtain ⟨P1, M1⟩ := y
            rw [hp] at hs
            cases hs
            have o9 := aOkS_cons.mp ok.1
            have o7 := aOkS_cons.mp o9.2
            have o8 : aTy M (10 + ci) k9 := by
              rcases o7.1 with h | h
              · omega
              · exact h
            obtain ⟨w1, w2⟩ := aPut_ok hp ok.2.2 o8 o9.1 (by omega) (g6 j h2)
            exact ⟨⟨aOkS_same w2 o7.2, aOkL_same w2 ok.2.1, w1⟩, aKp_same w2⟩
        · rw [show (t == 10 + ci) = false by simp [ht]] at hs
          cases hs
      · cases hs
  case aaload =>
    unfold aStep at hs
    dsimp only at hs
    split at hs
    · rename_i i r st
      obtain ⟨t, k9⟩ := r
      by_cases h4 : 100 ≤ t
      · rw [decide_eq_true h4] at hs
        cases hs
        have o9 := aOkS_cons.mp ok.1
        have o8 := aOkS_cons.mp o9.2
        obtain ⟨ci, rfl⟩ : ∃ ci, t = 100 + ci := ⟨t - 100, by omega⟩
        have hty : aTy M (100 + ci) k9 := by
          rcases o8.1 with h9 | h9
          · omega
          · exact h9
        obtain ⟨a0, a9⟩ := ok.2.2.2 k9 ci hty.1 hty.2.1 hty.2.2
        subst a0
        have hlt : i.toNatClampNeg < (rK M k9).2 := Nat.not_le.mp fun q => hP (Or.inr q)
        obtain ⟨a1, a2⟩ := a9 _ hlt
        refine ⟨⟨aOkS_cons.mpr ⟨?_, o8.2⟩, ok.2⟩, aKp_rf⟩
        cases fl with
        | true => exact Or.inr (a1.resolve_left (a2 rfl))
        | false =>
          show aOkV M (aRf (100 + 3 - 90) (rR M k9 i.toNatClampNeg))
          unfold aRf
          by_cases h0 : rR M k9 i.toNatClampNeg = 0
          · rw [if_pos h0]; exact Or.inl (by decide)
          · rw [if_neg h0]; exact Or.inr (a1.resolve_left h0)
      · rw [decide_eq_false h4] at hs
        cases hs
    · cases hs
  case aastore =>
    unfold aStep at hs
    dsimp only at hs
    split at hs
    · rename_i x i r st
      obtain ⟨t, k9⟩ := r
      obtain ⟨xt, xk⟩ := x
      by_cases h4 : 100 ≤ t ∧ xt = t - 90
      · obtain ⟨h4, rfl⟩ := h4
        rw [show (decide (100 ≤ t) && (t - 90 == t - 90)) = true by simp [h4]] at hs
        cases hs
        have o9 := aOkS_cons.mp ok.1
        have o8 := aOkS_cons.mp o9.2
        have o7 := aOkS_cons.mp o8.2
        obtain ⟨ci, rfl⟩ : ∃ ci, t = 100 + ci := ⟨t - 100, by omega⟩
        have hty : aTy M (100 + ci) k9 := by
          rcases o7.1 with h9 | h9
          · omega
          · exact h9
        obtain ⟨a0, a9⟩ := ok.2.2.2 k9 ci hty.1 hty.2.1 hty.2.2
        subst a0
        have hxy : aTy M 13 xk := by
          rcases o9.1 with h9 | h9
          · omega
          · exact h9
        exact ⟨⟨aOkS_same (aSame_wR _ _ _ _) o7.2, aOkL_same (aSame_wR _ _ _ _) ok.2.1, aWf_wRA ok.2.2 hty hxy⟩, aKp_same (aSame_wR _ _ _ _)⟩
      · rw [show (decide (100 ≤ t) && (xt == t - 90)) = false by
          rcases Classical.not_and_iff_not_or_not.mp h4 with h | h
          · simp [h]
          · simp [h]] at hs
        cases hs
    · cases hs
  case aload_n i =>
    unfold aStep at hs
    dsimp only at hs
    split at hs
    · rename_i r hv
      cases hs
      exact ⟨⟨aOkS_cons.mpr ⟨ok.2.1 _ _ (aLd_some hv), ok.1⟩, ok.2⟩, aKp_rf⟩
    · cases hs
  case aload i =>
    unfold aStep at hs
    dsimp only at hs
    split at hs
    · rename_i r hv
      cases hs
      exact ⟨⟨aOkS_cons.mpr ⟨ok.2.1 _ _ (aLd_some hv), ok.1⟩, ok.2⟩, aKp_rf⟩
    · cases hs
  case ldc k9 =>
    unfold aStep at hs
    dsimp only at hs
    cases hv : tLdc o k9 with
    | none => rw [hv] at hs; cases hs
    | some v => rw [hv] at hs; cases hs; exact ⟨⟨aOkS_cons.mpr ⟨tLdc_ok hv, ok.1⟩, ok.2⟩, aKp_rf⟩
  case ldc_w k9 =>
    unfold aStep at hs
    dsimp only at hs
    cases hv : tLdc o k9 with
    | none => rw [hv] at hs; cases hs
    | some v => rw [hv] at hs; cases hs; exact ⟨⟨aOkS_cons.mpr ⟨tLdc_ok hv, ok.1⟩, ok.2⟩, aKp_rf⟩
  case new k9 =>
    unfold aStep at hs
    dsimp only at hs
    cases hv : tNew o k9 with
    | none => rw [hv] at hs; cases hs
    | some v =>
      rw [hv] at hs
      have hv12 := tNew_lt hv
      cases fl with
      | true => cases hs
      | false =>
        dsimp only [cond] at hs
        cases hs
        obtain ⟨w1, w2, w3⟩ := aWf_new (t := 10 + v) (x := 0) (n := (aFs v).length) ok.2.2 (fun h => by cases h) (fun ci h => by omega)
        exact ⟨⟨aOkS_cons.mpr ⟨Or.inr (w3 hP), fun x hx => w2 x (ok.1 x hx)⟩, fun j w hj => w2 _ (ok.2.1 j w hj), w1⟩, w2⟩
  case anewarray k9 =>
    unfold aStep at hs
    dsimp only at hs
    cases hv : tNew o k9 with
    | none => rw [hv] at hs; cases hs
    | some v =>
      rw [hv] at hs
      cases fl with
      | true => cases hs
      | false =>
        dsimp only [cond] at hs
        split at hs
        · rename_i n st9
          cases hs
          obtain ⟨hP1, hP2, -, hP3⟩ := hP
          subst hP3
          obtain ⟨w1, w2, w3⟩ := aWf_new (t := 100 + 3) (x := n.toNatClampNeg) (n := n.toNatClampNeg) ok.2.2 (fun h => by cases h) (fun ci h => by omega)
          exact ⟨⟨aOkS_cons.mpr ⟨Or.inr (w3 hP2), fun x hx => w2 x ((aOkS_cons.mp ok.1).2 x hx)⟩, fun j w hj => w2 _ (ok.2.1 j w hj), w1⟩, w2⟩
        · cases hs
  case newarray ty =>
    unfold aStep at hs
    dsimp only at hs
    cases fl with
    | true => cases hs
    | false =>
      dsimp only [cond] at hs
      split at hs
      · rename_i n st9
        have key : ∀ t, t < 10 → 3 < t → (0 < aN M) → aOk false (aNew M t n.toNatClampNeg n.toNatClampNeg) L (aR t (aN M) :: st9) ∧ aKp M (aNew M t n.toNatClampNeg n.toNatClampNeg) := by
          intro t ht ht3 h0
          obtain ⟨w1, w2, w3⟩ := aWf_new (t := t) (x := n.toNatClampNeg) (n := n.toNatClampNeg) ok.2.2 (fun h => by cases h) (fun ci h => by omega)
          exact ⟨⟨aOkS_cons.mpr ⟨Or.inr (w3 h0), fun x hx => w2 x ((aOkS_cons.mp ok.1).2 x hx)⟩, fun j w hj => w2 _ (ok.2.1 j w hj), w1⟩, w2⟩
        split at hs
        · cases hs; exact key 4 (by decide) (by decide) hP.2.1
        · cases hs; exact key 5 (by decide) (by decide) hP.2.1
        · cases hs; exact key 6 (by decide) (by decide) hP.2.1
        · cases hs; exact key 7 (by decide) (by decide) hP.2.1
        · cases hs
      · cases hs
  case aconst_null => cases hs; exact ⟨⟨aOkS_cons.mpr ⟨Or.inl (by decide), ok.1⟩, ok.2⟩, aKp_rf⟩
  all_goals
    unfold aStep at hs
    simp only [Bool.cond_eq_ite] at hs
    repeat' split at hs
  all_goals first
    | cases hs; done
    | exact absurd rfl (by assumption)
    | (cases hs; obtain ⟨o1, o2, o3⟩ := ok; (try simp only [aOkS_cons, aOkV_I, aOkV_J, true_and] at o1); exact ⟨⟨by (try simp only [aOkS_cons, aOkV_I, aOkV_J, true_and]); first | exact o1 | exact o1.2 | exact o1.2.2 | exact ⟨o1.1, o1.1, o1.2⟩ | exact ⟨o1.1, o1⟩ | exact ⟨o1.1, o1.2⟩, o2, o3⟩, aKp_rf⟩)
    | (cases hs; obtain ⟨o1, o2, o3⟩ := ok; (try simp only [aOkS_cons, aOkV_I, aOkV_J, true_and] at o1); exact ⟨⟨o1, aOkL_set o2 trivial, o3⟩, aKp_rf⟩)
    | (cases hs; obtain ⟨o1, o2, o3⟩ := ok; (try simp only [aOkS_cons, aOkV_I, aOkV_J, true_and] at o1); exact ⟨⟨o1.2, aOkL_set o2 o1.1, o3⟩, aKp_rf⟩)
    | (cases hs; obtain ⟨o1, o2, o3⟩ := ok; (try simp only [aOkS_cons, aOkV_I, aOkV_J, true_and] at o1); exact ⟨⟨aOkS_same (aSame_wI _ _ _ _) o1.2, aOkL_same (aSame_wI _ _ _ _) o2, aWf_same (aSame_wI _ _ _ _) (fun _ => rfl) o3⟩, aKp_same (aSame_wI _ _ _ _)⟩)
    | (cases hs; obtain ⟨o1, o2, o3⟩ := ok; (try simp only [aOkS_cons, aOkV_I, aOkV_J, true_and] at o1); exact ⟨⟨aOkS_same (aSame_wJ _ _ _ _) o1.2, aOkL_same (aSame_wJ _ _ _ _) o2, aWf_same (aSame_wJ _ _ _ _) (fun _ => rfl) o3⟩, aKp_same (aSame_wJ _ _ _ _)⟩)
    | (cases hs; obtain ⟨o1, o2, o3⟩ := ok; (try simp only [aOkS_cons, aOkV_I, aOkV_J, true_and] at o1); exact ⟨⟨aOkS_same (aSame_cpy _ _ _ _ _ _) o1.2.2, aOkL_same (aSame_cpy _ _ _ _ _ _) o2, aWf_same (aSame_cpy _ _ _ _ _ _) (fun _ => rfl) o3⟩, aKp_same (aSame_cpy _ _ _ _ _ _)⟩)
