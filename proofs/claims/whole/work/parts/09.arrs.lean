/-! Arrays of references, lengths. -/
theorem aWf_wRA {fl : Bool} {M : aM} {i j k : Nat} (hw : aWf fl M) (hi : aTy M 103 i) (hk : aTy M 13 k) : aWf fl (wR M i j k) := by
  have hS := aSame_wR M i j k
  refine ⟨fun k' c' h0 h1 h2 h3 j' hj hs => ?_, fun k' c' h0 h1 h2 => ?_⟩
  · have g1 : k' < aN M := h1
    have g2 : (rK M k').1 = 10 + c' := h2
    obtain ⟨a1, a2⟩ := hw.1 k' c' h0 g1 g2 h3 j' hj hs
    have hne : k' ≠ i := by
      intro h; subst h
      have := hi.2.2; omega
    have e : rR (wR M i j k) k' = rR M k' := a2_off _ _ _ hne
    rw [e]
    exact ⟨a1.imp id (aTy_same hS), a2⟩
  · have g1 : k' < aN M := h1
    have g2 : (rK M k').1 = 100 + c' := h2
    obtain ⟨a0, a9⟩ := hw.2 k' c' h0 g1 g2
    subst a0
    refine ⟨rfl, fun j' hj => ?_⟩
    obtain ⟨a1, a2⟩ := a9 j' hj
    by_cases hk' : k' = i
    · subst hk'
      rw [rR_wR]
      by_cases hj' : j' = j
      · subst hj'
        rw [if_pos rfl]
        exact ⟨Or.inr (aTy_same hS hk), fun _ => by have := hk.1; omega⟩
      · rw [if_neg hj']
        exact ⟨a1.imp id (aTy_same hS), a2⟩
    · have e : rR (wR M i j k) k' = rR M k' := a2_off _ _ _ hk'
      rw [e]
      exact ⟨a1.imp id (aTy_same hS), a2⟩
section AS4
variable {E : aE} {p : Program} {l : Launch} {e : Env} {R : Room} {s : State} {m : MethodId} {args : Array Value} {below : List Frame} {meth : Method} {c : Code} {Q : State → Prop} {n0 z0 : Nat} {pc q len tg : Nat} {L : List (Option aV)} {st : List aV} {M : aM} {u fl : Bool} {v0 : Int32} {sw : List (Int32 × Nat)} {P : Prop} {σ1 : aS}
theorem as_aaload (X : aCx E p s m args meth c q) (hd : decode (tB q) pc = .ok (.aaload, len)) (hsd : aSide pc .aaload len v0 tg sw = true) (hs : aStep fl (tOwn q) pc .aaload len v0 tg L st M = some (P, σ1)) (hP : P) (ok : aOk fl M L st) (k : aOk fl σ1.2.2.2 σ1.2.1 σ1.2.2.1 → aG E p l e R s m args below meth c n0 z0 Q (bif aWr .aaload then false else u) σ1) : aG E p l e R s m args below meth c n0 z0 Q u (pc, L, st, M) := by
  have hl9 : len = 1 := by simpa [aSide] using hsd
  subst hl9
  rcases st with _ | ⟨v, st⟩
  · cases hs
  · rcases v with i | r | i
    · rcases st with _ | ⟨v, st⟩
      · cases hs
      · rcases v with x | r | x
        · cases hs
        · obtain ⟨t, k9⟩ := r
          have o9 := aOkS_cons.mp ok.1
          have o8 := aOkS_cons.mp o9.2
          unfold aStep at hs
          dsimp only at hs
          by_cases h4 : 100 ≤ t
          · rw [decide_eq_true h4] at hs
            cases hs
            obtain ⟨ci, rfl⟩ : ∃ ci, t = 100 + ci := ⟨t - 100, by omega⟩
            have hty : aTy M (100 + ci) k9 := by
              rcases o8.1 with h9 | h9
              · omega
              · exact h9
            obtain ⟨a0, a9⟩ := ok.2.2.2 k9 ci hty.1 hty.2.1 hty.2.2
            subst a0
            have hlt : i.toNatClampNeg < (rK M k9).2 := Nat.not_le.mp fun q => hP (Or.inr q)
            obtain ⟨a1, a2⟩ := a9 _ hlt
            have key : ∀ z, z ≠ 0 → cr E 13 z = cv E (aR 13 z) := by
              intro z hz
              show (if z = 0 then Value.null else .ref (aAd E 13 z)) = (if 13 = 0 then Value.null else .ref (aAd E 13 z))
              rw [if_neg hz, if_neg (by decide)]
            have hval : cr E (10 + 3) (rR M k9 i.toNatClampNeg) = cv E (bif fl then aR (100 + 3 - 90) (rR M k9 i.toNatClampNeg) else aRf (100 + 3 - 90) (rR M k9 i.toNatClampNeg)) ∧ aOkV M (bif fl then aR (100 + 3 - 90) (rR M k9 i.toNatClampNeg) else aRf (100 + 3 - 90) (rR M k9 i.toNatClampNeg)) := by
              cases fl with
              | true =>
                have b1 := a2 rfl
                exact ⟨key _ b1, Or.inr (a1.resolve_left b1)⟩
              | false =>
                show cr E 13 _ = cv E (aRf 13 _) ∧ aOkV M (aRf 13 _)
                unfold aRf
                by_cases hz : rR M k9 i.toNatClampNeg = 0
                · rw [hz]
                  exact ⟨rfl, Or.inl (by decide)⟩
                · rw [if_neg hz]
                  exact ⟨key _ hz, Or.inr (a1.resolve_left hz)⟩
            exact ag_aald X.1 X.2.1 (ci := 3) X.2.2.2.2.2.1.2.2.2.2.2.1 hty.1 hty.2.1 hty.2.2 hP hval.1 hd (k ⟨aOkS_cons.mpr ⟨hval.2, o8.2⟩, ok.2⟩)
          · rw [decide_eq_false h4] at hs
            cases hs
        · cases hs
    · cases hs
    · cases hs
theorem as_aastore (X : aCx E p s m args meth c q) (hd : decode (tB q) pc = .ok (.aastore, len)) (hsd : aSide pc .aastore len v0 tg sw = true) (hs : aStep fl (tOwn q) pc .aastore len v0 tg L st M = some (P, σ1)) (hP : P) (ok : aOk fl M L st) (k : aOk fl σ1.2.2.2 σ1.2.1 σ1.2.2.1 → aG E p l e R s m args below meth c n0 z0 Q (bif aWr .aastore then false else u) σ1) : aG E p l e R s m args below meth c n0 z0 Q u (pc, L, st, M) := by
  have hl9 : len = 1 := by simpa [aSide] using hsd
  subst hl9
  rcases st with _ | ⟨v, st⟩
  · cases hs
  · rcases v with x | x | x
    · cases hs
    · rcases st with _ | ⟨v, st⟩
      · cases hs
      · rcases v with i | r | i
        · rcases st with _ | ⟨v, st⟩
          · cases hs
          · rcases v with y | r | y
            · cases hs
            · obtain ⟨t, k9⟩ := r
              obtain ⟨xt, xk⟩ := x
              have o9 := aOkS_cons.mp ok.1
              have o8 := aOkS_cons.mp o9.2
              have o7 := aOkS_cons.mp o8.2
              unfold aStep at hs
              dsimp only at hs
              by_cases h4 : 100 ≤ t ∧ xt = t - 90
              · obtain ⟨h4, rfl⟩ := h4
                rw [show (decide (100 ≤ t) && (t - 90 == t - 90)) = true by simp [h4]] at hs
                cases hs
                obtain ⟨ci, rfl⟩ : ∃ ci, t = 100 + ci := ⟨t - 100, by omega⟩
                have hty : aTy M (100 + ci) k9 := by
                  rcases o7.1 with h9 | h9
                  · omega
                  · exact h9
                obtain ⟨a0, a9⟩ := ok.2.2.2 k9 ci hty.1 hty.2.1 hty.2.2
                subst a0
                have hxy : aTy M 13 xk := by
                  rcases o9.1 with h9 | h9
                  · omega
                  · exact h9
                exact ag_aast X.1 X.2.1 (ci := 3) (aCf_all (ci := 3) (by decide)).1 (by decide) X.2.2.2.2.2.1.1 X.2.2.2.2.2.1.2.2.2.2.2.2.1 hty.1 hty.2.1 hty.2.2 hP hxy.1 hxy.2.1 hxy.2.2 hd (k ⟨aOkS_same (aSame_wR _ _ _ _) o7.2, aOkL_same (aSame_wR _ _ _ _) ok.2.1, aWf_wRA ok.2.2 hty hxy⟩)
              · rw [show (decide (100 ≤ t) && (xt == t - 90)) = false by
                  rcases Classical.not_and_iff_not_or_not.mp h4 with h | h
                  · simp [h]
                  · simp [h]] at hs
                cases hs
            · cases hs
        · cases hs
        · cases hs
    · cases hs
theorem as_arraylength (X : aCx E p s m args meth c q) (hscl : tOwn q = 13 → ∀ (st9 : List aV), st = aR 2 0 :: st9 → aG E p l e R s m args below meth c n0 z0 Q u (pc + 1, L, aI (Int32.ofNat (rK M 0).2) :: st9, M) → aG E p l e R s m args below meth c n0 z0 Q u (pc, L, aR 2 0 :: st9, M)) (hd : decode (tB q) pc = .ok (.arraylength, len)) (hsd : aSide pc .arraylength len v0 tg sw = true) (hs : aStep fl (tOwn q) pc .arraylength len v0 tg L st M = some (P, σ1)) (hP : P) (ok : aOk fl M L st) (k : aOk fl σ1.2.2.2 σ1.2.1 σ1.2.2.1 → aG E p l e R s m args below meth c n0 z0 Q (bif aWr .arraylength then false else u) σ1) : aG E p l e R s m args below meth c n0 z0 Q u (pc, L, st, M) := by
  have hl9 : len = 1 := by simpa [aSide] using hsd
  subst hl9
  rcases st with _ | ⟨v, st⟩
  · cases hs
  · rcases v with x | r | x
    · cases hs
    · obtain ⟨t, k9⟩ := r
      have o9 := aOkS_cons.mp ok.1
      unfold aStep at hs
      dsimp only at hs
      have arr : ∀ (ty : FieldType) (z : Nat → Value), 4 ≤ t → aTy M t k9 → (∀ H, aWd E M H → H[E.1 + k9]? = some (arrV (E.2.2.2.2.2 t) (rK M k9).2 z)) → ArrOfT s (E.2.2.2.2.2 t) ty → aG E p l e R s m args below meth c n0 z0 Q u (pc + 1, L, aI (Int32.ofNat (rK M k9).2) :: st, M) → aG E p l e R s m args below meth c n0 z0 Q u (pc, L, aR t k9 :: st, M) := by
        intro ty z h4 hty hc hA kk H locs ls hW hq hu hl
        have hcv : cv E (aR t k9) = .ref (E.1 + k9) := by
          show (if t = 0 then Value.null else .ref (aAd E t k9)) = _
          rw [if_neg (by omega)]
          unfold aAd
          rw [if_neg (by omega), if_neg (by omega)]
        show W p l e R s m args below meth c H locs _ _ Q (F0 m pc ls (cv E (aR t k9) :: st.map (cv E)))
        rw [hcv]
        exact W.alen X.1 X.2.1 (hc H hW) (hA _ z) (by rw [arrV_size]) rfl rfl hd (kk H locs ls hW hq hu hl)
      by_cases h2 : t = 2 ∧ k9 = 0 ∧ tOwn q = 13
      · obtain ⟨rfl, rfl, h13⟩ := h2
        rw [show ((2 : Nat) == 4 || (2 : Nat) == 5 || (2 : Nat) == 6 || (2 : Nat) == 7 || ((2 : Nat) == 2 && ((0 : Nat) == 0 && tOwn q == 13)) || decide (100 ≤ 2)) = true by simp [h13]] at hs
        cases hs
        exact hscl h13 st rfl (k ⟨aOkS_cons.mpr ⟨trivial, o9.2⟩, ok.2⟩)
      · by_cases h4 : t = 4 ∨ t = 5 ∨ t = 6 ∨ t = 7 ∨ 100 ≤ t
        · have hty : aTy M t k9 := by
            rcases o9.1 with h9 | h9
            · omega
            · exact h9
          rw [show (t == 4 || t == 5 || t == 6 || t == 7 || (t == 2 && (k9 == 0 && tOwn q == 13)) || decide (100 ≤ t)) = true by
            rcases h4 with h | h | h | h | h <;> simp [h]] at hs
          cases hs
          have kk := k ⟨aOkS_cons.mpr ⟨trivial, o9.2⟩, ok.2⟩
          have kx := X.2.2.2.2.2.1
          rcases h4 with rfl | rfl | rfl | rfl | h
          · exact arr .int _ (by decide) hty (fun H hW => (hW.2.1 k9 hty.1 hty.2.1).1 hty.2.2) kx.2.1 kk
          · exact arr .boolean _ (by decide) hty (fun H hW => (hW.2.1 k9 hty.1 hty.2.1).2.1 hty.2.2) kx.2.2.1 kk
          · exact arr .long _ (by decide) hty (fun H hW => (hW.2.1 k9 hty.1 hty.2.1).2.2.1 hty.2.2) kx.2.2.2.1 kk
          · exact arr .byte _ (by decide) hty (fun H hW => (hW.2.1 k9 hty.1 hty.2.1).2.2.2.1 hty.2.2) kx.2.2.2.2.1 kk
          · obtain ⟨ci, rfl⟩ : ∃ ci, t = 100 + ci := ⟨t - 100, by omega⟩
            obtain ⟨a0, -⟩ := ok.2.2.2 k9 ci hty.1 hty.2.1 hty.2.2
            subst a0
            exact arr (.object "PolicyJudge$Text") _ (by omega) hty (fun H hW => (hW.2.1 k9 hty.1 hty.2.1).2.2.2.2.1 3 hty.2.2) kx.2.2.2.2.2.1 kk
        · rw [show (t == 4 || t == 5 || t == 6 || t == 7 || (t == 2 && (k9 == 0 && tOwn q == 13)) || decide (100 ≤ t)) = false by
            simp only [not_or] at h4
            have h9 : (t == 2 && (k9 == 0 && tOwn q == 13)) = false := by
              cases ha : (t == 2) with
              | false => rfl
              | true =>
                cases hk : (k9 == 0) with
                | false => rfl
                | true =>
                  cases hb : (tOwn q == 13) with
                  | false => rfl
                  | true => exact absurd ⟨by simpa using ha, by simpa using hk, by simpa using hb⟩ h2
            rw [h9]
            simp [h4.1, h4.2.1, h4.2.2.1, h4.2.2.2.1, h4.2.2.2.2]] at hs
          cases hs
    · cases hs
end AS4
