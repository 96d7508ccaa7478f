/-! Stores into fields; arrays of references; an array's length. -/
theorem rI_wI (M : aM) (i j : Nat) (x : Int32) (n : Nat) : rI (wI M i j x) i n = if n = j then x else rI M i n := by
  show a2 M.2.2.1 i j x i n = _
  rw [a2_row]; rfl
theorem rR_wR (M : aM) (i j : Nat) (x : Nat) (n : Nat) : rR (wR M i j x) i n = if n = j then x else rR M i n := by
  show a2 M.2.2.2.1 i j x i n = _
  rw [a2_row]; rfl
theorem rJ_wJ (M : aM) (i j : Nat) (x : Int64) (n : Nat) : rJ (wJ M i j x) i n = if n = j then x else rJ M i n := by
  show a2 M.2.2.2.2 i j x i n = _
  rw [a2_row]; rfl
theorem cf_ne {E : aE} {M M1 : aM} {i n : Nat} {f : aF} (h1 : rI M1 i n = rI M i n) (h2 : rR M1 i n = rR M i n) (h3 : rJ M1 i n = rJ M i n) : cf E M1 i n f = cf E M i n f := by
  simp only [cf, h1, h2, h3]
/-- a store into one field of one object: the world behind it -/
theorem aWd_fld {E : aE} {M M1 : aM} {i ci j : Nat} {v : Value} (hci : ci < 90) (ht : aTy M (10 + ci) i) (hcl : aCls[ci]? = some (tCn ci, tFT ci, (aFs ci).length)) (h1 : M1.1 = M.1) (hK : ∀ n, rK M1 n = rK M n) (eI : ∀ n, n ≠ i → rI M1 n = rI M n) (eR : ∀ n, n ≠ i → rR M1 n = rR M n) (eJ : ∀ n, n ≠ i → rJ M1 n = rJ M n)
    (hv : cf E M1 i j (aFd ci j) = v) (hn : ∀ n, n ≠ j → cf E M1 i n (aFd ci n) = cf E M i n (aFd ci n)) :
    ∀ H1 : Heap, t_OB (E.1 + i) (E.2.2.2.2.1.1 ci) (aFs ci).length (E.2.2.2.2.1.2 ci) H1 (updV (fun n => cf E M i n (aFd ci n)) j v) → ∀ H : Heap, aWd E M H → H1.size = H.size → (∀ q, q ≠ E.1 + i → H1[q]? = H[q]?) → aWd E M1 H1 := by
  intro H1 hob H hW hz ho
  refine aWd_set hW h1 hK eI eR eJ ht.1 hz ho (aCell_10 hci (by rw [hK]; exact ht.2.2) hcl (t_OB.to hob fun n _ => ?_))
  unfold updV
  by_cases h : n = j
  · subst h; rw [if_pos rfl, hv]
  · rw [if_neg h, hn n h]
theorem aWf_wR {fl : Bool} {M : aM} {i ci j t k : Nat} (hci : ci < 90) (hw : aWf fl M) (hi : aTy M (10 + ci) i) (hk : aTy M t k) (ht : (aFd ci j).2.1 = t) (hf : fl = true → (aFd ci j).1 = 3) : aWf fl (wR M i j k) := by
  have hS := aSame_wR M i j k
  refine ⟨fun k' c' h0 h1 h2 h3 j' hj hs => ?_, fun k' c' h0 h1 h2 => ?_⟩
  · have g1 : k' < aN M := h1
    have g2 : (rK M k').1 = 10 + c' := h2
    obtain ⟨a1, a2⟩ := hw.1 k' c' h0 g1 g2 h3 j' hj hs
    by_cases hk' : k' = i
    · subst hk'
      have hc : c' = ci := by have := hi.2.2; omega
      subst hc
      rw [rR_wR]
      by_cases hj' : j' = j
      · subst hj'
        rw [if_pos rfl]
        refine ⟨Or.inr (by rw [ht]; exact aTy_same hS hk), fun hfl => ⟨by have := hk.1; omega, fun h9 => ?_⟩⟩
        rw [hf hfl] at h9
        omega
      · rw [if_neg hj']
        exact ⟨a1.imp id (aTy_same hS), a2⟩
    · have e : rR (wR M i j k) k' = rR M k' := a2_off _ _ _ hk'
      rw [e]
      exact ⟨a1.imp id (aTy_same hS), a2⟩
  · have g1 : k' < aN M := h1
    have g2 : (rK M k').1 = 100 + c' := h2
    obtain ⟨a0, a9⟩ := hw.2 k' c' h0 g1 g2
    refine ⟨a0, fun j' hj => ?_⟩
    have hne : k' ≠ i := by
      intro h; subst h
      have := hi.2.2; omega
    have e : rR (wR M i j k) k' = rR M k' := a2_off _ _ _ hne
    rw [e]
    obtain ⟨a1, a2⟩ := a9 j' hj
    exact ⟨a1.imp id (aTy_same hS), a2⟩
theorem kQ_ty {ci j : Nat} (h : kQ ci j = true) : ((aFd ci j).1 = 0 → tTy ci j = .int ∧ (tFT ci j).2.2.2 = false) ∧ ((aFd ci j).1 = 1 → tTy ci j = .boolean ∧ (tFT ci j).2.2.2 = false) ∧ ((aFd ci j).1 = 2 → ((∃ C, tTy ci j = .object C) ∨ ∃ t, tTy ci j = .array t) ∧ (tFT ci j).2.2.2 = true) ∧ ((aFd ci j).1 = 3 → ((∃ C, tTy ci j = .object C) ∨ ∃ t, tTy ci j = .array t) ∧ (tFT ci j).2.2.2 = false) ∧ ((aFd ci j).1 = 4 → tTy ci j = .long ∧ (tFT ci j).2.2.2 = false) := by
  unfold kQ at h
  split at h <;> simp_all
section AS3
variable {E : aE} {p : Program} {l : Launch} {e : Env} {R : Room} {s : State} {m : MethodId} {args : Array Value} {below : List Frame} {meth : Method} {c : Code} {Q : State → Prop} {n0 z0 : Nat} {pc q len tg : Nat} {L : List (Option aV)} {st : List aV} {M : aM} {u fl : Bool} {v0 : Int32} {sw : List (Int32 × Nat)} {P : Prop} {σ1 : aS}
theorem as_putfield (X : aCx E p s m args meth c q) {i : Nat} (hini : fl = false → ∀ ci j f, tFld (tOwn q) i = some (ci, j, f) → f.1 = 2 → (tY q).name = "<init>" ∧ ci = tOwn q) (hd : decode (tB q) pc = .ok (.putfield i, len)) (hsd : aSide pc (.putfield i) len v0 tg sw = true) (hs : aStep fl (tOwn q) pc (.putfield i) len v0 tg L st M = some (P, σ1)) (hP : P) (ok : aOk fl M L st) (k : aOk fl σ1.2.2.2 σ1.2.1 σ1.2.2.1 → aG E p l e R s m args below meth c n0 z0 Q (bif aWr (.putfield i) then false else u) σ1) : aG E p l e R s m args below meth c n0 z0 Q u (pc, L, st, M) := by
  have hl9 : len = 3 := by simpa [aSide] using hsd
  subst hl9
  unfold aStep at hs
  dsimp only at hs
  cases hf : tFld (tOwn q) i with
  | none => rw [hf] at hs; cases hs
  | some z =>
    obtain ⟨ci, j, f⟩ := z
    rw [hf] at hs
    dsimp only at hs
    obtain ⟨h1, h2, h3, hfd⟩ := tFld_ok (tOwn_lt q) hf
    obtain ⟨g1, g2, g3, g4, g5, g6, -⟩ := aCf_all h3
    rcases st with _ | ⟨v, st⟩
    · cases hs
    · rcases st with _ | ⟨v2, st⟩
      · cases hs
      · rcases v2 with x | r | x
        · cases hs
        · obtain ⟨t, k9⟩ := r
          dsimp only at hs
          by_cases ht : t = 10 + ci
          · subst ht
            rw [show ((10 + ci == 10 + ci) = true) from beq_self_eq_true _] at hs
            dsimp only [cond] at hs
            cases hp : aPut fl M k9 j f v with
            | none => rw [hp] at hs; cases hs
            | some y =>
              obtain ⟨P1, M1⟩ := y
              rw [hp] at hs
              cases hs
              have o9 := aOkS_cons.mp ok.1
              have o7 := aOkS_cons.mp o9.2
              have o8 : aTy M (10 + ci) k9 := by
                rcases o7.1 with h | h
                · omega
                · exact h
              obtain ⟨t0, t1, t2, t3, t4⟩ := kQ_ty (g6 j h2)
              rw [← hfd] at t0 t1 t2 t3 t4
              have hto := kQ_spec (g6 j h2)
              rw [← hfd] at hto
              have main : ∀ (M1 : aM), (cf E M1 k9 j (aFd ci j) = cv E v) → (∀ n, n ≠ j → cf E M1 k9 n (aFd ci n) = cf E M k9 n (aFd ci n)) → M1.1 = M.1 → (∀ n, rK M1 n = rK M n) → (∀ n, n ≠ k9 → rI M1 n = rI M n) → (∀ n, n ≠ k9 → rR M1 n = rR M n) → (∀ n, n ≠ k9 → rJ M1 n = rJ M n) →
                  narrow (tTy ci j) (cv E v) = cv E v → fits (tTy ci j) (cv E v) = true → ((tFT ci j).2.2.2 = false ∨ ((tFT ci j).2.2.2 = true ∧ meth.name = "<init>" ∧ (tFT ci j).1 = tCn (tOwn q))) →
                  aG E p l e R s m args below meth c n0 z0 Q false (pc + 3, L, st, M1) → aG E p l e R s m args below meth c n0 z0 Q u (pc, L, v :: aR (10 + ci) k9 :: st, M) := by
                intro M1 a1 a2 a3 a4 a5 a6 a7 a8 a9 a10 kk
                exact ag_put X.1 X.2.1 X.2.2.2.2.1 g2 (tTy ci) g3 g4 X.2.2.2.1 g1 (by omega) X.2.2.2.2.2.1.1 o8.1 o8.2.1 o8.2.2 j h2 (X.2.2.2.2.1 _ h1) (fun x h9 => by rw [g5 j h2] at h9; exact h9) a10 a8 a9 hd (aWd_fld (by omega) o8 g1 a3 a4 a5 a6 a7 a1 a2) a3 kk
              obtain ⟨s0, tt, ww⟩ := f
              match s0, hp, t0, t1, t2, t3, t4, hto with
              | 0, hp, t0, _, _, _, _, _ =>
                rcases v with x | x | x
                · cases hp
                  obtain ⟨b1, b2⟩ := t0 rfl
                  refine main (wI M k9 j x) ?_ (fun n hn => cf_ne (by rw [rI_wI, if_neg hn]) rfl rfl) rfl (fun _ => rfl) (fun n hn => a2_off _ _ _ hn) (fun _ _ => rfl) (fun _ _ => rfl) (by rw [b1]; rfl) (by rw [b1]; rfl) (Or.inl b2) (k ⟨aOkS_same (aSame_wI _ _ _ _) o7.2, aOkL_same (aSame_wI _ _ _ _) ok.2.1, aWf_same (aSame_wI _ _ _ _) (fun _ => rfl) ok.2.2⟩)
                  rw [← hfd]
                  show Value.int (rI (wI M k9 j x) k9 j) = _
                  rw [rI_wI, if_pos rfl]
                  rfl
                · cases hp
                · cases hp
              | 1, hp, _, t1, _, _, _, _ =>
                rcases v with x | x | x
                · cases hp
                  obtain ⟨b1, b2⟩ := t1 rfl
                  have hx : x = 0 ∨ x = 1 := hP
                  refine main (wI M k9 j x) ?_ (fun n hn => cf_ne (by rw [rI_wI, if_neg hn]) rfl rfl) rfl (fun _ => rfl) (fun n hn => a2_off _ _ _ hn) (fun _ _ => rfl) (fun _ _ => rfl) (by rw [b1]; rcases hx with rfl | rfl <;> rfl) (by rw [b1]; rcases hx with rfl | rfl <;> rfl) (Or.inl b2) (k ⟨aOkS_same (aSame_wI _ _ _ _) o7.2, aOkL_same (aSame_wI _ _ _ _) ok.2.1, aWf_same (aSame_wI _ _ _ _) (fun _ => rfl) ok.2.2⟩)
                  rw [← hfd]
                  show Value.int (rI (wI M k9 j x) k9 j) = _
                  rw [rI_wI, if_pos rfl]
                  rfl
                · cases hp
                · cases hp
              | 4, hp, _, _, _, _, t4, _ =>
                rcases v with x | x | x
                · cases hp
                · cases hp
                · cases hp
                  obtain ⟨b1, b2⟩ := t4 rfl
                  refine main (wJ M k9 j x) ?_ (fun n hn => cf_ne rfl rfl (by rw [rJ_wJ, if_neg hn])) rfl (fun _ => rfl) (fun _ _ => rfl) (fun _ _ => rfl) (fun n hn => a2_off _ _ _ hn) (by rw [b1]; rfl) (by rw [b1]; rfl) (Or.inl b2) (k ⟨aOkS_same (aSame_wJ _ _ _ _) o7.2, aOkL_same (aSame_wJ _ _ _ _) ok.2.1, aWf_same (aSame_wJ _ _ _ _) (fun _ => rfl) ok.2.2⟩)
                  rw [← hfd]
                  show Value.long (rJ (wJ M k9 j x) k9 j) = _
                  rw [rJ_wJ, if_pos rfl]
                  rfl
              | 2, hp, _, _, t2, _, _, hto =>
                rcases v with x | r | x
                · cases hp
                · obtain ⟨b1, b2⟩ := t2 rfl
                  have h4 := hto.2 (Or.inl rfl)
                  cases fl with
                  | true => cases hp
                  | false =>
                    obtain ⟨rt, rk⟩ := r
                    dsimp only [aPut, cond] at hp
                    by_cases hr : rt = tt
                    · subst hr
                      rw [show ((rt == rt) = true) from beq_self_eq_true _] at hp
                      cases hp
                      have hty : aTy M rt rk := by
                        rcases o9.1 with h | h
                        · have : 4 ≤ rt := h4
                          omega
                        · exact h
                      have hcv : cv E (aR rt rk) = .ref (aAd E rt rk) := by
                        show (if rt = 0 then Value.null else .ref (aAd E rt rk)) = _
                        rw [if_neg (by have : 4 ≤ rt := h4; omega)]
                      obtain ⟨c1, c2⟩ := hini rfl ci j _ hf rfl
                      refine main (wR M k9 j rk) ?_ (fun n hn => cf_ne rfl (by rw [rR_wR, if_neg hn]) rfl) rfl (fun _ => rfl) (fun _ _ => rfl) (fun n hn => a2_off _ _ _ hn) (fun _ _ => rfl) (by rw [show cv E (Sum.inr (Sum.inl (rt, rk))) = _ from hcv]; rcases b1 with ⟨C, b1⟩ | ⟨C, b1⟩ <;> rw [b1] <;> rfl) (by rw [show cv E (Sum.inr (Sum.inl (rt, rk))) = _ from hcv]; rcases b1 with ⟨C, b1⟩ | ⟨C, b1⟩ <;> rw [b1] <;> rfl) (Or.inr ⟨b2, by rw [X.2.2.2.2.2.2.1]; exact c1, by rw [g5 j h2, c2]⟩) (k ⟨aOkS_same (aSame_wR _ _ _ _) o7.2, aOkL_same (aSame_wR _ _ _ _) ok.2.1, aWf_wR (by omega) ok.2.2 o8 hty (by rw [← hfd]) (fun h => by cases h)⟩)
                      rw [← hfd]
                      show cr E rt (rR (wR M k9 j rk) k9 j) = _
                      rw [rR_wR, if_pos rfl]
                      rw [show cv E (Sum.inr (Sum.inl (rt, rk))) = _ from hcv]
                      show (if rk = 0 then Value.null else .ref (aAd E rt rk)) = _
                      rw [if_neg (by have := hty.1; omega)]
                    · rw [show (rt == tt) = false by simp [hr]] at hp
                      cases hp
                · cases hp
              | 3, hp, _, _, _, t3, _, hto =>
                rcases v with x | r | x
                · cases hp
                · obtain ⟨b1, b2⟩ := t3 rfl
                  have h4 := hto.2 (Or.inr rfl)
                  obtain ⟨rt, rk⟩ := r
                  dsimp only [aPut, cond] at hp
                  by_cases hr : rt = tt
                  · subst hr
                    rw [show ((rt == rt) = true) from beq_self_eq_true _] at hp
                    cases hp
                    have hty : aTy M rt rk := by
                      rcases o9.1 with h | h
                      · have : 4 ≤ rt := h4
                        omega
                      · exact h
                    have hcv : cv E (aR rt rk) = .ref (aAd E rt rk) := by
                      show (if rt = 0 then Value.null else .ref (aAd E rt rk)) = _
                      rw [if_neg (by have : 4 ≤ rt := h4; omega)]
                    refine main (wR M k9 j rk) ?_ (fun n hn => cf_ne rfl (by rw [rR_wR, if_neg hn]) rfl) rfl (fun _ => rfl) (fun _ _ => rfl) (fun n hn => a2_off _ _ _ hn) (fun _ _ => rfl) (by rw [show cv E (Sum.inr (Sum.inl (rt, rk))) = _ from hcv]; rcases b1 with ⟨C, b1⟩ | ⟨C, b1⟩ <;> rw [b1] <;> rfl) (by rw [show cv E (Sum.inr (Sum.inl (rt, rk))) = _ from hcv]; rcases b1 with ⟨C, b1⟩ | ⟨C, b1⟩ <;> rw [b1] <;> rfl) (Or.inl b2) (k ⟨aOkS_same (aSame_wR _ _ _ _) o7.2, aOkL_same (aSame_wR _ _ _ _) ok.2.1, aWf_wR (by omega) ok.2.2 o8 hty (by rw [← hfd]) (fun _ => by rw [← hfd])⟩)
                    rw [← hfd]
                    show cr E rt (rR (wR M k9 j rk) k9 j) = _
                    rw [rR_wR, if_pos rfl]
                    rw [show cv E (Sum.inr (Sum.inl (rt, rk))) = _ from hcv]
                    show (if rk = 0 then Value.null else .ref (aAd E rt rk)) = _
                    rw [if_neg (by have := hty.1; omega)]
                  · rw [show (rt == tt) = false by simp [hr]] at hp
                    cases hp
                · cases hp
              | n + 5, _, _, _, _, _, _, hto => exact absurd hto.1 (by omega)
          · rw [show (t == 10 + ci) = false by simp [ht]] at hs
            cases hs
        · cases hs
end AS3
