/-! FELLOWS, in the model. -/
section MF
variable {T0 T1 : Txt} {M : aM} {g0 g1 : Nat → Nat}
theorem rd1 {x c j : Nat} (hc : 1 ≤ c ∧ c < 31) (hs : szM c = 1) (hj : j = 0) : mR M x c j = rI M (136 + c) x := by rw [mRr hc, hs, hj]; congr 1; omega
theorem m_let {post : Int32 → aM → Prop} {K23 K46 : Nat → Int32 → Int32 → aM → Prop} {i j : Nat} (R0 : RepM (mR M 0) T0 g0) (R1 : RepM (mR M 1) T1 g1) (A0 : AI T0) (A1 : AI T1) (K : KOk (rK M)) (hi : i < T0.na) (hj : j < T1.na) (P : w_Mo_findFellows_J158 post K23 K46 136 (nI i) (nI j) (bI (smBl T0 T1 i j)) M) : ((¬ rI M (136 + 8) i = rI M (136 + 8) (108 + j)) → ∃ n9, w_Mo_findFellows_L99 post K23 K46 n9 136 (nI i) (nI j) (nI i) (nI (108 + j)) 0 0 M) ∧ (¬ (¬ rI M (136 + 8) i = rI M (136 + 8) (108 + j)) → ∃ n9, w_Mo_findFellows_L99 post K23 K46 n9 136 (nI i) (nI j) (nI i) (nI (108 + j)) 1 0 M) := by
  have l0 := R0.lna
  have l1 := R1.lna
  have n0 := R0.lanl i hi
  have n1 := R1.lanl j hj
  have k8 : (rK M (136 + 8)).2 = 324 := mK K 143 324
  have k9 : (rK M (136 + 9)).2 = 3888 := mK K 144 3888
  have e0 : rI M (136 + 8) i = nI (T0.anl i) := by have := R0.anl i hi; rw [mRr (by omega), show 0 * szM 8 + i = i by omega] at this; exact this
  have e1 : rI M (136 + 8) (108 + j) = nI (T1.anl j) := by have := R1.anl j hj; rw [mRr (by omega), show 1 * szM 8 + j = 108 + j from by rw [show szM 8 = 108 from rfl, Nat.one_mul]] at this; exact this
  have b0 : ∀ x, x < T0.anl i → rI M (136 + 9) (12 * i + x) = sx (T0.anm i x) := fun x hx => by have := R0.anm i hi x hx; rw [mRr (by omega), show 0 * szM 9 + (12 * i + x) = 12 * i + x by omega] at this; exact this
  have b1 : ∀ x, x < T1.anl j → rI M (136 + 9) (12 * (108 + j) + x) = sx (T1.anm j x) := fun x hx => by have := R1.anm j hj x hx; rw [mRr (by omega), show 1 * szM 9 + (12 * j + x) = 12 * (108 + j) + x from by rw [show szM 9 = 1296 from rfl]; omega] at this; exact this
  have m12 : ∀ a b, (12 : Int32) * nI a + nI b = nI (12 * a + b) := fun a b => by rw [show (12 : Int32) = nI 12 from rfl, pk_mul, nI_add]
  have key0 : ∀ d k, smBl T0 T1 i j = false → w_Mo_findFellows_L99 post K23 K46 (d + 1) 136 (nI i) (nI j) (nI i) (nI (108 + j)) 0 (nI k) M := by
    intro d k hs
    rw [hs] at P
    unfold w_Mo_findFellows_L99
    rw [nI_clamp (n := i) (by omega), k8]
    exact ⟨vin (by omega), fun _ => P, fun _ => ⟨fun _ => P, fun c => absurd rfl c⟩⟩
  have key1 : ∀ d k, k + d = T0.anl i → T0.anl i = T1.anl j → (∀ x, x < k → T0.anm i x = T1.anm j x) → w_Mo_findFellows_L99 post K23 K46 (d + 1) 136 (nI i) (nI j) (nI i) (nI (108 + j)) 1 (nI k) M := by
    intro d
    induction d with
    | zero =>
      intro k hk e h
      have hk2 : k = T0.anl i := by omega
      have hs : smBl T0 T1 i j = true := smBl_iff.mpr ⟨e, fun x hx => h x (by omega)⟩
      rw [hs] at P
      unfold w_Mo_findFellows_L99
      rw [nI_clamp (n := i) (by omega), k8, e0, hk2]
      exact ⟨vin (by omega), br_t (Int32.le_refl _) P⟩
    | succ d ih =>
      intro k hk e h
      unfold w_Mo_findFellows_L99
      rw [nI_clamp (n := i) (by omega), k8, e0, m12, m12, nI_clamp (n := 12 * i + k) (by omega), nI_clamp (n := 12 * (108 + j) + k) (by omega), b0 k (by omega), b1 k (by omega), k9, nI_1]
      refine ⟨vin (by omega), pk_le (T0.anl i) k (fun z => by omega) (fun _ => br_f (by decide) ⟨vin (by omega), vin (by omega), fun c => key0 _ _ ?_, fun c => ih (k + 1) (by omega) e (fun x hx => ?_)⟩)⟩
      · rw [sx_eq (A0.b i k) (A1.b j k)] at c
        cases hs : smBl T0 T1 i j with
        | false => rfl
        | true => exact absurd ((smBl_iff.mp hs).2 k (by omega)) c
      · by_cases z : x = k
        · subst z
          rw [sx_eq (A0.b i x) (A1.b j x)] at c
          exact Classical.not_not.mp c
        · exact h x (by omega)
  rw [e0, e1]
  refine pk_ne (T0.anl i) (T1.anl j) (fun c => ⟨1, key0 0 0 ?_⟩) (fun c => ⟨T0.anl i + 1, key1 (T0.anl i) 0 (by omega) c (fun x hx => absurd hx (Nat.not_lt_zero _))⟩)
  cases hs : smBl T0 T1 i j with
  | false => rfl
  | true => exact absurd (smBl_iff.mp hs).1 c
theorem FQ.mR {w x : Nat} {T : Txt} {g : Nat → Nat} {M' : aM} (h : FQ w M M') (R : RepM (mR M x) T g) (hw : w < 139 ∨ 164 ≤ w) : RepM (mR M' x) T g := RepM_congr R (fun c h1 h2 => by
  funext j
  rw [mRr (by omega), mRr (by omega), h.i _ (by omega)])
theorem m_fel46 {post : Int32 → aM → Prop} {K23 : Nat → Int32 → Int32 → aM → Prop} {i : Nat} (R0 : RepM (mR M 0) T0 g0) (R1 : RepM (mR M 1) T1 g1) (A0 : AI T0) (A1 : AI T1) (K : KOk (rK M)) (hi : i < T0.na) (q : ∀ M', FQ 182 M M' → (∀ a, a < i → rI M' 182 a = nI ((fel T0 T1 a).getD 0)) → rI M' 182 i = oI (fel T0 T1 i) → K23 136 (bI (okI T0 T1 i)) (nI i + 1) M') : ∀ d j M', j + d = T1.na → FQ 182 M M' → (∀ a, a < i → rI M' 182 a = nI ((fel T0 T1 a).getD 0)) → rI M' 182 i = oI (lasU (fun j => smBl T0 T1 i j) j) → w_Mo_findFellows_L46 post K23 (d + 1) 136 (nI i) (nI j) M' := by
  have l0 := R0.lna
  have l1 := R1.lna
  have bb : ∀ x y : Bool, bI x = bI y ↔ x = y := by decide
  intro d
  induction d with
  | zero =>
    intro j M' hj f h hl
    have hj2 : j = T1.na := by omega
    subst hj2
    have K' := f.K K
    have R0' := f.mR R0 (by omega)
    have R1' := f.mR R1 (by omega)
    have q1 := q M' f h hl
    have hl : rI M' (136 + 46) i = oI (fel T0 T1 i) := hl
    unfold w_Mo_findFellows_L46
    rw [show ((1 : Int32)).toNatClampNeg = 1 from by decide, nI_clamp (n := i) (by omega), show rI M' (136 + 3) 1 = nI T1.na from (rd1 (c := 3) (j := 0) (by omega) rfl rfl).symm.trans R1'.na, hl, show (rK M' (136 + 3)).2 = 3 from mK K' 138 3, show (rK M' (136 + 46)).2 = 8 from mK K' 181 8, show (rK M' (136 + 4)).2 = 24 from mK K' 139 24, show (rK M' (136 + 5)).2 = 24 from mK K' 140 24, show (rK M' (136 + 6)).2 = 24 from mK K' 141 24]
    have hfel : ∀ b, fel T0 T1 i = some b → b < T1.na := fun b hb => (lasU_s _ _ hb).1
    refine ⟨vin (n := 1) (by omega), br_t (Int32.le_refl _) ⟨vin (by omega), vin (by omega), pk_eqm (fel T0 T1 i) (fun z => ?_) (fun b z => ?_) rfl rfl (fun b hb => by have := hfel b hb; omega)⟩⟩
    · have eo : okI T0 T1 i = false := by unfold okI; rw [z]
      rw [eo] at q1; exact q1
    · have lb := hfel b z
      have eo : okI T0 T1 i = fitB T0 T1 i b := by unfold okI; rw [z]
      rw [eo] at q1
      have rd : ∀ c, 1 ≤ c ∧ c < 31 → szM c = 8 → rI M' (136 + c) i = mR M' 0 c i ∧ rI M' (136 + c) (8 + b) = mR M' 1 c b := fun c hc hs => by rw [mRr hc, mRr hc, hs, show 0 * 8 + i = i by omega, show 1 * 8 + b = 8 + b by omega]; exact ⟨rfl, rfl⟩
      rw [z, show (8 : Int32) + oI (some b) = nI (8 + b) from nI_add 8 b, nI_clamp (n := 8 + b) (by omega)]
      rw [(rd 4 (by omega) rfl).1, (rd 4 (by omega) rfl).2, (rd 5 (by omega) rfl).1, (rd 5 (by omega) rfl).2, (rd 6 (by omega) rfl).1, (rd 6 (by omega) rfl).2, R0'.asz i hi, R1'.asz b lb, R0'.amany i hi, R1'.amany b lb, R0'.amust i hi, R1'.amust b lb]
      have z0 := R0.lasz i hi
      have z1 := R1.lasz b lb
      refine ⟨vin (by omega), vin (by omega), pk_ne (T0.asz i) (T1.asz b) (fun c => ?_) (fun c => ⟨vin (by omega), vin (by omega), fun c2 => ?_, fun c2 => ⟨vin (by omega), vin (by omega), fun c3 => ?_, fun c3 => ?_⟩⟩)⟩
      · unfold fitB at q1; rw [beq_false_of_ne c, Bool.false_and] at q1; exact q1
      · rw [bb] at c2
        unfold fitB at q1; rw [beq_false_of_ne c2, Bool.false_and, Bool.and_false] at q1; exact q1
      · rw [bb] at c3
        unfold fitB at q1; rw [beq_false_of_ne c3, Bool.and_false, Bool.and_false] at q1; exact q1
      · rw [bb] at c2 c3
        have ef : fitB T0 T1 i b = true := by
          unfold fitB
          rw [c, Classical.not_not.mp c2, Classical.not_not.mp c3]; simp
        rw [ef] at q1; exact q1
  | succ d ih =>
    intro j M' hj f h hl
    have K' := f.K K
    have R0' := f.mR R0 (by omega)
    have R1' := f.mR R1 (by omega)
    unfold w_Mo_findFellows_L46
    rw [show ((1 : Int32)).toNatClampNeg = 1 from by decide, show rI M' (136 + 3) 1 = nI T1.na from (rd1 (c := 3) (j := 0) (by omega) rfl rfl).symm.trans R1'.na, show (rK M' (136 + 3)).2 = 3 from mK K' 138 3]
    refine ⟨vin (n := 1) (by omega), pk_le T1.na j (fun z => by omega) (fun _ => ?_)⟩
    unfold w_Mo_nameOf
    refine nb_t rfl (nb_t rfl ?_)
    rw [show (108 : Int32) * 0 + nI i = nI i from (m108 0 i).trans (by rw [show 108 * 0 + i = i by omega]), show (108 : Int32) * 1 + nI j = nI (108 + j) from m108 1 j]
    dsimp only
    rw [nI_clamp (n := i) (by omega), nI_clamp (n := 108 + j) (by omega), show (rK M' (136 + 8)).2 = 324 from mK K' 143 324]
    refine ⟨vin (by omega), vin (by omega), m_let R0' R1' A0 A1 K' hi (by omega) ?_⟩
    unfold w_Mo_findFellows_J158
    rw [nI_clamp (n := i) (by omega), show (rK M' (136 + 46)).2 = 8 from mK K' 181 8, nI_1]
    have upd : ∀ y, (∀ a, a < i → rI (wI M' (136 + 46) i y) 182 a = nI ((fel T0 T1 a).getD 0)) := fun y a ha => by
      show rI (wI M' 182 i y) 182 a = _
      rw [rw_sn (by omega)]; exact h a ha
    refine pk_b0 (smBl T0 T1 i j) (fun z => ⟨vin (by omega), vin (by omega), ih (j + 1) _ (by omega) f.w (upd _) ?_⟩) (fun z => ⟨vin (by omega), ih (j + 1) _ (by omega) f.w (upd _) ?_⟩)
    · show rI (wI M' 182 i (rI M' 182 i)) 182 i = _
      rw [rw_ss, hl, lasU, if_neg (by rw [z]; decide)]
    · show rI (wI M' 182 i (nI j)) 182 i = _
      rw [rw_ss, lasU, if_pos z]; rfl
theorem m_fellows {post : Int32 → aM → Prop} (R0 : RepM (mR M 0) T0 g0) (R1 : RepM (mR M 1) T1 g1) (A0 : AI T0) (A1 : AI T1) (K : KOk (rK M)) (q : ∀ M', FQ 182 M M' → (pairM T0 T1 = true → ∀ i, i < T0.na → rI M' 182 i = nI ((fel T0 T1 i).getD 0)) → post (bI (pairM T0 T1)) M') : w_Mo_findFellows post 136 M := by
  have l0 := R0.lna
  have l1 := R1.lna
  have key : ∀ d i M' b, i + d = T0.na → b = (T0.na == T1.na && allB (okI T0 T1) i) → FQ 182 M M' → (b = true → ∀ a, a < i → rI M' 182 a = nI ((fel T0 T1 a).getD 0)) → w_Mo_findFellows_L23 post (d + 1) 136 (bI b) (nI i) M' := by
    intro d
    induction d with
    | zero =>
      intro i M' b hi hb f h
      have hi2 : i = T0.na := by omega
      subst hi2
      have K' := f.K K
      have R0' := f.mR R0 (by omega)
      have ep : pairM T0 T1 = b := by rw [hb]; rfl
      have q1 := q M' f (by rw [ep]; exact h)
      rw [ep] at q1
      unfold w_Mo_findFellows_L23
      rw [show ((0 : Int32)).toNatClampNeg = 0 from by decide, show rI M' (136 + 3) 0 = nI T0.na from (rd1 (c := 3) (j := 0) (by omega) rfl rfl).symm.trans R0'.na, show (rK M' (136 + 3)).2 = 3 from mK K' 138 3]
      exact ⟨vin (n := 0) (by omega), br_t (Int32.le_refl _) ⟨bI_01 _, q1⟩⟩
    | succ d ih =>
      intro i M' b hi hb f h
      have K' := f.K K
      have R0' := f.mR R0 (by omega)
      have R1' := f.mR R1 (by omega)
      unfold w_Mo_findFellows_L23
      rw [show ((0 : Int32)).toNatClampNeg = 0 from by decide, show rI M' (136 + 3) 0 = nI T0.na from (rd1 (c := 3) (j := 0) (by omega) rfl rfl).symm.trans R0'.na, show (rK M' (136 + 3)).2 = 3 from mK K' 138 3]
      refine ⟨vin (n := 0) (by omega), pk_le T0.na i (fun z => by omega) (fun _ => pk_b0 b (fun z => ⟨bI_01 _, ?_⟩) (fun z => ?_))⟩
      · have ep : pairM T0 T1 = b := by
          rw [z]
          cases y : pairM T0 T1 with
          | false => rfl
          | true =>
            unfold pairM at y
            rw [Bool.and_eq_true, allB_iff] at y
            have : b = true := by
              rw [hb, Bool.and_eq_true, allB_iff]; exact ⟨y.1, fun a ha => y.2 a (by omega)⟩
            rw [z] at this; cases this
        have q1 := q M' f (fun c => by rw [ep, z] at c; cases c)
        rw [ep] at q1; exact q1
      · rw [nI_clamp (n := i) (by omega), show (rK M' (136 + 46)).2 = 8 from mK K' 181 8]
        have hb2 := hb.symm.trans z
        rw [Bool.and_eq_true] at hb2
        refine ⟨vin (by omega), T1.na + 1, m_fel46 R0' R1' A0 A1 K' (by omega) (fun M2 f2 h2 e2 => ?_) T1.na 0 _ (by omega) FQ.refl.w (fun a ha => ?_) ?_⟩
        · rw [nI_1]
          refine ih (i + 1) M2 _ (by omega) ?_ (f.tr f2) (fun c a ha => ?_)
          · rw [allB, hb2.1, hb2.2, Bool.true_and, Bool.true_and]
          · by_cases y : a = i
            · subst y
              rw [e2]
              unfold okI at c
              cases y2 : fel T0 T1 a with
              | none => rw [y2] at c; cases c
              | some b2 => rfl
            · exact h2 a (by omega)
        · show rI (wI M' 182 i (-1)) 182 a = _
          rw [rw_sn (by omega)]; exact h z a ha
        · show rI (wI M' 182 i (-1)) 182 i = _
          rw [rw_ss]; rfl
  unfold w_Mo_findFellows
  rw [show ((0 : Int32)).toNatClampNeg = 0 from by decide, show ((1 : Int32)).toNatClampNeg = 1 from by decide, show rI M (136 + 3) 0 = nI T0.na from (rd1 (c := 3) (j := 0) (by omega) rfl rfl).symm.trans R0.na, show rI M (136 + 3) 1 = nI T1.na from (rd1 (c := 3) (j := 0) (by omega) rfl rfl).symm.trans R1.na, show (rK M (136 + 3)).2 = 3 from mK K 138 3]
  refine ⟨vin (n := 0) (by omega), vin (n := 1) (by omega), pk_ne T0.na T1.na (fun c => ⟨T0.na + 1, ?_⟩) (fun c => ⟨T0.na + 1, ?_⟩)⟩
  · exact key T0.na 0 M false (by omega) (by rw [beq_false_of_ne c]; rfl) FQ.refl (fun c => by cases c)
  · exact key T0.na 0 M true (by omega) (by rw [c]; simp [allB]) FQ.refl (fun _ a ha => absurd ha (Nat.not_lt_zero _))
end MF
