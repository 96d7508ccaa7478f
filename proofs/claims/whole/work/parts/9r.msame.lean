/-! SAME AND REACH, in the model. -/
section MS
variable {T T0 T1 : Txt} {M : aM} {x : Nat} {g g0 g1 : Nat → Nat}
theorem m_emptyBags {post : aM → Prop} (K : KOk (rK M)) (hx : x ≤ 1) (q : ∀ M', FQ 143 M M' → OB x M M' → (∀ j, j < 8 → rI M' 143 (8 * x + j) = 0) → post M') : w_Mo_emptyBags post 136 (nI x) M := by
  have key : ∀ d k M', k + d = 8 → FQ 143 M M' → OB x M M' → (∀ j, j < k → rI M' 143 (8 * x + j) = 0) → w_Mo_emptyBags_L2 post (d + 1) 136 (nI x) (nI k) M' := by
    intro d
    induction d with
    | zero =>
      intro k M' hk f o h
      have : k = 8 := by omega
      subst this
      unfold w_Mo_emptyBags_L2
      exact br_t (Int32.le_refl _) (q M' f o h)
    | succ d ih =>
      intro k M' hk f o h
      have K' := f.K K
      unfold w_Mo_emptyBags_L2
      rw [m8, nI_clamp (by omega), show (rK M' (136 + 7)).2 = 24 from mK K' 142 24, nI_1]
      refine pk_le 8 k (fun z => by omega) (fun _ => ⟨vin (by omega), ih (k + 1) _ (by omega) f.w (fun j hj => ?_) (fun j hj => ?_)⟩)
      · show rI (wI M' 143 (8 * x + k) 0) 143 j = _
        rw [rw_sn (by omega)]; exact o j hj
      · show rI (wI M' 143 (8 * x + k) 0) 143 (8 * x + j) = _
        by_cases z : j = k
        · rw [z, rw_ss]
        · rw [rw_sn (by omega)]; exact h j (by omega)
  unfold w_Mo_emptyBags
  exact ⟨9, key 8 0 M (by omega) FQ.refl (fun _ _ => rfl) (fun j hj => absurd hj (Nat.not_lt_zero _))⟩
theorem m_isWitness {post : aM → Prop} (K : KOk (rK M)) (hx : x ≤ 1) {n : Nat} (e3 : rI M 139 x = nI n) (q : ∀ M', FP (fun k => k ≠ 136 ∧ k ≠ 178) M M' → (∀ j, j ≠ 53 → j ≠ 54 → rI M' 136 j = rI M 136 j) → rI M' 136 54 = 1 → rI M' 136 53 = nI n → (∀ j, j < 8 → rI M' 178 j = rI M 143 (8 * x + j)) → post M') : w_Mo_isWitness post 136 (nI x) M := by
  unfold w_Mo_isWitness
  rw [nI_clamp (by omega), show (rK M (136 + 3)).2 = 3 from mK K 138 3, show rI (wI M 136 54 1) (136 + 3) x = nI n by rw [rw_n (by omega)]; exact e3]
  have F0 : FP (fun k => k ≠ 136 ∧ k ≠ 178) M (wI (wI M 136 54 1) 136 53 (nI n)) := (FP.refl.w (by omega)).w (by omega)
  have e1 : ∀ j, j ≠ 53 → j ≠ 54 → rI (wI (wI M 136 54 1) 136 53 (nI n)) 136 j = rI M 136 j := fun j h1 h2 => by rw [rw_sn h1, rw_sn h2]
  have e2 : rI (wI (wI M 136 54 1) 136 53 (nI n)) 136 54 = 1 := by rw [rw_sn (by omega)]; exact rw_ss
  have e4 : rI (wI (wI M 136 54 1) 136 53 (nI n)) 136 53 = nI n := rw_ss
  generalize wI (wI M 136 54 1) 136 53 (nI n) = M1 at F0 e1 e2 e4 ⊢
  have key : ∀ d k M', k + d = 8 → FP (fun k => k ≠ 136 ∧ k ≠ 178) M M' → rI M' 136 = rI M1 136 → (∀ j, j < k → rI M' 178 j = rI M 143 (8 * x + j)) → w_Mo_isWitness_L17 post (d + 1) 136 (nI x) (nI k) M' := by
    intro d
    induction d with
    | zero =>
      intro k M' hk f o h
      have : k = 8 := by omega
      subst this
      unfold w_Mo_isWitness_L17
      exact br_t (Int32.le_refl _) (q M' f (fun j h1 h2 => by rw [o]; exact e1 j h1 h2) (by rw [o]; exact e2) (by rw [o]; exact e4) h)
    | succ d ih =>
      intro k M' hk f o h
      have K' := f.K K
      unfold w_Mo_isWitness_L17
      rw [m8, nI_clamp (n := 8 * x + k) (by omega), nI_clamp (n := k) (by omega), show (rK M' (136 + 7)).2 = 24 from mK K' 142 24, show (rK M' (136 + 42)).2 = 8 from mK K' 177 8, nI_1]
      refine pk_le 8 k (fun z => by omega) (fun _ => ⟨vin (by omega), vin (by omega), ih (k + 1) _ (by omega) (f.w (by omega)) ?_ (fun j hj => ?_)⟩)
      · rw [rw_n (by omega)]; exact o
      · show rI (wI M' 178 k _) 178 j = _
        by_cases z : j = k
        · rw [z, rw_ss, f.i _ (by omega)]
        · rw [rw_sn z]; exact h j (by omega)
  exact ⟨Or.inr rfl, vin (by omega), 9, key 8 0 M1 (by omega) F0 rfl (fun j hj => absurd hj (Nat.not_lt_zero _))⟩
theorem m_keepB {post : aM → Prop} (K : KOk (rK M)) (q : ∀ M', FP (fun k => k ≠ 179 ∧ k ≠ 180 ∧ k ≠ 181) M M' → (∀ j, j < 16 → rI M' 179 j = rI M 143 j) → (∀ j, j < 200 → rI M' 180 j = rI M 165 j ∧ rI M' 181 j = rI M 166 j) → post M') : w_Mo_keep post 136 M := by
  have key2 : ∀ d k M', k + d = 200 → FP (fun k => k ≠ 179 ∧ k ≠ 180 ∧ k ≠ 181) M M' → (∀ j, j < 16 → rI M' 179 j = rI M 143 j) → (∀ j, j < k → rI M' 180 j = rI M 165 j ∧ rI M' 181 j = rI M 166 j) → w_Mo_keep_L28 post (d + 1) 136 (nI k) M' := by
    intro d
    induction d with
    | zero =>
      intro k M' hk f o h
      have : k = 200 := by omega
      subst this
      unfold w_Mo_keep_L28
      exact br_t (Int32.le_refl _) (q M' f o h)
    | succ d ih =>
      intro k M' hk f o h
      have K' := f.K K
      unfold w_Mo_keep_L28
      rw [nI_clamp (n := k) (by omega), show (rK M' (136 + 29)).2 = 300 from mK K' 164 300, show (rK M' (136 + 30)).2 = 300 from mK K' 165 300, show (rK M' (136 + 44)).2 = 200 from mK K' 179 200, show (rK M' (136 + 45)).2 = 200 from mK K' 180 200, nI_1]
      refine pk_le 200 k (fun z => by omega) (fun _ => ⟨vin (by omega), vin (by omega), vin (by omega), vin (by omega), ih (k + 1) _ (by omega) ((f.w (by omega)).w (by omega)) (fun j hj => ?_) (fun j hj => ?_)⟩)
      · rw [rw_n (by omega), rw_n (by omega)]; exact o j hj
      · have e1 : rI (wI M' (136 + 44) k (rI M' (136 + 29) k)) (136 + 30) k = rI M 166 k := by rw [rw_n (by omega), f.i _ (by omega)]
        rw [e1, show rI M' (136 + 29) k = rI M 165 k by rw [f.i _ (by omega)]]
        show rI (wI (wI M' 180 k _) 181 k _) 180 j = _ ∧ rI (wI (wI M' 180 k _) 181 k _) 181 j = _
        by_cases z : j = k
        · rw [z, rw_n (by omega), rw_ss, rw_ss]; exact ⟨rfl, rfl⟩
        · rw [rw_n (by omega), rw_sn z, rw_sn z, rw_n (by omega)]; exact h j (by omega)
  have key : ∀ d k M', k + d = 16 → FP (fun k => k ≠ 179 ∧ k ≠ 180 ∧ k ≠ 181) M M' → (∀ j, j < k → rI M' 179 j = rI M 143 j) → w_Mo_keep_L2 post (d + 1) 136 (nI k) M' := by
    intro d
    induction d with
    | zero =>
      intro k M' hk f h
      have : k = 16 := by omega
      subst this
      unfold w_Mo_keep_L2
      exact br_t (Int32.le_refl _) ⟨201, key2 200 0 M' (by omega) f h (fun j hj => absurd hj (Nat.not_lt_zero _))⟩
    | succ d ih =>
      intro k M' hk f h
      have K' := f.K K
      unfold w_Mo_keep_L2
      rw [nI_clamp (n := k) (by omega), show (rK M' (136 + 7)).2 = 24 from mK K' 142 24, show (rK M' (136 + 43)).2 = 16 from mK K' 178 16, nI_1]
      refine pk_le 16 k (fun z => by omega) (fun _ => ⟨vin (by omega), vin (by omega), ih (k + 1) _ (by omega) (f.w (by omega)) (fun j hj => ?_)⟩)
      rw [show rI M' (136 + 7) k = rI M 143 k by rw [f.i _ (by omega)]]
      show rI (wI M' 179 k _) 179 j = _
      by_cases z : j = k
      · rw [z, rw_ss]
      · rw [rw_sn z]; exact h j (by omega)
  unfold w_Mo_keep
  exact ⟨17, key 16 0 M (by omega) FP.refl (fun j hj => absurd hj (Nat.not_lt_zero _))⟩
theorem m_restore {post : aM → Prop} (K : KOk (rK M)) (q : ∀ M', FP (fun k => k ≠ 143 ∧ k ≠ 165 ∧ k ≠ 166) M M' → (∀ j, j < 16 → rI M' 143 j = rI M 179 j) → (∀ j, j < 200 → rI M' 165 j = rI M 180 j ∧ rI M' 166 j = rI M 181 j) → post M') : w_Mo_restore post 136 M := by
  have key2 : ∀ d k M', k + d = 200 → FP (fun k => k ≠ 143 ∧ k ≠ 165 ∧ k ≠ 166) M M' → (∀ j, j < 16 → rI M' 143 j = rI M 179 j) → (∀ j, j < k → rI M' 165 j = rI M 180 j ∧ rI M' 166 j = rI M 181 j) → w_Mo_restore_L28 post (d + 1) 136 (nI k) M' := by
    intro d
    induction d with
    | zero =>
      intro k M' hk f o h
      have : k = 200 := by omega
      subst this
      unfold w_Mo_restore_L28
      exact br_t (Int32.le_refl _) (q M' f o h)
    | succ d ih =>
      intro k M' hk f o h
      have K' := f.K K
      unfold w_Mo_restore_L28
      rw [nI_clamp (n := k) (by omega), show (rK M' (136 + 29)).2 = 300 from mK K' 164 300, show (rK M' (136 + 30)).2 = 300 from mK K' 165 300, show (rK M' (136 + 44)).2 = 200 from mK K' 179 200, show (rK M' (136 + 45)).2 = 200 from mK K' 180 200, nI_1]
      refine pk_le 200 k (fun z => by omega) (fun _ => ⟨vin (by omega), vin (by omega), vin (by omega), vin (by omega), ih (k + 1) _ (by omega) ((f.w (by omega)).w (by omega)) (fun j hj => ?_) (fun j hj => ?_)⟩)
      · rw [rw_n (by omega), rw_n (by omega)]; exact o j hj
      · have e1 : rI (wI M' (136 + 29) k (rI M' (136 + 44) k)) (136 + 45) k = rI M 181 k := by rw [rw_n (by omega), f.i _ (by omega)]
        rw [e1, show rI M' (136 + 44) k = rI M 180 k by rw [f.i _ (by omega)]]
        show rI (wI (wI M' 165 k _) 166 k _) 165 j = _ ∧ rI (wI (wI M' 165 k _) 166 k _) 166 j = _
        by_cases z : j = k
        · rw [z, rw_n (by omega), rw_ss, rw_ss]; exact ⟨rfl, rfl⟩
        · rw [rw_n (by omega), rw_sn z, rw_sn z, rw_n (by omega)]; exact h j (by omega)
  have key : ∀ d k M', k + d = 16 → FP (fun k => k ≠ 143 ∧ k ≠ 165 ∧ k ≠ 166) M M' → (∀ j, j < k → rI M' 143 j = rI M 179 j) → w_Mo_restore_L2 post (d + 1) 136 (nI k) M' := by
    intro d
    induction d with
    | zero =>
      intro k M' hk f h
      have : k = 16 := by omega
      subst this
      unfold w_Mo_restore_L2
      exact br_t (Int32.le_refl _) ⟨201, key2 200 0 M' (by omega) f h (fun j hj => absurd hj (Nat.not_lt_zero _))⟩
    | succ d ih =>
      intro k M' hk f h
      have K' := f.K K
      unfold w_Mo_restore_L2
      rw [nI_clamp (n := k) (by omega), show (rK M' (136 + 7)).2 = 24 from mK K' 142 24, show (rK M' (136 + 43)).2 = 16 from mK K' 178 16, nI_1]
      refine pk_le 16 k (fun z => by omega) (fun _ => ⟨vin (by omega), vin (by omega), ih (k + 1) _ (by omega) (f.w (by omega)) (fun j hj => ?_)⟩)
      rw [show rI M' (136 + 43) k = rI M 179 k by rw [f.i _ (by omega)]]
      show rI (wI M' 143 k _) 143 j = _
      by_cases z : j = k
      · rw [z, rw_ss]
      · rw [rw_sn z]; exact h j (by omega)
  unfold w_Mo_restore
  exact ⟨17, key 16 0 M (by omega) FP.refl (fun j hj => absurd hj (Nat.not_lt_zero _))⟩
/-- the text with other bags -/
theorem RepM.bg {M' : aM} {g' : Nat → Nat} (R : RepM (mR M x) T g) (f : ∀ c, 3 ≤ c → c < 28 → c ≠ 7 → rI M' (136 + c) = rI M (136 + c)) (e : ∀ i, i < T.na → rI M' 143 (8 * x + i) = nI (g' i)) : RepM (mR M' x) T g' := by
  have R1 : RepM (up (mR M x) 7 (mR M' x 7)) T g' := RepM.bag7 R (fun i hi => by rw [mRr (by omega), show szM 7 = 8 from rfl, Nat.mul_comm]; exact e i hi)
  refine RepM_congr R1 (fun c h1 h2 => ?_)
  by_cases z : c = 7
  · subst z; rw [up_s]
  · rw [up_n z]
    funext j
    rw [mRr (by omega), mRr (by omega), f c h1 h2 z]
end MS
