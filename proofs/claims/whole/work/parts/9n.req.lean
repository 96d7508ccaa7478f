/-! REQUESTS: counted, and gone through, by both. -/
def FQ (w : Nat) (M0 M : aM) : Prop := (M.1 = M0.1) ∧ (M.2.1 = M0.2.1) ∧ (M.2.2.2 = M0.2.2.2) ∧ (∀ k, k ≠ w → rI M k = rI M0 k)
theorem FQ.n {w : Nat} {M0 M : aM} (h : FQ w M0 M) : M.1 = M0.1 := h.1
theorem FQ.k {w : Nat} {M0 M : aM} (h : FQ w M0 M) : M.2.1 = M0.2.1 := h.2.1
theorem FQ.r {w : Nat} {M0 M : aM} (h : FQ w M0 M) : M.2.2.2 = M0.2.2.2 := h.2.2.1
theorem FQ.i {w : Nat} {M0 M : aM} (h : FQ w M0 M) : ∀ k, k ≠ w → rI M k = rI M0 k := h.2.2.2
theorem FQ.refl {w : Nat} {M : aM} : FQ w M M := ⟨rfl, rfl, rfl, fun _ _ => rfl⟩
theorem FQ.w {w j : Nat} {x : Int32} {M0 M : aM} (h : FQ w M0 M) : FQ w M0 (wI M w j x) := ⟨h.n, h.k, h.r, fun q hq => by rw [rw_n hq]; exact h.i q hq⟩
theorem FQ.tr {w : Nat} {M M1 M' : aM} (h : FQ w M M1) (h' : FQ w M1 M') : FQ w M M' := ⟨h'.n.trans h.n, h'.k.trans h.k, h'.r.trans h.r, fun q hq => (h'.i q hq).trans (h.i q hq)⟩
theorem FQ.K {w : Nat} {M0 M : aM} (h : FQ w M0 M) (K : KOk (rK M0)) : KOk (rK M) := by rw [show rK M = rK M0 from h.k]; exact K
theorem FQ.cR {w t : Nat} {T : Txt} {g : Nat → Nat} {M0 M : aM} (h : FQ w M0 M) (R : RepC (cR M0 t) T g) (hw : w < t ∨ t + 31 ≤ w) : RepC (cR M t) T g := RepC_congr R (fun c hc => h.i _ (by omega))
theorem shl1b : ∀ n, n < 9 → ((1 : Int32) <<< (nI n &&& 31)) = nI (2 ^ n) := by decide +kernel
theorem sh1 : ∀ n, n < 9 → (nI (2 ^ n) <<< ((1 : Int32) &&& 31)) = nI (2 ^ (n + 1)) := by decide +kernel
theorem p2_le {a b : Nat} : 2 ^ a ≤ 2 ^ b ↔ a ≤ b := Nat.pow_le_pow_iff_right (by omega)
theorem m_1 (n : Nat) : nI n - 1 = nI n + (-1) := by rw [Int32.sub_eq_add_neg]
section RQ
variable {T : Txt} {M : aM} {t : Nat} {g0 : Nat → Nat}
theorem rq_stop {i : Nat} (h : 4096 < rq T i) : ∀ j, i ≤ j → rq T j = rq T i := by
  intro j hj
  induction hj with
  | refl => rfl
  | @step m hm ih => rw [rq, if_pos (by omega), ih]
theorem c_requests {post : Int32 → Prop} (R : RepC (cR M t) T g0) (K : KOk (rK M)) (ht : tOk t) (A : AI T) (q : post (nI (rq T T.na))) : w_At_requests post (t + 1) M := by
  unfold w_At_requests
  have lna := R.lna
  have k6 : (rK M (t + 1 + 5)).2 = 8 := K.tl ht 6 8
  have k5 : (rK M (t + 1 + 4)).2 = 8 := K.tl ht 5 8
  have key : ∀ d i, i + d = T.na → w_At_requests_L4 M post (d + 1) (t + 1) (nI (rq T i)) (nI i) := by
    intro d
    induction d with
    | zero =>
      intro i hi
      have : i = T.na := by omega
      subst this
      unfold w_At_requests_L4
      exact br_t (by rw [show rI M (t + 1) 0 = _ from R.na]; exact Int32.le_refl _) q
    | succ d ih =>
      intro i hi
      unfold w_At_requests_L4
      have l := rq_le A i (by omega)
      have lz := A.z i (by omega)
      refine pk_le T.na i (fun z => by omega) (fun _ => ?_) R.na rfl
      refine pk_lt 4096 (rq T i) (fun z => ?_) (fun z => ?_)
      · rw [rq_stop z T.na (by omega)] at q; exact q
      · have es : rq T (i + 1) = rq T i * rz T i := by rw [rq, if_neg (by omega)]
        have ih2 := ih (i + 1) (by omega)
        rw [es] at ih2
        rw [nI_clamp (by omega), k6, k5, show rI M (t + 1 + 4) i = _ from R.asz i (by omega)]
        refine ⟨vin (by omega), pk_b0 (T.amany i) (fun m => ⟨vin (by omega), ?_⟩) (fun m => ⟨vin (by omega), ?_⟩) (R.amany i (by omega)) rfl⟩
        · rw [nI_1, pk_mul, nI_1, ← rz_one m]; exact ih2
        · rw [shl1b _ (by omega), pk_mul, nI_1, ← rz_many m]; exact ih2
  exact ⟨T.na + 1, key T.na 0 (by omega)⟩
theorem m_requests {post : Int32 → Prop} {x : Nat} (R : RepM (mR M x) T g0) (K : KOk (rK M)) (hx : x ≤ 1) (A : AI T) (q : post (nI (rq T T.na))) : w_Mo_requests post 136 (nI x) M := by
  unfold w_Mo_requests
  have lna := R.lna
  have k3 : (rK M (136 + 3)).2 = 3 := mK K 138 3
  have k4 : (rK M (136 + 4)).2 = 24 := mK K 139 24
  have k5 : (rK M (136 + 5)).2 = 24 := mK K 140 24
  have e3 : rI M (136 + 3) x = nI T.na := by have := R.na; rw [mRr (by omega), show szM 3 = 1 from rfl, show x * 1 + 0 = x by omega] at this; exact this
  have rd : ∀ c j, 1 ≤ c ∧ c < 31 → szM c = 8 → rI M (136 + c) (8 * x + j) = mR M x c j := fun c j hc hs => by rw [mRr hc, hs, Nat.mul_comm]
  have key : ∀ d i, i + d = T.na → w_Mo_requests_L7 M post (d + 1) 136 (nI x) (nI (rq T i)) (nI (8 * x + i)) := by
    intro d
    induction d with
    | zero =>
      intro i hi
      have : i = T.na := by omega
      subst this
      unfold w_Mo_requests_L7
      rw [nI_clamp (n := x) (by omega), e3, m8, k3]
      exact ⟨vin (by omega), br_t (Int32.le_refl _) q⟩
    | succ d ih =>
      intro i hi
      unfold w_Mo_requests_L7
      have l := rq_le A i (by omega)
      have lz := A.z i (by omega)
      have ih2 := ih (i + 1) (by omega)
      rw [nI_clamp (n := x) (by omega), e3, m8, k3, nI_clamp (n := 8 * x + i) (by omega), k4, k5, rd 4 i (by omega) rfl, R.asz i (by omega)]
      refine ⟨vin (by omega), pk_le (8 * x + T.na) (8 * x + i) (fun z => by omega) (fun _ => ?_)⟩
      refine pk_le (rq T i) 4096 (fun z => ?_) (fun z => ?_)
      · have es : rq T (i + 1) = rq T i * rz T i := by rw [rq, if_neg (by omega)]
        rw [es] at ih2
        refine ⟨vin (by omega), pk_b0 (T.amany i) (fun m => ⟨vin (by omega), ?_⟩) (fun m => ⟨vin (by omega), ?_⟩) ((rd 5 i (by omega) rfl).trans (R.amany i (by omega))) rfl⟩
        · rw [nI_1, pk_mul, nI_1, ← rz_one m]; exact ih2
        · rw [shl1b _ (by omega), pk_mul, nI_1, ← rz_many m]; exact ih2
      · have es : rq T (i + 1) = rq T i := by rw [rq, if_pos z]
        rw [es] at ih2
        rw [nI_1]; exact ih2
  refine ⟨T.na + 1, ?_⟩
  have := key T.na 0 (by omega)
  rw [show (8 : Int32) * nI x = nI (8 * x + 0) by rw [show (8 : Int32) = nI 8 from rfl, pk_mul]; rfl]
  exact this
/-- the digit behind d -/
def dn1 (T : Txt) (i d : Nat) : Nat := if d + 1 < rz T i then d + 1 else 0
theorem bgd_z {i d : Nat} : bgd T i d = 0 ↔ d = 0 := by
  unfold bgd
  split
  · exact Iff.rfl
  · split
    · exact ⟨fun _ => by assumption, fun _ => rfl⟩
    · have := Nat.two_pow_pos (d - 1)
      constructor
      · intro h; omega
      · intro h; omega
theorem c_bagBehind {post : Int32 → Prop} {i d : Nat} (R : RepC (cR M t) T g0) (K : KOk (rK M)) (ht : tOk t) (A : AI T) (hi : i < T.na) (hd : d < rz T i) (q : post (nI (bgd T i (dn1 T i d)))) : w_At_bagBehind post (t + 1) (nI i) (nI (bgd T i d)) M := by
  have lna := R.lna
  have lz := A.z i hi
  have lr := rz_le A hi
  have k6 : (rK M (t + 1 + 5)).2 = 8 := K.tl ht 6 8
  have k5 : (rK M (t + 1 + 4)).2 = 8 := K.tl ht 5 8
  have e5 : rI M (t + 1 + 4) i = nI (T.asz i) := R.asz i hi
  have p8 := p256 (T.asz i) (by omega)
  unfold w_At_bagBehind
  rw [nI_clamp (by omega), k6]
  refine ⟨vin (by omega), pk_nb0 (T.amany i) (fun m => ?_) (fun m => ?_) (R.amany i hi) rfl⟩
  · unfold w_At_bagBehind_J13 w_At_bagBehind_J22
    rw [nI_clamp (by omega), k5, e5, shl1b _ (by omega), bgd_many m, nI_1]
    unfold dn1 at q
    rw [rz_many m, bgd_many m] at q
    rw [rz_many m] at hd
    refine ⟨vin (by omega), pk_le (2 ^ T.asz i) (d + 1) (fun z => ?_) (fun z => ?_)⟩
    · rw [if_neg (by omega)] at q; exact q
    · rw [if_pos z] at q; exact q
  · unfold dn1 at q
    rw [rz_one m, bgd_one m] at q
    rw [rz_one m] at hd
    rw [bgd_one m]
    by_cases z : d = 0
    · subst z
      have ed : (if 0 + 1 < T.asz i + 1 then 0 + 1 else 0) = 1 := if_pos (by omega)
      rw [ed] at q
      have q : post (nI 1) := q
      rw [if_pos rfl]
      refine nb_t rfl ?_
      unfold w_At_bagBehind_J13 w_At_bagBehind_J22
      rw [nI_clamp (by omega), k5, e5, shl1b _ (by omega)]
      refine ⟨vin (by omega), pk_le (2 ^ T.asz i) 1 (fun z => ?_) (fun z => q) rfl rfl⟩
      have : 2 ^ 1 ≤ 2 ^ T.asz i := p2_le.mpr (by omega)
      omega
    · rw [if_neg z]
      have p7 : 2 ^ (d - 1) ≤ 2 ^ T.asz i := p2_le.mpr (by omega)
      have p7b : 2 ^ d ≤ 2 ^ T.asz i := p2_le.mpr (by omega)
      refine nb_f (nI_ne0 (Nat.two_pow_pos _) (by omega)) ?_
      unfold w_At_bagBehind_J22
      rw [nI_clamp (by omega), k5, e5, shl1b _ (by omega), sh1 _ (by omega), show d - 1 + 1 = d by omega]
      refine ⟨vin (by omega), pk_le (2 ^ T.asz i) (2 ^ d) (fun z2 => ?_) (fun z2 => ?_)⟩
      · have := p2_le.mp z2
        have ed : (if d + 1 < T.asz i + 1 then d + 1 else 0) = 0 := if_neg (by omega)
        rw [ed] at q; exact q
      · have : d < T.asz i := by
          by_cases y : d < T.asz i
          · exact y
          · have := p2_le.mpr (show T.asz i ≤ d by omega); omega
        have ed : (if d + 1 < T.asz i + 1 then d + 1 else 0) = d + 1 := if_pos (by omega)
        rw [ed, if_neg (by omega), show d + 1 - 1 = d by omega] at q; exact q
def BR (M : aM) (w : Nat) (T : Txt) (D : Nat → Nat) : Prop := ∀ i, i < T.na → rI M w i = nI (bgd T i (D i))
theorem c_stepS {post : aM → Prop} {D : Nat → Nat} (R : RepC (cR M t) T g0) (K : KOk (rK M)) (ht : tOk t) (A : AI T) (hD : ∀ j, j < T.na → D j < rz T j) (b : BR M 128 T D) (q : ∀ M', FQ 128 M M' → BR M' 128 T (nd T T.na D).2 → post M') : w_Sv_step post 120 (t + 1) M := by
  have lna := R.lna
  have htt := ht
  unfold tOk at htt
  have key : ∀ (i : Nat) (D : Nat → Nat) (M' : aM), i ≤ T.na → FQ 128 M M' → (∀ j, j < T.na → D j < rz T j) → BR M' 128 T D → (∀ M', FQ 128 M M' → BR M' 128 T (nd T i D).2 → post M') → w_Sv_step_L7 post (i + 1) 120 (t + 1) (nI i + (-1)) M' := by
    intro i
    induction i with
    | zero =>
      intro D M' _ f _ b q
      unfold w_Sv_step_L7
      exact br_t (by decide) (q M' f b)
    | succ i ih =>
      intro D M' hi f hD b q
      unfold w_Sv_step_L7
      rw [pk_m1]
      have K' := f.K K
      have k8 : (rK M' (120 + 8)).2 = 8 := mK K' 127 8
      rw [nI_clamp (by omega), k8, show rI M' (120 + 8) i = _ from b i (by omega)]
      refine br_f (nI_pos (by omega)) ⟨vin (by omega), c_bagBehind (f.cR R (by omega)) K' ht A (by omega) (hD i (by omega)) ⟨vin (by omega), vin (by omega), ?_⟩⟩
      rw [rw_ss]
      have hb : ∀ d, BR (wI M' (120 + 8) i (nI (bgd T i d))) 128 T (up D i d) := fun d j hj => by
        show rI (wI M' 128 i (nI (bgd T i d))) 128 j = _
        by_cases z : j = i
        · subst z; rw [rw_ss, up_s]
        · rw [rw_sn z, up_n z]; exact b j hj
      rw [nd] at q
      unfold dn1
      by_cases z : D i + 1 < rz T i
      · rw [if_pos z] at q ⊢
        refine br_f (fun c => ?_) (q _ f.w (hb _))
        have l1 := bgd_lt A (i := i) (by omega) z
        have l2 := p256 (T.asz i) (by have := A.z i (by omega); omega)
        have c2 := (nI_eq (by omega) (by omega)).mp (c.trans nI_0.symm)
        have := bgd_z.mp c2
        omega
      · rw [if_neg z] at q ⊢
        rw [bgd_0]
        refine br_t rfl (ih (up D i 0) _ (by omega) f.w (fun j hj => ?_) ?_ q)
        · by_cases y : j = i
          · subst y; rw [up_s]; have := hD j hj; omega
          · rw [up_n y]; exact hD j hj
        · have := hb 0; rw [bgd_0] at this; exact this
  unfold w_Sv_step
  rw [show rI M (t + 1) 0 = _ from R.na, m_1]
  exact ⟨T.na + 1, key T.na D M (Nat.le_refl _) FQ.refl hD b q⟩
/-- the bags of text x of the model, as digits -/
def BM (M : aM) (x : Nat) (T : Txt) (D : Nat → Nat) : Prop := ∀ i, i < T.na → rI M 143 (8 * x + i) = nI (bgd T i (D i))
def OB (x : Nat) (M0 M : aM) : Prop := ∀ j, (j < 8 * x ∨ 8 * x + 8 ≤ j) → rI M 143 j = rI M0 143 j
theorem m_nextRequest {post : Int32 → aM → Prop} {D : Nat → Nat} {x : Nat} (R : RepM (mR M x) T g0) (K : KOk (rK M)) (hx : x ≤ 1) (A : AI T) (hD : ∀ j, j < T.na → D j < rz T j) (b : BM M x T D) (q : ∀ M', FQ 143 M M' → OB x M M' → BM M' x T (nd T T.na D).2 → post (bI (nd T T.na D).1) M') : w_Mo_nextRequest post 136 (nI x) M := by
  have lna := R.lna
  have e3 : rI M (136 + 3) x = nI T.na := by have := R.na; rw [mRr (by omega), show szM 3 = 1 from rfl, show x * 1 + 0 = x by omega] at this; exact this
  have rd : ∀ c j, 1 ≤ c ∧ c < 31 → szM c = 8 → rI M (136 + c) (8 * x + j) = mR M x c j := fun c j hc hs => by rw [mRr hc, hs, Nat.mul_comm]
  have key : ∀ (i : Nat) (D : Nat → Nat) (M' : aM), i ≤ T.na → FQ 143 M M' → OB x M M' → (∀ j, j < T.na → D j < rz T j) → BM M' x T D → (∀ M', FQ 143 M M' → OB x M M' → BM M' x T (nd T i D).2 → post (bI (nd T i D).1) M') → w_Mo_nextRequest_L14 post (i + 1) 136 (nI x) (nI (8 * x + i) + (-1)) M' := by
    intro i
    induction i with
    | zero =>
      intro D M' _ f ob _ b q
      unfold w_Mo_nextRequest_L14
      refine br_t ?_ ⟨Or.inl rfl, q M' f ob b⟩
      have : x = 0 ∨ x = 1 := by omega
      rcases this with rfl | rfl <;> decide
    | succ i ih =>
      intro D M' hi f ob hD b q
      have lz := A.z i (by omega)
      have hdi := hD i (by omega)
      have K' := f.K K
      have k4 : (rK M' (136 + 4)).2 = 24 := mK K' 139 24
      have k5 : (rK M' (136 + 5)).2 = 24 := mK K' 140 24
      have k7 : (rK M' (136 + 7)).2 = 24 := mK K' 142 24
      have e4 : rI M' (136 + 4) (8 * x + i) = nI (T.asz i) := by rw [f.i _ (by omega), rd 4 i (by omega) rfl]; exact R.asz i (by omega)
      have e5 : rI M' (136 + 5) (8 * x + i) = bI (T.amany i) := by rw [f.i _ (by omega), rd 5 i (by omega) rfl]; exact R.amany i (by omega)
      have e7 : rI M' (136 + 7) (8 * x + i) = nI (bgd T i (D i)) := b i (by omega)
      have lb := bgd_lt A (i := i) (by omega) hdi
      have l2 := p256 (T.asz i) (by omega)
      have hb : ∀ d, BM (wI M' (136 + 7) (8 * x + i) (nI (bgd T i d))) x T (up D i d) := fun d j hj => by
        show rI (wI M' 143 (8 * x + i) (nI (bgd T i d))) 143 (8 * x + j) = _
        by_cases z : j = i
        · subst z; rw [rw_ss, up_s]
        · rw [rw_sn (by omega), up_n z]; exact b j hj
      have hob : ∀ y, OB x M (wI M' (136 + 7) (8 * x + i) y) := fun y j hj => by
        show rI (wI M' 143 (8 * x + i) y) 143 j = _
        rw [rw_sn (by omega)]; exact ob j hj
      have J : ∀ top, top < 2 ^ 31 → (top ≤ bgd T i (D i) ↔ ¬ (D i + 1 < rz T i)) → w_Mo_nextRequest_J54 post (w_Mo_nextRequest_L14 post (i + 1)) 136 (nI x) (nI (8 * x + i)) (nI top) M' := by
        intro top ht htop
        unfold w_Mo_nextRequest_J54
        rw [nI_clamp (by omega), k7, k5, e7, e5]
        rw [nd] at q
        refine ⟨vin (by omega), pk_le top (bgd T i (D i)) (fun z => ⟨vin (by omega), ?_⟩) (fun z => ⟨vin (by omega), ?_⟩)⟩
        · have y := htop.mp z
          rw [if_neg y] at q
          refine ih (up D i 0) _ (by omega) f.w (hob _) (fun j hj => ?_) ?_ q
          · by_cases y : j = i
            · subst y; rw [up_s]; have := hD j hj; omega
            · rw [up_n y]; exact hD j hj
          · have := hb 0; rw [bgd_0] at this; exact this
        · have y : D i + 1 < rz T i := by
            by_cases y : D i + 1 < rz T i
            · exact y
            · have := htop.mpr y; omega
          rw [if_pos y] at q
          have fin := q _ f.w (hob _) (hb (D i + 1))
          refine pk_b0 (T.amany i) (fun m => ⟨vin (by omega), ?_⟩) (fun m => ⟨vin (by omega), vin (by omega), Or.inr rfl, ?_⟩) rfl rfl
          · rw [bgd_one m, if_neg (by omega), show D i + 1 - 1 = D i by omega] at fin
            rw [bgd_one m]
            by_cases z0 : D i = 0
            · rw [z0] at fin ⊢
              exact nb_t rfl ⟨vin (by omega), Or.inr rfl, fin⟩
            · rw [if_neg z0]
              have p7 := Nat.two_pow_pos (D i - 1)
              rw [rz_one m] at y
              have p8 : 2 ^ (D i - 1) ≤ 2 ^ T.asz i := p2_le.mpr (by omega)
              refine nb_f (nI_ne0 p7 (by omega)) ⟨vin (by omega), vin (by omega), Or.inr rfl, ?_⟩
              rw [show (2 : Int32) = nI 2 from rfl, pk_mul, show 2 * 2 ^ (D i - 1) = 2 ^ D i by rw [← Nat.pow_succ', Nat.succ_eq_add_one, show D i - 1 + 1 = D i by omega]]
              exact fin
          · rw [bgd_many m] at fin
            rw [bgd_many m, nI_1]; exact fin
      unfold w_Mo_nextRequest_L14
      rw [show 8 * x + (i + 1) = (8 * x + i) + 1 by omega, pk_m1, show (8 : Int32) * nI x = nI (8 * x) by rw [show (8 : Int32) = nI 8 from rfl, pk_mul], nI_clamp (n := 8 * x + i) (by omega), k5, k4, e4]
      refine br_f (nI_nlt (by omega) (by omega)) ⟨vin (by omega), pk_b0 (T.amany i) (fun m => ⟨vin (by omega), ?_⟩) (fun m => ⟨vin (by omega), ?_⟩) e5 rfl⟩
      · rw [show nI (T.asz i) - 1 = nI (T.asz i - 1) from pk_sub (b := 1) (by omega), shl1b _ (by omega)]
        have p8 : 2 ^ (T.asz i - 1) ≤ 2 ^ T.asz i := p2_le.mpr (by omega)
        refine J _ (by omega) ?_
        rw [bgd_one m, rz_one m]
        by_cases z0 : D i = 0
        · rw [if_pos z0]
          have := Nat.two_pow_pos (T.asz i - 1)
          constructor
          · intro h; omega
          · intro h; omega
        · rw [if_neg z0, p2_le]
          constructor
          · intro h; omega
          · intro h; omega
      · have p1 := Nat.two_pow_pos (T.asz i)
        rw [shl1b _ (by omega), show nI (2 ^ T.asz i) - 1 = nI (2 ^ T.asz i - 1) from pk_sub (b := 1) p1]
        refine J _ (by omega) ?_
        rw [bgd_many m, rz_many m]
        constructor
        · intro h; omega
        · intro h; omega
  unfold w_Mo_nextRequest
  rw [nI_clamp (n := x) (by omega), e3, m8, m_1, show (rK M (136 + 3)).2 = 3 from mK K 138 3]
  exact ⟨vin (by omega), T.na + 1, key T.na D M (Nat.le_refl _) FQ.refl (fun _ _ => rfl) hD b q⟩
end RQ
