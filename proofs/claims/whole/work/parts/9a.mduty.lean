/-! DUTIES: the model lays them. -/
/-- what is owed so far -/
def OM (M : aM) (t : Nat) (L : List Nat) : Prop := rI M 174 t = nI L.length ∧ ∀ j, j < L.length → rI M 175 (100 * t + j) = nI (L.getD j 0)
def FrO (t : Nat) (M0 M : aM) : Prop := (M.1 = M0.1) ∧ (M.2.1 = M0.2.1) ∧ (M.2.2.2 = M0.2.2.2) ∧ (∀ k, k ≠ 174 → k ≠ 175 → k ≠ 176 → rI M k = rI M0 k) ∧ (∀ j, j ≠ t → rI M 174 j = rI M0 174 j) ∧ (∀ j, (j < 100 * t ∨ 100 * t + 100 ≤ j) → rI M 175 j = rI M0 175 j)
theorem FrO.n {t : Nat} {M0 M : aM} (h : FrO t M0 M) : M.1 = M0.1 := h.1
theorem FrO.k {t : Nat} {M0 M : aM} (h : FrO t M0 M) : M.2.1 = M0.2.1 := h.2.1
theorem FrO.r {t : Nat} {M0 M : aM} (h : FrO t M0 M) : M.2.2.2 = M0.2.2.2 := h.2.2.1
theorem FrO.i {t : Nat} {M0 M : aM} (h : FrO t M0 M) : ∀ k, k ≠ 174 → k ≠ 175 → k ≠ 176 → rI M k = rI M0 k := h.2.2.2.1
theorem FrO.o {t : Nat} {M0 M : aM} (h : FrO t M0 M) : ∀ j, j ≠ t → rI M 174 j = rI M0 174 j := h.2.2.2.2.1
theorem FrO.w {t : Nat} {M0 M : aM} (h : FrO t M0 M) : ∀ j, (j < 100 * t ∨ 100 * t + 100 ≤ j) → rI M 175 j = rI M0 175 j := h.2.2.2.2.2
theorem FrO.refl {t : Nat} {M : aM} : FrO t M M := ⟨rfl, rfl, rfl, fun _ _ _ _ => rfl, fun _ _ => rfl, fun _ _ => rfl⟩
theorem FrO.K {t : Nat} {M0 M : aM} (h : FrO t M0 M) : rK M = rK M0 := h.k
theorem FrO.trans {t : Nat} {M0 M M' : aM} (h : FrO t M0 M) (g : FrO t M M') : FrO t M0 M' := ⟨g.n.trans h.n, g.k.trans h.k, g.r.trans h.r, fun k h1 h2 h3 => (g.i k h1 h2 h3).trans (h.i k h1 h2 h3), fun j hj => (g.o j hj).trans (h.o j hj), fun j hj => (g.w j hj).trans (h.w j hj)⟩
theorem FrO.w8 {t : Nat} {M : aM} {x : Int32} : FrO t M (wI M 174 t x) := ⟨rfl, rfl, rfl, fun k h1 _ _ => rw_n h1, fun j hj => rw_sn hj, fun j _ => by rw [rw_n (by omega)]⟩
theorem FrO.w9 {t j : Nat} {M : aM} {x : Int32} (hj : 100 * t ≤ j ∧ j < 100 * t + 100) : FrO t M (wI M 175 j x) := ⟨rfl, rfl, rfl, fun k _ h2 _ => rw_n h2, fun j _ => by rw [rw_n (by omega)], fun j' hj' => by rw [rw_sn (by omega)]⟩
theorem FrO.w0 {t j : Nat} {M : aM} {x : Int32} : FrO t M (wI M 176 j x) := ⟨rfl, rfl, rfl, fun k _ _ h3 => rw_n h3, fun j _ => by rw [rw_n (by omega)], fun j' _ => by rw [rw_n (by omega)]⟩
theorem FrO.M {t t' : Nat} {M0 M : aM} {T : Txt} {g : Nat → Nat} (h : FrO t M0 M) (R : RepM (mR M0 t') T g) : RepM (mR M t') T g := RepM_congr R (fun c h1 h2 => by
  funext j
  unfold mR
  rw [if_neg (by omega), if_neg (by omega), h.i _ (by omega) (by omega) (by omega)])
section MD
variable {M : aM} {t : Nat} {T : Txt} {g g0 : Nat → Nat}
theorem m_own {post : aM → Prop} {i : Nat} (R : RepM (mR M t) T g0) (K : KOk (rK M)) (ht : t ≤ 1) (D : DI T) (hi : i < T.nn) (hdi : dec T g i ≤ 5) (ed : rI M 165 (100 * t + i) = nI (dec T g i)) {L : List Nat} {M1 : aM} (et : rI M1 176 i = bI (tk T g i)) (hL : (L ++ ownL T g i).length ≤ 100) (F : FrO t M M1) (O : OM M1 t L) (q : ∀ M', FrO t M M' → rI M' 176 = rI M1 176 → OM M' t (L ++ ownL T g i) → post M') : w_Mo_own post 136 (nI t) (nI i) M1 := by
  have lnn := R.lnn
  have lnd := R.lnd
  have k24 : (rK M 160).2 = 3 := mK K 159 3
  have k25 : (rK M 161).2 = 300 := mK K 160 300
  have k26 : (rK M 162).2 = 300 := mK K 161 300
  have k27 : (rK M 163).2 = 300 := mK K 162 300
  have k29 : (rK M 165).2 = 300 := mK K 164 300
  have k38 : (rK M 174).2 = 2 := mK K 173 2
  have k39 : (rK M 175).2 = 200 := mK K 174 200
  have k40 : (rK M 176).2 = 100 := mK K 175 100
  have end_ : rI M 160 t = nI T.nd := by
    have := R.nd
    unfold mR at this
    rw [if_neg (by omega)] at this
    rw [← this]
    congr 1
    show t = t * 1 + 0
    omega
  have key : tk T g i = true → ∀ (n d : Nat) (L : List Nat) (M2 : aM), d + n = T.nd → (L ++ dl T g i n d).length ≤ 100 → FrO t M M2 → rI M2 176 = rI M1 176 → OM M2 t L → (∀ M', FrO t M M' → rI M' 176 = rI M1 176 → OM M' t (L ++ dl T g i n d) → post M') → w_Mo_own_L5 post (n + 1) 136 (nI t) (nI i) (nI (100 * t + d)) M2 := by
    intro htk n
    induction n with
    | zero =>
      intro d L M2 hn hL F e0 O q
      have en : rI M2 160 t = nI T.nd := by rw [F.i _ (by omega) (by omega) (by omega)]; exact end_
      unfold w_Mo_own_L5
      simp (disch := omega) only [Nat.reduceAdd, nI_clamp, en, m100, F.K, k24]
      refine ⟨vin (by omega), pk_le (100 * t + T.nd) (100 * t + d) (fun _ => ?_) (fun z => by omega)⟩
      rw [show L ++ dl T g i 0 d = L from List.append_nil L] at q
      exact q M2 F e0 O
    | succ n ih =>
      intro d L M2 hn hL F e0 O q
      have hdn : d < T.nd := by omega
      have en : rI M2 160 t = nI T.nd := by rw [F.i _ (by omega) (by omega) (by omega)]; exact end_
      have e25 : rI M2 161 (100 * t + d) = nI (T.dof d) := by rw [F.i _ (by omega) (by omega) (by omega), Nat.mul_comm]; exact R.dof d hdn
      have e26 : rI M2 162 (100 * t + d) = nI (T.dfor d) := by rw [F.i _ (by omega) (by omega) (by omega), Nat.mul_comm]; exact R.dfor d hdn
      have e27 : rI M2 163 (100 * t + d) = nI (T.dnum d) := by rw [F.i _ (by omega) (by omega) (by omega), Nat.mul_comm]; exact R.dnum d hdn
      have e29 : rI M2 165 (100 * t + i) = nI (dec T g i) := by rw [F.i _ (by omega) (by omega) (by omega)]; exact ed
      have e40 : rI M2 176 i = 1 := by rw [e0, et, htk]; rfl
      have hdo := D.o d hdn
      have hdf : T.dfor d < 3 := by rcases D.f d hdn with z | z <;> omega
      have hLl : L.length ≤ 100 := by rw [List.length_append] at hL; omega
      unfold w_Mo_own_L5
      simp (disch := omega) only [Nat.reduceAdd, nI_clamp, en, m100, e25, e26, e27, e29, e40, O.1, F.K, k24, k25, k26, k27, k29, k38, k39, k40]
      refine ⟨vin (by omega), pk_le (100 * t + T.nd) (100 * t + d) (fun z => by omega) (fun _ => ?_)⟩
      refine ⟨vin (by omega), br_f (by decide) ?_⟩
      refine ⟨vin (by omega), ?_⟩
      rw [show nI (100 * t + d) + (1 : Int32) = nI (100 * t + (d + 1)) from nI_add (100 * t + d) 1]
      rw [dl] at q hL
      have skip : ¬ (T.dof d = i ∧ T.dfor d = dec T g i) → w_Mo_own_L5 post (n + 1) 136 (nI t) (nI i) (nI (100 * t + (d + 1))) M2 := by
        intro z
        rw [if_neg z] at q hL
        exact ih (d + 1) L M2 (by omega) hL F e0 O q
      refine pk_ne (T.dof d) i (fun z1 => skip (fun w => z1 w.1)) (fun z1 => ?_)
      refine ⟨vin (by omega), vin (by omega), pk_ne (T.dfor d) (dec T g i) (fun z2 => skip (fun w => z2 w.2)) (fun z2 => ?_)⟩
      rw [if_pos ⟨z1, z2⟩] at q hL
      have hl2 : L.length < 100 := by
        rw [List.length_append] at hL
        have : (T.dnum d :: dl T g i n (d + 1)).length = (dl T g i n (d + 1)).length + 1 := rfl
        omega
      refine ⟨vin (by omega), vin (by omega), vin (by omega), vin (by omega), vin (by omega), ?_⟩
      rw [rw_n (k := 175) (k' := 174) (by omega), O.1, show nI L.length + (1 : Int32) = nI (L.length + 1) from nI_add _ 1]
      refine ih (d + 1) (L ++ [T.dnum d]) _ (by omega) (by rw [List.append_assoc]; exact hL) ((F.trans (FrO.w9 (by omega))).trans FrO.w8) ?_ ?_ (by rw [List.append_assoc]; exact q)
      · rw [rw_n (by omega), rw_n (by omega)]; exact e0
      · refine ⟨by rw [rw_ss, List.length_append]; rfl, ?_⟩
        intro j hj
        rw [rw_n (by omega)]
        rw [List.length_append] at hj
        have hj2 : j < L.length + 1 := hj
        by_cases y : j = L.length
        · subst y
          rw [rw_ss, List.getD_eq_getElem?_getD, List.getElem?_append_right (Nat.le_refl _)]
          simp
        · rw [rw_sn (by omega), O.2 j (by omega), List.getD_eq_getElem?_getD, List.getD_eq_getElem?_getD, List.getElem?_append_left (by omega)]
  unfold w_Mo_own
  have e1 : (100 : Int32) * nI t = nI (100 * t + 0) := by rw [show (100 : Int32) = nI 100 from rfl, pk_mul]; rfl
  rw [e1]
  cases htk : tk T g i with
  | true =>
    have eo : ownL T g i = dl T g i T.nd 0 := by unfold ownL; rw [if_pos htk]
    rw [eo] at hL q
    exact ⟨_, key htk T.nd 0 L M1 (by omega) hL F rfl O q⟩
  | false =>
    have eo : ownL T g i = [] := by unfold ownL; rw [if_neg (by rw [htk]; simp)]
    rw [eo, List.append_nil] at q
    refine ⟨1, ?_⟩
    have en : rI M1 160 t = nI T.nd := by rw [F.i _ (by omega) (by omega) (by omega)]; exact end_
    have e40 : rI M1 176 i = 0 := by rw [et, htk]; rfl
    unfold w_Mo_own_L5
    simp (disch := omega) only [Nat.reduceAdd, nI_clamp, en, m100, e40, F.K, k24, k40]
    refine ⟨vin (by omega), pk_le (100 * t + T.nd) (100 * t + 0) (fun _ => q M1 F rfl O) (fun _ => ?_)⟩
    exact ⟨vin (by omega), br_t trivial (q M1 F rfl O)⟩
end MD
