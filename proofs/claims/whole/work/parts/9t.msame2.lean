/-! SAME AND REACH, the model's calls. -/
def PQm (k : Nat) : Prop := k ≠ 136 ∧ k ≠ 143 ∧ k ≠ 165 ∧ k ≠ 166 ∧ k ≠ 172 ∧ k ≠ 173 ∧ k ≠ 177 ∧ k ≠ 178
def SVM (M0 M : aM) (T0 T1 : Txt) (c : Nat) : Prop := (FP PQm M0 M) ∧ (∀ j, j ≠ 53 → j ≠ 54 → rI M 136 j = rI M0 136 j) ∧ (BM M 0 T0 (Dq T0 c)) ∧ (∀ j, j < 36 → rI M 177 j = nI (tlN T0 T1 c j)) ∧ (∀ x, dfN T0 T1 c = some x → rI M 136 53 = nI T0.na ∧ ∀ j, j < T0.na → rI M 178 j = nI (gOf T0 (Dq T0 x) j))
theorem SVM.f {M0 M : aM} {T0 T1 : Txt} {c : Nat} (h : SVM M0 M T0 T1 c) : FP PQm M0 M := h.1
theorem SVM.o {M0 M : aM} {T0 T1 : Txt} {c : Nat} (h : SVM M0 M T0 T1 c) : ∀ j, j ≠ 53 → j ≠ 54 → rI M 136 j = rI M0 136 j := h.2.1
theorem SVM.d {M0 M : aM} {T0 T1 : Txt} {c : Nat} (h : SVM M0 M T0 T1 c) : BM M 0 T0 (Dq T0 c) := h.2.2.1
theorem SVM.tl {M0 M : aM} {T0 T1 : Txt} {c : Nat} (h : SVM M0 M T0 T1 c) : ∀ j, j < 36 → rI M 177 j = nI (tlN T0 T1 c j) := h.2.2.2.1
theorem SVM.ws {M0 M : aM} {T0 T1 : Txt} {c : Nat} (h : SVM M0 M T0 T1 c) : ∀ x, dfN T0 T1 c = some x → rI M 136 53 = nI T0.na ∧ ∀ j, j < T0.na → rI M 178 j = nI (gOf T0 (Dq T0 x) j) := h.2.2.2.2
theorem BM_g {M : aM} {x : Nat} {T : Txt} {D : Nat → Nat} (b : BM M x T D) {i : Nat} (hi : i < T.na) : rI M 143 (8 * x + i) = nI (gOf T D i) := by rw [b i hi]; unfold gOf; rw [if_pos hi]
section MC
variable {T T0 T1 : Txt} {M : aM} {g0 g1 : Nat → Nat}
theorem FP.bg {x : Nat} {g' : Nat → Nat} {M' : aM} (f : FP PQm M M') (R : RepM (mR M x) T g0) (e : ∀ i, i < T.na → rI M' 143 (8 * x + i) = nI (g' i)) : RepM (mR M' x) T g' := R.bg (fun c h1 h2 h3 => f.i _ (by unfold PQm; omega)) e
theorem m_cmp1 {post : Int32 → aM → Prop} {K90 : Nat → Int32 → Int32 → aM → Prop} {c : Nat} {M' M1 : aM} (R0 : RepM (mR M 0) T0 g0) (R1 : RepM (mR M 1) T1 g1) (A0 : AI T0) (N0 : NI T0) (N1 : NI T1) (W0 : WI T0 T0.nn) (W1 : WI T1 T1.nn) (I0 : ∃ rs, RI T0 rs) (I1 : ∃ rs, RI T1 rs) (P0 : 0 < T0.nn) (P1 : 0 < T1.nn) (K : KOk (rK M)) (hc : c ≤ 4096) (s : SVM M M' T0 T1 c) (f1 : FQ 143 M' M1) (b0 : ∀ j, j < 8 → rI M1 143 j = rI M' 143 j) (b1 : ∀ j, j < T1.na → rI M1 143 (8 * 1 + j) = nI (ar T0 T1 (gOf T0 (Dq T0 c)) j)) (q : ∀ M2, SVM M M2 T0 T1 (c + 1) → K90 136 (bI (dfN T0 T1 (c + 1)).isNone) (bI (nd T0 T0.na (Dq T0 c)).1) M2) : w_Mo_judge (fun M1 => w_Mo_judge (fun M2 => (vp_in ((0 : Int32)) (rK M2 (136 + 29)).2) ∧ (vp_in ((100 : Int32)) (rK M2 (136 + 29)).2) ∧ (vp_in ((((6 : Int32)) * (rI M2 (136 + 29) ((0 : Int32)).toNatClampNeg)) + (rI M2 (136 + 29) ((100 : Int32)).toNatClampNeg)) (rK M2 (136 + 41)).2) ∧ (vp_in ((((6 : Int32)) * (rI M2 (136 + 29) ((0 : Int32)).toNatClampNeg)) + (rI M2 (136 + 29) ((100 : Int32)).toNatClampNeg)) (rK M2 (136 + 41)).2) ∧ (((bI (dfN T0 T1 c).isNone = ((0 : Int32))) → w_Mo_same_J195 post K90 136 (bI (dfN T0 T1 c).isNone) (wI M2 (136 + 41) ((((6 : Int32)) * (rI M2 (136 + 29) ((0 : Int32)).toNatClampNeg)) + (rI M2 (136 + 29) ((100 : Int32)).toNatClampNeg)).toNatClampNeg ((rI M2 (136 + 41) ((((6 : Int32)) * (rI M2 (136 + 29) ((0 : Int32)).toNatClampNeg)) + (rI M2 (136 + 29) ((100 : Int32)).toNatClampNeg)).toNatClampNeg) + ((1 : Int32))))) ∧ (¬ (bI (dfN T0 T1 c).isNone = ((0 : Int32))) → (vp_in ((0 : Int32)) (rK M2 (136 + 29)).2) ∧ (vp_in ((100 : Int32)) (rK M2 (136 + 29)).2) ∧ ((((rI (wI M2 (136 + 41) ((((6 : Int32)) * (rI M2 (136 + 29) ((0 : Int32)).toNatClampNeg)) + (rI M2 (136 + 29) ((100 : Int32)).toNatClampNeg)).toNatClampNeg ((rI M2 (136 + 41) ((((6 : Int32)) * (rI M2 (136 + 29) ((0 : Int32)).toNatClampNeg)) + (rI M2 (136 + 29) ((100 : Int32)).toNatClampNeg)).toNatClampNeg) + ((1 : Int32)))) (136 + 29) ((0 : Int32)).toNatClampNeg) = (rI (wI M2 (136 + 41) ((((6 : Int32)) * (rI M2 (136 + 29) ((0 : Int32)).toNatClampNeg)) + (rI M2 (136 + 29) ((100 : Int32)).toNatClampNeg)).toNatClampNeg ((rI M2 (136 + 41) ((((6 : Int32)) * (rI M2 (136 + 29) ((0 : Int32)).toNatClampNeg)) + (rI M2 (136 + 29) ((100 : Int32)).toNatClampNeg)).toNatClampNeg) + ((1 : Int32)))) (136 + 29) ((100 : Int32)).toNatClampNeg)) → w_Mo_same_J195 post K90 136 (bI (dfN T0 T1 c).isNone) (wI M2 (136 + 41) ((((6 : Int32)) * (rI M2 (136 + 29) ((0 : Int32)).toNatClampNeg)) + (rI M2 (136 + 29) ((100 : Int32)).toNatClampNeg)).toNatClampNeg ((rI M2 (136 + 41) ((((6 : Int32)) * (rI M2 (136 + 29) ((0 : Int32)).toNatClampNeg)) + (rI M2 (136 + 29) ((100 : Int32)).toNatClampNeg)).toNatClampNeg) + ((1 : Int32))))) ∧ (¬ ((rI (wI M2 (136 + 41) ((((6 : Int32)) * (rI M2 (136 + 29) ((0 : Int32)).toNatClampNeg)) + (rI M2 (136 + 29) ((100 : Int32)).toNatClampNeg)).toNatClampNeg ((rI M2 (136 + 41) ((((6 : Int32)) * (rI M2 (136 + 29) ((0 : Int32)).toNatClampNeg)) + (rI M2 (136 + 29) ((100 : Int32)).toNatClampNeg)).toNatClampNeg) + ((1 : Int32)))) (136 + 29) ((0 : Int32)).toNatClampNeg) = (rI (wI M2 (136 + 41) ((((6 : Int32)) * (rI M2 (136 + 29) ((0 : Int32)).toNatClampNeg)) + (rI M2 (136 + 29) ((100 : Int32)).toNatClampNeg)).toNatClampNeg ((rI M2 (136 + 41) ((((6 : Int32)) * (rI M2 (136 + 29) ((0 : Int32)).toNatClampNeg)) + (rI M2 (136 + 29) ((100 : Int32)).toNatClampNeg)).toNatClampNeg) + ((1 : Int32)))) (136 + 29) ((100 : Int32)).toNatClampNeg)) → w_Mo_isWitness (fun M3 => w_Mo_same_J195 post K90 136 ((0 : Int32)) M3) 136 ((0 : Int32)) (wI M2 (136 + 41) ((((6 : Int32)) * (rI M2 (136 + 29) ((0 : Int32)).toNatClampNeg)) + (rI M2 (136 + 29) ((100 : Int32)).toNatClampNeg)).toNatClampNeg ((rI M2 (136 + 41) ((((6 : Int32)) * (rI M2 (136 + 29) ((0 : Int32)).toNatClampNeg)) + (rI M2 (136 + 29) ((100 : Int32)).toNatClampNeg)).toNatClampNeg) + ((1 : Int32))))))))) 136 ((1 : Int32)) M1) 136 ((0 : Int32)) M1 := by
  have l0 := R0.lna
  have l1 := R1.lna
  have hD := Dq_lt A0 c
  have F1 : FP PQm M M1 := s.f.tr (FP.ofQ f1 (by unfold PQm; omega))
  have K1 := F1.K K
  have B0 : ∀ i, i < T0.na → rI M1 143 (8 * 0 + i) = nI (gOf T0 (Dq T0 c) i) := fun i hi => by rw [b0 _ (by omega)]; exact BM_g s.d hi
  refine m_judge (t := 0) (g := gOf T0 (Dq T0 c)) (F1.bg R0 B0) K1 (by omega) (fun i => gOf_lt A0 hD i) N0 W0 I0 (fun M2 j2 v2 => ?_)
  have F2 : FP PQm M M2 := F1.tr ⟨j2.n, j2.k, j2.r, fun k hk => j2.i k (by unfold PQm at hk; omega) (by unfold PQm at hk; omega) (by unfold PQm at hk; omega) (by unfold PQm at hk; omega)⟩
  have K2 := F2.K K
  have e37 : rI M2 143 = rI M1 143 := j2.i _ (by omega) (by omega) (by omega) (by omega)
  refine m_judge (t := 1) (g := ar T0 T1 (gOf T0 (Dq T0 c))) (F2.bg R1 (fun i hi => by rw [e37]; exact b1 i hi)) K2 (by omega) (fun i => gOf_lt A0 hD _) N1 W1 I1 (fun M3 j3 v3 => ?_)
  have F3 : FP PQm M M3 := F2.tr ⟨j3.n, j3.k, j3.r, fun k hk => j3.i k (by unfold PQm at hk; omega) (by unfold PQm at hk; omega) (by unfold PQm at hk; omega) (by unfold PQm at hk; omega)⟩
  have K3 := F3.K K
  have e0 : rI M3 (136 + 29) 0 = nI (qq0 T0 c) := by
    rw [(j3.d 0 (by omega)).1]; exact (v2 0 (Nat.le_refl _) P0).1
  have e1 : rI M3 (136 + 29) 100 = nI (qq1 T0 T1 c) := (v3 0 (Nat.le_refl _) P1).1
  have eo : ∀ k, k = 136 ∨ k = 143 ∨ k = 177 ∨ k = 178 → rI M3 k = rI M1 k := fun k hk => by rw [j3.i _ (by omega) (by omega) (by omega) (by omega), j2.i _ (by omega) (by omega) (by omega) (by omega)]
  have lq0 : qq0 T0 c ≤ 5 := dec_le N0 P0
  have lq1 : qq1 T0 T1 c ≤ 5 := dec_le N1 P1
  have lt := tlN_le (T0 := T0) (T1 := T1) c (6 * qq0 T0 c + qq1 T0 T1 c)
  have e71 : rI M3 (136 + 41) (6 * qq0 T0 c + qq1 T0 T1 c) = nI (tlN T0 T1 c (6 * qq0 T0 c + qq1 T0 T1 c)) := by rw [eo _ (by omega), f1.i _ (by omega)]; exact s.tl _ (by omega)
  rw [show ((0 : Int32)).toNatClampNeg = 0 from by decide, show ((100 : Int32)).toNatClampNeg = 100 from by decide, e0, e1, show (6 : Int32) = nI 6 from rfl, pk_mul, nI_add, nI_clamp (by omega), e71, nI_1]
  rw [show (rK M3 (136 + 29)).2 = 300 from mK K3 164 300, show (rK M3 (136 + 41)).2 = 36 from mK K3 176 36]
  have w29 : ∀ y, rI (wI M3 (136 + 41) (6 * qq0 T0 c + qq1 T0 T1 c) y) (136 + 29) = rI M3 (136 + 29) := fun y => rw_n (by omega)
  rw [w29, e0, e1]
  have F4 : FP PQm M (wI M3 (136 + 41) (6 * qq0 T0 c + qq1 T0 T1 c) (nI (tlN T0 T1 c (6 * qq0 T0 c + qq1 T0 T1 c) + 1))) := F3.w (by unfold PQm; omega)
  have w41 : ∀ j, j < 36 → rI (wI M3 (136 + 41) (6 * qq0 T0 c + qq1 T0 T1 c) (nI (tlN T0 T1 c (6 * qq0 T0 c + qq1 T0 T1 c) + 1))) 177 j = nI (tlN T0 T1 (c + 1) j) := fun j hj => by
    rw [tlN]
    show rI (wI M3 177 (6 * qq0 T0 c + qq1 T0 T1 c) (nI (tlN T0 T1 c (6 * qq0 T0 c + qq1 T0 T1 c) + 1))) 177 j = _
    by_cases z : j = 6 * qq0 T0 c + qq1 T0 T1 c
    · subst z; rw [rw_ss, up_s]
    · rw [rw_sn z, up_n z, eo _ (by omega), f1.i _ (by omega)]; exact s.tl j hj
  have wo : ∀ k, k = 136 ∨ k = 143 ∨ k = 178 → rI (wI M3 (136 + 41) (6 * qq0 T0 c + qq1 T0 T1 c) (nI (tlN T0 T1 c (6 * qq0 T0 c + qq1 T0 T1 c) + 1))) k = rI M1 k := fun k hk => by rw [rw_n (by omega), eo _ (by omega)]
  generalize wI M3 (136 + 41) (6 * qq0 T0 c + qq1 T0 T1 c) (nI (tlN T0 T1 c (6 * qq0 T0 c + qq1 T0 T1 c) + 1)) = M4 at F4 w41 wo ⊢
  have K4 := F4.K K
  have B4 : ∀ i, i < T0.na → rI M4 143 (8 * 0 + i) = nI (gOf T0 (Dq T0 c) i) := fun i hi => by rw [wo _ (by omega)]; exact B0 i hi
  have d4 : BM M4 0 T0 (Dq T0 c) := fun i hi => by rw [wo _ (by omega), b0 _ (by omega)]; exact s.d i hi
  have o4 : ∀ j, j ≠ 53 → j ≠ 54 → rI M4 136 j = rI M 136 j := fun j h1 h2 => by rw [wo _ (by omega), f1.i _ (by omega)]; exact s.o j h1 h2
  have fin : ∀ M5, FP PQm M M5 → rI M5 143 = rI M4 143 → rI M5 177 = rI M4 177 → (∀ j, j ≠ 53 → j ≠ 54 → rI M5 136 j = rI M 136 j) → (∀ x, dfN T0 T1 (c + 1) = some x → rI M5 136 53 = nI T0.na ∧ ∀ j, j < T0.na → rI M5 178 j = nI (gOf T0 (Dq T0 x) j)) → w_Mo_same_J195 post K90 136 (bI (dfN T0 T1 (c + 1)).isNone) M5 := by
    intro M5 F5 h37 h71 ho hw
    unfold w_Mo_same_J195
    have d5 : BM M5 0 T0 (Dq T0 c) := fun i hi => by rw [h37]; exact d4 i hi
    refine m_nextRequest (x := 0) (D := Dq T0 c) (F5.bg R0 (fun i hi => BM_g d5 hi)) (F5.K K) (by omega) A0 hD d5 (fun M6 f6 _ b6 => ?_)
    refine q M6 ⟨F5.tr (FP.ofQ f6 (by unfold PQm; omega)), fun j h1 h2 => ?_, b6, fun j hj => ?_, fun x hx => ?_⟩
    · rw [f6.i _ (by omega)]; exact ho j h1 h2
    · rw [f6.i _ (by omega), h71]; exact w41 j hj
    · rw [f6.i _ (by omega), f6.i _ (by omega)]; exact hw x hx
  refine ⟨vin (n := 0) (by omega), vin (n := 100) (by omega), vin (by omega), vin (by omega), ?_⟩
  cases hdf : dfN T0 T1 c with
  | some x =>
    have ed : dfN T0 T1 (c + 1) = some x := by rw [dfN, hdf]
    have sw := s.ws x hdf
    rw [ed] at fin
    refine br_t rfl (fin M4 F4 rfl rfl o4 (fun y hy => ?_))
    cases hy
    rw [wo _ (by omega), wo _ (by omega), f1.i _ (by omega), f1.i _ (by omega)]; exact sw
  | none =>
    refine br_f (by decide) ⟨vin (n := 0) (by omega), vin (n := 100) (by omega), pk_eq (qq0 T0 c) (qq1 T0 T1 c) (fun z => ?_) (fun z => ?_)⟩
    · have ed : dfN T0 T1 (c + 1) = none := by rw [dfN, hdf]; show (if _ then _ else _) = _; rw [if_pos z]
      rw [ed] at fin
      exact fin M4 F4 rfl rfl o4 (fun y hy => by cases hy)
    · have ed : dfN T0 T1 (c + 1) = some c := by rw [dfN, hdf]; show (if _ then _ else _) = _; rw [if_neg z]
      rw [ed] at fin
      have e3 : rI M4 139 0 = nI T0.na := by rw [F4.i _ (by unfold PQm; omega)]; exact (rd1 (c := 3) (j := 0) (by omega) rfl rfl).symm.trans R0.na
      refine m_isWitness (x := 0) K4 (by omega) e3 (fun M5 f5 o5 h54 h53 v5 => ?_)
      refine fin M5 (F4.tr ⟨f5.n, f5.k, f5.r, fun k hk => f5.i k (by unfold PQm at hk; omega)⟩) (f5.i _ (by omega)) (f5.i _ (by omega)) (fun j h1 h2 => by rw [o5 j h1 h2]; exact o4 j h1 h2) (fun y hy => ?_)
      cases hy
      exact ⟨h53, fun j hj => by rw [v5 j (by omega)]; exact B4 j hj⟩
theorem m_cmp {post : Int32 → aM → Prop} (R0 : RepM (mR M 0) T0 g0) (R1 : RepM (mR M 1) T1 g1) (A0 : AI T0) (A1 : AI T1) (N0 : NI T0) (N1 : NI T1) (W0 : WI T0 T0.nn) (W1 : WI T1 T1.nn) (I0 : ∃ rs, RI T0 rs) (I1 : ∃ rs, RI T1 rs) (P0 : 0 < T0.nn) (P1 : 0 < T1.nn) (K : KOk (rK M)) (hpair : pairB T0 T1 = true) (hfe : ∀ i, i < T0.na → rI M 182 i = nI ((fel T0 T1 i).getD 0)) (Q : Nat) (hQ : Q = Qd T0 T0.na) (hQ2 : Q ≤ 4096) (q : ∀ M', SVM M M' T0 T1 Q → w_Mo_restore (fun M1 => (((1 : Int32)) = 0 ∨ ((1 : Int32)) = 1) ∧ (((¬ bI (dfN T0 T1 Q).isNone = ((0 : Int32))) → w_Mo_same_J223 post (bI (dfN T0 T1 Q).isNone) 136 ((0 : Int32)) (wI M1 136 51 ((1 : Int32)))) ∧ (¬ (¬ bI (dfN T0 T1 Q).isNone = ((0 : Int32))) → w_Mo_same_J223 post (bI (dfN T0 T1 Q).isNone) 136 ((1 : Int32)) (wI M1 136 51 ((1 : Int32)))))) 136 M') : ∀ d c M', c + d = Q → SVM M M' T0 T1 c → w_Mo_same_L90 post (d + 1) 136 (bI (dfN T0 T1 c).isNone) (bI (decide (c < Q))) M' := by
  have l0 := R0.lna
  have l1 := R1.lna
  have hna : T0.na = T1.na := by unfold pairB at hpair; rw [Bool.and_eq_true, beq_iff_eq] at hpair; exact hpair.1
  intro d
  induction d with
  | zero =>
    intro c M' hc s
    have : c = Q := by omega
    subst this
    unfold w_Mo_same_L90
    exact br_t (by rw [decide_eq_false (by omega)]; rfl) (q M' s)
  | succ d ih =>
    intro c M' hc s
    unfold w_Mo_same_L90
    refine br_f (by rw [decide_eq_true (by omega)]; decide) ⟨T0.na + 1, ?_⟩
    have hfel : ∀ a, a < T0.na → (fel T0 T1 a).getD 0 < T1.na := fun a ha => by
      obtain ⟨j, ej, hj, _⟩ := pair_fel A0 A1 hpair ha
      rw [ej]; exact hj
    have key : ∀ d2 a M1, a + d2 = T0.na → FQ 143 M' M1 → (∀ j, j < 8 → rI M1 143 j = rI M' 143 j) → (∀ x, x < a → rI M1 143 (8 + (fel T0 T1 x).getD 0) = rI M' 143 x) → w_Mo_same_L96 post (w_Mo_same_L90 post (d + 1)) (d2 + 1) 136 (bI (dfN T0 T1 c).isNone) (nI a) M1 := by
      intro d2
      induction d2 with
      | zero =>
        intro a M1 ha f1 h0 h1
        have ha2 : a = T0.na := by omega
        subst ha2
        have F1 : FP PQm M M1 := s.f.tr (FP.ofQ f1 (by unfold PQm; omega))
        have K1 := F1.K K
        unfold w_Mo_same_L96
        refine ⟨by rw [show (rK M1 (136 + 3)).2 = 3 from mK K1 138 3]; exact vin (n := 0) (by omega), br_t ?_ (m_cmp1 R0 R1 A0 N0 N1 W0 W1 I0 I1 P0 P1 K (by omega) s f1 h0 (fun j hj => ?_) (fun M2 s2 => ?_))⟩
        · rw [show ((0 : Int32)).toNatClampNeg = 0 from by decide, F1.i _ (by unfold PQm; omega), show rI M (136 + 3) 0 = nI T0.na from (rd1 (c := 3) (j := 0) (by omega) rfl rfl).symm.trans R0.na]; exact Int32.le_refl _
        · obtain ⟨i, ei, hi, si⟩ := pair_par hpair hj
          have ef := (pair_inv A0 A1 hpair hi hj).mp ei
          have := h1 i hi
          rw [ef] at this
          rw [show 8 * 1 + j = 8 + (some j).getD 0 from rfl, this]
          have e8 := BM_g s.d hi
          rw [show 8 * 0 + i = i by omega] at e8
          rw [e8]
          unfold ar
          rw [ei]; rfl
        · have := ih (c + 1) M2 (by omega) s2
          rw [Dq_more A0 (by omega), ← hQ]
          exact this
      | succ d2 ih2 =>
        intro a M1 ha f1 h0 h1
        have F1 : FP PQm M M1 := s.f.tr (FP.ofQ f1 (by unfold PQm; omega))
        have K1 := F1.K K
        have lf := hfel a (by omega)
        have e46 : rI M1 (136 + 46) a = nI ((fel T0 T1 a).getD 0) := by rw [F1.i _ (by unfold PQm; omega)]; exact hfe a (by omega)
        unfold w_Mo_same_L96
        rw [show ((0 : Int32)).toNatClampNeg = 0 from by decide, show rI M1 (136 + 3) 0 = nI T0.na by rw [F1.i _ (by unfold PQm; omega)]; exact (rd1 (c := 3) (j := 0) (by omega) rfl rfl).symm.trans R0.na, show (rK M1 (136 + 3)).2 = 3 from mK K1 138 3]
        refine ⟨vin (n := 0) (by omega), pk_le T0.na a (fun z => by omega) (fun _ => ?_)⟩
        rw [nI_clamp (n := a) (by omega), e46, show (8 : Int32) + nI ((fel T0 T1 a).getD 0) = nI (8 + (fel T0 T1 a).getD 0) from nI_add 8 _, nI_clamp (by omega), show (rK M1 (136 + 46)).2 = 8 from mK K1 181 8, show (rK M1 (136 + 7)).2 = 24 from mK K1 142 24, nI_1]
        refine ⟨vin (by omega), vin (by omega), vin (by omega), ih2 (a + 1) _ (by omega) f1.w (fun j hj => ?_) (fun x hx => ?_)⟩
        · show rI (wI M1 143 _ _) 143 j = _
          rw [rw_sn (by omega)]; exact h0 j hj
        · show rI (wI M1 143 (8 + (fel T0 T1 a).getD 0) (rI M1 143 a)) 143 (8 + (fel T0 T1 x).getD 0) = _
          by_cases z : x = a
          · rw [z, rw_ss]; exact h0 a (by omega)
          · rw [rw_sn ?_]
            · exact h1 x (by omega)
            · intro c2
              obtain ⟨jx, ejx, _, sx1⟩ := pair_fel A0 A1 hpair (i := x) (by omega)
              obtain ⟨ja, eja, _, sa1⟩ := pair_fel A0 A1 hpair (i := a) (by omega)
              rw [ejx, eja] at c2
              have : jx = ja := by have : 8 + jx = 8 + ja := c2; omega
              subst this
              exact z (sm_l A0 (by omega) (by omega) sx1 sa1)
    exact key T0.na 0 M' (by omega) FQ.refl (fun _ _ => rfl) (fun x hx => absurd hx (Nat.not_lt_zero _))
end MC
