/-! SAME AND REACH, the class's calls. -/
section CR
variable {T : Txt} {M : aM} {t : Nat} {g0 : Nat → Nat}
def SRC (M0 M : aM) (T : Txt) (c : Nat) : Prop := (FP (fun k => k < 120 ∨ k = 121 ∨ 129 ≤ k) M0 M) ∧ (∀ j, j ≠ 2 → rI M 120 j = rI M0 120 j) ∧ (BR M 128 T (Dq T c)) ∧ (rI M 120 2 = 0)
theorem SRC.f {M0 M : aM} {T : Txt} {c : Nat} (h : SRC M0 M T c) : FP (fun k => k < 120 ∨ k = 121 ∨ 129 ≤ k) M0 M := h.1
theorem SRC.o {M0 M : aM} {T : Txt} {c : Nat} (h : SRC M0 M T c) : ∀ j, j ≠ 2 → rI M 120 j = rI M0 120 j := h.2.1
theorem SRC.d {M0 M : aM} {T : Txt} {c : Nat} (h : SRC M0 M T c) : BR M 128 T (Dq T c) := h.2.2.1
theorem SRC.wn {M0 M : aM} {T : Txt} {c : Nat} (h : SRC M0 M T c) : rI M 120 2 = 0 := h.2.2.2
theorem c_srch {post : Int32 → aM → Prop} {i w : Nat} (R : RepC (cR M t) T g0) (A : AI T) (N : NI T) (W : WI T T.nn) (I : ∃ rs, RI T rs) (K : KOk (rK M)) (ht : tOk t) (hi : i < T.nn) (hw : w ≤ 5) (Q : Nat) (hQ2 : Q ≤ 4096) (q0 : rcN T i w Q = none → ∀ M', SRC M M' T Q → post 0 M') (q1 : ∀ c, c < Q → rcN T i w Q = some c → ∀ M', FP (fun k => k < 120 ∨ k = 121 ∨ 129 ≤ k) M M' → (∀ j, j ≠ 2 → rI M' 120 j = rI M 120 j) → rI M' 120 2 = nI T.na → (∀ j, j < T.na → rI M' 122 j = nI (gOf T (Dq T c) j)) → post 1 M') : ∀ d c M', c + d = Q → rcN T i w c = none → SRC M M' T c → w_Sv_search_L25 post (d + 1) 120 t (nI i) (nI w) (nI Q) (nI c) M' := by
  have hh := ht
  unfold tOk at hh
  have l0 := R.lna
  have lnn := R.lnn
  intro d
  induction d with
  | zero =>
    intro c M' hc hr s
    have : c = Q := by omega
    subst this
    unfold w_Sv_search_L25
    exact br_t (Int32.le_refl _) ⟨Or.inl rfl, q0 hr M' s⟩
  | succ d ih =>
    intro c M' hc hr s
    have hD := Dq_lt A c
    have K1 := s.f.K K
    have R' := s.f.cR R (fun c hc => by omega)
    unfold w_Sv_search_L25
    refine pk_le Q c (fun z => by omega) (fun _ => ?_)
    refine c_judge (v := 123) (k2 := 128) (lo := i) R' K1 ht (VO_s K1 ht) N W I (BR_g A (mK K1 127 8) s.d hD) (Or.inr (by omega)) (by omega) (fun M1 f1 v1 => ?_)
    have F1 : FP (fun k => k < 124 ∨ 127 ≤ k) M' M1 := FP.ofV f1 (by omega) (by omega) (by omega)
    have K2 := F1.K K1
    have e1 : rI M1 125 i = nI (dec T (gOf T (Dq T c)) i) := (v1 i (Nat.le_refl _) hi).2.1
    have lq := dec_le (g := gOf T (Dq T c)) N hi
    have FA : FP (fun k => k < 120 ∨ k = 121 ∨ 129 ≤ k) M M1 := ⟨F1.n.trans s.f.n, F1.k.trans s.f.k, F1.r.trans s.f.r, fun k hk => by rw [F1.i _ (by omega), s.f.i _ hk]⟩
    have RA := FA.cR R (fun c hc => by omega)
    rw [nI_clamp (by omega), show rI M1 (120 + 3 + 2) i = _ from e1]
    refine ⟨by rw [show (rK M1 (120 + 3 + 2)).2 = 100 from mK K2 124 100]; exact vin (by omega), pk_ne _ w (fun z => ?_) (fun z => ?_)⟩
    · refine c_stepS RA K2 ht A hD (fun i hi => by rw [F1.i _ (by omega)]; exact s.d i hi) (fun M6 f6 b6 => ?_)
      rw [nI_1]
      refine ih (c + 1) M6 (by omega) (rcN_n hr z) ⟨FA.tr (FP.ofQ f6 (by omega)), fun j hj => ?_, b6, ?_⟩
      · rw [f6.i _ (by omega), F1.i _ (by omega)]; exact s.o j hj
      · rw [f6.i _ (by omega), F1.i _ (by omega)]; exact s.wn
    · rw [show rI M1 (t + 1) 0 = _ from RA.na]
      have es : rcN T i w Q = some c := by rw [show Q = c + 1 + d by omega]; exact rcN_s hr z d
      refine c_keepW K2 (fun M5 n5 k5 r5 i5 j5 w5 v5 => ⟨Or.inr rfl, q1 c (by omega) es M5 ⟨n5.trans FA.n, k5.trans FA.k, r5.trans FA.r, fun k hk => by rw [i5 _ (by omega) (by omega)]; exact FA.i k hk⟩ (fun j hj => ?_) w5 (fun j hj => ?_)⟩)
      · rw [j5 _ hj, F1.i _ (by omega)]; exact s.o j hj
      · rw [v5 j (by omega), F1.i _ (by omega), s.d j hj]
        unfold gOf
        rw [if_pos hj]
end CR
section CQ
variable {S : Sx} {M : aM} {post : Int32 → aM → Prop} {ex : Nat → Prop} {v1 v2 v3 : Int32} {e2 : Nat}
theorem rq_Q {T : Txt} (h : ¬ 4096 < rq T T.na) : rq T T.na = Qd T T.na := rq_Qd _ (by omega)
theorem c_reachQ (so : SO S) (h : CI S M) (q : CA M post ex 0 e2 ((a_reach S v1 v2 v3).map some)) : w_J_reach post ex 1 v1 v2 v3 M := by
  unfold w_J_reach
  refine c_pres h (fun z => ?_) (fun i z hi e hp => ?_)
  · simp only [a_reach, z, Option.bind_none, Option.map_none] at q; exact q
  have R := (h.x i hi).R hp
  have ht := h.t hi
  have lnn := R.lnn
  have ok := (so.x i hp).ok
  refine c_idx (S.x i).T.nn (by omega) (fun y => ?_) (fun j y hj e2 => ?_) R.nn
  · simp only [a_reach, z, y, Option.bind_some, Option.bind_none, Option.map_none] at q; exact q
  refine c_idx 6 (by omega) (fun u => ?_) (fun w u hw e3 => ?_)
  · simp only [a_reach, z, y, u, Option.bind_some, Option.map_none] at q; exact q
  simp only [a_reach, z, y, u, Option.bind_some, Option.map_some] at q
  subst e2 e3
  have hh := ht
  unfold tOk at hh
  have K := h.tp.K
  generalize rR M 47 i = t at R ht hh ⊢
  have lq := (rq_le ok.A (S.x i).T.na (Nat.le_refl _)).1
  refine c_requests R K ht ok.A (pk_le (rq (S.x i).T (S.x i).T.na) 4096 (fun z => ?_) (fun z => ?_))
  · rw [if_neg (by omega)] at q
    unfold w_Sv_search
    refine a_fill (w := 128) (n := 8) (mK K 127 8) (by omega) (fun M1 f1 h1 => ?_)
    have FW : FP (fun k => k < 120 ∨ k = 121 ∨ 129 ≤ k) M (wI M1 120 2 0) := (FP.ofQ f1 (by omega)).w (by omega)
    have K1 := FW.K K
    have e17 : ∀ j, j ≠ 2 → rI (wI M1 120 2 0) 120 j = rI M 120 j := fun j hj => by rw [rw_sn hj, f1.i _ (by omega)]
    have e0 : rI (wI M1 120 2 0) 120 2 = 0 := rw_ss
    have e25 : ∀ j, j < 8 → rI (wI M1 120 2 0) 128 j = 0 := fun j hj => by rw [rw_n (by omega)]; exact h1 j hj
    have R1 := FW.cR R (fun c hc => by omega)
    generalize wI M1 120 2 0 = M2 at FW K1 e17 e0 e25 R1 ⊢
    have lna := R.lna
    have Fin : ∀ M', FP (fun k => k < 120 ∨ k = 121 ∨ 129 ≤ k) M M' → FB M M' := fun M' F => ⟨F.n, F.k, congrArg Prod.snd F.r, fun k hk => F.i k (by omega), fun k _ => congrFun F.rr k⟩
    refine c_requests R1 K1 ht ok.A ⟨rq (S.x i).T (S.x i).T.na + 1, ?_⟩
    refine c_srch R1 ok.A ok.N ok.W ok.R K1 ht hj (by omega) (rq (S.x i).T (S.x i).T.na) z (fun hr M' s => ?_) (fun c hc hr M' F o wn wv => ?_) _ 0 M2 (by omega) rfl ⟨FP.refl, fun _ _ => rfl, fun i hi => ?_, e0⟩
    · rw [hr] at q
      refine br_t rfl (q M' (h.sv (s.f.K K1) (fun k g1 g2 => ?_) (fun k _ => ?_) ?_ (fun j hj => ?_) s.wn (fun j hj => absurd hj (Nat.not_lt_zero _))) (Fin M' (FW.tr s.f)))
      · rw [s.f.i _ (by omega), FW.i _ (by omega)]
      · rw [s.f.rr, FW.rr]
      · rw [s.o _ (by omega), e17 _ (by omega)]; exact h.cm
      · rw [s.f.i _ (by omega), FW.i _ (by omega)]; exact h.tl j hj
    · rw [hr] at q
      refine br_f (by decide) (q M' (h.sv (F.K K1) (fun k g1 g2 => ?_) (fun k _ => ?_) ?_ (fun j hj => ?_) wn wv) (Fin M' (FW.tr F)))
      · rw [F.i _ (by omega), FW.i _ (by omega)]
      · rw [F.rr, FW.rr]
      · rw [o _ (by omega), e17 _ (by omega)]; exact h.cm
      · rw [F.i _ (by omega), FW.i _ (by omega)]; exact h.tl j hj
    · rw [e25 i (by omega)]
      show (0 : Int32) = nI (bgd _ i 0)
      rw [bgd_0]; rfl
  · rw [if_pos z] at q
    exact q M h FB.refl
theorem c_sameQ (so : SO S) (h : CI S M) (q : CA M post ex 2 e2 ((a_same S).map some)) : w_J_same post ex 1 M := by
  unfold w_J_same
  have K := h.tp.K
  rw [show ((0 : Int32)).toNatClampNeg = 0 from by decide, show ((1 : Int32)).toNatClampNeg = 1 from by decide, show (rK M (1 + 46)).2 = 2 from mK K 46 2]
  refine ⟨vin (n := 0) (by omega), pk_b0 (S.x 0).p (fun hp => ?_) (fun hp => ⟨vin (n := 1) (by omega), pk_nb0 (S.x 1).p (fun hp1 => ⟨vin (n := 0) (by omega), vin (n := 1) (by omega), ?_⟩) (fun hp1 => ?_) (h.x 1 (by omega)).p rfl⟩) (h.x 0 (by omega)).p rfl⟩
  · simp only [a_same, hp] at q; exact q
  · have R0 := (h.x 0 (by omega)).R hp
    have R1 := (h.x 1 (by omega)).R hp1
    have ok0 := (so.x 0 hp).ok
    have ok1 := (so.x 1 hp1).ok
    have ht0 := h.t (i := 0) (by omega)
    have ht1 := h.t (i := 1) (by omega)
    simp only [a_same, hp, hp1, Bool.and_self, if_true, Option.map_some] at q
    have hh0 := ht0
    have hh1 := ht1
    unfold tOk at hh0 hh1
    have er : rR M (1 + 46) = rR M 47 := rfl
    rw [er]
    refine c_pair R0 R1 ok0.A ok1.A K ht0 ht1 (fun M1 f1 p1 => ?_)
    have K1 := f1.K K
    have er1 : rR M1 (1 + 46) = rR M 47 := congrFun (congrArg Prod.fst f1.r) 47
    rw [er1, show (rK M1 (1 + 46)).2 = 2 from mK K1 46 2]
    have h1 : CI S M1 := h.same K1 (fun k _ g => f1.i k g) (fun k _ => congrFun (congrArg Prod.fst f1.r) k)
    have B1 : FB M M1 := ⟨f1.n, f1.k, congrArg Prod.snd f1.r, fun k hk => f1.i k (by omega), fun k _ => congrFun (congrArg Prod.fst f1.r) k⟩
    refine pk_nb0 (pairB (S.x 0).T (S.x 1).T) (fun hpr => ⟨vin (n := 0) (by omega), ?_⟩) (fun hpr => ?_)
    · rw [if_pos hpr] at q
      have lq := (rq_le ok0.A (S.x 0).T.na (Nat.le_refl _)).1
      have R0' := f1.cR R0 (by omega)
      have R1' := f1.cR R1 (by omega)
      refine c_requests R0' K1 ht0 ok0.A (pk_le (rq (S.x 0).T (S.x 0).T.na) 4096 (fun z => ⟨vin (n := 0) (by omega), vin (n := 1) (by omega), ?_⟩) (fun z => ?_))
      · rw [if_neg (by omega)] at q
        have hQ := rq_Q (T := (S.x 0).T) (by omega)
        have p1 := p1 hpr
        unfold w_Sv_compare
        refine a_fill (w := 121) (n := 36) (mK K1 120 36) (by omega) (fun M2 f2 h2 => ?_)
        refine a_fill (w := 128) (n := 8) (mK (f2.K K1) 127 8) (by omega) (fun M3 f3 h3 => ⟨Or.inr rfl, ?_⟩)
        have FW : FP (fun k => k < 120 ∨ 130 ≤ k) M1 (wI (wI M3 120 0 1) 120 2 0) := ((((FP.ofQ f2 (by omega)).tr (FP.ofQ f3 (by omega))).w (by omega)).w (by omega))
        have K4 := FW.K K1
        have e0 : rI (wI (wI M3 120 0 1) 120 2 0) 120 0 = 1 := by rw [rw_sn (by omega)]; exact rw_ss
        have e2 : rI (wI (wI M3 120 0 1) 120 2 0) 120 2 = 0 := rw_ss
        have e18 : ∀ j, j < 36 → rI (wI (wI M3 120 0 1) 120 2 0) 121 j = 0 := fun j hj => by rw [rw_n (by omega), rw_n (by omega), f3.i _ (by omega)]; exact h2 j hj
        have e25 : ∀ j, j < 8 → rI (wI (wI M3 120 0 1) 120 2 0) 128 j = 0 := fun j hj => by rw [rw_n (by omega), rw_n (by omega)]; exact h3 j hj
        generalize wI (wI M3 120 0 1) 120 2 0 = M4 at FW K4 e0 e2 e18 e25 ⊢
        have R4 := FW.cR R0' (fun c hc => by omega)
        have lna := R0.lna
        refine c_requests R4 K4 ht0 ok0.A ⟨rq (S.x 0).T (S.x 0).T.na + 1, ?_⟩
        refine c_cmp R0' R1' ok0.A ok1.A ok0.N ok1.N ok0.W ok1.W ok0.R ok1.R ok0.p ok1.p K1 ht0 ht1 hpr p1 (rq (S.x 0).T (S.x 0).T.na) hQ z (fun M' s => ?_) _ 0 M4 (by omega) ⟨FW, e0, e18, fun i hi => ?_, e2, fun x hx => (by cases hx)⟩
        · have Q1 : post (bI (dfN (S.x 0).T (S.x 1).T (rq (S.x 0).T (S.x 0).T.na)).isNone) M' := q M' (h1.sv (s.f.K K1) (fun k g1 g2 => s.f.i k (by omega)) (fun k _ => by rw [s.f.rr]) s.cm s.tl s.wn (fun j hj => ?_)) ⟨s.f.n.trans B1.n, s.f.k.trans B1.k, (congrArg Prod.snd s.f.r).trans B1.j, fun k hk => (s.f.i k (by omega)).trans (B1.i k hk), fun k hk => (congrFun s.f.rr k).trans (B1.r k hk)⟩
          · exact pk_b0 (dfN (S.x 0).T (S.x 1).T (rq (S.x 0).T (S.x 0).T.na)).isNone (fun c => by rw [c] at Q1; exact Q1) (fun c => by rw [c] at Q1; exact Q1)
          · cases y : dfN (S.x 0).T (S.x 1).T (rq (S.x 0).T (S.x 0).T.na) with
            | none => rw [y] at hj; exact absurd hj (Nat.not_lt_zero _)
            | some x => rw [y] at hj; exact s.wv x y j hj
        · rw [e25 i (by omega)]
          show (0 : Int32) = nI (bgd (S.x 0).T i 0)
          rw [bgd_0]; rfl
      · rw [if_pos z] at q
        exact q M1 h1 B1
    · rw [if_neg (by rw [hpr]; decide)] at q
      exact q M1 h1 B1
  · simp only [a_same, hp, hp1] at q; exact q
end CQ
