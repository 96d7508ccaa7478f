/-! REACH, in the model. -/
def SRM (M0 M : aM) (T : Txt) (x c : Nat) : Prop := (FP PQm M0 M) ∧ (rI M 136 = rI M0 136) ∧ (rI M 177 = rI M0 177) ∧ (BM M x T (Dq T c))
theorem SRM.f {M0 M : aM} {T : Txt} {x c : Nat} (h : SRM M0 M T x c) : FP PQm M0 M := h.1
theorem SRM.o {M0 M : aM} {T : Txt} {x c : Nat} (h : SRM M0 M T x c) : rI M 136 = rI M0 136 := h.2.1
theorem SRM.t {M0 M : aM} {T : Txt} {x c : Nat} (h : SRM M0 M T x c) : rI M 177 = rI M0 177 := h.2.2.1
theorem SRM.d {M0 M : aM} {T : Txt} {x c : Nat} (h : SRM M0 M T x c) : BM M x T (Dq T c) := h.2.2.2
section MR
variable {T : Txt} {M : aM} {x : Nat} {g0 : Nat → Nat}
theorem m_srch {post : Int32 → aM → Prop} {i w : Nat} (R : RepM (mR M x) T g0) (A : AI T) (N : NI T) (W : WI T T.nn) (I : ∃ rs, RI T rs) (K : KOk (rK M)) (hx : x ≤ 1) (hi : i < T.nn) (hw : w ≤ 5) (Q : Nat) (hQ : Q = Qd T T.na) (hQ2 : Q ≤ 4096) (q0 : rcN T i w Q = none → ∀ M', SRM M M' T x Q → w_Mo_reach_J121 post 136 0 M') (q1 : ∀ c, rcN T i w Q = some c → ∀ M', FP PQm M M' → (∀ j, j ≠ 53 → j ≠ 54 → rI M' 136 j = rI M 136 j) → rI M' 177 = rI M 177 → rI M' 136 53 = nI T.na → (∀ j, j < T.na → rI M' 178 j = nI (gOf T (Dq T c) j)) → w_Mo_reach_J121 post 136 1 M') : ∀ d c M', c + d = Q → rcN T i w c = none → SRM M M' T x c → w_Mo_reach_L61 post (d + 2) 136 (nI x) (nI i) (nI w) 0 (bI (decide (c < Q))) M' := by
  have l0 := R.lna
  have lnn := R.lnn
  intro d
  induction d with
  | zero =>
    intro c M' hc hr s
    have : c = Q := by omega
    subst this
    unfold w_Mo_reach_L61
    exact br_t (by rw [decide_eq_false (by omega)]; rfl) (q0 hr M' s)
  | succ d ih =>
    intro c M' hc hr s
    have hD := Dq_lt A c
    have K1 := s.f.K K
    unfold w_Mo_reach_L61
    refine br_f (by rw [decide_eq_true (by omega)]; decide) (nb_t rfl ?_)
    refine m_judge (t := x) (g := gOf T (Dq T c)) (s.f.bg R (fun i hi => BM_g s.d hi)) K1 hx (fun i => gOf_lt A hD i) N W I (fun M1 j1 v1 => ?_)
    have F1 : FP PQm M M1 := s.f.tr ⟨j1.n, j1.k, j1.r, fun k hk => j1.i k (by unfold PQm at hk; omega) (by unfold PQm at hk; omega) (by unfold PQm at hk; omega) (by unfold PQm at hk; omega)⟩
    have K2 := F1.K K
    have eo : ∀ k, k = 136 ∨ k = 143 ∨ k = 177 → rI M1 k = rI M' k := fun k hk => j1.i _ (by omega) (by omega) (by omega) (by omega)
    have d1 : BM M1 x T (Dq T c) := fun i hi => by rw [eo _ (by omega)]; exact s.d i hi
    have lq := dec_le (g := gOf T (Dq T c)) N hi
    rw [m100, nI_clamp (by omega), show rI M1 (136 + 29) (100 * x + i) = _ from (v1 i (Nat.zero_le _) hi).1]
    refine ⟨by rw [show (rK M1 (136 + 29)).2 = 300 from mK K2 164 300]; exact vin (by omega), pk_ne _ w (fun z => ?_) (fun z => ?_)⟩
    · unfold w_Mo_reach_J96
      refine br_t rfl (m_nextRequest (D := Dq T c) (F1.bg R (fun i hi => BM_g d1 hi)) K2 hx A hD d1 (fun M2 f2 _ b2 => ?_))
      rw [Dq_more A (by omega), ← hQ]
      refine ih (c + 1) M2 (by omega) (rcN_n hr z) ⟨F1.tr (FP.ofQ f2 (by unfold PQm; omega)), ?_, ?_, b2⟩
      · rw [f2.i _ (by omega), eo _ (by omega)]; exact s.o
      · rw [f2.i _ (by omega), eo _ (by omega)]; exact s.t
    · unfold w_Mo_reach_J96
      have es : rcN T i w Q = some c := by rw [show Q = c + 1 + d by omega]; exact rcN_s hr z d
      have e3 : rI M1 139 x = nI T.na := by rw [F1.i _ (by unfold PQm; omega)]; exact (rd1 (c := 3) (j := 0) (by omega) rfl rfl).symm.trans R.na
      refine br_f (by decide) (m_isWitness K2 hx e3 (fun M2 f2 o2 h54 h53 v2 => ?_))
      have fin := q1 c es M2 (F1.tr ⟨f2.n, f2.k, f2.r, fun k hk => f2.i k (by unfold PQm at hk; omega)⟩) (fun j h1 h2 => by rw [o2 j h1 h2, eo _ (by omega), s.o]) (by rw [f2.i _ (by omega), eo _ (by omega)]; exact s.t) h53 (fun j hj => by rw [v2 j (by omega)]; exact BM_g d1 hj)
      unfold w_Mo_reach_L61
      exact br_f (by rw [decide_eq_true (by omega)]; decide) (nb_f (by decide) fin)
end MR
section MRQ
variable {S : Sx} {M : aM} {post : Int32 → aM → Prop} {v1 v2 v3 : Int32}
theorem m_reachQ (so : SO S) (h : MI S M) (q : MA S M post ((a_reach S v1 v2 v3).map some)) : w_Mo_reach post 136 v1 v2 v3 M := by
  unfold w_Mo_reach
  have no : ∀ (_ : MA S M post none), w_Mo_reach_J23 post 136 v1 v2 v3 136 M := fun q => by
    unfold w_Mo_reach_J23 w_Mo_reach_J24
    exact m_goes0 (nb_t rfl (ma0 h q))
  refine m_isNode h (fun z => br_t rfl (no ?_)) (fun i z y => br_t rfl (no ?_)) (fun i j z hi e hp y hj e2 => br_f (by decide) ?_)
  · simp only [a_reach, z, Option.bind_none, Option.map_none] at q; exact q
  · simp only [a_reach, z, y, Option.bind_some, Option.bind_none, Option.map_none] at q; exact q
  refine m_idx 6 (by omega) (fun u => br_t rfl (no ?_)) (fun w u hw e3 => br_f (by decide) ?_)
  · simp only [a_reach, z, y, u, Option.bind_some, Option.map_none] at q; exact q
  simp only [a_reach, z, y, u, Option.bind_some, Option.map_some] at q
  unfold w_Mo_reach_J24
  refine m_goes1 (nb_f (by decide) ?_)
  have h1 := h.t (x := 0)
  have t1 : rI (wI M 136 0 0) 136 0 = 0 := rw_ss
  have d1 : FD M (wI M 136 0 0) := FD.refl.w (by omega)
  generalize wI M 136 0 0 = M1 at h1 t1 d1 ⊢
  subst e e2 e3
  have K1 := h1.tp.K
  have R := (h1.x i hi).R hp
  have ok := (so.x i hp).ok
  have lq := rq_le ok.A (S.x i).T.na (Nat.le_refl _)
  refine m_requests R K1 hi ok.A (pk_le (rq (S.x i).T (S.x i).T.na) 4096 (fun z => ?_) (fun z => ?_))
  · rw [if_neg (by omega)] at q
    have hQ := rq_Q (T := (S.x i).T) (by omega)
    refine m_keepB K1 (fun M4 f4 a4 b4 => ?_)
    have K4 := f4.K K1
    have Rd : RepM (mR M4 i) (S.x i).T (S.x i).g := f4.mR R (fun c _ _ => by omega)
    refine m_emptyBags K4 hi (fun M5 f5 o5 z5 => ⟨rq (S.x i).T (S.x i).T.na + 2, ?_⟩)
    have lna := R.lna
    have fin : ∀ (M6 : aM) (y : Int32) (wn : Nat) (wv : Nat → Nat), FP PQm M4 M6 → (∀ j, j ≠ 53 → j ≠ 54 → rI M6 136 j = rI M4 136 j) → rI M6 177 = rI M4 177 → ((y = 0 ∧ wn = 0) ∨ (y = 1 ∧ rI M6 136 53 = nI wn)) → (∀ j, j < wn → rI M6 178 j = nI (wv j)) → (∀ M', MI (S.sv S.cm S.tl wn wv) M' → rI M' 136 0 = 0 → FD M M' → post y M') → w_Mo_reach_J121 post 136 y M6 := by
      intro M6 y wn wv F6 o6 t6 hwn hwv q
      unfold w_Mo_reach_J121
      have hy : y = 0 ∨ y = 1 := by rcases hwn with c | c; exact Or.inl c.1; exact Or.inr c.1
      refine ⟨hy, m_restore (M := wI M6 136 54 y) (F6.K K4) (fun M7 f7 a7 b7 => ?_)⟩
      have K7 : KOk (rK M7) := f7.K (F6.K K4)
      have ch : ∀ k, k ≠ 136 → k ≠ 143 → k ≠ 165 → k ≠ 166 → k ≠ 172 → k ≠ 173 → k ≠ 177 → k ≠ 178 → k ≠ 179 → k ≠ 180 → k ≠ 181 → rI M7 k = rI M1 k := fun k g1 g2 g3 g4 g5 g6 g7 g8 g9 g10 g11 => by
        rw [f7.i _ ⟨g2, g3, g4⟩, rw_n g1, F6.i _ ⟨g1, g2, g3, g4, g5, g6, g7, g8⟩, f4.i _ ⟨g9, g10, g11⟩]
      have c30 : ∀ j, j ≠ 53 → j ≠ 54 → rI M7 136 j = rI M1 136 j := fun j g1 g2 => by
        rw [f7.i _ (by omega), rw_sn g2, o6 j g1 g2, f4.i _ (by omega)]
      have fin2 : post y M7 := by
        refine q M7 (h1.sv so K7 (fun k hk => ?_) (fun j hj => ?_) (fun j hj => ?_) (fun j g0 g1 g2 g3 => c30 j g2 g3) ?_ (fun j hj => ?_) ?_ (fun j hj => ?_)) ?_ ?_
        · exact ch k (by omega) (by omega) (by omega) (by omega) (by omega) (by omega) (by omega) (by omega) (by omega) (by omega) (by omega)
        · rw [a7 j hj, rw_n (by omega), F6.i _ (by unfold PQm; omega), a4 j hj]
        · rw [(b7 j hj).1, (b7 j hj).2, rw_n (by omega), rw_n (by omega), F6.i _ (by unfold PQm; omega), F6.i _ (by unfold PQm; omega), (b4 j hj).1, (b4 j hj).2]
          exact ⟨rfl, rfl⟩
        · rw [c30 _ (by omega) (by omega)]; exact h1.cm
        · rw [f7.i _ (by omega), rw_n (by omega), t6, f4.i _ (by omega)]; exact h1.tl j hj
        · rw [f7.i _ (by omega), rw_ss, rw_sn (by omega)]; exact hwn
        · rw [f7.i _ (by omega), rw_n (by omega)]; exact hwv j hj
        · rw [c30 _ (by omega) (by omega)]; exact t1
        · exact d1.tr ((((fdP f4 (fun k hk => by omega)).tr (fdP F6 (fun k hk => by unfold PQm; omega))).w (by omega)).tr (fdP f7 (fun k hk => by omega)))
      rcases hy with rfl | rfl
      · exact br_t rfl fin2
      · exact br_f (by decide) fin2
    have main := m_srch (post := post) (i := j) (w := w) Rd ok.A ok.N ok.W ok.R K4 hi hj (by omega) (rq (S.x i).T (S.x i).T.na) hQ z (fun hr M6 s => ?_) (fun c hr M6 F6 o6 t6 h53 hv => ?_) (rq (S.x i).T (S.x i).T.na) 0 M5 (by omega) rfl ⟨FP.ofQ f5 (by unfold PQm; omega), f5.i _ (by omega), f5.i _ (by omega), fun a ha => ?_⟩
    · rw [decide_eq_true (by omega)] at main; exact main
    · rw [hr] at q
      exact fin M6 0 0 _ s.f (fun j _ _ => by rw [s.o]) s.t (Or.inl ⟨rfl, rfl⟩) (fun j hj => absurd hj (Nat.not_lt_zero _)) q
    · rw [hr] at q
      exact fin M6 1 (S.x i).T.na _ F6 o6 t6 (Or.inr ⟨rfl, h53⟩) hv q
    · rw [z5 a (by omega)]
      show (0 : Int32) = nI (bgd _ a 0)
      rw [bgd_0]; rfl
  · rw [if_pos z] at q
    exact q M1 h1 t1 d1
end MRQ
