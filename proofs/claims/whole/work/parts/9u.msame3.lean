/-! SAME AND REACH, the model's calls, joined. -/
theorem MI.sv {S : Sx} {M M' : aM} {cm : Bool} {tl : Nat → Nat} {wn : Nat} {wv : Nat → Nat} (so : SO S) (h : MI S M) (K : KOk (rK M')) (e : ∀ k, ((137 ≤ k ∧ k < 165 ∧ k ≠ 143) ∨ k = 174 ∨ k = 175 ∨ k = 183) → rI M' k = rI M k) (e7 : ∀ j, j < 16 → rI M' 143 j = rI M 143 j) (eD : ∀ j, j < 200 → rI M' 165 j = rI M 165 j ∧ rI M' 166 j = rI M 166 j) (e0 : ∀ j, j ≠ 0 → j ≠ 51 → j ≠ 53 → j ≠ 54 → rI M' 136 j = rI M 136 j) (h1 : rI M' 136 51 = bI cm) (h2 : ∀ j, j < 36 → rI M' 177 j = nI (tl j)) (h3 : (rI M' 136 54 = 0 ∧ wn = 0) ∨ (rI M' 136 54 = 1 ∧ rI M' 136 53 = nI wn)) (h4 : ∀ j, j < wn → rI M' 178 j = nI (wv j)) : MI (S.sv cm tl wn wv) M' := by
  refine ⟨⟨K, by rw [e0 _ (by omega) (by omega) (by omega) (by omega)]; exact h.tp.len, h.tp.ln, fun j hj => by rw [e _ (by omega)]; exact h.tp.b j hj, h.tp.lb⟩, fun k j hk => by rw [e _ (by omega)]; exact h.bq k j hk, by rw [e0 _ (by omega) (by omega) (by omega) (by omega)]; exact h.sz, by rw [e0 _ (by omega) (by omega) (by omega) (by omega)]; exact h.fk, fun i hi => ?_, h1, h2, h3, h4, by rw [e0 _ (by omega) (by omega) (by omega) (by omega)]; exact h.pn, fun j hj => by rw [e _ (by omega)]; exact h.pb j hj⟩
  refine (h.x i hi).frx (so.x i) (by rw [e _ (by omega)]) (by rw [e _ (by omega)]) (by rw [e _ (by omega)]) (fun k j hk hj => ?_) (fun c j g1 g2 g3 => ?_)
  · rcases hk with rfl | rfl | rfl
    · exact (eD _ (by omega)).1
    · exact (eD _ (by omega)).2
    · rw [e _ (by omega)]
  · rw [mRr (by omega), mRr (by omega)]
    by_cases z : c = 7
    · subst z
      rw [show szM 7 = 8 from rfl] at g3 ⊢
      exact e7 _ (by omega)
    · rw [e _ (by omega)]
theorem MI.own {S : Sx} {M M' : aM} (so : SO S) (h : MI S M) (f : FQ 182 M M') : MI S M' := h.sv (M' := M') so (f.K h.tp.K) (fun k hk => f.i k (by omega)) (fun j _ => by rw [f.i _ (by omega)]) (fun j _ => by rw [f.i _ (by omega), f.i _ (by omega)]; exact ⟨rfl, rfl⟩) (fun j _ _ _ _ => by rw [f.i _ (by omega)]) (by rw [f.i _ (by omega)]; exact h.cm) (fun j hj => by rw [f.i _ (by omega)]; exact h.tl j hj) (by rw [f.i _ (by omega)]; exact h.wn) (fun j hj => by rw [f.i _ (by omega)]; exact h.wv j hj)
theorem FP.mR {P : Nat → Prop} {x : Nat} {T : Txt} {g : Nat → Nat} {M M' : aM} (h : FP P M M') (R : RepM (mR M x) T g) (hw : ∀ c, 3 ≤ c → c < 28 → P (136 + c)) : RepM (mR M' x) T g := RepM_congr R (fun c h1 h2 => by
  funext j
  rw [mRr (by omega), mRr (by omega), h.i _ (hw c h1 h2)])
theorem fdP {P : Nat → Prop} {M M' : aM} (f : FP P M M') (h : ∀ k, k < 136 ∨ 187 ≤ k → P k) : FD M M' := ⟨f.n, f.k, f.r, fun k hk => f.i k (h k hk)⟩
theorem fdO {w : Nat} {M M' : aM} (f : FQ w M M') (hw : 136 ≤ w ∧ w < 187) : FD M M' := ⟨f.n, f.k, f.r, fun k hk => f.i k (by omega)⟩
section MQ
variable {S : Sx} {M : aM} {post : Int32 → aM → Prop} {v1 v2 v3 : Int32}
theorem m_sameQ (so : SO S) (h : MI S M) (q : MA S M post ((a_same S).map some)) : w_Mo_same post 136 M := by
  unfold w_Mo_same
  have no : ∀ (_ : MA S M post none), w_Mo_same_J23 post 136 136 M := fun q => by
    unfold w_Mo_same_J23 w_Mo_same_J24
    exact m_goes0 (nb_t rfl (ma0 h q))
  rw [show ((0 : Int32)).toNatClampNeg = 0 from by decide, show ((1 : Int32)).toNatClampNeg = 1 from by decide, show (rK M (136 + 2)).2 = 3 from mK h.tp.K 137 3]
  refine ⟨vin (n := 0) (by omega), pk_b0 (S.x 0).p (fun hp => no ?_) (fun hp => ⟨vin (n := 1) (by omega), pk_b0 (S.x 1).p (fun hp1 => no ?_) (fun hp1 => ?_) (h.x 1 (by omega)).p rfl⟩) (h.x 0 (by omega)).p rfl⟩
  · simp only [a_same, hp] at q; exact q
  · simp only [a_same, hp, hp1] at q; exact q
  simp only [a_same, hp, hp1, Bool.and_self, if_true, Option.map_some] at q
  unfold w_Mo_same_J24
  refine m_goes1 (nb_f (by decide) ?_)
  have h1 := h.t (x := 0)
  have t1 : rI (wI M 136 0 0) 136 0 = 0 := rw_ss
  have d1 : FD M (wI M 136 0 0) := FD.refl.w (by omega)
  generalize wI M 136 0 0 = M1 at h1 t1 d1 ⊢
  have K1 := h1.tp.K
  have R0 := (h1.x 0 (by omega)).R hp
  have R1 := (h1.x 1 (by omega)).R hp1
  have ok0 := (so.x 0 hp).ok
  have ok1 := (so.x 1 hp1).ok
  refine m_fellows R0 R1 ok0.A ok1.A K1 (fun M2 f2 p2 => ?_)
  rw [pair_eq ok0.A ok1.A] at p2 ⊢
  have K2 := f2.K K1
  have h2 : MI S M2 := h1.own so f2
  have t2 : rI M2 136 0 = 0 := by rw [f2.i _ (by omega)]; exact t1
  have d2 : FD M M2 := d1.tr (fdO f2 (by omega))
  refine pk_nb0 (pairB (S.x 0).T (S.x 1).T) (fun hpr => ?_) (fun hpr => ?_)
  · rw [if_pos hpr] at q
    have p2 := p2 hpr
    have R0b := (h2.x 0 (by omega)).R hp
    have R1b := (h2.x 1 (by omega)).R hp1
    have lq := rq_le ok0.A (S.x 0).T.na (Nat.le_refl _)
    refine m_requests (x := 0) R0b K2 (by omega) ok0.A (pk_le (rq (S.x 0).T (S.x 0).T.na) 4096 (fun z => ⟨37, ?_⟩) (fun z => ?_))
    · rw [if_neg (by omega)] at q
      have hQ := rq_Q (T := (S.x 0).T) (by omega)
      have key : ∀ d k M', k + d = 36 → FQ 177 M2 M' → (∀ j, j < k → rI M' 177 j = 0) → w_Mo_same_L58 post (d + 1) 136 (nI k) M' := by
        intro d
        induction d with
        | zero =>
          intro k M3 hk f3 h3
          have : k = 36 := by omega
          subst this
          have K3 := f3.K K2
          unfold w_Mo_same_L58
          refine br_t (Int32.le_refl _) (m_keepB K3 (fun M4 f4 a4 b4 => ?_))
          have K4 := f4.K K3
          have R0d : RepM (mR M4 0) (S.x 0).T (S.x 0).g := f4.mR (f3.mR R0b (by omega)) (fun c _ _ => by omega)
          have R1d : RepM (mR M4 1) (S.x 1).T (S.x 1).g := f4.mR (f3.mR R1b (by omega)) (fun c _ _ => by omega)
          refine m_emptyBags (x := 0) K4 (by omega) (fun M5 f5 o5 z5 => ⟨rq (S.x 0).T (S.x 0).T.na + 1, ?_⟩)
          have lna := R0.lna
          have main := m_cmp (post := post) R0d R1d ok0.A ok1.A ok0.N ok1.N ok0.W ok1.W ok0.R ok1.R ok0.p ok1.p K4 hpr (fun i hi => by rw [f4.i _ (by omega), f3.i _ (by omega)]; exact p2 i hi) (rq (S.x 0).T (S.x 0).T.na) hQ z (fun M6 s => ?_) (rq (S.x 0).T (S.x 0).T.na) 0 M5 (by omega) ⟨FP.ofQ f5 (by unfold PQm; omega), fun j _ _ => by rw [f5.i _ (by omega)], fun i hi => ?_, fun j hj => ?_, fun x hx => (by cases hx)⟩
          · rw [decide_eq_true (by omega)] at main; exact main
          · refine m_restore (s.f.K K4) (fun M7 f7 a7 b7 => ⟨Or.inr rfl, ?_⟩)
            have fin : ∀ y : Int32, (∀ wn : Nat, (y = 0 ∧ wn = 0) ∨ (y = 1 ∧ rI M6 136 53 = nI wn) → (∀ j, j < wn → rI M6 178 j = nI (gOf (S.x 0).T (Dq (S.x 0).T ((dfN (S.x 0).T (S.x 1).T (rq (S.x 0).T (S.x 0).T.na)).getD 0)) j)) → MI (S.sv true (tlN (S.x 0).T (S.x 1).T (rq (S.x 0).T (S.x 0).T.na)) wn (gOf (S.x 0).T (Dq (S.x 0).T ((dfN (S.x 0).T (S.x 1).T (rq (S.x 0).T (S.x 0).T.na)).getD 0)))) (wI (wI M7 136 51 1) 136 54 y) ∧ rI (wI (wI M7 136 51 1) 136 54 y) 136 0 = 0 ∧ FD M (wI (wI M7 136 51 1) 136 54 y)) := by
              intro y wn hwn hwv
              have K7 := f7.K (s.f.K K4)
              have ch : ∀ k, k ≠ 136 → k ≠ 143 → k ≠ 165 → k ≠ 166 → k ≠ 172 → k ≠ 173 → k ≠ 177 → k ≠ 178 → k ≠ 179 → k ≠ 180 → k ≠ 181 → rI M7 k = rI M2 k := fun k g1 g2 g3 g4 g5 g6 g7 g8 g9 g10 g11 => by
                rw [f7.i _ ⟨g2, g3, g4⟩, s.f.i _ ⟨g1, g2, g3, g4, g5, g6, g7, g8⟩, f4.i _ ⟨g9, g10, g11⟩, f3.i _ g7]
              have c30 : ∀ j, j ≠ 53 → j ≠ 54 → rI M7 136 j = rI M2 136 j := fun j g1 g2 => by
                rw [f7.i _ (by omega), s.o j g1 g2, f4.i _ (by omega), f3.i _ (by omega)]
              refine ⟨h2.sv so K7 (fun k hk => ?_) (fun j hj => ?_) (fun j hj => ?_) (fun j g0 g1 g2 g3 => ?_) ?_ (fun j hj => ?_) ?_ (fun j hj => ?_), ?_, ?_⟩
              · rw [rw_n (by omega), rw_n (by omega)]
                exact ch k (by omega) (by omega) (by omega) (by omega) (by omega) (by omega) (by omega) (by omega) (by omega) (by omega) (by omega)
              · rw [rw_n (by omega), rw_n (by omega), a7 j hj, s.f.i _ (by unfold PQm; omega), a4 j hj, f3.i _ (by omega)]
              · rw [rw_n (by omega), rw_n (by omega), rw_n (by omega), rw_n (by omega), (b7 j hj).1, (b7 j hj).2, s.f.i _ (by unfold PQm; omega), s.f.i _ (by unfold PQm; omega), (b4 j hj).1, (b4 j hj).2, f3.i _ (by omega), f3.i _ (by omega)]
                exact ⟨rfl, rfl⟩
              · rw [rw_sn g3, rw_sn g1]; exact c30 j g2 g3
              · rw [rw_sn (by omega)]; exact rw_ss
              · rw [rw_n (by omega), rw_n (by omega), f7.i _ (by omega)]; exact s.tl j hj
              · rw [rw_ss, rw_sn (by omega), rw_sn (by omega), f7.i _ (by omega)]; exact hwn
              · rw [rw_n (by omega), rw_n (by omega), f7.i _ (by omega)]; exact hwv j hj
              · rw [rw_sn (by omega), rw_sn (by omega), c30 _ (by omega) (by omega)]; exact t2
              · refine d2.tr (((((fdO f3 (by omega)).tr (fdP f4 (fun k hk => by omega))).tr (fdP s.f (fun k hk => by unfold PQm; omega))).tr (fdP f7 (fun k hk => by omega))).w (by omega) |>.w (by omega))
            unfold samR at q
            unfold w_Mo_same_J223
            cases hdf : dfN (S.x 0).T (S.x 1).T (rq (S.x 0).T (S.x 0).T.na) with
            | none =>
              rw [hdf] at q fin
              refine nb_f (by decide) ⟨Or.inl rfl, br_f (by decide) ?_⟩
              obtain ⟨x1, x2, x3⟩ := fin 0 0 (Or.inl ⟨rfl, rfl⟩) (fun j hj => absurd hj (Nat.not_lt_zero _))
              exact q _ x1 x2 x3
            | some x =>
              have sw := s.ws x hdf
              rw [hdf] at q fin
              refine nb_t rfl ⟨Or.inr rfl, br_t rfl ?_⟩
              obtain ⟨x1, x2, x3⟩ := fin 1 (S.x 0).T.na (Or.inr ⟨rfl, sw.1⟩) sw.2
              exact q _ x1 x2 x3
          · rw [z5 i (by omega)]
            show (0 : Int32) = nI (bgd _ i 0)
            rw [bgd_0]; rfl
          · rw [f5.i _ (by omega), f4.i _ (by omega)]; exact h3 j hj
        | succ d ih =>
          intro k M3 hk f3 h3
          have K3 := f3.K K2
          unfold w_Mo_same_L58
          rw [nI_clamp (n := k) (by omega), show (rK M3 (136 + 41)).2 = 36 from mK K3 176 36, nI_1]
          refine pk_le 36 k (fun z => by omega) (fun _ => ⟨vin (by omega), ih (k + 1) _ (by omega) f3.w (fun j hj => ?_)⟩)
          show rI (wI M3 177 k 0) 177 j = _
          by_cases y : j = k
          · rw [y, rw_ss]
          · rw [rw_sn y]; exact h3 j (by omega)
      exact key 36 0 M2 (by omega) FQ.refl (fun j hj => absurd hj (Nat.not_lt_zero _))
    · rw [if_pos z] at q
      exact q M2 h2 t2 d2
  · rw [if_neg (by rw [hpr]; decide)] at q
    exact q M2 h2 t2 d2
end MQ
