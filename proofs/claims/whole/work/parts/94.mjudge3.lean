/-! THE MODEL JUDGES, the loop over nodes. -/
section MJ
variable {M : aM} {t : Nat} {T : Txt} {g g0 : Nat → Nat}
theorem m_node {post : aM → Prop} {K44 : Nat → Int32 → Int32 → aM → Prop} {i : Nat} (R : RepM (mR M t) T g0) (K : KOk (rK M)) (ht : t ≤ 1) (N : NI T) (W : WI T T.nn) (hi : i < T.nn) (hD : VM M t T g (i + 1)) (q : ∀ M', FJ t M M' → rI M' 172 = rI M 172 → VM M' t T g i → K44 136 (nI t) (nI i + (-1)) M') : w_Mo_judge_J85 post K44 136 (nI t) (nI i) (nI (100 * t + i)) 166 (nI (100 * t + i)) (nI (tru T g i)) M := by
  have lnn := R.lnn
  have hin : vp_in (nI (100 * t + i)) 300 := vin (by omega)
  have k11 : (rK M 147).2 = 300 := mK K 146 300
  have k29 : (rK M 165).2 = 300 := mK K 164 300
  have k30 : (rK M 166).2 = 300 := mK K 165 300
  have htr := tru_le T g i
  have hs := N.sr i hi
  have hde := dec_eq (g := g) N hi
  unfold w_Mo_judge_J85
  obtain ⟨M1, e1⟩ : ∃ x : aM, x = wI M 166 (nI (100 * t + i)).toNatClampNeg (nI (tru T g i)) := ⟨_, rfl⟩
  rw [← e1, k30]
  rw [nI_clamp (n := 100 * t + i) (by omega)] at e1
  have F1 : FJ t M M1 := by rw [e1]; exact FJ.w (Or.inr rfl) (by omega)
  have t1 : rI M1 166 (100 * t + i) = nI (tru T g i) := by rw [e1, rw_ss]
  have w1 : rI M1 172 = rI M 172 := by rw [e1]; exact rw_n (by omega)
  have R1 := F1.M R
  have K1 : KOk (rK M1) := by rw [F1.K]; exact K
  have D1 : VM M1 t T g (i + 1) := by
    intro j h1 h2
    rw [e1, rw_n (by omega), rw_sn (by omega)]
    exact hD j h1 h2
  have e11 : rI M1 147 (100 * t + i) = nI (T.srt i) := by
    rw [Nat.mul_comm]
    exact R1.srt i hi
  have J : ∀ (M2 : aM) (x : Nat), x ≤ 5 → FO M1 M2 → dec T g i = wk (tru T g i) x → w_Mo_judge_J113 post K44 136 (nI t) (nI i) (nI (100 * t + i)) (nI x) M2 := by
    intro M2 x hx F hd
    have t2 : rI M2 166 (100 * t + i) = nI (tru T g i) := by rw [F.2.2.2 166 (by omega)]; exact t1
    have F2 : FJ t M M2 := F1.trans F.J
    have fin : vp_in (nI (100 * t + i)) 300 ∧ K44 136 (nI t) (nI i + (-1)) (wI M2 165 (100 * t + i) (nI (dec T g i))) := by
      refine ⟨hin, q _ (F2.trans (FJ.w (Or.inl rfl) (by omega))) ?_ ?_⟩
      · rw [rw_n (by omega), F.2.2.2 172 (by omega)]; exact w1
      · intro j hj hj2
        by_cases z : j = i
        · subst z
          rw [rw_ss, rw_n (by omega)]
          exact ⟨rfl, t2⟩
        · rw [rw_sn (by omega), rw_n (by omega), F.2.2.2 165 (by omega), F.2.2.2 166 (by omega)]
          exact D1 j (by omega) hj2
    unfold w_Mo_judge_J113
    simp (disch := omega) only [Nat.reduceAdd, nI_clamp, t2, F2.K, k29, k30]
    unfold wk at hd
    rw [hd] at fin
    refine ⟨hin, pk_ne (tru T g i) 0 (fun z0 => ⟨hin, ?_⟩) (fun z0 => ?_)⟩
    · rw [if_neg z0] at fin
      refine pk_ne (tru T g i) 1 (fun z1 => ?_) (fun z1 => ?_)
      · rw [if_neg z1] at fin
        refine pk_ne x 1 (fun x1 => ?_) (fun x1 => ?_)
        · refine pk_ne x 2 (fun x2 => ?_) (fun x2 => ?_)
          · rw [if_neg (by omega)] at fin; exact fin
          · rw [if_pos (Or.inr x2), x2] at fin; exact fin
        · rw [if_pos (Or.inl x1), x1] at fin; exact fin
      · rw [if_pos z1] at fin; exact fin
    · rw [if_pos z0] at fin; exact fin
  simp (disch := omega) only [Nat.reduceAdd, nI_clamp, e11, k11]
  refine ⟨hin, hin, pk_ne (T.srt i) 2 (fun z => ⟨hin, ?_⟩) (fun z => ?_)⟩
  · rw [if_neg z] at hde
    rw [show nI (T.srt i) + (1 : Int32) = nI (T.srt i + 1) from nI_add _ 1]
    exact J M1 _ (by omega) FO.refl hde
  · rw [if_pos z] at hde
    exact m_comb R1 K1 ht N W hi z D1 (fun M2 F => J M2 _ (combV_le N) F hde)
theorem m_judge {post : aM → Prop} (R : RepM (mR M t) T g) (K : KOk (rK M)) (ht : t ≤ 1) (hg : ∀ i, g i < 256) (N : NI T) (W : WI T T.nn) (I : ∃ rs, RI T rs) (q : ∀ M', FJ t M M' → VM M' t T g 0 → post M') : w_Mo_judge post 136 (nI t) M := by
  obtain ⟨rs, I⟩ := I
  have lnn := R.lnn
  have lnp := R.lnp
  refine m_roots R K ht hg I (fun M0 F0 hw => ?_)
  have key : ∀ (n : Nat) (M1 : aM), n ≤ T.nn → FJ t M M1 → rI M1 172 = rI M0 172 → VM M1 t T g n → w_Mo_judge_L44 post (n + 1) 136 (nI t) (nI n + (-1)) M1 := by
    intro n
    induction n with
    | zero =>
      intro M1 _ F _ D
      unfold w_Mo_judge_L44
      exact br_t (by decide) (q M1 F D)
    | succ n ih =>
      intro M1 hn F hw1 D
      have hi : n < T.nn := by omega
      have R1 := F.M R
      have K1 : KOk (rK M1) := by rw [F.K]; exact K
      have k14 : (rK M1 150).2 = 300 := mK K1 149 300
      have k36 : (rK M1 172).2 = 400 := mK K1 171 400
      have er : rI M1 150 (100 * t + n) = oI (T.root n) := by
        rw [Nat.mul_comm]
        exact R1.root _ hi
      have nd : w_Mo_judge_J85 post (w_Mo_judge_L44 post (n + 1)) 136 (nI t) (nI n) (nI (100 * t + n)) 166 (nI (100 * t + n)) (nI (tru T g n)) M1 :=
        m_node R1 K1 ht N W hi D (fun M' F' w' D' => ih M' (by omega) (F.trans F') (w'.trans hw1) D')
      unfold w_Mo_judge_L44
      rw [pk_m1]
      refine br_f (nI_pos (by omega)) ?_
      simp (disch := omega) only [Nat.reduceAdd, m100, nI_clamp, er, k14, k36]
      refine ⟨vin (by omega), ?_⟩
      unfold tru at nd
      cases hr : T.root n with
      | none =>
        rw [hr] at nd
        exact nb_t rfl nd
      | some p =>
        rw [hr] at nd
        obtain ⟨m, m1, m2⟩ := I.ro _ hi p hr
        have ex : EX T 43 m.2.1.1 m.2.1.2 m.1 m.2.2 := I.ex _ m1
        have hm : m ∈ rs.map Prod.snd := List.mem_map.2 ⟨_, m1, rfl⟩
        have hh := (inc_hi _ _ I.ic).2 m hm
        have hp := ex.in_
        have hwm : rI M0 172 m.1 = nI (ev T g 43 m.1) := hw _ m1
        subst m2
        have nd2 : w_Mo_judge_J85 post (w_Mo_judge_L44 post (n + 1)) 136 (nI t) (nI n) (nI (100 * t + n)) 166 (nI (100 * t + n)) (nI (ev T g 43 m.1)) M1 := nd
        have ec : (oI (some m.1)).toNatClampNeg = m.1 := nI_clamp (by omega)
        refine nb_f (show ¬ nI m.1 = -1 from nI_m1 (by omega)) ⟨vin (by omega), vin (n := m.1) (by omega), ?_⟩
        rw [ec, hw1, hwm]
        exact nd2
  have e : nI T.nn - 1 = nI T.nn + (-1) := Int32.sub_eq_add_neg ..
  rw [e]
  exact ⟨_, key T.nn M0 (Nat.le_refl _) (FJ_Fw F0) rfl (fun i h1 h2 => by omega)⟩
end MJ
