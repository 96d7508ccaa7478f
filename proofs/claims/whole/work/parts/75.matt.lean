/-! THE MODEL'S READER, VII: attributes. -/
theorem RepM.addAt {R : Nat → Nat → Int32} {T : Txt} {g : Nat → Nat} {z v : Nat} {mm u : Bool} {nm : Nat → Nat} (m : RepM R T g) (hg : g T.na = 0) (hl : T.na < 8) (hv : v ≤ 12) (hz : z ≤ 8) (e4 : R 4 T.na = nI z) (e5 : R 5 T.na = bI mm) (e6 : R 6 T.na = bI u) (e7 : R 7 T.na = 0) (e8 : R 8 T.na = nI v) (e9 : ∀ j, j < v → R 9 (12 * T.na + j) = sx (nm j)) :
    RepM (up R 3 (up (R 3) 0 (nI (T.na + 1)))) (Txt.s_amust (Txt.s_amany (Txt.s_asz (Txt.s_anm (Txt.s_anl (Txt.s_na T (T.na + 1)) (up T.anl T.na v)) (up T.anm T.na nm)) (up T.asz T.na z)) (up T.amany T.na mm)) (up T.amust T.na u)) g :=
  ⟨rfl,
      hl,
      fun i hi => by
      have hi2 : i < T.na + 1 := hi
      show R 4 i = nI (up T.asz T.na z i)
      by_cases q : i = T.na
      · subst q; rw [up_s, e4]
      · rw [up_n q]; exact m.asz i (by omega),
      up_lt (P := fun o => o ≤ 8) m.lasz hz,
      fun i hi => by
      have hi2 : i < T.na + 1 := hi
      show R 5 i = bI (up T.amany T.na mm i)
      by_cases q : i = T.na
      · subst q; rw [up_s, e5]
      · rw [up_n q]; exact m.amany i (by omega),
      fun i hi => by
      have hi2 : i < T.na + 1 := hi
      show R 6 i = bI (up T.amust T.na u i)
      by_cases q : i = T.na
      · subst q; rw [up_s, e6]
      · rw [up_n q]; exact m.amust i (by omega),
      fun i hi => by
      have hi2 : i < T.na + 1 := hi
      show R 7 i = nI (g i)
      by_cases q : i = T.na
      · subst q; rw [e7, hg]; rfl
      · exact m.bag i (by omega),
      fun i hi => by
      have hi2 : i < T.na + 1 := hi
      show R 8 i = nI (up T.anl T.na v i)
      by_cases q : i = T.na
      · subst q; rw [up_s, e8]
      · rw [up_n q]; exact m.anl i (by omega),
      up_lt (P := fun o => o ≤ 12) m.lanl hv,
      fun i hi j hj => by
      have hi2 : i < T.na + 1 := hi
      have hj2 : j < up T.anl T.na v i := hj
      show R 9 (12 * i + j) = sx (up T.anm T.na nm i j)
      by_cases q : i = T.na
      · subst q; rw [up_s] at hj2; rw [up_s]; exact e9 j hj2
      · rw [up_n q] at hj2; rw [up_n q]; exact m.anm i (by omega) j hj2,
      m.nn,
      m.lnn,
      m.srt,
      m.way,
      m.fa,
      m.root,
      m.nnl,
      m.lnnl,
      m.nnm,
      m.np,
      m.lnp,
      m.pk,
      m.pa,
      m.pnum,
      m.pf,
      m.pn,
      m.dn,
      m.cm,
      m.ldn,
      m.nd,
      m.lnd,
      m.dof,
      m.dfor,
      m.dnum⟩
/-- rows that no attribute below na, no node and no part sees -/
theorem RepM.at_ {R R' : Nat → Nat → Int32} {T : Txt} {g : Nat → Nat} (m : RepM R T g) (h3 : ∀ c, c < 4 ∨ 9 < c → R' c = R c) (h4 : ∀ c, 4 ≤ c → c ≤ 7 → ∀ i, i < T.na → R' c i = R c i) (h8 : ∀ i, i ≠ T.na → R' 8 i = R 8 i) (h9 : ∀ i, i < 12 * T.na ∨ 12 * T.na + 12 ≤ i → R' 9 i = R 9 i) (hl : T.na < 8) : RepM R' T g := by
  refine ⟨?_, m.lna, ?_, m.lasz, ?_, ?_, ?_, ?_, m.lanl, ?_, ?_, m.lnn, ?_, ?_, ?_, ?_, ?_, m.lnnl, ?_, ?_, m.lnp, ?_, ?_, ?_, ?_, ?_, ?_, ?_, m.ldn, ?_, m.lnd, ?_, ?_, ?_⟩
  · rw [h3 3 (by omega)]; exact m.na
  · intro i hi; rw [h4 4 (by omega) (by omega) i hi]; exact m.asz i hi
  · intro i hi; rw [h4 5 (by omega) (by omega) i hi]; exact m.amany i hi
  · intro i hi; rw [h4 6 (by omega) (by omega) i hi]; exact m.amust i hi
  · intro i hi; rw [h4 7 (by omega) (by omega) i hi]; exact m.bag i hi
  · intro i hi; rw [h8 i (by omega)]; exact m.anl i hi
  · intro i hi j hj
    have := m.lanl i hi
    rw [h9 _ (by omega)]; exact m.anm i hi j hj
  · rw [h3 10 (by omega)]; exact m.nn
  · intro i hi; rw [h3 11 (by omega)]; exact m.srt i hi
  · intro i hi; rw [h3 12 (by omega)]; exact m.way i hi
  · intro i hi; rw [h3 13 (by omega)]; exact m.fa i hi
  · intro i hi; rw [h3 14 (by omega)]; exact m.root i hi
  · intro i hi; rw [h8 _ (by omega)]; exact m.nnl i hi
  · intro i hi j hj; rw [h9 _ (by omega)]; exact m.nnm i hi j hj
  · rw [h3 15 (by omega)]; exact m.np
  · intro i hi; rw [h3 16 (by omega)]; exact m.pk i hi
  · intro i hi; rw [h3 17 (by omega)]; exact m.pa i hi
  · intro i hi; rw [h3 18 (by omega), h3 19 (by omega)]; exact m.pnum i hi
  · intro i hi; rw [h3 20 (by omega)]; exact m.pf i hi
  · intro i hi; rw [h3 21 (by omega)]; exact m.pn i hi
  · intro i hi; rw [h3 22 (by omega)]; exact m.dn i hi
  · rw [h3 23 (by omega)]; exact m.cm
  · rw [h3 24 (by omega)]; exact m.nd
  · intro i hi; rw [h3 25 (by omega)]; exact m.dof i hi
  · intro i hi; rw [h3 26 (by omega)]; exact m.dfor i hi
  · intro i hi; rw [h3 27 (by omega)]; exact m.dnum i hi
section MA
variable {b : Nat → Nat} {n : Nat} {M0 M : aM} {s : PS} {d o : Nat} {f : Fl}
theorem m_isWordF {post : Int32 → Prop} {j : Nat} (h0 : TpM b n M0) (h : FM b n M0 f M) (h1 : 1 ≤ j) (h2 : j < 13) (p : ∀ bb, post (bI bb)) : w_Mo_isWord post 136 (wS j) M := by
  obtain ⟨a, ha, ha1⟩ := h.atb
  obtain ⟨z, hz, hz1⟩ := h.szb
  have tp := h.fr.tp h0
  have ln := tp.ln
  have es := spN_str j h2 h1
  have hws := wS_lt j h2
  have el := spN_len j (by omega)
  have no : ∀ (f : Nat) (y : Int32), w_Mo_isWord_L27 M post (f + 1) 136 (wS j) 0 y := by
    intro f y
    unfold w_Mo_isWord_L27
    exact ⟨fun _ => ⟨Or.inl rfl, p false⟩, fun _ => br_t rfl ⟨Or.inl rfl, p false⟩⟩
  unfold w_Mo_isWord
  refine ⟨fun _ => ⟨1, no 0 0⟩, fun _ => ⟨by omega, fun _ => ⟨1, no 0 0⟩, fun hq => ?_⟩⟩
  have hl : z = (spN.getD j []).length := by
    have hq2 : rI M 136 36 = Int32.ofNat (tStr.getD (wS j) []).length := by
      by_cases w : rI M 136 36 = Int32.ofNat (tStr.getD (wS j) []).length
      · exact w
      · exact absurd w hq
    rw [hz1, es, List.length_map] at hq2
    exact (nI_eq (by omega) (by omega)).1 hq2
  generalize spN.getD j [] = l at es el hl
  have key : ∀ f k, f = z - k → k ≤ z → w_Mo_isWord_L27 M post (f + 1) 136 (wS j) 1 (nI k) := by
    intro f
    induction f with
    | zero =>
      intro k hf hk
      unfold w_Mo_isWord_L27
      exact pk_le z k (fun _ => ⟨Or.inr rfl, p true⟩) (fun q => by omega) hz1
    | succ f ih =>
      intro k hf hk
      unfold w_Mo_isWord_L27
      refine pk_le z k (fun q => by omega) (fun zk => ?_) hz1
      refine br_f (by decide) ?_
      have rest : ∀ y : Int32, (wS j < 59 ∧ vp_in (nI k) (tStr.getD (wS j) []).length) ∧ ((¬ y = ((tStr.getD (wS j) []).getD (nI k).toNatClampNeg 0)) → w_Mo_isWord_L27 M post (f + 1) 136 (wS j) ((0 : Int32)) (nI k + (1 : Int32))) ∧ (¬ (¬ y = ((tStr.getD (wS j) []).getD (nI k).toNatClampNeg 0)) → w_Mo_isWord_L27 M post (f + 1) 136 (wS j) ((1 : Int32)) (nI k + (1 : Int32))) := by
        intro y
        rw [es, List.length_map]
        refine ⟨⟨by omega, vin (by omega)⟩, fun _ => no f _, fun _ => ?_⟩
        rw [nI_1]
        exact ih (k + 1) (by omega) (by omega)
      by_cases hin : a + k < n
      · exact m_atI (i := a + k) tp hin (rest _) (by rw [ha1, nI_add])
      · exact m_atM (i := a + k) tp (by omega) (rest _) (by rw [ha1, nI_add])
  exact ⟨_, key _ 0 rfl (by omega)⟩
theorem mR_row {M M' : aM} {t c : Nat} (h : rI M' (136 + c) = rI M (136 + c)) : mR M' t c = mR M t c := by
  funext j
  unfold mR
  rw [h]
theorem m_attr {post : aM → Prop} (h0 : TpM b n M0) (h : RM b n M0 s d o M) (hk0 : (tkOf b n).k s.i = 1) (p : Ex (fun s' => ∀ M', AM b n M0 s' d o M' → post M') (fun f => ∀ M', FM b n M0 f M' → post M') (fAttr (tkOf b n) s)) : w_Mo_readAttribute post 136 M := by
  have m := h.T
  have lna := m.lna
  have e0 : rI M 139 2 = nI s.T.na := m.na
  have k3 : ∀ M', FrM M0 M' → (rK M' 139).2 = 3 := fun M' fr => m_K h0 fr 138 3
  have k4 : ∀ M', FrM M0 M' → (rK M' 140).2 = 24 := fun M' fr => m_K h0 fr 139 24
  have k5 : ∀ M', FrM M0 M' → (rK M' 141).2 = 24 := fun M' fr => m_K h0 fr 140 24
  have k6 : ∀ M', FrM M0 M' → (rK M' 142).2 = 24 := fun M' fr => m_K h0 fr 141 24
  have k7 : ∀ M', FrM M0 M' → (rK M' 143).2 = 24 := fun M' fr => m_K h0 fr 142 24
  have i2 : vp_in 2 3 := pk_in 2 3 (by omega)
  have F49 : ∀ (f : Fl) (M' : aM), FM b n M0 f M' → post M' → w_Mo_readAttribute_J49 post 136 M' := by
    intro f M' f' p'
    unfold w_Mo_readAttribute_J49
    exact br_f f'.ne p'
  have F16 : ∀ (f : Fl) (M' : aM), FM b n M0 f M' → post M' → w_Mo_readAttribute_J16 post 136 M' := by
    intro f M' f' p'
    unfold w_Mo_readAttribute_J16
    exact m_nextF f' (m_isNameF h0 f' (fun bb => m_needF f' (nb_f f'.ne (F49 f M' f' p'))))
  unfold w_Mo_readAttribute
  simp only [cl2, Nat.reduceAdd, k3 M h.L.fr, e0]
  refine ⟨i2, pk_ne s.T.na 8 (fun z => ?_) (fun z => ?_)⟩
  · rw [fAttr, if_neg (by omega)] at p
    unfold w_Mo_readAttribute_J16
    refine m_nextR h0 h (by omega) (fun M1 ft1 a1 => ?_)
    rcases a1 with r1 | ⟨hb1, f1⟩
    · refine m_isName h0 r1.L ?_
      refine m_need h0 r1.L (fun z1 => ?_) (fun z1 M2 f2 => ?_)
      · have z1' : (tkOf b n).k (s.i + 1) = 128 := of_decide_eq_true z1
        rw [if_neg (fun g => g z1')] at p
        refine nb_t r1.L.fl ?_
        refine m_here h0 r1 z1' ?_
        have hl : ∀ k, hereN (tkOf b n) s.st = some k → k < 2 ^ 31 := fun k hk => by
          have h1 := hereN_lt hk
          have : k < s.T.na := h1
          omega
        refine pk_eqm (hereN (tkOf b n) s.st) (fun z2 => ?_) (fun a z2 => ?_) rfl rfl hl
        · rw [if_neg (by rw [z2]; simp)] at p
          have hw := r1.L.wd (Or.inr z1')
          have hwv : (tkOf b n).v (s.i + 1) ≤ 12 := hw.2.1
          have e0' : rI M1 139 2 = nI s.T.na := r1.T.na
          unfold w_Mo_readAttribute_J49
          refine br_t r1.L.fl ?_
          simp only [cl2, Nat.reduceAdd, k3 M1 r1.L.fr, e0']
          refine ⟨i2, ?_⟩
          unfold w_Mo_nameOf
          refine nb_t rfl ?_
          rw [n216]
          refine m_keep h0 r1.L z1' (by omega) (fun M2 fr2 ks2 e2 e138 e139 => ?_)
          have R8 : mR M2 2 8 = up (mR M1 2 8) s.T.na (nI ((tkOf b n).v (s.i + 1))) := by
            funext j
            show rI M2 144 (216 + j) = if j = s.T.na then _ else rI M1 144 (216 + j)
            rw [e138, up_e]
            by_cases g : j = s.T.na
            · rw [if_pos (by omega), if_pos g]
            · rw [if_neg (by omega), if_neg g]
          have R9 : ∀ j, mR M2 2 9 j = if 12 * s.T.na ≤ j ∧ j < 12 * s.T.na + (tkOf b n).v (s.i + 1) then sx (b ((tkOf b n).pl (s.i + 1) + (j - 12 * s.T.na))) else mR M1 2 9 j := by
            intro j
            show rI M2 145 (2592 + j) = if 12 * s.T.na ≤ j ∧ j < 12 * s.T.na + (tkOf b n).v (s.i + 1) then sx (b ((tkOf b n).pl (s.i + 1) + (j - 12 * s.T.na))) else rI M1 145 (2592 + j)
            rw [e139]
            have ev : (tkOf b n).v s.st.i = (tkOf b n).v (s.i + 1) := rfl
            have ep : (tkOf b n).pl s.st.i = (tkOf b n).pl (s.i + 1) := rfl
            by_cases g : 12 * s.T.na ≤ j ∧ j < 12 * s.T.na + (tkOf b n).v (s.i + 1)
            · rw [if_pos (by rw [ev]; omega), if_pos g, ep, show 2592 + j - 12 * (216 + s.T.na) = j - 12 * s.T.na by omega]
            · rw [if_neg (by rw [ev]; omega), if_neg g]
          have Rc : ∀ c, c ≠ 8 → c ≠ 9 → mR M2 2 c = mR M1 2 c := fun c g1 g2 => mR_row (e2 _ (by omega) (by omega))
          have r2 : RM b n M0 s.st d o M2 := by
            refine RM.T2 (s := s.st) (T' := s.T) r1 fr2 (fun j _ => by rw [e2 136 (by omega) (by omega)]) ?_ r1.cn (Nat.le_refl _) r1.lnm
            refine RepM.at_ r1.T (fun c hc => Rc c (by omega) (by omega)) (fun c g1 g2 i hi => by rw [Rc c (by omega) (by omega)]) (fun i hi => by rw [R8, up_n (by exact hi)]) (fun i hi => ?_) (by show s.T.na < 8; omega)
            have hi2 : i < 12 * s.T.na ∨ 12 * s.T.na + 12 ≤ i := hi
            rw [R9, if_neg (by omega)]
          have n8 : mR M2 2 8 s.T.na = nI ((tkOf b n).v (s.i + 1)) := by rw [R8, up_s]
          have n9 : ∀ j, j < (tkOf b n).v (s.i + 1) → mR M2 2 9 (12 * s.T.na + j) = sx (b ((tkOf b n).pl (s.i + 1) + j)) := fun j hj => by
            rw [R9, if_pos (by omega), show 12 * s.T.na + j - 12 * s.T.na = j by omega]
          clear R8 R9 Rc e138 e139 e2 ks2
          -- coasting
          have F232 : ∀ (f : Fl) (M' : aM), FM b n M0 f M' → (∀ M', FM b n M0 f M' → post M') → w_Mo_readAttribute_J232 post 136 M' := by
            intro f M' f' p'
            unfold w_Mo_readAttribute_J232
            refine m_eatF h0 f' ?_
            simp only [cl2, Nat.reduceAdd, k3 M' f'.fr]
            exact ⟨i2, i2, p' _ (f'.w (by unfold dLo; omega) (by omega))⟩
          have hin : vp_in (nI (16 + s.T.na)) 24 := vin (by omega)
          have F190 : ∀ (f : Fl) (M' : aM), FM b n M0 f M' → (∀ M', FM b n M0 f M' → post M') → w_Mo_readAttribute_J190 post 136 (nI (16 + s.T.na)) M' := by
            intro f M' f' p'
            unfold w_Mo_readAttribute_J190
            refine nb_f f'.ne ?_
            unfold w_Mo_readAttribute_J217 w_Mo_readAttribute_J218
            simp (disch := omega) only [Nat.reduceAdd, k6 M' f'.fr, nI_clamp, rw_ss]
            exact ⟨⟨hin, Or.inl trivial⟩, hin, br_t trivial (F232 f _ (f'.w (by unfold dLo; omega) (by omega)) p')⟩
          have F175 : ∀ (f : Fl) (M' : aM), FM b n M0 f M' → (∀ M', FM b n M0 f M' → post M') → w_Mo_readAttribute_J175 post 136 (nI (16 + s.T.na)) 141 (nI (16 + s.T.na)) M' := by
            intro f M' f' p'
            unfold w_Mo_readAttribute_J175 w_Mo_readAttribute_J176
            simp (disch := omega) only [Nat.reduceAdd, k5 M' f'.fr, nI_clamp, rw_ss]
            exact ⟨⟨hin, Or.inl trivial⟩, hin, br_t trivial (F190 f _ (f'.w (by unfold dLo; omega) (by omega)) p')⟩
          have F122 : ∀ (f : Fl) (M' : aM), FM b n M0 f M' → (∀ M', FM b n M0 f M' → post M') → w_Mo_readAttribute_J122 post 136 (nI s.T.na) M' := by
            intro f M' f' p'
            unfold w_Mo_readAttribute_J122
            simp (disch := omega) only [Nat.reduceAdd, k4 M' f'.fr, k7 M' f'.fr, a16, nI_clamp]
            have f2 := (f'.w (k := 140) (j := 16 + s.T.na) (x := rI M' 136 37) (by unfold dLo; omega) (by omega)).w (k := 143) (j := 16 + s.T.na) (x := 0) (by unfold dLo; omega) (by omega)
            exact ⟨hin, hin, m_nextF f2 (nb_f f2.ne (F175 f _ f2 p'))⟩
          have F93 : ∀ (f : Fl) (M' : aM) (y : Int32), FM b n M0 f M' → (∀ M', FM b n M0 f M' → post M') → w_Mo_readAttribute_J93 post 136 (nI s.T.na) 136 y M' := by
            intro f M' y f' p'
            unfold w_Mo_readAttribute_J93
            exact m_needF f' (nb_f f'.ne (F122 f M' f' p'))
          refine m_nextR h0 r2 (by show (tkOf b n).k (s.i + 1) ≠ 130; omega) (fun M3 ft3 a3 => ?_)
          rcases a3 with r3 | ⟨hb3, f3⟩
          · by_cases g129 : (tkOf b n).k (s.i + 2) = 129
            · rw [if_neg (fun g => g g129)] at p
              refine nb_t ((m_ty2 r3.L).2 g129) ?_
              unfold w_Mo_readAttribute_J93
              refine m_need (bb := true) h0 r3.L (fun _ => ?_) (fun z => by cases z)
              refine nb_t r3.L.fl ?_
              have hv3 : (tkOf b n).v (s.i + 2) < 1000 := tk_num r3.L.li g129
              have e37 : rI M3 136 37 = nI ((tkOf b n).v (s.i + 2)) := r3.L.num g129
              rw [e37]
              refine m_in ((tkOf b n).v (s.i + 2)) 1 8 ?_
              by_cases g18 : (tkOf b n).v (s.i + 2) < 1 ∨ 8 < (tkOf b n).v (s.i + 2)
              · rw [if_pos g18] at p
                have eb : (decide (1 ≤ (tkOf b n).v (s.i + 2)) && decide ((tkOf b n).v (s.i + 2) ≤ 8)) = false := by
                  rcases g18 with g | g
                  · rw [decide_eq_false (by omega)]; rfl
                  · rw [decide_eq_false (show ¬ (tkOf b n).v (s.i + 2) ≤ 8 by omega), Bool.and_false]
                rw [eb]
                exact nb_t rfl (m_bad h0 r3.L (fun M4 f4 => F122 _ _ f4 p))
              · rw [if_neg g18] at p
                have eb : (decide (1 ≤ (tkOf b n).v (s.i + 2)) && decide ((tkOf b n).v (s.i + 2) ≤ 8)) = true := by
                  rw [decide_eq_true (by omega), decide_eq_true (by omega)]; rfl
                rw [eb]
                refine nb_f (by decide) ?_
                unfold w_Mo_readAttribute_J122
                simp (disch := omega) only [Nat.reduceAdd, k4 M3 r3.L.fr, k7 M3 r3.L.fr, a16, nI_clamp, e37]
                refine ⟨hin, hin, ?_⟩
                have m8 : mR M3 2 8 s.T.na = nI ((tkOf b n).v (s.i + 1)) := by rw [ft3.mR]; exact n8
                have m9 : ∀ j, j < (tkOf b n).v (s.i + 1) → mR M3 2 9 (12 * s.T.na + j) = sx (b ((tkOf b n).pl (s.i + 1) + j)) := fun j hj => by rw [ft3.mR]; exact n9 j hj
                have R4 : mR (wI (wI M3 140 (16 + s.T.na) (nI ((tkOf b n).v (s.i + 2)))) 143 (16 + s.T.na) 0) 2 = up (up (mR M3 2) 4 (up (mR M3 2 4) s.T.na (nI ((tkOf b n).v (s.i + 2))))) 7 (up (mR M3 2 7) s.T.na 0) := by
                  rw [mR_7, mR_4]; rfl
                have r4 : RM b n M0 s.st.st d o (wI (wI M3 140 (16 + s.T.na) (nI ((tkOf b n).v (s.i + 2)))) 143 (16 + s.T.na) 0) := by
                  refine RM.T2 (s := s.st.st) (T' := s.T) r3 ((r3.L.fr.w (by unfold dLo; omega)).w (by unfold dLo; omega)) (fun j _ => by simp (disch := omega) only [rw_n]) ?_ r3.cn (Nat.le_refl _) r3.lnm
                  rw [R4]
                  refine RepM.at_ r3.T (fun c hc => by rw [up_n (by omega), up_n (by omega)]) (fun c g1 g2 i hi => ?_) (fun i hi => rfl) (fun i hi => rfl) (by show s.T.na < 8; omega)
                  have hi2 : i < s.T.na := hi
                  by_cases q7 : c = 7
                  · subst q7; rw [up_s, up_n (by omega)]
                  · rw [up_n q7]
                    by_cases q4 : c = 4
                    · subst q4; rw [up_s, up_n (by omega)]
                    · rw [up_n q4]
                have j4 : mR (wI (wI M3 140 (16 + s.T.na) (nI ((tkOf b n).v (s.i + 2)))) 143 (16 + s.T.na) 0) 2 4 s.T.na = nI ((tkOf b n).v (s.i + 2)) := by
                  rw [R4, up_n (by omega), up_s, up_s]
                have j7 : mR (wI (wI M3 140 (16 + s.T.na) (nI ((tkOf b n).v (s.i + 2)))) 143 (16 + s.T.na) 0) 2 7 s.T.na = 0 := by
                  rw [R4, up_s, up_s]
                have j8 : mR (wI (wI M3 140 (16 + s.T.na) (nI ((tkOf b n).v (s.i + 2)))) 143 (16 + s.T.na) 0) 2 8 s.T.na = nI ((tkOf b n).v (s.i + 1)) := by
                  rw [R4, up_n (by omega), up_n (by omega)]; exact m8
                have j9 : ∀ j, j < (tkOf b n).v (s.i + 1) → mR (wI (wI M3 140 (16 + s.T.na) (nI ((tkOf b n).v (s.i + 2)))) 143 (16 + s.T.na) 0) 2 9 (12 * s.T.na + j) = sx (b ((tkOf b n).pl (s.i + 1) + j)) := fun j hj => by
                  rw [R4, up_n (by omega), up_n (by omega)]; exact m9 j hj
                generalize wI (wI M3 140 (16 + s.T.na) (nI ((tkOf b n).v (s.i + 2)))) 143 (16 + s.T.na) 0 = M4 at r4 j4 j7 j8 j9 ⊢
                clear R4 m8 m9 r3 ft3
                -- the last two words and the sign
                have last : ∀ (i9 : Nat) (mm u : Bool) (M9 : aM), AM b n M0 (PS.s_i s (i9)) d o M9 → ((tkOf b n).k i9 ≠ 131 → mR M9 2 4 s.T.na = nI ((tkOf b n).v (s.i + 2)) ∧ mR M9 2 7 s.T.na = 0 ∧ mR M9 2 8 s.T.na = nI ((tkOf b n).v (s.i + 1)) ∧ (∀ j, j < (tkOf b n).v (s.i + 1) → mR M9 2 9 (12 * s.T.na + j) = sx (b ((tkOf b n).pl (s.i + 1) + j))) ∧ mR M9 2 5 s.T.na = bI mm ∧ mR M9 2 6 s.T.na = bI u) → Ex (fun s' => ∀ M', AM b n M0 s' d o M' → post M') (fun f => ∀ M', FM b n M0 f M' → post M') (req (tkOf b n) 59 (PS.s_T (PS.s_i s (i9)) ((Txt.s_amust (Txt.s_amany (Txt.s_asz (Txt.s_anm (Txt.s_anl (Txt.s_na s.T (s.T.na + 1)) (up s.T.anl s.T.na ((tkOf b n).v (s.i + 1)))) (up s.T.anm s.T.na (fun j => b ((tkOf b n).pl (s.i + 1) + j)))) (up s.T.asz s.T.na ((tkOf b n).v (s.i + 2)))) (up s.T.amany s.T.na mm)) (up s.T.amust s.T.na u))))) → w_Mo_readAttribute_J232 post 136 M9 := by
                  intro i9 mm u M9 a9 hj p9
                  rcases a9 with r9 | ⟨hb9, f9⟩
                  · obtain ⟨q4, q7, q8, q9, q5, q6⟩ := hj r9.L.nb
                    unfold w_Mo_readAttribute_J232
                    refine m_eat h0 r9.L (c := 59) rfl (fun z9 M10 ft10 a10 => ?_) (fun z9 M10 f10 => ?_)
                    · have z9' : (tkOf b n).k i9 = 59 := z9
                      rw [req, if_pos z9'] at p9
                      have e10 : rI M10 139 2 = nI s.T.na := by
                        rw [ft10.2.2.2.1 139 (by omega)]; exact r9.T.na
                      have fr10 : FrM M0 M10 := ft10.fr r9.L.fr
                      simp only [cl2, Nat.reduceAdd, k3 M10 fr10, e10, nI_1]
                      refine ⟨i2, i2, p9 _ ?_⟩
                      rcases a10 with l10 | ⟨hb10, f10⟩
                      · left
                        have r10 := r9.ft ft10 l10
                        have hR := ft10.mR 2
                        refine RM.T2 (s := (PS.s_i s (i9 + 1))) r10 (r10.L.fr.w (by unfold dLo; omega)) (fun j _ => by rw [rw_n (by omega)]) ?_ r10.cn (Nat.le_refl _) ?_
                        · rw [mR_3]
                          refine RepM.addAt r10.T rfl (by show s.T.na < 8; omega) hwv (by omega) ?_ ?_ ?_ ?_ ?_ ?_
                          · rw [hR]; exact q4
                          · rw [hR]; exact q5
                          · rw [hR]; exact q6
                          · rw [hR]; exact q7
                          · rw [hR]; exact q8
                          · rw [hR]; exact q9
                        · exact up_all (P := fun o : Nat → Nat => ∀ j, o j < 256) h.lnm (fun j => h0.lb _)
                      · right
                        exact ⟨hb10, f10.w (by unfold dLo; omega) (by omega)⟩
                    · have z9' : (tkOf b n).k i9 ≠ 59 := z9
                      rw [req, if_neg z9'] at p9
                      simp only [cl2, Nat.reduceAdd, k3 M10 f10.fr]
                      exact ⟨i2, i2, p9 _ (f10.w (by unfold dLo; omega) (by omega))⟩
                  · have hb9' : (tkOf b n).k i9 = 131 := hb9
                    rw [req, if_neg (by show ¬ (tkOf b n).k i9 = 59; omega)] at p9
                    refine F232 _ _ f9 ?_
                    have e : rf (tkOf b n) 2 (PS.s_T (PS.s_i s (i9)) ((Txt.s_amust (Txt.s_amany (Txt.s_asz (Txt.s_anm (Txt.s_anl (Txt.s_na s.T (s.T.na + 1)) (up s.T.anl s.T.na ((tkOf b n).v (s.i + 1)))) (up s.T.anm s.T.na (fun j => b ((tkOf b n).pl (s.i + 1) + j)))) (up s.T.asz s.T.na ((tkOf b n).v (s.i + 2)))) (up s.T.amany s.T.na mm)) (up s.T.amust s.T.na u)))) = (1, (tkOf b n).pl i9) := rf_bad hb9'
                    rw [e] at p9
                    exact p9
                -- a word of two is written down: rows behind it
                have wr : ∀ (c : Nat) (i9 : Nat) (u : Bool) (M9 : aM), c = 5 ∨ c = 6 → RM b n M0 (PS.s_i s (i9)) d o M9 → RM b n M0 (PS.s_i s (i9)) d o (wI M9 (136 + c) (16 + s.T.na) (bI u)) ∧ mR (wI M9 (136 + c) (16 + s.T.na) (bI u)) 2 = up (mR M9 2) c (up (mR M9 2 c) s.T.na (bI u)) := by
                  intro c i9 u M9 hc r9
                  have eR : mR (wI M9 (136 + c) (16 + s.T.na) (bI u)) 2 = up (mR M9 2) c (up (mR M9 2 c) s.T.na (bI u)) := mR_w rfl (by omega) (by rcases hc with rfl | rfl <;> rfl)
                  refine ⟨?_, eR⟩
                  refine RM.T2 (s := (PS.s_i s (i9))) (T' := s.T) r9 (r9.L.fr.w (by unfold dLo; omega)) (fun j _ => by rw [rw_n (by omega)]) ?_ r9.cn (Nat.le_refl _) r9.lnm
                  rw [eR]
                  refine RepM.at_ r9.T (fun c' hc' => by rw [up_n (by omega)]) (fun c' g1 g2 i hi => ?_) (fun i hi => by rw [up_n (by omega)]) (fun i hi => by rw [up_n (by omega)]) (by show s.T.na < 8; omega)
                  have hi2 : i < s.T.na := hi
                  by_cases q7 : c' = c
                  · subst q7; rw [up_s, up_n (by omega)]
                  · rw [up_n q7]
                have must : ∀ (i9 : Nat) (mm : Bool) (M9 : aM), AM b n M0 (PS.s_i s (i9)) d o M9 → ((tkOf b n).k i9 ≠ 131 → mR M9 2 4 s.T.na = nI ((tkOf b n).v (s.i + 2)) ∧ mR M9 2 7 s.T.na = 0 ∧ mR M9 2 8 s.T.na = nI ((tkOf b n).v (s.i + 1)) ∧ (∀ j, j < (tkOf b n).v (s.i + 1) → mR M9 2 9 (12 * s.T.na + j) = sx (b ((tkOf b n).pl (s.i + 1) + j))) ∧ mR M9 2 5 s.T.na = bI mm) → Ex (fun s' => ∀ M', AM b n M0 s' d o M' → post M') (fun f => ∀ M', FM b n M0 f M' → post M') (req (tkOf b n) 59 (PS.s_T (skp (tkOf b n) 3 (PS.s_i s (i9))).2 ((Txt.s_amust (Txt.s_amany (Txt.s_asz (Txt.s_anm (Txt.s_anl (Txt.s_na s.T (s.T.na + 1)) (up s.T.anl s.T.na ((tkOf b n).v (s.i + 1)))) (up s.T.anm s.T.na (fun j => b ((tkOf b n).pl (s.i + 1) + j)))) (up s.T.asz s.T.na ((tkOf b n).v (s.i + 2)))) (up s.T.amany s.T.na mm)) (up s.T.amust s.T.na (skp (tkOf b n) 3 (PS.s_i s (i9))).1))))) → w_Mo_readAttribute_J190 post 136 (nI (16 + s.T.na)) M9 := by
                  intro i9 mm M9 a9 hj p9
                  rcases a9 with r9 | ⟨hb9, f9⟩
                  · obtain ⟨q4, q7, q8, q9, q5⟩ := hj r9.L.nb
                    unfold w_Mo_readAttribute_J190
                    refine nb_t r9.L.fl ?_
                    refine m_isWord (j := 3) h0 r9.L (by omega) (by omega) ?_
                    have tail : ∀ u : Bool, w_Mo_readAttribute_J218 post 136 (nI (16 + s.T.na)) 142 (nI (16 + s.T.na)) (bI u) M9 ↔ ((vp_in (nI (16 + s.T.na)) 24 ∧ (bI u = 0 ∨ bI u = 1)) ∧ vp_in (nI (16 + s.T.na)) 24 ∧ ((bI u = 0 → w_Mo_readAttribute_J232 post 136 (wI M9 142 (16 + s.T.na) (bI u))) ∧ (¬ bI u = 0 → w_Mo_nextToken (fun M1 => w_Mo_readAttribute_J232 post 136 M1) 136 (wI M9 142 (16 + s.T.na) (bI u))))) := by
                      intro u
                      unfold w_Mo_readAttribute_J218
                      simp (disch := omega) only [Nat.reduceAdd, k6 M9 r9.L.fr, nI_clamp, rw_ss]
                    have w6 : ∀ u : Bool, mR (wI M9 142 (16 + s.T.na) (bI u)) 2 4 s.T.na = nI ((tkOf b n).v (s.i + 2)) ∧ mR (wI M9 142 (16 + s.T.na) (bI u)) 2 7 s.T.na = 0 ∧ mR (wI M9 142 (16 + s.T.na) (bI u)) 2 8 s.T.na = nI ((tkOf b n).v (s.i + 1)) ∧ (∀ j, j < (tkOf b n).v (s.i + 1) → mR (wI M9 142 (16 + s.T.na) (bI u)) 2 9 (12 * s.T.na + j) = sx (b ((tkOf b n).pl (s.i + 1) + j))) ∧ mR (wI M9 142 (16 + s.T.na) (bI u)) 2 5 s.T.na = bI mm ∧ mR (wI M9 142 (16 + s.T.na) (bI u)) 2 6 s.T.na = bI u := by
                      intro u
                      have eR : mR (wI M9 142 (16 + s.T.na) (bI u)) 2 = up (mR M9 2) 6 (up (mR M9 2 6) s.T.na (bI u)) := mR_6
                      rw [eR]
                      refine ⟨?_, ?_, ?_, ?_, ?_, ?_⟩
                      · rw [up_n (by omega)]; exact q4
                      · rw [up_n (by omega)]; exact q7
                      · rw [up_n (by omega)]; exact q8
                      · rw [up_n (by omega)]; exact q9
                      · rw [up_n (by omega)]; exact q5
                      · rw [up_s, up_s]
                    by_cases g3 : (tkOf b n).k i9 = 3
                    · rw [show (decide ((tkOf b n).k ((PS.s_i s (i9)) : PS).i = 3)) = true from decide_eq_true g3]
                      rw [skp, if_pos (show (tkOf b n).k ((PS.s_i s (i9)) : PS).i = 3 from g3)] at p9
                      refine br_f (by decide) ((tail true).2 ⟨⟨hin, Or.inr rfl⟩, hin, br_f (by decide) ?_⟩)
                      have r10 := (wr 6 i9 true M9 (Or.inr rfl) r9).1
                      refine m_nextR h0 r10 (by show (tkOf b n).k i9 ≠ 130; omega) (fun M11 ft11 a11 => ?_)
                      refine last (i9 + 1) mm true M11 a11 (fun _ => ?_) p9
                      rw [ft11.mR]
                      exact w6 true
                    · rw [show (decide ((tkOf b n).k ((PS.s_i s (i9)) : PS).i = 3)) = false from decide_eq_false g3]
                      rw [skp, if_neg (show ¬ (tkOf b n).k ((PS.s_i s (i9)) : PS).i = 3 from g3)] at p9
                      refine br_t rfl ?_
                      unfold w_Mo_readAttribute_J217
                      refine (tail false).2 ⟨⟨hin, Or.inl rfl⟩, hin, br_t rfl ?_⟩
                      exact last i9 mm false _ (Or.inl (wr 6 i9 false M9 (Or.inr rfl) r9).1) (fun _ => w6 false) p9
                  · have hb9' : (tkOf b n).k i9 = 131 := hb9
                    rw [skp, if_neg (show ¬ (tkOf b n).k ((PS.s_i s (i9)) : PS).i = 3 by show ¬ (tkOf b n).k i9 = 3; omega), req, if_neg (by show ¬ (tkOf b n).k i9 = 59; omega)] at p9
                    refine F190 _ _ f9 ?_
                    have p9' : ∀ M', FM b n M0 (rfi (tkOf b n) 2 i9) M' → post M' := p9
                    rw [rf_bad hb9'] at p9'
                    exact p9'
                refine m_nextR h0 r4 (by show (tkOf b n).k (s.i + 2) ≠ 130; omega) (fun M5 ft5 a5 => ?_)
                rcases a5 with r5 | ⟨hb5, f5⟩
                · refine nb_t r5.L.fl ?_
                  refine m_isWord (j := 2) h0 r5.L (by omega) (by omega) ?_
                  have tail : ∀ u : Bool, w_Mo_readAttribute_J176 post 136 (nI (16 + s.T.na)) 141 (nI (16 + s.T.na)) (bI u) M5 ↔ ((vp_in (nI (16 + s.T.na)) 24 ∧ (bI u = 0 ∨ bI u = 1)) ∧ vp_in (nI (16 + s.T.na)) 24 ∧ ((bI u = 0 → w_Mo_readAttribute_J190 post 136 (nI (16 + s.T.na)) (wI M5 141 (16 + s.T.na) (bI u))) ∧ (¬ bI u = 0 → w_Mo_nextToken (fun M1 => w_Mo_readAttribute_J190 post 136 (nI (16 + s.T.na)) M1) 136 (wI M5 141 (16 + s.T.na) (bI u))))) := by
                    intro u
                    unfold w_Mo_readAttribute_J176
                    simp (disch := omega) only [Nat.reduceAdd, k5 M5 r5.L.fr, nI_clamp, rw_ss]
                  have w5 : ∀ u : Bool, mR (wI M5 141 (16 + s.T.na) (bI u)) 2 4 s.T.na = nI ((tkOf b n).v (s.i + 2)) ∧ mR (wI M5 141 (16 + s.T.na) (bI u)) 2 7 s.T.na = 0 ∧ mR (wI M5 141 (16 + s.T.na) (bI u)) 2 8 s.T.na = nI ((tkOf b n).v (s.i + 1)) ∧ (∀ j, j < (tkOf b n).v (s.i + 1) → mR (wI M5 141 (16 + s.T.na) (bI u)) 2 9 (12 * s.T.na + j) = sx (b ((tkOf b n).pl (s.i + 1) + j))) ∧ mR (wI M5 141 (16 + s.T.na) (bI u)) 2 5 s.T.na = bI u := by
                    intro u
                    have eR : mR (wI M5 141 (16 + s.T.na) (bI u)) 2 = up (mR M5 2) 5 (up (mR M5 2 5) s.T.na (bI u)) := mR_5
                    rw [eR, ft5.mR]
                    refine ⟨?_, ?_, ?_, ?_, ?_⟩
                    · rw [up_n (by omega)]; exact j4
                    · rw [up_n (by omega)]; exact j7
                    · rw [up_n (by omega)]; exact j8
                    · rw [up_n (by omega)]; exact j9
                    · rw [up_s, up_s]
                  have r5' : RM b n M0 (PS.s_i s (s.i + 1 + 1 + 1)) d o M5 := r5
                  by_cases g2 : (tkOf b n).k (s.i + 1 + 1 + 1) = 2
                  · rw [show (decide ((tkOf b n).k s.st.st.st.i = 2)) = true from decide_eq_true g2]
                    rw [show skp (tkOf b n) 2 s.st.st.st = (true, s.st.st.st.st) by rw [skp, if_pos (by exact g2)]] at p
                    refine br_f (by decide) ((tail true).2 ⟨⟨hin, Or.inr rfl⟩, hin, br_f (by decide) ?_⟩)
                    have r10 := (wr 5 (s.i + 1 + 1 + 1) true M5 (Or.inl rfl) r5').1
                    refine m_nextR h0 r10 (by show (tkOf b n).k (s.i + 1 + 1 + 1) ≠ 130; omega) (fun M11 ft11 a11 => ?_)
                    refine must (s.i + 1 + 1 + 1 + 1) true M11 a11 (fun _ => ?_) p
                    rw [ft11.mR]
                    exact w5 true
                  · rw [show (decide ((tkOf b n).k s.st.st.st.i = 2)) = false from decide_eq_false g2]
                    rw [show skp (tkOf b n) 2 s.st.st.st = (false, s.st.st.st) by rw [skp, if_neg (by exact g2)]] at p
                    refine br_t rfl ?_
                    unfold w_Mo_readAttribute_J175
                    refine (tail false).2 ⟨⟨hin, Or.inl rfl⟩, hin, br_t rfl ?_⟩
                    exact must (s.i + 1 + 1 + 1) false _ (Or.inl (wr 5 (s.i + 1 + 1 + 1) false M5 (Or.inl rfl) r5').1) (fun _ => w5 false) p
                · have hb5' : (tkOf b n).k (s.i + 1 + 1 + 1) = 131 := hb5
                  refine nb_f f5.ne ?_
                  refine F175 _ _ f5 ?_
                  rw [show skp (tkOf b n) 2 s.st.st.st = (false, s.st.st.st) by rw [skp, if_neg (by show ¬ (tkOf b n).k (s.i + 1 + 1 + 1) = 2; omega)]] at p
                  dsimp only at p
                  rw [show skp (tkOf b n) 3 s.st.st.st = (false, s.st.st.st) by rw [skp, if_neg (by show ¬ (tkOf b n).k (s.i + 1 + 1 + 1) = 3; omega)], req, if_neg (by show ¬ (tkOf b n).k (s.i + 1 + 1 + 1) = 59; omega)] at p
                  have p9' : ∀ M', FM b n M0 (rfi (tkOf b n) 2 (s.i + 1 + 1 + 1)) M' → post M' := p
                  rw [rf_bad hb5'] at p9'
                  exact p9'
            · rw [if_pos g129] at p
              refine nb_f (fun z => g129 ((m_ty2 r3.L).1 z)) ?_
              unfold w_Mo_readAttribute_J93
              refine m_need (bb := false) h0 r3.L (fun z => by cases z) (fun _ M4 f4 => ?_)
              exact nb_f f4.ne (F122 _ _ f4 p)
          · have hb3' : (tkOf b n).k (s.i + 2) = 131 := hb3
            rw [if_pos (by omega)] at p
            have e : rf (tkOf b n) 2 s.st.st = (1, (tkOf b n).pl (s.i + 1 + 1)) := rf_bad hb3'
            rw [e] at p
            exact ⟨fun _ => F93 _ _ _ f3 p, fun _ => F93 _ _ _ f3 p⟩
        · rw [if_pos (by rw [z2]; simp)] at p
          exact m_bad h0 r1.L (fun M2 f2 => F49 _ _ f2 (p M2 f2))
      · have z1' : (tkOf b n).k (s.i + 1) ≠ 128 := of_decide_eq_false z1
        rw [if_pos z1'] at p
        exact nb_f f2.ne (F49 _ _ f2 (p M2 f2))
    · have hb1' : (tkOf b n).k (s.i + 1) = 131 := hb1
      rw [if_pos (by omega)] at p
      have e : rf (tkOf b n) 2 s.st = (1, (tkOf b n).pl (s.i + 1)) := rf_bad hb1'
      rw [e] at p
      exact m_isNameF h0 f1 (fun bb => m_needF f1 (nb_f f1.ne (F49 _ _ f1 (p M1 f1))))
  · rw [fAttr, if_pos (by omega)] at p
    exact m_bad h0 h.L (fun M1 f1 => F16 _ _ f1 (p M1 f1))
end MA
