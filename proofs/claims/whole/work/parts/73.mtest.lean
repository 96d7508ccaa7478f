/-! THE MODEL'S READER, V: a test. -/
theorem up_up {α : Type} {f : Nat → α} {k : Nat} {x y : α} : up (up f k x) k y = up f k y := by
  funext i
  by_cases g : i = k
  · subst g; rw [up_s, up_s]
  · rw [up_n g, up_n g, up_n g]
/-- another kind for test p, its list empty -/
theorem RepM.kind {R : Nat → Nat → Int32} {T : Txt} {g : Nat → Nat} {p c : Nat} {x : Int32} (m : RepM R T g) (hp : p < T.np) (hk : T.pk p = 16) (hn : T.pnum p = 0) (hc : 16 ≤ c) (hx : x = nI (mkK c)) : RepM (up R 16 (up (R 16) p x)) (Txt.s_pk T (up T.pk p c)) g :=
  ⟨m.na,
      m.lna,
      m.asz,
      m.lasz,
      m.amany,
      m.amust,
      m.bag,
      m.anl,
      m.lanl,
      m.anm,
      m.nn,
      m.lnn,
      m.srt,
      m.way,
      m.fa,
      m.root,
      m.nnl,
      m.lnnl,
      m.nnm,
      m.np,
      m.lnp,
      em_set (φ := fun k => nI (mkK k)) m.pk hx,
      fun i hi h16 => by
      by_cases q : i = p
      · subst q; exact m.pa i hi (by rw [hk]; omega)
      · have h2 : 16 ≤ up T.pk p c i := h16
        rw [up_n q] at h2
        exact m.pa i hi h2,
      fun i hi => by
      show Nm (up T.pk p c i) (T.pnum i) (R 18 i) (R 19 i)
      by_cases q : i = p
      · subst q
        have h := m.pnum i hi
        rw [hk, Nm, if_neg (by omega)] at h
        rw [up_s, Nm]
        split
        · exact ⟨[], by show 0 ≤ 8; omega, fun v hv => (by cases hv), by rw [h.1, hn]; rfl, by rw [h.2]; rfl, hn⟩
        · exact h
      · rw [up_n q]; exact m.pnum i hi,
      m.pf,
      m.pn,
      m.dn,
      m.cm,
      m.ldn,
      m.nd,
      m.lnd,
      m.dof,
      m.dfor,
      m.dnum⟩
/-- another number for part p, no list -/
theorem RepM.num {R : Nat → Nat → Int32} {T : Txt} {g : Nat → Nat} {p v : Nat} {x : Int32} (m : RepM R T g) (hk : T.pk p ≠ 17 ∧ T.pk p ≠ 18) (hx : x = nI v) : RepM (up R 18 (up (R 18) p x)) (Txt.s_pnum T (up T.pnum p v)) g :=
  ⟨m.na,
      m.lna,
      m.asz,
      m.lasz,
      m.amany,
      m.amust,
      m.bag,
      m.anl,
      m.lanl,
      m.anm,
      m.nn,
      m.lnn,
      m.srt,
      m.way,
      m.fa,
      m.root,
      m.nnl,
      m.lnnl,
      m.nnm,
      m.np,
      m.lnp,
      m.pk,
      m.pa,
      fun i hi => by
      show Nm (T.pk i) (up T.pnum p v i) (up (R 18) p x i) (R 19 i)
      by_cases q : i = p
      · subst q
        have h := m.pnum i hi
        rw [Nm, if_neg (by omega)] at h
        rw [up_s, up_s, Nm, if_neg (by omega)]
        exact ⟨hx, h.2⟩
      · rw [up_n q, up_n q]; exact m.pnum i hi,
      m.pf,
      m.pn,
      m.dn,
      m.cm,
      m.ldn,
      m.nd,
      m.lnd,
      m.dof,
      m.dfor,
      m.dnum⟩
/-- another kind for the test p -/
theorem repM_kind {R : Nat → Nat → Int32} {T : Txt} {g : Nat → Nat} {p c : Nat} {x : Int32} {f f' w : Nat → Nat} (m : RepM R (Txt.s_pa (Txt.s_pk T (f)) (w)) g) (hk : f p = 16) (hn : T.pnum p = 0) (hc : 16 ≤ c) (hx : x = nI (mkK c)) (h1 : f' p = c) (h2 : ∀ i, i ≠ p → f' i = f i) : RepM (up R 16 (up (R 16) p x)) (Txt.s_pa (Txt.s_pk T (f')) (w)) g := by
  have m_na : R 3 0 = nI T.na := m.na
  have m_lna : T.na ≤ 8 := m.lna
  have m_asz : ∀ i, i < T.na → R 4 i = nI (T.asz i) := m.asz
  have m_lasz : ∀ i, i < T.na → T.asz i ≤ 8 := m.lasz
  have m_amany : ∀ i, i < T.na → R 5 i = bI (T.amany i) := m.amany
  have m_amust : ∀ i, i < T.na → R 6 i = bI (T.amust i) := m.amust
  have m_bag : ∀ i, i < T.na → R 7 i = nI (g i) := m.bag
  have m_anl : ∀ i, i < T.na → R 8 i = nI (T.anl i) := m.anl
  have m_lanl : ∀ i, i < T.na → T.anl i ≤ 12 := m.lanl
  have m_anm : ∀ i, i < T.na → ∀ j, j < T.anl i → R 9 (12 * i + j) = sx (T.anm i j) := m.anm
  have m_nn : R 10 0 = nI T.nn := m.nn
  have m_lnn : T.nn ≤ 100 := m.lnn
  have m_srt : ∀ i, i < T.nn → R 11 i = nI (T.srt i) := m.srt
  have m_way : ∀ i, i < T.nn → R 12 i = oI (T.way i) := m.way
  have m_fa : ∀ i, i < T.nn → R 13 i = oI (T.fa i) := m.fa
  have m_root : ∀ i, i < T.nn → R 14 i = oI (T.root i) := m.root
  have m_nnl : ∀ i, i < T.nn → R 8 (8 + i) = nI (T.nnl i) := m.nnl
  have m_lnnl : ∀ i, i < T.nn → T.nnl i ≤ 12 := m.lnnl
  have m_nnm : ∀ i, i < T.nn → ∀ j, j < T.nnl i → R 9 (12 * (8 + i) + j) = sx (T.nnm i j) := m.nnm
  have m_np : R 15 0 = nI T.np := m.np
  have m_lnp : T.np ≤ 400 := m.lnp
  have m_pk : ∀ i, i < T.np → R 16 i = nI (mkK (f i)) := m.pk
  have m_pa : ∀ i, i < T.np → 16 ≤ f i → R 17 i = nI (w i) := m.pa
  have m_pnum : ∀ i, i < T.np → Nm (f i) (T.pnum i) (R 18 i) (R 19 i) := m.pnum
  have m_pf : ∀ i, i < T.np → R 20 i = oI (T.pf i) := m.pf
  have m_pn : ∀ i, i < T.np → R 21 i = oI (T.pn i) := m.pn
  have m_dn : ∀ j, j < T.dn.length → R 22 j = nI (T.dn.getD j 0) := m.dn
  have m_cm : R 23 0 = nI T.dn.length := m.cm
  have m_ldn : T.dn.length ≤ T.np := m.ldn
  have m_nd : R 24 0 = nI T.nd := m.nd
  have m_lnd : T.nd ≤ 100 := m.lnd
  have m_dof : ∀ i, i < T.nd → R 25 i = nI (T.dof i) := m.dof
  have m_dfor : ∀ i, i < T.nd → R 26 i = nI (T.dfor i) := m.dfor
  have m_dnum : ∀ i, i < T.nd → R 27 i = nI (T.dnum i) := m.dnum
  exact ⟨m_na,
    m_lna,
    m_asz,
    m_lasz,
    m_amany,
    m_amust,
    m_bag,
    m_anl,
    m_lanl,
    m_anm,
    m_nn,
    m_lnn,
    m_srt,
    m_way,
    m_fa,
    m_root,
    m_nnl,
    m_lnnl,
    m_nnm,
    m_np,
    m_lnp,
    (fun i hi => by
    show up (R 16) p x i = nI (mkK (f' i))
    by_cases q : i = p
    · subst q; rw [up_s, h1, hx]
    · rw [up_n q, h2 i q]; exact m_pk i hi),
    (fun i hi h16 => by
    have h3 : 16 ≤ f' i := h16
    by_cases q : i = p
    · subst q; exact m_pa i hi (by rw [hk]; omega)
    · rw [h2 i q] at h3
      exact m_pa i hi h3),
    (fun i hi => by
    show Nm (f' i) (T.pnum i) (R 18 i) (R 19 i)
    have h := m_pnum i hi
    by_cases q : i = p
    · subst q
      rw [hk, Nm, if_neg (by omega)] at h
      rw [h1, Nm]
      split
      · exact ⟨[], by show 0 ≤ 8; omega, fun v hv => (by cases hv), by rw [h.1, hn]; rfl, by rw [h.2]; rfl, hn⟩
      · exact h
    · rw [h2 i q]; exact h),
    m_pf,
    m_pn,
    m_dn,
    m_cm,
    m_ldn,
    m_nd,
    m_lnd,
    m_dof,
    m_dfor,
    m_dnum⟩
section MT
variable {b : Nat → Nat} {n : Nat} {M0 M : aM} {s : PS} {d o e : Nat} {f : Fl} {σ : List Fr}
/-- another state, with another text -/
theorem RS.k3 {s' : PS} {M' : aM} {e' : Nat} (h : RS b n M0 s σ e M) (hi : s'.i = s.i) (ho : s'.os = s.os) (hod : s'.od = s.od) (hf : FrM M0 M') (h30 : ∀ j, j < 40 → rI M' 136 j = rI M 136 j) (hT : RepM (mR M' 2) s'.T (fun _ => 0)) (hc : s'.T.dn.length + (opS σ + e') ≤ s'.T.np) (hn : s.T.nn ≤ s'.T.nn) (hm : ∀ i j, s'.T.anm i j < 256) (hk : Ks M M') (hN : s.T.np ≤ s'.T.np) : RS b n M0 s' σ e' M' := by
  have r := RM.T2 (T' := s'.T) (o' := opS σ + e') h.R hf h30 hT hc hn hm
  have L : LM b n M0 s.i M' := r.L
  have D : rI M' 136 39 = nI (s.od + (σ.length - 1)) := r.dp
  refine ⟨⟨by rw [hi]; exact L, hT, by rw [hod]; exact D, by rw [hod]; exact h.R.ld, hc, fun a ha => ?_, hm⟩, by rw [hk.2]; exact h.h, h.k.ks hk hN, h.l⟩
  rw [ho] at ha
  exact Nat.lt_of_lt_of_le (h.R.los a ha) hn
theorem m_395 {post : aM → Prop} {p : Nat} (h0 : TpM b n M0) (hw : wfS σ) (hp : p < s.T.np) (a : AS b n M0 s σ 1 M) (q : ∀ M', AS b n M0 (giveS p σ (cmpl p s)).2 (giveS p σ (cmpl p s)).1 0 M' → post M') : w_Mo_readTest_J395 post 136 (nI p) M := by
  unfold w_Mo_readTest_J395
  rcases a with r | ⟨hb, f'⟩
  · refine nb_t r.R.L.fl ?_
    refine m_complete (p := p) (o := opS σ) h0 r.R (fun M1 s1 r1 => ?_)
    exact m_give (p := p) h0 (e := 0) ⟨r1, by rw [s1.2]; exact r.h, r.k.ks s1 (Nat.le_refl _), r.l⟩ hw hp (fun M2 r2 => q M2 (Or.inl r2))
  · refine nb_f f'.ne (q M (Or.inr ⟨?_, ?_⟩))
    · rw [(giveS_i σ (cmpl p s) p).1]; exact hb
    · rw [(giveS_i σ (cmpl p s) p).1]; exact f'
theorem m_395F {post : aM → Prop} {p : Nat} (h : FM b n M0 f M) (q : post M) : w_Mo_readTest_J395 post 136 (nI p) M := by
  unfold w_Mo_readTest_J395
  exact nb_f h.ne q
theorem m_test {post : aM → Prop} (h0 : TpM b n M0) (h : RS b n M0 s σ 0 M) (hw : wfS σ) (hk : (tkOf b n).k s.i = 128) (p : Ex (fun q => ∀ M', AS b n M0 (giveS q.1 σ q.2).2 (giveS q.1 σ q.2).1 0 M' → post M') (fun f => ∀ M', FM b n M0 f M' → post M') (fTest (tkOf b n) s)) : w_Mo_readTest post 136 M := by
  unfold w_Mo_readTest
  refine m_here h0 h.R hk ?_
  have h8 := h.R.T.lna
  cases ho : hereN (tkOf b n) s with
  | none =>
    rw [fTest_no ho] at p
    refine nb_t rfl (m_bad h0 h.R.L (fun M1 f1 => ?_))
    unfold w_Mo_readTest_J15
    exact m_newPartF f1 (br_f f1.ne (p M1 f1))
  | some a =>
    have ha := hereN_lt ho
    refine nb_f (show ¬ oI (some a) = -1 from nI_m1 (by omega)) ?_
    show w_Mo_readTest_J15 post 136 (nI a) M
    unfold w_Mo_readTest_J15
    refine m_newPart0 h0 h.R (fun z => ?_) (fun z M1 f1 => ?_)
    · rw [fTest_eq ho z] at p
      generalize hq : s.T.np = q at z p ⊢
      have lq : q < 400 := z
      have hin : vp_in (nI (800 + q)) 1200 := vin (by omega)
      obtain ⟨s0, hs0⟩ : ∃ x : PS, x = ((PS.s_T s (addPt s.T 128)) : PS) := ⟨_, rfl⟩
      rw [← hs0] at p
      have i0 : s0.i = s.i := by rw [hs0]
      have np0 : s0.T.np = q + 1 := by rw [hs0, ← hq]; rfl
      have pn0 : s0.T.pnum q = 0 := by rw [hs0, ← hq]; exact up_s
      have na0 : s0.T.na = s.T.na := by rw [hs0]; rfl
      have az0 : s0.T.asz = s.T.asz := by rw [hs0]; rfl
      -- the new test, of the kind 'has' for now
      obtain ⟨s1, hs1⟩ : ∃ x : PS, x = setT q 16 a s0 := ⟨_, rfl⟩
      have T1 : s1.T = (Txt.s_pa (Txt.s_pk s0.T (up s0.T.pk q 16)) (up s0.T.pa q a)) := by rw [hs1]; rfl
      have i1 : s1.i = s0.i := by rw [hs1]; rfl
      have os1 : s1.os = s0.os := by rw [hs1]; rfl
      have od1 : s1.od = s0.od := by rw [hs1]; rfl
      clear hs1
      have os0 : s0.os = s.os := by rw [hs0]
      have od0 : s0.od = s.od := by rw [hs0]
      have T0 : s0.T = addPt s.T 128 := by rw [hs0]
      clear hs0
      have dn1 : s1.T.dn = s.T.dn := by rw [T1]; show s0.T.dn = _; rw [T0]; rfl
      have np1 : s1.T.np = q + 1 := by rw [T1]; exact np0
      have nn1 : s1.T.nn = s.T.nn := by rw [T1]; show s0.T.nn = _; rw [T0]; rfl
      have anm1 : s1.T.anm = s.T.anm := by rw [T1]; show s0.T.anm = _; rw [T0]; rfl
      have r1 : RS b n M0 s1 σ 1 (wI (wI (wI (wI (wI (wI (wI (wI M 151 2 (nI (q + 1))) 152 (800 + q) 3) 153 (800 + q) (-1)) 154 (800 + q) 0) 155 (800 + q) 0) 156 (800 + q) (-1)) 157 (800 + q) (-1)) 153 (800 + q) (nI a)) := by
        have m2 := repM_addTs (a := a) h.R.T (by rw [hq]; exact lq)
        refine RS.k3 h (i1.trans i0) (os1.trans os0) (od1.trans od0) ?_ ?_ ?_ ?_ (by rw [nn1]; exact Nat.le_refl _) (by rw [anm1]; exact h.R.lnm) ?_ (by rw [np1, hq]; exact Nat.le_succ _)
        · exact (((((((h.R.L.fr.w (by unfold dLo; omega)).w (by unfold dLo; omega)).w (by unfold dLo; omega)).w (by unfold dLo; omega)).w (by unfold dLo; omega)).w (by unfold dLo; omega)).w (by unfold dLo; omega)).w (by unfold dLo; omega)
        · intro j hj
          simp (disch := omega) only [rw_n]
        · rw [T1, T0]
          simp only [mR_15, mR_16, mR_17, mR_18, mR_19, mR_20, mR_21]
          rw [hq] at m2
          exact m2
        · have := h.R.cn
          rw [dn1, np1]
          omega
        · exact (((((((Ks.refl.w (by omega)).w (by omega)).w (by omega)).w (by omega)).w (by omega)).w (by omega)).w (by omega)).w (by omega)
      have fl1 : rI (wI (wI (wI (wI (wI (wI (wI M 151 2 (nI (q + 1))) 152 (800 + q) 3) 153 (800 + q) (-1)) 154 (800 + q) 0) 155 (800 + q) 0) 156 (800 + q) (-1)) 157 (800 + q) (-1)) 136 38 = -1 := by
        simp (disch := omega) only [rw_n]; exact h.R.L.fl
      have e148 : rI (wI (wI (wI (wI (wI (wI (wI (wI M 151 2 (nI (q + 1))) 152 (800 + q) 3) 153 (800 + q) (-1)) 154 (800 + q) 0) 155 (800 + q) 0) 156 (800 + q) (-1)) 157 (800 + q) (-1)) 153 (800 + q) (nI a)) 154 (800 + q) = 0 := by
        simp (disch := omega) only [rw_n, rw_ss]
      have e149 : rI (wI (wI (wI (wI (wI (wI (wI (wI M 151 2 (nI (q + 1))) 152 (800 + q) 3) 153 (800 + q) (-1)) 154 (800 + q) 0) 155 (800 + q) 0) 156 (800 + q) (-1)) 157 (800 + q) (-1)) 153 (800 + q) (nI a)) 155 (800 + q) = 0 := by
        simp (disch := omega) only [rw_n, rw_ss]
      refine br_t fl1 ?_
      have k7 : (rK M 153).2 = 1200 := m_K h0 h.R.L.fr 152 1200
      simp (disch := omega) only [Nat.reduceAdd, kw_I, k7, a800, nI_clamp]
      refine ⟨hin, ?_⟩
      clear fl1
      generalize hM1 : wI (wI (wI (wI (wI (wI (wI (wI M 151 2 (nI (q + 1))) 152 (800 + q) 3) 153 (800 + q) (-1)) 154 (800 + q) 0) 155 (800 + q) 0) 156 (800 + q) (-1)) 157 (800 + q) (-1)) 153 (800 + q) (nI a) = M1 at r1 e148 e149 ⊢
      clear hM1
      have hk2 : (tkOf b n).k s.i ≠ 130 := by omega
      refine m_nextR h0 r1.R (by rw [i1, i0]; omega) (fun M2 ft2 a2 => ?_)
      have F127 : ∀ (f : Fl) (M' : aM) (v4 v5 s1' : Int32), FM b n M0 f M' → post M' → w_Mo_readTest_J127 post 136 (nI a) (nI q) (nI (800 + q)) v4 v5 136 s1' M' := by
        intro f M' v4 v5 s1' f' p'
        unfold w_Mo_readTest_J127
        exact m_needF f' (br_f f'.ne p')
      rcases a2 with r2 | ⟨hb2, f2⟩
      · have r2' : RS b n M0 s1.st σ 1 M2 := ⟨r2, by rw [ft2.ks.2]; exact r1.h, r1.k.ks ft2.ks (Nat.le_refl _), r1.l⟩
        have x148 : rI M2 154 (800 + q) = 0 := by rw [ft2.2.2.2.1 154 (by omega), e148]
        have x149 : rI M2 155 (800 + q) = 0 := by rw [ft2.2.2.2.1 155 (by omega), e149]
        have hc : (tkOf b n).k (s0.i + 1) = (tkOf b n).k (s.i + 1) := by rw [i0]
        have p3 := p
        clear p
        generalize hcc : (tkOf b n).k (s.i + 1) = c at p3 hc
        have l2 : LM b n M0 (s0.i + 1) M2 := by have l : LM b n M0 (s1.i + 1) M2 := r2.L; rw [i1] at l; exact l
        have k16 : (rK M2 152).2 = 1200 := m_K h0 l2.fr 151 1200
        obtain ⟨s2, hs2⟩ : ∃ x : PS, x = setT q c a s0.st := ⟨_, rfl⟩
        rw [← hs2] at p3
        unfold fTc at p3
        have T2 : s2.T = (Txt.s_pa (Txt.s_pk s0.T (up s0.T.pk q c)) (up s0.T.pa q a)) := by rw [hs2]; rfl
        have i2 : s2.i = s0.i + 1 := by rw [hs2]; rfl
        have os2 : s2.os = s0.os := by rw [hs2]; rfl
        have od2 : s2.od = s0.od := by rw [hs2]; rfl
        have hc2 : (tkOf b n).k s2.i = c := by rw [i2]; exact hc
        have np2 : s2.T.np = q + 1 := by rw [T2]; exact np0
        have pk2 : s2.T.pk q = c := by rw [T2]; exact up_s
        have na2 : s2.T.na = s.T.na := by rw [T2]; exact na0
        have az2 : s2.T.asz = s.T.asz := by rw [T2]; exact az0
        have dn2 : s2.T.dn = s.T.dn := by rw [T2]; show s0.T.dn = _; rw [T0]; rfl
        have nn2 : s2.T.nn = s.T.nn := by rw [T2]; show s0.T.nn = _; rw [T0]; rfl
        have anm2 : s2.T.anm = s.T.anm := by rw [T2]; show s0.T.anm = _; rw [T0]; rfl
        -- the kind is laid down
        have kd : ∀ (x : Int32), 16 ≤ c → x = nI (mkK c) → RS b n M0 s2 σ 1 (wI M2 152 (800 + q) x) := by
          intro x h16 hx
          have m2 : RepM (mR M2 2) s1.T (fun _ => 0) := r2'.R.T
          rw [T1] at m2
          have m3 := repM_kind (p := q) (c := c) (x := x) (f' := up s0.T.pk q c) m2 up_s pn0 h16 hx up_s (fun i hi => by rw [up_n hi, up_n hi])
          have cn := r2'.R.cn
          have cn' : s1.T.dn.length + (opS σ + 1) ≤ s1.T.np := cn
          refine RS.k3 r2' (by show s2.i = s1.i + 1; rw [i2, i1]) (by show s2.os = s1.os; rw [os2, os1]) (by show s2.od = s1.od; rw [od2, od1]) (l2.fr.w (by unfold dLo; omega)) (fun j hj => by rw [rw_n (by omega)]) (by rw [T2, mR_16]; exact m3) ?_ (by show s1.T.nn ≤ s2.T.nn; rw [nn1, nn2]; exact Nat.le_refl _) (by rw [anm2]; exact h.R.lnm) (Ks.refl.w (by omega)) (by show s1.T.np ≤ s2.T.np; rw [np1, np2]; exact Nat.le_refl _)
          rw [dn2, np2]
          rw [dn1, np1] at cn'
          exact cn'
        clear hs2
        -- behind the last token of a test with a number
        have nm : ∀ (v : Nat) (s3 : PS) (M3 : aM) (y : Int32), s3.T.np = q + 1 → s3.T.pk q = c → c ≠ 17 → c ≠ 18 → (tkOf b n).k s3.i ≠ 130 → RS b n M0 s3 σ 1 M3 → y = nI v → (∀ M', AS b n M0 (giveS q σ (cmpl q (setNum q v s3.st))).2 (giveS q σ (cmpl q (setNum q v s3.st))).1 0 M' → post M') → w_Mo_nextToken (fun M4 => w_Mo_readTest_J395 post 136 (nI q) M4) 136 (wI M3 154 (800 + q) y) := by
          intro v s3 M3 y np3 pk3 c17 c18 hk3 r3 hy q3
          have r4 : RS b n M0 (setNum q v s3) σ 1 (wI M3 154 (800 + q) y) := by
            refine RS.ks r3 (RM.T2 r3.R (r3.R.L.fr.w (by unfold dLo; omega)) (fun j hj => by rw [rw_n (by omega)]) ?_ r3.R.cn (Nat.le_refl _) r3.R.lnm) (Ks.refl.w (by omega)) (Nat.le_refl _)
            rw [mR_18]
            exact RepM.num r3.R.T (by rw [pk3]; exact ⟨c17, c18⟩) hy
          refine m_nextS h0 r4 hk3 (fun M4 a4 => ?_)
          exact m_395 (s := setNum q v s3.st) h0 hw (by show q < s3.T.np; omega) a4 q3
        have nmF : ∀ (f : Fl) (M3 : aM) (y : Int32), FM b n M0 f M3 → (∀ M', FM b n M0 f M' → post M') → w_Mo_nextToken (fun M4 => w_Mo_readTest_J395 post 136 (nI q) M4) 136 (wI M3 154 (800 + q) y) := by
          intro f M3 y f3 q3
          have f4 := f3.w (k := 154) (j := 800 + q) (x := y) (by unfold dLo; omega) (by omega)
          exact m_nextF f4 (m_395F f4 (q3 _ f4))
        have kN : ∀ M3, FrM M0 M3 → (rK M3 154).2 = 1200 := fun M3 fr => m_K h0 fr 153 1200
        -- 'has' and 'is'
        have t371 : ∀ x : Int32, c = 16 ∨ c = 20 → x = nI (mkK c) → w_Mo_readTest_J371 post 136 (nI a) (nI q) (nI (800 + q)) 152 (nI (800 + q)) x M2 := by
          intro x hcx hx
          rw [if_pos hcx] at p3
          have q3 := Ex_bind p3
          unfold w_Mo_readTest_J371
          rw [k16, nI_clamp (by omega)]
          refine ⟨hin, ?_⟩
          have r3 := kd x (by omega) hx
          refine m_nextR h0 r3.R (by omega) (fun M4 ft4 a4 => ?_)
          rw [fNum] at q3
          have hi4 : (tkOf b n).k (s2.i + 1) = (tkOf b n).k (s2.i + 1) := rfl
          rcases a4 with r4 | ⟨hb4, f4⟩
          · have r4' : RS b n M0 s2.st σ 1 M4 := ⟨r4, by rw [ft4.ks.2]; exact r3.h, r3.k.ks ft4.ks (Nat.le_refl _), r3.l⟩
            have az : s2.st.T.asz a = s.T.asz a := by show s2.T.asz a = _; rw [az2]
            refine m_value (a := a) h0 r4 (by show a < s2.T.na; omega) (fun z M5 f5 => ?_) (fun z z1 M5 f5 => ?_) (fun z z1 => ?_)
            · have z' : (tkOf b n).k (s2.i + 1) ≠ 129 := z
              rw [if_pos z'] at q3
              simp (disch := omega) only [Nat.reduceAdd, kN M5 f5.fr, nI_clamp]
              exact ⟨hin, nmF _ _ _ f5 q3⟩
            · have z' : (tkOf b n).k (s2.i + 1) = 129 := z
              rw [az] at z1
              have z1' : s.T.asz a ≤ (tkOf b n).v (s2.i + 1) := z1
              rw [if_neg (fun g => g z'), if_pos z1'] at q3
              simp (disch := omega) only [Nat.reduceAdd, kN M5 f5.fr, nI_clamp]
              exact ⟨hin, nmF _ _ _ f5 q3⟩
            · have z' : (tkOf b n).k (s2.i + 1) = 129 := z
              rw [az] at z1
              have z1' : (tkOf b n).v (s2.i + 1) < s.T.asz a := z1
              rw [if_neg (fun g => g z'), if_neg (by omega)] at q3
              simp (disch := omega) only [Nat.reduceAdd, kN M4 r4.L.fr, nI_clamp]
              refine ⟨hin, nm ((tkOf b n).v (s2.i + 1)) s2.st _ _ np2 pk2 (by omega) (by omega) (by show (tkOf b n).k (s2.i + 1) ≠ 130; omega) r4' (r4.L.num z') q3⟩
          · have hb4' : (tkOf b n).k (s2.i + 1) = 131 := hb4
            rw [if_pos (by omega)] at q3
            refine m_valueF f4 ?_
            simp (disch := omega) only [Nat.reduceAdd, kN M4 f4.fr, nI_clamp]
            refine ⟨hin, nmF _ _ _ f4 ?_⟩
            have e : rf (tkOf b n) 2 s2.st = (1, (tkOf b n).pl (s2.i + 1)) := rf_bad hb4'
            rw [e] at q3
            exact q3
        -- less, equal, more
        have t179 : ∀ x : Int32, c = 60 ∨ c = 61 ∨ c = 62 → x = nI (mkK c) → w_Mo_readTest_J179 post 136 (nI q) (nI (800 + q)) 152 (nI (800 + q)) x M2 := by
          intro x hcx hx
          rw [if_neg (by omega), if_neg (by omega), if_pos hcx] at p3
          have q3 := Ex_bind p3
          unfold w_Mo_readTest_J179
          rw [k16, nI_clamp (by omega)]
          refine ⟨hin, ?_⟩
          have r3 := kd x (by omega) hx
          refine m_nextR h0 r3.R (by omega) (fun M4 ft4 a4 => ?_)
          rw [fNum] at q3
          rcases a4 with r4 | ⟨hb4, f4⟩
          · have r4' : RS b n M0 s2.st σ 1 M4 := ⟨r4, by rw [ft4.ks.2]; exact r3.h, r3.k.ks ft4.ks (Nat.le_refl _), r3.l⟩
            by_cases g : (tkOf b n).k (s2.i + 1) = 129
            · refine nb_t ((m_ty2 r4.L).2 g) ?_
              unfold w_Mo_readTest_J198
              refine m_need (bb := true) h0 r4.L (fun _ => ?_) (fun z => by cases z)
              have hv := tk_num r4.L.li g
              have hv2 : (tkOf b n).v (s2.i + 1) < 1000 := hv
              rw [if_neg (fun z => z g), if_neg (by omega)] at q3
              simp (disch := omega) only [Nat.reduceAdd, kN M4 r4.L.fr, nI_clamp]
              exact ⟨hin, nm ((tkOf b n).v (s2.i + 1)) s2.st _ _ np2 pk2 (by omega) (by omega) (by show (tkOf b n).k (s2.i + 1) ≠ 130; omega) r4' (r4.L.num g) q3⟩
            · refine nb_f (fun z => g ((m_ty2 r4.L).1 z)) ?_
              unfold w_Mo_readTest_J198
              refine m_need (bb := false) h0 r4.L (fun z => by cases z) (fun _ M5 f5 => ?_)
              rw [if_pos g] at q3
              simp (disch := omega) only [Nat.reduceAdd, kN M5 f5.fr, nI_clamp]
              exact ⟨hin, nmF _ _ _ f5 q3⟩
          · have hb4' : (tkOf b n).k (s2.i + 1) = 131 := hb4
            rw [if_pos (by omega)] at q3
            have e : rf (tkOf b n) 2 s2.st = (1, (tkOf b n).pl (s2.i + 1)) := rf_bad hb4'
            rw [e] at q3
            have F198 : ∀ y : Int32, w_Mo_readTest_J198 post 136 (nI q) (nI (800 + q)) 136 y M4 := by
              intro y
              unfold w_Mo_readTest_J198
              refine m_needF f4 ?_
              simp (disch := omega) only [Nat.reduceAdd, kN M4 f4.fr, nI_clamp]
              exact ⟨hin, nmF _ _ _ f4 q3⟩
            exact ⟨fun _ => F198 _, fun _ => F198 _⟩
        -- lists
        have t246 : ∀ x : Int32, c = 17 ∨ c = 18 → x = nI (mkK c) → w_Mo_readTest_J246 post 136 (nI a) (nI q) (nI (800 + q)) 152 (nI (800 + q)) x M2 := by
          intro x hcx hx
          rw [if_neg (by omega), if_pos hcx] at p3
          have q3 := Ex_bind p3
          unfold w_Mo_readTest_J246
          rw [k16, nI_clamp (by omega)]
          refine ⟨hin, ?_⟩
          have r3 := kd x (by omega) hx
          have az : s.T.asz a = s2.T.asz a := by rw [az2]
          rw [az] at q3
          refine m_list (p := q) (a := a) (e := 1) h0 r3 (by omega) (by omega) (by rw [pk2]; exact hcx) (by rw [rw_n (by omega), x148]) (by rw [rw_n (by omega), x149]) (by show a < s2.T.na; omega) ?_
          refine Ex_mono (Ex_and q3 (fList_ad _ _)) (fun z hz M4 a4 => ?_) (fun f hf M4 f4 => m_395F f4 (hf.1 M4 f4))
          obtain ⟨hz1, iz, hz2⟩ := hz
          refine m_395 h0 hw ?_ a4 hz1
          show q < z.2.T.np
          rw [hz2]
          show q < s2.T.np
          omega
        -- which it is
        unfold w_Mo_readTest_J66
        have go : ∀ v4 : Int32, (∀ m, m < 6 → c = 16 + m → v4 = nI m) → ((c < 16 ∨ 22 ≤ c) → v4 = -1) → ((¬ (rI M2 136 38) = ((-1 : Int32))) → w_Mo_readTest_J107 post 136 (nI a) (nI q) (nI (800 + q)) v4 M2) ∧ (¬ (¬ (rI M2 136 38) = ((-1 : Int32))) → w_Mo_is (fun x1 => ((¬ x1 = ((0 : Int32))) → w_Mo_readTest_J103 post 136 (nI a) (nI q) (nI (800 + q)) v4 M2) ∧ (¬ (¬ x1 = ((0 : Int32))) → w_Mo_is (fun x2 => ((¬ x2 = ((0 : Int32))) → w_Mo_readTest_J103 post 136 (nI a) (nI q) (nI (800 + q)) v4 M2) ∧ (¬ (¬ x2 = ((0 : Int32))) → w_Mo_is (fun x3 => ((x3 = ((0 : Int32))) → w_Mo_readTest_J107 post 136 (nI a) (nI q) (nI (800 + q)) v4 M2) ∧ (¬ (x3 = ((0 : Int32))) → w_Mo_readTest_J103 post 136 (nI a) (nI q) (nI (800 + q)) v4 M2)) 136 ((62 : Int32)) M2)) 136 ((61 : Int32)) M2)) 136 ((60 : Int32)) M2) := by
          intro v4 hv1 hv2
          refine nb_t l2.fl ?_
          -- a sign that counts
          have cnt : c = 60 ∨ c = 61 ∨ c = 62 → w_Mo_readTest_J103 post 136 (nI a) (nI q) (nI (800 + q)) v4 M2 := by
            intro hcx
            rw [hv2 (by omega)]
            unfold w_Mo_readTest_J103 w_Mo_readTest_J108
            refine nb_t rfl (br_f (by decide) ?_)
            unfold w_Mo_readTest_J122 w_Mo_readTest_J127
            refine m_need (bb := true) h0 l2 (fun _ => ?_) (fun z => by cases z)
            refine br_t l2.fl (br_f (by decide) ?_)
            refine m_is h0 l2 (c := 60) rfl ?_
            rw [hc]
            by_cases g : c = 60
            · rw [decide_eq_true g]
              exact br_f (by decide) (t179 6 hcx (by rw [g]; rfl))
            · rw [decide_eq_false g]
              refine br_t rfl ?_
              refine m_is h0 l2 (c := 61) rfl ?_
              rw [hc]
              by_cases g2 : c = 61
              · rw [decide_eq_true g2]
                exact br_f (by decide) (t179 7 hcx (by rw [g2]; rfl))
              · rw [decide_eq_false g2]
                exact br_t rfl (t179 8 hcx (by rw [show c = 62 by omega]; rfl))
          refine m_is h0 l2 (c := 60) rfl ?_
          rw [hc]
          by_cases g60 : c = 60
          · rw [decide_eq_true g60]; exact nb_f (by decide) (cnt (by omega))
          rw [decide_eq_false g60]
          refine nb_t rfl ?_
          refine m_is h0 l2 (c := 61) rfl ?_
          rw [hc]
          by_cases g61 : c = 61
          · rw [decide_eq_true g61]; exact nb_f (by decide) (cnt (by omega))
          rw [decide_eq_false g61]
          refine nb_t rfl ?_
          refine m_is h0 l2 (c := 62) rfl ?_
          rw [hc]
          by_cases g62 : c = 62
          · rw [decide_eq_true g62]; exact br_f (by decide) (cnt (by omega))
          rw [decide_eq_false g62]
          refine br_t rfl ?_
          unfold w_Mo_readTest_J107 w_Mo_readTest_J108
          by_cases gw : c < 16 ∨ 22 ≤ c
          · rw [hv2 gw]
            refine nb_t rfl (br_t rfl ?_)
            rw [if_neg (by omega), if_neg (by omega), if_neg (by omega), if_neg (by omega), if_neg (by omega)] at p3
            unfold w_Mo_readTest_J127
            refine m_need (bb := false) h0 l2 (fun z => by cases z) (fun _ M5 f5 => br_f f5.ne (p3 M5 ?_))
            have e : rf (tkOf b n) 2 s2 = rfi (tkOf b n) 2 (s0.i + 1) := by rw [rf, i2]
            rw [e]
            exact f5
          · have hm : ∃ m, m < 6 ∧ c = 16 + m := ⟨c - 16, by omega, by omega⟩
            obtain ⟨m, hm1, hm2⟩ := hm
            rw [hv1 m hm1 hm2]
            refine nb_f (nI_m1 (by omega)) ?_
            unfold w_Mo_readTest_J122 w_Mo_readTest_J127
            refine m_need (bb := true) h0 l2 (fun _ => ?_) (fun z => by cases z)
            refine br_t l2.fl (br_t rfl ?_)
            have hm3 : m = 0 ∨ m = 1 ∨ m = 2 ∨ m = 3 ∨ m = 4 ∨ m = 5 := by omega
            rcases hm3 with rfl | rfl | rfl | rfl | rfl | rfl
            · exact br_f (by decide) (nb_f (by decide) (nb_f (by decide) (nb_f (by decide) (nb_t rfl (t371 3 (by omega) (by rw [hm2]; rfl))))))
            · refine br_t rfl ?_
              unfold w_Mo_readTest_J230
              exact nb_t rfl (t246 4 (by omega) (by rw [hm2]; rfl))
            · refine br_f (by decide) (nb_t rfl ?_)
              unfold w_Mo_readTest_J230
              exact nb_f (by decide) (t246 5 (by omega) (by rw [hm2]; rfl))
            · refine br_f (by decide) (nb_f (by decide) (nb_t rfl ?_))
              -- 'meets'
              rw [if_neg (by omega), if_neg (by omega), if_neg (by omega), if_pos (by omega)] at p3
              have q3 := Ex_bind p3
              simp (disch := omega) only [Nat.reduceAdd, k16, nI_clamp]
              refine ⟨hin, ?_⟩
              have r3 := kd 9 (by omega) (by rw [hm2]; rfl)
              refine m_nextR h0 r3.R (by omega) (fun M4 ft4 a4 => ?_)
              rw [fOther] at q3
              have F303 : ∀ (f : Fl) (M5 : aM) (y : Int32), FM b n M0 f M5 → (∀ M', FM b n M0 f M' → post M') → w_Mo_readTest_J303 post 136 (nI q) (nI (800 + q)) 154 (nI (800 + q)) y M5 := by
                intro f M5 y f5 q5
                have f6 := f5.w (k := 154) (j := 800 + q) (x := y) (by unfold dLo; omega) (by omega)
                unfold w_Mo_readTest_J303
                rw [kN M5 f5.fr, nI_clamp (by omega)]
                refine ⟨hin, nb_f f6.ne ?_⟩
                unfold w_Mo_readTest_J327
                exact m_nextF f6 (m_395F f6 (q5 _ f6))
              rcases a4 with r4 | ⟨hb4, f4⟩
              · have r4' : RS b n M0 s2.st σ 1 M4 := ⟨r4, by rw [ft4.ks.2]; exact r3.h, r3.k.ks ft4.ks (Nat.le_refl _), r3.l⟩
                refine m_isName h0 r4.L ?_
                refine m_need h0 r4.L (fun z => ?_) (fun z M5 f5 => ?_)
                · have z' : (tkOf b n).k (s2.i + 1) = 128 := of_decide_eq_true z
                  rw [if_neg (fun g => g z')] at q3
                  refine nb_t r4.L.fl ?_
                  refine m_here h0 r4 z' ?_
                  have hl2 : ∀ k, hereN (tkOf b n) s2.st = some k → k < s2.T.na := fun k hk => hereN_lt (s := s2.st) hk
                  revert q3 hl2
                  generalize hereN (tkOf b n) s2.st = oo
                  intro q3 hl2
                  unfold w_Mo_readTest_J303
                  rw [kN M4 r4.L.fr, nI_clamp (by omega)]
                  refine ⟨hin, nb_t (by rw [rw_n (by omega)]; exact r4.L.fl) ?_⟩
                  simp (disch := omega) only [Nat.reduceAdd, kN M4 r4.L.fr, rw_ss]
                  refine ⟨hin, ?_⟩
                  unfold w_Mo_readTest_J327
                  cases oo with
                  | none =>
                    refine nb_t rfl ?_
                    -- no such attribute: the fault is here
                    have f6 : w_Mo_bad (fun M1 => w_Mo_nextToken (fun M2 => w_Mo_readTest_J395 post 136 (nI q) M2) 136 M1) 136 3 (wI M4 154 (800 + q) (oI none)) := by
                      have lq : LM b n M0 (s2.i + 1) (wI M4 154 (800 + q) (oI none)) := by
                        have l := r4.L
                        have e30 : ∀ j, rI (wI M4 154 (800 + q) (oI none)) 136 j = rI M4 136 j := fun j => by rw [rw_n (by omega)]
                        refine ⟨l.fr.w (by unfold dLo; omega), l.li, l.nb, ?_, ?_, ?_, ?_, ?_, ?_, ?_, ?_⟩
                        · rw [e30]; exact l.fl
                        · rw [e30]; exact l.fk
                        · rw [e30]; exact l.at_
                        · rw [e30]; exact l.ty
                        · rw [e30]; exact l.sz
                        · rw [e30]; exact l.szb
                        · rw [e30]; exact l.num
                        · rw [e30]; exact l.ps
                      exact m_bad h0 lq (fun M5 f5 => m_nextF f5 (m_395F f5 (q3 M5 f5)))
                    exact f6
                  | some a2 =>
                    have ha2 := hl2 a2 rfl
                    refine nb_f (show ¬ oI (some a2) = -1 from nI_m1 (by omega)) ?_
                    exact nm a2 s2.st _ _ np2 pk2 (by omega) (by omega) (by show (tkOf b n).k (s2.i + 1) ≠ 130; omega) r4' rfl q3
                · have z' : (tkOf b n).k (s2.i + 1) ≠ 128 := of_decide_eq_false z
                  rw [if_pos z'] at q3
                  exact nb_f f5.ne (F303 _ _ _ f5 q3)
              · have hb4' : (tkOf b n).k (s2.i + 1) = 131 := hb4
                rw [if_pos (by omega)] at q3
                have e : rf (tkOf b n) 2 s2.st = (1, (tkOf b n).pl (s2.i + 1)) := rf_bad hb4'
                rw [e] at q3
                exact m_isNameF h0 f4 (fun bb => m_needF f4 (nb_f f4.ne (F303 _ _ _ f4 q3)))
            · exact br_f (by decide) (nb_f (by decide) (nb_f (by decide) (nb_f (by decide) (nb_f (by decide) (t371 10 (by omega) (by rw [hm2]; rfl))))))
            · refine br_f (by decide) (nb_f (by decide) (nb_f (by decide) (nb_t rfl ?_)))
              -- 'none'
              rw [if_neg (by omega), if_neg (by omega), if_neg (by omega), if_neg (by omega), if_pos (by omega)] at p3
              simp (disch := omega) only [Nat.reduceAdd, k16, nI_clamp]
              refine ⟨hin, ?_⟩
              have r3 := kd 11 (by omega) (by rw [hm2]; rfl)
              refine m_nextS h0 r3 (by omega) (fun M4 a4 => ?_)
              exact m_395 h0 hw (by show q < s2.T.np; omega) a4 p3
        refine nb_t l2.fl ?_
        refine m_among am55 h0 l2 (fun m hm1 hm2 => ?_) (fun hm2 => ?_)
        · exact go (nI m) (fun m' hm' e' => by rw [hc] at hm2; rw [show m' = m by omega]) (fun e' => by rw [hc] at hm2; omega)
        · exact go (-1) (fun m' hm' e' => by rw [hc] at hm2; omega) (fun _ => rfl)
      · have hb3 : (tkOf b n).k (s0.i + 1) = 131 := by have x : (tkOf b n).k (s1.i + 1) = 131 := hb2; rw [i1] at x; exact x
        have hb2' : (tkOf b n).k (s.i + 1) = 131 := by rw [← i0]; exact hb3
        refine nb_f f2.ne ?_
        unfold w_Mo_readTest_J66
        refine nb_f f2.ne ?_
        unfold w_Mo_readTest_J107 w_Mo_readTest_J108
        refine nb_t rfl (br_t rfl ?_)
        unfold fTc at p
        rw [if_neg (by omega), if_neg (by omega), if_neg (by omega), if_neg (by omega), if_neg (by omega)] at p
        refine F127 _ _ _ _ _ f2 (p M2 ?_)
        have e : rf (tkOf b n) 2 (setT q ((tkOf b n).k (s.i + 1)) a s0.st) = (1, (tkOf b n).pl (s0.i + 1)) := rf_bad (i := s0.i + 1) hb3
        rw [e]
        have f3 : FM b n M0 (1, (tkOf b n).pl (s1.i + 1)) M2 := f2
        rw [i1] at f3
        exact f3
    · rw [fTest_full ho z] at p
      exact br_f f1.ne (p M1 f1)
end MT
