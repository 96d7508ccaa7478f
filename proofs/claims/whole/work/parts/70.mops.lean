/-! THE MODEL'S READER, II: new nodes, parts, duties; completing and joining. -/
section MO
variable {b : Nat → Nat} {n : Nat} {M0 M : aM} {s : PS} {d o : Nat} {f : Fl}
theorem m_newNode {post : Int32 → aM → Prop} {so : Nat} {os : Option Nat} {x y : Int32} (h0 : TpM b n M0) (h : RM b n M0 s d o M) (p : Ex (fun q => ∀ M', RM b n M0 q.2 d o M' → post (nI q.1) M') (fun f => ∀ M', FM b n M0 f M' → post 0 M') (fNode (tkOf b n) so s)) (hx : x = nI so := by rfl) (hy : y = oI s.os := by rfl) : w_Mo_newNode post 136 x y M := by
  subst hx hy
  have m := h.T
  have lnn := m.lnn
  have k1 : (rK M 146).2 = 3 := m_K h0 h.L.fr 145 3
  have k2 : (rK M 147).2 = 300 := m_K h0 h.L.fr 146 300
  have k3 : (rK M 148).2 = 300 := m_K h0 h.L.fr 147 300
  have k4 : (rK M 149).2 = 300 := m_K h0 h.L.fr 148 300
  have k5 : (rK M 150).2 = 300 := m_K h0 h.L.fr 149 300
  have k6 : (rK M 144).2 = 324 := m_K h0 h.L.fr 143 324
  have e0 : rI M 146 2 = nI s.T.nn := m.nn
  have i2 : vp_in 2 3 := pk_in 2 3 (by omega)
  unfold w_Mo_newNode
  simp only [cl2, Nat.reduceAdd, k1, e0]
  refine ⟨i2, pk_ne s.T.nn 100 (fun z => ?_) (fun z => ?_)⟩
  · rw [fNode, if_neg (by omega)] at p
    have hi : vp_in (nI (200 + s.T.nn)) 300 := vin (by omega)
    have e8 : (108 : Int32) * 2 + ((8 : Int32) + nI s.T.nn) = nI (216 + (8 + s.T.nn)) := by rw [a8, n216]
    simp (disch := omega) only [w_Mo_newNode_J39, w_Mo_newNode_J46, w_Mo_newNode_J53, w_Mo_newNode_J60, w_Mo_newNode_J67, w_Mo_nameOf, Nat.reduceAdd, kw_I, k2, k3, k4, k5, k6, nI_1, a200, m200, nI_clamp, e8]
    refine ⟨i2, i2, i2, hi, hi, hi, hi, nb_f (by decide) ⟨vin (by omega), ?_⟩⟩
    refine p _ (h.T2 ?_ ?_ ?_ ?_ ?_ ?_)
    · exact (((((h.L.fr.w (by unfold dLo; omega)).w (by unfold dLo; omega)).w (by unfold dLo; omega)).w (by unfold dLo; omega)).w (by unfold dLo; omega)).w (by unfold dLo; omega)
    · intro j hj
      simp (disch := omega) only [rw_n]
    · simp only [mR_10, mR_11, mR_12, mR_13, mR_14, mR_8]
      exact m.addNd (by omega)
    · have e1 : (addNd s.T so s.os).dn = s.T.dn := by unfold addNd; cases s.os <;> rfl
      have e2 : (addNd s.T so s.os).np = s.T.np := by unfold addNd; cases s.os <;> rfl
      rw [e1, e2]; exact h.cn
    · rw [addNd_nn]; omega
    · rw [addNd_anm]; exact h.lnm
  · rw [fNode, if_pos (by omega)] at p
    exact m_bad h0 h.L p
/-- a new part: the rows behind it -/
theorem m_newPart0 {post : Int32 → aM → Prop} {x : Int32} (h0 : TpM b n M0) (h : RM b n M0 s d o M) (p1 : s.T.np < 400 → post (nI s.T.np) (wI (wI (wI (wI (wI (wI (wI M 151 2 (nI (s.T.np + 1))) 152 (800 + s.T.np) x) 153 (800 + s.T.np) (-1)) 154 (800 + s.T.np) 0) 155 (800 + s.T.np) 0) 156 (800 + s.T.np) (-1)) 157 (800 + s.T.np) (-1))) (p2 : 400 ≤ s.T.np → ∀ M', FM b n M0 (rfi (tkOf b n) 5 s.i) M' → post 0 M') : w_Mo_newPart post 136 x M := by
  have m := h.T
  have lnp := m.lnp
  have k1 : (rK M 151).2 = 3 := m_K h0 h.L.fr 150 3
  have k2 : (rK M 152).2 = 1200 := m_K h0 h.L.fr 151 1200
  have k3 : (rK M 153).2 = 1200 := m_K h0 h.L.fr 152 1200
  have k4 : (rK M 154).2 = 1200 := m_K h0 h.L.fr 153 1200
  have k5 : (rK M 155).2 = 1200 := m_K h0 h.L.fr 154 1200
  have k6 : (rK M 156).2 = 1200 := m_K h0 h.L.fr 155 1200
  have k7 : (rK M 157).2 = 1200 := m_K h0 h.L.fr 156 1200
  have e0 : rI M 151 2 = nI s.T.np := m.np
  have i2 : vp_in 2 3 := pk_in 2 3 (by omega)
  unfold w_Mo_newPart
  refine nb_t h.L.fl ?_
  simp only [cl2, Nat.reduceAdd, k1, e0]
  refine ⟨i2, pk_ne s.T.np 400 (fun z => ?_) (fun z => ?_)⟩
  · unfold w_Mo_newPart_J25
    refine br_t h.L.fl ?_
    have hi : vp_in (nI (800 + s.T.np)) 1200 := vin (by omega)
    simp (disch := omega) only [w_Mo_newPart_J56, w_Mo_newPart_J63, w_Mo_newPart_J70, w_Mo_newPart_J77, w_Mo_newPart_J84, w_Mo_newPart_J91, w_Mo_newPart_J98, cl2, Nat.reduceAdd, kw_I, k1, k2, k3, k4, k5, k6, k7, e0, nI_1, a800, m800, nI_clamp]
    exact ⟨i2, i2, i2, hi, hi, hi, hi, hi, hi, p1 (by omega)⟩
  · refine m_bad h0 h.L (fun M' f' => ?_)
    unfold w_Mo_newPart_J25
    exact br_f f'.ne (p2 (by omega) M' f')
theorem m_newPartF {post : Int32 → aM → Prop} {x : Int32} (h : FM b n M0 f M) (p : post 0 M) : w_Mo_newPart post 136 x M := by
  unfold w_Mo_newPart
  refine nb_f h.ne ?_
  unfold w_Mo_newPart_J25
  exact br_f h.ne p
theorem m_newPart {post : Int32 → aM → Prop} {kd : Nat} {x : Int32} (h0 : TpM b n M0) (h : RM b n M0 s d o M) (hk : kd < 16) (p : Ex (fun q => ∀ M', Ks M M' → RM b n M0 q.2 d (o + 1) M' → post (nI q.1) M') (fun f => ∀ M', FM b n M0 f M' → post 0 M') (fPart1 (tkOf b n) kd s)) (hx : x = nI (mkK kd) := by rfl) : w_Mo_newPart post 136 x M := by
  subst hx
  refine m_newPart0 h0 h (fun z => ?_) (fun z => ?_)
  · rw [fPart1, if_neg (by omega)] at p
    refine p _ (((((((Ks.refl.w (by omega)).w (by omega)).w (by omega)).w (by omega)).w (by omega)).w (by omega)).w (by omega)) (h.T2 ?_ ?_ ?_ ?_ (Nat.le_refl _) h.lnm)
    · exact ((((((h.L.fr.w (by unfold dLo; omega)).w (by unfold dLo; omega)).w (by unfold dLo; omega)).w (by unfold dLo; omega)).w (by unfold dLo; omega)).w (by unfold dLo; omega)).w (by unfold dLo; omega)
    · intro j hj
      simp (disch := omega) only [rw_n]
    · simp only [mR_15, mR_16, mR_17, mR_18, mR_19, mR_20, mR_21]
      exact h.T.addPt z hk
    · have := h.cn
      show s.T.dn.length + (o + 1) ≤ s.T.np + 1
      omega
  · rw [fPart1, if_pos z] at p
    exact p
theorem m_newDuty {post : aM → Prop} {ow dc : Nat} {x y : Int32} (h0 : TpM b n M0) (h : RM b n M0 s d o M) (p : Ex (fun s' => ∀ M', AM b n M0 s' d o M' → post M') (fun f => ∀ M', FM b n M0 f M' → post M') (fDutyN (tkOf b n) ow dc s)) (hx : x = nI ow := by rfl) (hy : y = nI dc := by rfl) : w_Mo_newDuty post 136 x y M := by
  subst hx hy
  have m := h.T
  have lnd := m.lnd
  have k1 : (rK M 160).2 = 3 := m_K h0 h.L.fr 159 3
  have k2 : (rK M 161).2 = 300 := m_K h0 h.L.fr 160 300
  have k3 : (rK M 162).2 = 300 := m_K h0 h.L.fr 161 300
  have k4 : (rK M 163).2 = 300 := m_K h0 h.L.fr 162 300
  have e0 : rI M 160 2 = nI s.T.nd := m.nd
  have i2 : vp_in 2 3 := pk_in 2 3 (by omega)
  have F41 : ∀ (f : Fl) (M' : aM), FM b n M0 f M' → post M' → w_Mo_newDuty_J41 post 136 (nI ow) (nI dc) M' := by
    intro f M' f' p'
    unfold w_Mo_newDuty_J41
    exact br_f f'.ne p'
  have hty : (rI M 136 34 = 2) ↔ (tkOf b n).k s.i = 129 := by
    rw [h.L.ty, show (2 : Int32) = nI 2 from rfl, nI_eq (by have := tyK_lt ((tkOf b n).k s.i); omega) (by omega), tyK]
    split
    · rename_i g; constructor <;> (intro; omega)
    · split
      · rename_i g; exact ⟨fun _ => g, fun _ => rfl⟩
      · split <;> (rename_i g1 g2; constructor <;> (intro; omega))
  unfold w_Mo_newDuty
  by_cases g : (tkOf b n).k s.i = 129
  · rw [fDutyN, if_neg (by omega)] at p
    refine nb_t (hty.2 g) ?_
    unfold w_Mo_newDuty_J14
    refine m_need (bb := true) h0 h.L (fun _ => ?_) (fun z => by cases z)
    refine nb_t h.L.fl ?_
    simp only [cl2, Nat.reduceAdd, k1, e0]
    refine ⟨i2, pk_ne s.T.nd 100 (fun z => ?_) (fun z => ?_)⟩
    · rw [if_neg (by omega)] at p
      unfold w_Mo_newDuty_J41
      refine br_t h.L.fl ?_
      have hi : vp_in (nI (200 + s.T.nd)) 300 := vin (by omega)
      have e37 : rI M 136 37 = nI ((tkOf b n).v s.i) := h.L.num g
      simp (disch := omega) only [w_Mo_newDuty_J71, w_Mo_newDuty_J78, w_Mo_newDuty_J85, w_Mo_newDuty_J95, cl2, Nat.reduceAdd, kw_I, k1, k2, k3, k4, e0, nI_1, a200, nI_clamp, rw_n, e37]
      refine ⟨i2, i2, i2, hi, hi, hi, ?_⟩
      have r1 : RM b n M0 (PS.s_T s (addDt s.T ow dc ((tkOf b n).v s.i))) d o (wI (wI (wI (wI M 160 2 (nI (s.T.nd + 1))) 161 (200 + s.T.nd) (nI ow)) 162 (200 + s.T.nd) (nI dc)) 163 (200 + s.T.nd) (nI ((tkOf b n).v s.i))) := by
        refine h.T2 ?_ ?_ ?_ h.cn (Nat.le_refl _) h.lnm
        · exact (((h.L.fr.w (by unfold dLo; omega)).w (by unfold dLo; omega)).w (by unfold dLo; omega)).w (by unfold dLo; omega)
        · intro j hj
          simp (disch := omega) only [rw_n]
        · simp only [mR_24, mR_25, mR_26, mR_27]
          exact m.addDt (by omega)
      exact m_nextR h0 r1 (by show (tkOf b n).k s.i ≠ 130; omega) (fun M' _ a' => p M' a')
    · rw [if_pos (by omega)] at p
      exact m_bad h0 h.L (fun M' f' => F41 _ _ f' (p M' f'))
  · rw [fDutyN, if_pos g] at p
    refine nb_f (fun z => g (hty.1 z)) ?_
    unfold w_Mo_newDuty_J14
    refine m_need (bb := false) h0 h.L (fun z => by cases z) (fun _ M' f' => ?_)
    exact nb_f f'.ne (F41 _ _ f' (p M' f'))
theorem m_newDutyF {post : aM → Prop} {x y : Int32} (h : FM b n M0 f M) (p : post M) : w_Mo_newDuty post 136 x y M := by
  have F14 : ∀ z : Int32, w_Mo_newDuty_J14 post 136 x y 136 z M := by
    intro z
    unfold w_Mo_newDuty_J14
    refine m_needF h (nb_f h.ne ?_)
    unfold w_Mo_newDuty_J41
    exact br_f h.ne p
  unfold w_Mo_newDuty
  exact ⟨fun _ => F14 _, fun _ => F14 _⟩
theorem m_complete {post : aM → Prop} {p : Nat} {x : Int32} (h0 : TpM b n M0) (h : RM b n M0 s d (o + 1) M) (q : ∀ M', Ks M M' → RM b n M0 (cmpl p s) d o M' → post M') (hx : x = nI p := by rfl) : w_Mo_complete post 136 x M := by
  subst hx
  have m := h.T
  have lnp := m.lnp
  have cn := h.cn
  have k1 : (rK M 159).2 = 3 := m_K h0 h.L.fr 158 3
  have k2 : (rK M 158).2 = 1200 := m_K h0 h.L.fr 157 1200
  have e0 : rI M 159 2 = nI s.T.dn.length := m.cm
  have i2 : vp_in 2 3 := pk_in 2 3 (by omega)
  unfold w_Mo_complete
  simp (disch := omega) only [cl2, Nat.reduceAdd, kw_I, k1, k2, e0, nI_1, a800, nI_clamp, rw_n]
  refine ⟨i2, vin (by omega), i2, i2, q _ ((Ks.refl.w (by omega)).w (by omega)) (h.T2 ?_ ?_ ?_ ?_ (Nat.le_refl _) h.lnm)⟩
  · exact (h.L.fr.w (by unfold dLo; omega)).w (by unfold dLo; omega)
  · intro j hj
    simp (disch := omega) only [rw_n]
  · simp only [mR_22, mR_23]
    exact m.cmpl (by omega)
  · show (s.T.dn ++ [p]).length + o ≤ s.T.np
    rw [List.length_append]
    show s.T.dn.length + 1 + o ≤ _
    omega
/-- the first member -/
theorem m_joinF {post : aM → Prop} {p c : Nat} {x y z : Int32} (h0 : TpM b n M0) (h : RM b n M0 s d o M) (hp : p < s.T.np) (q : ∀ M', Ks M M' → RM b n M0 (PS.s_T s ((Txt.s_pf s.T (up s.T.pf p (some c))))) d o M' → post M') (hx : x = nI p := by rfl) (hy : y = -1 := by rfl) (hz : z = nI c := by rfl) : w_Mo_join post 136 x y z M := by
  subst hx hy hz
  have m := h.T
  have lnp := m.lnp
  have k1 : (rK M 156).2 = 1200 := m_K h0 h.L.fr 155 1200
  unfold w_Mo_join
  refine nb_t rfl ?_
  simp (disch := omega) only [Nat.reduceAdd, k1, a800, nI_clamp]
  refine ⟨vin (by omega), q _ (Ks.refl.w (by omega)) (h.T2 (h.L.fr.w (by unfold dLo; omega)) ?_ ?_ h.cn (Nat.le_refl _) h.lnm)⟩
  · intro j hj
    simp (disch := omega) only [rw_n]
  · simp only [mR_20]
    exact ⟨m.na,
      m.lna,
      m.asz,
      m.lasz,
      m.amany,
      m.amust,
      m.bag,
      m.anl,
      m.lanl,
      m.anm,
      m.nn,
      m.lnn,
      m.srt,
      m.way,
      m.fa,
      m.root,
      m.nnl,
      m.lnnl,
      m.nnm,
      m.np,
      m.lnp,
      m.pk,
      m.pa,
      m.pnum,
      em_set m.pf rfl,
      m.pn,
      m.dn,
      m.cm,
      m.ldn,
      m.nd,
      m.lnd,
      m.dof,
      m.dfor,
      m.dnum⟩
/-- a further member -/
theorem m_joinN {post : aM → Prop} {l c : Nat} {x y z : Int32} (h0 : TpM b n M0) (h : RM b n M0 s d o M) (hp : l < s.T.np) (q : ∀ M', Ks M M' → RM b n M0 (PS.s_T s ((Txt.s_pn s.T (up s.T.pn l (some c))))) d o M' → post M') (hy : y = nI l := by rfl) (hz : z = nI c := by rfl) : w_Mo_join post 136 x y z M := by
  subst hy hz
  have m := h.T
  have lnp := m.lnp
  have k1 : (rK M 157).2 = 1200 := m_K h0 h.L.fr 156 1200
  unfold w_Mo_join
  refine nb_f (nI_m1 (by omega)) ?_
  simp (disch := omega) only [Nat.reduceAdd, k1, a800, nI_clamp]
  refine ⟨vin (by omega), q _ (Ks.refl.w (by omega)) (h.T2 (h.L.fr.w (by unfold dLo; omega)) ?_ ?_ h.cn (Nat.le_refl _) h.lnm)⟩
  · intro j hj
    simp (disch := omega) only [rw_n]
  · simp only [mR_21]
    exact ⟨m.na,
      m.lna,
      m.asz,
      m.lasz,
      m.amany,
      m.amust,
      m.bag,
      m.anl,
      m.lanl,
      m.anm,
      m.nn,
      m.lnn,
      m.srt,
      m.way,
      m.fa,
      m.root,
      m.nnl,
      m.lnnl,
      m.nnm,
      m.np,
      m.lnp,
      m.pk,
      m.pa,
      m.pnum,
      m.pf,
      em_set m.pn rfl,
      m.dn,
      m.cm,
      m.ldn,
      m.nd,
      m.lnd,
      m.dof,
      m.dfor,
      m.dnum⟩
theorem RM.pj {x : Nat → Nat} (h : RM b n M0 s d o M) : RM b n M0 (PS.s_T s ((Txt.s_pj s.T (x)))) d o M := ⟨h.L, h.T.pj, h.dp, h.ld, h.cn, h.los, h.lnm⟩
end MO
/-- a frame of the pile: a negation, or what is joined by or and by and -/
abbrev Fr : Type := Option Nat × (Option Nat × Option Nat) × (Option Nat × Option Nat)
def fr0 : Fr := (none, (none, none), (none, none))
def oN (o : Option Nat) : Nat := match o with
  | none => 0
  | some _ => 1
/-- parts of a frame that are open -/
def opF (f : Fr) : Nat := oN f.1 + oN f.2.1.1 + oN f.2.2.1
def opS : List Fr → Nat
  | [] => 0
  | f :: l => opF f + opS l
def ltO (N : Nat) (o : Option Nat) : Prop := ∀ p, o = some p → p < N
/-- the pile in the model's rows -/
def SkR (M : aM) (N : Nat) : List Fr → Prop
  | [] => True
  | f :: l => (rI M 167 l.length = oI f.1 ∧ rI M 168 l.length = oI f.2.1.1 ∧ rI M 169 l.length = oI f.2.1.2 ∧ rI M 170 l.length = oI f.2.2.1 ∧ rI M 171 l.length = oI f.2.2.2) ∧ (ltO N f.1 ∧ ltO N f.2.1.1 ∧ ltO N f.2.1.2 ∧ ltO N f.2.2.1 ∧ ltO N f.2.2.2) ∧ SkR M N l
theorem SkR.mono {M M' : aM} {N N' : Nat} (hN : N ≤ N') : ∀ {l : List Fr}, SkR M N l → (∀ k, 167 ≤ k → k ≤ 171 → ∀ j, j < l.length → rI M' k j = rI M k j) → SkR M' N' l
  | [], _, _ => trivial
  | f :: l, h, e => by
    obtain ⟨⟨h1, h2, h3, h4, h5⟩, ⟨g1, g2, g3, g4, g5⟩, h6⟩ := h
    have hl : l.length < (f :: l).length := Nat.lt_succ_self _
    refine ⟨⟨?_, ?_, ?_, ?_, ?_⟩, ⟨fun p hp => Nat.lt_of_lt_of_le (g1 p hp) hN, fun p hp => Nat.lt_of_lt_of_le (g2 p hp) hN, fun p hp => Nat.lt_of_lt_of_le (g3 p hp) hN, fun p hp => Nat.lt_of_lt_of_le (g4 p hp) hN, fun p hp => Nat.lt_of_lt_of_le (g5 p hp) hN⟩, SkR.mono hN h6 (fun k k1 k2 j hj => e k k1 k2 j (Nat.lt_succ_of_lt hj))⟩
    · rw [e _ (by omega) (by omega) _ hl]; exact h1
    · rw [e _ (by omega) (by omega) _ hl]; exact h2
    · rw [e _ (by omega) (by omega) _ hl]; exact h3
    · rw [e _ (by omega) (by omega) _ hl]; exact h4
    · rw [e _ (by omega) (by omega) _ hl]; exact h5
/-- the model stands where the function stands, with a pile -/
def RS (b : Nat → Nat) (n : Nat) (M0 : aM) (s : PS) (σ : List Fr) (e : Nat) (M : aM) : Prop := (RM b n M0 s (s.od + (σ.length - 1)) (opS σ + e) M) ∧ (rI M 136 40 = nI σ.length) ∧ (SkR M s.T.np σ) ∧ (σ.length ≤ 21)
theorem RS.R {b : Nat → Nat} {n : Nat} {M0 : aM} {s : PS} {σ : List Fr} {e : Nat} {M : aM} (h : RS b n M0 s σ e M) : RM b n M0 s (s.od + (σ.length - 1)) (opS σ + e) M := h.1
theorem RS.h {b : Nat → Nat} {n : Nat} {M0 : aM} {s : PS} {σ : List Fr} {e : Nat} {M : aM} (h : RS b n M0 s σ e M) : rI M 136 40 = nI σ.length := h.2.1
theorem RS.k {b : Nat → Nat} {n : Nat} {M0 : aM} {s : PS} {σ : List Fr} {e : Nat} {M : aM} (h : RS b n M0 s σ e M) : SkR M s.T.np σ := h.2.2.1
theorem RS.l {b : Nat → Nat} {n : Nat} {M0 : aM} {s : PS} {σ : List Fr} {e : Nat} {M : aM} (h : RS b n M0 s σ e M) : σ.length ≤ 21 := h.2.2.2
theorem SkR.ks {M M' : aM} {N N' : Nat} {l : List Fr} (h : SkR M N l) (hk : Ks M M') (hN : N ≤ N') : SkR M' N' l := SkR.mono hN h (fun k k1 _ j _ => by rw [hk.1 k k1])
/-- giving a part to the pile -/
def giveS : Nat → List Fr → PS → List Fr × PS
  | _, [], s => ([], s)
  | p, f :: l, s => match f.1 with
    | some x => giveS x l (cmpl x (PS.s_T s ((Txt.s_pj (Txt.s_pf s.T (up s.T.pf x (some p))) (up s.T.pj x 1)))))
    | none => match f.2.2.1 with
      | none => ((none, f.2.1, (none, some p)) :: l, s)
      | some j => ((none, f.2.1, (some j, some p)) :: l, (PS.s_T s ((Txt.s_pj (Txt.s_pn s.T (up s.T.pn (f.2.2.2.getD 0) (some p))) (up s.T.pj j (s.T.pj j + 1))))))
