/-! THE MODEL'S READER, III: the pile. -/
/-- frames as the reading keeps them -/
def wfS : List Fr → Prop
  | [] => False
  | f :: l => (l = [] → f.1 = none) ∧ (l ≠ [] → wfS l) ∧ (f.1 ≠ none → f.2 = ((none, none), (none, none))) ∧ (f.2.2.1 ≠ none → f.2.2.2 ≠ none) ∧ (f.2.1.1 ≠ none → f.2.1.2 ≠ none)
/-- the end of what 'and' joins -/
def endA (F : Fr) (s : PS) : Option Nat × PS := match F.2.2.1 with
  | none => (F.2.2.2, s)
  | some j => (some j, cmpl j s)
/-- the end of what 'or' joins -/
def endO (F : Fr) (s : PS) : Option Nat × PS := match F.2.1.1 with
  | none => endA F s
  | some j => (some j, cmpl j (PS.s_T (endA F s).2 ((Txt.s_pj (Txt.s_pn (endA F s).2.T (up (endA F s).2.T.pn (F.2.1.2.getD 0) (endA F s).1)) (up (endA F s).2.T.pj j ((endA F s).2.T.pj j + 1))))))
section PI
variable {b : Nat → Nat} {n : Nat} {M0 M : aM} {s : PS} {d o e : Nat} {f : Fl} {σ : List Fr}
theorem RM.cp {M' : aM} {d' o' : Nat} (h : RM b n M0 s d o M) (hf : FrM M0 M') (h38 : ∀ j, j < 39 → rI M' 136 j = rI M 136 j) (hR : mR M' 2 = mR M 2) (hd : rI M' 136 39 = nI d') (ld : d' ≤ 20) (ho : o' ≤ o) : RM b n M0 s d' o' M' := by
  have l := h.L
  have cn := h.cn
  refine ⟨⟨hf, l.li, l.nb, ?_, ?_, ?_, ?_, ?_, ?_, ?_, ?_⟩, by rw [hR]; exact h.T, hd, ld, by omega, h.los, h.lnm⟩
  · rw [h38 _ (by omega)]; exact l.fl
  · rw [h38 _ (by omega)]; exact l.fk
  · rw [h38 _ (by omega)]; exact l.at_
  · rw [h38 _ (by omega)]; exact l.ty
  · rw [h38 _ (by omega)]; exact l.sz
  · rw [h38 _ (by omega)]; exact l.szb
  · rw [h38 _ (by omega)]; exact l.num
  · rw [h38 _ (by omega)]; exact l.ps
theorem RM.hi {k j : Nat} {x : Int32} (h : RM b n M0 s d o M) (hk : 167 ≤ k ∧ k ≤ 171) : RM b n M0 s d o (wI M k j x) :=
  h.cp (h.L.fr.w (by unfold dLo; omega)) (fun j' _ => by rw [rw_n (by omega)]) (mR_hi (by omega)) (by rw [rw_n (by omega)]; exact h.dp) h.ld (Nat.le_refl _)
theorem RM.w40 {x : Int32} (h : RM b n M0 s d o M) : RM b n M0 s d o (wI M 136 40 x) :=
  h.cp (h.L.fr.w (by unfold dLo; omega)) (fun j' _ => by rw [rw_sn (by omega)]) mR_0 (by rw [rw_sn (by omega)]; exact h.dp) h.ld (Nat.le_refl _)
theorem RM.w39 {d' : Nat} {x : Int32} (h : RM b n M0 s d o M) (hd : d' ≤ 20) (hx : x = nI d' := by rfl) : RM b n M0 s d' o (wI M 136 39 x) :=
  h.cp (h.L.fr.w (by unfold dLo; omega)) (fun j' _ => by rw [rw_sn (by omega)]) mR_0 (by rw [rw_ss, hx]) hd (Nat.le_refl _)
theorem RM.less {o' : Nat} (h : RM b n M0 s d o M) (ho : o' ≤ o) : RM b n M0 s d o' M := ⟨h.L, h.T, h.dp, h.ld, by have := h.cn; omega, h.los, h.lnm⟩
theorem RM.eqd {d' o' : Nat} (h : RM b n M0 s d o M) (hd : d = d') (ho : o = o') : RM b n M0 s d' o' M := by subst hd ho; exact h
theorem SkR.wr {M : aM} {N k j : Nat} {x : Int32} {l : List Fr} (h : SkR M N l) (hj : 167 ≤ k → l.length ≤ j) : SkR (wI M k j x) N l :=
  SkR.mono (Nat.le_refl _) h (fun k' k1 k2 j' hj' => by rw [rw_e, if_neg (by intro z; omega)])
theorem m_Kp (h0 : TpM b n M0) (fr : FrM M0 M) : (rK M 167).2 = 24 ∧ (rK M 168).2 = 24 ∧ (rK M 169).2 = 24 ∧ (rK M 170).2 = 24 ∧ (rK M 171).2 = 24 :=
  ⟨m_K h0 fr 166 24, m_K h0 fr 167 24, m_K h0 fr 168 24, m_K h0 fr 169 24, m_K h0 fr 170 24⟩
theorem ltO_m1 {N : Nat} {o : Option Nat} (h : ltO N o) (hN : N ≤ 400) : ∀ k, o = some k → k < 2 ^ 31 := fun k hk => by
  have := h k hk
  omega
/-- a new frame -/
theorem m_pile {post : aM → Prop} {x : Int32} {w : Option Nat} (h0 : TpM b n M0) (h : RM b n M0 s d o M) (hh : rI M 136 40 = nI σ.length) (hk : SkR M s.T.np σ) (hl : σ.length ≤ 20) (hw : ltO s.T.np w) (hd : d = s.od + σ.length) (ho : opS ((w, (none, none), (none, none)) :: σ) + e ≤ o) (q : ∀ M', RS b n M0 s ((w, (none, none), (none, none)) :: σ) e M' → post M') (hx : x = oI w := by rfl) : w_Mo_pile post 136 x M := by
  subst hx
  obtain ⟨k1, k2, k3, k4, k5⟩ := m_Kp h0 h.L.fr
  have hi : vp_in (nI σ.length) 24 := vin (by omega)
  unfold w_Mo_pile
  simp (disch := omega) only [w_Mo_pile_J10, w_Mo_pile_J20, w_Mo_pile_J30, w_Mo_pile_J40, w_Mo_pile_J50, Nat.reduceAdd, kw_I, k1, k2, k3, k4, k5, hh, rw_n, nI_clamp, nI_1]
  refine ⟨hi, hi, hi, hi, hi, q _ ⟨?_, ?_, ?_, ?_⟩⟩
  · refine RM.eqd (RM.less (RM.w40 (RM.hi (RM.hi (RM.hi (RM.hi (RM.hi h (by omega)) (by omega)) (by omega)) (by omega)) (by omega))) ho) ?_ rfl
    rw [hd]
    show s.od + σ.length = s.od + (σ.length + 1 - 1)
    omega
  · rw [rw_ss]; rfl
  · refine ⟨⟨?_, ?_, ?_, ?_, ?_⟩, ⟨hw, fun p hp => (by cases hp), fun p hp => (by cases hp), fun p hp => (by cases hp), fun p hp => (by cases hp)⟩, ?_⟩
    · simp (disch := omega) only [rw_n, rw_ss]
    · simp (disch := omega) only [rw_n, rw_ss]; rfl
    · simp (disch := omega) only [rw_n, rw_ss]; rfl
    · simp (disch := omega) only [rw_n, rw_ss]; rfl
    · simp (disch := omega) only [rw_n, rw_ss]; rfl
    · exact SkR.wr (SkR.wr (SkR.wr (SkR.wr (SkR.wr (SkR.wr hk (by omega)) (by omega)) (by omega)) (by omega)) (by omega)) (by omega)
  · show σ.length + 1 ≤ 21; omega
theorem giveS_i : ∀ (σ : List Fr) (s : PS) (p : Nat), (giveS p σ s).2.i = s.i ∧ (giveS p σ s).2.T.np = s.T.np ∧ (giveS p σ s).2.od = s.od ∧ (giveS p σ s).2.os = s.os := by
  intro σ
  induction σ with
  | nil => intro s p; exact ⟨rfl, rfl, rfl, rfl⟩
  | cons f l ih =>
    intro s p
    rw [giveS]
    cases f.1 with
    | some x => exact ih _ _
    | none =>
      cases f.2.2.1 with
      | none => exact ⟨rfl, rfl, rfl, rfl⟩
      | some j => exact ⟨rfl, rfl, rfl, rfl⟩
/-- a part is given to the pile -/
theorem m_give0 {post : aM → Prop} (h0 : TpM b n M0) : ∀ (σ : List Fr) (s : PS) (M : aM) (p : Nat), RS b n M0 s σ e M → wfS σ → p < s.T.np → (∀ M', RS b n M0 (giveS p σ s).2 (giveS p σ s).1 e M' → post M') → w_Mo_give_L2 post (σ.length + 1) 136 (nI p) M := by
  intro σ
  induction σ with
  | nil => intro s M p h hw; exact hw.elim
  | cons F l ih =>
    intro s M p h hw hp q
    obtain ⟨w1, w2, w3, w4, w5⟩ := hw
    obtain ⟨⟨g1, g2, g3, g4, g5⟩, ⟨t1, t2, t3, t4, t5⟩, hk⟩ := h.k
    have hl : l.length + 1 ≤ 21 := h.l
    have hh : rI M 136 40 = nI (l.length + 1) := h.h
    have lnp := h.R.T.lnp
    obtain ⟨k1, k2, k3, k4, k5⟩ := m_Kp h0 h.R.L.fr
    have hi : vp_in (nI l.length) 24 := vin (by omega)
    unfold w_Mo_give_L2
    simp (disch := omega) only [Nat.reduceAdd, hh, nI_pred, k1, k4, k5, nI_clamp, g1, g4, g5]
    refine ⟨hi, ?_⟩
    rw [giveS] at q
    cases hF : F.1 with
    | some x =>
      rw [hF] at q
      have hx := t1 x hF
      have hln : l ≠ [] := fun z => by have := w1 z; rw [hF] at this; cases this
      have hl1 : 1 ≤ l.length := by
        cases l with
        | nil => exact absurd rfl hln
        | cons _ _ => exact Nat.succ_le_succ (Nat.zero_le _)
      have hf2 := w3 (by rw [hF]; simp)
      have hop : opS (F :: l) + e = (opS l + e) + 1 := by
        show oN F.1 + oN F.2.1.1 + oN F.2.2.1 + opS l + e = _
        rw [hF, hf2]
        show 1 + 0 + 0 + opS l + e = _
        omega
      refine br_f (show ¬ oI (some x) = -1 from nI_m1 (by omega)) ⟨hi, ?_⟩
      refine m_joinF (p := x) (c := p) h0 h.R hx (fun M1 s1 r1 => ?_)
      have r1' : RM b n M0 (PS.s_T s ((Txt.s_pj (Txt.s_pf s.T (up s.T.pf x (some p))) (up s.T.pj x 1)))) (s.od + l.length) ((opS l + e) + 1) M1 := (RM.eqd r1 rfl hop).pj
      refine m_complete (p := x) h0 r1' (fun M2 s2 r2 => ?_)
      have s12 := s1.trans s2
      have h40 : rI M2 136 40 = nI (l.length + 1) := by rw [s12.2, hh]
      have h39 : rI M2 136 39 = nI (s.od + l.length) := r2.dp
      have ld := r2.ld
      rw [h40, nI_pred, rw_sn (show 39 ≠ 40 by omega), h39, show nI (s.od + l.length) - 1 = nI (s.od + (l.length - 1)) by rw [show s.od + l.length = (s.od + (l.length - 1)) + 1 by omega, nI_pred]]
      show w_Mo_give_L2 post (l.length + 1) 136 (nI x) _
      refine ih _ _ x ⟨RM.w39 (RM.w40 r2) (by show s.od + (l.length - 1) ≤ 20; omega), ?_, ?_, by omega⟩ (w2 hln) hx q
      · rw [rw_sn (by omega), rw_ss]
      · exact SkR.wr (SkR.wr (hk.ks s12 (Nat.le_refl _)) (by omega)) (by omega)
    | none =>
      rw [hF] at q
      refine br_t rfl ⟨hi, ?_⟩
      have hop : opS ((none, F.2.1, (F.2.2.1, some p)) :: l) + e = opS (F :: l) + e := by
        show oN none + oN F.2.1.1 + oN F.2.2.1 + opS l + e = oN F.1 + oN F.2.1.1 + oN F.2.2.1 + opS l + e
        rw [hF]
      cases hA : F.2.2.1 with
      | none =>
        rw [hA] at q hop
        refine br_t rfl ⟨hi, ?_⟩
        refine q _ ⟨RM.eqd (RM.hi h.R (by omega)) rfl hop.symm, ?_, ⟨⟨?_, ?_, ?_, ?_, ?_⟩, ⟨fun p hp => (by cases hp), t2, t3, fun p hp => (by cases hp), fun p' hp' => by cases hp'; exact hp⟩, SkR.wr hk (by omega)⟩, hl⟩
        · rw [rw_n (by omega), hh]; rfl
        · rw [rw_n (by omega), g1, hF]
        · rw [rw_n (by omega), g2]
        · rw [rw_n (by omega), g3]
        · rw [rw_n (by omega), g4, hA]
        · rw [rw_ss]; rfl
      | some j =>
        rw [hA] at q hop
        have hj := t4 j hA
        refine br_f (show ¬ oI (some j) = -1 from nI_m1 (by omega)) ⟨hi, hi, ?_⟩
        cases hB : F.2.2.2 with
        | none => exact absurd hB (w4 (by rw [hA]; simp))
        | some la =>
          rw [hB] at q
          have hla := t5 la hB
          refine m_joinN (l := la) (c := p) h0 h.R hla (fun M1 s1 r1 => ?_)
          have k5' : (rK M1 171).2 = 24 := (m_Kp h0 r1.L.fr).2.2.2.2
          rw [k5']
          refine ⟨hi, q _ ⟨RM.eqd (RM.hi r1.pj (by omega)) rfl hop.symm, ?_, ⟨⟨?_, ?_, ?_, ?_, ?_⟩, ⟨fun p hp => (by cases hp), t2, t3, fun p' hp' => by cases hp'; exact hj, fun p' hp' => by cases hp'; exact hp⟩, SkR.wr (hk.ks s1 (Nat.le_refl _)) (by omega)⟩, hl⟩⟩
          · rw [rw_n (by omega), s1.2, hh]; rfl
          · rw [rw_n (by omega), s1.1 _ (by omega), g1, hF]
          · rw [rw_n (by omega), s1.1 _ (by omega), g2]
          · rw [rw_n (by omega), s1.1 _ (by omega), g3]
          · rw [rw_n (by omega), s1.1 _ (by omega), g4, hA]
          · rw [rw_ss]; rfl
theorem m_give {post : aM → Prop} {p : Nat} {x : Int32} (h0 : TpM b n M0) (h : RS b n M0 s σ e M) (hw : wfS σ) (hp : p < s.T.np) (q : ∀ M', RS b n M0 (giveS p σ s).2 (giveS p σ s).1 e M' → post M') (hx : x = nI p := by rfl) : w_Mo_give post 136 x M := by
  subst hx
  exact ⟨_, m_give0 h0 σ s M p h hw hp q⟩
theorem m_endAnd {post : Int32 → aM → Prop} {F : Fr} {l : List Fr} {p : Nat} {s' : PS} (h0 : TpM b n M0) (h : RS b n M0 s (F :: l) e M) (hF : F.1 = none) (he : endA F s = (some p, s')) (q : ∀ M', RS b n M0 s' ((none, F.2.1, (none, none)) :: l) e M' → post (nI p) M') : w_Mo_endAnd post 136 M := by
  obtain ⟨⟨g1, g2, g3, g4, g5⟩, ⟨t1, t2, t3, t4, t5⟩, hk⟩ := h.k
  have hl : l.length + 1 ≤ 21 := h.l
  have hh : rI M 136 40 = nI (l.length + 1) := h.h
  have lnp := h.R.T.lnp
  obtain ⟨k1, k2, k3, k4, k5⟩ := m_Kp h0 h.R.L.fr
  have hi : vp_in (nI l.length) 24 := vin (by omega)
  unfold w_Mo_endAnd
  simp (disch := omega) only [Nat.reduceAdd, hh, nI_pred, k4, k5, nI_clamp, g4, g5]
  refine ⟨hi, hi, ?_⟩
  unfold endA at he
  -- behind it
  have fin : ∀ (s' : PS) (M1 : aM), s'.T.np = s.T.np → RM b n M0 s' (s'.od + l.length) (oN F.2.1.1 + opS l + e) M1 → Ks M M1 → (∀ M', RS b n M0 s' ((none, F.2.1, (none, none)) :: l) e M' → post (nI p) M') → w_Mo_endAnd_J36 post 136 (nI l.length) (nI p) M1 := by
    intro s' M1 en r1 s1 q
    obtain ⟨k1, k2, k3, k4, k5⟩ := m_Kp h0 r1.L.fr
    unfold w_Mo_endAnd_J36
    simp (disch := omega) only [Nat.reduceAdd, k4, k5, nI_clamp]
    refine ⟨hi, hi, q _ ⟨RM.eqd (RM.hi (RM.hi r1 (by omega)) (by omega)) (by show s'.od + l.length = s'.od + (l.length + 1 - 1); omega) ?_, ?_, ⟨⟨?_, ?_, ?_, ?_, ?_⟩, ⟨fun p hp => (by cases hp), by rw [en]; exact t2, by rw [en]; exact t3, fun p hp => (by cases hp), fun p hp => (by cases hp)⟩, SkR.wr (SkR.wr (hk.ks s1 (Nat.le_of_eq en.symm)) (by omega)) (by omega)⟩, hl⟩⟩
    · show oN F.2.1.1 + opS l + e = oN none + oN F.2.1.1 + oN none + opS l + e
      show oN F.2.1.1 + opS l + e = 0 + oN F.2.1.1 + 0 + opS l + e
      omega
    · rw [rw_n (by omega), rw_n (by omega), s1.2, hh]; rfl
    · rw [rw_n (by omega), rw_n (by omega), s1.1 _ (by omega), g1, hF]
    · rw [rw_n (by omega), rw_n (by omega), s1.1 _ (by omega), g2]
    · rw [rw_n (by omega), rw_n (by omega), s1.1 _ (by omega), g3]
    · rw [rw_n (by omega), rw_ss]; rfl
    · rw [rw_ss]; rfl
  cases hA : F.2.2.1 with
  | none =>
    rw [hA] at he
    have he1 : F.2.2.2 = some p := congrArg Prod.fst he
    have he2 : s = s' := congrArg Prod.snd he
    subst he2
    refine br_t rfl ?_
    rw [he1]
    refine fin s M rfl (RM.eqd h.R rfl ?_) Ks.refl q
    show oN F.1 + oN F.2.1.1 + oN F.2.2.1 + opS l + e = _
    rw [hF, hA]
    show 0 + oN F.2.1.1 + 0 + opS l + e = _
    omega
  | some j =>
    rw [hA] at he
    have he1 : some j = some p := congrArg Prod.fst he
    have he2 : cmpl j s = s' := congrArg Prod.snd he
    have ej : j = p := Option.some.inj he1
    subst ej
    subst he2
    have hj := t4 j hA
    refine br_f (show ¬ oI (some j) = -1 from nI_m1 (by omega)) ⟨hi, ?_⟩
    refine m_complete (p := j) (o := oN F.2.1.1 + opS l + e) h0 (RM.eqd h.R rfl ?_) (fun M1 s1 r1 => ?_)
    · show oN F.1 + oN F.2.1.1 + oN F.2.2.1 + opS l + e = _
      rw [hF, hA]
      show 0 + oN F.2.1.1 + 1 + opS l + e = _
      omega
    · exact fin (cmpl j s) M1 rfl r1 s1 q
/-- behind the end of a bracket or of the whole: the frame is done with -/
theorem m_endOr {post : Int32 → aM → Prop} {F : Fr} {l : List Fr} {p : Nat} {s' : PS} (h0 : TpM b n M0) (h : RS b n M0 s (F :: l) e M) (hF : F.1 = none) (hw : F.2.1.1 ≠ none → F.2.1.2 ≠ none) (ha : ∃ pa sa, endA F s = (some pa, sa)) (he : endO F s = (some p, s')) (q : ∀ M', RM b n M0 s' (s'.od + l.length) (opS l + e) M' → rI M' 136 40 = nI (l.length + 1) → SkR M' s'.T.np l → post (nI p) M') : w_Mo_endOr post 136 M := by
  obtain ⟨pa, sa, hea⟩ := ha
  have hl : l.length + 1 ≤ 21 := h.l
  have hh : rI M 136 40 = nI (l.length + 1) := h.h
  have hi : vp_in (nI l.length) 24 := vin (by omega)
  obtain ⟨_, ⟨_, t2, t3, _, _⟩, _⟩ := h.k
  unfold w_Mo_endOr
  simp (disch := omega) only [Nat.reduceAdd, hh, nI_pred, nI_clamp]
  refine m_endAnd h0 h hF hea (fun M1 r1 => ?_)
  obtain ⟨⟨g1, g2, g3, g4, g5⟩, ⟨u1, u2, u3, u4, u5⟩, hk⟩ := r1.k
  have lnp := r1.R.T.lnp
  obtain ⟨k1, k2, k3, k4, k5⟩ := m_Kp h0 r1.R.L.fr
  have g2' : rI M1 168 l.length = oI F.2.1.1 := g2
  have g3' : rI M1 169 l.length = oI F.2.1.2 := g3
  rw [k2, k3, g2', g3']
  refine ⟨hi, ?_⟩
  unfold endO at he
  cases hA : F.2.1.1 with
  | none =>
    rw [hA, hea] at he
    cases he
    refine br_t rfl (q M1 (RM.less (RM.eqd r1.R (by show s'.od + (l.length + 1 - 1) = s'.od + l.length; omega) rfl) ?_) ?_ hk)
    · show opS l + e ≤ oN none + oN F.2.1.1 + oN none + opS l + e
      omega
    · exact r1.h
  | some j =>
    rw [hA, hea] at he
    have he1 : some j = some p := congrArg Prod.fst he
    have he2 := congrArg Prod.snd he
    have ej : j = p := Option.some.inj he1
    subst ej
    have hj := u2 j hA
    refine br_f (show ¬ oI (some j) = -1 from nI_m1 (by omega)) ⟨hi, hi, ?_⟩
    cases hB : F.2.1.2 with
    | none => exact absurd hB (hw (by rw [hA]; simp))
    | some lo =>
      rw [hB] at he2
      have hlo := u3 lo hB
      refine m_joinN (l := lo) (c := pa) h0 r1.R hlo (fun M2 s2 r2 => ?_)
      have k2' : (rK M2 168).2 = 24 := (m_Kp h0 r2.L.fr).2.1
      rw [k2', show rI M2 168 = rI M1 168 from s2.1 _ (by omega), g2', hA]
      refine ⟨hi, ?_⟩
      have r2' : RM b n M0 (PS.s_T sa ((Txt.s_pj (Txt.s_pn sa.T (up sa.T.pn lo (some pa))) (up sa.T.pj j (sa.T.pj j + 1))))) (sa.od + l.length) ((opS l + e) + 1) M2 := by
        refine (RM.eqd r2 (by show sa.od + (l.length + 1 - 1) = sa.od + l.length; omega) ?_).pj
        show oN none + oN F.2.1.1 + oN none + opS l + e = _
        rw [hA]
        show 0 + 1 + 0 + opS l + e = _
        omega
      refine m_complete (p := j) h0 r2' (fun M3 s3 r3 => ?_)
      have e3 : s' = cmpl j (PS.s_T sa ((Txt.s_pj (Txt.s_pn sa.T (up sa.T.pn lo (some pa))) (up sa.T.pj j (sa.T.pj j + 1))))) := he2.symm
      rw [e3] at q
      exact q M3 r3 (by rw [s3.2, s2.2]; exact r1.h) (hk.ks (s2.trans s3) (Nat.le_refl _))
end PI
