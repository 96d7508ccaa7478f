/-! THE MODEL'S READER, IX: the whole text. -/
section MA
variable {b : Nat → Nat} {n : Nat} {M0 M : aM} {s : PS} {d o : Nat} {f : Fl}
theorem m_ty4 {i : Nat} (h : LM b n M0 i M) : (rI M 136 34 = 4) ↔ (tkOf b n).k i = 130 := by
  have nb := h.nb
  rw [h.ty, show (4 : Int32) = nI 4 from rfl, nI_eq (by have := tyK_lt ((tkOf b n).k i); omega) (by omega), tyK]
  split
  · rename_i g; constructor <;> (intro; omega)
  · split
    · rename_i g; constructor <;> (intro; omega)
    · split
      · rename_i g; exact ⟨fun _ => g, fun _ => rfl⟩
      · rename_i g1 g2 g3; constructor <;> (intro; omega)
theorem tk_in {i : Nat} (h : (tkOf b n).k i ≠ 130) : i < (tkOf b n).n := by
  by_cases g : i < (tkOf b n).n
  · exact g
  · exfalso
    apply h
    show ((toks b n).getD i (130, n, 0)).1 = 130
    have g2 : (toks b n).length ≤ i := Nat.le_of_not_lt g
    rw [List.getD_eq_getElem?_getD, List.getElem?_eq_none g2]
    rfl
def OkR (b : Nat → Nat) (n : Nat) (M0 : aM) (post : aM → Prop) (s : PS) : Prop := ∀ M', RM b n M0 s s.od 0 M' → post M'
theorem m_233 {post : aM → Prop} (h0 : TpM b n M0) (a : AM b n M0 s s.od 0 M) (p : Ex (OkR b n M0 post) (ErM b n M0 post) (if (tkOf b n).k s.i = 130 then .ok s else .error (rf (tkOf b n) 2 s))) : w_Mo_readText_J233 post 136 M := by
  unfold w_Mo_readText_J233 w_Mo_readText_J247
  rcases a with r | ⟨hb, f'⟩
  · by_cases g : (tkOf b n).k s.i = 130
    · rw [if_pos g] at p
      exact nb_t ((m_ty4 r.L).2 g) (m_need (bb := true) h0 r.L (fun _ => p M r) (fun z => by cases z))
    · rw [if_neg g] at p
      exact nb_f (fun z => g ((m_ty4 r.L).1 z)) (m_need (bb := false) h0 r.L (fun z => by cases z) (fun _ M' f' => p M' f'))
  · rw [if_neg (by omega), rf, rf_bad hb] at p
    exact ⟨fun _ => m_needF f' (p M f'), fun _ => m_needF f' (p M f')⟩
theorem m_LtF {post : aM → Prop} {N : Nat} {x : Int32} (h : FM b n M0 f M) (p : ErM b n M0 post f) : w_Mo_readText_L110 post (N + 1) 136 x M := by
  unfold w_Mo_readText_L110
  refine nb_f h.ne ?_
  unfold w_Mo_readText_J233 w_Mo_readText_J247
  exact ⟨fun _ => m_needF h (p M h), fun _ => m_needF h (p M h)⟩
theorem m_members {post : aM → Prop} (h0 : TpM b n M0) : ∀ (N : Nat) (s : PS) (M : aM), AM b n M0 s s.od 0 M → PInv s → (tkOf b n).n ≤ s.i + N → s.T.nn ≤ 100 → Ex (OkR b n M0 post) (ErM b n M0 post) ((fMembers (tkOf b n) N s).bind (fun s2 => if (tkOf b n).k s2.i = 130 then .ok s2 else .error (rf (tkOf b n) 2 s2))) → w_Mo_readText_L110 post (N + 1) 136 (oI s.os) M := by
  intro N
  induction N with
  | zero =>
    intro s M a hi hN hnn p
    rcases a with r | ⟨hb, f'⟩
    · have := r.L.li
      omega
    · have := tk_in (b := b) (n := n) (i := s.i) (by omega)
      omega
  | succ N ih =>
    intro s M a hi hN hnn p
    rw [fMembers] at p
    rcases a with r | ⟨hb, f'⟩
    · have hlo := hi.lo
      unfold w_Mo_readText_L110
      refine nb_t r.L.fl ?_
      refine pk_eqm s.os (fun z => ?_) (fun a z => ?_) rfl rfl (fun k hk => by have := hlo k hk; omega)
      · rw [if_pos z] at p
        exact m_233 h0 (Or.inl r) p
      · rw [if_neg (by rw [z]; simp)] at p
        have ha := hlo a z
        have lnn := r.T.lnn
        have hod := (hi.close z).1
        have hcl := (hi.close z).2
        have p1 := Ex_and (Ex_bind (r := fMember (tkOf b n) s) (f := fun s1 => (fMembers (tkOf b n) N s1).bind (fun s2 => if (tkOf b n).k s2.i = 130 then .ok s2 else .error (rf (tkOf b n) 2 s2))) (by
          cases hm : fMember (tkOf b n) s with
          | ok a => rw [hm] at p; exact p
          | error e => rw [hm] at p; exact p)) (fMember_inv (k := tkOf b n) hi z)
        clear p
        have hli := r.L.li
        have inn : ∀ (s' : PS) (M' : aM), AM b n M0 s' s'.od 0 M' → PInv s' ∧ s.i < s'.i → Ex (OkR b n M0 post) (ErM b n M0 post) ((fMembers (tkOf b n) N s').bind (fun s2 => if (tkOf b n).k s2.i = 130 then .ok s2 else .error (rf (tkOf b n) 2 s2))) → w_Mo_readText_L110 post (N + 1) 136 (oI s'.os) M' := by
          intro s' M' a' hs' p'
          rcases a' with r' | ⟨hb', f'⟩
          · exact ih s' M' (Or.inl r') hs'.1 (by omega) r'.T.lnn p'
          · refine m_LtF f' ?_
            have e : (fMembers (tkOf b n) N s').bind (fun s2 => if (tkOf b n).k s2.i = 130 then .ok s2 else .error (rf (tkOf b n) 2 s2)) = .error (1, (tkOf b n).pl s'.i) := by
              have e2 : rf (tkOf b n) 2 s' = (1, (tkOf b n).pl s'.i) := rf_bad hb'
              cases N with
              | zero =>
                have := tk_in (b := b) (n := n) (i := s'.i) (by omega)
                omega
              | succ N =>
                rw [fMembers]
                by_cases g : s'.os = none
                · rw [if_pos g]
                  show (if (tkOf b n).k s'.i = 130 then Except.ok s' else .error (rf (tkOf b n) 2 s')) = _
                  rw [if_neg (by omega), e2]
                · rw [if_neg g, fMember, if_neg (by omega), if_neg (by omega), if_neg (by omega), if_neg (by omega), e2]
                  rfl
            rw [e] at p'
            exact p'
        rw [fMember] at p1
        refine m_is h0 r.L (c := 125) rfl ?_
        by_cases g125 : (tkOf b n).k s.i = 125
        · rw [if_neg (by omega), if_neg (by omega), if_neg (by omega), if_pos g125, z] at p1
          rw [decide_eq_true g125]
          refine br_f (by decide) ?_
          have kf : (rK M 149).2 = 300 := m_K h0 r.L.fr 148 300
          have ef : rI M 149 (200 + a) = oI (s.T.fa a) := r.T.fa a ha
          have ld := r.ld
          rw [r.dp, show nI s.od - 1 = nI (s.od - 1) from pk_sub (b := 1) (by omega), z]
          show _ ∧ _
          have ez : oI (some a) = nI a := rfl
          simp (disch := omega) only [ez, Nat.reduceAdd, kf, a200, nI_clamp, rw_n, ef]
          refine ⟨vin (by omega), ?_⟩
          have r2 := RM.w39 (d' := s.od - 1) r (by omega)
          refine m_nextR h0 r2 (by omega) (fun M3 ft3 a3 => ?_)
          refine inn (PS.s_od (PS.s_os s.st (s.T.fa a)) (s.od - 1)) M3 ?_ ⟨hcl, Nat.lt_succ_self _⟩ p1.1
          rcases a3 with r3 | f3
          · left
            exact ⟨r3.L, r3.T, r3.dp, r3.ld, r3.cn, fun c hc => hi.lf a ha c hc, r3.lnm⟩
          · right
            exact f3
        rw [decide_eq_false g125]
        refine br_t rfl ?_
        refine m_isWord (j := 4) h0 r.L (by omega) (by omega) ?_
        by_cases g4 : (tkOf b n).k s.i = 4
        · rw [if_pos g4] at p1
          rw [decide_eq_true g4]
          refine br_f (by decide) ?_
          refine m_set h0 r g4 ?_
          exact Ex_mono p1 (fun s' hs' M' a' => inn s' M' a' hs'.2 hs'.1) (fun f hf x M' f' => m_LtF f' hf.1)
        rw [if_neg g4] at p1
        rw [decide_eq_false g4]
        refine br_t rfl ?_
        refine m_isWord (j := 6) h0 r.L (by omega) (by omega) ?_
        have rul : (tkOf b n).k s.i = 6 ∨ (tkOf b n).k s.i = 7 → w_Mo_readText_J199 post (w_Mo_readText_L110 post (N + 1)) 136 (oI s.os) M := by
          intro g67
          rw [if_pos g67] at p1
          unfold w_Mo_readText_J199
          refine m_rule h0 r g67 ?_
          have hos : Ex (fun s' : PS => s'.os = s.os) (fun _ => True) (fRule (tkOf b n) s) := by
            unfold fRule
            refine Ex_bnd (Ex_mono (fNode_ad _ s) (fun q hq => ?_) (fun _ h => h))
            obtain ⟨h1, h2, h3⟩ := hq
            have hn := fName_f (k := tkOf b n) q.1 q.2.st
            refine Ex_bnd (Ex_mono (fFor_f _ _) (fun s2 h4 => ?_) (fun _ h => h))
            refine Ex_bnd (Ex_mono (P := fun s3 => SaF s2 s3 ∧ s2.i ≤ s3.i) ?_ (fun s3 h6 => ?_) (fun _ h => h))
            · split
              · exact fDuties_f _ _ _ _
              · exact ⟨SaF.refl, Nat.le_refl _⟩
            · refine Ex_mono (req_ad 59 s3) (fun s4 h7 => ?_) (fun _ h => h)
              rw [h7]
              show s3.os = s.os
              rw [h6.1.os, h4.1.os, hn.1.os]
              show q.2.os = s.os
              rw [h2]
          refine Ex_mono (Ex_and p1 hos) (fun s' hs' M' a' => ?_) (fun f hf M' f' => m_LtF f' hf.1.1)
          rw [← hs'.2]
          exact inn s' M' a' hs'.1.2 hs'.1.1
        by_cases g6 : (tkOf b n).k s.i = 6
        · rw [decide_eq_true g6]
          exact nb_f (by decide) (rul (Or.inl g6))
        rw [decide_eq_false g6]
        refine nb_t rfl ?_
        refine m_isWord (j := 7) h0 r.L (by omega) (by omega) ?_
        by_cases g7 : (tkOf b n).k s.i = 7
        · rw [decide_eq_true g7]
          exact br_f (by decide) (rul (Or.inr g7))
        rw [decide_eq_false g7]
        refine br_t rfl ?_
        rw [if_neg (by omega)] at p1
        refine m_isWord (j := 9) h0 r.L (by omega) (by omega) ?_
        by_cases g9 : (tkOf b n).k s.i = 9
        · rw [if_pos g9] at p1
          rw [decide_eq_true g9]
          refine br_f (by decide) ?_
          refine m_duty h0 r z g9 ?_
          have hos : Ex (fun s' : PS => s'.os = s.os) (fun _ => True) (fDuty (tkOf b n) s) := by
            unfold fDuty
            split
            · trivial
            · refine Ex_bnd (Ex_mono (fDutyN_f _ _ s.st.st) (fun s' h' => ?_) (fun _ h => h))
              refine Ex_mono (req_ad 59 s') (fun s4 h7 => ?_) (fun _ h => h)
              rw [h7]
              exact h'.1.os
          refine Ex_mono (Ex_and p1 hos) (fun s' hs' M' a' => ?_) (fun f hf M' f' => m_LtF f' hf.1.1)
          rw [← hs'.2]
          exact inn s' M' a' hs'.1.2 hs'.1.1
        rw [if_neg g9, if_neg g125] at p1
        rw [decide_eq_false g9]
        refine br_t rfl ?_
        exact m_bad h0 r.L (fun M' f' => m_LtF f' p1.1)
    · refine m_LtF f' ?_
      have e : (if s.os = none then Except.ok s else (fMember (tkOf b n) s).bind (fMembers (tkOf b n) N)).bind (fun s2 => if (tkOf b n).k s2.i = 130 then .ok s2 else .error (rf (tkOf b n) 2 s2)) = .error (1, (tkOf b n).pl s.i) := by
        have e2 : rf (tkOf b n) 2 s = (1, (tkOf b n).pl s.i) := rf_bad hb
        by_cases g : s.os = none
        · rw [if_pos g]
          show (if (tkOf b n).k s.i = 130 then Except.ok s else .error (rf (tkOf b n) 2 s)) = _
          rw [if_neg (by omega), e2]
        · rw [if_neg g, fMember, if_neg (by omega), if_neg (by omega), if_neg (by omega), if_neg (by omega), e2]
          rfl
      rw [e] at p
      exact p
theorem m_text {post : aM → Prop} (h0 : TpM b n M0) (szb : ∃ z, z ≤ 6000 ∧ rI M0 136 36 = nI z) (p : Ex (OkR b n M0 post) (ErM b n M0 post) (fText (tkOf b n) tx0)) : w_Mo_readText post 136 M0 := by
  have ln := h0.ln
  have i2 : vp_in 2 3 := pk_in 2 3 (by omega)
  have k3 : (rK M0 139).2 = 3 := h0.K.l 138 3
  have k10 : (rK M0 146).2 = 3 := h0.K.l 145 3
  have k15 : (rK M0 151).2 = 3 := h0.K.l 150 3
  have k23 : (rK M0 159).2 = 3 := h0.K.l 158 3
  have k24 : (rK M0 160).2 = 3 := h0.K.l 159 3
  simp only [w_Mo_readText, w_Mo_readText_J7, w_Mo_readText_J14, w_Mo_readText_J21, w_Mo_readText_J28, w_Mo_readText_J35, w_Mo_readText_J40, w_Mo_readText_J45, w_Mo_readText_J50, w_Mo_readText_J55, cl2, Nat.reduceAdd, kw_I, k3, k10, k15, k23, k24]
  refine ⟨i2, i2, i2, i2, i2, ?_⟩
  generalize hM : wI (wI (wI (wI (wI (wI (wI (wI (wI M0 139 2 0) 146 2 0) 151 2 0) 159 2 0) 160 2 0) 136 39 0) 136 33 0) 136 38 (-1)) 136 32 0 = M
  have fr : FrM M0 M := by
    subst hM
    exact ((((((((FrM.refl.w (by unfold dLo; omega)).w (by unfold dLo; omega)).w (by unfold dLo; omega)).w (by unfold dLo; omega)).w (by unfold dLo; omega)).w (by unfold dLo; omega)).w (by unfold dLo; omega)).w (by unfold dLo; omega)).w (by unfold dLo; omega)
  have e3 : rI M 139 2 = 0 := by subst hM; simp (disch := omega) only [rw_n, rw_ss]
  have e10 : rI M 146 2 = 0 := by subst hM; simp (disch := omega) only [rw_n, rw_ss]
  have e15 : rI M 151 2 = 0 := by subst hM; simp (disch := omega) only [rw_n, rw_ss]
  have e23 : rI M 159 2 = 0 := by subst hM; simp (disch := omega) only [rw_n, rw_ss]
  have e24 : rI M 160 2 = 0 := by subst hM; simp (disch := omega) only [rw_n, rw_ss]
  have e39 : rI M 136 39 = 0 := by subst hM; simp (disch := omega) only [rw_sn, rw_ss]
  have e33 : rI M 136 33 = 0 := by subst hM; simp (disch := omega) only [rw_sn, rw_ss]
  have e38 : rI M 136 38 = -1 := by subst hM; simp (disch := omega) only [rw_sn, rw_ss]
  have e32 : rI M 136 32 = 0 := by subst hM; simp (disch := omega) only [rw_sn, rw_ss]
  have e36 : rI M 136 36 = rI M0 136 36 := by subst hM; simp (disch := omega) only [rw_n, rw_sn]
  clear hM
  have p0 : Ex (OkR b n M0 post) (ErM b n M0 post) ((fAttrs (tkOf b n) 9 ps0).bind (fun s => (fSet (tkOf b n) s).bind (fun s1 => (fMembers (tkOf b n) (tkOf b n).n s1).bind (fun s2 => if (tkOf b n).k s2.i = 130 then .ok s2 else .error (rf (tkOf b n) 2 s2))))) := p
  -- the first set and what follows
  have G84 : ∀ (s : PS) (M' : aM), AM b n M0 s s.od 0 M' → PInv s → Ex (OkR b n M0 post) (ErM b n M0 post) ((fSet (tkOf b n) s).bind (fun s1 => (fMembers (tkOf b n) (tkOf b n).n s1).bind (fun s2 => if (tkOf b n).k s2.i = 130 then .ok s2 else .error (rf (tkOf b n) 2 s2)))) → s.os = none → w_Mo_readText_J84 post 136 M' := by
    intro s M' a' hi p' hos
    unfold w_Mo_readText_J84
    rcases a' with r' | ⟨hb, f'⟩
    · refine m_isWord (j := 4) h0 r'.L (by omega) (by omega) ?_
      by_cases g4 : (tkOf b n).k s.i = 4
      · rw [decide_eq_true g4]
        refine m_need (bb := true) h0 r'.L (fun _ => ?_) (fun z => by cases z)
        refine br_t r'.L.fl ?_
        refine m_set h0 r' g4 ?_ (by rw [hos]; rfl)
        refine Ex_mono (Ex_and (Ex_bind p') (fSet_inv (k := tkOf b n) hi)) (fun s1 hs1 M2 a2 => ?_) (fun f hf x M2 f2 => ?_)
        · refine ⟨(tkOf b n).n + 1, ?_⟩
          rcases a2 with r2 | ⟨hb2, f2⟩
          · exact m_members h0 _ s1 M2 (Or.inl r2) hs1.2.1 (by omega) r2.T.lnn hs1.1
          · by_cases hnn : s1.T.nn ≤ 100
            · exact m_members h0 _ s1 M2 (Or.inr ⟨hb2, f2⟩) hs1.2.1 (by omega) hnn hs1.1
            · refine m_LtF f2 ?_
              have pm := hs1.1
              have e : (fMembers (tkOf b n) (tkOf b n).n s1).bind (fun s2 => if (tkOf b n).k s2.i = 130 then .ok s2 else .error (rf (tkOf b n) 2 s2)) = .error (1, (tkOf b n).pl s1.i) := by
                have e2 : rf (tkOf b n) 2 s1 = (1, (tkOf b n).pl s1.i) := rf_bad hb2
                have hlt := tk_in (b := b) (n := n) (i := s1.i) (by omega)
                obtain ⟨N, hN⟩ : ∃ N, (tkOf b n).n = N + 1 := ⟨(tkOf b n).n - 1, by omega⟩
                rw [hN, fMembers]
                by_cases g : s1.os = none
                · rw [if_pos g]
                  show (if (tkOf b n).k s1.i = 130 then Except.ok s1 else .error (rf (tkOf b n) 2 s1)) = _
                  rw [if_neg (by omega), e2]
                · rw [if_neg g, fMember, if_neg (by omega), if_neg (by omega), if_neg (by omega), if_neg (by omega), e2]
                  rfl
              rw [e] at pm
              exact pm
        · exact ⟨1, m_LtF f2 hf.1⟩
      · rw [decide_eq_false g4]
        have p2 := Ex_bind p'
        rw [fSet, if_pos g4] at p2
        exact m_need (bb := false) h0 r'.L (fun z => by cases z) (fun _ M2 f2 => br_f f2.ne (p2 M2 f2))
    · have p2 := Ex_bind p'
      rw [fSet, if_pos (by omega), rf, rf_bad hb] at p2
      exact m_isWordF (j := 4) h0 f' (by omega) (by omega) (fun bb => m_needF f' (br_f f'.ne (p2 M' f')))
  have key : ∀ (N : Nat) (s : PS) (M' : aM), AM b n M0 s s.od 0 M' → PInv s → s.os = none → 8 < N + s.T.na → Ex (OkR b n M0 post) (ErM b n M0 post) ((fAttrs (tkOf b n) N s).bind (fun s => (fSet (tkOf b n) s).bind (fun s1 => (fMembers (tkOf b n) (tkOf b n).n s1).bind (fun s2 => if (tkOf b n).k s2.i = 130 then .ok s2 else .error (rf (tkOf b n) 2 s2))))) → w_Mo_readText_L59 post (N + 1) 136 M' := by
    intro N
    induction N with
    | zero =>
      intro s M' a' hi hos hN p'
      rcases a' with r' | ⟨hb, f'⟩
      · have := r'.T.lna
        omega
      · unfold w_Mo_readText_L59
        exact nb_f f'.ne (G84 s M' (Or.inr ⟨hb, f'⟩) hi p' hos)
    | succ N ih =>
      intro s M' a' hi hos hN p'
      rw [fAttrs] at p'
      unfold w_Mo_readText_L59
      rcases a' with r' | ⟨hb, f'⟩
      · refine nb_t r'.L.fl ?_
        refine m_isWord (j := 1) h0 r'.L (by omega) (by omega) ?_
        by_cases g1 : (tkOf b n).k s.i = 1
        · rw [if_pos g1] at p'
          rw [decide_eq_true g1]
          refine br_f (by decide) ?_
          refine m_attr h0 r' g1 ?_
          have p2 : Ex (fun s' => Ex (OkR b n M0 post) (ErM b n M0 post) ((fAttrs (tkOf b n) N s').bind (fun s => (fSet (tkOf b n) s).bind (fun s1 => (fMembers (tkOf b n) (tkOf b n).n s1).bind (fun s2 => if (tkOf b n).k s2.i = 130 then .ok s2 else .error (rf (tkOf b n) 2 s2)))))) (ErM b n M0 post) (fAttr (tkOf b n) s) := by
            cases hm : fAttr (tkOf b n) s with
            | ok a => rw [hm] at p'; exact p'
            | error e => rw [hm] at p'; exact p'
          have hna : Ex (fun s' : PS => s'.T.na = s.T.na + 1) (fun _ => True) (fAttr (tkOf b n) s) := by
            unfold fAttr
            split
            · trivial
            · split
              · trivial
              · split
                · trivial
                · split
                  · trivial
                  · split
                    · trivial
                    · exact Ex_mono (req_ad _ _) (fun s' hs' => by rw [hs']) (fun _ h => h)
          refine Ex_mono (Ex_and p2 (Ex_and (fAttr_f (k := tkOf b n) s) hna)) (fun s' hs' M2 a2 => ?_) (fun f hf M2 f2 => ?_)
          · obtain ⟨q1, q2, q3⟩ := hs'
            exact ih s' M2 (by rw [q2.od]; exact a2) (q2.inv hi) (by rw [q2.os, hos]) (by omega) q1
          · unfold w_Mo_readText_L59
            refine nb_f f2.ne ?_
            unfold w_Mo_readText_J84
            exact m_isWordF (j := 4) h0 f2 (by omega) (by omega) (fun bb => m_needF f2 (br_f f2.ne (hf.1 M2 f2)))
        · rw [if_neg g1] at p'
          rw [decide_eq_false g1]
          exact br_t rfl (G84 s M' (Or.inl r') hi p' hos)
      · rw [if_neg (by omega)] at p'
        exact nb_f f'.ne (G84 s M' (Or.inr ⟨hb, f'⟩) hi p' hos)
  refine m_nextC (i := 0) (p := 0) h0 fr e38 e32 (by rw [e36]; exact szb) (Nat.zero_le _) e33 Cu.zero (fun M1 ft1 a1 => ⟨10, ?_⟩)
  refine key 9 ps0 M1 ?_ PInv.ps0 rfl (by show 8 < 9 + 0; omega) p0
  rcases a1 with l1 | f1
  · left
    have hz : ∀ {P : Nat → Prop}, ∀ i, i < 0 → P i := fun i h => absurd h (Nat.not_lt_zero _)
    have q3 : mR M1 2 3 0 = 0 := by rw [ft1.mR]; exact e3
    have q10 : mR M1 2 10 0 = 0 := by rw [ft1.mR]; exact e10
    have q15 : mR M1 2 15 0 = 0 := by rw [ft1.mR]; exact e15
    have q23 : mR M1 2 23 0 = 0 := by rw [ft1.mR]; exact e23
    have q24 : mR M1 2 24 0 = 0 := by rw [ft1.mR]; exact e24
    refine ⟨l1, ?_, by rw [ft1.2.2.2.2 39 (by omega)]; exact e39, by show 0 ≤ 20; omega, by show 0 + 0 ≤ 0; omega, fun a ha => (by cases ha), fun _ _ => by show 0 < 256; omega⟩
    exact ⟨q3, by show 0 ≤ 8; omega, hz, hz, hz, hz, hz, hz, hz, hz, q10, by show 0 ≤ 100; omega, hz, hz, hz, hz, hz, hz, hz, q15, by show 0 ≤ 400; omega, hz, hz, hz, hz, hz, hz, q23, by show 0 ≤ 0; omega, q24, by show 0 ≤ 100; omega, hz, hz, hz⟩
  · right
    exact f1
end MA
