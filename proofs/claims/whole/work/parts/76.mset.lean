/-! THE MODEL'S READER, VIII: sets, rules, duties, the whole text. -/
section MA
variable {b : Nat → Nat} {n : Nat} {M0 M : aM} {s : PS} {d o : Nat} {f : Fl}
/-- behind a fault there is nothing more to tell -/
def ErM (b : Nat → Nat) (n : Nat) (M0 : aM) (post : aM → Prop) (f : Fl) : Prop := ∀ M', FM b n M0 f M' → post M'
def OkM (b : Nat → Nat) (n : Nat) (M0 : aM) (post : aM → Prop) (s : PS) : Prop := ∀ M', AM b n M0 s s.od 0 M' → post M'
/-- the name of node i is kept -/
theorem m_nameN {post : aM → Prop} {i : Nat} {x : Int32} (h0 : TpM b n M0) (h : RM b n M0 s d o M) (hi : i < s.T.nn) (hk : (tkOf b n).k s.i = 128) (q : ∀ M', RM b n M0 (PS.s_T s ((Txt.s_nnm (Txt.s_nnl s.T (up s.T.nnl i ((tkOf b n).v s.i))) (up s.T.nnm i (fun j => b ((tkOf b n).pl s.i + j)))))) d o M' → post M') (hx : x = nI (216 + (8 + i)) := by rfl) : w_Mo_keepName post 136 x M := by
  subst hx
  have lnn := h.T.lnn
  have m := h.T
  have hw := h.L.wd (Or.inr hk)
  have hv := hw.2.1
  refine m_keep h0 h.L hk (by omega) (fun M2 fr2 ks2 e2 e138 e139 => q M2 ?_)
  have Rc : ∀ c, c ≠ 8 → c ≠ 9 → mR M2 2 c = mR M 2 c := fun c g1 g2 => mR_row (e2 _ (by omega) (by omega))
  have R8 : mR M2 2 8 = up (mR M 2 8) (8 + i) (nI ((tkOf b n).v s.i)) := by
    funext j
    show rI M2 144 (216 + j) = if j = 8 + i then _ else rI M 144 (216 + j)
    rw [e138, up_e]
    by_cases g : j = 8 + i
    · rw [if_pos (by omega), if_pos g]
    · rw [if_neg (by omega), if_neg g]
  have R9 : mR M2 2 9 = fun j => if 12 * (8 + i) ≤ j ∧ j < 12 * (8 + i) + (tkOf b n).v s.i then sx (b ((tkOf b n).pl s.i + (j - 12 * (8 + i)))) else mR M 2 9 j := by
    funext j
    show rI M2 145 (2592 + j) = if 12 * (8 + i) ≤ j ∧ j < 12 * (8 + i) + (tkOf b n).v s.i then sx (b ((tkOf b n).pl s.i + (j - 12 * (8 + i)))) else rI M 145 (2592 + j)
    rw [e139]
    by_cases g : 12 * (8 + i) ≤ j ∧ j < 12 * (8 + i) + (tkOf b n).v s.i
    · rw [if_pos (by omega), if_pos g, show 2592 + j - 12 * (216 + (8 + i)) = j - 12 * (8 + i) by omega]
    · rw [if_neg (by omega), if_neg g]
  refine RM.T2 h fr2 (fun j _ => by rw [e2 136 (by omega) (by omega)]) ?_ h.cn (Nat.le_refl _) h.lnm
  have lna := m.lna
  have key : RepM (up (up (mR M 2) 8 (up (mR M 2 8) (8 + i) (nI ((tkOf b n).v s.i)))) 9 (fun j => if 12 * (8 + i) ≤ j ∧ j < 12 * (8 + i) + (tkOf b n).v s.i then sx (b ((tkOf b n).pl s.i + (j - 12 * (8 + i)))) else mR M 2 9 j)) (Txt.s_nnm (Txt.s_nnl s.T (up s.T.nnl i ((tkOf b n).v s.i))) (up s.T.nnm i (fun j => b ((tkOf b n).pl s.i + j)))) (fun _ => 0) :=
    ⟨m.na,
      m.lna,
      m.asz,
      m.lasz,
      m.amany,
      m.amust,
      m.bag,
      fun i' hi' => by
        have hi2 : i' < s.T.na := hi'
        show up (mR M 2 8) (8 + i) (nI ((tkOf b n).v s.i)) i' = _
        rw [up_n (by omega)]
        exact m.anl i' hi',
      m.lanl,
      fun i' hi' j hj => by
        have hi2 : i' < s.T.na := hi'
        have hj2 : j < s.T.anl i' := hj
        have hl : s.T.anl i' ≤ 12 := m.lanl i' hi'
        show (if 12 * (8 + i) ≤ 12 * i' + j ∧ 12 * i' + j < 12 * (8 + i) + (tkOf b n).v s.i then _ else mR M 2 9 (12 * i' + j)) = _
        rw [if_neg (by omega)]
        exact m.anm i' hi' j hj,
      m.nn,
      m.lnn,
      m.srt,
      m.way,
      m.fa,
      m.root,
      fun i' hi' => by
        show up (mR M 2 8) (8 + i) (nI ((tkOf b n).v s.i)) (8 + i') = nI (up s.T.nnl i ((tkOf b n).v s.i) i')
        by_cases g : i' = i
        · subst g; rw [up_s, up_s]
        · rw [up_n (by omega), up_n g]; exact m.nnl i' hi',
      up_le (P := fun o => o ≤ 12) m.lnnl hv,
      fun i' hi' j hj => by
        have hj2 : j < up s.T.nnl i ((tkOf b n).v s.i) i' := hj
        show (if 12 * (8 + i) ≤ 12 * (8 + i') + j ∧ 12 * (8 + i') + j < 12 * (8 + i) + (tkOf b n).v s.i then sx (b ((tkOf b n).pl s.i + (12 * (8 + i') + j - 12 * (8 + i)))) else mR M 2 9 (12 * (8 + i') + j)) = sx (up s.T.nnm i (fun j => b ((tkOf b n).pl s.i + j)) i' j)
        by_cases g : i' = i
        · subst g
          rw [up_s] at hj2
          rw [if_pos (by omega), up_s, show 12 * (8 + i') + j - 12 * (8 + i') = j by omega]
        · rw [up_n g] at hj2
          have hl := m.lnnl i' hi'
          have hl2 : s.T.nnl i' ≤ 12 := hl
          rw [if_neg (by omega), up_n g]
          exact m.nnm i' hi' j hj2,
      m.np,
      m.lnp,
      m.pk,
      m.pa,
      m.pnum,
      m.pf,
      m.pn,
      m.dn,
      m.cm,
      m.ldn,
      m.nd,
      m.lnd,
      m.dof,
      m.dfor,
      m.dnum⟩
  have eR : mR M2 2 = up (up (mR M 2) 8 (up (mR M 2 8) (8 + i) (nI ((tkOf b n).v s.i)))) 9 (fun j => if 12 * (8 + i) ≤ j ∧ j < 12 * (8 + i) + (tkOf b n).v s.i then sx (b ((tkOf b n).pl s.i + (j - 12 * (8 + i)))) else mR M 2 9 j) := by
    funext c
    by_cases g9 : c = 9
    · subst g9; rw [up_s, R9]
    · rw [up_n g9]
      by_cases g8 : c = 8
      · subst g8; rw [up_s, R8]
      · rw [up_n g8, Rc c g8 g9]
  rw [eR]
  exact key
/-- 'for' and an expression, or nothing -/
theorem m_for {post : aM → Prop} {i : Nat} {x : Int32} (h0 : TpM b n M0) (a : AM b n M0 s s.od 0 M) (hi : i < s.T.nn) (hn : s.T.nn ≤ 100) (p : Ex (OkM b n M0 post) (ErM b n M0 post) (fFor (tkOf b n) i s)) (hx : x = nI i := by rfl) : w_Mo_forPart post 136 x M := by
  subst hx
  unfold w_Mo_forPart
  rw [fFor] at p
  have kr : ∀ M', FrM M0 M' → (rK M' 150).2 = 300 := fun M' fr => m_K h0 fr 149 300
  rcases a with r | ⟨hb, f'⟩
  · refine nb_t r.L.fl ?_
    refine m_isWord (j := 5) h0 r.L (by omega) (by omega) ?_
    by_cases g : (tkOf b n).k s.i = 5
    · rw [if_pos g] at p
      rw [decide_eq_true g]
      refine br_f (by decide) ?_
      refine m_nextR h0 r (by omega) (fun M1 ft1 a1 => ?_)
      have ld := r.ld
      refine m_expr (s := s.st) (d := 20 - s.od) h0 a1 (by show 20 - s.od + s.od = 20; omega) ?_
      have hin : vp_in (nI (200 + i)) 300 := vin (by omega)
      refine Ex_mono (Ex_and (Ex_bind p) (Ex_and (fJoin_good (fJoin_good (fPart_good (20 - s.od))) s.st) (fJoin_f (fJoin_f (fPart_f (20 - s.od))) s.st))) (fun q hq x3 M3 a3 hx3 => ?_) (fun f hf M3 f3 => ?_)
      · obtain ⟨p1, ⟨g1, g2⟩, g3⟩ := hq
        rcases a3 with r3 | ⟨hb3, f3⟩
        · have ex := hx3 r3.L.nb
          subst ex
          simp (disch := omega) only [Nat.reduceAdd, kr M3 r3.L.fr, a200, nI_clamp]
          refine ⟨hin, p1 _ (Or.inl ?_)⟩
          have m := r3.T
          refine RM.T2 r3 (r3.L.fr.w (by unfold dLo; omega)) (fun j _ => by rw [rw_n (by omega)]) ?_ r3.cn (Nat.le_refl _) r3.lnm
          rw [mR_14]
          exact ⟨m.na,
      m.lna,
      m.asz,
      m.lasz,
      m.amany,
      m.amust,
      m.bag,
      m.anl,
      m.lanl,
      m.anm,
      m.nn,
      m.lnn,
      m.srt,
      m.way,
      m.fa,
      em_set m.root rfl,
      m.nnl,
      m.lnnl,
      m.nnm,
      m.np,
      m.lnp,
      m.pk,
      m.pa,
      m.pnum,
      m.pf,
      m.pn,
      m.dn,
      m.cm,
      m.ldn,
      m.nd,
      m.lnd,
      m.dof,
      m.dfor,
      m.dnum⟩
        · simp (disch := omega) only [Nat.reduceAdd, kr M3 f3.fr, a200, nI_clamp]
          exact ⟨hin, p1 _ (Or.inr ⟨hb3, f3.w (by unfold dLo; omega) (by omega)⟩)⟩
      · simp (disch := omega) only [Nat.reduceAdd, kr M3 f3.fr, a200, nI_clamp]
        exact ⟨hin, hf.1 _ (f3.w (by unfold dLo; omega) (by omega))⟩
    · rw [if_neg g] at p
      rw [decide_eq_false g]
      exact br_t rfl (p M (Or.inl r))
  · rw [if_neg (by omega)] at p
    exact nb_f f'.ne (p M (Or.inr ⟨hb, f'⟩))
theorem m_forF {post : aM → Prop} {x : Int32} (h : FM b n M0 f M) (p : post M) : w_Mo_forPart post 136 x M := by
  unfold w_Mo_forPart
  exact nb_f h.ne p
theorem m_set {post : Int32 → aM → Prop} {x : Int32} (h0 : TpM b n M0) (h : RM b n M0 s s.od 0 M) (hk : (tkOf b n).k s.i = 4) (p : Ex (fun s' => ∀ M', AM b n M0 s' s'.od 0 M' → post (oI s'.os) M') (fun f => ∀ x M', FM b n M0 f M' → post x M') (fSet (tkOf b n) s)) (hx : x = oI s.os := by rfl) : w_Mo_beginSet post 136 x M := by
  unfold w_Mo_beginSet
  rw [fSet, if_neg (fun g => g hk)] at p
  have k12 : ∀ M', FrM M0 M' → (rK M' 148).2 = 300 := fun M' fr => m_K h0 fr 147 300
  refine m_newNode (so := 2) (os := s.os) h0 h ?_ rfl hx
  refine Ex_mono (Ex_and (Ex_bind p) (fNode_ad 2 s)) (fun q hq M1 r1 => ?_) (fun f hf M1 f1 => ?_)
  · obtain ⟨p1, q1, q2, q3⟩ := hq
    have hqn : q.1 < q.2.T.nn := by rw [q1, q2]; show _ < (addNd s.T 2 s.os).nn; rw [addNd_nn]; omega
    have lnn := r1.T.lnn
    have hi1 : q.2.i = s.i := by rw [q2]
    have ho1 : q.2.od = s.od := by rw [q2]
    have hin : vp_in (nI (200 + q.1)) 300 := vin (by omega)
    have r1' : RM b n M0 q.2 q.2.od 0 M1 := RM.eqd r1 ho1.symm rfl
    -- coasting
    have F129 : ∀ (f : Fl) (M' : aM), FM b n M0 f M' → (∀ x M', FM b n M0 f M' → post x M') → w_Mo_beginSet_J129 post 136 (nI q.1) M' := by
      intro f M' f' p'
      have f2 := f'.w (k := 136) (j := 39) (x := rI M' 136 39 + 1) (by unfold dLo; omega) (by omega)
      unfold w_Mo_beginSet_J129
      exact m_nextF f2 (p' _ _ f2)
    have Fis : ∀ (f : Fl) (M' : aM), FM b n M0 f M' → (∀ x M', FM b n M0 f M' → post x M') → w_Mo_is (fun x4 => w_Mo_need (fun M5 => ((¬ (rI M5 136 38) = ((-1 : Int32))) → w_Mo_beginSet_J129 post 136 (nI q.1) M5) ∧ (¬ (¬ (rI M5 136 38) = ((-1 : Int32))) → ((¬ (rI M5 136 39) = ((20 : Int32))) → w_Mo_beginSet_J129 post 136 (nI q.1) M5) ∧ (¬ (¬ (rI M5 136 39) = ((20 : Int32))) → w_Mo_bad (fun M6 => w_Mo_beginSet_J129 post 136 (nI q.1) M6) 136 ((5 : Int32)) M5))) 136 x4 M') 136 ((123 : Int32)) M' := by
      intro f M' f' p'
      exact m_isF h0 f' (fun bb => m_needF f' (nb_f f'.ne (F129 f M' f' p')))
    have F74 : ∀ (f : Fl) (M' : aM) (v3 y : Int32), FM b n M0 f M' → (∀ x M', FM b n M0 f M' → post x M') → w_Mo_beginSet_J74 post 136 (nI q.1) v3 136 y M' := by
      intro f M' v3 y f' p'
      unfold w_Mo_beginSet_J74
      refine m_needF f' ?_
      simp (disch := omega) only [Nat.reduceAdd, k12 M' f'.fr, a200, nI_clamp]
      have f2 := f'.w (k := 148) (j := 200 + q.1) (x := v3) (by unfold dLo; omega) (by omega)
      exact ⟨hin, m_nextF f2 (m_forF f2 (Fis f _ f2 p'))⟩
    refine m_nextR h0 r1' (by rw [hi1]; omega) (fun M2 ft2 a2 => ?_)
    rcases a2 with r2 | ⟨hb2, f2⟩
    · refine m_isName h0 r2.L ?_
      by_cases gn : (tkOf b n).k (q.2.i + 1) = 128
      · have en : fName (tkOf b n) q.1 q.2.st = (true, (PS.s_T q.2.st.st ((Txt.s_nnm (Txt.s_nnl q.2.T (up q.2.T.nnl q.1 ((tkOf b n).v (q.2.i + 1)))) (up q.2.T.nnm q.1 (fun j => b ((tkOf b n).pl (q.2.i + 1) + j))))))) := by
          rw [fName, if_pos (by exact gn)]
          rfl
        dsimp only at p1
        rw [en, if_neg (by simp)] at p1
        dsimp only at p1
        rw [show (decide ((tkOf b n).k q.2.st.i = 128)) = true from decide_eq_true gn]
        refine m_need (bb := true) h0 r2.L (fun _ => ?_) (fun z => by cases z)
        refine br_t r2.L.fl ?_
        unfold w_Mo_nameOf
        refine nb_f (by decide) ?_
        rw [a8, n216]
        refine m_nameN (i := q.1) h0 r2 hqn gn (fun M3 r3 => ?_)
        refine m_nextR h0 r3 (by show (tkOf b n).k (q.2.i + 1) ≠ 130; omega) (fun M4 ft4 a4 => ?_)
        rcases a4 with r4 | ⟨hb4, f4⟩
        · refine nb_t r4.L.fl ?_
          have l4 : LM b n M0 (q.2.i + 1 + 1) M4 := r4.L
          refine m_among am53 h0 l4 (fun m hm hc => ?_) (fun hc => ?_)
          · rw [if_neg (by show ¬ ((tkOf b n).k (q.2.i + 1 + 1) < 22 ∨ 27 < (tkOf b n).k (q.2.i + 1 + 1)); omega)] at p1
            unfold w_Mo_beginSet_J62
            refine br_f (nI_m1 (by omega)) ?_
            unfold w_Mo_beginSet_J74
            refine m_need (bb := true) h0 l4 (fun _ => ?_) (fun z => by cases z)
            simp (disch := omega) only [Nat.reduceAdd, k12 M4 l4.fr, a200, nI_clamp]
            refine ⟨hin, ?_⟩
            have m5 := r4.T
            have r5 : RM b n M0 (PS.s_T q.2.st.st ((Txt.s_way (Txt.s_nnm (Txt.s_nnl q.2.T (up q.2.T.nnl q.1 ((tkOf b n).v (q.2.i + 1)))) (up q.2.T.nnm q.1 (fun j => b ((tkOf b n).pl (q.2.i + 1) + j)))) (up q.2.T.way q.1 (some ((tkOf b n).k (q.2.i + 1 + 1) - 22)))))) q.2.od 0 (wI M4 148 (200 + q.1) (nI m)) := by
              refine RM.T2 (s := (PS.s_T q.2.st.st ((Txt.s_nnm (Txt.s_nnl q.2.T (up q.2.T.nnl q.1 ((tkOf b n).v (q.2.i + 1)))) (up q.2.T.nnm q.1 (fun j => b ((tkOf b n).pl (q.2.i + 1) + j))))))) r4 (l4.fr.w (by unfold dLo; omega)) (fun j _ => by rw [rw_n (by omega)]) ?_ r4.cn (Nat.le_refl _) r4.lnm
              rw [mR_12]
              exact ⟨m5.na,
      m5.lna,
      m5.asz,
      m5.lasz,
      m5.amany,
      m5.amust,
      m5.bag,
      m5.anl,
      m5.lanl,
      m5.anm,
      m5.nn,
      m5.lnn,
      m5.srt,
      em_set m5.way (by show nI m = nI ((tkOf b n).k (q.2.i + 1 + 1) - 22); rw [hc, show 22 + m - 22 = m by omega]),
      m5.fa,
      m5.root,
      m5.nnl,
      m5.lnnl,
      m5.nnm,
      m5.np,
      m5.lnp,
      m5.pk,
      m5.pa,
      m5.pnum,
      m5.pf,
      m5.pn,
      m5.dn,
      m5.cm,
      m5.ldn,
      m5.nd,
      m5.lnd,
      m5.dof,
      m5.dfor,
      m5.dnum⟩
            refine m_nextR h0 r5 (by show (tkOf b n).k (q.2.i + 1 + 1) ≠ 130; omega) (fun M6 ft6 a6 => ?_)
            refine m_for (i := q.1) h0 a6 hqn lnn ?_
            refine Ex_mono (Ex_and (Ex_bind p1) (fFor_f (k := tkOf b n) q.1 _)) (fun s2 hs2 M7 a7 => ?_) (fun f hf M7 f7 => Fis f M7 f7 hf.1)
            obtain ⟨p2, g1, g2⟩ := hs2
            rcases a7 with r7 | ⟨hb7, f7⟩
            · refine m_is h0 r7.L (c := 123) rfl ?_
              refine m_need h0 r7.L (fun z => ?_) (fun z M8 f8 => ?_)
              · have z' : (tkOf b n).k s2.i = 123 := of_decide_eq_true z
                rw [if_neg (fun g => g z')] at p2
                refine nb_t r7.L.fl ?_
                have ld7 := r7.ld
                refine pk_ne s2.od 20 (fun z8 => ?_) (fun z8 => ?_) r7.dp
                · rw [if_neg (by omega)] at p2
                  unfold w_Mo_beginSet_J129
                  rw [r7.dp, nI_1]
                  have r8 := RM.w39 (d' := s2.od + 1) r7 (by omega)
                  refine m_nextR h0 r8 (by omega) (fun M9 ft9 a9 => ?_)
                  have p3 : ∀ M', AM b n M0 (PS.s_od (PS.s_os s2.st (some q.1)) (s2.od + 1)) (s2.od + 1) 0 M' → post (nI q.1) M' := p2
                  refine p3 M9 ?_
                  rcases a9 with r9 | f9
                  · left
                    exact ⟨r9.L, r9.T, r9.dp, r9.ld, r9.cn, fun a ha => by cases ha; show q.1 < s2.T.nn; rw [g1.nn]; exact hqn, r9.lnm⟩
                  · right
                    exact f9
                · rw [if_pos (by omega)] at p2
                  exact m_bad h0 r7.L (fun M8 f8 => F129 _ _ f8 p2)
              · have z' : (tkOf b n).k s2.i ≠ 123 := of_decide_eq_false z
                rw [if_pos z'] at p2
                exact nb_f f8.ne (F129 _ _ f8 p2)
            · rw [if_pos (by omega)] at p2
              refine Fis _ M7 f7 ?_
              have e : rf (tkOf b n) 2 s2 = (1, (tkOf b n).pl s2.i) := rf_bad hb7
              rw [e] at p2
              exact p2
          · rw [if_pos (by show (tkOf b n).k (q.2.i + 1 + 1) < 22 ∨ 27 < (tkOf b n).k (q.2.i + 1 + 1); omega)] at p1
            unfold w_Mo_beginSet_J62
            refine br_t rfl ?_
            unfold w_Mo_beginSet_J74
            refine m_need (bb := false) h0 l4 (fun z => by cases z) (fun _ M5 f5 => ?_)
            simp (disch := omega) only [Nat.reduceAdd, k12 M5 f5.fr, a200, nI_clamp]
            have f6 := f5.w (k := 148) (j := 200 + q.1) (x := -1) (by unfold dLo; omega) (by omega)
            exact ⟨hin, m_nextF f6 (m_forF f6 (Fis _ _ f6 p1))⟩
        · have hb4' : (tkOf b n).k (q.2.i + 1 + 1) = 131 := hb4
          rw [if_pos (by show (tkOf b n).k (q.2.i + 1 + 1) < 22 ∨ 27 < (tkOf b n).k (q.2.i + 1 + 1); omega)] at p1
          refine nb_f f4.ne ?_
          unfold w_Mo_beginSet_J62
          refine br_t rfl (F74 _ _ _ _ f4 ?_)
          have p9 : ∀ x M', FM b n M0 (rfi (tkOf b n) 2 (q.2.i + 1 + 1)) M' → post x M' := p1
          rw [rf_bad hb4'] at p9
          exact p9
      · have en : fName (tkOf b n) q.1 q.2.st = (false, q.2.st) := by
          rw [fName, if_neg (by exact gn)]
        dsimp only at p1
        rw [en, if_pos rfl] at p1
        rw [show (decide ((tkOf b n).k q.2.st.i = 128)) = false from decide_eq_false gn]
        refine m_need (bb := false) h0 r2.L (fun z => by cases z) (fun _ M3 f3 => br_f f3.ne (p1 _ M3 f3))
    · have hb2' : (tkOf b n).k (q.2.i + 1) = 131 := hb2
      have en : fName (tkOf b n) q.1 q.2.st = (false, q.2.st) := by
        rw [fName, if_neg (by show ¬ (tkOf b n).k (q.2.i + 1) = 128; omega)]
      dsimp only at p1
      rw [en, if_pos rfl] at p1
      have e : rf (tkOf b n) 2 q.2.st = (1, (tkOf b n).pl (q.2.i + 1)) := rf_bad hb2'
      rw [e] at p1
      exact m_isNameF h0 f2 (fun bb => m_needF f2 (br_f f2.ne (p1 _ M2 f2)))
  · exact m_nextF f1 (m_isNameF h0 f1 (fun bb => m_needF f1 (br_f f1.ne (hf.1 _ M1 f1))))
theorem m_rule {post : aM → Prop} {x : Int32} (h0 : TpM b n M0) (h : RM b n M0 s s.od 0 M) (hk : (tkOf b n).k s.i = 6 ∨ (tkOf b n).k s.i = 7) (p : Ex (OkM b n M0 post) (ErM b n M0 post) (fRule (tkOf b n) s)) (hx : x = oI s.os := by rfl) : w_Mo_readRule post 136 x M := by
  have F134 : ∀ (f : Fl) (M' : aM), FM b n M0 f M' → ErM b n M0 post f → w_Mo_readRule_J134 post 136 M' := by
    intro f M' f' p'
    unfold w_Mo_readRule_J134
    exact m_eatF h0 f' (p' M' f')
  have G134 : ∀ (s3 : PS) (M' : aM), AM b n M0 s3 s3.od 0 M' → Ex (OkM b n M0 post) (ErM b n M0 post) (req (tkOf b n) 59 s3) → w_Mo_readRule_J134 post 136 M' := by
    intro s3 M' a' p'
    rcases a' with r' | ⟨hb, f'⟩
    · unfold w_Mo_readRule_J134
      refine m_eat h0 r'.L (c := 59) rfl (fun z M2 ft2 a2 => ?_) (fun z M2 f2 => ?_)
      · rw [req, if_pos z] at p'
        refine p' M2 ?_
        rcases a2 with l2 | f2
        · exact Or.inl (r'.ft ft2 l2)
        · exact Or.inr f2
      · rw [req, if_neg z] at p'
        exact p' M2 f2
    · rw [req, if_neg (by omega), rf, rf_bad hb] at p'
      exact F134 _ _ f' p'
  have F58 : ∀ (f : Fl) (M' : aM) (v2 v3 : Int32), FM b n M0 f M' → ErM b n M0 post f → w_Mo_readRule_J58 post 136 v2 v3 M' := by
    intro f M' v2 v3 f' p'
    unfold w_Mo_readRule_J58
    exact m_forF f' (nb_f f'.ne (F134 f M' f' p'))
  have main : ∀ so : Nat, so < 2 → Ex (OkM b n M0 post) (ErM b n M0 post) ((fNode (tkOf b n) so s).bind (fun q => (fFor (tkOf b n) q.1 (fName (tkOf b n) q.1 q.2.st).2).bind (fun s2 => (if (tkOf b n).k s2.i = 8 then fDuties (tkOf b n) q.1 (so + 1) 101 s2 else .ok s2).bind (fun s3 => req (tkOf b n) 59 s3)))) → w_Mo_readRule_J15 post 136 x (nI (so + 1)) M := by
    intro so hso p
    unfold w_Mo_readRule_J15
    rw [show nI (so + 1) - 1 = nI so from nI_pred so]
    refine m_newNode (so := so) (os := s.os) h0 h ?_ rfl hx
    refine Ex_mono (Ex_and (Ex_bind p) (fNode_ad so s)) (fun q hq M1 r1 => ?_) (fun f hf M1 f1 => ?_)
    · obtain ⟨p1, q1, q2, q3⟩ := hq
      have hqn : q.1 < q.2.T.nn := by rw [q1, q2]; show _ < (addNd s.T so s.os).nn; rw [addNd_nn]; omega
      have lnn := r1.T.lnn
      have hi1 : q.2.i = s.i := by rw [q2]
      have ho1 : q.2.od = s.od := by rw [q2]
      have r1' : RM b n M0 q.2 q.2.od 0 M1 := RM.eqd r1 ho1.symm rfl
      -- behind the name
      have G58 : ∀ (y : PS) (M' : aM), AM b n M0 y y.od 0 M' → y.T.nn = q.2.T.nn → Ex (OkM b n M0 post) (ErM b n M0 post) ((fFor (tkOf b n) q.1 y).bind (fun s2 => (if (tkOf b n).k s2.i = 8 then fDuties (tkOf b n) q.1 (so + 1) 101 s2 else .ok s2).bind (fun s3 => req (tkOf b n) 59 s3))) → w_Mo_readRule_J58 post 136 (nI (so + 1)) (nI q.1) M' := by
        intro y M' a' en p'
        unfold w_Mo_readRule_J58
        refine m_for (i := q.1) h0 a' (by rw [en]; exact hqn) (by rw [en]; exact lnn) ?_
        refine Ex_mono (Ex_and (Ex_bind p') (fFor_f (k := tkOf b n) q.1 y)) (fun s2 hs2 M4 a4 => ?_) (fun f hf M4 f4 => nb_f f4.ne (F134 f M4 f4 hf.1))
        obtain ⟨p2, g1, g2⟩ := hs2
        rcases a4 with r4 | ⟨hb4, f4⟩
        · refine nb_t r4.L.fl ?_
          refine m_isWord (j := 8) h0 r4.L (by omega) (by omega) ?_
          by_cases g8 : (tkOf b n).k s2.i = 8
          · rw [if_pos g8] at p2
            rw [decide_eq_true g8]
            refine br_f (by decide) ?_
            have key : ∀ (N : Nat) (s3 : PS) (M3 : aM), RM b n M0 s3 s3.od 0 M3 → (tkOf b n).k s3.i ≠ 130 → 100 < N + s3.T.nd → Ex (fun s4 => Ex (OkM b n M0 post) (ErM b n M0 post) (req (tkOf b n) 59 s4)) (ErM b n M0 post) (fDuties (tkOf b n) q.1 (so + 1) N s3) → w_Mo_readRule_L84 post (N + 1) 136 (nI (so + 1)) (nI q.1) 1 M3 := by
              intro N
              induction N with
              | zero =>
                intro s3 M3 r3 hk3 hN p3
                have := r3.T.lnd
                omega
              | succ N ih =>
                intro s3 M3 r3 hk3 hN p3
                unfold w_Mo_readRule_L84
                refine br_f (by decide) (nb_t r3.L.fl ?_)
                rw [fDuties] at p3
                have LF : ∀ (f : Fl) (M' : aM), FM b n M0 f M' → ErM b n M0 post f → w_Mo_readRule_L84 post (N + 1) 136 (nI (so + 1)) (nI q.1) 0 M' := by
                  intro f M' f' p'
                  unfold w_Mo_readRule_L84
                  exact br_t rfl (F134 f M' f' p')
                refine m_nextR h0 r3 hk3 (fun M5 ft5 a5 => ?_)
                rcases a5 with r5 | ⟨hb5, f5⟩
                · refine m_newDuty (ow := q.1) (dc := so + 1) h0 r5 ?_
                  have ndq : Ex (fun s' : PS => s'.T.nd = s3.T.nd + 1 ∧ s'.od = s3.od) (fun _ => True) (fDutyN (tkOf b n) q.1 (so + 1) s3.st) := by
                    unfold fDutyN
                    split
                    · trivial
                    · split
                      · trivial
                      · exact ⟨rfl, rfl⟩
                  refine Ex_mono (Ex_and (Ex_bind p3) ndq) (fun s6 hs6 M6 a6 => ?_) (fun f hf M6 f6 => nb_f f6.ne (LF f M6 f6 hf.1))
                  obtain ⟨p6, e6, e7⟩ := hs6
                  have a6' : AM b n M0 s6 s6.od 0 M6 := by rw [e7]; exact a6
                  rcases a6' with r6 | ⟨hb6, f6⟩
                  · refine nb_t r6.L.fl ?_
                    refine m_is h0 r6.L (c := 44) rfl ?_
                    by_cases g44 : (tkOf b n).k s6.i = 44
                    · rw [if_pos g44] at p6
                      rw [decide_eq_true g44]
                      exact br_f (by decide) (ih s6 M6 r6 (by omega) (by omega) p6)
                    · rw [if_neg g44] at p6
                      rw [decide_eq_false g44]
                      refine br_t rfl ?_
                      unfold w_Mo_readRule_L84
                      exact br_t rfl (G134 s6 M6 (Or.inl r6) p6)
                  · rw [if_neg (by omega)] at p6
                    refine nb_f f6.ne ?_
                    unfold w_Mo_readRule_L84
                    exact br_t rfl (G134 s6 M6 (Or.inr ⟨hb6, f6⟩) p6)
                · have hb5' : (tkOf b n).k (s3.i + 1) = 131 := hb5
                  have p7 := Ex_bind p3
                  rw [fDutyN, if_pos (by show (tkOf b n).k (s3.i + 1) ≠ 129; omega)] at p7
                  have e : rf (tkOf b n) 2 s3.st = (1, (tkOf b n).pl (s3.i + 1)) := rf_bad hb5'
                  rw [e] at p7
                  exact m_newDutyF f5 (nb_f f5.ne (LF _ M5 f5 p7))
            exact ⟨102, key 101 s2 M4 r4 (by omega) (by omega) (Ex_bind p2)⟩
          · rw [if_neg g8] at p2
            rw [decide_eq_false g8]
            exact br_t rfl (G134 s2 M4 (Or.inl r4) p2)
        · rw [if_neg (by omega)] at p2
          exact nb_f f4.ne (G134 s2 M4 (Or.inr ⟨hb4, f4⟩) p2)
      refine m_nextR h0 r1' (by rw [hi1]; omega) (fun M2 ft2 a2 => ?_)
      rcases a2 with r2 | ⟨hb2, f2⟩
      · refine nb_t r2.L.fl ?_
        refine m_isName h0 r2.L ?_
        by_cases gn : (tkOf b n).k (q.2.i + 1) = 128
        · have en : fName (tkOf b n) q.1 q.2.st = (true, (PS.s_T q.2.st.st ((Txt.s_nnm (Txt.s_nnl q.2.T (up q.2.T.nnl q.1 ((tkOf b n).v (q.2.i + 1)))) (up q.2.T.nnm q.1 (fun j => b ((tkOf b n).pl (q.2.i + 1) + j))))))) := by
            rw [fName, if_pos (by exact gn)]
            rfl
          rw [en] at p1
          rw [show (decide ((tkOf b n).k q.2.st.i = 128)) = true from decide_eq_true gn]
          refine br_f (by decide) ?_
          unfold w_Mo_nameOf
          refine nb_f (by decide) ?_
          rw [a8, n216]
          refine m_nameN (i := q.1) h0 r2 hqn gn (fun M3 r3 => ?_)
          refine m_nextR h0 r3 (by show (tkOf b n).k (q.2.i + 1) ≠ 130; omega) (fun M4 ft4 a4 => ?_)
          exact G58 _ M4 a4 rfl p1
        · have en : fName (tkOf b n) q.1 q.2.st = (false, q.2.st) := by
            rw [fName, if_neg (by exact gn)]
          rw [en] at p1
          rw [show (decide ((tkOf b n).k q.2.st.i = 128)) = false from decide_eq_false gn]
          exact br_t rfl (G58 q.2.st M2 (Or.inl r2) rfl p1)
      · have hb2' : (tkOf b n).k (q.2.i + 1) = 131 := hb2
        have en : fName (tkOf b n) q.1 q.2.st = (false, q.2.st) := by
          rw [fName, if_neg (by show ¬ (tkOf b n).k (q.2.i + 1) = 128; omega)]
        rw [en] at p1
        exact nb_f f2.ne (G58 q.2.st M2 (Or.inr ⟨hb2, f2⟩) rfl p1)
    · exact m_nextF f1 (nb_f f1.ne (F58 f M1 _ _ f1 hf.1))
  unfold w_Mo_readRule
  refine m_isWord (j := 6) h0 h.L (by omega) (by omega) ?_
  rw [fRule] at p
  by_cases g : (tkOf b n).k s.i = 6
  · rw [if_pos g] at p
    rw [decide_eq_true g]
    exact br_f (by decide) (main 0 (by omega) p)
  · rw [if_neg g] at p
    rw [decide_eq_false g]
    exact br_t rfl (main 1 (by omega) p)
theorem m_duty {post : aM → Prop} {a : Nat} {x : Int32} (h0 : TpM b n M0) (h : RM b n M0 s s.od 0 M) (ho : s.os = some a) (hk : (tkOf b n).k s.i = 9) (p : Ex (OkM b n M0 post) (ErM b n M0 post) (fDuty (tkOf b n) s)) (hx : x = oI s.os := by rfl) : w_Mo_readDuty post 136 x M := by
  have hx' : x = nI a := by rw [hx, ho]; rfl
  subst hx'
  clear hx
  have F66 : ∀ (f : Fl) (M' : aM), FM b n M0 f M' → ErM b n M0 post f → w_Mo_readDuty_J66 post 136 M' := by
    intro f M' f' p'
    unfold w_Mo_readDuty_J66
    exact m_eatF h0 f' (p' M' f')
  have F45 : ∀ (f : Fl) (M' : aM) (v y : Int32), FM b n M0 f M' → ErM b n M0 post f → w_Mo_readDuty_J45 post 136 (nI a) v 136 y M' := by
    intro f M' v y f' p'
    unfold w_Mo_readDuty_J45
    exact m_needF f' (m_nextF f' (nb_f f'.ne (F66 f M' f' p')))
  have F33 : ∀ (f : Fl) (M' : aM) (v : Int32), FM b n M0 f M' → ErM b n M0 post f → w_Mo_readDuty_J33 post 136 (nI a) v M' := by
    intro f M' v f' p'
    unfold w_Mo_readDuty_J33
    exact ⟨fun _ => F45 f M' _ _ f' p', fun _ => F45 f M' _ _ f' p'⟩
  unfold w_Mo_readDuty
  rw [fDuty, ho] at p
  refine m_nextR h0 h (by omega) (fun M1 ft1 a1 => ?_)
  rcases a1 with r1 | ⟨hb1, f1⟩
  · -- for which it is
    have go : ∀ dc : Nat, 1 ≤ dc → dc < 3 → (tkOf b n).k (s.i + 1) ≠ 130 → Ex (OkM b n M0 post) (ErM b n M0 post) ((fDutyN (tkOf b n) a dc s.st.st).bind (fun s' => req (tkOf b n) 59 s')) → w_Mo_readDuty_J33 post 136 (nI a) (nI dc) M1 := by
      intro dc h1 h3 hk1 p
      unfold w_Mo_readDuty_J33
      refine br_f (nI_m1 (by omega)) ?_
      unfold w_Mo_readDuty_J45
      refine m_need (bb := true) h0 r1.L (fun _ => ?_) (fun z => by cases z)
      refine m_nextR h0 r1 hk1 (fun M2 ft2 a2 => ?_)
      rcases a2 with r2 | ⟨hb2, f2⟩
      · refine nb_t r2.L.fl ?_
        refine m_newDuty (ow := a) (dc := dc) h0 r2 ?_
        have odq : Ex (fun s' : PS => s'.od = s.od) (fun _ => True) (fDutyN (tkOf b n) a dc s.st.st) := by
          unfold fDutyN
          split
          · trivial
          · split
            · trivial
            · rfl
        refine Ex_mono (Ex_and (Ex_bind p) odq) (fun s3 hs3 M3 a3 => ?_) (fun f hf M3 f3 => F66 f M3 f3 hf.1)
        obtain ⟨p3, e3⟩ := hs3
        have a3' : AM b n M0 s3 s3.od 0 M3 := by rw [e3]; exact a3
        rcases a3' with r3 | ⟨hb3, f3⟩
        · unfold w_Mo_readDuty_J66
          refine m_eat h0 r3.L (c := 59) rfl (fun z M4 ft4 a4 => ?_) (fun z M4 f4 => ?_)
          · rw [req, if_pos z] at p3
            refine p3 M4 ?_
            rcases a4 with l4 | f4
            · exact Or.inl (r3.ft ft4 l4)
            · exact Or.inr f4
          · rw [req, if_neg z] at p3
            exact p3 M4 f4
        · rw [req, if_neg (by omega), rf, rf_bad hb3] at p3
          exact F66 _ _ f3 p3
      · have hb2' : (tkOf b n).k (s.i + 1 + 1) = 131 := hb2
        have p2 := Ex_bind p
        rw [fDutyN, if_pos (by show (tkOf b n).k (s.i + 1 + 1) ≠ 129; omega)] at p2
        have e : rf (tkOf b n) 2 s.st.st = (1, (tkOf b n).pl (s.i + 1 + 1)) := rf_bad hb2'
        rw [e] at p2
        exact nb_f f2.ne (F66 _ _ f2 p2)
    refine m_isWord (j := 6) h0 r1.L (by omega) (by omega) ?_
    by_cases g6 : (tkOf b n).k (s.i + 1) = 6
    · rw [if_neg (by omega), if_pos g6] at p
      rw [show (decide ((tkOf b n).k s.st.i = 6)) = true from decide_eq_true g6]
      exact br_f (by decide) (go 1 (by omega) (by omega) (by omega) p)
    · rw [show (decide ((tkOf b n).k s.st.i = 6)) = false from decide_eq_false g6]
      refine br_t rfl ?_
      refine m_isWord (j := 7) h0 r1.L (by omega) (by omega) ?_
      by_cases g7 : (tkOf b n).k (s.i + 1) = 7
      · rw [if_neg (by omega), if_neg g6] at p
        rw [show (decide ((tkOf b n).k s.st.i = 7)) = true from decide_eq_true g7]
        exact br_f (by decide) (go 2 (by omega) (by omega) (by omega) p)
      · rw [if_pos ⟨g6, g7⟩] at p
        rw [show (decide ((tkOf b n).k s.st.i = 7)) = false from decide_eq_false g7]
        refine br_t rfl ?_
        unfold w_Mo_readDuty_J33
        refine br_t rfl ?_
        unfold w_Mo_readDuty_J45
        refine m_need (bb := false) h0 r1.L (fun z => by cases z) (fun _ M2 f2 => ?_)
        exact m_nextF f2 (nb_f f2.ne (F66 _ _ f2 p))
  · have hb1' : (tkOf b n).k (s.i + 1) = 131 := hb1
    rw [if_pos (by omega)] at p
    have e : rf (tkOf b n) 2 s.st = (1, (tkOf b n).pl (s.i + 1)) := rf_bad hb1'
    rw [e] at p
    refine m_isWordF (j := 6) h0 f1 (by omega) (by omega) (fun bb => ?_)
    refine ⟨fun _ => ?_, fun _ => F33 _ _ _ f1 p⟩
    exact m_isWordF (j := 7) h0 f1 (by omega) (by omega) (fun bb2 => ⟨fun _ => F33 _ _ _ f1 p, fun _ => F33 _ _ _ f1 p⟩)
end MA
