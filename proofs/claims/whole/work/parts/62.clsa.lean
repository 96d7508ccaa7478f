/-! THE CLASS'S READER, X: sets, rules, duties, members. -/
/-- a member, behind which goes K -/
def cMem (K : aM → Prop) (M : aM) : Prop := w_Rd_token (fun x2 => ((x2 = (4 : Int32)) → w_Rd_readSetHead K 2 M) ∧ (¬ (x2 = (4 : Int32)) → ((x2 = (6 : Int32)) → w_Rd_readRule K 2 M) ∧ (¬ (x2 = (6 : Int32)) → ((x2 = (7 : Int32)) → w_Rd_readRule K 2 M) ∧ (¬ (x2 = (7 : Int32)) → ((x2 = (9 : Int32)) → w_Rd_readDuty K 2 M) ∧ (¬ (x2 = (9 : Int32)) → ((x2 = (125 : Int32)) → w_Rd_readSetEnd K 2 M) ∧ (¬ (x2 = (125 : Int32)) → w_Rd_refuse K 2 ((2 : Int32)) M)))))) 2 M
section CL
variable {tk : Tk} {M0 M : aM} {t : Nat} {s : PS} {f : Fl}
/-- 'for' and an expression of node i, behind which goes K -/
theorem c_for (sc : SC tk M0 t) {i : Nat} {K : aM → Prop} (τ : aM → Nat) (hτ : ∀ M7, FrC t M0 M7 → τ M7 = t) (h : RC tk M0 t s M) (hi : i < s.T.nn) (p : Ex (OkV tk M0 t K) (ErV tk M0 t K) (fFor tk i s)) :
    w_Rd_skip (fun x7 M7 => ((x7 = ((0 : Int32))) → K M7) ∧ (¬ (x7 = ((0 : Int32))) → ∃ D, D ≤ 120 ∧ w_Rd_readJoined D (fun x8 M8 => (vp_in (nI i) (rK M8 (τ M7 + 9 + 7)).2) ∧ (K (wI M8 (τ M7 + 9 + 7) (nI i).toNatClampNeg x8))) 2 ((10 : Int32)) (rI M7 2 6) M7)) 2 ((5 : Int32)) M := by
  have ge := sc.ht.ge
  have hnn := h.T.lnn
  refine c_skip sc h.L (w := 5) (fun z M7 h7 l7 => ?_) (fun z => ?_)
  · rw [fFor, if_pos z] at p
    have r7 := h.s2 h7 sc.ht l7
    refine br_f (by decide) ⟨84, by omega, ?_⟩
    have hod := h.lod
    rw [hτ M7 l7.fr]
    refine c_expr sc (d := 20 - s.od) (by omega) ?_ _ s.st M7 r7 ?_
    · rw [r7.od]; show nI s.od = _; rw [show 20 - (20 - s.od) = s.od by omega]
    · refine Ex_mono (Ex_and (Ex_bind p) (fJoin_good (fJoin_good (fPart_good (20 - s.od))) s.st)) (fun q hq M8 r8 => ?_) (fun f hf x M8 f8 => ?_)
      · show (vp_in (nI i) (rK M8 (t + 9 + 7)).2) ∧ K (wI M8 (t + 9 + 7) (nI i).toNatClampNeg (nI q.1))
        rw [show rK M8 (t + 9 + 7) = rK M8 (t + 16) from rfl, c_K sc r8.L.fr 16 100, nI_clamp (by omega)]
        refine ⟨vin (by omega), ?_⟩
        refine hq.1 _ ?_
        refine RC.T2 r8 (r8.L.wt sc.ht (c := 16) (by omega)) (by rw [rw_n (by omega)]) (by rw [rw_n (by omega)]) ?_ (Nat.le_refl _) r8.lnm
        rw [show t + 9 + 7 = t + 16 from rfl, cR_w]
        exact ⟨r8.T.na,
      r8.T.lna,
      r8.T.asz,
      r8.T.lasz,
      r8.T.amany,
      r8.T.amust,
      r8.T.bag,
      r8.T.anl,
      r8.T.lanl,
      r8.T.anm,
      r8.T.nn,
      r8.T.lnn,
      r8.T.srt,
      r8.T.way,
      r8.T.fa,
      r8.T.lfa,
      em_set r8.T.root rfl,
      r8.T.own,
      r8.T.chn,
      r8.T.lchn,
      r8.T.nxt,
      r8.T.lst,
      r8.T.nnl,
      r8.T.lnnl,
      r8.T.nnm,
      r8.T.nd,
      r8.T.lnd,
      r8.T.dnum,
      r8.T.dof,
      r8.T.dfor,
      r8.T.np,
      r8.T.lnp,
      r8.T.pk,
      r8.T.pa,
      r8.T.pnum,
      r8.T.pj,
      r8.T.pf,
      r8.T.pn⟩
      · show (vp_in (nI i) (rK M8 (t + 9 + 7)).2) ∧ K (wI M8 (t + 9 + 7) (nI i).toNatClampNeg x)
        rw [show rK M8 (t + 9 + 7) = rK M8 (t + 16) from rfl, c_K sc f8.fr 16 100, nI_clamp (by omega)]
        refine ⟨vin (by omega), ?_⟩
        exact hf.1 _ (f8.wt sc.ht (c := 16) (by omega))
  · rw [fFor, if_neg z] at p
    exact br_t rfl (p M h)
theorem c_set (sc : SC tk M0 t) {post : aM → Prop} (h : RC tk M0 t s M) (p : Ex (OkV tk M0 t post) (ErV tk M0 t post) (fSet tk s)) : w_Rd_readSetHead post 2 M := by
  have ge := sc.ht.ge
  unfold w_Rd_readSetHead
  refine c_token sc h.L ?_
  have hk := sc.lk _ h.L.li
  refine pk_eq (tk.k s.i) 4 (fun z => ?_) (fun z => ?_)
  · rw [fSet, if_neg (by omega)] at p
    refine c_addNode sc (so := 2) h ?_
    refine Ex_mono (Ex_and (Ex_bind p) (fNode_ad 2 s)) (fun q hq M2 r2 => ?_) (fun f hf M2 f2 => ?_)
    · obtain ⟨p1, h1, h2, h3⟩ := hq
      have hqn : q.1 < q.2.T.nn := by rw [h1, h2]; show _ < (addNd s.T 2 s.os).nn; rw [addNd_nn]; omega
      have hnn := r2.T.lnn
      refine nb_f (nI_m1 (by omega)) ?_
      refine c_step sc r2.L (by rw [h2]; show tk.k s.i ≠ 130; omega) (fun M3 h3 l3 => ?_)
      have r3 := r2.s2 h3 sc.ht l3
      refine c_name sc (s := q.2.st) r3 hqn (fun M4 r4 => ?_)
      dsimp only at p1
      have hnf := fName_f (k := tk) q.1 q.2.st
      revert p1 r4 hnf
      generalize fName tk q.1 q.2.st = y
      intro p1 r4 hnf
      have hy : q.1 < y.2.T.nn := by rw [hnf.1.nn]; exact hqn
      refine pk_nb0 y.1 (fun z1 => ?_) (fun z1 => ?_)
      · rw [z1, if_neg (by simp)] at p1
        refine c_token sc r4.L ?_
        have hk4 := sc.lk _ r4.L.li
        by_cases z2 : tk.k y.2.i < 22
        · rw [if_pos (Or.inl z2)] at p1
          refine br_t (pk_sneg (b := 22) (by omega) z2) ?_
          unfold w_Rd_readSetHead_J70
          exact c_refuse sc r4.L p1
        have e22 : nI (tk.k y.2.i) - 22 = nI (tk.k y.2.i - 22) := pk_sub (b := 22) (by omega)
        rw [e22]
        refine br_f (nI_pos (by omega)) ?_
        refine pk_lt (tk.k y.2.i - 22) 6 (fun z3 => ?_) (fun z3 => ?_)
        · rw [if_neg (by omega)] at p1
          rw [h.L.fr.R, sc.hR, show rK M4 (t + 9 + 5) = rK M4 (t + 14) from rfl, c_K sc r4.L.fr 14 100]
          refine ⟨vin (by omega), ?_⟩
          have r5 : RC tk M0 t (PS.s_T y.2 ((Txt.s_way y.2.T (up y.2.T.way q.1 (some (tk.k y.2.i - 22)))))) (wI M4 (t + 9 + 5) (nI q.1).toNatClampNeg (nI (tk.k y.2.i - 22))) := by
            rw [nI_clamp (by omega)]
            refine RC.T2 r4 (r4.L.wt sc.ht (c := 14) (by omega)) (by rw [rw_n (by omega)]) (by rw [rw_n (by omega)]) ?_ (Nat.le_refl _) r4.lnm
            rw [show t + 9 + 5 = t + 14 from rfl, cR_w]
            exact ⟨r4.T.na,
      r4.T.lna,
      r4.T.asz,
      r4.T.lasz,
      r4.T.amany,
      r4.T.amust,
      r4.T.bag,
      r4.T.anl,
      r4.T.lanl,
      r4.T.anm,
      r4.T.nn,
      r4.T.lnn,
      r4.T.srt,
      em_set r4.T.way rfl,
      r4.T.fa,
      r4.T.lfa,
      r4.T.root,
      r4.T.own,
      r4.T.chn,
      r4.T.lchn,
      r4.T.nxt,
      r4.T.lst,
      r4.T.nnl,
      r4.T.lnnl,
      r4.T.nnm,
      r4.T.nd,
      r4.T.lnd,
      r4.T.dnum,
      r4.T.dof,
      r4.T.dfor,
      r4.T.np,
      r4.T.lnp,
      r4.T.pk,
      r4.T.pa,
      r4.T.pnum,
      r4.T.pj,
      r4.T.pf,
      r4.T.pn⟩
          refine c_step sc r5.L (by show tk.k y.2.i ≠ 130; omega) (fun M6 h6 l6 => ?_)
          have r6 := r5.s2 h6 sc.ht l6
          refine c_for sc (i := q.1) (K := w_Rd_readSetHead_J111 post 2 (nI q.1)) (fun _ => t) (fun _ _ => rfl) r6 hy ?_
          refine Ex_mono (Ex_and (Ex_bind p1) (fFor_f (k := tk) q.1 _)) (fun s2 hs2 M7 r7 => ?_) (fun f hf M7 f7 => ?_)
          · obtain ⟨p2, g1, g2⟩ := hs2
            have hs2n : q.1 < s2.T.nn := by rw [g1.nn]; exact hy
            unfold w_Rd_readSetHead_J111
            refine c_isFine r7.L ?_
            refine br_f (by decide) ?_
            unfold w_Rd_openCurly
            refine c_token sc r7.L ?_
            have hk7 := sc.lk _ r7.L.li
            refine pk_eq (tk.k s2.i) 123 (fun z4 => ?_) (fun z4 => ?_)
            · rw [if_neg (by omega)] at p2
              have hod := r7.lod
              refine pk_lt s2.od 20 (fun z5 => ?_) (fun z5 => ?_) r7.od
              · rw [if_neg (by omega)] at p2
                refine c_step sc r7.L (by omega) (fun M8 h8 l8 => ?_)
                have r8 := r7.s2 h8 sc.ht l8
                refine p2 _ ?_
                have e6 : rI (wI M8 2 5 (nI q.1)) 2 6 = nI s2.od := by rw [rw_sn (by omega)]; exact r8.od
                rw [e6, nI_1]
                refine ⟨LC.w2 (LC.w2 r8.L (by omega)) (by omega), ?_, rw_ss, ?_, ?_, ?_, r8.lnm⟩
                · rw [rw_sn (by omega), rw_ss]; rfl
                · rw [cR_n (by omega), cR_n (by omega)]; exact r8.T
                · intro a ha; cases ha; exact hs2n
                · show s2.od + 1 ≤ 20; omega
              · rw [if_pos z5] at p2
                exact c_refuse sc r7.L p2
            · rw [if_pos z4] at p2
              exact c_refuse sc r7.L p2
          · unfold w_Rd_readSetHead_J111
            refine c_isFineF f7 ?_
            exact br_t rfl (hf.1 _ f7)
        · rw [if_pos (by omega)] at p1
          unfold w_Rd_readSetHead_J70
          exact c_refuse sc r4.L p1
      · rw [z1, if_pos rfl] at p1
        exact c_refuse sc r4.L p1
    · exact nb_t rfl (hf.1 _ f2)
  · rw [fSet, if_pos z] at p
    exact c_refuse sc h.L p
theorem c_duties (sc : SC tk M0 t) {post : aM → Prop} {o d : Nat} {x y : Int32} (hx : x = nI o) (hy : y = nI d) (h : RC tk M0 t s M) (hk : tk.k s.i ≠ 130) (ho : o < s.T.nn) (p : Ex (OkV tk M0 t post) (ErV tk M0 t post) (fDuties tk o d 101 s)) : w_Rd_readRuleDuties post 2 x y M := by
  subst hx hy
  unfold w_Rd_readRuleDuties
  have key : ∀ (n i : Nat) (s : PS) (M : aM), n = 101 - i → i ≤ 101 → RC tk M0 t s M → tk.k s.i ≠ 130 → o < s.T.nn → Ex (OkV tk M0 t post) (ErV tk M0 t post) (fDuties tk o d n s) → w_Rd_readRuleDuties_L2 post (n + 1) 2 (nI o) (nI d) (nI i) M := by
    intro n
    induction n with
    | zero =>
      intro i s M hn hi h hk ho p
      unfold w_Rd_readRuleDuties_L2
      exact pk_lt 100 i (fun _ => p M h) (fun z => by omega)
    | succ n ih =>
      intro i s M hn hi h hk ho p
      unfold w_Rd_readRuleDuties_L2
      refine pk_lt 100 i (fun z => by omega) (fun _ => ?_)
      refine c_step sc h.L hk (fun M1 h1 l1 => ?_)
      have r1 := h.s2 h1 sc.ht l1
      rw [fDuties] at p
      refine c_dutyN sc (o := o) (d := d) (s := s.st) r1 ho ?_
      refine Ex_mono (Ex_and (Ex_bind p) (fDutyN_f (k := tk) o d s.st)) (fun s2 hs2 M2 r2 => ?_) (fun f hf M2 f2 => ?_)
      · refine c_isFine r2.L ?_
        refine br_f (by decide) ?_
        refine c_token sc r2.L ?_
        have hk2 := sc.lk _ r2.L.li
        have p2 := hs2.1
        refine pk_eq (tk.k s2.i) 44 (fun z => ?_) (fun z => ?_)
        · rw [if_pos z] at p2
          rw [nI_1]
          exact ih (i + 1) s2 M2 (by omega) (by omega) r2 (by omega) (by rw [hs2.2.1.nn]; exact ho) p2
        · rw [if_neg z] at p2
          exact p2 M2 r2
      · refine c_isFineF f2 ?_
        exact br_t rfl (hf.1 _ f2)
  exact ⟨102, key 101 0 s M rfl (by omega) h hk ho p⟩
theorem c_rule (sc : SC tk M0 t) {post : aM → Prop} (h : RC tk M0 t s M) (hk0 : tk.k s.i = 6 ∨ tk.k s.i = 7) (p : Ex (OkV tk M0 t post) (ErV tk M0 t post) (fRule tk s)) : w_Rd_readRule post 2 M := by
  have ge := sc.ht.ge
  have j97 : ∀ (s3 : PS) (M3 : aM), RC tk M0 t s3 M3 → Ex (OkV tk M0 t post) (ErV tk M0 t post) (req tk 59 s3) → w_Rd_readRule_J97 post 2 M3 := by
    intro s3 M3 r3 p3
    unfold w_Rd_readRule_J97
    refine c_isFine r3.L ?_
    refine br_f (by decide) ?_
    exact c_require sc r3 p3
  have j97F : ∀ (f : Fl) (M3 : aM), FC tk M0 t f M3 → ErV tk M0 t post f → w_Rd_readRule_J97 post 2 M3 := by
    intro f M3 f3 p3
    unfold w_Rd_readRule_J97
    refine c_isFineF f3 ?_
    exact br_t rfl (p3 _ f3)
  have main : ∀ so : Nat, so < 2 → Ex (OkV tk M0 t post) (ErV tk M0 t post) ((fNode tk so s).bind (fun q => (fFor tk q.1 (fName tk q.1 q.2.st).2).bind (fun s2 => (if tk.k s2.i = 8 then fDuties tk q.1 (so + 1) 101 s2 else .ok s2).bind (fun s3 => req tk 59 s3)))) → w_Rd_readRule_J14 post 2 (nI so) M := by
    intro so hso p
    unfold w_Rd_readRule_J14
    refine c_addNode sc (so := so) h ?_
    refine Ex_mono (Ex_and (Ex_bind p) (fNode_ad so s)) (fun q hq M1 r1 => ?_) (fun f hf M1 f1 => ?_)
    · obtain ⟨p1, h1, h2, h3⟩ := hq
      have hqn : q.1 < q.2.T.nn := by rw [h1, h2]; show _ < (addNd s.T so s.os).nn; rw [addNd_nn]; omega
      have hnn := r1.T.lnn
      refine nb_f (nI_m1 (by omega)) ?_
      refine c_step sc r1.L (by rw [h2]; show tk.k s.i ≠ 130; omega) (fun M2 h2' l2 => ?_)
      have r2 := r1.s2 h2' sc.ht l2
      refine c_name sc (s := q.2.st) r2 hqn (fun M3 r3 => ?_)
      have hnf := fName_f (k := tk) q.1 q.2.st
      revert p1 r3 hnf
      generalize fName tk q.1 q.2.st = y
      intro p1 r3 hnf
      have hy : q.1 < y.2.T.nn := by rw [hnf.1.nn]; exact hqn
      exact c_for sc (i := q.1) (K := w_Rd_readRule_J67 post 2 (nI so) (nI q.1)) (fun M7 => rR M7 2 3) (fun M7 f7 => by show rR M7 2 3 = t; rw [f7.R, sc.hR]) r3 hy (by
        refine Ex_mono (Ex_and (Ex_bind p1) (fFor_f (k := tk) q.1 y.2)) (fun s2 hs2 M4 r4 => ?_) (fun f hf M4 f4 => ?_)
        · obtain ⟨p2, g1, g2⟩ := hs2
          have hs2n : q.1 < s2.T.nn := by rw [g1.nn]; exact hy
          unfold w_Rd_readRule_J67
          refine c_isFine r4.L ?_
          refine br_f (by decide) ?_
          refine c_token sc r4.L ?_
          have hk4 := sc.lk _ r4.L.li
          refine pk_ne (tk.k s2.i) 8 (fun z => ?_) (fun z => ?_)
          · rw [if_neg z] at p2
            exact j97 _ _ r4 p2
          · rw [if_pos z] at p2
            have p3 : Ex (OkV tk M0 t (w_Rd_readRule_J97 post 2)) (ErV tk M0 t (w_Rd_readRule_J97 post 2)) (fDuties tk q.1 (so + 1) 101 s2) :=
              Ex_mono (Ex_bind p2) (fun s3 hs3 M5 r5 => j97 _ _ r5 hs3) (fun f hf M5 f5 => j97F _ _ f5 hf)
            refine pk_ne so 0 (fun z1 => ?_) (fun z1 => ?_)
            · unfold w_Rd_readRule_J94
              exact c_duties sc rfl (show (2 : Int32) = nI (so + 1) by rw [show so = 1 by omega]; rfl) r4 (by omega) hs2n p3
            · unfold w_Rd_readRule_J94
              exact c_duties sc rfl (show (1 : Int32) = nI (so + 1) by rw [z1]; rfl) r4 (by omega) hs2n p3
        · unfold w_Rd_readRule_J67
          refine c_isFineF f4 ?_
          exact br_t rfl (j97F _ _ f4 hf.1))
    · exact nb_t rfl (hf.1 _ f1)
  unfold w_Rd_readRule
  refine c_token sc h.L ?_
  have hk := sc.lk _ h.L.li
  rw [fRule] at p
  refine pk_ne (tk.k s.i) 6 (fun z => ?_) (fun z => ?_)
  · rw [if_neg z] at p
    exact main 1 (by omega) p
  · rw [if_pos z] at p
    exact main 0 (by omega) p
theorem c_duty (sc : SC tk M0 t) {post : aM → Prop} {a : Nat} (h : RC tk M0 t s M) (ho : s.os = some a) (hk0 : tk.k s.i = 9) (p : Ex (OkV tk M0 t post) (ErV tk M0 t post) (fDuty tk s)) : w_Rd_readDuty post 2 M := by
  unfold w_Rd_readDuty
  refine c_step sc h.L (by omega) (fun M1 h1 l1 => ?_)
  have r1 := h.s2 h1 sc.ht l1
  refine c_token sc l1 ?_
  have hk1 := sc.lk _ l1.li
  have j42 : ∀ d : Nat, Ex (OkV tk M0 t post) (ErV tk M0 t post) ((fDutyN tk a d s.st.st).bind (fun s' => req tk 59 s')) → tk.k (s.i + 1) ≠ 130 → w_Rd_readDuty_J42 post 2 (nI d) M1 := by
    intro d p hn
    unfold w_Rd_readDuty_J42
    refine c_step sc l1 hn (fun M2 h2 l2 => ?_)
    have r2 := r1.s2 h2 sc.ht l2
    refine c_dutyN sc (o := a) (d := d) (s := s.st.st) r2 (h.los a ho) ?_ (by have := r2.os; rw [this]; show oI s.os = nI a; rw [ho]; rfl) rfl
    refine Ex_mono (Ex_bind p) (fun s2 hs2 M2 r2 => ?_) (fun f hf M2 f2 => ?_)
    · refine c_isFine r2.L ?_
      refine br_f (by decide) ?_
      exact c_require sc r2 hs2
    · refine c_isFineF f2 ?_
      exact br_t rfl (hf _ f2)
  have j28 : tk.k (s.i + 1) = 6 ∨ tk.k (s.i + 1) = 7 → w_Rd_readDuty_J28 post 2 M1 := by
    intro z
    unfold w_Rd_readDuty_J28
    refine c_token sc l1 ?_
    rw [fDuty, if_neg (by omega), ho] at p
    refine pk_ne (tk.k (s.i + 1)) 6 (fun z1 => ?_) (fun z1 => ?_)
    · rw [if_neg z1] at p
      exact j42 2 p (by omega)
    · rw [if_pos z1] at p
      exact j42 1 p (by omega)
  refine pk_eq (tk.k (s.i + 1)) 6 (fun z => j28 (Or.inl z)) (fun z => ?_)
  refine c_token sc l1 ?_
  refine pk_eq (tk.k (s.i + 1)) 7 (fun z1 => j28 (Or.inr z1)) (fun z1 => ?_)
  rw [fDuty, if_pos ⟨z, z1⟩] at p
  exact c_refuse sc l1 p
theorem c_member (sc : SC tk M0 t) {post : aM → Prop} {a : Nat} (h : RC tk M0 t s M) (ho : s.os = some a) (hod : 0 < s.od) (p : Ex (OkV tk M0 t post) (ErV tk M0 t post) (fMember tk s)) : cMem post M := by
  have ge := sc.ht.ge
  unfold cMem
  refine c_token sc h.L ?_
  have hk := sc.lk _ h.L.li
  rw [fMember] at p
  refine pk_eq (tk.k s.i) 4 (fun z => ?_) (fun z4 => ?_)
  · rw [if_pos z] at p
    exact c_set sc h p
  rw [if_neg z4] at p
  refine pk_eq (tk.k s.i) 6 (fun z => ?_) (fun z6 => ?_)
  · rw [if_pos (Or.inl z)] at p
    exact c_rule sc h (Or.inl z) p
  refine pk_eq (tk.k s.i) 7 (fun z => ?_) (fun z7 => ?_)
  · rw [if_pos (Or.inr z)] at p
    exact c_rule sc h (Or.inr z) p
  rw [if_neg (by omega)] at p
  refine pk_eq (tk.k s.i) 9 (fun z => ?_) (fun z9 => ?_)
  · rw [if_pos z] at p
    exact c_duty sc h ho z p
  rw [if_neg z9] at p
  refine pk_eq (tk.k s.i) 125 (fun z => ?_) (fun z => ?_)
  · rw [if_pos z] at p
    unfold w_Rd_readSetEnd
    refine c_step sc h.L (by omega) (fun M6 h6 l6 => ?_)
    have r6 := h.s2 h6 sc.ht l6
    have ha := h.los a ho
    have hnn := h.T.lnn
    have e5 : rI M6 2 5 = nI a := by have := r6.os; rw [this]; show oI s.os = nI a; rw [ho]; rfl
    have ef : rI M6 (t + 15) a = oI (s.T.fa a) := r6.T.fa a ha
    have hod2 := h.lod
    have e6 : rI M6 2 6 = nI s.od := r6.od
    rw [l6.fr.R, sc.hR, show rK M6 (t + 9 + 6) = rK M6 (t + 15) from rfl, c_K sc l6.fr 15 100, e5, nI_clamp (by omega), show rI M6 (t + 9 + 6) = rI M6 (t + 15) from rfl, ef, rw_sn (show 6 ≠ 5 by omega), e6, show nI s.od - 1 = nI (s.od - 1) from pk_sub (b := 1) (by omega)]
    refine ⟨vin (by omega), ?_⟩
    rw [ho] at p
    refine p _ ?_
    refine ⟨LC.w2 (LC.w2 r6.L (by omega)) (by omega), ?_, rw_ss, ?_, ?_, ?_, r6.lnm⟩
    · rw [rw_sn (by omega), rw_ss]; rfl
    · rw [cR_n (by omega), cR_n (by omega)]; exact r6.T
    · exact fun b hb => h.T.lfa a ha b hb
    · show s.od - 1 ≤ 20; omega
  · rw [if_neg z] at p
    exact c_refuse sc h.L p
end CL
