/-! THE CLASS'S READER, VIII: expressions, on. -/
section CL
variable {tk : Tk} {M0 M : aM} {t : Nat} {s : PS} {f : Fl}
variable {RJ : (Int32 → aM → Prop) → Nat → Int32 → Int32 → aM → Prop} {RP : (Int32 → aM → Prop) → Nat → Int32 → aM → Prop} {RN : (Int32 → aM → Prop) → Nat → Int32 → aM → Prop} {RB : (Int32 → aM → Prop) → Nat → Int32 → aM → Prop}
/-- a reader of the class follows the function P -/
def Fol (tk : Tk) (M0 : aM) (t : Nat) (P : PS → PR (Nat × PS)) (W : (Int32 → aM → Prop) → aM → Prop) : Prop := ∀ (post : Int32 → aM → Prop) (s : PS) (M : aM), RC tk M0 t s M → Ex (OkI tk M0 t post) (ErI tk M0 t post) (P s) → W post M
theorem c_more (sc : SC tk M0 t) {P : PS → PR (Nat × PS)} {w : Nat} {v2 : Int32} (hw : w < 130) (hP : Good P) (HW : Fol tk M0 t P (fun post M => ((¬ nI w = ((10 : Int32))) → RP post 2 v2 M) ∧ (¬ (¬ nI w = ((10 : Int32))) → RJ post 2 ((11 : Int32)) v2 M))) {post : Int32 → aM → Prop} :
    ∀ (n j last : Nat) (s : PS) (M : aM), n ≤ 400 → RC tk M0 t s M → j < s.T.np → last < s.T.np → Ex (OkI tk M0 t post) (ErI tk M0 t post) (fMore tk w P j n last s) → w_Rd_readJoined_L89 post RJ RP RN RB (n + 1) 2 (nI w) v2 (nI j) (t + 24) (nI last) (nI n) M := by
  have ge := sc.ht.ge
  intro n
  induction n with
  | zero =>
    intro j last s M hn h hj hl p
    unfold w_Rd_readJoined_L89
    exact pk_le 0 0 (fun _ => p M h.cmpl) (fun z => by omega)
  | succ n ih =>
    intro j last s M hn h hj hl p
    unfold w_Rd_readJoined_L89
    refine pk_le (n + 1) 0 (fun z => by omega) (fun _ => ?_)
    refine c_token sc h.L ?_
    have hk := sc.lk _ h.L.li
    rw [fMore] at p
    refine pk_ne (tk.k s.i) w (fun z => ?_) (fun z => ?_)
    · rw [if_neg z] at p
      exact p M h.cmpl
    · rw [if_pos z] at p
      refine c_step sc h.L (by omega) (fun M2 h2 l2 => ?_)
      have r2 := h.s2 h2 sc.ht l2
      refine HW _ s.st M2 r2 ?_
      refine Ex_mono (Ex_and (Ex_bind p) (hP s.st)) (fun q hq M3 r3 => ?_) (fun f hf x M3 f3 => ?_)
      · obtain ⟨p1, g1, g2⟩ := hq
        have np2 : s.T.np < q.2.T.np := g2.np
        have hnp := r3.T.lnp
        unfold w_Rd_readJoined_J127
        refine c_isFine r3.L ?_
        refine nb_f (by decide) ?_
        have k1 := c_K sc r3.L.fr 30 400
        have k2 := c_K sc r3.L.fr 28 400
        have ej : rI M3 (t + 28) j = nI (q.2.T.pj j) := r3.T.pj j (by omega)
        have em : nI (n + 1) + (-1) = nI n := pk_m1 n
        simp (disch := omega) only [Nat.add_assoc, Nat.reduceAdd, k1, k2, nI_clamp, rw_n, ej, nI_1, em]
        refine ⟨vin (by omega), vin (by omega), vin (by omega), ?_⟩
        refine ih j q.1 (PS.s_T q.2 ((Txt.s_pj (Txt.s_pn q.2.T (up q.2.T.pn last (some q.1))) (up q.2.T.pj j (q.2.T.pj j + 1))))) _ (by omega) ?_ (by show j < q.2.T.np; omega) g1 p1
        refine RC.T2 r3 (LC.wt (LC.wt r3.L sc.ht (by omega)) sc.ht (by omega)) (by simp (disch := omega) only [rw_n]) (by simp (disch := omega) only [rw_n]) ?_ (Nat.le_refl _) r3.lnm
        simp (disch := omega) only [cR_w, rw_n]
        exact ⟨r3.T.na,
      r3.T.lna,
      r3.T.asz,
      r3.T.lasz,
      r3.T.amany,
      r3.T.amust,
      r3.T.bag,
      r3.T.anl,
      r3.T.lanl,
      r3.T.anm,
      r3.T.nn,
      r3.T.lnn,
      r3.T.srt,
      r3.T.way,
      r3.T.fa,
      r3.T.lfa,
      r3.T.root,
      r3.T.own,
      r3.T.chn,
      r3.T.lchn,
      r3.T.nxt,
      r3.T.lst,
      r3.T.nnl,
      r3.T.lnnl,
      r3.T.nnm,
      r3.T.nd,
      r3.T.lnd,
      r3.T.dnum,
      r3.T.dof,
      r3.T.dfor,
      r3.T.np,
      r3.T.lnp,
      r3.T.pk,
      r3.T.pa,
      r3.T.pnum,
      em_set r3.T.pj rfl,
      r3.T.pf,
      em_set r3.T.pn rfl⟩
      · unfold w_Rd_readJoined_J127
        refine c_isFineF f3 ?_
        exact nb_t rfl (hf.1 _ _ f3)
theorem c_joinR (sc : SC tk M0 t) {P : PS → PR (Nat × PS)} {w : Nat} {v2 : Int32} (hw : w < 130) (hP : Good P) (HW : Fol tk M0 t P (fun post M => ((¬ nI w = ((10 : Int32))) → RP post 2 v2 M) ∧ (¬ (¬ nI w = ((10 : Int32))) → RJ post 2 ((11 : Int32)) v2 M))) :
    Fol tk M0 t (fJoin tk w P) (fun post M => w_Rd_readJoined_r RJ RP RN RB post 2 (nI w) v2 M) := by
  intro post s M h p
  have ge := sc.ht.ge
  unfold w_Rd_readJoined_r
  refine HW _ s M h ?_
  unfold fJoin at p
  refine Ex_mono (Ex_and (Ex_bind p) (hP s)) (fun q hq M1 r1 => ?_) (fun f hf x M1 f1 => ?_)
  · obtain ⟨p1, g1, g2⟩ := hq
    unfold w_Rd_readJoined_J21
    refine c_isFine r1.L ?_
    refine br_f (by decide) ?_
    refine c_token sc r1.L ?_
    have hk := sc.lk _ r1.L.li
    refine pk_eq (tk.k q.2.i) w (fun z => ?_) (fun z => ?_)
    · rw [if_pos z] at p1
      refine c_addPart sc r1 ?_
      refine Ex_mono (Ex_and (Ex_bind p1) (fPart1_ad w q.2)) (fun y hy M3 r3 => ?_) (fun f hf M3 f3 => ?_)
      · obtain ⟨p2, y1, y2, y3⟩ := hy
        have hnp := r3.T.lnp
        have ynp : y.2.T.np = q.2.T.np + 1 := by rw [y2]; rfl
        refine nb_f (nI_m1 (by omega)) ?_
        have k1 := c_K sc r3.L.fr 29 400
        have k2 := c_K sc r3.L.fr 28 400
        simp (disch := omega) only [r3.L.fr.R, sc.hR, Nat.add_assoc, Nat.reduceAdd, k1, k2, nI_clamp]
        refine ⟨vin (by omega), vin (by omega), 401, ?_⟩
        refine c_more sc hw hP HW 400 y.1 q.1 (PS.s_T y.2 ((Txt.s_pj (Txt.s_pf y.2.T (up y.2.T.pf y.1 (some q.1))) (up y.2.T.pj y.1 1)))) _ (by omega) ?_ (by show y.1 < y.2.T.np; omega) (by show q.1 < y.2.T.np; omega) p2
        refine RC.T2 r3 (LC.wt (LC.wt r3.L sc.ht (by omega)) sc.ht (by omega)) (by simp (disch := omega) only [rw_n]) (by simp (disch := omega) only [rw_n]) ?_ (Nat.le_refl _) r3.lnm
        simp (disch := omega) only [cR_w, rw_n]
        exact ⟨r3.T.na,
      r3.T.lna,
      r3.T.asz,
      r3.T.lasz,
      r3.T.amany,
      r3.T.amust,
      r3.T.bag,
      r3.T.anl,
      r3.T.lanl,
      r3.T.anm,
      r3.T.nn,
      r3.T.lnn,
      r3.T.srt,
      r3.T.way,
      r3.T.fa,
      r3.T.lfa,
      r3.T.root,
      r3.T.own,
      r3.T.chn,
      r3.T.lchn,
      r3.T.nxt,
      r3.T.lst,
      r3.T.nnl,
      r3.T.lnnl,
      r3.T.nnm,
      r3.T.nd,
      r3.T.lnd,
      r3.T.dnum,
      r3.T.dof,
      r3.T.dfor,
      r3.T.np,
      r3.T.lnp,
      r3.T.pk,
      r3.T.pa,
      r3.T.pnum,
      em_set r3.T.pj rfl,
      em_set r3.T.pf rfl,
      r3.T.pn⟩
      · exact nb_t rfl (hf.1 _ _ f3)
    · rw [if_neg z] at p1
      exact p1 M1 r1
  · unfold w_Rd_readJoined_J21
    refine c_isFineF f1 ?_
    exact br_t rfl (hf.1 _ _ f1)
theorem c_part (sc : SC tk M0 t) : ∀ (d D : Nat), d ≤ 20 → 4 * d + 2 ≤ D → Fol tk M0 t (fPart tk d) (fun post M => (S_Rd D).2.1 post 2 (nI (20 - d)) M) := by
  have ge := sc.ht.ge
  intro d
  induction d with
  | zero =>
    intro D hd hD post s M h p
    obtain ⟨D, rfl⟩ : ∃ D', D = D' + 1 + 1 := ⟨D - 2, by omega⟩
    show w_Rd_readPart_r (S_Rd (D + 1)).1 (S_Rd (D + 1)).2.1 (S_Rd (D + 1)).2.2.1 (S_Rd (D + 1)).2.2.2 post 2 (nI 20) M
    unfold w_Rd_readPart_r
    refine c_token sc h.L ?_
    have hk := sc.lk _ h.L.li
    rw [fPart] at p
    refine pk_eq (tk.k s.i) 12 (fun z => ?_) (fun z12 => ?_)
    · rw [if_pos (Or.inl z)] at p
      show w_Rd_readNot_r (S_Rd D).1 (S_Rd D).2.1 (S_Rd D).2.2.1 (S_Rd D).2.2.2 _ 2 (nI 20) M
      unfold w_Rd_readNot_r
      refine pk_lt 20 20 (fun z => by omega) (fun _ => ?_)
      exact c_refuse sc h.L (fun M' h' => p _ M' h')
    have cst : tk.k s.i = 13 ∨ tk.k s.i = 14 ∨ tk.k s.i = 15 → w_Rd_token (fun x => w_Rd_addPart (fun x4 M4 => w_Rd_step (fun M5 => post x4 M5) 2 M4) 2 x M) 2 M := by
      intro z
      rw [if_neg (by omega), if_pos z] at p
      refine c_token sc h.L ?_
      refine c_addPart sc h ?_
      unfold fConst at p
      refine Ex_mono (Ex_and (Ex_bind p) (fPart1_ad (tk.k s.i) s)) (fun q hq M4 r4 => ?_) (fun f hf M4 f4 => ?_)
      · exact c_step sc r4.L (by rw [hq.2.2.1]; show tk.k s.i ≠ 130; omega) (fun M5 h5 l5 => hq.1 M5 (RC.cmpl (r4.s2 h5 sc.ht l5)))
      · exact c_stepF sc f4 (fun M5 f5 => hf.1 _ _ f5)
    refine pk_eq (tk.k s.i) 13 (fun z => cst (by omega)) (fun z13 => ?_)
    refine pk_eq (tk.k s.i) 14 (fun z => cst (by omega)) (fun z14 => ?_)
    refine pk_eq (tk.k s.i) 15 (fun z => cst (by omega)) (fun z15 => ?_)
    refine pk_eq (tk.k s.i) 40 (fun z => ?_) (fun z40 => ?_)
    · rw [if_pos (Or.inr z)] at p
      show w_Rd_readBracket_r (S_Rd D).1 (S_Rd D).2.1 (S_Rd D).2.2.1 (S_Rd D).2.2.2 _ 2 (nI 20) M
      unfold w_Rd_readBracket_r
      refine pk_lt 20 20 (fun z => by omega) (fun _ => ?_)
      exact c_refuse sc h.L (fun M' h' => p _ M' h')
    rw [if_neg (by omega), if_neg (by omega)] at p
    refine pk_eq (tk.k s.i) 128 (fun z => ?_) (fun z => ?_)
    · rw [if_pos z] at p
      exact c_test sc h z p
    · rw [if_neg z] at p
      exact c_refuse sc h.L (fun M' h' => p _ M' h')
  | succ d ih =>
    intro D hd hD post s M h p
    obtain ⟨D, rfl⟩ : ∃ D', D = D' + 1 + 1 + 1 + 1 := ⟨D - 4, by omega⟩
    show w_Rd_readPart_r (S_Rd (D + 1 + 1 + 1)).1 (S_Rd (D + 1 + 1 + 1)).2.1 (S_Rd (D + 1 + 1 + 1)).2.2.1 (S_Rd (D + 1 + 1 + 1)).2.2.2 post 2 (nI (20 - (d + 1))) M
    have ed : nI (20 - (d + 1)) + 1 = nI (20 - d) := by rw [nI_1, show 20 - (d + 1) + 1 = 20 - d by omega]
    unfold w_Rd_readPart_r
    refine c_token sc h.L ?_
    have hk := sc.lk _ h.L.li
    rw [fPart] at p
    refine pk_eq (tk.k s.i) 12 (fun z => ?_) (fun z12 => ?_)
    · rw [if_pos z] at p
      show w_Rd_readNot_r (S_Rd (D + 1 + 1)).1 (S_Rd (D + 1 + 1)).2.1 (S_Rd (D + 1 + 1)).2.2.1 (S_Rd (D + 1 + 1)).2.2.2 _ 2 (nI (20 - (d + 1))) M
      unfold w_Rd_readNot_r
      refine pk_lt (20 - (d + 1)) 20 (fun _ => ?_) (fun z => by omega)
      refine c_addPart sc (kd := 12) h ?_
      refine Ex_mono (Ex_and (Ex_bind p) (fPart1_ad 12 s)) (fun q hq M1 r1 => ?_) (fun f hf M1 f1 => ?_)
      · obtain ⟨p1, y1, y2, y3⟩ := hq
        have hnp := r1.T.lnp
        refine nb_f (nI_m1 (by omega)) ?_
        refine c_step sc r1.L (by rw [y2]; show tk.k s.i ≠ 130; omega) (fun M2 h2 l2 => ?_)
        have r2 := r1.s2 h2 sc.ht l2
        rw [ed]
        refine ih (D + 1 + 1) (by omega) (by omega) _ q.2.st M2 r2 ?_
        have hqn : q.1 < q.2.T.np := by rw [y1, y2]; exact Nat.lt_succ_self _
        refine Ex_mono (Ex_and (Ex_bind p1) (fPart_good d q.2.st)) (fun z hz M3 r3 => ?_) (fun f hf x M3 f3 => ?_)
        · have k1 := c_K sc r3.L.fr 29 400
          have k2 := c_K sc r3.L.fr 28 400
          have eR : rR M2 2 3 = t := by rw [l2.fr.R, sc.hR]
          have eR3 : rR M3 2 3 = t := by rw [r3.L.fr.R, sc.hR]
          simp (disch := omega) only [Rw_I, eR, eR3, Nat.add_assoc, Nat.reduceAdd, k1, k2, nI_clamp]
          refine ⟨vin (by omega), vin (by omega), ?_⟩
          refine hz.1 _ (RC.cmpl ?_)
          refine RC.T2 r3 (LC.wt (LC.wt r3.L sc.ht (by omega)) sc.ht (by omega)) (by simp (disch := omega) only [rw_n]) (by simp (disch := omega) only [rw_n]) ?_ (Nat.le_refl _) r3.lnm
          simp (disch := omega) only [cR_w, rw_n]
          exact ⟨r3.T.na,
      r3.T.lna,
      r3.T.asz,
      r3.T.lasz,
      r3.T.amany,
      r3.T.amust,
      r3.T.bag,
      r3.T.anl,
      r3.T.lanl,
      r3.T.anm,
      r3.T.nn,
      r3.T.lnn,
      r3.T.srt,
      r3.T.way,
      r3.T.fa,
      r3.T.lfa,
      r3.T.root,
      r3.T.own,
      r3.T.chn,
      r3.T.lchn,
      r3.T.nxt,
      r3.T.lst,
      r3.T.nnl,
      r3.T.lnnl,
      r3.T.nnm,
      r3.T.nd,
      r3.T.lnd,
      r3.T.dnum,
      r3.T.dof,
      r3.T.dfor,
      r3.T.np,
      r3.T.lnp,
      r3.T.pk,
      r3.T.pa,
      r3.T.pnum,
      em_set r3.T.pj rfl,
      em_set r3.T.pf rfl,
      r3.T.pn⟩
        · have k1 := c_K sc f3.fr 29 400
          have k2 := c_K sc f3.fr 28 400
          have eR : rR M2 2 3 = t := by rw [l2.fr.R, sc.hR]
          have eR3 : rR M3 2 3 = t := by rw [f3.fr.R, sc.hR]
          simp (disch := omega) only [Rw_I, eR, eR3, Nat.add_assoc, Nat.reduceAdd, k1, k2, nI_clamp]
          refine ⟨vin (by omega), vin (by omega), ?_⟩
          exact hf.1 _ _ (FC.wt (FC.wt f3 sc.ht (by omega)) sc.ht (by omega))
      · exact nb_t rfl (hf.1 _ _ f1)
    rw [if_neg z12] at p
    have cst : tk.k s.i = 13 ∨ tk.k s.i = 14 ∨ tk.k s.i = 15 → w_Rd_token (fun x => w_Rd_addPart (fun x4 M4 => w_Rd_step (fun M5 => post x4 M5) 2 M4) 2 x M) 2 M := by
      intro z
      rw [if_neg (by omega), if_pos z] at p
      refine c_token sc h.L ?_
      refine c_addPart sc h ?_
      unfold fConst at p
      refine Ex_mono (Ex_and (Ex_bind p) (fPart1_ad (tk.k s.i) s)) (fun q hq M4 r4 => ?_) (fun f hf M4 f4 => ?_)
      · exact c_step sc r4.L (by rw [hq.2.2.1]; show tk.k s.i ≠ 130; omega) (fun M5 h5 l5 => hq.1 M5 (RC.cmpl (r4.s2 h5 sc.ht l5)))
      · exact c_stepF sc f4 (fun M5 f5 => hf.1 _ _ f5)
    refine pk_eq (tk.k s.i) 13 (fun z => cst (by omega)) (fun z13 => ?_)
    refine pk_eq (tk.k s.i) 14 (fun z => cst (by omega)) (fun z14 => ?_)
    refine pk_eq (tk.k s.i) 15 (fun z => cst (by omega)) (fun z15 => ?_)
    refine pk_eq (tk.k s.i) 40 (fun z => ?_) (fun z40 => ?_)
    · rw [if_pos z] at p
      show w_Rd_readBracket_r (S_Rd (D + 1 + 1)).1 (S_Rd (D + 1 + 1)).2.1 (S_Rd (D + 1 + 1)).2.2.1 (S_Rd (D + 1 + 1)).2.2.2 _ 2 (nI (20 - (d + 1))) M
      unfold w_Rd_readBracket_r
      refine pk_lt (20 - (d + 1)) 20 (fun _ => ?_) (fun z => by omega)
      refine c_step sc h.L (by omega) (fun M1 h1 l1 => ?_)
      have r1 := h.s2 h1 sc.ht l1
      rw [ed]
      have HP : Fol tk M0 t (fPart tk d) (fun post M => ((¬ nI 11 = ((10 : Int32))) → (S_Rd D).2.1 post 2 (nI (20 - d)) M) ∧ (¬ (¬ nI 11 = ((10 : Int32))) → (S_Rd D).1 post 2 ((11 : Int32)) (nI (20 - d)) M)) := by
        intro post s M h p
        exact nb_f (by decide) (ih D (by omega) (by omega) post s M h p)
      have HA : Fol tk M0 t (fJoin tk 11 (fPart tk d)) (fun post M => ((¬ nI 10 = ((10 : Int32))) → (S_Rd (D + 1)).2.1 post 2 (nI (20 - d)) M) ∧ (¬ (¬ nI 10 = ((10 : Int32))) → (S_Rd (D + 1)).1 post 2 ((11 : Int32)) (nI (20 - d)) M)) := by
        intro post s M h p
        exact nb_t rfl (c_joinR sc (by omega) (fPart_good d) HP post s M h p)
      refine c_joinR sc (w := 10) (by omega) (fJoin_good (fPart_good d)) HA _ s.st M1 r1 ?_
      refine Ex_mono (Ex_bind p) (fun q hq M2 r2 => ?_) (fun f hf x M2 f2 => ?_)
      · refine c_isFine r2.L ?_
        refine br_f (by decide) ?_
        exact c_require sc r2 (Ex_mono (Ex_bind hq) (fun a ha => ha) (fun f hf => hf _))
      · refine c_isFineF f2 ?_
        exact br_t rfl (hf _ _ f2)
    rw [if_neg (by omega), if_neg (by omega)] at p
    refine pk_eq (tk.k s.i) 128 (fun z => ?_) (fun z => ?_)
    · rw [if_pos z] at p
      exact c_test sc h z p
    · rw [if_neg z] at p
      exact c_refuse sc h.L (fun M' h' => p _ M' h')
/-- an expression as the class reads it -/
theorem c_expr (sc : SC tk M0 t) {d : Nat} {v : Int32} (hd : d ≤ 20) (hv : v = nI (20 - d)) : Fol tk M0 t (fOr tk (fPart tk d)) (fun post M => w_Rd_readJoined 84 post 2 ((10 : Int32)) v M) := by
  subst hv
  intro post s M h p
  have HP : Fol tk M0 t (fPart tk d) (fun post M => ((¬ nI 11 = ((10 : Int32))) → (S_Rd 82).2.1 post 2 (nI (20 - d)) M) ∧ (¬ (¬ nI 11 = ((10 : Int32))) → (S_Rd 82).1 post 2 ((11 : Int32)) (nI (20 - d)) M)) := by
    intro post s M h p
    exact nb_f (by decide) (c_part sc d 82 hd (by omega) post s M h p)
  have HA : Fol tk M0 t (fJoin tk 11 (fPart tk d)) (fun post M => ((¬ nI 10 = ((10 : Int32))) → (S_Rd 83).2.1 post 2 (nI (20 - d)) M) ∧ (¬ (¬ nI 10 = ((10 : Int32))) → (S_Rd 83).1 post 2 ((11 : Int32)) (nI (20 - d)) M)) := by
    intro post s M h p
    exact nb_t rfl (c_joinR sc (by omega) (fPart_good d) HP post s M h p)
  exact c_joinR sc (w := 10) (by omega) (fJoin_good (fPart_good d)) HA post s M h p
end CL
