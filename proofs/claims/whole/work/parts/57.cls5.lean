/-! THE CLASS'S READER, V: lists, names, tests, attributes. -/
theorem RepC.dn {R : Nat → Nat → Int32} {T : Txt} {g : Nat → Nat} {l : List Nat} (h : RepC R T g) : RepC R (Txt.s_dn T (l)) g := ⟨h.na,
      h.lna,
      h.asz,
      h.lasz,
      h.amany,
      h.amust,
      h.bag,
      h.anl,
      h.lanl,
      h.anm,
      h.nn,
      h.lnn,
      h.srt,
      h.way,
      h.fa,
      h.lfa,
      h.root,
      h.own,
      h.chn,
      h.lchn,
      h.nxt,
      h.lst,
      h.nnl,
      h.lnnl,
      h.nnm,
      h.nd,
      h.lnd,
      h.dnum,
      h.dof,
      h.dfor,
      h.np,
      h.lnp,
      h.pk,
      h.pa,
      h.pnum,
      h.pj,
      h.pf,
      h.pn⟩
theorem RC.cmpl {tk : Tk} {M0 M : aM} {t p : Nat} {s : PS} (h : RC tk M0 t s M) : RC tk M0 t (cmpl p s) M := ⟨h.L, h.os, h.od, h.T.dn, h.los, h.lod, h.lnm⟩
theorem Ex_okI {tk : Tk} {M0 : aM} {t : Nat} {post : Int32 → aM → Prop} {q : Nat × PS} {E : Fl → Prop} (h : ∀ M', RC tk M0 t q.2 M' → post (nI q.1) M') : Ex (OkI tk M0 t post) E (.ok q) := h
theorem fTest_no {tk : Tk} {s : PS} (ho : hereN tk s = none) : fTest tk s = .error (rf tk 3 s) := by
  unfold fTest; rw [ho]
theorem fTest_full {tk : Tk} {s : PS} {a : Nat} (ho : hereN tk s = some a) (hn : 400 ≤ s.T.np) : fTest tk s = .error (rf tk 5 s) := by
  unfold fTest; rw [ho]
  show (fPart1 tk 128 s).bind _ = _
  rw [fPart1, if_pos hn]; rfl
/-- the cases of a test, at its word -/
def fTc (tk : Tk) (q c z : Nat) (s : PS) : PR (Nat × PS) :=
  if c = 16 ∨ c = 20 then (fNum tk z s).bind (fun z => .ok (q, cmpl q (setNum q z.1 z.2)))
  else if c = 17 ∨ c = 18 then (fList tk z s).bind (fun z => .ok (q, cmpl q (setNum q z.1 z.2)))
  else if c = 60 ∨ c = 61 ∨ c = 62 then (fNum tk 1000 s).bind (fun z => .ok (q, cmpl q (setNum q z.1 z.2)))
  else if c = 19 then (fOther tk s).bind (fun z => .ok (q, cmpl q (setNum q z.1 z.2)))
  else if c = 21 then .ok (q, cmpl q s.st)
  else .error (rf tk 2 s)
theorem fTest_eq {tk : Tk} {s : PS} {a : Nat} (ho : hereN tk s = some a) (hn : s.T.np < 400) : fTest tk s = fTc tk s.T.np (tk.k (s.i + 1)) (s.T.asz a) (setT s.T.np (tk.k (s.i + 1)) a ((PS.s_T s (addPt s.T 128)) : PS).st) := by
  unfold fTest; rw [ho]
  show (fPart1 tk 128 s).bind _ = _
  rw [fPart1, if_neg (by omega)]
  rfl
/-- the same cases, as the class goes through them -/
def cTc (post : Int32 → aM → Prop) (t q : Nat) (A : Prop) (zz x5 : Int32) (M4 : aM) : Prop :=
  ((x5 = (16 : Int32)) → A ∧ (w_Rd_readNumber (fun x6 M6 => (vp_in (nI q) (rK M6 (t + 27)).2) ∧ post (nI q) (wI M6 (t + 27) q x6)) 2 zz M4)) ∧ (¬ (x5 = (16 : Int32)) →
  ((x5 = (17 : Int32)) → A ∧ (w_Rd_readList (fun x6 M6 => (vp_in (nI q) (rK M6 (t + 27)).2) ∧ post (nI q) (wI M6 (t + 27) q x6)) 2 zz M4)) ∧ (¬ (x5 = (17 : Int32)) →
  ((x5 = (18 : Int32)) → A ∧ (w_Rd_readList (fun x6 M6 => (vp_in (nI q) (rK M6 (t + 27)).2) ∧ post (nI q) (wI M6 (t + 27) q x6)) 2 zz M4)) ∧ (¬ (x5 = (18 : Int32)) →
  ((x5 = (19 : Int32)) → w_Rd_step (fun M7 => w_Rd_attributeHere (fun x6 M6 => (vp_in (nI q) (rK M6 (t + 27)).2) ∧ (w_Rd_step (fun M9 => post (nI q) M9) 2 (wI M6 (t + 27) q x6))) 2 M7) 2 M4) ∧ (¬ (x5 = (19 : Int32)) →
  ((x5 = (20 : Int32)) → A ∧ (w_Rd_readNumber (fun x6 M6 => (vp_in (nI q) (rK M6 (t + 27)).2) ∧ post (nI q) (wI M6 (t + 27) q x6)) 2 zz M4)) ∧ (¬ (x5 = (20 : Int32)) →
  ((x5 = (21 : Int32)) → w_Rd_step (fun M11 => post (nI q) M11) 2 M4) ∧ (¬ (x5 = (21 : Int32)) →
  ((x5 = (60 : Int32)) → w_Rd_readNumber (fun x6 M6 => (vp_in (nI q) (rK M6 (t + 27)).2) ∧ post (nI q) (wI M6 (t + 27) q x6)) 2 ((1000 : Int32)) M4) ∧ (¬ (x5 = (60 : Int32)) →
  ((x5 = (61 : Int32)) → w_Rd_readNumber (fun x6 M6 => (vp_in (nI q) (rK M6 (t + 27)).2) ∧ post (nI q) (wI M6 (t + 27) q x6)) 2 ((1000 : Int32)) M4) ∧ (¬ (x5 = (61 : Int32)) →
  ((x5 = (62 : Int32)) → w_Rd_readNumber (fun x6 M6 => (vp_in (nI q) (rK M6 (t + 27)).2) ∧ post (nI q) (wI M6 (t + 27) q x6)) 2 ((1000 : Int32)) M4) ∧ (¬ (x5 = (62 : Int32)) →
  w_Rd_refuse (fun M15 => post (nI q) M15) 2 ((2 : Int32)) M4)))))))))
section CL
variable {tk : Tk} {M0 M : aM} {t : Nat} {s : PS} {f : Fl}
theorem c_list (sc : SC tk M0 t) {post : Int32 → aM → Prop} {below : Nat} {x : Int32} (h : RC tk M0 t s M) (hk : tk.k s.i ≠ 130) (hb : below ≤ 8) (p : Ex (OkI tk M0 t post) (ErI tk M0 t post) (fList tk below s)) (hx : x = nI below := by rfl) : w_Rd_readList post 2 x M := by
  subst hx
  unfold w_Rd_readList
  refine c_step sc h.L hk (fun M1 h1 l1 => ?_)
  have r1 := h.s2 h1 sc.ht l1
  refine c_token sc l1 ?_
  have hk1 := sc.lk _ l1.li
  refine pk_eq (tk.k (s.i + 1)) 123 (fun z => ?_) (fun z => ?_)
  · rw [fList, if_neg (by omega)] at p
    have fin : ∀ (mask : Nat) (s' : PS) (M' : aM), RC tk M0 t s' M' → Ex (OkI tk M0 t post) (ErI tk M0 t post) ((req tk 125 s').bind (fun s2 => .ok (mask, s2))) → w_Rd_readList_J108 post 2 (nI mask) M' := by
      intro mask s' M' h' p'
      unfold w_Rd_readList_J108
      have hk' := sc.lk _ h'.L.li
      refine c_token sc h'.L ?_
      refine pk_eq (tk.k s'.i) 125 (fun z9 => ?_) (fun z9 => ?_)
      · rw [req, if_pos z9] at p'
        unfold w_Rd_readList_J122
        exact c_step sc h'.L (by omega) (fun M2 h2 l2 => p' M2 (h'.s2 h2 sc.ht l2))
      · rw [req, if_neg z9] at p'
        refine c_refuse sc (why := 2) h'.L (fun M2 f2 => ?_)
        unfold w_Rd_readList_J122
        exact c_stepF sc f2 (fun M3 f3 => p' _ M3 f3)
    have key : ∀ (n i mask : Nat) (s' : PS) (M' : aM), n = 9 - i → i ≤ 9 → mask < 256 → RC tk M0 t s' M' → tk.k s'.i ≠ 130 → Ex (fun q : Nat × PS => Ex (OkI tk M0 t post) (ErI tk M0 t post) ((req tk 125 q.2).bind (fun s2 => .ok (q.1, s2)))) (ErI tk M0 t post) (fVals tk below n mask s') → w_Rd_readList_L24 post (n + 1) 2 (nI below) (nI mask) (nI i) M' := by
      intro n
      induction n with
      | zero =>
        intro i mask s' M' hn hi hm h' hk' p'
        unfold w_Rd_readList_L24
        exact pk_lt 8 i (fun _ => fin _ _ _ h' p') (fun z => by omega)
      | succ n ih =>
        intro i mask s' M' hn hi hm h' hk' p'
        unfold w_Rd_readList_L24
        refine pk_lt 8 i (fun z => by omega) (fun _ => ?_)
        refine c_step sc h'.L hk' (fun M2 h2 l2 => ?_)
        have r2 := h'.s2 h2 sc.ht l2
        refine c_token sc l2 ?_
        have hk2 := sc.lk _ l2.li
        rw [fVals] at p'
        refine pk_eq (tk.k (s'.i + 1)) 129 (fun z2 => ?_) (fun z2 => ?_)
        · rw [if_neg (by omega)] at p'
          refine c_value sc l2 (by omega) ?_
          have hv := sc.lv _ l2.li
          refine pk_le below (tk.v (s'.i + 1)) (fun z3 => ?_) (fun z3 => ?_)
          · rw [if_pos (Or.inl z3)] at p'
            exact c_refuse sc l2 (fun M' h' => p' _ M' h')
          · rw [bit_get mask hm _ (by omega)]
            refine pk_b0 (mask.testBit (tk.v (s'.i + 1))) (fun z4 => ?_) (fun z4 => ?_)
            · rw [if_neg (by rw [z4]; simp; omega)] at p'
              refine c_step sc l2 (by omega) (fun M3 h3 l3 => ?_)
              have r3 := r2.s2 h3 sc.ht l3
              refine c_token sc l3 ?_
              have hk3 := sc.lk _ l3.li
              have bs := bit_set mask hm (tk.v (s'.i + 1)) (by omega)
              rw [bs.1]
              refine pk_eq (tk.k (s'.i + 1 + 1)) 44 (fun z5 => ?_) (fun z5 => ?_)
              · rw [if_neg (fun q => q z5)] at p'
                rw [nI_1]
                exact ih (i + 1) _ s'.st.st M3 (by omega) (by omega) bs.2 r3 (by show tk.k (s'.i + 1 + 1) ≠ 130; omega) p'
              · rw [if_pos z5] at p'
                exact fin _ _ _ r3 p'
            · rw [if_pos (Or.inr z4)] at p'
              exact c_refuse sc l2 (fun M' h' => p' _ M' h')
        · rw [if_pos z2] at p'
          exact c_refuse sc l2 (fun M' h' => p' _ M' h')
    exact ⟨10, key 9 0 0 s.st M1 rfl (by omega) (by omega) r1 (by show tk.k (s.i + 1) ≠ 130; omega) (Ex_bind p)⟩
  · rw [fList, if_pos z] at p
    exact c_refuse sc l1 (fun M' h' => p _ M' h')
/-- rows behind a name that was put -/
theorem c_putR (sc : SC tk M0 t) {M' : aM} {k0 i : Nat} (e4 : ∀ k, k ≠ k0 + 1 → k ≠ k0 + 2 → rI M' k = rI M k) (c : Nat) (hc : k0 = t + c) (hcc : c < 28) (l : LC tk M0 t i M) (e1 : M'.1 = M.1) (e2 : M'.2.1 = M.2.1) (e3 : M'.2.2.2 = M.2.2.2) : LC tk M0 t i M' := by
  have ge := sc.ht.ge
  refine ⟨⟨e1.trans l.fr.1, e2.trans l.fr.2.1, e3.trans l.fr.2.2.1, fun k h1 h2 => (e4 k (by omega) (by omega)).trans (l.fr.2.2.2 k h1 h2)⟩, ?_, ?_, l.li⟩
  · rw [e4 2 (by omega) (by omega)]; exact l.kd
  · rw [e4 2 (by omega) (by omega)]; exact l.at_
theorem c_name (sc : SC tk M0 t) {post : Int32 → aM → Prop} {i : Nat} {x : Int32} (h : RC tk M0 t s M) (hi : i < s.T.nn) (p : ∀ M', RC tk M0 t (fName tk i s).2 M' → post (bI (fName tk i s).1) M') (hx : x = nI i := by rfl) : w_Rd_readName post 2 x M := by
  subst hx
  have ge := sc.ht.ge
  have hnn := h.T.lnn
  have hln := sc.ln
  have hli := h.L.li
  unfold w_Rd_readName
  refine c_token sc h.L ?_
  have hk := sc.lk _ h.L.li
  refine pk_eq (tk.k s.i) 128 (fun z => ?_) (fun z => ?_)
  · rw [fName, if_pos z] at p
    have hn := sc.nm _ h.L.li z
    rw [h.L.fr.R, sc.hR, h.L.at_, nI_clamp (by omega), show rK M (2 + 1 + 3) = rK M0 6 from congrFun h.L.fr.K 6, show rI M (2 + 1 + 3) = rI M0 6 from h.L.fr.2.2.2 6 (by omega) (by omega), sc.pl _ h.L.li, sc.K.l 5 6001]
    refine ⟨vin (by omega), ?_⟩
    refine c_value sc h.L (by omega) ?_
    refine c_put (k0 := t + 10) (L := 100) (N := 6000) (b := fun j => tk.b (tk.pl s.i + j)) (fun j hj => ?_) (by omega) (c_K sc h.L.fr 11 100) (c_K sc h.L.fr 12 1200) ?_ (by omega) (by omega) (by omega) (by omega) (by omega) (fun M1 e1 e2 e3 e4 e5 e6 => ?_)
    · rw [show rI M (2 + 1 + 1) = rI M0 4 from h.L.fr.2.2.2 4 (by omega) (by omega)]
      exact sc.b _ (by omega)
    · rw [show rK M (2 + 1 + 1) = rK M0 4 from congrFun h.L.fr.K 4]; exact sc.K.l 3 6000
    · have l1 := c_putR sc e4 10 rfl (by omega) h.L e1 e2 e3
      have r1 : RC tk M0 t (PS.s_T s ((Txt.s_nnm (Txt.s_nnl s.T (up s.T.nnl i (tk.v s.i))) (up s.T.nnm i (fun j => tk.b (tk.pl s.i + j)))))) M1 := by
        refine h.T2 l1 (by rw [e4 2 (by omega) (by omega)]) (by rw [e4 2 (by omega) (by omega)]) ?_ (Nat.le_refl _) h.lnm
        have hT : RepC (up (up (cR M t) 11 (up (cR M t 11) i (nI (tk.v s.i)))) 12 (fun j => if i * 12 ≤ j ∧ j < i * 12 + tk.v s.i then nI (tk.b (tk.pl s.i + (j - i * 12))) else cR M t 12 j)) (Txt.s_nnm (Txt.s_nnl s.T (up s.T.nnl i (tk.v s.i))) (up s.T.nnm i (fun j => tk.b (tk.pl s.i + j)))) (fun _ => 0) :=
          ⟨h.T.na,
      h.T.lna,
      h.T.asz,
      h.T.lasz,
      h.T.amany,
      h.T.amust,
      h.T.bag,
      h.T.anl,
      h.T.lanl,
      h.T.anm,
      h.T.nn,
      h.T.lnn,
      h.T.srt,
      h.T.way,
      h.T.fa,
      h.T.lfa,
      h.T.root,
      h.T.own,
      h.T.chn,
      h.T.lchn,
      h.T.nxt,
      h.T.lst,
      em_set h.T.nnl rfl,
      up_le (P := fun o => o ≤ 12) h.T.lnnl (by omega),
      fun i' hi' j hj => by
              have hj2 : j < up s.T.nnl i (tk.v s.i) i' := hj
              show (if i * 12 ≤ i' * 12 + j ∧ i' * 12 + j < i * 12 + tk.v s.i then nI (tk.b (tk.pl s.i + (i' * 12 + j - i * 12))) else cR M t 12 (i' * 12 + j)) = nI (up s.T.nnm i (fun j => tk.b (tk.pl s.i + j)) i' j)
              by_cases q : i' = i
              · subst q
                rw [up_s] at hj2
                rw [if_pos (by omega), up_s, show i' * 12 + j - i' * 12 = j by omega]
              · rw [up_n q] at hj2
                have := h.T.lnnl i' hi'
                rw [if_neg (by omega), up_n q]
                exact h.T.nnm i' hi' j hj2,
      h.T.nd,
      h.T.lnd,
      h.T.dnum,
      h.T.dof,
      h.T.dfor,
      h.T.np,
      h.T.lnp,
      h.T.pk,
      h.T.pa,
      h.T.pnum,
      h.T.pj,
      h.T.pf,
      h.T.pn⟩
        refine RepC_congr hT (fun c hc => ?_)
        show rI M1 (t + c) = _
        by_cases q1 : c = 11
        · subst q1; rw [show t + 11 = t + 10 + 1 by omega, e5]; rfl
        · by_cases q2 : c = 12
          · subst q2; funext j; rw [show t + 12 = t + 10 + 2 by omega, e6]; rfl
          · rw [e4 _ (by omega) (by omega), up_n q2, up_n q1]; rfl
      exact c_step sc l1 (by omega) (fun M2 h2 l2 => ⟨Or.inr rfl, p M2 (r1.s2 h2 sc.ht l2)⟩)
  · rw [fName, if_neg z] at p
    exact ⟨Or.inl rfl, p M h⟩
theorem RC.setT (sc : SC tk M0 t) {p kd a : Nat} (h : RC tk M0 t s M) : RC tk M0 t (setT p kd a s) (wI (wI M (t + 25) p (nI kd)) (t + 26) p (nI a)) := by
  have ge := sc.ht.ge
  have hT : RepC (cR (wI (wI M (t + 25) p (nI kd)) (t + 26) p (nI a)) t) (Txt.s_pa (Txt.s_pk s.T (up s.T.pk p kd)) (up s.T.pa p a)) (fun _ => 0) := by
    simp (disch := omega) only [cR_w, rw_n]
    have hT0 := h.T
    exact ⟨hT0.na,
      hT0.lna,
      hT0.asz,
      hT0.lasz,
      hT0.amany,
      hT0.amust,
      hT0.bag,
      hT0.anl,
      hT0.lanl,
      hT0.anm,
      hT0.nn,
      hT0.lnn,
      hT0.srt,
      hT0.way,
      hT0.fa,
      hT0.lfa,
      hT0.root,
      hT0.own,
      hT0.chn,
      hT0.lchn,
      hT0.nxt,
      hT0.lst,
      hT0.nnl,
      hT0.lnnl,
      hT0.nnm,
      hT0.nd,
      hT0.lnd,
      hT0.dnum,
      hT0.dof,
      hT0.dfor,
      hT0.np,
      hT0.lnp,
      em_set hT0.pk rfl,
      em_set hT0.pa rfl,
      hT0.pnum,
      hT0.pj,
      hT0.pf,
      hT0.pn⟩
  exact RC.T2 (T' := (Txt.s_pa (Txt.s_pk s.T (up s.T.pk p kd)) (up s.T.pa p a))) h (LC.wt (LC.wt h.L sc.ht (by omega)) sc.ht (by omega)) (by simp (disch := omega) only [rw_n]) (by simp (disch := omega) only [rw_n]) hT (Nat.le_refl _) h.lnm
theorem RC.setNum (sc : SC tk M0 t) {p v : Nat} (h : RC tk M0 t s M) : RC tk M0 t (setNum p v s) (wI M (t + 27) p (nI v)) := by
  have ge := sc.ht.ge
  have hT : RepC (cR (wI M (t + 27) p (nI v)) t) (Txt.s_pnum s.T (up s.T.pnum p v)) (fun _ => 0) := by
    rw [cR_w]
    have hT0 := h.T
    exact ⟨hT0.na,
      hT0.lna,
      hT0.asz,
      hT0.lasz,
      hT0.amany,
      hT0.amust,
      hT0.bag,
      hT0.anl,
      hT0.lanl,
      hT0.anm,
      hT0.nn,
      hT0.lnn,
      hT0.srt,
      hT0.way,
      hT0.fa,
      hT0.lfa,
      hT0.root,
      hT0.own,
      hT0.chn,
      hT0.lchn,
      hT0.nxt,
      hT0.lst,
      hT0.nnl,
      hT0.lnnl,
      hT0.nnm,
      hT0.nd,
      hT0.lnd,
      hT0.dnum,
      hT0.dof,
      hT0.dfor,
      hT0.np,
      hT0.lnp,
      hT0.pk,
      hT0.pa,
      em_set hT0.pnum rfl,
      hT0.pj,
      hT0.pf,
      hT0.pn⟩
  exact RC.T2 (T' := (Txt.s_pnum s.T (up s.T.pnum p v))) h (h.L.wt sc.ht (by omega)) (by simp (disch := omega) only [rw_n]) (by simp (disch := omega) only [rw_n]) hT (Nat.le_refl _) h.lnm
/-- a number is written down -/
theorem c_fin (sc : SC tk M0 t) {post : Int32 → aM → Prop} {q : Nat} (hq : q < 400) (r : PR (Nat × PS)) (pr : Ex (OkI tk M0 t post) (ErI tk M0 t post) (r.bind (fun z => .ok (q, cmpl q (setNum q z.1 z.2))))) : Ex (OkI tk M0 t (fun x6 M6 => (vp_in (nI q) (rK M6 (t + 27)).2) ∧ post (nI q) (wI M6 (t + 27) q x6))) (ErI tk M0 t (fun x6 M6 => (vp_in (nI q) (rK M6 (t + 27)).2) ∧ post (nI q) (wI M6 (t + 27) q x6))) r := by
  have hin : vp_in (nI q) 400 := vin hq
  exact Ex_mono (Ex_bind pr) (fun z hz M6 r6 => ⟨by rw [c_K sc r6.L.fr 27 400]; exact hin, hz _ (RC.cmpl (RC.setNum sc r6))⟩) (fun f hf x6 M6 r6 => ⟨by rw [c_K sc r6.fr 27 400]; exact hin, hf _ _ (r6.wt sc.ht (by omega))⟩)
/-- behind 'meets' -/
theorem c_other (sc : SC tk M0 t) {post : Int32 → aM → Prop} {q : Nat} (hq : q < 400) (h : RC tk M0 t s M) (hk : tk.k s.i ≠ 130) (p : Ex (OkI tk M0 t post) (ErI tk M0 t post) ((fOther tk s).bind (fun z => .ok (q, cmpl q (setNum q z.1 z.2))))) : w_Rd_step (fun M7 => w_Rd_attributeHere (fun x6 M6 => (vp_in (nI q) (rK M6 (t + 27)).2) ∧ (w_Rd_step (fun M9 => post (nI q) M9) 2 (wI M6 (t + 27) q x6))) 2 M7) 2 M := by
  have hin : vp_in (nI q) 400 := vin hq
  refine c_step sc h.L hk (fun M1 h1 l1 => ?_)
  have r1 := h.s2 h1 sc.ht l1
  unfold fOther at p
  refine c_here sc (s := s.st) r1 (fun a z ho => ?_) (fun z ho M2 f2 => ?_) (fun z M2 f2 => ?_)
  · have z2 : tk.k (s.i + 1) = 128 := z
    rw [if_neg (fun w => w z2), ho] at p
    rw [c_K sc l1.fr 27 400]
    refine ⟨hin, ?_⟩
    have r2 := RC.setNum sc (p := q) (v := a) r1
    exact c_step sc r2.L (by show tk.k (s.i + 1) ≠ 130; omega) (fun M3 h3 l3 => p M3 (RC.cmpl (r2.s2 h3 sc.ht l3)))
  · have z2 : tk.k (s.i + 1) = 128 := z
    rw [if_neg (fun w => w z2), ho] at p
    rw [c_K sc f2.fr 27 400]
    exact ⟨hin, c_stepF sc (f2.wt sc.ht (by omega)) (fun M3 f3 => p _ M3 f3)⟩
  · have z2 : ¬ tk.k (s.i + 1) = 128 := z
    rw [if_pos z2] at p
    rw [c_K sc f2.fr 27 400]
    exact ⟨hin, c_stepF sc (f2.wt sc.ht (by omega)) (fun M3 f3 => p _ M3 f3)⟩
/-- behind the attribute's name -/
theorem c_test2 (sc : SC tk M0 t) {post : Int32 → aM → Prop} {q c z : Nat} {A : Prop} (h : RC tk M0 t s M) (hc : tk.k s.i = c) (hq : q < 400) (ha : A) (hz : z ≤ 8) (p : Ex (OkI tk M0 t post) (ErI tk M0 t post) (fTc tk q c z s)) : cTc post t q A (nI z) (nI c) M := by
  have hc2 := sc.lk _ h.L.li
  rw [hc] at hc2
  have n130 : c ≤ 62 → tk.k s.i ≠ 130 := fun w => by omega
  unfold fTc at p
  unfold cTc
  refine pk_eq c 16 (fun w => ?_) (fun z16 => ?_)
  · rw [if_pos (Or.inl w)] at p
    exact ⟨ha, c_number sc (below := z) h (n130 (by omega)) (by omega) (c_fin sc hq _ p)⟩
  refine pk_eq c 17 (fun w => ?_) (fun z17 => ?_)
  · rw [if_neg (by omega), if_pos (Or.inl w)] at p
    exact ⟨ha, c_list sc h (n130 (by omega)) hz (c_fin sc hq _ p)⟩
  refine pk_eq c 18 (fun w => ?_) (fun z18 => ?_)
  · rw [if_neg (by omega), if_pos (Or.inr w)] at p
    exact ⟨ha, c_list sc h (n130 (by omega)) hz (c_fin sc hq _ p)⟩
  refine pk_eq c 19 (fun w => ?_) (fun z19 => ?_)
  · rw [if_neg (by omega), if_neg (by omega), if_neg (by omega), if_pos w] at p
    exact c_other sc hq h (n130 (by omega)) p
  refine pk_eq c 20 (fun w => ?_) (fun z20 => ?_)
  · rw [if_pos (Or.inr w)] at p
    exact ⟨ha, c_number sc (below := z) h (n130 (by omega)) (by omega) (c_fin sc hq _ p)⟩
  refine pk_eq c 21 (fun w => ?_) (fun z21 => ?_)
  · rw [if_neg (by omega), if_neg (by omega), if_neg (by omega), if_neg (by omega), if_pos w] at p
    exact c_step sc h.L (by omega) (fun M5 h5 l5 => p _ (RC.cmpl (h.s2 h5 sc.ht l5)))
  refine pk_eq c 60 (fun w => ?_) (fun z60 => ?_)
  · rw [if_neg (by omega), if_neg (by omega), if_pos (by omega)] at p
    exact c_number sc (below := 1000) h (n130 (by omega)) (by omega) (c_fin sc hq _ p)
  refine pk_eq c 61 (fun w => ?_) (fun z61 => ?_)
  · rw [if_neg (by omega), if_neg (by omega), if_pos (by omega)] at p
    exact c_number sc (below := 1000) h (n130 (by omega)) (by omega) (c_fin sc hq _ p)
  refine pk_eq c 62 (fun w => ?_) (fun z62 => ?_)
  · rw [if_neg (by omega), if_neg (by omega), if_pos (by omega)] at p
    exact c_number sc (below := 1000) h (n130 (by omega)) (by omega) (c_fin sc hq _ p)
  rw [if_neg (by omega), if_neg (by omega), if_neg (by omega), if_neg (by omega), if_neg (by omega)] at p
  exact c_refuse sc h.L (fun M' h' => p _ M' h')
theorem c_test (sc : SC tk M0 t) {post : Int32 → aM → Prop} (h : RC tk M0 t s M) (hk : tk.k s.i = 128) (p : Ex (OkI tk M0 t post) (ErI tk M0 t post) (fTest tk s)) : w_Rd_readTest post 2 M := by
  have ge := sc.ht.ge
  unfold w_Rd_readTest
  have h8 := h.T.lna
  have no : ∀ (x1 : Int32) (f : Fl) (M' : aM), FC tk M0 t f M' → ErI tk M0 t post f → w_Rd_readTest_J21 post 2 x1 ((-1 : Int32)) M' := by
    intro x1 f M' f' p'
    unfold w_Rd_readTest_J21
    exact nb_t rfl (p' _ M' f')
  refine c_here sc h (fun a _ ho => ?_) (fun _ ho M' f' => ?_) (fun z => absurd hk z)
  rotate_left
  · rw [fTest_no ho] at p
    exact nb_t rfl (no _ _ M' f' p)
  · have ha := hereN_lt ho
    have hz8 := h.T.lasz a ha
    refine nb_f (show ¬ nI a = -1 from nI_m1 (by omega)) ?_
    refine c_addPart sc (kd := 128) h ?_
    by_cases hnp : 400 ≤ s.T.np
    · rw [fTest_full ho hnp] at p
      rw [fPart1, if_pos hnp]
      exact fun M' h' => no _ _ M' h' p
    rw [fTest_eq ho (by omega)] at p
    rw [fPart1, if_neg hnp]
    refine Ex_okI (fun M2 r2' => ?_)
    have r2 : RC tk M0 t (PS.s_T s (addPt s.T 128)) M2 := r2'
    clear r2'
    have hp4 : s.T.np < 400 := by omega
    generalize hs2 : ((PS.s_T s (addPt s.T 128)) : PS) = s2 at r2 p
    have hs2i : s2.i = s.i := by rw [← hs2]
    have hs2z : s2.T.asz = s.T.asz := by rw [← hs2]; rfl
    have hs2n : s2.T.na = s.T.na := by rw [← hs2]; rfl
    clear hs2
    generalize s.T.np = q at p hp4
    unfold w_Rd_readTest_J21
    refine nb_f (show ¬ nI q = -1 from nI_m1 (by omega)) ?_
    refine c_step sc r2.L (by rw [hs2i]; omega) (fun M3 h3 l3 => ?_)
    have r3 := r2.s2 h3 sc.ht l3
    refine c_token sc l3 ?_
    have k1 := c_K sc l3.fr 25 400
    have k2 := c_K sc l3.fr 26 400
    have hin : vp_in (nI q) 400 := vin hp4
    simp (disch := omega) only [Rw_I, l3.fr.R, sc.hR, Nat.add_assoc, Nat.reduceAdd, k1, k2, nI_clamp]
    refine ⟨hin, hin, ?_⟩
    have r4 := RC.setT sc (p := q) (kd := tk.k (s2.i + 1)) (a := a) r3
    have ez : rI (wI (wI M3 (t + 25) q (nI (tk.k (s2.i + 1)))) (t + 26) q (nI a)) (t + 5) a = nI (s.T.asz a) := by
      rw [rw_n (by omega), rw_n (by omega), ← hs2z]
      exact r3.T.asz a (by show a < s2.T.na; omega)
    have ek : vp_in (nI a) (rK M3 (t + 5)).2 := by
      rw [c_K sc l3.fr 5 8]
      exact vin (by omega)
    rw [ez]
    rw [show s.i + 1 = s2.i + 1 by rw [hs2i]] at p
    refine c_token sc r4.L ?_
    exact c_test2 sc r4 rfl hp4 ek hz8 p
end CL
