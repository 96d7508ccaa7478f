/-! THE CLASS'S READER, IV: its methods follow the function. -/
section CL
variable {tk : Tk} {M0 M : aM} {t : Nat} {s : PS} {f : Fl}
/-- what a method is asked: behind an answer, behind a fault -/
def OkI (tk : Tk) (M0 : aM) (t : Nat) (post : Int32 → aM → Prop) (q : Nat × PS) : Prop := ∀ M', RC tk M0 t q.2 M' → post (nI q.1) M'
def ErI (tk : Tk) (M0 : aM) (t : Nat) (post : Int32 → aM → Prop) (f : Fl) : Prop := ∀ x M', FC tk M0 t f M' → post x M'
def OkV (tk : Tk) (M0 : aM) (t : Nat) (post : aM → Prop) (s : PS) : Prop := ∀ M', RC tk M0 t s M' → post M'
def ErV (tk : Tk) (M0 : aM) (t : Nat) (post : aM → Prop) (f : Fl) : Prop := ∀ M', FC tk M0 t f M' → post M'
theorem RC.T2 {T' : Txt} {M' : aM} (h : RC tk M0 t s M) (hl : LC tk M0 t s.i M') (h5 : rI M' 2 5 = rI M 2 5) (h6 : rI M' 2 6 = rI M 2 6) (hT : RepC (cR M' t) T' (fun _ => 0)) (hn : s.T.nn ≤ T'.nn) (hm : ∀ i j, T'.anm i j < 256) : RC tk M0 t (PS.s_T s (T')) M' :=
  ⟨hl, h5.trans h.os, h6.trans h.od, hT, fun a ha => Nat.lt_of_lt_of_le (h.los a ha) hn, h.lod, hm⟩
theorem c_addPart (sc : SC tk M0 t) {post : Int32 → aM → Prop} {kd : Nat} {x : Int32} (h : RC tk M0 t s M) (p : Ex (OkI tk M0 t post) (fun f => ∀ M', FC tk M0 t f M' → post (-1) M') (fPart1 tk kd s)) (hx : x = nI kd := by rfl) : w_Rd_addPart post 2 x M := by
  subst hx
  have ge := sc.ht.ge
  unfold w_Rd_addPart
  rw [h.L.fr.R, sc.hR]
  have e0 : rI M (t + 24) 0 = nI s.T.np := h.T.np
  have lnp := h.T.lnp
  refine pk_lt s.T.np 400 (fun z => ?_) (fun z => ?_) e0
  · rw [fPart1, if_neg (by omega)] at p
    have k1 := c_K sc h.L.fr 25 400
    have k2 := c_K sc h.L.fr 26 400
    have k3 := c_K sc h.L.fr 27 400
    have k4 := c_K sc h.L.fr 28 400
    have k5 := c_K sc h.L.fr 29 400
    have k6 := c_K sc h.L.fr 30 400
    have hin : vp_in (nI s.T.np) 400 := vin z
    simp (disch := omega) only [w_Pt_add, w_Pt_add_J10, w_Pt_add_J20, w_Pt_add_J30, w_Pt_add_J40, w_Pt_add_J50, w_Pt_add_J60, Nat.add_assoc, Nat.reduceAdd, rw_n, kw_I, e0, nI_clamp, k1, k2, k3, k4, k5, k6, rw_ss, nI_1, nI_pred]
    refine ⟨hin, hin, hin, hin, hin, hin, ?_⟩
    refine p _ (h.T2 (LC.wt (LC.wt (LC.wt (LC.wt (LC.wt (LC.wt (LC.wt h.L sc.ht (by omega)) sc.ht (by omega)) sc.ht (by omega)) sc.ht (by omega)) sc.ht (by omega)) sc.ht (by omega)) sc.ht (by omega)) (by simp (disch := omega) only [rw_n]) (by simp (disch := omega) only [rw_n]) ?_ (Nat.le_refl _) h.lnm)
    simp (disch := omega) only [cR_w, rw_n]
    exact h.T.addPt z
  · rw [fPart1, if_pos z] at p
    exact c_refuse sc h.L p
theorem c_addNode (sc : SC tk M0 t) {post : Int32 → aM → Prop} {so : Nat} {x : Int32} (h : RC tk M0 t s M) (p : Ex (OkI tk M0 t post) (fun f => ∀ M', FC tk M0 t f M' → post (-1) M') (fNode tk so s)) (hx : x = nI so := by rfl) : w_Rd_addNode post 2 x M := by
  subst hx
  have ge := sc.ht.ge
  unfold w_Rd_addNode
  rw [h.L.fr.R, sc.hR]
  have e0 : rI M (t + 9) 0 = nI s.T.nn := h.T.nn
  have lnn := h.T.lnn
  refine pk_lt s.T.nn 100 (fun z => ?_) (fun z => ?_) e0
  · rw [fNode, if_neg (by omega)] at p
    have k1 := c_K sc h.L.fr 13 100
    have k2 := c_K sc h.L.fr 14 100
    have k3 := c_K sc h.L.fr 15 100
    have k4 := c_K sc h.L.fr 16 100
    have k5 := c_K sc h.L.fr 17 100
    have k6 := c_K sc h.L.fr 18 100
    have k7 := c_K sc h.L.fr 19 100
    have k8 := c_K sc h.L.fr 11 100
    have k9 := c_K sc h.L.fr 20 100
    have hin : vp_in (nI s.T.nn) 100 := vin z
    rw [h.os]
    simp (disch := omega) only [w_Nd_addTo, w_Nd_addTo_J15, w_Nd_addTo_J22, w_Nd_addTo_J29, w_Nd_addTo_J36, w_Nd_addTo_J43, w_Nd_addTo_J50, w_Nd_addTo_J57, w_Nd_addTo_J64, w_Nd_addTo_J74, Nat.add_assoc, Nat.reduceAdd, rw_n, kw_I, e0, nI_clamp, k1, k2, k3, k4, k5, k6, k7, k8, rw_ss, nI_1, nI_pred]
    refine ⟨hin, hin, hin, hin, hin, hin, hin, hin, ?_⟩
    have hos := h.los
    refine pk_eqm s.os (fun z1 => ?_) (fun a z1 => ?_) rfl rfl (fun k hk => by have := hos k hk; omega)
    · rw [z1] at p ⊢
      refine p _ (h.T2 (LC.wt (LC.wt (LC.wt (LC.wt (LC.wt (LC.wt (LC.wt (LC.wt (LC.wt h.L sc.ht (by omega)) sc.ht (by omega)) sc.ht (by omega)) sc.ht (by omega)) sc.ht (by omega)) sc.ht (by omega)) sc.ht (by omega)) sc.ht (by omega)) sc.ht (by omega)) (by simp (disch := omega) only [rw_n]) (by simp (disch := omega) only [rw_n]) ?_ (Nat.le_succ _) h.lnm)
      simp (disch := omega) only [cR_w, rw_n]
      exact h.T.addNd0 z
    · have ha := hos a z1
      have hain : vp_in (nI a) 100 := vin (by omega)
      have hc := h.T.lchn a ha
      have ec : rI M (t + 18) a = nI (s.T.chn a) := h.T.chn a ha
      rw [z1] at p ⊢
      simp (disch := omega) only [oI, w_Nd_addChild, Nat.add_assoc, Nat.reduceAdd, rw_n, rw_s, up_n, kw_I, nI_clamp, k6, ec]
      refine ⟨hain, ?_⟩
      refine pk_le (s.T.chn a) 0 (fun z2 => ?_) (fun z2 => ?_)
      · simp (disch := omega) only [w_Nd_addChild_J21, Nat.add_assoc, Nat.reduceAdd, rw_n, rw_s, up_n, kw_I, nI_clamp, k6, k9, ec, up_s, nI_1, nI_pred]
        refine ⟨hain, hain, hain, ?_⟩
        refine p _ (h.T2 (LC.wt (LC.wt (LC.wt (LC.wt (LC.wt (LC.wt (LC.wt (LC.wt (LC.wt (LC.wt (LC.wt h.L sc.ht (by omega)) sc.ht (by omega)) sc.ht (by omega)) sc.ht (by omega)) sc.ht (by omega)) sc.ht (by omega)) sc.ht (by omega)) sc.ht (by omega)) sc.ht (by omega)) sc.ht (by omega)) sc.ht (by omega)) (by simp (disch := omega) only [rw_n]) (by simp (disch := omega) only [rw_n]) ?_ (Nat.le_succ _) h.lnm)
        simp (disch := omega) only [cR_w, rw_n, rw_s]
        exact h.T.addNd1 z ha (by omega)
      · have hl := h.T.lst a ha (by omega)
        have el : rI M (t + 20) a = nI (s.T.lst a) := hl.1
        have hl2 := hl.2
        simp (disch := omega) only [w_Nd_addChild_J21, Nat.add_assoc, Nat.reduceAdd, rw_n, rw_s, up_n, kw_I, nI_clamp, k6, k7, k9, ec, el, up_s, nI_1, nI_pred]
        refine ⟨hain, vin (by omega), hain, hain, hain, ?_⟩
        refine p _ (h.T2 (LC.wt (LC.wt (LC.wt (LC.wt (LC.wt (LC.wt (LC.wt (LC.wt (LC.wt (LC.wt (LC.wt (LC.wt h.L sc.ht (by omega)) sc.ht (by omega)) sc.ht (by omega)) sc.ht (by omega)) sc.ht (by omega)) sc.ht (by omega)) sc.ht (by omega)) sc.ht (by omega)) sc.ht (by omega)) sc.ht (by omega)) sc.ht (by omega)) sc.ht (by omega)) (by simp (disch := omega) only [rw_n]) (by simp (disch := omega) only [rw_n]) ?_ (Nat.le_succ _) h.lnm)
        simp (disch := omega) only [cR_w, rw_n, rw_s]
        exact h.T.addNd2 z ha (by omega)
  · rw [fNode, if_pos z] at p
    exact c_refuse sc h.L p
theorem c_dutyN (sc : SC tk M0 t) {post : aM → Prop} {o d : Nat} {x y : Int32} (h : RC tk M0 t s M) (ho : o < s.T.nn) (p : Ex (OkV tk M0 t post) (ErV tk M0 t post) (fDutyN tk o d s)) (hx : x = nI o := by rfl) (hy : y = nI d := by rfl) : w_Rd_readDutyNumber post 2 x y M := by
  subst hx hy
  have ge := sc.ht.ge
  unfold w_Rd_readDutyNumber
  refine c_token sc h.L ?_
  have hk := sc.lk _ h.L.li
  refine pk_eq (tk.k s.i) 129 (fun z => ?_) (fun z => ?_)
  · rw [h.L.fr.R, sc.hR]
    have e0 : rI M (t + 9) 10 = nI s.T.nd := h.T.nd
    have lnd := h.T.lnd
    refine pk_lt s.T.nd 100 (fun z1 => ?_) (fun z1 => ?_) e0
    · rw [fDutyN, if_neg (by omega), if_neg (by omega)] at p
      refine c_value sc h.L (by omega) ?_
      have k1 := c_K sc h.L.fr 21 100
      have k2 := c_K sc h.L.fr 22 100
      have k3 := c_K sc h.L.fr 23 100
      have k4 := c_K sc h.L.fr 17 100
      have eo : rI M (t + 17) o = nI (s.T.own o) := h.T.own o ho
      have hnn := h.T.lnn
      have hin : vp_in (nI s.T.nd) 100 := vin z1
      have hio : vp_in (nI o) 100 := vin (by omega)
      simp (disch := omega) only [w_Nd_addDuty, w_Nd_addDuty_J10, w_Nd_addDuty_J20, w_Nd_addDuty_J30, w_Nd_addDuty_J40, Nat.add_assoc, Nat.reduceAdd, rw_n, kw_I, e0, nI_clamp, k1, k2, k3, k4, eo, nI_1]
      refine ⟨hin, hin, hin, hio, hio, ?_⟩
      have hr : RC tk M0 t (PS.s_T s (addDt s.T o d (tk.v s.i))) (wI (wI (wI (wI (wI M (t + 21) s.T.nd (nI (tk.v s.i))) (t + 22) s.T.nd (nI o)) (t + 23) s.T.nd (nI d)) (t + 9) 10 (nI (s.T.nd + 1))) (t + 17) o (nI (s.T.own o + 1))) := by
        refine h.T2 (LC.wt (LC.wt (LC.wt (LC.wt (LC.wt h.L sc.ht (by omega)) sc.ht (by omega)) sc.ht (by omega)) sc.ht (by omega)) sc.ht (by omega)) (by simp (disch := omega) only [rw_n]) (by simp (disch := omega) only [rw_n]) ?_ (Nat.le_refl _) h.lnm
        simp (disch := omega) only [cR_w, rw_n]
        exact h.T.addDt z1
      exact c_step sc hr.L (by show tk.k s.i ≠ 130; omega) (fun M' h2 h' => p M' (hr.s2 h2 sc.ht h'))
    · rw [fDutyN, if_neg (by omega), if_pos z1] at p
      exact c_refuse sc h.L p
  · rw [fDutyN, if_pos z] at p
    exact c_refuse sc h.L p
theorem c_number (sc : SC tk M0 t) {post : Int32 → aM → Prop} {below : Nat} {x : Int32} (h : RC tk M0 t s M) (hk : tk.k s.i ≠ 130) (hb : below < 2 ^ 31) (p : Ex (OkI tk M0 t post) (ErI tk M0 t post) (fNum tk below s)) (hx : x = nI below := by rfl) : w_Rd_readNumber post 2 x M := by
  subst hx
  unfold w_Rd_readNumber
  refine c_step sc h.L hk (fun M1 h1 l1 => ?_)
  have r1 := h.s2 h1 sc.ht l1
  refine c_valueX sc l1 (fun y hy => ?_)
  refine c_token sc l1 ?_
  have hk1 := sc.lk _ l1.li
  have hv := sc.lv _ l1.li
  refine pk_eq (tk.k (s.i + 1)) 129 (fun z => ?_) (fun z => ?_)
  · have e := hy (by omega)
    subst e
    refine pk_lt (tk.v (s.i + 1)) below (fun z1 => ?_) (fun z1 => ?_)
    · rw [fNum, if_neg (by omega), if_neg (by omega)] at p
      exact c_step sc l1 (by omega) (fun M2 h2 l2 => p M2 (r1.s2 h2 sc.ht l2))
    · rw [fNum, if_neg (by omega), if_pos z1] at p
      exact c_refuse sc l1 (fun M' h' => p _ M' h')
  · rw [fNum, if_pos z] at p
    exact c_refuse sc l1 (fun M' h' => p _ M' h')
/-- the attribute that is named here, or a refusal -/
theorem c_here (sc : SC tk M0 t) {post : Int32 → aM → Prop} (h : RC tk M0 t s M) (p1 : ∀ a, tk.k s.i = 128 → hereN tk s = some a → post (nI a) M) (p2 : tk.k s.i = 128 → hereN tk s = none → ∀ M', FC tk M0 t (rf tk 3 s) M' → post (-1) M') (p3 : tk.k s.i ≠ 128 → ∀ M', FC tk M0 t (rf tk 2 s) M' → post (-1) M') : w_Rd_attributeHere post 2 M := by
  have ge := sc.ht.ge
  have hln := sc.ln
  have hli := h.L.li
  have lna := h.T.lna
  unfold w_Rd_attributeHere
  refine c_token sc h.L ?_
  have hk := sc.lk _ h.L.li
  refine pk_eq (tk.k s.i) 128 (fun z => ?_) (fun z => ?_)
  · rw [h.L.fr.R, sc.hR, show rI M (t + 1) 0 = nI s.T.na from h.T.na, h.L.at_, nI_clamp (by omega), show rK M (2 + 1 + 3) = rK M0 6 from congrFun h.L.fr.K 6, show rI M (2 + 1 + 3) = rI M0 6 from h.L.fr.2.2.2 6 (by omega) (by omega), sc.pl _ h.L.li, sc.K.l 5 6001]
    refine ⟨vin (by omega), ?_⟩
    refine c_value sc h.L (by omega) (c_findA sc h z ?_)
    cases ho : hereN tk s with
    | none => exact nb_t rfl (c_refuse sc h.L (p2 z ho))
    | some a =>
      have ha := hereN_lt ho
      exact nb_f (show ¬ oI (some a) = -1 from nI_m1 (by omega)) (p1 a z ho)
  · exact c_refuse sc h.L (p3 z)
end CL
