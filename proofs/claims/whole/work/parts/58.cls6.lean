/-! THE CLASS'S READER, VI: attributes. -/
theorem RepC.addAt {R : Nat → Nat → Int32} {T : Txt} {g : Nat → Nat} {z v : Nat} {m u : Bool} {nm : Nat → Nat} (h : RepC R T g) (hg : g T.na = 0) (hl : T.na < 8) (hv : v ≤ 12) (hz : z ≤ 8) (e1 : R 3 T.na = nI v) (e2 : ∀ j, j < v → R 4 (T.na * 12 + j) = nI (nm j)) :
    RepC (up (up (up (up (up R 5 (up (R 5) T.na (nI z))) 6 (up (R 6) T.na (bI m))) 7 (up (R 7) T.na (bI u))) 8 (up (R 8) T.na 0)) 1 (up (R 1) 0 (nI (T.na + 1)))) (Txt.s_amust (Txt.s_amany (Txt.s_asz (Txt.s_anm (Txt.s_anl (Txt.s_na T (T.na + 1)) (up T.anl T.na v)) (up T.anm T.na nm)) (up T.asz T.na z)) (up T.amany T.na m)) (up T.amust T.na u)) g :=
  ⟨rfl,
      hl,
      em_push h.asz rfl,
      up_lt (P := fun o => o ≤ 8) h.lasz hz,
      em_push h.amany rfl,
      em_push h.amust rfl,
      fun i hi => by
      have hi2 : i < T.na + 1 := hi
      show up (R 8) T.na 0 i = nI (g i)
      by_cases q : i = T.na
      · subst q; rw [up_s, hg]; rfl
      · rw [up_n q]; exact h.bag i (by omega),
      fun i hi => by
      have hi2 : i < T.na + 1 := hi
      show R 3 i = nI (up T.anl T.na v i)
      by_cases q : i = T.na
      · subst q; rw [up_s, e1]
      · rw [up_n q]; exact h.anl i (by omega),
      up_lt (P := fun o => o ≤ 12) h.lanl hv,
      fun i hi j hj => by
      have hi2 : i < T.na + 1 := hi
      have hj2 : j < up T.anl T.na v i := hj
      show R 4 (i * 12 + j) = nI (up T.anm T.na nm i j)
      by_cases q : i = T.na
      · subst q; rw [up_s] at hj2; rw [up_s]; exact e2 j hj2
      · rw [up_n q] at hj2; rw [up_n q]; exact h.anm i (by omega) j hj2,
      h.nn,
      h.lnn,
      h.srt,
      h.way,
      h.fa,
      h.lfa,
      h.root,
      h.own,
      h.chn,
      h.lchn,
      h.nxt,
      h.lst,
      h.nnl,
      h.lnnl,
      h.nnm,
      h.nd,
      h.lnd,
      h.dnum,
      h.dof,
      h.dfor,
      h.np,
      h.lnp,
      h.pk,
      h.pa,
      h.pnum,
      h.pj,
      h.pf,
      h.pn⟩
theorem S2.fr {t : Nat} {M0 M M' : aM} (h : S2 M M') (f : FrC t M0 M) : FrC t M0 M' := by
  rcases h with rfl | ⟨x, rfl⟩
  · exact f
  · exact f.w2
section CL
variable {tk : Tk} {M0 M : aM} {t : Nat} {s : PS} {f : Fl}
theorem c_attr (sc : SC tk M0 t) {post : aM → Prop} (h : RC tk M0 t s M) (hk0 : tk.k s.i = 1) (p : Ex (OkV tk M0 t post) (ErV tk M0 t post) (fAttr tk s)) : w_Rd_readAttribute post 2 M := by
  have ge := sc.ht.ge
  have hln := sc.ln
  have lna := h.T.lna
  unfold w_Rd_readAttribute
  rw [h.L.fr.R, sc.hR, show rI M (t + 1) 0 = nI s.T.na from h.T.na]
  refine pk_lt s.T.na 8 (fun z => ?_) (fun z => ?_)
  · rw [fAttr, if_neg (by omega)] at p
    have hin : vp_in (nI s.T.na) 8 := vin z
    have ecl : (nI s.T.na).toNatClampNeg = s.T.na := nI_clamp (by omega)
    refine c_step sc h.L (by omega) (fun M1 h1 l1 => ?_)
    have r1 := h.s2 h1 sc.ht l1
    refine c_token sc l1 ?_
    have hk1 := sc.lk _ l1.li
    refine pk_eq (tk.k (s.i + 1)) 128 (fun z1 => ?_) (fun z1 => ?_)
    · rw [if_neg (by omega)] at p
      have hn := sc.nm _ l1.li z1
      have hli := l1.li
      rw [l1.at_, nI_clamp (n := s.i + 1) (by omega), show rK M1 (2 + 1 + 3) = rK M0 6 from congrFun l1.fr.K 6, show rI M1 (2 + 1 + 3) = rI M0 6 from l1.fr.2.2.2 6 (by omega) (by omega), sc.pl _ l1.li, sc.K.l 5 6001]
      refine ⟨vin (by omega), c_value sc l1 (by omega) (c_findA sc r1 z1 ?_)⟩
      have e : hereN tk (PS.s_i s (s.i + 1)) = hereN tk s.st := rfl
      rw [e]
      have hl : ∀ k, hereN tk s.st = some k → k < 2 ^ 31 := fun k hk => by
        have h1 := hereN_lt hk
        have : k < s.T.na := h1
        omega
      refine pk_eqm (hereN tk s.st) (fun z2 => ?_) (fun a z2 => ?_) rfl rfl hl
      · rw [if_neg (by rw [z2]; simp)] at p
        refine ⟨vin (by omega), ?_⟩
        refine c_value sc l1 (by omega) ?_
        refine c_put (k0 := t + 2) (L := 8) (N := 6000) (b := fun j => tk.b (tk.pl (s.i + 1) + j)) (fun j hj => ?_) (by omega) (c_K sc l1.fr 3 8) (c_K sc l1.fr 4 96) ?_ (by omega) (by omega) (by omega) (by omega) (by omega) (fun M5 e1 e2 e3 e4 e5 e6 => ?_)
        · rw [show rI M1 (2 + 1 + 1) = rI M0 4 from l1.fr.2.2.2 4 (by omega) (by omega)]
          exact sc.b _ (by omega)
        · rw [show rK M1 (2 + 1 + 1) = rK M0 4 from congrFun l1.fr.K 4]; exact sc.K.l 3 6000
        have l5 := c_putR sc e4 2 rfl (by omega) l1 e1 e2 e3
        have hT5 : RepC (cR M5 t) s.T (fun _ => 0) := by
          have hT : RepC (up (up (cR M1 t) 3 (up (cR M1 t 3) s.T.na (nI (tk.v (s.i + 1))))) 4 (fun j => if s.T.na * 12 ≤ j ∧ j < s.T.na * 12 + tk.v (s.i + 1) then nI (tk.b (tk.pl (s.i + 1) + (j - s.T.na * 12))) else cR M1 t 4 j)) s.T (fun _ => 0) :=
            ⟨r1.T.na,
      r1.T.lna,
      r1.T.asz,
      r1.T.lasz,
      r1.T.amany,
      r1.T.amust,
      r1.T.bag,
      fun i hi => by
                have hi2 : i < s.T.na := hi
                show up (cR M1 t 3) s.T.na _ i = _
                rw [up_n (by omega)]
                exact r1.T.anl i hi,
      r1.T.lanl,
      fun i hi j hj => by
                have hi2 : i < s.T.na := hi
                have hj2 : j < s.T.anl i := hj
                have := r1.T.lanl i hi
                have : s.T.anl i ≤ 12 := this
                show (if s.T.na * 12 ≤ i * 12 + j ∧ i * 12 + j < s.T.na * 12 + tk.v (s.i + 1) then _ else cR M1 t 4 (i * 12 + j)) = _
                rw [if_neg (by omega)]
                exact r1.T.anm i hi j hj,
      r1.T.nn,
      r1.T.lnn,
      r1.T.srt,
      r1.T.way,
      r1.T.fa,
      r1.T.lfa,
      r1.T.root,
      r1.T.own,
      r1.T.chn,
      r1.T.lchn,
      r1.T.nxt,
      r1.T.lst,
      r1.T.nnl,
      r1.T.lnnl,
      r1.T.nnm,
      r1.T.nd,
      r1.T.lnd,
      r1.T.dnum,
      r1.T.dof,
      r1.T.dfor,
      r1.T.np,
      r1.T.lnp,
      r1.T.pk,
      r1.T.pa,
      r1.T.pnum,
      r1.T.pj,
      r1.T.pf,
      r1.T.pn⟩
          refine RepC_congr hT (fun c hc => ?_)
          show rI M5 (t + c) = _
          by_cases q1 : c = 3
          · subst q1; rw [show t + 3 = t + 2 + 1 by omega, e5]; rfl
          · by_cases q2 : c = 4
            · subst q2; funext j; rw [show t + 4 = t + 2 + 2 by omega, e6]; rfl
            · rw [e4 _ (by omega) (by omega), up_n q2, up_n q1]; rfl
        have n5 : cR M5 t 3 s.T.na = nI (tk.v (s.i + 1)) := by
          show rI M5 (t + 2 + 1) _ = _
          rw [e5, up_s]
        have m5 : ∀ j, j < tk.v (s.i + 1) → cR M5 t 4 (s.T.na * 12 + j) = nI (tk.b (tk.pl (s.i + 1) + j)) := fun j hj => by
          show rI M5 (t + 2 + 2) _ = _
          rw [e6, if_pos (by omega), show s.T.na * 12 + j - s.T.na * 12 = j by omega]
        have f5 : rI M5 2 5 = oI s.os := by rw [e4 2 (by omega) (by omega)]; exact r1.os
        have f6 : rI M5 2 6 = nI s.od := by rw [e4 2 (by omega) (by omega)]; exact r1.od
        refine c_step sc l5 (by omega) (fun M6 h6 l6 => ?_)
        refine c_token sc l6 ?_
        have hk6 := sc.lk _ l6.li
        have hv6 := sc.lv _ l6.li
        refine pk_eq (tk.k (s.i + 1 + 1)) 129 (fun z3 => ?_) (fun z3 => ?_)
        · rw [if_neg (fun q => q z3)] at p
          refine c_value sc l6 (by omega) ?_
          refine pk_lt (tk.v (s.i + 1 + 1)) 1 (fun z4 => ?_) (fun z4 => ?_)
          · rw [if_pos (Or.inl z4)] at p
            unfold w_Rd_readAttribute_J154
            exact c_refuse sc l6 p
          refine c_value sc l6 (by omega) ?_
          refine pk_le (tk.v (s.i + 1 + 1)) 8 (fun z5 => ?_) (fun z5 => ?_)
          · rw [if_neg (by show ¬ (tk.v (s.i + 1 + 1) < 1 ∨ 8 < tk.v (s.i + 1 + 1)); omega)] at p
            refine c_value sc l6 (by omega) ?_
            rw [show rK M6 (t + 1 + 4) = rK M6 (t + 5) from rfl, c_K sc l6.fr 5 8]
            refine ⟨hin, ?_⟩
            rw [ecl]
            have l7 : LC tk M0 t (s.i + 1 + 1) (wI M6 (t + 5) s.T.na (nI (tk.v (s.i + 1 + 1)))) := l6.wt sc.ht (by omega)
            refine c_step sc l7 (by omega) (fun M8 h8 l8 => ?_)
            have c8 : cR M8 t = up (cR M5 t) 5 (up (cR M5 t 5) s.T.na (nI (tk.v (s.i + 1 + 1)))) := by
              rw [h8.cR sc.ht, show t + 1 + 4 = t + 5 from rfl, cR_w, h6.cR sc.ht, show rI M6 (t + 5) = cR M6 t 5 from rfl, h6.cR sc.ht]
            have f85 : rI M8 2 5 = oI s.os := by rw [h8.cell (by omega), rw_n (by omega), h6.cell (by omega), f5]
            have f86 : rI M8 2 6 = nI s.od := by rw [h8.cell (by omega), rw_n (by omega), h6.cell (by omega), f6]
            -- behind both words
            have last : ∀ (i9 : Nat) (m u : Bool) (M9 : aM), LC tk M0 t i9 M9 → cR M9 t = up (cR M8 t) 6 (up (cR M8 t 6) s.T.na (bI m)) → rI M9 2 5 = oI s.os → rI M9 2 6 = nI s.od → Ex (OkV tk M0 t post) (ErV tk M0 t post) (req tk 59 (PS.s_T (PS.s_i s (i9)) ((Txt.s_amust (Txt.s_amany (Txt.s_asz (Txt.s_anm (Txt.s_anl (Txt.s_na s.T (s.T.na + 1)) (up s.T.anl s.T.na (tk.v (s.i + 1)))) (up s.T.anm s.T.na (fun j => tk.b (tk.pl (s.i + 1) + j)))) (up s.T.asz s.T.na (tk.v (s.i + 2)))) (up s.T.amany s.T.na m)) (up s.T.amust s.T.na u))))) → w_Rd_readAttribute_J196 post 2 (t + 1) (nI s.T.na) (wI M9 (t + 1 + 6) s.T.na (bI u)) := by
              intro i9 m u M9 l9 c9 g5 g6 p9
              have k8 := c_K sc l9.fr 8 8
              have e10 : rI M9 (t + 1) 0 = nI s.T.na := by
                show cR M9 t 1 0 = _
                rw [c9, c8]
                exact hT5.na
              simp (disch := omega) only [w_Rd_readAttribute_J196, w_Rd_readAttribute_J203, w_Rd_readAttribute_J213, Nat.add_assoc, Nat.reduceAdd, kw_I, k8, ecl, rw_n, e10, nI_1]
              refine ⟨hin, ?_⟩
              refine c_require sc (w := 59) (s := (PS.s_T (PS.s_i s (i9)) ((Txt.s_amust (Txt.s_amany (Txt.s_asz (Txt.s_anm (Txt.s_anl (Txt.s_na s.T (s.T.na + 1)) (up s.T.anl s.T.na (tk.v (s.i + 1)))) (up s.T.anm s.T.na (fun j => tk.b (tk.pl (s.i + 1) + j)))) (up s.T.asz s.T.na (tk.v (s.i + 2)))) (up s.T.amany s.T.na m)) (up s.T.amust s.T.na u))))) ⟨(LC.wt (LC.wt (LC.wt l9 sc.ht (by omega)) sc.ht (by omega)) sc.ht (by omega)), by simp (disch := omega) only [rw_n, g5], by simp (disch := omega) only [rw_n, g6], ?_, h.los, h.lod, ?_⟩ p9
              · simp (disch := omega) only [cR_w, rw_n]
                rw [show rI M9 (t + 7) = cR M9 t 7 from rfl, show rI M9 (t + 8) = cR M9 t 8 from rfl, show rI M9 (t + 1) = cR M9 t 1 from rfl, c9, c8]
                exact hT5.addAt rfl z hn.1 z5 n5 m5
              · exact up_all (P := fun o : Nat → Nat => ∀ j, o j < 256) h.lnm (fun j => sc.lb _)
            have mid : ∀ (i9 : Nat) (m : Bool) (M9 : aM), LC tk M0 t i9 M9 → S2 M8 M9 → (skp tk 2 s.st.st.st) = (m, (PS.s_i s (i9))) → (vp_in (nI s.T.na) (rK M9 (t + 1 + 5)).2 ∧ (bI m = 0 ∨ bI m = 1)) ∧ w_Rd_skip (fun x13 M13 => (vp_in (nI s.T.na) (rK M13 (t + 1 + 6)).2 ∧ (x13 = 0 ∨ x13 = 1)) ∧ (w_Rd_readAttribute_J196 post 2 (t + 1) (nI s.T.na) (wI M13 (t + 1 + 6) s.T.na x13))) 2 3 (wI M9 (t + 1 + 5) s.T.na (bI m)) := by
              intro i9 m M9 l9 h9 hsk
              rw [show rK M9 (t + 1 + 5) = rK M9 (t + 6) from rfl, c_K sc l9.fr 6 8]
              refine ⟨⟨hin, bI_01 m⟩, ?_⟩
              have l10 : LC tk M0 t i9 (wI M9 (t + 6) s.T.na (bI m)) := l9.wt sc.ht (by omega)
              have c10 : cR (wI M9 (t + 6) s.T.na (bI m)) t = up (cR M8 t) 6 (up (cR M8 t 6) s.T.na (bI m)) := by
                rw [cR_w, show rI M9 (t + 6) = cR M9 t 6 from rfl, h9.cR sc.ht]
              have g5 : rI (wI M9 (t + 6) s.T.na (bI m)) 2 5 = oI s.os := by rw [rw_n (by omega), h9.cell (by omega), f85]
              have g6 : rI (wI M9 (t + 6) s.T.na (bI m)) 2 6 = nI s.od := by rw [rw_n (by omega), h9.cell (by omega), f86]
              rw [hsk] at p
              dsimp only at p
              refine c_skip sc l10 (w := 3) (fun z6 M11 h11 l11 => ?_) (fun z6 => ?_)
              · rw [skp, if_pos z6] at p
                rw [show rK M11 (t + 1 + 6) = rK M11 (t + 7) from rfl, c_K sc l11.fr 7 8]
                refine ⟨⟨hin, Or.inr rfl⟩, ?_⟩
                exact last (i9 + 1) m true M11 l11 (by rw [h11.cR sc.ht, c10]) (by rw [h11.cell (by omega), g5]) (by rw [h11.cell (by omega), g6]) p
              · rw [skp, if_neg z6] at p
                rw [show rK (wI M9 (t + 1 + 5) s.T.na (bI m)) (t + 1 + 6) = rK M9 (t + 7) from rfl, c_K sc l9.fr 7 8]
                refine ⟨⟨hin, Or.inl rfl⟩, ?_⟩
                exact last i9 m false _ l10 c10 g5 g6 p
            refine c_skip sc l8 (w := 2) (fun z6 M9 h9 l9 => ?_) (fun z6 => ?_)
            · have := mid (s.i + 1 + 1 + 1 + 1) true M9 l9 h9 (by rw [skp, if_pos z6])
              exact this
            · have := mid (s.i + 1 + 1 + 1) false M8 l8 S2.refl (by rw [skp, if_neg z6])
              exact this
          · rw [if_pos (Or.inr z5)] at p
            unfold w_Rd_readAttribute_J154
            exact c_refuse sc l6 p
        · rw [if_pos z3] at p
          exact c_refuse sc l6 p
      · rw [if_pos (by rw [z2]; simp)] at p
        exact c_refuse sc l1 p
    · rw [if_pos z1] at p
      exact c_refuse sc l1 p
  · rw [fAttr, if_pos z] at p
    exact c_refuse sc h.L p
theorem c_attrs (sc : SC tk M0 t) {post : aM → Prop} (h : RC tk M0 t s M) (p : Ex (OkV tk M0 t post) (ErV tk M0 t post) (fAttrs tk 9 s)) : w_Rd_readAttributes post 2 M := by
  unfold w_Rd_readAttributes
  have key : ∀ (n i : Nat) (s : PS) (M : aM), n = 9 - i → i ≤ 9 → RC tk M0 t s M → Ex (OkV tk M0 t post) (ErV tk M0 t post) (fAttrs tk n s) → w_Rd_readAttributes_L2 post (n + 1) 2 (nI i) M := by
    intro n
    induction n with
    | zero =>
      intro i s M hn hi h p
      unfold w_Rd_readAttributes_L2
      exact pk_lt 8 i (fun _ => p M h) (fun z => by omega)
    | succ n ih =>
      intro i s M hn hi h p
      unfold w_Rd_readAttributes_L2
      refine pk_lt 8 i (fun z => by omega) (fun _ => ?_)
      refine c_isFine h.L ?_
      refine br_f (by decide) ?_
      refine c_token sc h.L ?_
      have hk := sc.lk _ h.L.li
      rw [fAttrs] at p
      refine pk_ne (tk.k s.i) 1 (fun z => ?_) (fun z => ?_)
      · rw [if_neg z] at p
        exact p M h
      · rw [if_pos z] at p
        refine c_attr sc h z ?_
        rw [nI_1]
        refine Ex_mono (Ex_bind p) (fun s' hs' M' h' => ih (i + 1) s' M' (by omega) (by omega) h' hs') (fun f hf M' h' => ?_)
        have e : ∀ m, w_Rd_readAttributes_L2 post (m + 1) 2 (nI (i + 1)) M' := by
          intro m
          unfold w_Rd_readAttributes_L2
          refine pk_lt 8 (i + 1) (fun _ => hf M' h') (fun _ => ?_)
          refine c_isFineF h' ?_
          exact br_t rfl (hf M' h')
        exact e n
  exact ⟨10, key 9 0 s M rfl (by omega) h p⟩
end CL
