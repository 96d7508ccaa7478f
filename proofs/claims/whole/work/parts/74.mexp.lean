/-! THE MODEL'S READER, VI: expressions. -/
/-- texts are alike when all their rows are -/
theorem Txt_ext {T T' : Txt} (h0 : T.na = T'.na) (h1 : T.asz = T'.asz) (h2 : T.amany = T'.amany) (h3 : T.amust = T'.amust) (h4 : T.anl = T'.anl) (h5 : T.anm = T'.anm) (h6 : T.nn = T'.nn) (h7 : T.srt = T'.srt) (h8 : T.way = T'.way) (h9 : T.fa = T'.fa) (h10 : T.root = T'.root) (h11 : T.nnl = T'.nnl) (h12 : T.nnm = T'.nnm) (h13 : T.own = T'.own) (h14 : T.chn = T'.chn) (h15 : T.nxt = T'.nxt) (h16 : T.lst = T'.lst) (h17 : T.nd = T'.nd) (h18 : T.dnum = T'.dnum) (h19 : T.dof = T'.dof) (h20 : T.dfor = T'.dfor) (h21 : T.np = T'.np) (h22 : T.pk = T'.pk) (h23 : T.pa = T'.pa) (h24 : T.pnum = T'.pnum) (h25 : T.pj = T'.pj) (h26 : T.pf = T'.pf) (h27 : T.pn = T'.pn) (h28 : T.dn = T'.dn) : T = T' := by
  obtain ⟨a0, a1, a2, a3, a4, a5, a6, a7, a8, a9, a10, a11, a12, a13, a14, a15, a16, a17, a18, a19, a20, a21, a22, a23, a24, a25, a26, a27, a28⟩ := T
  obtain ⟨b0, b1, b2, b3, b4, b5, b6, b7, b8, b9, b10, b11, b12, b13, b14, b15, b16, b17, b18, b19, b20, b21, b22, b23, b24, b25, b26, b27, b28⟩ := T'
  have e0 : a0 = b0 := h0
  have e1 : a1 = b1 := h1
  have e2 : a2 = b2 := h2
  have e3 : a3 = b3 := h3
  have e4 : a4 = b4 := h4
  have e5 : a5 = b5 := h5
  have e6 : a6 = b6 := h6
  have e7 : a7 = b7 := h7
  have e8 : a8 = b8 := h8
  have e9 : a9 = b9 := h9
  have e10 : a10 = b10 := h10
  have e11 : a11 = b11 := h11
  have e12 : a12 = b12 := h12
  have e13 : a13 = b13 := h13
  have e14 : a14 = b14 := h14
  have e15 : a15 = b15 := h15
  have e16 : a16 = b16 := h16
  have e17 : a17 = b17 := h17
  have e18 : a18 = b18 := h18
  have e19 : a19 = b19 := h19
  have e20 : a20 = b20 := h20
  have e21 : a21 = b21 := h21
  have e22 : a22 = b22 := h22
  have e23 : a23 = b23 := h23
  have e24 : a24 = b24 := h24
  have e25 : a25 = b25 := h25
  have e26 : a26 = b26 := h26
  have e27 : a27 = b27 := h27
  have e28 : a28 = b28 := h28
  subst e0 e1 e2 e3 e4 e5 e6 e7 e8 e9 e10 e11 e12 e13 e14 e15 e16 e17 e18 e19 e20 e21 e22 e23 e24 e25 e26 e27 e28
  rfl
theorem cmpl_addPt (T : Txt) (p kd : Nat) : ((Txt.s_dn (addPt T kd) ((addPt T kd).dn ++ [p])) : Txt) = addPt (Txt.s_dn T (T.dn ++ [p])) kd :=
  Txt_ext ((show ((Txt.s_dn (addPt T kd) ((addPt T kd).dn ++ [p])) : Txt).na = T.na from rfl).trans (show T.na = (addPt (Txt.s_dn T (T.dn ++ [p])) kd).na from rfl)) ((show ((Txt.s_dn (addPt T kd) ((addPt T kd).dn ++ [p])) : Txt).asz = T.asz from rfl).trans (show T.asz = (addPt (Txt.s_dn T (T.dn ++ [p])) kd).asz from rfl)) ((show ((Txt.s_dn (addPt T kd) ((addPt T kd).dn ++ [p])) : Txt).amany = T.amany from rfl).trans (show T.amany = (addPt (Txt.s_dn T (T.dn ++ [p])) kd).amany from rfl)) ((show ((Txt.s_dn (addPt T kd) ((addPt T kd).dn ++ [p])) : Txt).amust = T.amust from rfl).trans (show T.amust = (addPt (Txt.s_dn T (T.dn ++ [p])) kd).amust from rfl)) ((show ((Txt.s_dn (addPt T kd) ((addPt T kd).dn ++ [p])) : Txt).anl = T.anl from rfl).trans (show T.anl = (addPt (Txt.s_dn T (T.dn ++ [p])) kd).anl from rfl)) ((show ((Txt.s_dn (addPt T kd) ((addPt T kd).dn ++ [p])) : Txt).anm = T.anm from rfl).trans (show T.anm = (addPt (Txt.s_dn T (T.dn ++ [p])) kd).anm from rfl)) ((show ((Txt.s_dn (addPt T kd) ((addPt T kd).dn ++ [p])) : Txt).nn = T.nn from rfl).trans (show T.nn = (addPt (Txt.s_dn T (T.dn ++ [p])) kd).nn from rfl)) ((show ((Txt.s_dn (addPt T kd) ((addPt T kd).dn ++ [p])) : Txt).srt = T.srt from rfl).trans (show T.srt = (addPt (Txt.s_dn T (T.dn ++ [p])) kd).srt from rfl)) ((show ((Txt.s_dn (addPt T kd) ((addPt T kd).dn ++ [p])) : Txt).way = T.way from rfl).trans (show T.way = (addPt (Txt.s_dn T (T.dn ++ [p])) kd).way from rfl)) ((show ((Txt.s_dn (addPt T kd) ((addPt T kd).dn ++ [p])) : Txt).fa = T.fa from rfl).trans (show T.fa = (addPt (Txt.s_dn T (T.dn ++ [p])) kd).fa from rfl)) ((show ((Txt.s_dn (addPt T kd) ((addPt T kd).dn ++ [p])) : Txt).root = T.root from rfl).trans (show T.root = (addPt (Txt.s_dn T (T.dn ++ [p])) kd).root from rfl)) ((show ((Txt.s_dn (addPt T kd) ((addPt T kd).dn ++ [p])) : Txt).nnl = T.nnl from rfl).trans (show T.nnl = (addPt (Txt.s_dn T (T.dn ++ [p])) kd).nnl from rfl)) ((show ((Txt.s_dn (addPt T kd) ((addPt T kd).dn ++ [p])) : Txt).nnm = T.nnm from rfl).trans (show T.nnm = (addPt (Txt.s_dn T (T.dn ++ [p])) kd).nnm from rfl)) ((show ((Txt.s_dn (addPt T kd) ((addPt T kd).dn ++ [p])) : Txt).own = T.own from rfl).trans (show T.own = (addPt (Txt.s_dn T (T.dn ++ [p])) kd).own from rfl)) ((show ((Txt.s_dn (addPt T kd) ((addPt T kd).dn ++ [p])) : Txt).chn = T.chn from rfl).trans (show T.chn = (addPt (Txt.s_dn T (T.dn ++ [p])) kd).chn from rfl)) ((show ((Txt.s_dn (addPt T kd) ((addPt T kd).dn ++ [p])) : Txt).nxt = T.nxt from rfl).trans (show T.nxt = (addPt (Txt.s_dn T (T.dn ++ [p])) kd).nxt from rfl)) ((show ((Txt.s_dn (addPt T kd) ((addPt T kd).dn ++ [p])) : Txt).lst = T.lst from rfl).trans (show T.lst = (addPt (Txt.s_dn T (T.dn ++ [p])) kd).lst from rfl)) ((show ((Txt.s_dn (addPt T kd) ((addPt T kd).dn ++ [p])) : Txt).nd = T.nd from rfl).trans (show T.nd = (addPt (Txt.s_dn T (T.dn ++ [p])) kd).nd from rfl)) ((show ((Txt.s_dn (addPt T kd) ((addPt T kd).dn ++ [p])) : Txt).dnum = T.dnum from rfl).trans (show T.dnum = (addPt (Txt.s_dn T (T.dn ++ [p])) kd).dnum from rfl)) ((show ((Txt.s_dn (addPt T kd) ((addPt T kd).dn ++ [p])) : Txt).dof = T.dof from rfl).trans (show T.dof = (addPt (Txt.s_dn T (T.dn ++ [p])) kd).dof from rfl)) ((show ((Txt.s_dn (addPt T kd) ((addPt T kd).dn ++ [p])) : Txt).dfor = T.dfor from rfl).trans (show T.dfor = (addPt (Txt.s_dn T (T.dn ++ [p])) kd).dfor from rfl)) ((show ((Txt.s_dn (addPt T kd) ((addPt T kd).dn ++ [p])) : Txt).np = T.np + 1 from rfl).trans (show T.np + 1 = (addPt (Txt.s_dn T (T.dn ++ [p])) kd).np from rfl)) ((show ((Txt.s_dn (addPt T kd) ((addPt T kd).dn ++ [p])) : Txt).pk = up T.pk T.np kd from rfl).trans (show up T.pk T.np kd = (addPt (Txt.s_dn T (T.dn ++ [p])) kd).pk from rfl)) ((show ((Txt.s_dn (addPt T kd) ((addPt T kd).dn ++ [p])) : Txt).pa = up T.pa T.np 0 from rfl).trans (show up T.pa T.np 0 = (addPt (Txt.s_dn T (T.dn ++ [p])) kd).pa from rfl)) ((show ((Txt.s_dn (addPt T kd) ((addPt T kd).dn ++ [p])) : Txt).pnum = up T.pnum T.np 0 from rfl).trans (show up T.pnum T.np 0 = (addPt (Txt.s_dn T (T.dn ++ [p])) kd).pnum from rfl)) ((show ((Txt.s_dn (addPt T kd) ((addPt T kd).dn ++ [p])) : Txt).pj = up T.pj T.np 0 from rfl).trans (show up T.pj T.np 0 = (addPt (Txt.s_dn T (T.dn ++ [p])) kd).pj from rfl)) ((show ((Txt.s_dn (addPt T kd) ((addPt T kd).dn ++ [p])) : Txt).pf = up T.pf T.np none from rfl).trans (show up T.pf T.np none = (addPt (Txt.s_dn T (T.dn ++ [p])) kd).pf from rfl)) ((show ((Txt.s_dn (addPt T kd) ((addPt T kd).dn ++ [p])) : Txt).pn = up T.pn T.np none from rfl).trans (show up T.pn T.np none = (addPt (Txt.s_dn T (T.dn ++ [p])) kd).pn from rfl)) ((show ((Txt.s_dn (addPt T kd) ((addPt T kd).dn ++ [p])) : Txt).dn = T.dn ++ [p] from rfl).trans (show T.dn ++ [p] = (addPt (Txt.s_dn T (T.dn ++ [p])) kd).dn from rfl))
theorem sT_sT (s : PS) (A B : Txt) : PS.s_T (PS.s_T s A) B = PS.s_T s B := rfl
theorem cmpl_add (s : PS) (p kd : Nat) : cmpl p (PS.s_T s (addPt s.T kd)) = (PS.s_T (cmpl p s) (addPt (cmpl p s).T kd)) := by
  have e := cmpl_addPt s.T p kd
  have e1 : cmpl p (PS.s_T s (addPt s.T kd)) = PS.s_T s (Txt.s_dn (addPt s.T kd) ((addPt s.T kd).dn ++ [p])) := sT_sT s (addPt s.T kd) (Txt.s_dn (addPt s.T kd) ((addPt s.T kd).dn ++ [p]))
  have e2 : ((PS.s_T (cmpl p s) (addPt (cmpl p s).T kd)) : PS) = PS.s_T s (addPt (Txt.s_dn s.T (s.T.dn ++ [p])) kd) := sT_sT s (Txt.s_dn s.T (s.T.dn ++ [p])) (addPt (Txt.s_dn s.T (s.T.dn ++ [p])) kd)
  rw [e1, e2, e]
/-- giving and stepping go past each other -/
theorem giveS_st : ∀ (σ : List Fr) (s : PS) (p : Nat), giveS p σ s.st = ((giveS p σ s).1, (giveS p σ s).2.st) := by
  intro σ
  induction σ with
  | nil => intro s p; rfl
  | cons F l ih =>
    intro s p
    rw [giveS, giveS]
    cases F.1 with
    | some x => exact ih (cmpl x (PS.s_T s ((Txt.s_pj (Txt.s_pf s.T (up s.T.pf x (some p))) (up s.T.pj x 1))))) x
    | none => cases F.2.2.1 <;> rfl
theorem fPart_bad {k : Tk} (d : Nat) {s : PS} (h : k.k s.i = 131) : fPart k d s = .error (1, k.pl s.i) := by
  have e : rf k 2 s = (1, k.pl s.i) := rf_bad h
  cases d with
  | zero => rw [fPart, if_neg (by omega), if_neg (by omega), if_neg (by omega), e]
  | succ d => rw [fPart, if_neg (by omega), if_neg (by omega), if_neg (by omega), if_neg (by omega), e]
theorem fJoin_bad {k : Tk} {w : Nat} {P : PS → PR (Nat × PS)} {s : PS} (h : P s = .error (1, k.pl s.i)) : fJoin k w P s = .error (1, k.pl s.i) := by
  rw [fJoin, h]; rfl
section ME
variable {b : Nat → Nat} {n : Nat} {M0 : aM} {post : Int32 → aM → Prop}
/-- the loop in fault -/
theorem m_LF {f : Fl} {M : aM} {N : Nat} {x : Int32} (h : FM b n M0 f M) (p : post (-1) M) : w_Mo_readExpression_L12 post (N + 1) 136 x M := by
  unfold w_Mo_readExpression_L12
  exact nb_f h.ne p
/-- parts are read as the function reads them -/
def Mp (b : Nat → Nat) (n : Nat) (M0 : aM) (post : Int32 → aM → Prop) (P : PS → PR (Nat × PS)) (d : Nat) : Prop := ∀ (σ : List Fr) (s : PS) (M : aM) (N : Nat), RS b n M0 s σ 0 M → wfS σ → s.od + (σ.length - 1) + d = 20 → (tkOf b n).n ≤ s.i + N → Ex (fun q => ∀ M' N', (tkOf b n).n ≤ q.2.i + N' → AS b n M0 (giveS q.1 σ q.2).2 (giveS q.1 σ q.2).1 0 M' → w_Mo_readExpression_L12 post (N' + 1) 136 0 M') (fun f => ∀ M', FM b n M0 f M' → post (-1) M') (P s) → w_Mo_readExpression_L12 post (N + 1) 136 1 M
/-- the top frame is F, and the rest of the loop goes on from there -/
def Nx (b : Nat → Nat) (n : Nat) (M0 : aM) (post : Int32 → aM → Prop) (oo : Option Nat × Option Nat) (l : List Fr) (q : Nat × PS) : Prop := ∀ (s2 : PS) (F : Fr) (M' : aM) (N' : Nat), F.1 = none → F.2.1 = oo → (F.2.2.1 ≠ none → F.2.2.2 ≠ none) → endA F s2 = (some q.1, q.2) → s2.i = q.2.i → s2.od = q.2.od → s2.T.np = q.2.T.np → (tkOf b n).k q.2.i ≠ 11 → (tkOf b n).n ≤ q.2.i + N' → AS b n M0 s2 (F :: l) 0 M' → w_Mo_readExpression_L12 post (N' + 1) 136 0 M'
def Er (b : Nat → Nat) (n : Nat) (M0 : aM) (post : Int32 → aM → Prop) (f : Fl) : Prop := ∀ M', FM b n M0 f M' → post (-1) M'
theorem AS.bad {s : PS} {σ : List Fr} {e : Nat} {M : aM} (h : AS b n M0 s σ e M) (hb : (tkOf b n).k s.i = 131) : FM b n M0 (1, (tkOf b n).pl s.i) M := by
  rcases h with h | h
  · exact absurd hb h.R.L.nb
  · exact h.2
theorem AS.good {s : PS} {σ : List Fr} {e : Nat} {M : aM} (h : AS b n M0 s σ e M) (hb : (tkOf b n).k s.i ≠ 131) : RS b n M0 s σ e M := by
  rcases h with h | h
  · exact h
  · exact absurd h.1 hb
/-- 'and' stands here, and the joint is there -/
theorem m_and1 {d : Nat} (h0 : TpM b n M0) (hG : Good (fPart (tkOf b n) d)) (hP : Mp b n M0 post (fPart (tkOf b n) d) d) {oo : Option Nat × Option Nat} {l : List Fr} (hoo : oo.1 ≠ none → oo.2 ≠ none) (hl : l ≠ [] → wfS l) :
    ∀ (nf j last : Nat) (s : PS) (M : aM) (N : Nat), RS b n M0 s ((none, oo, (some j, some last)) :: l) 0 M → s.od + l.length + d = 20 → (tkOf b n).n ≤ s.i + N → (tkOf b n).k s.i = 11 → 400 < nf + s.T.np → Ex (Nx b n M0 post oo l) (Er b n M0 post) (fMore (tkOf b n) 11 (fPart (tkOf b n) d) j nf last s) → w_Mo_readExpression_J93 post (w_Mo_readExpression_L12 post N) 136 M := by
  intro nf
  induction nf with
  | zero =>
    intro j last s M N h hd hN hk hf p
    have := h.R.T.lnp
    omega
  | succ nf ih =>
    intro j last s M N h hd hN hk hf p
    rw [fMore, if_pos hk] at p
    unfold w_Mo_readExpression_J93
    have hli := h.R.L.li
    obtain ⟨N, rfl⟩ : ∃ N', N = N' + 1 := ⟨N - 1, by omega⟩
    have hwf : wfS ((none, oo, (some j, some last)) :: l) := ⟨fun _ => rfl, hl, fun z => absurd rfl z, fun _ => by simp, hoo⟩
    refine m_nextS h0 h (by omega) (fun M1 a1 => ?_)
    rcases a1 with r1 | ⟨hb, f1⟩
    · refine hP _ s.st M1 N r1 hwf (by show s.od + (l.length + 1 - 1) + d = 20; omega) (by show (tkOf b n).n ≤ s.i + 1 + N; omega) ?_
      refine Ex_mono (Ex_and (Ex_bind p) (hG s.st)) (fun q hq M2 N2 hN2 a2 => ?_) (fun f hf => hf.1)
      obtain ⟨p1, g1, g2⟩ := hq
      have gn : s.T.np < q.2.T.np := g2.np
      have god : q.2.od = s.od := g2.od
      -- behind the part
      have a2' : AS b n M0 (PS.s_T q.2 ((Txt.s_pj (Txt.s_pn q.2.T (up q.2.T.pn last (some q.1))) (up q.2.T.pj j (q.2.T.pj j + 1))))) ((none, oo, (some j, some q.1)) :: l) 0 M2 := a2
      by_cases hk2 : (tkOf b n).k q.2.i = 11
      · have r2 := a2'.good (by show (tkOf b n).k q.2.i ≠ 131; omega)
        have r2k := r2.k.1
        have hh : rI M2 136 40 = nI (l.length + 1) := r2.h
        have hlen : l.length + 1 ≤ 21 := r2.l
        obtain ⟨_, _, _, k4, _⟩ := m_Kp h0 r2.R.L.fr
        have e164 : rI M2 170 l.length = nI j := r2k.2.2.2.1
        have hj4 : j < q.2.T.np := r2.k.2.1.2.2.2.1 j rfl
        have lnp := r2.R.T.lnp
        have lnp2 : q.2.T.np ≤ 400 := lnp
        unfold w_Mo_readExpression_L12
        refine nb_t r2.R.L.fl (br_t rfl ?_)
        refine m_isWord (j := 11) h0 r2.R.L (by omega) (by omega) ?_
        rw [show (tkOf b n).k ((PS.s_T q.2 ((Txt.s_pj (Txt.s_pn q.2.T (up q.2.T.pn last (some q.1))) (up q.2.T.pj j (q.2.T.pj j + 1))))) : PS).i = 11 from hk2]
        refine br_f (by decide) ?_
        simp (disch := omega) only [Nat.reduceAdd, hh, nI_pred, k4, nI_clamp, e164]
        refine ⟨vin (by omega), nb_f (nI_m1 (by omega)) ?_⟩
        exact ih j q.1 _ M2 N2 r2 (by show q.2.od + l.length + d = 20; omega) hN2 hk2 (by show 400 < nf + q.2.T.np; omega) p1
      · have p2 : Nx b n M0 post oo l (j, cmpl j (PS.s_T q.2 ((Txt.s_pj (Txt.s_pn q.2.T (up q.2.T.pn last (some q.1))) (up q.2.T.pj j (q.2.T.pj j + 1)))))) := by
          cases nf with
          | zero => exact p1
          | succ nf =>
            rw [fMore, if_neg (by exact hk2)] at p1
            exact p1
        exact p2 _ (none, oo, (some j, some q.1)) M2 N2 rfl rfl (fun _ => by simp) rfl rfl rfl rfl hk2 hN2 a2'
    · have hb2 : (tkOf b n).k s.st.i = 131 := hb
      have p1 := Ex_bind p
      rw [fPart_bad d hb2] at p1
      exact m_LF f1 (p1 M1 f1)
/-- what 'and' joins -/
theorem m_and {d : Nat} (h0 : TpM b n M0) (hG : Good (fPart (tkOf b n) d)) (hP : Mp b n M0 post (fPart (tkOf b n) d) d) {oo : Option Nat × Option Nat} {l : List Fr} (hoo : oo.1 ≠ none → oo.2 ≠ none) (hl : l ≠ [] → wfS l) {s : PS} {M : aM} {N : Nat} (h : RS b n M0 s ((none, oo, (none, none)) :: l) 0 M) (hd : s.od + l.length + d = 20) (hN : (tkOf b n).n ≤ s.i + N) (p : Ex (Nx b n M0 post oo l) (Er b n M0 post) (fJoin (tkOf b n) 11 (fPart (tkOf b n) d) s)) : w_Mo_readExpression_L12 post (N + 1) 136 1 M := by
  have hwf : wfS ((none, oo, (none, none)) :: l) := ⟨fun _ => rfl, hl, fun z => absurd rfl z, fun z => absurd rfl z, hoo⟩
  refine hP _ s M N h hwf (by show s.od + (l.length + 1 - 1) + d = 20; omega) hN ?_
  unfold fJoin at p
  refine Ex_mono (Ex_and (Ex_bind p) (hG s)) (fun q hq M1 N1 hN1 a1 => ?_) (fun f hf => hf.1)
  obtain ⟨p1, g1, g2⟩ := hq
  have god : q.2.od = s.od := g2.od
  have gnp : s.T.np < q.2.T.np := g2.np
  have a1' : AS b n M0 q.2 ((none, oo, (none, some q.1)) :: l) 0 M1 := a1
  by_cases hk : (tkOf b n).k q.2.i = 11
  · rw [if_pos hk] at p1
    have r1 := a1'.good (by omega)
    obtain ⟨⟨e1, e2, e3, e4, e5⟩, ⟨t1, t2, t3, t4, t5⟩, hsk⟩ := r1.k
    have hh : rI M1 136 40 = nI (l.length + 1) := r1.h
    have hlen : l.length + 1 ≤ 21 := r1.l
    obtain ⟨k1, k2, k3, k4, k5⟩ := m_Kp h0 r1.R.L.fr
    have e164 : rI M1 170 l.length = -1 := e4
    have hi : vp_in (nI l.length) 24 := vin (by omega)
    unfold w_Mo_readExpression_L12
    refine nb_t r1.R.L.fl (br_t rfl ?_)
    refine m_isWord (j := 11) h0 r1.R.L (by omega) (by omega) ?_
    rw [hk]
    refine br_f (by decide) ?_
    simp (disch := omega) only [Nat.reduceAdd, hh, nI_pred, k4, nI_clamp, e164]
    refine ⟨hi, nb_t trivial ?_⟩
    refine m_newPart (kd := 11) h0 r1.R (by omega) ?_
    refine Ex_mono (Ex_and (Ex_bind p1) (fPart1_ad 11 q.2)) (fun z hz M2 s2 r2 => ?_) (fun f hf M2 f2 => ?_)
    · obtain ⟨p2, z1, z2, z3⟩ := hz
      have npz : z.2.T.np = q.2.T.np + 1 := by rw [z2]; rfl
      have iz : z.2.i = q.2.i := by rw [z2]
      have odz : z.2.od = q.2.od := by rw [z2]
      clear z2
      refine nb_t r2.L.fl ?_
      obtain ⟨k1', k2', k3', k4', k5'⟩ := m_Kp h0 r2.L.fr
      have e165 : rI M2 171 l.length = nI q.1 := by rw [s2.1 _ (by omega)]; exact e5
      rw [k5', e165]
      refine ⟨hi, ?_⟩
      refine m_joinF (p := z.1) (c := q.1) h0 r2 (by omega) (fun M3 s3 r3 => ?_)
      have s23 := s2.trans s3
      rw [(m_Kp h0 r3.L.fr).2.2.2.1]
      refine ⟨hi, ?_⟩
      have r3' : RM b n M0 (PS.s_T z.2 ((Txt.s_pj (Txt.s_pf z.2.T (up z.2.T.pf z.1 (some q.1))) (up z.2.T.pj z.1 1)))) (q.2.od + (l.length + 1 - 1)) (opS ((none, oo, (none, some q.1)) :: l) + 0 + 1) M3 := r3.pj
      obtain ⟨y, hy⟩ : ∃ x : PS, x = (PS.s_T z.2 ((Txt.s_pj (Txt.s_pf z.2.T (up z.2.T.pf z.1 (some q.1))) (up z.2.T.pj z.1 1)))) := ⟨_, rfl⟩
      rw [← hy] at r3' p2
      have npy : y.T.np = z.2.T.np := by rw [hy]
      have iy : y.i = z.2.i := by rw [hy]
      have ody : y.od = z.2.od := by rw [hy]
      clear hy r3
      have r4 : RS b n M0 y ((none, oo, (some z.1, some q.1)) :: l) 0 (wI M3 170 l.length (nI z.1)) := by
        refine ⟨RM.eqd (RM.hi r3' (by omega)) (by rw [ody, odz]; rfl) ?_, ?_, ⟨⟨?_, ?_, ?_, ?_, ?_⟩, ⟨fun p hp => (by cases hp), fun p hp => by have := t2 p hp; omega, fun p hp => by have := t3 p hp; omega, fun p hp => by cases hp; omega, fun p hp => by cases hp; omega⟩, SkR.wr (hsk.ks s23 (by omega)) (by omega)⟩, r1.l⟩
        · show 0 + oN oo.1 + 0 + opS l + 0 + 1 = 0 + oN oo.1 + 1 + opS l + 0
          omega
        · rw [rw_n (by omega), s23.2]; exact hh
        · rw [rw_n (by omega), s23.1 _ (by omega)]; exact e1
        · rw [rw_n (by omega), s23.1 _ (by omega)]; exact e2
        · rw [rw_n (by omega), s23.1 _ (by omega)]; exact e3
        · rw [rw_ss]; rfl
        · rw [rw_n (by omega), s23.1 _ (by omega)]; exact e5
      exact m_and1 h0 hG hP hoo hl 400 z.1 q.1 y _ N1 r4 (by omega) (by rw [iy, iz]; exact hN1) (by rw [iy, iz]; exact hk) (by omega) p2
    · refine nb_f f2.ne ?_
      unfold w_Mo_readExpression_J93
      have hli := r1.R.L.li
      obtain ⟨N1, rfl⟩ : ∃ N', N1 = N' + 1 := ⟨N1 - 1, by omega⟩
      exact m_nextF f2 (m_LF f2 (hf.1 M2 f2))
  · rw [if_neg hk] at p1
    exact p1 q.2 (none, oo, (none, some q.1)) M1 N1 rfl rfl (fun z => absurd rfl z) rfl rfl rfl rfl hk hN1 a1'
/-- behind an expression: the frame F is to be ended -/
def No (b : Nat → Nat) (n : Nat) (M0 : aM) (post : Int32 → aM → Prop) (l : List Fr) (q : Nat × PS) : Prop := ∀ (s2 : PS) (F : Fr) (M' : aM) (N' : Nat), F.1 = none → (F.2.1.1 ≠ none → F.2.1.2 ≠ none) → (∃ pa sa, endA F s2 = (some pa, sa)) → endO F s2 = (some q.1, q.2) → s2.i = q.2.i → s2.od = q.2.od → (tkOf b n).k q.2.i ≠ 11 → (tkOf b n).k q.2.i ≠ 10 → (tkOf b n).n ≤ q.2.i + N' → AS b n M0 s2 (F :: l) 0 M' → w_Mo_readExpression_L12 post (N' + 1) 136 0 M'
/-- 'or' stands here, and the joint is there -/
theorem m_or2 {d : Nat} (h0 : TpM b n M0) (hG : Good (fPart (tkOf b n) d)) (hP : Mp b n M0 post (fPart (tkOf b n) d) d) {l : List Fr} (hl : l ≠ [] → wfS l) {nf j last : Nat} (H : ∀ q : Nat × PS, q.2.od + l.length + d = 20 → 400 < nf + q.2.T.np → Ex (No b n M0 post l) (Er b n M0 post) (fMore (tkOf b n) 10 (fJoin (tkOf b n) 11 (fPart (tkOf b n) d)) j nf q.1 (PS.s_T q.2 ((Txt.s_pj (Txt.s_pn q.2.T (up q.2.T.pn last (some q.1))) (up q.2.T.pj j (q.2.T.pj j + 1)))))) → Nx b n M0 post (some j, some last) l q)
    {s : PS} {M : aM} {N : Nat} (r : RS b n M0 s ((none, (some j, some last), (none, none)) :: l) 0 M) (hd : s.od + l.length + d = 20) (hN : (tkOf b n).n ≤ s.i + N) (hk : (tkOf b n).k s.i = 10) (hf : 400 < nf + 1 + s.T.np) (p : Ex (No b n M0 post l) (Er b n M0 post) ((fJoin (tkOf b n) 11 (fPart (tkOf b n) d) s.st).bind (fun q => fMore (tkOf b n) 10 (fJoin (tkOf b n) 11 (fPart (tkOf b n) d)) j nf q.1 (PS.s_T q.2 ((Txt.s_pj (Txt.s_pn q.2.T (up q.2.T.pn last (some q.1))) (up q.2.T.pj j (q.2.T.pj j + 1)))))))) : w_Mo_readExpression_J210 post (w_Mo_readExpression_L12 post N) 136 M := by
  have hli := r.R.L.li
  obtain ⟨N, rfl⟩ : ∃ N', N = N' + 1 := ⟨N - 1, by omega⟩
  unfold w_Mo_readExpression_J210
  refine m_nextS h0 r (by omega) (fun M1 a1 => ?_)
  rcases a1 with r1 | ⟨hb, f1⟩
  · refine m_and h0 hG hP (by simp) hl r1 hd (by show (tkOf b n).n ≤ s.i + 1 + N; omega) ?_
    refine Ex_mono (Ex_and (Ex_bind p) (fJoin_good hG s.st)) (fun q hq => ?_) (fun f hf => hf.1)
    obtain ⟨p1, g1, g2⟩ := hq
    have gn : s.T.np < q.2.T.np := g2.np
    have god : q.2.od = s.od := g2.od
    exact H q (by omega) (by omega) p1
  · have hb2 : (tkOf b n).k s.st.i = 131 := hb
    have p1 := Ex_bind p
    rw [fJoin_bad (fPart_bad d hb2)] at p1
    exact m_LF f1 (p1 M1 f1)
/-- further members of 'or': q is the last member, not yet joined -/
theorem m_or1 {d : Nat} (h0 : TpM b n M0) (hG : Good (fPart (tkOf b n) d)) (hP : Mp b n M0 post (fPart (tkOf b n) d) d) {l : List Fr} (hl : l ≠ [] → wfS l) {j : Nat} :
    ∀ (nf last : Nat) (q : Nat × PS), q.2.od + l.length + d = 20 → 400 < nf + q.2.T.np → Ex (No b n M0 post l) (Er b n M0 post) (fMore (tkOf b n) 10 (fJoin (tkOf b n) 11 (fPart (tkOf b n) d)) j nf q.1 (PS.s_T q.2 ((Txt.s_pj (Txt.s_pn q.2.T (up q.2.T.pn last (some q.1))) (up q.2.T.pj j (q.2.T.pj j + 1)))))) → Nx b n M0 post (some j, some last) l q := by
  -- at the end
  have fin : ∀ (last : Nat) (q : Nat × PS), No b n M0 post l (j, cmpl j (PS.s_T q.2 ((Txt.s_pj (Txt.s_pn q.2.T (up q.2.T.pn last (some q.1))) (up q.2.T.pj j (q.2.T.pj j + 1)))))) → ∀ (s2 : PS) (F : Fr) (M' : aM) (N' : Nat), F.1 = none → F.2.1 = (some j, some last) → (F.2.2.1 ≠ none → F.2.2.2 ≠ none) → endA F s2 = (some q.1, q.2) → s2.i = q.2.i → s2.od = q.2.od → (tkOf b n).k q.2.i ≠ 11 → (tkOf b n).k q.2.i ≠ 10 → (tkOf b n).n ≤ q.2.i + N' → AS b n M0 s2 (F :: l) 0 M' → w_Mo_readExpression_L12 post (N' + 1) 136 0 M' := by
    intro last q p2 s2 F M N hF hoo hwa he hi hod hk hk10 hN a
    have e1 : F.2.1.1 = some j := by rw [hoo]
    have e2 : F.2.1.2 = some last := by rw [hoo]
    refine p2 s2 F M N hF (fun _ => by rw [e2]; simp) ⟨_, _, he⟩ ?_ hi hod hk hk10 hN a
    unfold endO
    rw [e1]
    show (some j, cmpl j (PS.s_T (endA F s2).2 ((Txt.s_pj (Txt.s_pn (endA F s2).2.T (up (endA F s2).2.T.pn (F.2.1.2.getD 0) (endA F s2).1)) (up (endA F s2).2.T.pj j ((endA F s2).2.T.pj j + 1)))))) = _
    rw [he, e2]
    rfl
  intro nf
  induction nf with
  | zero =>
    intro last q hd hf p
    intro s2 F M N hF hoo hwa he hi hod hnp hk hN a
    by_cases hb : (tkOf b n).k q.2.i = 131
    · exact fin last q p s2 F M N hF hoo hwa he hi hod hk (by omega) hN a
    · have r := a.good (by rw [hi]; exact hb)
      have := r.R.T.lnp
      omega
  | succ nf ih =>
    intro last q hd hf p
    intro s2 F M N hF hoo hwa he hi hod hnp hk hN a
    by_cases hk10 : (tkOf b n).k q.2.i = 10
    · rw [fMore, if_pos (by exact hk10)] at p
      have r := a.good (by rw [hi]; omega)
      obtain ⟨⟨g1, g2, g3, g4, g5⟩, ⟨t1, t2, t3, t4, t5⟩, hsk⟩ := r.k
      have hh : rI M 136 40 = nI (l.length + 1) := r.h
      have hlen : l.length + 1 ≤ 21 := r.l
      have lnp := r.R.T.lnp
      obtain ⟨k1, k2, k3, k4, k5⟩ := m_Kp h0 r.R.L.fr
      have hin : vp_in (nI l.length) 24 := vin (by omega)
      have e1 : F.2.1.1 = some j := by rw [hoo]
      have e2 : F.2.1.2 = some last := by rw [hoo]
      have hj := t2 j e1
      have hla := t3 last e2
      have e162 : rI M 168 l.length = nI j := by rw [g2, e1]; rfl
      unfold w_Mo_readExpression_L12
      refine nb_t r.R.L.fl (br_t rfl ?_)
      refine m_isWord (j := 11) h0 r.R.L (by omega) (by omega) ?_
      rw [hi, decide_eq_false hk]
      refine br_t rfl ?_
      refine m_isWord (j := 10) h0 r.R.L (by omega) (by omega) ?_
      rw [hi, decide_eq_true hk10]
      refine br_f (by decide) ?_
      simp (disch := omega) only [Nat.reduceAdd, hh, nI_pred, k2, nI_clamp, e162]
      refine ⟨hin, nb_f (nI_m1 (by omega)) ?_⟩
      refine m_endAnd h0 r hF he (fun M1 r1 => ?_)
      obtain ⟨⟨u1, u2, u3, u4, u5⟩, ⟨v1, v2, v3, v4, v5⟩, hsk1⟩ := r1.k
      have f162 : rI M1 168 l.length = nI j := by have : rI M1 168 l.length = oI F.2.1.1 := u2; rw [this, e1]; rfl
      have f163 : rI M1 169 l.length = nI last := by have : rI M1 169 l.length = oI F.2.1.2 := u3; rw [this, e2]; rfl
      obtain ⟨k1', k2', k3', k4', k5'⟩ := m_Kp h0 r1.R.L.fr
      rw [k2', k3', f162, f163]
      refine ⟨hin, hin, ?_⟩
      have hq1 : q.1 < q.2.T.np := by
        rw [← hnp]
        unfold endA at he
        cases hA : F.2.2.1 with
        | none =>
          rw [hA] at he
          exact t5 q.1 (congrArg Prod.fst he)
        | some j2 =>
          rw [hA] at he
          have e5 : some j2 = some q.1 := congrArg Prod.fst he
          exact t4 q.1 (by rw [hA]; exact e5)
      refine m_joinN (l := last) (c := q.1) h0 r1.R (by rw [← hnp]; exact hla) (fun M2 s2' r2 => ?_)
      rw [(m_Kp h0 r2.L.fr).2.2.1]
      refine ⟨hin, ?_⟩
      refine m_or2 h0 hG hP hl (H := fun q' h1 h2 h3 => ih q.1 q' h1 h2 h3) (s := (PS.s_T q.2 ((Txt.s_pj (Txt.s_pn q.2.T (up q.2.T.pn last (some q.1))) (up q.2.T.pj j (q.2.T.pj j + 1)))))) ?_ hd hN hk10 (by show 400 < nf + 1 + q.2.T.np; omega) p
      refine ⟨RM.eqd (RM.hi (RM.pj r2) (by omega)) rfl ?_, ?_, ⟨⟨?_, ?_, ?_, ?_, ?_⟩, ⟨fun p hp => (by cases hp), fun p hp => by cases hp; show j < q.2.T.np; rw [← hnp]; exact hj, fun p hp => by cases hp; exact hq1, fun p hp => (by cases hp), fun p hp => (by cases hp)⟩, SkR.wr (hsk1.ks s2' (Nat.le_refl _)) (by omega)⟩, r.l⟩
      · show 0 + oN F.2.1.1 + 0 + opS l + 0 = 0 + 1 + 0 + opS l + 0
        rw [e1]
        rfl
      · rw [rw_n (by omega), s2'.2]; exact r1.h
      · rw [rw_n (by omega), s2'.1 _ (by omega)]; exact u1
      · rw [rw_n (by omega), s2'.1 _ (by omega), f162]; rfl
      · rw [rw_ss]; rfl
      · rw [rw_n (by omega), s2'.1 _ (by omega)]; exact u4
      · rw [rw_n (by omega), s2'.1 _ (by omega)]; exact u5
    · rw [fMore, if_neg (by exact hk10)] at p
      exact fin last q p s2 F M N hF hoo hwa he hi hod hk hk10 hN a
/-- a whole expression, in its own frame -/
theorem m_or {d : Nat} (h0 : TpM b n M0) (hG : Good (fPart (tkOf b n) d)) (hP : Mp b n M0 post (fPart (tkOf b n) d) d) {l : List Fr} (hl : l ≠ [] → wfS l) {s : PS} {M : aM} {N : Nat} (h : RS b n M0 s (fr0 :: l) 0 M) (hd : s.od + l.length + d = 20) (hN : (tkOf b n).n ≤ s.i + N) (p : Ex (No b n M0 post l) (Er b n M0 post) (fOr (tkOf b n) (fPart (tkOf b n) d) s)) : w_Mo_readExpression_L12 post (N + 1) 136 1 M := by
  refine m_and (oo := (none, none)) h0 hG hP (fun z => absurd rfl z) hl h hd hN ?_
  unfold fOr at p
  rw [fJoin] at p
  refine Ex_mono (Ex_and (Ex_bind p) (fJoin_good hG s)) (fun q hq => ?_) (fun f hf => hf.1)
  obtain ⟨p1, g1, g2⟩ := hq
  have god : q.2.od = s.od := g2.od
  intro s2 F M1 N1 hF hoo hwa he hi hod hnp hk hN1 a
  have e1 : F.2.1.1 = none := by rw [hoo]
  by_cases hk10 : (tkOf b n).k q.2.i = 10
  · rw [if_pos hk10] at p1
    have r := a.good (by rw [hi]; omega)
    obtain ⟨⟨g1', g2', g3', g4', g5'⟩, ⟨t1, t2, t3, t4, t5⟩, hsk⟩ := r.k
    have hh : rI M1 136 40 = nI (l.length + 1) := r.h
    have hlen : l.length + 1 ≤ 21 := r.l
    have lnp := r.R.T.lnp
    obtain ⟨k1, k2, k3, k4, k5⟩ := m_Kp h0 r.R.L.fr
    have hin : vp_in (nI l.length) 24 := vin (by omega)
    have e162 : rI M1 168 l.length = -1 := by rw [g2', e1]; rfl
    unfold w_Mo_readExpression_L12
    refine nb_t r.R.L.fl (br_t rfl ?_)
    refine m_isWord (j := 11) h0 r.R.L (by omega) (by omega) ?_
    rw [hi, decide_eq_false hk]
    refine br_t rfl ?_
    refine m_isWord (j := 10) h0 r.R.L (by omega) (by omega) ?_
    rw [hi, decide_eq_true hk10]
    refine br_f (by decide) ?_
    simp (disch := omega) only [Nat.reduceAdd, hh, nI_pred, k2, nI_clamp, e162]
    refine ⟨hin, nb_t trivial ?_⟩
    refine m_newPart (kd := 10) h0 r.R (by omega) ?_
    by_cases h400 : 400 ≤ s2.T.np
    · rw [fPart1, if_pos (by rw [← hnp]; exact h400)] at p1
      rw [fPart1, if_pos h400]
      intro M2 f2
      have e5 : rf (tkOf b n) 5 s2 = rf (tkOf b n) 5 q.2 := by rw [rf, rf, hi]
      rw [e5] at f2
      refine nb_f f2.ne ?_
      unfold w_Mo_readExpression_J145
      refine nb_f f2.ne ?_
      unfold w_Mo_readExpression_J178 w_Mo_readExpression_J210
      have hli := r.R.L.li
      obtain ⟨N1, rfl⟩ : ∃ N', N1 = N' + 1 := ⟨N1 - 1, by omega⟩
      exact m_nextF f2 (m_LF f2 (p1 M2 f2))
    · rw [fPart1, if_neg (by rw [← hnp]; exact h400)] at p1
      rw [fPart1, if_neg h400]
      intro M2 ks2 r2
      obtain ⟨y, hy⟩ : ∃ x : PS, x = (PS.s_T s2 (addPt s2.T 10)) := ⟨_, rfl⟩
      obtain ⟨y', hy'⟩ : ∃ x : PS, x = (PS.s_T q.2 (addPt q.2.T 10)) := ⟨_, rfl⟩
      have r2a : RM b n M0 (PS.s_T s2 (addPt s2.T 10)) (s2.od + (l.length + 1 - 1)) (opS (F :: l) + 0 + 1) M2 := r2
      rw [← hy] at r2a
      have npy : y.T.np = s2.T.np + 1 := by rw [hy]; rfl
      have ody : y.od = s2.od := by rw [hy]
      have npy' : y'.T.np = q.2.T.np + 1 := by rw [hy']; rfl
      have iy' : y'.i = q.2.i := by rw [hy']
      have ody' : y'.od = q.2.od := by rw [hy']
      have r2' : RS b n M0 y (F :: l) 1 M2 := ⟨RM.eqd r2a (by rw [ody]; rfl) rfl, by rw [ks2.2]; exact hh, r.k.ks ks2 (by omega), r.l⟩
      refine nb_t r2.L.fl ?_
      have he2 : endA F y = (some q.1, y') := by
        unfold endA at he ⊢
        cases hA : F.2.2.1 with
        | none =>
          rw [hA] at he
          have h1 : F.2.2.2 = some q.1 := congrArg Prod.fst he
          have h2 : s2 = q.2 := congrArg Prod.snd he
          show (F.2.2.2, y) = _
          rw [h1, hy, hy', h2]
        | some j2 =>
          rw [hA] at he
          have h1 : some j2 = some q.1 := congrArg Prod.fst he
          have h2 : cmpl j2 s2 = q.2 := congrArg Prod.snd he
          show (some j2, cmpl j2 y) = _
          rw [h1, hy, hy', ← h2, cmpl_add]
      have p2 : Ex (No b n M0 post l) (Er b n M0 post) (fMore (tkOf b n) 10 (fJoin (tkOf b n) 11 (fPart (tkOf b n) d)) q.2.T.np 400 q.1 (PS.s_T (y') ((Txt.s_pj (Txt.s_pf (y'.T) (up y'.T.pf q.2.T.np (some q.1))) (up y'.T.pj q.2.T.np 1))))) := by
        rw [hy']
        exact p1
      clear hy hy' p1 r2
      refine m_endAnd h0 r2' hF he2 (fun M3 r3 => ?_)
      obtain ⟨⟨u1, u2, u3, u4, u5⟩, ⟨v1, v2, v3, v4, v5⟩, hsk3⟩ := r3.k
      have hq1 : q.1 < q.2.T.np := g1
      unfold w_Mo_readExpression_J145
      refine nb_t r3.R.L.fl ?_
      show w_Mo_join _ 136 (nI s2.T.np) (-1) (nI q.1) M3
      rw [hnp]
      refine m_joinF (p := q.2.T.np) (c := q.1) h0 r3.R (by omega) (fun M4 ks4 r4 => ?_)
      obtain ⟨k1', k2', k3', k4', k5'⟩ := m_Kp h0 r4.L.fr
      simp (disch := omega) only [Nat.reduceAdd, k2', k3', nI_clamp]
      refine ⟨hin, hin, ?_⟩
      unfold w_Mo_readExpression_J178
      have r4' : RM b n M0 (PS.s_T (y') ((Txt.s_pj (Txt.s_pf (y'.T) (up y'.T.pf q.2.T.np (some q.1))) (up y'.T.pj q.2.T.np 1)))) (y'.od + (l.length + 1 - 1)) (opS ((none, F.2.1, (none, none)) :: l) + 1) M4 := r4.pj
      obtain ⟨w, hw⟩ : ∃ x : PS, x = (PS.s_T (y') ((Txt.s_pj (Txt.s_pf (y'.T) (up y'.T.pf q.2.T.np (some q.1))) (up y'.T.pj q.2.T.np 1)))) := ⟨_, rfl⟩
      rw [← hw] at r4' p2
      have npw : w.T.np = y'.T.np := by rw [hw]
      have iw : w.i = y'.i := by rw [hw]
      have odw : w.od = y'.od := by rw [hw]
      clear hw r4
      have hkw : (tkOf b n).k w.i = 10 := by rw [iw, iy']; exact hk10
      rw [fMore, if_pos hkw] at p2
      refine m_or2 h0 hG hP hl (H := fun q' h1 h2 h3 => m_or1 h0 hG hP hl 399 q.1 q' h1 h2 h3) (s := w) ?_ (by omega) (by rw [iw, iy']; exact hN1) hkw (by omega) p2
      refine ⟨RM.eqd (RM.hi (RM.hi r4' (by omega)) (by omega)) (by rw [odw]; rfl) ?_, ?_, ⟨⟨?_, ?_, ?_, ?_, ?_⟩, ⟨fun p hp => (by cases hp), fun p hp => by cases hp; omega, fun p hp => by cases hp; omega, fun p hp => (by cases hp), fun p hp => (by cases hp)⟩, SkR.wr (SkR.wr (hsk3.ks ks4 (by omega)) (by omega)) (by omega)⟩, r.l⟩
      · show 0 + oN F.2.1.1 + 0 + opS l + 1 = 0 + 1 + 0 + opS l + 0
        rw [e1]
        show 0 + 0 + 0 + opS l + 1 = 0 + 1 + 0 + opS l + 0
        omega
      · rw [rw_n (by omega), rw_n (by omega), ks4.2]; exact r3.h
      · rw [rw_n (by omega), rw_n (by omega), ks4.1 _ (by omega)]; exact u1
      · rw [rw_n (by omega), rw_ss]; rfl
      · rw [rw_ss]; rfl
      · rw [rw_n (by omega), rw_n (by omega), ks4.1 _ (by omega)]; exact u4
      · rw [rw_n (by omega), rw_n (by omega), ks4.1 _ (by omega)]; exact u5
  · rw [if_neg hk10] at p1
    refine p1 s2 F M1 N1 hF (fun z => absurd e1 z) ⟨_, _, he⟩ ?_ hi hod hk hk10 hN1 a
    unfold endO
    rw [e1]
    exact he
/-- the depth is counted up -/
theorem m_open {post : aM → Prop} {s : PS} {σ : List Fr} {d o : Nat} {M : aM} (h0 : TpM b n M0) (h : RM b n M0 s d o M) (p1 : d < 20 → ∀ M', Ks M M' → RM b n M0 s (d + 1) o M' → post M') (p2 : d = 20 → ∀ M', FM b n M0 (rfi (tkOf b n) 5 s.i) M' → post M') : w_Mo_open post 136 M := by
  have ld := h.ld
  unfold w_Mo_open
  refine nb_t h.L.fl ?_
  refine pk_ne d 20 (fun z => ?_) (fun z => ?_) h.dp
  · unfold w_Mo_open_J22
    rw [h.dp, nI_1]
    exact p1 (by omega) _ (Ks.refl.w (by omega)) (RM.w39 h (by omega))
  · refine m_bad h0 h.L (fun M1 f1 => ?_)
    unfold w_Mo_open_J22
    exact p2 z _ (f1.w (by unfold dLo; omega) (by omega))
theorem m_part (h0 : TpM b n M0) : ∀ d, d ≤ 20 → Mp b n M0 post (fPart (tkOf b n) d) d := by
  -- constants, tests, and what is none of them
  have rest : ∀ (σ : List Fr) (s : PS) (M : aM) (N : Nat), RS b n M0 s σ 0 M → wfS σ → (tkOf b n).n ≤ s.i + (N + 1) → (tkOf b n).k s.i ≠ 12 → (tkOf b n).k s.i ≠ 40 → Ex (fun q => ∀ M' N', (tkOf b n).n ≤ q.2.i + N' → AS b n M0 (giveS q.1 σ q.2).2 (giveS q.1 σ q.2).1 0 M' → w_Mo_readExpression_L12 post (N' + 1) 136 0 M') (fun f => ∀ M', FM b n M0 f M' → post (-1) M') (if (tkOf b n).k s.i = 13 ∨ (tkOf b n).k s.i = 14 ∨ (tkOf b n).k s.i = 15 then fConst (tkOf b n) s else if (tkOf b n).k s.i = 128 then fTest (tkOf b n) s else .error (rf (tkOf b n) 2 s)) → w_Mo_among (fun x3 => ((x3 = ((-1 : Int32))) → w_Mo_isName (fun x4 => w_Mo_need (fun M5 => ((¬ (rI M5 136 38) = ((-1 : Int32))) → (((0 : Int32)) = 0 ∨ ((0 : Int32)) = 1) ∧ w_Mo_readExpression_L12 post (N + 1) 136 ((0 : Int32)) M5) ∧ (¬ (¬ (rI M5 136 38) = ((-1 : Int32))) → w_Mo_readTest (fun M6 => (((0 : Int32)) = 0 ∨ ((0 : Int32)) = 1) ∧ w_Mo_readExpression_L12 post (N + 1) 136 ((0 : Int32)) M6) 136 M5)) 136 x4 M) 136 M) ∧ (¬ (x3 = ((-1 : Int32))) → w_Mo_newPart (fun x7 M7 => ((¬ (rI M7 136 38) = ((-1 : Int32))) → w_Mo_readPart_J109 (fun x15 M15 => w_Mo_readExpression_L12 post (N + 1) 136 x15 M15) 136 M7) ∧ (¬ (¬ (rI M7 136 38) = ((-1 : Int32))) → w_Mo_complete (fun M8 => w_Mo_give (fun M9 => w_Mo_readPart_J109 (fun x15 M15 => w_Mo_readExpression_L12 post (N + 1) 136 x15 M15) 136 M9) 136 x7 M8) 136 x7 M7)) 136 x3 M)) 136 22 M := by
    intro σ s M N h hw hN n12 n40 p
    refine m_among am54 h0 h.R.L (fun m hm hc => ?_) (fun hc => ?_)
    · rw [if_pos (by omega)] at p
      have hm3 : m = 0 ∨ m = 1 ∨ m = 2 := by omega
      refine br_f (nI_m1 (by omega)) ?_
      unfold fConst at p
      have hmk : nI m = nI (mkK ((tkOf b n).k s.i)) := by
        rw [hc]
        rcases hm3 with rfl | rfl | rfl <;> rfl
      refine m_newPart (kd := (tkOf b n).k s.i) h0 h.R (by omega) ?_ hmk
      refine Ex_mono (Ex_and (Ex_bind p) (fPart1_ad ((tkOf b n).k s.i) s)) (fun q hq M1 ks1 r1 => ?_) (fun f hf M1 f1 => ?_)
      · obtain ⟨p1, q1, q2, q3⟩ := hq
        refine nb_t r1.L.fl ?_
        have r1' : RM b n M0 (PS.s_T s (addPt s.T ((tkOf b n).k s.i))) (s.od + (σ.length - 1)) (opS σ + 0 + 1) M1 := by rw [q2] at r1; exact r1
        rw [q1, q2] at p1
        rw [q1]
        refine m_complete (p := s.T.np) (o := opS σ + 0) h0 r1' (fun M2 ks2 r2 => ?_)
        have ks12 := ks1.trans ks2
        refine m_give (p := s.T.np) (e := 0) (σ := σ) h0 ⟨r2, by rw [ks12.2]; exact h.h, h.k.ks ks12 (Nat.le_succ _), h.l⟩ hw (Nat.lt_succ_self _) (fun M3 r3 => ?_)
        unfold w_Mo_readPart_J109
        have gi := giveS_i σ (cmpl s.T.np (PS.s_T s (addPt s.T ((tkOf b n).k s.i)))) s.T.np
        have hi3 : (giveS s.T.np σ (cmpl s.T.np (PS.s_T s (addPt s.T ((tkOf b n).k s.i))))).2.i = s.i := gi.1
        refine m_nextS h0 r3 (by rw [hi3]; omega) (fun M4 a4 => ⟨Or.inl rfl, ?_⟩)
        refine p1 M4 N (by show (tkOf b n).n ≤ s.i + 1 + N; omega) ?_
        have e := giveS_st σ (cmpl s.T.np (PS.s_T s (addPt s.T ((tkOf b n).k s.i)))) s.T.np
        have e2 : cmpl s.T.np (((PS.s_T s (addPt s.T ((tkOf b n).k s.i))) : PS)).st = (cmpl s.T.np (PS.s_T s (addPt s.T ((tkOf b n).k s.i)))).st := rfl
        rw [e2, e]
        exact a4
      · refine nb_f f1.ne ?_
        unfold w_Mo_readPart_J109
        exact m_nextF f1 ⟨Or.inl rfl, m_LF f1 (hf.1 M1 f1)⟩
    · refine br_t rfl ?_
      rw [if_neg (by omega)] at p
      refine m_isName h0 h.R.L ?_
      refine m_need h0 h.R.L (fun z => ?_) (fun z M1 f1 => ?_)
      · have z' : (tkOf b n).k s.i = 128 := of_decide_eq_true z
        rw [if_pos z'] at p
        refine nb_t h.R.L.fl ?_
        refine m_test h0 h hw z' ?_
        refine Ex_mono (Ex_and p (fTest_good s)) (fun q hq M1 a1 => ⟨Or.inl rfl, ?_⟩) (fun f hf M1 f1 => ⟨Or.inl rfl, m_LF f1 (hf.1 M1 f1)⟩)
        have gi : s.i < q.2.i := hq.2.2.i
        exact hq.1 M1 N (by omega) a1
      · have z' : (tkOf b n).k s.i ≠ 128 := of_decide_eq_false z
        rw [if_neg z'] at p
        exact nb_f f1.ne ⟨Or.inl rfl, m_LF f1 (p M1 f1)⟩
  intro d
  induction d with
  | zero =>
    intro hd σ s M N h hw hdp hN p
    have hli := h.R.L.li
    obtain ⟨N, rfl⟩ : ∃ N', N = N' + 1 := ⟨N - 1, by omega⟩
    unfold w_Mo_readExpression_L12
    refine nb_t h.R.L.fl (br_f (by decide) ?_)
    unfold w_Mo_readPart
    rw [fPart] at p
    refine m_isWord (j := 12) h0 h.R.L (by omega) (by omega) ?_
    by_cases g12 : (tkOf b n).k s.i = 12
    · rw [if_pos (Or.inl g12)] at p
      rw [decide_eq_true g12]
      refine br_f (by decide) ?_
      refine m_open (σ := σ) h0 h.R (fun z => by omega) (fun _ M1 f1 => ?_)
      refine m_newPartF f1 (nb_f f1.ne ?_)
      unfold w_Mo_readPart_J34
      exact m_nextF f1 ⟨Or.inr rfl, m_LF f1 (p M1 f1)⟩
    · rw [decide_eq_false g12]
      refine br_t rfl ?_
      refine m_is h0 h.R.L (c := 40) rfl ?_
      by_cases g40 : (tkOf b n).k s.i = 40
      · rw [if_pos (Or.inr g40)] at p
        rw [decide_eq_true g40]
        refine br_f (by decide) ?_
        refine m_open (σ := σ) h0 h.R (fun z => by omega) (fun _ M1 f1 => ?_)
        refine nb_f f1.ne ?_
        unfold w_Mo_readPart_J66
        exact m_nextF f1 ⟨Or.inr rfl, m_LF f1 (p M1 f1)⟩
      · rw [if_neg (by omega)] at p
        rw [decide_eq_false g40]
        refine br_t rfl ?_
        exact rest σ s M N h hw (by omega) g12 g40 p
  | succ d ih =>
    intro hd σ s M N h hw hdp hN p
    have hli := h.R.L.li
    have hG : Good (fPart (tkOf b n) d) := fPart_good d
    have hP := ih (by omega)
    have hσ : σ ≠ [] := by
      intro z
      rw [z] at hw
      exact hw
    have hσ1 : 1 ≤ σ.length := by
      cases σ with
      | nil => exact absurd rfl hσ
      | cons _ _ => exact Nat.succ_le_succ (Nat.zero_le _)
    have hl21 : σ.length ≤ 20 := by omega
    obtain ⟨N, rfl⟩ : ∃ N', N = N' + 1 := ⟨N - 1, by omega⟩
    unfold w_Mo_readExpression_L12
    refine nb_t h.R.L.fl (br_f (by decide) ?_)
    unfold w_Mo_readPart
    rw [fPart] at p
    refine m_isWord (j := 12) h0 h.R.L (by omega) (by omega) ?_
    by_cases g12 : (tkOf b n).k s.i = 12
    · rw [if_pos g12] at p
      rw [decide_eq_true g12]
      refine br_f (by decide) ?_
      refine m_open (σ := σ) h0 h.R (fun _ M1 ks1 r1 => ?_) (fun z => by omega)
      refine m_newPart (kd := 12) h0 r1 (by omega) ?_
      refine Ex_mono (Ex_and (Ex_bind p) (fPart1_ad 12 s)) (fun q hq M2 ks2 r2 => ?_) (fun f hf M2 f2 => ?_)
      · obtain ⟨p1, q1, q2, q3⟩ := hq
        have ks12 := ks1.trans ks2
        have r2' : RM b n M0 (PS.s_T s (addPt s.T 12)) (s.od + (σ.length - 1) + 1) (opS σ + 0 + 1) M2 := by rw [q2] at r2; exact r2
        rw [q1, q2] at p1
        rw [q1]
        refine nb_t r2.L.fl ?_
        refine m_pile (w := some s.T.np) (e := 0) (σ := σ) h0 r2' (by rw [ks12.2]; exact h.h) (h.k.ks ks12 (Nat.le_succ _)) hl21 (fun p hp => by cases hp; exact Nat.lt_succ_self _) (by show s.od + (σ.length - 1) + 1 = s.od + σ.length; omega) (by show 1 + 0 + 0 + opS σ + 0 ≤ opS σ + 0 + 1; omega) (fun M3 r3 => ?_)
        unfold w_Mo_readPart_J34
        refine m_nextS h0 r3 (by show (tkOf b n).k s.i ≠ 130; omega) (fun M4 a4 => ⟨Or.inr rfl, ?_⟩)
        have wf3 : wfS ((some s.T.np, (none, none), (none, none)) :: σ) := ⟨fun z => absurd z hσ, fun _ => hw, fun _ => rfl, fun z => absurd rfl z, fun z => absurd rfl z⟩
        rcases a4 with r4 | ⟨hb4, f4⟩
        · refine hP _ _ M4 N r4 wf3 (by show s.od + (σ.length + 1 - 1) + d = 20; omega) (by show (tkOf b n).n ≤ s.i + 1 + N; omega) ?_
          refine Ex_mono (Ex_bind p1) (fun z hz M5 N5 hN5 a5 => ?_) (fun f hf => hf)
          exact hz M5 N5 hN5 a5
        · have p2 := Ex_bind p1
          rw [fPart_bad d hb4] at p2
          exact m_LF f4 (p2 M4 f4)
      · refine nb_f f2.ne ?_
        unfold w_Mo_readPart_J34
        exact m_nextF f2 ⟨Or.inr rfl, m_LF f2 (hf.1 M2 f2)⟩
    · rw [if_neg g12] at p
      rw [decide_eq_false g12]
      refine br_t rfl ?_
      refine m_is h0 h.R.L (c := 40) rfl ?_
      by_cases g40 : (tkOf b n).k s.i = 40
      · rw [if_pos g40] at p
        rw [decide_eq_true g40]
        refine br_f (by decide) ?_
        refine m_open (σ := σ) h0 h.R (fun _ M1 ks1 r1 => ?_) (fun z => by omega)
        refine nb_t r1.L.fl ?_
        refine m_pile (w := none) (e := 0) (σ := σ) h0 r1 (by rw [ks1.2]; exact h.h) (h.k.ks ks1 (Nat.le_refl _)) hl21 (fun p hp => by cases hp) (by show s.od + (σ.length - 1) + 1 = s.od + σ.length; omega) (by show 0 + 0 + 0 + opS σ + 0 ≤ opS σ + 0; omega) (fun M3 r3 => ?_)
        unfold w_Mo_readPart_J66
        refine m_nextS h0 r3 (by omega) (fun M4 a4 => ⟨Or.inr rfl, ?_⟩)
        rcases a4 with r4 | ⟨hb4, f4⟩
        · refine m_or h0 hG hP (fun _ => hw) (l := σ) (s := s.st) (N := N) r4 (by show s.od + σ.length + d = 20; omega) (by show (tkOf b n).n ≤ s.i + 1 + N; omega) ?_
          refine Ex_mono (Ex_and (Ex_bind p) (fJoin_good (fJoin_good hG) s.st)) (fun q hq => ?_) (fun f hf => hf.1)
          obtain ⟨p1, g1, g2⟩ := hq
          have god : q.2.od = s.od := g2.od
          intro s2 F M5 N5 hF hw5 ha5 he5 hi5 hod5 hk11 hk10 hN5 a5
          by_cases hb5 : (tkOf b n).k q.2.i = 131
          · have f5 := a5.bad (by rw [hi5]; exact hb5)
            rw [req, if_neg (by omega), rf, rf_bad hb5] at p1
            rw [hi5] at f5
            exact m_LF f5 (p1 M5 f5)
          · have r5 := a5.good (by rw [hi5]; exact hb5)
            have hli5 := r5.R.L.li
            rw [hi5] at hli5
            obtain ⟨N5, rfl⟩ : ∃ N', N5 = N' + 1 := ⟨N5 - 1, by omega⟩
            have hh5 : rI M5 136 40 = nI (σ.length + 1) := r5.h
            unfold w_Mo_readExpression_L12
            refine nb_t r5.R.L.fl (br_t rfl ?_)
            refine m_isWord (j := 11) h0 r5.R.L (by omega) (by omega) ?_
            rw [hi5, decide_eq_false hk11]
            refine br_t rfl ?_
            refine m_isWord (j := 10) h0 r5.R.L (by omega) (by omega) ?_
            rw [hi5, decide_eq_false hk10]
            refine br_t rfl ?_
            refine pk_le (σ.length + 1) 1 (fun z => by omega) (fun _ => ?_) hh5
            refine m_is h0 r5.R.L (c := 41) rfl ?_
            rw [hi5]
            refine m_need h0 r5.R.L (fun z => ?_) (fun z M6 f6 => ?_)
            · have z' : (tkOf b n).k q.2.i = 41 := of_decide_eq_true z
              rw [req, if_pos z'] at p1
              refine nb_t r5.R.L.fl ?_
              refine m_endOr h0 r5 hF hw5 ha5 he5 (fun M6 r6 hh6 hsk6 => ?_)
              have h39 : rI M6 136 39 = nI (q.2.od + σ.length) := r6.dp
              have ld6 := r6.ld
              rw [hh6, nI_pred, rw_sn (show 39 ≠ 40 by omega), h39, show nI (q.2.od + σ.length) - 1 = nI (q.2.od + (σ.length - 1)) by rw [show q.2.od + σ.length = (q.2.od + (σ.length - 1)) + 1 by omega, nI_pred]]
              refine m_give (p := q.1) (e := 0) (σ := σ) (s := q.2) h0 ⟨RM.w39 (RM.w40 r6) (by omega), by rw [rw_sn (by omega), rw_ss], SkR.wr (SkR.wr hsk6 (by omega)) (by omega), by omega⟩ hw g1 (fun M7 r7 => ?_)
              have gi := giveS_i σ q.2 q.1
              refine m_nextS h0 r7 (by rw [gi.1]; omega) (fun M8 a8 => ?_)
              refine p1 M8 N5 (by show (tkOf b n).n ≤ q.2.i + 1 + N5; omega) ?_
              have e := giveS_st σ q.2 q.1
              show AS b n M0 (giveS q.1 σ q.2.st).2 (giveS q.1 σ q.2.st).1 0 M8
              rw [e]
              exact a8
            · have z' : (tkOf b n).k q.2.i ≠ 41 := of_decide_eq_false z
              rw [req, if_neg z'] at p1
              rw [hi5] at f6
              exact nb_f f6.ne (m_LF f6 (p1 M6 f6))
        · have hb4' : (tkOf b n).k s.st.i = 131 := hb4
          have p2 := Ex_bind p
          rw [fOr, fJoin_bad (fJoin_bad (fPart_bad d hb4'))] at p2
          exact m_LF f4 (p2 M4 f4)
      · rw [if_neg g40] at p
        rw [decide_eq_false g40]
        refine br_t rfl ?_
        exact rest σ s M N h hw (by omega) g12 g40 p
/-- an expression as the model reads it -/
theorem m_expr {s : PS} {d : Nat} {M : aM} (h0 : TpM b n M0) (a : AM b n M0 s s.od 0 M) (hd : d + s.od = 20) (p : Ex (fun q => ∀ x M', AM b n M0 q.2 q.2.od 0 M' → ((tkOf b n).k q.2.i ≠ 131 → x = nI q.1) → post x M') (fun f => ∀ M', FM b n M0 f M' → post (-1) M') (fOr (tkOf b n) (fPart (tkOf b n) d) s)) : w_Mo_readExpression post 136 M := by
  unfold w_Mo_readExpression
  rcases a with r | ⟨hb, f⟩
  · have r1 := RM.w40 (x := 0) r
    refine m_pile (w := none) (e := 0) (σ := []) h0 r1 (by rw [rw_ss]; rfl) trivial (by show 0 ≤ 20; omega) (fun p hp => by cases hp) rfl (by show 0 + 0 + 0 + 0 + 0 ≤ 0; omega) (fun M2 r2 => ?_)
    have hli := r.L.li
    refine ⟨(tkOf b n).n - s.i + 1, ?_⟩
    refine m_or h0 (fPart_good d) (m_part h0 d (by omega)) (fun z => absurd rfl z) (l := []) (s := s) r2 (by show s.od + 0 + d = 20; omega) (by omega) ?_
    refine Ex_mono (Ex_and p (fJoin_good (fJoin_good (fPart_good d)) s)) (fun q hq => ?_) (fun f hf => hf.1)
    obtain ⟨p1, g1, g2⟩ := hq
    intro s2 F M5 N5 hF hw5 ha5 he5 hi5 hod5 hk11 hk10 hN5 a5
    by_cases hb5 : (tkOf b n).k q.2.i = 131
    · have f5 := a5.bad (by rw [hi5]; exact hb5)
      rw [hi5] at f5
      exact m_LF f5 (p1 (-1) M5 (Or.inr ⟨hb5, f5⟩) (fun z => absurd hb5 z))
    · have r5 := a5.good (by rw [hi5]; exact hb5)
      have hh5 : rI M5 136 40 = nI 1 := r5.h
      unfold w_Mo_readExpression_L12
      refine nb_t r5.R.L.fl (br_t rfl ?_)
      refine m_isWord (j := 11) h0 r5.R.L (by omega) (by omega) ?_
      rw [hi5, decide_eq_false hk11]
      refine br_t rfl ?_
      refine m_isWord (j := 10) h0 r5.R.L (by omega) (by omega) ?_
      rw [hi5, decide_eq_false hk10]
      refine br_t rfl ?_
      refine pk_le 1 1 (fun _ => ?_) (fun z => by omega) hh5
      refine m_endOr h0 r5 hF hw5 ha5 he5 (fun M6 r6 hh6 hsk6 => ?_)
      exact p1 _ M6 (Or.inl r6) (fun _ => rfl)
  · -- the token behind 'for' is none
    have p1 := p
    rw [fOr, fJoin_bad (fJoin_bad (fPart_bad d hb))] at p1
    have fw : ∀ {M' : aM} {k j : Nat} {x : Int32}, FM b n M0 (1, (tkOf b n).pl s.i) M' → dLo k j → (k = 136 → 39 ≤ j) → FM b n M0 (1, (tkOf b n).pl s.i) (wI M' k j x) := fun h h1 h2 => h.w h1 h2
    obtain ⟨k1, k2, k3, k4, k5⟩ := m_Kp h0 f.fr
    have i0 : vp_in 0 24 := pk_in 0 24 (by omega)
    unfold w_Mo_pile
    simp (disch := omega) only [w_Mo_pile_J10, w_Mo_pile_J20, w_Mo_pile_J30, w_Mo_pile_J40, w_Mo_pile_J50, Nat.reduceAdd, kw_I, k1, k2, k3, k4, k5, rw_n, rw_ss]
    have f2 := fw (x := (0 : Int32) + 1) (fw (k := 171) (j := (0 : Int32).toNatClampNeg) (x := -1) (fw (k := 170) (j := (0 : Int32).toNatClampNeg) (x := -1) (fw (k := 169) (j := (0 : Int32).toNatClampNeg) (x := -1) (fw (k := 168) (j := (0 : Int32).toNatClampNeg) (x := -1) (fw (k := 167) (j := (0 : Int32).toNatClampNeg) (x := -1) (fw (k := 136) (j := 40) (x := 0) f (by unfold dLo; omega) (by omega)) (by unfold dLo; omega) (by omega)) (by unfold dLo; omega) (by omega)) (by unfold dLo; omega) (by omega)) (by unfold dLo; omega) (by omega)) (by unfold dLo; omega) (by omega)) (k := 136) (j := 40) (by unfold dLo; omega) (by omega)
    refine ⟨i0, i0, i0, i0, i0, 1, m_LF f2 (p1 _ f2)⟩
end ME
