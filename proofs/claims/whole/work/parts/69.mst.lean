/-! THE MODEL'S READER, I: where it stands; names, nodes, parts, duties. -/
theorem a800 (p : Nat) : (800 : Int32) + nI p = nI (800 + p) := nI_add 800 p
theorem a200 (p : Nat) : (200 : Int32) + nI p = nI (200 + p) := nI_add 200 p
theorem a16 (p : Nat) : (16 : Int32) + nI p = nI (16 + p) := nI_add 16 p
theorem a8 (p : Nat) : (8 : Int32) + nI p = nI (8 + p) := nI_add 8 p
theorem cl2 : ((2 : Int32)).toNatClampNeg = 2 := rfl
theorem m200 (p : Nat) : nI (200 + p) - 200 = nI p := by
  have := pk_sub (a := 200 + p) (b := 200) (by omega)
  rw [show 200 + p - 200 = p by omega] at this
  exact this
theorem m800 (p : Nat) : nI (800 + p) - 800 = nI p := by
  have := pk_sub (a := 800 + p) (b := 800) (by omega)
  rw [show 800 + p - 800 = p by omega] at this
  exact this
theorem n216 (p : Nat) : (108 : Int32) * 2 + nI p = nI (216 + p) := by
  rw [show (108 : Int32) * 2 = nI 216 from rfl, nI_add]
/-- the pile and its height are as they were -/
def Ks (M M' : aM) : Prop := (∀ k, 167 ≤ k → rI M' k = rI M k) ∧ rI M' 136 40 = rI M 136 40
theorem Ks.refl {M : aM} : Ks M M := ⟨fun _ _ => rfl, rfl⟩
theorem Ks.trans {M M' M2 : aM} (h : Ks M M') (h2 : Ks M' M2) : Ks M M2 := ⟨fun k hk => (h2.1 k hk).trans (h.1 k hk), h2.2.trans h.2⟩
theorem Ks.w {M M' : aM} (h : Ks M M') {k j : Nat} {x : Int32} (hk : k < 167 ∧ (k = 136 → j ≠ 40)) : Ks M (wI M' k j x) :=
  ⟨fun k' hk' => (rw_n (by omega)).trans (h.1 k' hk'), by rw [rw_e, if_neg (by omega)]; exact h.2⟩
theorem FT.ks {M M' : aM} (h : FT M M') : Ks M M' := ⟨fun k hk => h.2.2.2.1 k (by omega), h.2.2.2.2 40 (by omega)⟩
/-- the model stands where the function stands; d: how deep, o: parts that are open -/
def RM (b : Nat → Nat) (n : Nat) (M0 : aM) (s : PS) (d o : Nat) (M : aM) : Prop := (LM b n M0 s.i M) ∧ (RepM (mR M 2) s.T (fun _ => 0)) ∧ (rI M 136 39 = nI d) ∧ (d ≤ 20) ∧ (s.T.dn.length + o ≤ s.T.np) ∧ (∀ a, s.os = some a → a < s.T.nn) ∧ (∀ i j, s.T.anm i j < 256)
theorem RM.L {b : Nat → Nat} {n : Nat} {M0 : aM} {s : PS} {d o : Nat} {M : aM} (h : RM b n M0 s d o M) : LM b n M0 s.i M := h.1
theorem RM.T {b : Nat → Nat} {n : Nat} {M0 : aM} {s : PS} {d o : Nat} {M : aM} (h : RM b n M0 s d o M) : RepM (mR M 2) s.T (fun _ => 0) := h.2.1
theorem RM.dp {b : Nat → Nat} {n : Nat} {M0 : aM} {s : PS} {d o : Nat} {M : aM} (h : RM b n M0 s d o M) : rI M 136 39 = nI d := h.2.2.1
theorem RM.ld {b : Nat → Nat} {n : Nat} {M0 : aM} {s : PS} {d o : Nat} {M : aM} (h : RM b n M0 s d o M) : d ≤ 20 := h.2.2.2.1
theorem RM.cn {b : Nat → Nat} {n : Nat} {M0 : aM} {s : PS} {d o : Nat} {M : aM} (h : RM b n M0 s d o M) : s.T.dn.length + o ≤ s.T.np := h.2.2.2.2.1
theorem RM.los {b : Nat → Nat} {n : Nat} {M0 : aM} {s : PS} {d o : Nat} {M : aM} (h : RM b n M0 s d o M) : ∀ a, s.os = some a → a < s.T.nn := h.2.2.2.2.2.1
theorem RM.lnm {b : Nat → Nat} {n : Nat} {M0 : aM} {s : PS} {d o : Nat} {M : aM} (h : RM b n M0 s d o M) : ∀ i j, s.T.anm i j < 256 := h.2.2.2.2.2.2
/-- it has come there, or fallen over the token there -/
def AM (b : Nat → Nat) (n : Nat) (M0 : aM) (s : PS) (d o : Nat) (M : aM) : Prop := RM b n M0 s d o M ∨ ((tkOf b n).k s.i = 131 ∧ FM b n M0 (1, (tkOf b n).pl s.i) M)
theorem rf_bad {k : Tk} {w i : Nat} (h : k.k i = 131) : rfi k w i = (1, k.pl i) := by rw [rfi, if_pos h]
section MS
variable {b : Nat → Nat} {n : Nat} {M0 M : aM} {s : PS} {d o : Nat} {f : Fl}
theorem RM.ft {M' : aM} {i : Nat} (h : RM b n M0 s d o M) (h2 : FT M M') (hl : LM b n M0 i M') : RM b n M0 (PS.s_i s (i)) d o M' :=
  ⟨hl, by rw [h2.mR]; exact h.T, by rw [h2.2.2.2.2 39 (by omega)]; exact h.dp, h.ld, h.cn, h.los, h.lnm⟩
/-- another text, in rows of the draft -/
theorem RM.T2 {M' : aM} {T' : Txt} {o' : Nat} (h : RM b n M0 s d o M) (hf : FrM M0 M') (h30 : ∀ j, j < 40 → rI M' 136 j = rI M 136 j) (hT : RepM (mR M' 2) T' (fun _ => 0)) (hc : T'.dn.length + o' ≤ T'.np) (hn : s.T.nn ≤ T'.nn) (hm : ∀ i j, T'.anm i j < 256) : RM b n M0 (PS.s_T s (T')) d o' M' := by
  have l := h.L
  refine ⟨⟨hf, l.li, l.nb, ?_, ?_, ?_, ?_, ?_, ?_, ?_, ?_⟩, hT, ?_, h.ld, hc, fun a ha => Nat.lt_of_lt_of_le (h.los a ha) hn, hm⟩
  · rw [h30 _ (by omega)]; exact l.fl
  · rw [h30 _ (by omega)]; exact l.fk
  · rw [h30 _ (by omega)]; exact l.at_
  · rw [h30 _ (by omega)]; exact l.ty
  · rw [h30 _ (by omega)]; exact l.sz
  · rw [h30 _ (by omega)]; exact l.szb
  · rw [h30 _ (by omega)]; exact l.num
  · rw [h30 _ (by omega)]; exact l.ps
  · rw [h30 _ (by omega)]; exact h.dp
theorem FM.w (h : FM b n M0 f M) {k j : Nat} {x : Int32} (hd : dLo k j) (hj : k = 136 → 39 ≤ j) : FM b n M0 f (wI M k j x) := by
  have e : ∀ j', j' ≤ 38 → rI (wI M k j x) 136 j' = rI M 136 j' := fun j' hj' => by rw [rw_e, if_neg (by omega)]
  refine ⟨h.fr.w hd, ?_, h.lf, ?_, ?_, ?_⟩
  · rw [e _ (by omega)]; exact h.fl
  · rw [e _ (by omega)]; exact h.fk
  · rw [e _ (by omega)]; exact h.atb
  · rw [e _ (by omega)]; exact h.szb
theorem m_nextR {post : aM → Prop} (h0 : TpM b n M0) (h : RM b n M0 s d o M) (hk : (tkOf b n).k s.i ≠ 130) (q : ∀ M', FT M M' → AM b n M0 s.st d o M' → post M') : w_Mo_nextToken post 136 M := by
  refine m_next h0 h.L hk (fun M' h2 h3 => q M' h2 ?_)
  rcases h3 with h3 | h3
  · exact Or.inl (h.ft h2 h3)
  · exact Or.inr h3
theorem m_K (h0 : TpM b n M0) (fr : FrM M0 M) (k m : Nat) (hk : k < 187 := by omega) (hn : (aKs.getD k (0, 0)).2 = m := by rfl) : (rK M (k + 1)).2 = m := by
  rw [fr.K]; exact h0.K.l k m hk hn
/-- which attribute is named here -/
theorem m_here {post : Int32 → Prop} (h0 : TpM b n M0) (h : RM b n M0 s d o M) (hk : (tkOf b n).k s.i = 128) (p : post (oI (hereN (tkOf b n) s))) : w_Mo_attributeHere post 136 M := by
  have ln := h0.ln
  have hw := h.L.wd (Or.inr hk)
  have hsz := h.L.sz (Or.inr hk)
  have hat := h.L.at_
  have hna := h.T.lna
  have tp := h.L.fr.tp h0
  have en : rI M 139 2 = nI s.T.na := h.T.na
  have k3 : (rK M 139).2 = 3 := m_K h0 h.L.fr 138 3
  have k8 : (rK M 144).2 = 324 := m_K h0 h.L.fr 143 324
  have k9 : (rK M 145).2 = 3888 := m_K h0 h.L.fr 144 3888
  have k1 : (rK M 137).2 = 6000 := m_K h0 h.L.fr 136 6000
  unfold w_Mo_attributeHere
  have key : ∀ r a, r = s.T.na - a → a ≤ s.T.na → hereN (tkOf b n) s = findN (tkOf b n) s.T s.i r a → w_Mo_attributeHere_L2 M post (r + 1) 136 (nI a) := by
    intro r
    induction r with
    | zero =>
      intro a hr ha he
      unfold w_Mo_attributeHere_L2
      simp only [cl2, Nat.reduceAdd, k3, en]
      refine ⟨pk_in 2 3 (by omega), pk_le s.T.na a (fun _ => ?_) (fun z => by omega)⟩
      rw [he] at p
      exact p
    | succ r ih =>
      intro a hr ha he
      have ha2 : a < s.T.na := by omega
      have el := h.T.anl a ha2
      have ell := h.T.lanl a ha2
      have em := h.T.anm a ha2
      have el2 : rI M 144 (216 + a) = nI (s.T.anl a) := el
      have em2 : ∀ j, j < s.T.anl a → rI M 145 (2592 + (12 * a + j)) = sx (s.T.anm a j) := em
      unfold w_Mo_attributeHere_L2
      simp only [cl2, Nat.reduceAdd, k3, en]
      refine ⟨pk_in 2 3 (by omega), pk_le s.T.na a (fun z => by omega) (fun z => ?_)⟩
      unfold w_Mo_nameOf
      refine nb_t rfl ?_
      rw [n216]
      dsimp only
      rw [nI_clamp (by omega), el2, k8, hsz]
      refine ⟨vin (by omega), ?_⟩
      rw [findN] at he
      have nxt : sameN (tkOf b n) s.T s.i a = false → w_Mo_attributeHere_J93 M post (w_Mo_attributeHere_L2 M post (r + 1)) 136 (nI a) 0 := by
        intro g
        unfold w_Mo_attributeHere_J93
        refine br_t rfl ?_
        rw [nI_1]
        rw [if_neg (by rw [g]; simp)] at he
        exact ih (a + 1) (by omega) (by omega) he
      have no : sameN (tkOf b n) s.T s.i a = false → ∀ (r' : Nat) (y : Int32), w_Mo_attributeHere_L41 M post (w_Mo_attributeHere_L2 M post (r + 1)) (r' + 1) 136 (nI a) (nI (216 + a)) 0 y := by
        intro g r' y
        unfold w_Mo_attributeHere_L41
        exact ⟨fun _ => nxt g, fun _ => br_t rfl (nxt g)⟩
      have hff : ∀ {c : Prop}, (sameN (tkOf b n) s.T s.i a = true → c) → ¬ c → sameN (tkOf b n) s.T s.i a = false := fun g g2 => by
        cases hs : sameN (tkOf b n) s.T s.i a with
        | false => rfl
        | true => exact absurd (g hs) g2
      refine pk_ne (s.T.anl a) ((tkOf b n).v s.i) (fun z1 => ⟨1, no (hff (fun g => (sameN_iff.1 g).1) z1) 0 0⟩) (fun z1 => ?_)
      have key2 : ∀ r' x, r' = (tkOf b n).v s.i - x → x ≤ (tkOf b n).v s.i → (∀ x', x' < x → s.T.anm a x' = b ((tkOf b n).pl s.i + x')) → w_Mo_attributeHere_L41 M post (w_Mo_attributeHere_L2 M post (r + 1)) (r' + 1) 136 (nI a) (nI (216 + a)) 1 (nI x) := by
        intro r'
        induction r' with
        | zero =>
          intro x hr' hx hall
          unfold w_Mo_attributeHere_L41
          refine pk_le ((tkOf b n).v s.i) x (fun _ => ?_) (fun q => by omega) hsz
          unfold w_Mo_attributeHere_J93
          refine br_f (by decide) ?_
          rw [if_pos (sameN_iff.2 ⟨z1, fun x' hx' => hall x' (by omega)⟩)] at he
          rw [he] at p
          exact p
        | succ r' ih2 =>
          intro x hr' hx hall
          unfold w_Mo_attributeHere_L41
          refine pk_le ((tkOf b n).v s.i) x (fun q => by omega) (fun zx => ?_) hsz
          refine br_f (by decide) ?_
          have hb1 := h.lnm a x
          have hb2 := h0.lb ((tkOf b n).pl s.i + x)
          have ex : ((12 : Int32) * nI (216 + a) + nI x) = nI (2592 + (12 * a + x)) := by
            rw [show (12 : Int32) = nI 12 from rfl, pk_mul, nI_add, show 12 * (216 + a) + x = 2592 + (12 * a + x) by omega]
          simp only [Nat.reduceAdd, hat, ex, nI_add, k9, k1]
          rw [nI_clamp (by omega), nI_clamp (by omega), em2 x (by omega), tp.b _ (by omega), nI_1]
          refine ⟨vin (by omega), vin (by omega), fun q => ?_, fun q => ?_⟩
          · refine no (hff (fun g => (sameN_iff.1 g).2 x zx) (fun g => q ?_)) r' _
            rw [g]
            rfl
          · have q2 : sx (s.T.anm a x) = sx (b ((tkOf b n).pl s.i + x)) := by
              by_cases w : sx (s.T.anm a x) = sx (b ((tkOf b n).pl s.i + x))
              · exact w
              · exact absurd w q
            rw [sx_eq hb1 hb2] at q2
            refine ih2 (x + 1) (by omega) (by omega) (fun x' hx' => ?_)
            by_cases w : x' = x
            · subst w; exact q2
            · exact hall x' (by omega)
      exact ⟨_, key2 _ 0 rfl (by omega) (fun x' hx' => by omega)⟩
  exact ⟨_, key _ 0 rfl (by omega) rfl⟩
/-- a name is kept in a slot -/
theorem m_keep {post : aM → Prop} {i sl : Nat} (h0 : TpM b n M0) (h : LM b n M0 i M) (hk : (tkOf b n).k i = 128) (hs : 216 ≤ sl ∧ sl < 324) (q : ∀ M' : aM, FrM M0 M' → Ks M M' → (∀ k, k ≠ 144 → k ≠ 145 → rI M' k = rI M k) → rI M' 144 = up (rI M 144) sl (nI ((tkOf b n).v i)) → (∀ j, rI M' 145 j = if 12 * sl ≤ j ∧ j < 12 * sl + (tkOf b n).v i then sx (b ((tkOf b n).pl i + (j - 12 * sl))) else rI M 145 j) → post M') : w_Mo_keepName post 136 (nI sl) M := by
  have ln := h0.ln
  have hw := h.wd (Or.inr hk)
  have hsz := h.sz (Or.inr hk)
  have k8 : (rK M 144).2 = 324 := m_K h0 h.fr 143 324
  have k9 : (rK M 145).2 = 3888 := m_K h0 h.fr 144 3888
  have k1 : (rK M 137).2 = 6000 := m_K h0 h.fr 136 6000
  unfold w_Mo_keepName
  simp only [Nat.reduceAdd, k8]
  rw [nI_clamp (by omega), hsz]
  refine ⟨vin (by omega), ?_⟩
  have key : ∀ r x (M' : aM), r = (tkOf b n).v i - x → x ≤ (tkOf b n).v i → FrM M0 M' → Ks M M' → (∀ k, k ≠ 144 → k ≠ 145 → rI M' k = rI M k) → rI M' 144 = up (rI M 144) sl (nI ((tkOf b n).v i)) → (∀ j, rI M' 145 j = if 12 * sl ≤ j ∧ j < 12 * sl + x then sx (b ((tkOf b n).pl i + (j - 12 * sl))) else rI M 145 j) → w_Mo_keepName_L12 post (r + 1) 136 (nI sl) (nI x) M' := by
    intro r
    induction r with
    | zero =>
      intro x M' hr hx e1 e2 e3 e4 e5
      have ex : x = (tkOf b n).v i := by omega
      subst ex
      unfold w_Mo_keepName_L12
      exact pk_le ((tkOf b n).v i) ((tkOf b n).v i) (fun _ => q M' e1 e2 e3 e4 e5) (fun z => by omega) (by rw [e3 136 (by omega) (by omega), hsz])
    | succ r ih =>
      intro x M' hr hx e1 e2 e3 e4 e5
      unfold w_Mo_keepName_L12
      refine pk_le ((tkOf b n).v i) x (fun z => by omega) (fun zx => ?_) (by rw [e3 136 (by omega) (by omega), hsz])
      have k9' : (rK M' 145).2 = 3888 := m_K h0 e1 144 3888
      have k1' : (rK M' 137).2 = 6000 := m_K h0 e1 136 6000
      have ex : ((12 : Int32) * nI sl + nI x) = nI (12 * sl + x) := by
        rw [show (12 : Int32) = nI 12 from rfl, pk_mul, nI_add]
      have hat : rI M' 136 35 = nI ((tkOf b n).pl i) := by rw [e3 136 (by omega) (by omega)]; exact h.at_
      simp only [Nat.reduceAdd, hat, ex, nI_add, k9', k1']
      rw [nI_clamp (by omega), nI_clamp (by omega), (e1.tp h0).b _ (by omega), sx_8 _ (h0.lb _), nI_1]
      refine ⟨vin (by omega), vin (by omega), ?_⟩
      refine ih (x + 1) _ (by omega) (by omega) (e1.w (by unfold dLo; omega)) (e2.w (by omega)) (fun k g1 g2 => (rw_n g2).trans (e3 k g1 g2)) ((rw_n (by omega)).trans e4) (fun j => ?_)
      rw [rw_s, up_e, e5 j]
      by_cases g : j = 12 * sl + x
      · rw [if_pos g, if_pos (by omega), show j - 12 * sl = x by omega]
      · rw [if_neg g]
        by_cases g2 : 12 * sl ≤ j ∧ j < 12 * sl + x
        · rw [if_pos g2, if_pos (by omega)]
        · rw [if_neg g2, if_neg (by omega)]
  refine ⟨_, key _ 0 _ rfl (by omega) (h.fr.w (by unfold dLo; omega)) (Ks.refl.w (by omega)) (fun k g1 _ => rw_n g1) rw_s (fun j => ?_)⟩
  rw [if_neg (by omega), rw_n (by omega)]
end MS
/-- a part with its pj -/
theorem RepM.pj {R : Nat → Nat → Int32} {T : Txt} {g : Nat → Nat} {x : Nat → Nat} (m : RepM R T g) : RepM R (Txt.s_pj T (x)) g := ⟨m.na,
      m.lna,
      m.asz,
      m.lasz,
      m.amany,
      m.amust,
      m.bag,
      m.anl,
      m.lanl,
      m.anm,
      m.nn,
      m.lnn,
      m.srt,
      m.way,
      m.fa,
      m.root,
      m.nnl,
      m.lnnl,
      m.nnm,
      m.np,
      m.lnp,
      m.pk,
      m.pa,
      m.pnum,
      m.pf,
      m.pn,
      m.dn,
      m.cm,
      m.ldn,
      m.nd,
      m.lnd,
      m.dof,
      m.dfor,
      m.dnum⟩
theorem repM_addNd0 {R : Nat → Nat → Int32} {T : Txt} {g : Nat → Nat} {so : Nat} (m : RepM R T g) (hl : T.nn < 100) : RepM (up (up (up (up (up (up R 10 (up (R 10) 0 (nI (T.nn + 1)))) 11 (up (R 11) T.nn (nI so))) 12 (up (R 12) T.nn (-1))) 13 (up (R 13) T.nn (-1))) 14 (up (R 14) T.nn (-1))) 8 (up (R 8) (8 + T.nn) 0)) (addNd T so none) g :=
  have lna := m.lna
  ⟨m.na,
      m.lna,
      m.asz,
      m.lasz,
      m.amany,
      m.amust,
      m.bag,
      fun i hi => by
      have hi2 : i < T.na := hi
      show up (R 8) (8 + T.nn) 0 i = _
      rw [up_n (by omega)]
      exact m.anl i hi,
      m.lanl,
      m.anm,
      rfl,
      hl,
      em_push m.srt rfl,
      em_push m.way rfl,
      em_push m.fa rfl,
      em_push m.root rfl,
      fun i hi => by
      have hi2 : i < T.nn + 1 := hi
      show up (R 8) (8 + T.nn) 0 (8 + i) = nI (up T.nnl T.nn 0 i)
      by_cases q : i = T.nn
      · subst q; rw [up_s, up_s]; rfl
      · rw [up_n (by omega), up_n q]; exact m.nnl i (by omega),
      up_lt (P := fun o => o ≤ 12) m.lnnl (by omega),
      fun i hi j hj => by
      have hi2 : i < T.nn + 1 := hi
      by_cases q : i = T.nn
      · subst q
        exact absurd hj (by show ¬ j < up T.nnl T.nn 0 T.nn; rw [up_s]; omega)
      · have hj2 : j < T.nnl i := by
          have : j < up T.nnl T.nn 0 i := hj
          rwa [up_n q] at this
        exact m.nnm i (by omega) j hj2,
      m.np,
      m.lnp,
      m.pk,
      m.pa,
      m.pnum,
      m.pf,
      m.pn,
      m.dn,
      m.cm,
      m.ldn,
      m.nd,
      m.lnd,
      m.dof,
      m.dfor,
      m.dnum⟩
theorem repM_addNd1 {R : Nat → Nat → Int32} {T : Txt} {g : Nat → Nat} {so a : Nat} (m : RepM R T g) (hl : T.nn < 100) : RepM (up (up (up (up (up (up R 10 (up (R 10) 0 (nI (T.nn + 1)))) 11 (up (R 11) T.nn (nI so))) 12 (up (R 12) T.nn (-1))) 13 (up (R 13) T.nn (nI a))) 14 (up (R 14) T.nn (-1))) 8 (up (R 8) (8 + T.nn) 0)) (addNd T so (some a)) g :=
  have lna := m.lna
  ⟨m.na,
      m.lna,
      m.asz,
      m.lasz,
      m.amany,
      m.amust,
      m.bag,
      fun i hi => by
      have hi2 : i < T.na := hi
      show up (R 8) (8 + T.nn) 0 i = _
      rw [up_n (by omega)]
      exact m.anl i hi,
      m.lanl,
      m.anm,
      rfl,
      hl,
      em_push m.srt rfl,
      em_push m.way rfl,
      em_push m.fa rfl,
      em_push m.root rfl,
      fun i hi => by
      have hi2 : i < T.nn + 1 := hi
      show up (R 8) (8 + T.nn) 0 (8 + i) = nI (up T.nnl T.nn 0 i)
      by_cases q : i = T.nn
      · subst q; rw [up_s, up_s]; rfl
      · rw [up_n (by omega), up_n q]; exact m.nnl i (by omega),
      up_lt (P := fun o => o ≤ 12) m.lnnl (by omega),
      fun i hi j hj => by
      have hi2 : i < T.nn + 1 := hi
      by_cases q : i = T.nn
      · subst q
        exact absurd hj (by show ¬ j < up T.nnl T.nn 0 T.nn; rw [up_s]; omega)
      · have hj2 : j < T.nnl i := by
          have : j < up T.nnl T.nn 0 i := hj
          rwa [up_n q] at this
        exact m.nnm i (by omega) j hj2,
      m.np,
      m.lnp,
      m.pk,
      m.pa,
      m.pnum,
      m.pf,
      m.pn,
      m.dn,
      m.cm,
      m.ldn,
      m.nd,
      m.lnd,
      m.dof,
      m.dfor,
      m.dnum⟩
theorem RepM.addNd {R : Nat → Nat → Int32} {T : Txt} {g : Nat → Nat} {so : Nat} {os : Option Nat} (m : RepM R T g) (hl : T.nn < 100) : RepM (up (up (up (up (up (up R 10 (up (R 10) 0 (nI (T.nn + 1)))) 11 (up (R 11) T.nn (nI so))) 12 (up (R 12) T.nn (-1))) 13 (up (R 13) T.nn (oI os))) 14 (up (R 14) T.nn (-1))) 8 (up (R 8) (8 + T.nn) 0)) (addNd T so os) g := by
  cases os with
  | none => exact repM_addNd0 m hl
  | some a => exact repM_addNd1 m hl
theorem RepM.addPt {R : Nat → Nat → Int32} {T : Txt} {g : Nat → Nat} {kd : Nat} (m : RepM R T g) (hl : T.np < 400) (hk : kd < 16) : RepM (up (up (up (up (up (up (up R 15 (up (R 15) 0 (nI (T.np + 1)))) 16 (up (R 16) T.np (nI (mkK kd)))) 17 (up (R 17) T.np (-1))) 18 (up (R 18) T.np 0)) 19 (up (R 19) T.np 0)) 20 (up (R 20) T.np (-1))) 21 (up (R 21) T.np (-1))) (addPt T kd) g :=
  ⟨m.na,
      m.lna,
      m.asz,
      m.lasz,
      m.amany,
      m.amust,
      m.bag,
      m.anl,
      m.lanl,
      m.anm,
      m.nn,
      m.lnn,
      m.srt,
      m.way,
      m.fa,
      m.root,
      m.nnl,
      m.lnnl,
      m.nnm,
      rfl,
      hl,
      em_push (φ := fun k => nI (mkK k)) m.pk rfl,
      fun i hi h16 => by
      have hi2 : i < T.np + 1 := hi
      have h16' : 16 ≤ up T.pk T.np kd i := h16
      show up (R 17) T.np (-1) i = nI (up T.pa T.np 0 i)
      by_cases q : i = T.np
      · subst q; rw [up_s] at h16'; omega
      · rw [up_n q] at h16'
        rw [up_n q, up_n q]; exact m.pa i (by omega) h16',
      fun i hi => by
      have hi2 : i < T.np + 1 := hi
      show Nm (up T.pk T.np kd i) (up T.pnum T.np 0 i) (up (R 18) T.np 0 i) (up (R 19) T.np 0 i)
      by_cases q : i = T.np
      · subst q; rw [up_s, up_s, up_s, up_s, Nm, if_neg (by omega)]; exact ⟨rfl, rfl⟩
      · rw [up_n q, up_n q, up_n q, up_n q]; exact m.pnum i (by omega),
      em_push m.pf rfl,
      em_push m.pn rfl,
      m.dn,
      m.cm,
      Nat.le_succ_of_le m.ldn,
      m.nd,
      m.lnd,
      m.dof,
      m.dfor,
      m.dnum⟩
/-- a new test of attribute a, for now one of 'has' -/
theorem repM_addTs {R : Nat → Nat → Int32} {T : Txt} {g : Nat → Nat} {a : Nat} (m : RepM R T g) (hl : T.np < 400) : RepM (up (up (up (up (up (up (up (up R 15 (up (R 15) 0 (nI (T.np + 1)))) 16 (up (R 16) T.np 3)) 17 (up (R 17) T.np (-1))) 18 (up (R 18) T.np 0)) 19 (up (R 19) T.np 0)) 20 (up (R 20) T.np (-1))) 21 (up (R 21) T.np (-1))) 17 (up (up (R 17) T.np (-1)) T.np (nI a))) (Txt.s_pa (Txt.s_pk (addPt T 128) (up (addPt T 128).pk T.np 16)) (up (addPt T 128).pa T.np a)) g :=
  ⟨m.na,
      m.lna,
      m.asz,
      m.lasz,
      m.amany,
      m.amust,
      m.bag,
      m.anl,
      m.lanl,
      m.anm,
      m.nn,
      m.lnn,
      m.srt,
      m.way,
      m.fa,
      m.root,
      m.nnl,
      m.lnnl,
      m.nnm,
      rfl,
      hl,
      fun i hi => by
      have hi2 : i < T.np + 1 := hi
      show up (R 16) T.np 3 i = nI (mkK (up (up T.pk T.np 128) T.np 16 i))
      by_cases q : i = T.np
      · subst q; rw [up_s, up_s]; rfl
      · rw [up_n q, up_n q, up_n q]; exact m.pk i (by omega),
      fun i hi h16 => by
      have hi2 : i < T.np + 1 := hi
      have h16' : 16 ≤ up (up T.pk T.np 128) T.np 16 i := h16
      show up (up (R 17) T.np (-1)) T.np (nI a) i = nI (up (up T.pa T.np 0) T.np a i)
      by_cases q : i = T.np
      · subst q; rw [up_s, up_s]
      · rw [up_n q, up_n q] at h16'
        rw [up_n q, up_n q, up_n q, up_n q]; exact m.pa i (by omega) h16',
      fun i hi => by
      have hi2 : i < T.np + 1 := hi
      show Nm (up (up T.pk T.np 128) T.np 16 i) (up T.pnum T.np 0 i) (up (R 18) T.np 0 i) (up (R 19) T.np 0 i)
      by_cases q : i = T.np
      · subst q; rw [up_s, up_s, up_s, up_s, Nm, if_neg (by omega)]; exact ⟨rfl, rfl⟩
      · rw [up_n q, up_n q, up_n q, up_n q, up_n q]; exact m.pnum i (by omega),
      em_push m.pf rfl,
      em_push m.pn rfl,
      m.dn,
      m.cm,
      Nat.le_succ_of_le m.ldn,
      m.nd,
      m.lnd,
      m.dof,
      m.dfor,
      m.dnum⟩
theorem RepM.addDt {R : Nat → Nat → Int32} {T : Txt} {g : Nat → Nat} {o d v : Nat} (m : RepM R T g) (hl : T.nd < 100) : RepM (up (up (up (up R 24 (up (R 24) 0 (nI (T.nd + 1)))) 25 (up (R 25) T.nd (nI o))) 26 (up (R 26) T.nd (nI d))) 27 (up (R 27) T.nd (nI v))) (addDt T o d v) g :=
  ⟨m.na,
      m.lna,
      m.asz,
      m.lasz,
      m.amany,
      m.amust,
      m.bag,
      m.anl,
      m.lanl,
      m.anm,
      m.nn,
      m.lnn,
      m.srt,
      m.way,
      m.fa,
      m.root,
      m.nnl,
      m.lnnl,
      m.nnm,
      m.np,
      m.lnp,
      m.pk,
      m.pa,
      m.pnum,
      m.pf,
      m.pn,
      m.dn,
      m.cm,
      m.ldn,
      rfl,
      hl,
      em_push m.dof rfl,
      em_push m.dfor rfl,
      em_push m.dnum rfl⟩
theorem RepM.cmpl {R : Nat → Nat → Int32} {T : Txt} {g : Nat → Nat} {p : Nat} (m : RepM R T g) (hl : T.dn.length < T.np) : RepM (up (up R 22 (up (R 22) T.dn.length (nI p))) 23 (up (R 23) 0 (nI (T.dn.length + 1)))) (Txt.s_dn T (T.dn ++ [p])) g :=
  ⟨m.na,
      m.lna,
      m.asz,
      m.lasz,
      m.amany,
      m.amust,
      m.bag,
      m.anl,
      m.lanl,
      m.anm,
      m.nn,
      m.lnn,
      m.srt,
      m.way,
      m.fa,
      m.root,
      m.nnl,
      m.lnnl,
      m.nnm,
      m.np,
      m.lnp,
      m.pk,
      m.pa,
      m.pnum,
      m.pf,
      m.pn,
      fun j hj => by
      have hj2 : j < (T.dn ++ [p]).length := hj
      rw [List.length_append] at hj2
      have hj3 : j < T.dn.length + 1 := hj2
      show up (R 22) T.dn.length (nI p) j = nI ((T.dn ++ [p]).getD j 0)
      by_cases q : j = T.dn.length
      · subst q
        rw [up_s, List.getD_eq_getElem?_getD]
        simp
      · rw [up_n q, List.getD_eq_getElem?_getD, List.getElem?_append_left (by omega), ← List.getD_eq_getElem?_getD]
        exact m.dn j (by omega),
      by
      show nI (T.dn.length + 1) = nI (T.dn ++ [p]).length
      rw [List.length_append]; rfl,
      by
      show (T.dn ++ [p]).length ≤ T.np
      rw [List.length_append]
      show T.dn.length + 1 ≤ _
      omega,
      m.nd,
      m.lnd,
      m.dof,
      m.dfor,
      m.dnum⟩
