/-! THE MODEL'S READER, IV: tests. -/
def pc (m : Nat) : Nat := (m.testBit 0).toNat + (m.testBit 1).toNat + (m.testBit 2).toNat + (m.testBit 3).toNat + (m.testBit 4).toNat + (m.testBit 5).toNat + (m.testBit 6).toNat + (m.testBit 7).toNat
theorem pc_le (m : Nat) : pc m ≤ 8 := by
  unfold pc
  have h : ∀ b : Bool, b.toNat ≤ 1 := fun b => by cases b <;> decide
  have := h (m.testBit 0)
  have := h (m.testBit 1)
  have := h (m.testBit 2)
  have := h (m.testBit 3)
  have := h (m.testBit 4)
  have := h (m.testBit 5)
  have := h (m.testBit 6)
  have := h (m.testBit 7)
  omega
theorem pc_set : ∀ m, m < 256 → ∀ v, v < 8 → m.testBit v = false → pc (m ||| 1 <<< v) = pc m + 1 := by decide +kernel
theorem msk_app (v : Nat) : ∀ l : List Nat, msk (l ++ [v]) = msk l ||| 1 <<< v := by
  intro l
  induction l with
  | nil => rfl
  | cons w l ih =>
    show msk (l ++ [v]) ||| 1 <<< w = (msk l ||| 1 <<< w) ||| 1 <<< v
    rw [ih]
    apply Nat.eq_of_testBit_eq
    intro i
    simp only [Nat.testBit_or]
    cases (msk l).testBit i <;> cases (1 <<< v).testBit i <;> cases (1 <<< w).testBit i <;> rfl
theorem nib_lt : ∀ l : List Nat, (∀ v, v ∈ l → v < 8) → nib l < 16 ^ l.length := by
  intro l
  induction l with
  | nil => intro _; exact Nat.one_pos
  | cons w l ih =>
    intro h
    have h1 := ih (fun v hv => h v (List.mem_cons_of_mem _ hv))
    have h2 := h w (List.mem_cons_self ..)
    show w + 16 * nib l < 16 ^ (l.length + 1)
    rw [Nat.pow_succ]
    omega
theorem nib_app (v : Nat) : ∀ l : List Nat, nib (l ++ [v]) = nib l + v * 16 ^ l.length := by
  intro l
  induction l with
  | nil => show v + 16 * 0 = 0 + v * 1; omega
  | cons w l ih =>
    show w + 16 * nib (l ++ [v]) = w + 16 * nib l + v * 16 ^ (l.length + 1)
    rw [ih, Nat.pow_succ, Nat.mul_add, ← Nat.mul_assoc v, Nat.mul_comm 16 (v * _), Nat.add_assoc]
theorem nI_or (a b : Nat) : nI a ||| nI b = nI (a ||| b) := by
  apply Int32.toBitVec_inj.1
  show BitVec.ofNat 32 a ||| BitVec.ofNat 32 b = BitVec.ofNat 32 (a ||| b)
  apply BitVec.eq_of_getLsbD_eq
  intro i hi
  simp [BitVec.getLsbD_or, BitVec.getLsbD_ofNat, hi]
theorem nib_shl : ∀ c, c < 8 → ∀ v, v < 8 → nI v <<< (((4 : Int32) * nI c) &&& 31) = nI (v * 16 ^ c) := by decide +kernel
theorem nib_or {a c v : Nat} (ha : a < 16 ^ c) : a ||| v * 16 ^ c = a + v * 16 ^ c := by
  have e : (16 : Nat) ^ c = 2 ^ (4 * c) := by rw [show (16 : Nat) = 2 ^ 4 from rfl, ← Nat.pow_mul]
  rw [e] at ha ⊢
  have := Nat.two_pow_add_eq_or_of_lt ha v
  rw [Nat.mul_comm v, Nat.add_comm a, this]
  apply Nat.eq_of_testBit_eq
  intro i
  simp only [Nat.testBit_or]
  cases a.testBit i <;> cases (2 ^ (4 * c) * v).testBit i <;> rfl
theorem tk_num {b : Nat → Nat} {n j : Nat} (hj : j < (tkOf b n).n) (h : (tkOf b n).k j = 129) : (tkOf b n).v j < 1000 := by
  rcases tk_cases b n hj with ⟨_, e, _⟩ | ⟨_, e⟩
  · omega
  · exact e.num h
/-- with a pile: it has come there, or fallen over the token there; e parts more are open -/
def AS (b : Nat → Nat) (n : Nat) (M0 : aM) (s : PS) (σ : List Fr) (e : Nat) (M : aM) : Prop := RS b n M0 s σ e M ∨ ((tkOf b n).k s.i = 131 ∧ FM b n M0 (1, (tkOf b n).pl s.i) M)
section MT
variable {b : Nat → Nat} {n : Nat} {M0 M : aM} {s : PS} {d o e : Nat} {f : Fl} {σ : List Fr}
theorem RS.ks {M' : aM} {T' : Txt} {e' : Nat} (h : RS b n M0 s σ e M) (r : RM b n M0 (PS.s_T s (T')) (s.od + (σ.length - 1)) (opS σ + e') M') (hk : Ks M M') (hN : s.T.np ≤ T'.np) : RS b n M0 (PS.s_T s (T')) σ e' M' :=
  ⟨r, by rw [hk.2]; exact h.h, h.k.ks hk hN, h.l⟩
theorem m_nextS {post : aM → Prop} (h0 : TpM b n M0) (h : RS b n M0 s σ e M) (hk : (tkOf b n).k s.i ≠ 130) (q : ∀ M', AS b n M0 s.st σ e M' → post M') : w_Mo_nextToken post 136 M := by
  refine m_nextR h0 h.R hk (fun M' h2 h3 => q M' ?_)
  rcases h3 with h3 | h3
  · exact Or.inl ⟨h3, by rw [h2.ks.2]; exact h.h, h.k.ks h2.ks (Nat.le_refl _), h.l⟩
  · exact Or.inr h3
/-- is the token a number -/
theorem m_ty2 {i : Nat} (h : LM b n M0 i M) : (rI M 136 34 = 2) ↔ (tkOf b n).k i = 129 := by
  rw [h.ty, show (2 : Int32) = nI 2 from rfl, nI_eq (by have := tyK_lt ((tkOf b n).k i); omega) (by omega), tyK]
  split
  · rename_i g; constructor <;> (intro; omega)
  · split
    · rename_i g; exact ⟨fun _ => g, fun _ => rfl⟩
    · split <;> (rename_i g1 g2; constructor <;> (intro; omega))
theorem m_value {post : aM → Prop} {a : Nat} {x : Int32} (h0 : TpM b n M0) (h : RM b n M0 s d o M) (ha : a < s.T.na) (p1 : (tkOf b n).k s.i ≠ 129 → ∀ M', FM b n M0 (rfi (tkOf b n) 2 s.i) M' → post M') (p2 : (tkOf b n).k s.i = 129 → s.T.asz a ≤ (tkOf b n).v s.i → ∀ M', FM b n M0 (rfi (tkOf b n) 4 s.i) M' → post M') (p3 : (tkOf b n).k s.i = 129 → (tkOf b n).v s.i < s.T.asz a → post M) (hx : x = nI a := by rfl) : w_Mo_value post 136 x M := by
  subst hx
  have m := h.T
  have lna := m.lna
  have ez : rI M 140 (16 + a) = nI (s.T.asz a) := m.asz a ha
  have lz := m.lasz a ha
  have k1 : (rK M 140).2 = 24 := m_K h0 h.L.fr 139 24
  unfold w_Mo_value
  by_cases g : (tkOf b n).k s.i = 129
  · refine nb_t ((m_ty2 h.L).2 g) ?_
    unfold w_Mo_value_J14
    refine m_need (bb := true) h0 h.L (fun _ => ?_) (fun z => by cases z)
    refine nb_t h.L.fl ?_
    have hv := tk_num h.L.li g
    simp (disch := omega) only [Nat.reduceAdd, a16, nI_clamp, k1, ez, h.L.num g]
    exact ⟨vin (by omega), pk_lt ((tkOf b n).v s.i) (s.T.asz a) (fun z => p3 g z) (fun z => m_bad h0 h.L (p2 g z))⟩
  · refine nb_f (fun z => g ((m_ty2 h.L).1 z)) ?_
    unfold w_Mo_value_J14
    refine m_need (bb := false) h0 h.L (fun z => by cases z) (fun _ M' f' => ?_)
    exact nb_f f'.ne (p1 g M' f')
theorem m_valueF {post : aM → Prop} {x : Int32} (h : FM b n M0 f M) (p : post M) : w_Mo_value post 136 x M := by
  have F : ∀ z : Int32, w_Mo_value_J14 post 136 x 136 z M := by
    intro z
    unfold w_Mo_value_J14
    exact m_needF h (nb_f h.ne p)
  unfold w_Mo_value
  exact ⟨fun _ => F _, fun _ => F _⟩
/-- a value is put to the list of part p -/
theorem RepM.addV {R : Nat → Nat → Int32} {T : Txt} {g : Nat → Nat} {p v : Nat} {l : List Nat} (m : RepM R T g) (hp : p < T.np) (hk : T.pk p = 17 ∨ T.pk p = 18) (hl : l.length < 8) (ha : ∀ v, v ∈ l → v < 8) (hv : v < 8) : RepM (up (up R 19 (up (R 19) p (nI (nib (l ++ [v]))))) 18 (up (R 18) p (nI (l.length + 1)))) (Txt.s_pnum T (up T.pnum p (msk (l ++ [v])))) g :=
  ⟨m.na,
      m.lna,
      m.asz,
      m.lasz,
      m.amany,
      m.amust,
      m.bag,
      m.anl,
      m.lanl,
      m.anm,
      m.nn,
      m.lnn,
      m.srt,
      m.way,
      m.fa,
      m.root,
      m.nnl,
      m.lnnl,
      m.nnm,
      m.np,
      m.lnp,
      m.pk,
      m.pa,
      fun i hi => by
      show Nm (T.pk i) (up T.pnum p (msk (l ++ [v])) i) (up (R 18) p (nI (l.length + 1)) i) (up (R 19) p (nI (nib (l ++ [v]))) i)
      by_cases q : i = p
      · subst q
        rw [up_s, up_s, up_s, Nm, if_pos hk]
        refine ⟨l ++ [v], ?_, ?_, ?_, rfl, rfl⟩
        · rw [List.length_append]; exact hl
        · intro w hw
          rcases List.mem_append.1 hw with hw | hw
          · exact ha w hw
          · rw [List.mem_singleton.1 hw]; exact hv
        · rw [List.length_append]; rfl
      · rw [up_n q, up_n q, up_n q]
        exact m.pnum i hi,
      m.pf,
      m.pn,
      m.dn,
      m.cm,
      m.ldn,
      m.nd,
      m.lnd,
      m.dof,
      m.dfor,
      m.dnum⟩
theorem m_list {post : aM → Prop} {p a : Nat} {x y : Int32} (h0 : TpM b n M0) (h : RS b n M0 s σ e M) (hk0 : (tkOf b n).k s.i ≠ 130) (hp : p < s.T.np) (hk : s.T.pk p = 17 ∨ s.T.pk p = 18) (hx0 : rI M 154 (800 + p) = 0) (hy0 : rI M 155 (800 + p) = 0) (ha : a < s.T.na) (q : Ex (fun z => ∀ M', AS b n M0 (setNum p z.1 z.2) σ e M' → post M') (fun f => ∀ M', FM b n M0 f M' → post M') (fList (tkOf b n) (s.T.asz a) s)) (hx : x = nI (800 + p) := by rfl) (hy : y = nI a := by rfl) : w_Mo_readList post 136 x y M := by
  subst hx hy
  have lz := h.R.T.lasz a ha
  have lnp := h.R.T.lnp
  -- behind the values
  have fin : ∀ (mask : Nat) (s' : PS) (M' : aM), AS b n M0 (setNum p mask s') σ e M' → Ex (fun z : Nat × PS => ∀ M', AS b n M0 (setNum p z.1 z.2) σ e M' → post M') (fun f => ∀ M', FM b n M0 f M' → post M') ((req (tkOf b n) 125 s').bind (fun s2 => .ok (mask, s2))) → w_Mo_readList_J151 post 136 M' := by
    intro mask s' M' a' q'
    unfold w_Mo_readList_J151
    rcases a' with r' | ⟨hb, f'⟩
    · refine m_eat h0 r'.R.L (c := 125) rfl (fun z M2 h2 h3 => ?_) (fun z M2 f2 => ?_)
      · have z2 : (tkOf b n).k s'.i = 125 := z
        rw [req, if_pos z2] at q'
        refine q' M2 ?_
        rcases h3 with h3 | h3
        · exact Or.inl ⟨r'.R.ft h2 h3, by rw [h2.ks.2]; exact r'.h, r'.k.ks h2.ks (Nat.le_refl _), r'.l⟩
        · exact Or.inr h3
      · have z2 : (tkOf b n).k s'.i ≠ 125 := z
        rw [req, if_neg z2] at q'
        exact q' M2 f2
    · have hb2 : (tkOf b n).k s'.i = 131 := hb
      rw [req, if_neg (by omega)] at q'
      refine m_eatF h0 f' (q' M' ?_)
      rw [rf, rf_bad hb2]
      exact f'
  have finF : ∀ (f : Fl) (M' : aM), FM b n M0 f M' → (∀ M', FM b n M0 f M' → post M') → w_Mo_readList_J151 post 136 M' := by
    intro f M' f' q'
    unfold w_Mo_readList_J151
    exact m_eatF h0 f' (q' M' f')
  have LF : ∀ (f : Fl) (M' : aM) (N : Nat) (x1 x2 : Int32), FM b n M0 f M' → (∀ M', FM b n M0 f M' → post M') → w_Mo_readList_L15 post (N + 1) 136 (nI (800 + p)) (nI a) x1 x2 M' := by
    intro f M' N x1 x2 f' q'
    unfold w_Mo_readList_L15
    exact ⟨fun _ => finF f M' f' q', fun _ => nb_f f'.ne (finF f M' f' q')⟩
  have key : ∀ (N : Nat) (l : List Nat) (s' : PS) (M' : aM), N + l.length = 9 → l.length = pc (msk l) → msk l < 256 → (∀ v, v ∈ l → v < 8) → s'.T.np = s.T.np → s'.T.pk = s.T.pk → s'.T.na = s.T.na → s'.T.asz = s.T.asz → AS b n M0 (setNum p (msk l) s').st σ e M' → ((tkOf b n).k (s'.i + 1) ≠ 131 → rI M' 154 (800 + p) = nI l.length ∧ rI M' 155 (800 + p) = nI (nib l)) → Ex (fun z : Nat × PS => Ex (fun z : Nat × PS => ∀ M', AS b n M0 (setNum p z.1 z.2) σ e M' → post M') (fun f => ∀ M', FM b n M0 f M' → post M') ((req (tkOf b n) 125 z.2).bind (fun s2 => .ok (z.1, s2)))) (fun f => ∀ M', FM b n M0 f M' → post M') (fVals (tkOf b n) (s.T.asz a) N (msk l) s') → w_Mo_readList_L15 post (N + 1) 136 (nI (800 + p)) (nI a) (nI (msk l)) 1 M' := by
    intro N
    induction N with
    | zero =>
      intro l s' M' hN hpc hm hall e1 e2 e3 e4 a' hxy q'
      have := pc_le (msk l)
      omega
    | succ N ih =>
      intro l s' M' hN hpc hm hall e1 e2 e3 e4 a' hxy q'
      rw [fVals] at q'
      rcases a' with r' | ⟨hb, f'⟩
      · unfold w_Mo_readList_L15
        refine br_f (by decide) (nb_t r'.R.L.fl ?_)
        have F58 : ∀ (f : Fl) (M2 : aM), FM b n M0 f M2 → (∀ M', FM b n M0 f M' → post M') → w_Mo_readList_J58 post (w_Mo_readList_L15 post (N + 1)) 136 (nI (800 + p)) (nI a) (nI (msk l)) M2 := by
          intro f M2 f2 q2
          unfold w_Mo_readList_J58
          refine nb_f f2.ne ?_
          unfold w_Mo_readList_J111
          refine m_nextF f2 (nb_f f2.ne ?_)
          unfold w_Mo_readList_J136 w_Mo_readList_J137
          exact br_t rfl (LF f M2 N _ _ f2 q2)
        have na' : a < (setNum p (msk l) s').st.T.na := by show a < s'.T.na; omega
        have ez : (setNum p (msk l) s').st.T.asz a = s.T.asz a := by show s'.T.asz a = _; rw [e4]
        refine m_value (a := a) h0 r'.R na' (fun z M2 f2 => ?_) (fun z z1 M2 f2 => ?_) (fun z z1 => ?_)
        · have z2 : (tkOf b n).k (s'.i + 1) ≠ 129 := z
          rw [if_pos z2] at q'
          exact nb_f f2.ne (F58 _ _ f2 q')
        · have z2 : (tkOf b n).k (s'.i + 1) = 129 := z
          rw [ez] at z1
          have z3 : s.T.asz a ≤ (tkOf b n).v (s'.i + 1) := z1
          rw [if_neg (fun g => g z2), if_pos (Or.inl z3)] at q'
          exact nb_f f2.ne (F58 _ _ f2 q')
        · have z2 : (tkOf b n).k (s'.i + 1) = 129 := z
          rw [ez] at z1
          have z3 : (tkOf b n).v (s'.i + 1) < s.T.asz a := z1
          have hv8 : (tkOf b n).v (s'.i + 1) < 8 := by omega
          have e37 : rI M' 136 37 = nI ((tkOf b n).v (s'.i + 1)) := r'.R.L.num z2
          refine nb_t r'.R.L.fl ?_
          rw [e37, bit_get _ hm _ hv8]
          obtain ⟨hx1, hy1⟩ := hxy (by omega)
          cases hbit : (msk l).testBit ((tkOf b n).v (s'.i + 1)) with
          | true =>
            rw [if_neg (fun g => g z2), if_pos (Or.inr hbit)] at q'
            exact nb_t rfl (m_bad h0 r'.R.L (fun M2 f2 => F58 _ _ f2 (q')))
          | false =>
            rw [if_neg (fun g => g z2), if_neg (by rw [hbit]; simp; omega)] at q'
            refine nb_f (by decide) ?_
            have bs := bit_set (msk l) hm _ hv8
            have hpc2 := pc_set (msk l) hm _ hv8 hbit
            have hl8 : l.length < 8 := by have := pc_le (msk l ||| 1 <<< (tkOf b n).v (s'.i + 1)); omega
            have hnl := nib_lt l hall
            unfold w_Mo_readList_J58
            refine nb_t r'.R.L.fl ?_
            have k1 : (rK M' 155).2 = 1200 := m_K h0 r'.R.L.fr 154 1200
            have k2 : (rK M' 154).2 = 1200 := m_K h0 r'.R.L.fr 153 1200
            have e149 : rI M' 155 (800 + p) ||| (nI ((tkOf b n).v (s'.i + 1)) <<< (((4 : Int32) * nI l.length) &&& 31)) = nI (nib (l ++ [(tkOf b n).v (s'.i + 1)])) := by
              rw [hy1, nib_shl _ hl8 _ hv8, nI_or, nib_or hnl, nib_app]
            simp (disch := omega) only [Nat.reduceAdd, k1, k2, nI_clamp, e37, bs.1, hx1, e149, rw_n, nI_1]
            have hin : vp_in (nI (800 + p)) 1200 := vin (by omega)
            refine ⟨hin, hin, hin, hin, hin, ?_⟩
            have r2 : RS b n M0 (setNum p (msk (l ++ [(tkOf b n).v (s'.i + 1)])) s').st σ e (wI (wI M' 155 (800 + p) (nI (nib (l ++ [(tkOf b n).v (s'.i + 1)])))) 154 (800 + p) (nI (l.length + 1))) := by
              have eT : up (up s'.T.pnum p (msk l)) p (msk (l ++ [(tkOf b n).v (s'.i + 1)])) = up s'.T.pnum p (msk (l ++ [(tkOf b n).v (s'.i + 1)])) := by
                funext i
                by_cases g : i = p
                · subst g; rw [up_s, up_s]
                · rw [up_n g, up_n g, up_n g]
              have m2 := RepM.addV (p := p) (l := l) (v := (tkOf b n).v (s'.i + 1)) r'.R.T (by show p < s'.T.np; omega) (by show s'.T.pk p = 17 ∨ s'.T.pk p = 18; rw [e2]; exact hk) hl8 hall hv8
              have r3 := RM.T2 (T' := (Txt.s_pnum (setNum p (msk l) s').st.T (up (setNum p (msk l) s').st.T.pnum p (msk (l ++ [(tkOf b n).v (s'.i + 1)]))))) (M' := wI (wI M' 155 (800 + p) (nI (nib (l ++ [(tkOf b n).v (s'.i + 1)])))) 154 (800 + p) (nI (l.length + 1))) (o' := opS σ + e) r'.R ((r'.R.L.fr.w (by unfold dLo; omega)).w (by unfold dLo; omega)) (fun j hj => by simp (disch := omega) only [rw_n]) (by simp only [mR_19, mR_18]; exact m2) r'.R.cn (Nat.le_refl _) r'.R.lnm
              have r4 := RS.ks r' r3 ((Ks.refl.w (by omega)).w (by omega)) (Nat.le_refl _)
              have e5 : ((PS.s_T (setNum p (msk l) s').st ((Txt.s_pnum (setNum p (msk l) s').st.T (up (setNum p (msk l) s').st.T.pnum p (msk (l ++ [(tkOf b n).v (s'.i + 1)])))))) : PS) = (setNum p (msk (l ++ [(tkOf b n).v (s'.i + 1)])) s').st := by
                show ((s'.i + 1, (Txt.s_pnum (s'.T) (up (up s'.T.pnum p (msk l)) p (msk (l ++ [(tkOf b n).v (s'.i + 1)])))), s'.os, s'.od) : PS) = _
                rw [eT]
                rfl
              rw [e5] at r4
              exact r4
            have hm2 : msk (l ++ [(tkOf b n).v (s'.i + 1)]) = msk l ||| 1 <<< (tkOf b n).v (s'.i + 1) := msk_app _ _
            rw [← hm2] at q' bs hpc2 ⊢
            have x148 : ∀ M2, FT (wI (wI M' 155 (800 + p) (nI (nib (l ++ [(tkOf b n).v (s'.i + 1)])))) 154 (800 + p) (nI (l.length + 1))) M2 → rI M2 154 (800 + p) = nI (l.length + 1) ∧ rI M2 155 (800 + p) = nI (nib (l ++ [(tkOf b n).v (s'.i + 1)])) := fun M2 ft => by
              rw [ft.2.2.2.1 154 (by omega), ft.2.2.2.1 155 (by omega)]
              exact ⟨rw_ss, by rw [rw_n (by omega), rw_ss]⟩
            generalize hM2 : wI (wI M' 155 (800 + p) (nI (nib (l ++ [(tkOf b n).v (s'.i + 1)])))) 154 (800 + p) (nI (l.length + 1)) = M2 at r2 x148 ⊢
            unfold w_Mo_readList_J111
            refine m_nextR h0 r2.R (by show (tkOf b n).k (s'.i + 1) ≠ 130; omega) (fun M3 ft3 a3 => ?_)
            rcases a3 with r3 | ⟨hb3, f3⟩
            · have r3' : RS b n M0 (setNum p (msk (l ++ [(tkOf b n).v (s'.i + 1)])) s').st.st σ e M3 := ⟨r3, by rw [ft3.ks.2]; exact r2.h, r2.k.ks ft3.ks (Nat.le_refl _), r2.l⟩
              refine nb_t r3.L.fl ?_
              refine m_is h0 r3.L (c := 44) rfl ?_
              have ek : (tkOf b n).k (setNum p (msk (l ++ [(tkOf b n).v (s'.i + 1)])) s').st.st.i = (tkOf b n).k (s'.i + 2) := rfl
              rw [ek]
              by_cases g : (tkOf b n).k (s'.i + 2) = 44
              · rw [if_neg (fun z => z g)] at q'
                rw [decide_eq_true g]
                refine br_f (by decide) ?_
                unfold w_Mo_readList_J137
                refine br_f (by decide) ?_
                refine m_nextR h0 r3 (by show (tkOf b n).k (s'.i + 2) ≠ 130; omega) (fun M4 ft4 a4 => ?_)
                have x4 : rI M4 154 (800 + p) = nI (l.length + 1) ∧ rI M4 155 (800 + p) = nI (nib (l ++ [(tkOf b n).v (s'.i + 1)])) := x148 M4 (ft3.trans ft4)
                refine ih (l ++ [(tkOf b n).v (s'.i + 1)]) s'.st.st M4 ?_ ?_ bs.2 ?_ e1 e2 e3 e4 ?_ (fun _ => ?_) q'
                · rw [List.length_append]; show N + (l.length + 1) = 9; omega
                · rw [List.length_append, hpc2]; show l.length + 1 = _; omega
                · intro w hw
                  rcases List.mem_append.1 hw with hw | hw
                  · exact hall w hw
                  · rw [List.mem_singleton.1 hw]; exact hv8
                · rcases a4 with r4 | f4
                  · exact Or.inl ⟨r4, by rw [ft4.ks.2]; exact r3'.h, r3'.k.ks ft4.ks (Nat.le_refl _), r3'.l⟩
                  · exact Or.inr f4
                · rw [List.length_append]; exact x4
              · rw [if_pos g] at q'
                rw [decide_eq_false g]
                refine br_t rfl ?_
                unfold w_Mo_readList_J136 w_Mo_readList_J137
                refine br_t rfl ?_
                unfold w_Mo_readList_L15
                exact br_t rfl (fin _ s'.st.st M3 (Or.inl r3') q')
            · have hb4 : (tkOf b n).k (s'.i + 2) = 131 := hb3
              refine nb_f f3.ne ?_
              unfold w_Mo_readList_J136 w_Mo_readList_J137
              refine br_t rfl ?_
              rw [if_pos (by omega)] at q'
              unfold w_Mo_readList_L15
              exact br_t rfl (fin _ s'.st.st M3 (Or.inr ⟨hb3, f3⟩) q')
      · have hb2 : (tkOf b n).k (s'.i + 1) = 131 := hb
        rw [if_pos (by omega)] at q'
        refine LF _ M' (N + 1) _ _ f' ?_
        have e : rf (tkOf b n) 2 s'.st = (1, (tkOf b n).pl (s'.i + 1)) := rf_bad hb2
        rw [e] at q'
        exact q'
  unfold w_Mo_readList
  refine m_nextR h0 h.R hk0 (fun M1 ft1 a1 => ?_)
  rw [fList] at q
  rcases a1 with r1 | ⟨hb1, f1⟩
  · refine m_eat h0 r1.L (c := 123) rfl (fun z M2 ft2 a2 => ?_) (fun z M2 f2 => ?_)
    · have z2 : (tkOf b n).k (s.i + 1) = 123 := z
      rw [if_neg (fun g => g z2)] at q
      refine ⟨10, ?_⟩
      have ft12 := ft1.trans ft2
      have e0 : setNum p 0 s.st = s.st ∨ True := Or.inr trivial
      have hpn : s.T.pnum p = 0 := by
        have hn := h.R.T.pnum p hp
        rw [Nm, if_pos hk] at hn
        obtain ⟨l, hl1, hl2, hl3, hl4, hl5⟩ := hn
        have e1 : mR M 2 18 p = 0 := hx0
        rw [e1] at hl3
        have : l.length = 0 := ((nI_eq (a := 0) (by omega) (by omega)).1 hl3).symm
        rw [hl5]
        cases l with
        | nil => rfl
        | cons _ _ => cases this
      have es : setNum p (msk []) s.st = s.st := by
        have eu : up s.T.pnum p 0 = s.T.pnum := by
          funext i
          by_cases g : i = p
          · subst g; rw [up_s, hpn]
          · rw [up_n g]
        show ((s.i + 1, (Txt.s_pnum s.T (up s.T.pnum p 0)), s.os, s.od) : PS) = _
        rw [eu]
        rfl
      refine key 9 [] s.st M2 rfl rfl (by decide) (fun v hv => by cases hv) rfl rfl rfl rfl ?_ (fun _ => ?_) (Ex_bind q)
      · rw [es]
        rcases a2 with a2 | a2
        · exact Or.inl ⟨r1.ft ft2 a2, by rw [ft12.ks.2]; exact h.h, h.k.ks ft12.ks (Nat.le_refl _), h.l⟩
        · exact Or.inr a2
      · rw [ft12.2.2.2.1 154 (by omega), ft12.2.2.2.1 155 (by omega), hx0, hy0]
        exact ⟨rfl, rfl⟩
    · have z2 : (tkOf b n).k (s.i + 1) ≠ 123 := z
      rw [if_pos z2] at q
      exact ⟨1, LF _ M2 0 _ _ f2 q⟩
  · have hb2 : (tkOf b n).k (s.i + 1) = 131 := hb1
    rw [if_pos (by omega)] at q
    have e : rf (tkOf b n) 2 s.st = (1, (tkOf b n).pl (s.i + 1)) := rf_bad hb2
    rw [e] at q
    exact m_eatF h0 f1 ⟨1, LF _ M1 0 _ _ f1 q⟩
end MT
