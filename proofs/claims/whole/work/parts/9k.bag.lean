/-! AGAIN, BAG, DECIDE. -/
def a_again (S : Sx) : Option (Int32 × Sx) := if S.pn ≤ 6000 then some (nI S.pn, S.tp (fun j => if j < S.pn then S.pb j else S.b j) S.pn S.fk) else none
theorem cp_r {M : aM} {a c sp dp n k : Nat} : rI (aCpy M a c sp dp n) k = if k = c then va_cpy (rI M a) (rI M c) sp dp n else rI M k := rfl
section AG
variable {S : Sx} {M : aM} {post : Int32 → aM → Prop} {ex : Nat → Prop} {e2 : Nat}
theorem c_again (so : SO S) (h : CI S M) (q : CA M post ex 2 e2 ((a_again S).map some)) : w_J_again post ex 1 M := by
  unfold w_J_again
  have lp := so.pn
  have ln := h.tp.ln
  have hpn : rI M (1 + 130) 1 = nI S.pn := h.pn
  refine pk_le S.pn 6000 (fun z => ?_) (fun z => ?_) hpn rfl
  · unfold a_again at q
    rw [if_pos z] at q
    have k9 : (rK M (1 + 130 + 1)).2 = 22000 := mK h.tp.K 131 22000
    have k4 : (rK M (1 + 1 + 1 + 1)).2 = 6000 := mK h.tp.K 3 6000
    unfold w_Tp_replace
    have f1 : (if (Int32.ofNat 22000) < (6000 : Int32) then (Int32.ofNat 22000) else (6000 : Int32)) = 6000 := if_neg (by decide)
    have f2 : (if (6000 : Int32) < nI S.pn then (6000 : Int32) else nI S.pn) = nI S.pn := if_neg (nI_nlt (a := 6000) (by omega) (by omega))
    have f3 : (if (0 : Int32) < nI S.pn then nI S.pn else (0 : Int32)) = nI S.pn := by
      split
      · rfl
      · next c =>
        by_cases y : S.pn = 0
        · rw [y]; rfl
        · exact absurd (nI_lt (a := 0) (b := S.pn) (by omega) (by omega)) c
    simp only [k9, k4, hpn, f1, f2, f3, rw_ss]
    rw [nI_clamp (by omega), show ((0 : Int32)).toNatClampNeg = 0 from by decide]
    refine ⟨⟨by decide, by decide, nI_pos (by omega), by omega, by omega⟩, ?_⟩
    have e1 : ∀ k, k ≠ 3 → k ≠ 4 → rI (aCpy (wI M (1 + 1 + 1) 1 (nI S.pn)) (1 + 130 + 1) (1 + 1 + 1 + 1) 0 0 S.pn) k = rI M k := fun k g1 g2 => by
      rw [cp_r, if_neg g2, rw_n g1]
    have ep : rI (aCpy (wI M (1 + 1 + 1) 1 (nI S.pn)) (1 + 130 + 1) (1 + 1 + 1 + 1) 0 0 S.pn) (1 + 130) 1 = nI S.pn := by rw [e1 _ (by omega) (by omega)]; exact hpn
    rw [ep]
    refine q _ (h.fr3 ⟨h.tp.K, ?_, z, fun j hj => ?_, fun j hj => ?_, fun j => ?_, h.tp.ws.fr (e1 _ (by omega) (by omega)) (e1 _ (by omega) (by omega))⟩ ?_ (fun k g1 g2 _ => e1 k (by omega) (by omega)) (fun _ _ => rfl)) ⟨rfl, rfl, rfl, fun k hk => e1 k (by omega) (by omega), fun _ _ => rfl⟩
    · rw [cp_r, if_neg (by omega)]; exact rw_ss
    · show rI (aCpy (wI M 3 1 (nI S.pn)) 132 4 0 0 S.pn) 4 j = nI (if j < S.pn then S.pb j else S.b j)
      rw [cp_r, if_pos rfl, pk_cpy_in (by omega) (by omega), if_pos hj, rw_n (by omega), show 0 + (j - 0) = j by omega]
      exact h.pb j hj
    · show rI (aCpy (wI M 3 1 (nI S.pn)) 132 4 0 0 S.pn) 4 j = nI (if j < S.pn then S.pb j else S.b j)
      rw [cp_r, if_pos rfl]
      by_cases y : j < S.pn
      · rw [pk_cpy_in (by omega) (by omega), if_pos y, rw_n (by omega), show 0 + (j - 0) = j by omega]
        exact h.pb j y
      · rw [pk_cpy_out (by omega), if_neg y, rw_n (by omega)]
        exact h.tp.b6 j hj
    · show (if j < S.pn then S.pb j else S.b j) < 256
      split
      · exact so.pb j
      · exact h.tp.lb j
    · rw [e1 _ (by omega) (by omega)]; exact h.fk
  · unfold a_again at q
    rw [if_neg (by omega)] at q
    exact q
theorem l_34 {M0 : aM} {pn : Nat} {pb : Nat → Nat} (K0 : KOk (rK M0)) (e60 : rI M0 136 60 = nI pn) (e177 : ∀ j, j < pn → rI M0 183 j = sx (pb j)) (lb : ∀ j, pb j < 256) (hp : pn ≤ 6000) (q : ∀ M', FD M0 M' → (∀ k, k ≠ 137 → rI M' k = rI M0 k) → (∀ j, j < pn → rI M' 137 j = sx (pb j)) → post (rI M' 136 2) M') : ∀ d k M, k + d = pn → FD M0 M → (∀ k, k ≠ 137 → rI M k = rI M0 k) → (∀ j, j < k → rI M 137 j = sx (pb j)) → w_Mo_again_L34 post (d + 1) 136 (nI k) M := by
  intro d
  induction d with
  | zero =>
    intro k M hk h1 h2 h3
    have : k = pn := by omega
    subst this
    unfold w_Mo_again_L34
    exact br_t (by rw [h2 136 (by omega), e60]; exact Int32.le_refl _) (q M h1 h2 h3)
  | succ d ih =>
    intro k M hk h1 h2 h3
    unfold w_Mo_again_L34
    have kk : rK M = rK M0 := h1.k
    have k47 : (rK M (136 + 47)).2 = 40000 := by rw [kk]; exact mK K0 182 40000
    have k1 : (rK M (136 + 1)).2 = 6000 := by rw [kk]; exact mK K0 136 6000
    have e1 : rI M (136 + 47) k = sx (pb k) := by rw [h2 _ (by omega)]; exact e177 k (by omega)
    refine pk_le pn k (fun z => by omega) (fun _ => ?_) (by rw [h2 136 (by omega)]; exact e60) rfl
    rw [nI_clamp (by omega), k47, k1, e1, sx_8 _ (lb k), nI_1]
    refine ⟨vin (by omega), vin (by omega), ih (k + 1) _ (by omega) (h1.w (by omega)) (fun k' g => by rw [rw_n g]; exact h2 k' g) (fun j hj => ?_)⟩
    rw [rw_s]
    by_cases z : j = k
    · rw [z, up_s]
    · rw [up_n z]; exact h3 j (by omega)
theorem m_again (so : SO S) (h : MI S M) (q : MA S M post ((a_again S).map some)) : w_Mo_again post 136 M := by
  have lp := so.pn
  unfold w_Mo_again
  rw [h.pn]
  refine pk_lt 6000 S.pn (fun z => ?_) (fun z => ?_)
  · unfold a_again at q
    rw [if_neg (by omega)] at q
    unfold w_Mo_again_J16
    exact m_goes0 (nb_t rfl (ma0 h q))
  · unfold a_again at q
    rw [if_pos z] at q
    unfold w_Mo_again_J16
    refine m_goes1 (nb_f (by decide) ⟨S.pn + 1, ?_⟩)
    have e60 : rI (wI M 136 0 0) 136 60 = nI S.pn := by rw [rw_sn (by omega)]; exact h.pn
    rw [e60]
    refine l_34 (M0 := wI (wI M 136 0 0) 136 2 (nI S.pn)) (pn := S.pn) (pb := S.pb) h.tp.K (by rw [rw_sn (by omega)]; exact e60) (fun j hj => by rw [rw_n (by omega), rw_n (by omega)]; exact h.pb j hj) so.pb z (fun M' f g1 g2 => ?_) S.pn 0 _ (by omega) FD.refl (fun _ _ => rfl) (fun j hj => absurd hj (Nat.not_lt_zero _))
    have e2 : rI M' 136 2 = nI S.pn := by rw [g1 _ (by omega)]; exact rw_ss
    rw [e2]
    refine q M' (h.fr2 ⟨?_, e2, z, fun j hj => ?_, fun j => ?_⟩ (fun k h1 _ => ?_) (fun j h1 h2 => ?_)) ?_ (((FD.refl.w (by omega)).w (by omega)).tr f)
    · rw [show rK M' = rK M from f.k]; exact h.tp.K
    · show rI M' 137 j = sx (if j < S.pn then S.pb j else S.b j)
      rw [if_pos hj]; exact g2 j hj
    · show (if j < S.pn then S.pb j else S.b j) < 256
      split
      · exact so.pb j
      · exact h.tp.lb j
    · rw [g1 _ (by omega), rw_n (by omega), rw_n (by omega)]
    · rw [g1 _ (by omega), rw_sn h2, rw_sn h1]
    · rw [g1 _ (by omega), rw_sn (by omega)]; exact rw_ss
end AG
/-! one text changes -/
theorem CI.text {S : Sx} {M M' : aM} {i : Nat} {x' : Tx} (h : CI S M) (hi : i ≤ 1) (K : KOk (rK M')) (hx : TXC M' (rR M 47 i) x') (e : ∀ k, k < 136 → (k < rR M 47 i ∨ rR M 47 i + 36 ≤ k) → rI M' k = rI M k) (r : ∀ k, k < 136 → rR M' k = rR M k) : CI (S.s_x (up S.x i x')) M' := by
  have pm := h.pm
  have ht := h.t hi
  unfold tOk at ht
  have e9 : ∀ k, 120 ≤ k → k < 136 → rI M' k = rI M k := fun k h1 h2 => e k h2 (by omega)
  have e8 : ∀ k, k < 11 → rI M' k = rI M k := fun k h1 => e k (by omega) (by omega)
  refine ⟨⟨K, by rw [e8 _ (by omega)]; exact h.tp.len, h.tp.ln, fun j hj => by rw [e8 _ (by omega)]; exact h.tp.b j hj, fun j hj => by rw [e8 _ (by omega)]; exact h.tp.b6 j hj, h.tp.lb, h.tp.ws.fr (e8 _ (by omega)) (e8 _ (by omega))⟩, by rw [e8 _ (by omega)]; exact h.fk, by rw [r _ (by omega), r _ (by omega)]; exact h.pm, fun i' hi' => ?_, by rw [e9 _ (by omega) (by omega)]; exact h.cm, fun j hj => by rw [e9 _ (by omega) (by omega)]; exact h.tl j hj, by rw [e9 _ (by omega) (by omega)]; exact h.wn, fun j hj => by rw [e9 _ (by omega) (by omega)]; exact h.wv j hj, by rw [e9 _ (by omega) (by omega)]; exact h.pn, fun j hj => by rw [e9 _ (by omega) (by omega)]; exact h.pb j hj, h.pw.fr (e9 _ (by omega) (by omega)) (e9 _ (by omega) (by omega))⟩
  rw [r _ (by omega)]
  show TXC M' (rR M 47 i') (up S.x i x' i')
  by_cases z : i' = i
  · subst z; rw [up_s]; exact hx
  · rw [up_n z]
    refine (h.x i' hi').fr (fun c hc => ?_)
    have hi2 : (i = 0 ∧ i' = 1) ∨ (i = 1 ∧ i' = 0) := by omega
    unfold PM at pm
    refine e _ ?_ ?_
    all_goals rcases hi2 with ⟨rfl, rfl⟩ | ⟨rfl, rfl⟩ <;> omega
theorem MI.text {S : Sx} {M M' : aM} {i : Nat} {x' : Tx} (h : MI S M) (hi : i ≤ 1) (K : KOk (rK M')) (hx : TXM M' i x') (ho : ∀ i', i' ≤ 1 → i' ≠ i → TXM M' i' (S.x i')) (e : ∀ k, k = 137 ∨ k = 141 ∨ k = 142 ∨ k = 177 ∨ k = 178 ∨ k = 183 → rI M' k = rI M k) (e0 : ∀ j, j ≠ 0 → rI M' 136 j = rI M 136 j) : MI (S.s_x (up S.x i x')) M' := by
  refine ⟨⟨K, by rw [e0 _ (by omega)]; exact h.tp.len, h.tp.ln, fun j hj => by rw [e _ (by omega)]; exact h.tp.b j hj, h.tp.lb⟩, ?_, by rw [e0 _ (by omega)]; exact h.sz, by rw [e0 _ (by omega)]; exact h.fk, fun i' hi' => ?_, by rw [e0 _ (by omega)]; exact h.cm, fun j hj => by rw [e _ (by omega)]; exact h.tl j hj, by rw [e0 _ (by omega), e0 _ (by omega)]; exact h.wn, fun j hj => by rw [e _ (by omega)]; exact h.wv j hj, by rw [e0 _ (by omega)]; exact h.pn, fun j hj => by rw [e _ (by omega)]; exact h.pb j hj⟩
  · intro k j hk
    rw [e k (by omega)]; exact h.bq k j hk
  · show TXM M' i' (up S.x i x' i')
    by_cases z : i' = i
    · subst z; rw [up_s]; exact hx
    · rw [up_n z]; exact ho i' hi' z
theorem RepC.setBag {R : Nat → Nat → Int32} {T : Txt} {g : Nat → Nat} {j m : Nat} (h : RepC R T g) : RepC (up R 8 (up (R 8) j (nI m))) T (up g j m) := ⟨h.na,
      h.lna,
      h.asz,
      h.lasz,
      h.amany,
      h.amust,
      fun i hi => by
    show up (R 8) j (nI m) i = nI (up g j m i)
    by_cases z : i = j
    · subst z; rw [up_s, up_s]
    · rw [up_n z, up_n z]; exact h.bag i hi,
      h.anl,
      h.lanl,
      h.anm,
      h.nn,
      h.lnn,
      h.srt,
      h.way,
      h.fa,
      h.lfa,
      h.root,
      h.own,
      h.chn,
      h.lchn,
      h.nxt,
      h.lst,
      h.nnl,
      h.lnnl,
      h.nnm,
      h.nd,
      h.lnd,
      h.dnum,
      h.dof,
      h.dfor,
      h.np,
      h.lnp,
      h.pk,
      h.pa,
      h.pnum,
      h.pj,
      h.pf,
      h.pn⟩
theorem RepM.bag7 {R : Nat → Nat → Int32} {T : Txt} {g g' : Nat → Nat} {r : Nat → Int32} (m : RepM R T g) (e : ∀ i, i < T.na → r i = nI (g' i)) : RepM (up R 7 r) T g' := ⟨m.na,
      m.lna,
      m.asz,
      m.lasz,
      m.amany,
      m.amust,
      fun i hi => e i hi,
      m.anl,
      m.lanl,
      m.anm,
      m.nn,
      m.lnn,
      m.srt,
      m.way,
      m.fa,
      m.root,
      m.nnl,
      m.lnnl,
      m.nnm,
      m.np,
      m.lnp,
      m.pk,
      m.pa,
      m.pnum,
      m.pf,
      m.pn,
      m.dn,
      m.cm,
      m.ldn,
      m.nd,
      m.lnd,
      m.dof,
      m.dfor,
      m.dnum⟩
theorem mR_7b {M : aM} {i k : Nat} {x : Int32} : mR (wI M 143 k x) i = up (mR M i) 7 (mR (wI M 143 k x) i 7) := by
  funext c
  by_cases z : c = 7
  · subst z; rw [up_s]
  · rw [up_n z]
    funext j
    unfold mR
    by_cases y : c = 0 ∨ 31 ≤ c
    · rw [if_pos y, if_pos y]
    · rw [if_neg y, if_neg y, rw_n (by omega)]
abbrev Sx.bg (S : Sx) (i j m : Nat) : Sx := S.s_x (up S.x i ((S.x i).s_g (up (S.x i).g j m)))
def okB (T : Txt) (j m : Nat) : Bool := T.amany j || decide (pc m ≤ 1)
def a_bag (S : Sx) (v1 v2 v3 : Int32) : Option (Option (Int32 × Sx)) := (pres S v1).bind fun i => (idx v2 (S.x i).T.na).map fun j => (idx v3 (2 ^ (S.x i).T.asz j)).bind fun m => if okB (S.x i).T j m then some (nI ((S.x i).g j), S.bg i j m) else none
theorem shl8 : ∀ v, v < 9 → ((1 : Int32) <<< (nI v &&& 31)) = nI (2 ^ v) ∧ 2 ^ v ≤ 256 := by decide +kernel
theorem pc1 : ∀ m, m < 256 → ((nI m &&& (nI m - 1)) = 0 ↔ pc m ≤ 1) := by decide +kernel
section BA
variable {S : Sx} {M : aM} {post : Int32 → aM → Prop} {ex : Nat → Prop} {v1 v2 v3 : Int32}
theorem c_allows {p2 : Int32 → Prop} {t j : Nat} {T : Txt} {g : Nat → Nat} (R : RepC (cR M t) T g) (K : KOk (rK M)) (ht : tOk t) (hj : j < T.na) (p0 : (idx v3 (2 ^ T.asz j)).bind (fun m => if okB T j m then some m else none) = none → p2 0) (p1 : ∀ m, m < 256 → v3 = nI m → idx v3 (2 ^ T.asz j) = some m → okB T j m = true → p2 1) : w_At_allows p2 (t + 1) (nI j) v3 M := by
  have lna := R.lna
  have ls := R.lasz j hj
  have s8 := shl8 (T.asz j) (by omega)
  have e5 : rI M (t + 1 + 4) j = nI (T.asz j) := R.asz j hj
  have e6 : rI M (t + 1 + 5) j = bI (T.amany j) := R.amany j hj
  have iv : ∀ n, n = 8 → vp_in (nI j) n := fun n hn => by rw [hn]; exact vin (by omega)
  unfold w_At_allows
  rw [nI_clamp (by omega), e5, s8.1]
  cases z : idx v3 (2 ^ T.asz j) with
  | none =>
    rw [z] at p0
    have p := p0 rfl
    rcases idx_no (by omega) z with y | y
    · exact br_t y ⟨Or.inl rfl, p⟩
    · exact ⟨fun _ => ⟨Or.inl rfl, p⟩, fun _ => ⟨iv _ (K.tl ht 5 8), br_t y ⟨Or.inl rfl, p⟩⟩⟩
  | some m =>
    obtain ⟨hm, e⟩ := idx_ok (by omega) z
    rw [z] at p0
    have p0' : okB T j m = false → p2 0 := fun c => p0 (by rw [Option.bind_some, c]; rfl)
    have p1' := p1 m (by omega) e z
    subst e
    refine br_f (nI_pos (by omega)) ⟨iv _ (K.tl ht 5 8), pk_le (2 ^ T.asz j) m (fun c => by omega) (fun _ => ⟨iv _ (K.tl ht 6 8), ?_⟩)⟩
    refine pk_nb0 (T.amany j) (fun c => ⟨Or.inr rfl, p1' (by unfold okB; rw [c]; rfl)⟩) (fun c => ?_) e6 rfl
    refine c_bits (by omega) ?_
    have := pc_le m
    refine pk_lt 1 (pc m) (fun y => ⟨Or.inl rfl, p0' ?_⟩) (fun y => ⟨Or.inr rfl, p1' ?_⟩)
    · unfold okB; rw [c, decide_eq_false (by omega)]; rfl
    · unfold okB; rw [c, decide_eq_true y]; rfl
theorem c_bag (h : CI S M) (q : CA M post ex 0 1 (a_bag S v1 v2 v3)) : w_J_bag post ex 1 v1 v2 v3 M := by
  unfold w_J_bag
  refine c_pres h (fun z => ?_) (fun i z hi e hp => ?_)
  · simp only [a_bag, z, Option.bind_none] at q; exact q
  have R := (h.x i hi).R hp
  have ht := h.t hi
  have lna := R.lna
  refine c_idx (S.x i).T.na (by omega) (fun y => ?_) (fun j y hj e2 => ?_) R.na
  · simp only [a_bag, z, y, Option.bind_some, Option.map_none] at q; exact q
  simp only [a_bag, z, y, Option.bind_some, Option.map_some] at q
  subst e2
  refine c_allows R h.tp.K ht hj (fun u => nb_t rfl ?_) (fun m hm e3 u g => nb_f (by decide) ?_)
  · cases u1 : idx v3 (2 ^ (S.x i).T.asz j) with
    | none => simp only [u1, Option.bind_none] at q; exact q
    | some m =>
      rw [u1, Option.bind_some] at u
      simp only [u1, Option.bind_some] at q
      cases g : okB (S.x i).T j m with
      | false => simp only [g] at q; exact q
      | true => rw [g] at u; cases u
  · simp only [u, Option.bind_some, g, if_true] at q
    subst e3
    rw [nI_clamp (by omega)]
    have iv : vp_in (nI j) (rK M (rR M 47 i + 1 + 7)).2 := by rw [show (rK M (rR M 47 i + 1 + 7)).2 = 8 from h.tp.K.tl ht 8 8]; exact vin (by omega)
    refine ⟨iv, iv, ?_⟩
    rw [show rI M (rR M 47 i + 1 + 7) j = _ from R.bag j hj]
    have t81 : rR M 47 i ≤ 84 := by unfold tOk at ht; omega
    have t8 : 11 ≤ rR M 47 i := by unfold tOk at ht; omega
    have X := h.x i hi
    refine q _ (h.text hi h.tp.K ⟨?_, ?_, ?_, ?_, ?_⟩ (fun k g1 g2 => rw_n (by omega)) (fun _ _ => rfl)) ⟨rfl, rfl, rfl, fun k hk => rw_n (by omega), fun _ _ => rfl⟩
    · rw [rw_n (by omega)]; exact X.p
    · intro p; rw [rw_n (by omega)]; exact X.j p
    · intro p
      have := (X.R p).setBag (j := j) (m := m)
      have e : cR (wI M (rR M 47 i + 8) j (nI m)) (rR M 47 i) = _ := cR_w
      rw [show rR M 47 i + 1 + 7 = rR M 47 i + 8 from rfl, e]
      exact this
    · intro p p2 k g1 g2
      rw [rw_n (by omega), rw_n (by omega), rw_n (by omega)]
      exact X.v p p2 k g1 g2
    · intro p p2
      have := X.o p p2
      exact ⟨by rw [rw_n (by omega)]; exact this.1, fun k hk => by rw [rw_n (by omega)]; exact this.2 k hk⟩
theorem m_isBag {p2 : Int32 → Prop} {i j : Nat} {T : Txt} {g : Nat → Nat} (R : RepM (mR M i) T g) (K : KOk (rK M)) (hi : i ≤ 1) (hj : j < T.na) (p0 : (idx v3 (2 ^ T.asz j)).bind (fun m => if okB T j m then some m else none) = none → p2 0) (p1 : ∀ m, m < 256 → v3 = nI m → idx v3 (2 ^ T.asz j) = some m → okB T j m = true → p2 1) : w_Mo_isBag p2 136 (nI (8 * i + j)) v3 M := by
  have lna := R.lna
  have ls := R.lasz j hj
  have s8 := shl8 (T.asz j) (by omega)
  have rd : ∀ c, 1 ≤ c ∧ c < 31 → szM c = 8 → rI M (136 + c) (8 * i + j) = mR M i c j := fun c hc hs => by rw [mRr hc, hs, Nat.mul_comm]
  have e4 : rI M (136 + 4) (8 * i + j) = nI (T.asz j) := by rw [rd 4 (by omega) rfl]; exact R.asz j hj
  have e5 : rI M (136 + 5) (8 * i + j) = bI (T.amany j) := by rw [rd 5 (by omega) rfl]; exact R.amany j hj
  have iv : ∀ n, n = 24 → vp_in (nI (8 * i + j)) n := fun n hn => by rw [hn]; exact vin (by omega)
  unfold w_Mo_isBag
  rw [nI_clamp (by omega), e4, s8.1]
  refine ⟨iv _ (mK K 139 24), m_idx (2 ^ T.asz j) (by omega) (fun z => br_t rfl ⟨Or.inl rfl, p0 (by rw [z]; rfl)⟩) (fun m z hm e => br_f (by decide) ⟨iv _ (mK K 140 24), ?_⟩)⟩
  have p0' : okB T j m = false → p2 0 := fun c => p0 (by rw [z, Option.bind_some, c]; rfl)
  have p1' := p1 m (by omega) e z
  subst e
  refine pk_nb0 (T.amany j) (fun c => ⟨Or.inr rfl, p1' (by unfold okB; rw [c]; rfl)⟩) (fun c => ?_) e5 rfl
  have h1 := pc1 m (by omega)
  by_cases y : pc m ≤ 1
  · exact nb_t (h1.mpr y) ⟨Or.inr rfl, p1' (by unfold okB; rw [c, decide_eq_true y]; rfl)⟩
  · exact nb_f (fun u => y (h1.mp u)) ⟨Or.inl rfl, p0' (by unfold okB; rw [c, decide_eq_false y]; rfl)⟩
theorem m_bag (h : MI S M) (q : MA S M post (a_bag S v1 v2 v3)) : w_Mo_bag post 136 v1 v2 v3 M := by
  unfold w_Mo_bag
  have no : ∀ (_ : MA S M post none), w_Mo_bag_J33 post 136 v1 v2 v3 136 1 M := fun q => by
    unfold w_Mo_bag_J33
    rw [rw_ss]
    exact br_f (by decide) (ma0 h q)
  have no2 : ∀ (_ : MA S M post (some none)), w_Mo_bag_J33 post 136 v1 v2 v3 136 2 M := fun q => by
    unfold w_Mo_bag_J33
    rw [rw_ss]
    exact br_f (by decide) (ma2 h q)
  refine m_isAttr h (fun z => nb_t rfl (no ?_)) (fun i z y => nb_t rfl (no ?_)) (fun i j z hi e hp y hj e2 => nb_f (by decide) ?_)
  · simp only [a_bag, z, Option.bind_none] at q; exact q
  · simp only [a_bag, z, y, Option.bind_some, Option.map_none] at q; exact q
  simp only [a_bag, z, y, Option.bind_some, Option.map_some] at q
  have X := h.x i hi
  have R := X.R hp
  have lna := R.lna
  subst e e2
  rw [m8]
  refine m_isBag R h.tp.K hi hj (fun u => nb_t rfl (no2 ?_)) (fun m hm e3 u g => nb_f (by decide) ?_)
  · cases u1 : idx v3 (2 ^ (S.x i).T.asz j) with
    | none => simp only [u1, Option.bind_none] at q; exact q
    | some m =>
      rw [u1, Option.bind_some] at u
      simp only [u1, Option.bind_some] at q
      cases g : okB (S.x i).T j m with
      | false => simp only [g] at q; exact q
      | true => rw [g] at u; cases u
  · simp only [u, Option.bind_some, g, if_true] at q
    subst e3
    unfold w_Mo_bag_J33
    rw [rw_ss, m8, nI_clamp (by omega), rw_n (by omega)]
    have iv : vp_in (nI (8 * i + j)) (rK M (136 + 7)).2 := by rw [show (rK M (136 + 7)).2 = 24 from mK h.tp.K 142 24]; exact vin (by omega)
    have eb : rI M (136 + 7) (8 * i + j) = nI ((S.x i).g j) := by
      have := R.bag j hj
      rw [mRr (by omega), show szM 7 = 8 from rfl, Nat.mul_comm] at this
      exact this
    rw [eb]
    refine br_t (by decide) ⟨iv, iv, ?_⟩
    have X1 := (h.t (x := 0)).x i hi
    have h1 := h.t (x := 0)
    have e130 : rI (wI (wI M 136 0 0) (136 + 7) (8 * i + j) (nI m)) 136 0 = 0 := by rw [rw_n (by omega)]; exact rw_ss
    have fd1 : FD M (wI (wI M 136 0 0) (136 + 7) (8 * i + j) (nI m)) := (FD.refl.w (by omega)).w (by omega)
    refine q _ ?_ e130 fd1
    have e0 : ∀ j', j' ≠ 0 → rI (wI (wI M 136 0 0) (136 + 7) (8 * i + j) (nI m)) 136 j' = rI M 136 j' := fun j' g => by rw [rw_n (by omega), rw_sn g]
    generalize wI M 136 0 0 = M1 at h1 X1 e0
    have ev : ∀ i' j', i' ≤ 1 → j' < 8 → mR (wI M1 143 (8 * i + j) (nI m)) i' 7 j' = if i' = i ∧ j' = j then nI m else mR M1 i' 7 j' := by
      intro i' j' g1 g2
      rw [mRr (by omega), mRr (by omega), rw_e, show szM 7 = 8 from rfl]
      by_cases c : i' = i ∧ j' = j
      · rw [if_pos c, if_pos (by omega)]
      · rw [if_neg c, if_neg (by omega)]
    refine h1.text hi h1.tp.K ⟨?_, ?_, ?_, ?_, ?_⟩ (fun i' hi' ne => ?_) (fun k hk => rw_n (by omega)) (fun j' g => by rw [rw_n (by omega)])
    · rw [rw_n (by omega)]; exact X1.p
    · intro p; rw [rw_n (by omega)]; exact X1.j p
    · intro p
      show RepM (mR (wI M1 143 (8 * i + j) (nI m)) i) (S.x i).T (up (S.x i).g j m)
      rw [mR_7b]
      refine (X1.R p).bag7 (fun k hk => ?_)
      rw [ev i k hi (by omega)]
      by_cases c : k = j
      · rw [if_pos ⟨rfl, c⟩, c, up_s]
      · rw [if_neg (fun z => c z.2), up_n c]; exact (X1.R p).bag k hk
    · intro p p2 k g1 g2
      rw [rw_n (by omega), rw_n (by omega)]
      exact X1.v p p2 k g1 g2
    · intro p p2
      have := X1.o p p2
      exact ⟨by rw [rw_n (by omega)]; exact this.1, fun k hk => by rw [rw_n (by omega)]; exact this.2 k hk⟩
    · have X2 := h1.x i' hi'
      refine ⟨by rw [rw_n (by omega)]; exact X2.p, fun p => by rw [rw_n (by omega)]; exact X2.j p, fun p => ?_, fun p p2 k g1 g2 => ?_, fun p p2 => ?_⟩
      · show RepM (mR (wI M1 143 (8 * i + j) (nI m)) i') (S.x i').T (S.x i').g
        rw [mR_7b]
        have lna2 := (X2.R p).lna
        refine (X2.R p).bag7 (fun k hk => ?_)
        rw [ev i' k hi' (by omega), if_neg (fun z => ne z.1)]; exact (X2.R p).bag k hk
      · rw [rw_n (by omega), rw_n (by omega)]
        exact X2.v p p2 k g1 g2
      · have := X2.o p p2
        exact ⟨by rw [rw_n (by omega)]; exact this.1, fun k hk => by rw [rw_n (by omega)]; exact this.2 k hk⟩
end BA

def a_decide (S : Sx) (v : Int32) : Option (Option (Int32 × Sx)) := (idx v 2).map fun i => if (S.x i).p then some (nI (dec (S.x i).T (S.x i).g 0), S.s_x (up S.x i (((S.x i).s_jd true).s_gd (S.x i).g))) else none
theorem RepC_congr1 {R R' : Nat → Nat → Int32} {T : Txt} {g : Nat → Nat} (h0 : RepC R T g) (e : ∀ c, 1 ≤ c → c < 31 → R' c = R c) : RepC R' T g := by
  have h : RepC (up R' 0 (R 0)) T g := RepC_congr h0 (fun c hc => by
    by_cases z : c = 0
    · subst z; rw [up_s]
    · rw [up_n z]; exact e c (by omega) hc)
  exact ⟨h.na,
      h.lna,
      h.asz,
      h.lasz,
      h.amany,
      h.amust,
      h.bag,
      h.anl,
      h.lanl,
      h.anm,
      h.nn,
      h.lnn,
      h.srt,
      h.way,
      h.fa,
      h.lfa,
      h.root,
      h.own,
      h.chn,
      h.lchn,
      h.nxt,
      h.lst,
      h.nnl,
      h.lnnl,
      h.nnm,
      h.nd,
      h.lnd,
      h.dnum,
      h.dof,
      h.dfor,
      h.np,
      h.lnp,
      h.pk,
      h.pa,
      h.pnum,
      h.pj,
      h.pf,
      h.pn⟩
section DE
variable {S : Sx} {M : aM} {post : Int32 → aM → Prop} {ex : Nat → Prop} {v : Int32}
theorem c_decide (so : SO S) (h : CI S M) (q : CA M post ex 0 2 (a_decide S v)) : w_J_decide post ex 1 v M := by
  unfold w_J_decide
  refine c_need h (fun z => ?_) (fun i z hp => ?_) (fun i z hi e hp => ?_)
  · simp only [a_decide, z, Option.map_none] at q; exact q
  · simp only [a_decide, z, Option.map_some, hp] at q; exact q
  simp only [a_decide, z, Option.map_some, hp, if_true] at q
  have X := h.x i hi
  have R := X.R hp
  have ht := h.t hi
  have ok := (so.x i hp).ok
  have K := h.tp.K
  have tl : 11 ≤ rR M 47 i ∧ rR M 47 i ≤ 84 := by unfold tOk at ht; omega
  have q : ∀ M', CI (S.s_x (up S.x i (((S.x i).s_jd true).s_gd (S.x i).g))) M' → FB M M' → post (nI (dec (S.x i).T (S.x i).g 0)) M' := q
  have hc : ∀ M', KOk (rK M') → TXC M' (rR M 47 i) (((S.x i).s_jd true).s_gd (S.x i).g) → (∀ k, (k < rR M 47 i ∨ rR M 47 i + 36 ≤ k) → rI M' k = rI M k) → M'.1 = M.1 → M'.2.1 = M.2.1 → M'.2.2.2 = M.2.2.2 → post (nI (dec (S.x i).T (S.x i).g 0)) M' := by
    intro M' K' X' e' n' k' r'
    have er : ∀ k, rR M' k = rR M k := fun k => congrFun (congrArg Prod.fst r') k
    exact q M' (h.text hi K' X' (fun k _ g => e' k g) (fun k _ => er k)) ⟨n', k', congrArg Prod.snd r', fun k hk => e' k (by omega), fun k _ => er k⟩
  generalize rR M 47 i = t at R ht X tl hc
  have VO1 : VO M (t + 31) t := ⟨fun c h1 h2 => by
    have : c = 1 ∨ c = 2 ∨ c = 3 ∨ c = 4 := by omega
    rcases this with rfl | rfl | rfl | rfl
    · exact K.tl ht 32 100
    · exact K.tl ht 33 100
    · exact K.tl ht 34 100
    · exact K.tl ht 35 100, Nat.le_refl _⟩
  refine c_judge (k2 := t + 8) (lo := 0) (g := (S.x i).g) R K ht VO1 ok.N ok.W ok.R ⟨K.tl ht 8 8, fun j hj => R.bag j hj, so.g i⟩ (Or.inl (by omega)) (Nat.zero_le _) (fun M2 f2 v2 => ?_)
  have R2 : RepC (cR M2 t) (S.x i).T (S.x i).g := RepC_congr R (fun c hc => f2.i _ (by omega) (by omega) (by omega))
  have K2 : KOk (rK M2) := by rw [f2.K]; exact K
  refine c_owes (v := t + 31) R2 K2 ht ⟨fun c h1 h2 => by rw [f2.K]; exact VO1.l c h1 h2, Nat.le_refl _⟩ ok.N ok.W ok.D ok.d ok.p v2 (fun M3 f3 w3 => ?_)
  have K3 : KOk (rK M3) := by rw [f3.K]; exact K2
  have v3 : VD M3 (t + 31) (S.x i).T (S.x i).g 0 := fun j h1 h2 => by
    rw [f3.i _ (by omega) (by omega), f3.i _ (by omega) (by omega), f3.i _ (by omega) (by omega)]
    exact v2 j h1 h2
  refine ⟨Or.inr rfl, by rw [show (rK M3 (t + 31 + 2)).2 = 100 from K3.tl ht 33 100]; exact vin (n := 0) (by omega), ?_⟩
  rw [rw_n (by omega), show ((0 : Int32)).toNatClampNeg = 0 from by decide, (v3 0 (Nat.le_refl _) ok.p).2.1]
  refine hc _ K3 ⟨?_, ?_, ?_, ?_, ?_⟩ (fun k g => ?_) (f3.n.trans f2.n) (f3.k.trans f2.k) (f3.r.trans f2.r)
  · rw [rw_sn (by omega), f3.i _ (by omega) (by omega), f2.i _ (by omega) (by omega) (by omega)]; exact X.p
  · intro _; rw [rw_ss]; rfl
  · intro _
    refine RepC_congr1 R (fun c c0 hc => ?_)
    show rI (wI M3 t 1 1) (t + c) = rI M (t + c)
    rw [rw_n (by omega), f3.i _ (by omega) (by omega), f2.i _ (by omega) (by omega) (by omega)]
  · intro _ _ j h1 h2
    rw [rw_n (by omega), rw_n (by omega), rw_n (by omega)]; exact v3 j h1 h2
  · intro _ _
    exact ⟨by rw [rw_n (by omega)]; exact w3.1, fun j hj => by rw [rw_n (by omega)]; exact w3.2 j hj⟩
  · rw [rw_n (by omega), f3.i _ (by omega) (by omega), f2.i _ (by omega) (by omega) (by omega)]
theorem m_decide (so : SO S) (h : MI S M) (q : MA S M post (a_decide S v)) : w_Mo_decide post 136 v M := by
  unfold w_Mo_decide
  refine m_text2 (fun z => nb_t rfl ?_) (fun i z hi e => nb_f (by decide) ?_)
  · simp only [a_decide, z, Option.map_none] at q
    unfold w_Mo_decide_J26
    rw [rw_ss]
    exact br_f (by decide) (ma0 h q)
  have k2 : (rK M (136 + 2)).2 = 3 := mK h.tp.K 137 3
  subst e
  rw [nI_clamp (n := i) (by omega)]
  refine ⟨mk3 h hi k2, pk_nb0 (S.x i).p (fun hp => ?_) (fun hp => ?_) (h.x i hi).p rfl⟩
  · simp only [a_decide, z, Option.map_some, hp, if_true] at q
    unfold w_Mo_decide_J26
    rw [rw_ss]
    refine br_t (by decide) ?_
    have ok := (so.x i hp).ok
    have q : ∀ M', MI (S.s_x (up S.x i (((S.x i).s_jd true).s_gd (S.x i).g))) M' → rI M' 136 0 = 0 → FD M M' → post (nI (dec (S.x i).T (S.x i).g 0)) M' := q
    have h0 := h.t (x := 0)
    have f0 : FD M (wI M 136 0 0) := FD.refl.w (by omega)
    have z0 : rI (wI M 136 0 0) 136 0 = 0 := rw_ss
    generalize wI M 136 0 0 = M0 at h0 f0 z0
    have X0 := h0.x i hi
    have R0 := X0.R hp
    refine m_judge (g := (S.x i).g) R0 h0.tp.K hi (so.g i) ok.N ok.W ok.R (fun M1 f1 v1 => ?_)
    have K1 : KOk (rK M1) := by rw [f1.K]; exact h0.tp.K
    have R1 := f1.M R0
    rw [nI_clamp (n := i) (by omega)]
    refine ⟨⟨by rw [show (rK M1 (136 + 28)).2 = 3 from mK K1 163 3]; exact vin (by omega), Or.inr rfl⟩, ?_⟩
    have R1' : RepM (mR (wI M1 164 i 1) i) (S.x i).T (S.x i).g := RepM_congr R1 (fun c g1 g2 => by
      funext j
      rw [mRr (by omega), mRr (by omega), rw_n (by omega)])
    have v1' : VM (wI M1 164 i 1) i (S.x i).T (S.x i).g 0 := fun j g1 g2 => by
      rw [rw_n (by omega), rw_n (by omega)]; exact v1 j g1 g2
    refine m_lay (g := (S.x i).g) R1' K1 hi ok.N ok.W ok.D ok.p v1' (fun M2 f2 w2 => ?_)
    have K2 : KOk (rK M2) := by rw [f2.K]; exact K1
    have lnn := R0.lnn
    have e29 : (100 : Int32) * nI i = nI (100 * i) := by rw [show (100 : Int32) = nI 100 from rfl, pk_mul]
    rw [e29, nI_clamp (by omega)]
    refine ⟨by rw [show (rK M2 (136 + 29)).2 = 300 from mK K2 164 300]; exact vin (by omega), ?_⟩
    have v2 : VM M2 i (S.x i).T (S.x i).g 0 := fun j g1 g2 => by
      rw [f2.i _ (by omega) (by omega) (by omega), f2.i _ (by omega) (by omega) (by omega)]; exact v1' j g1 g2
    rw [show rI M2 (136 + 29) (100 * i) = _ from (v2 0 (Nat.le_refl _) ok.p).1]
    have er : ∀ k, k ≠ 164 → k ≠ 165 → k ≠ 166 → k ≠ 172 → k ≠ 173 → k ≠ 174 → k ≠ 175 → k ≠ 176 → rI M2 k = rI M0 k := fun k g1 g2 g3 g4 g5 g6 g7 g8 => by
      rw [f2.i k g6 g7 g8, rw_n g1, f1.i k g2 g3 g4 g5]
    refine q M2 (h0.text hi K2 ⟨?_, ?_, ?_, ?_, ?_⟩ (fun i' hi' ne => ?_) (fun k hk => er k (by omega) (by omega) (by omega) (by omega) (by omega) (by omega) (by omega) (by omega)) (fun j _ => by rw [er 136 (by omega) (by omega) (by omega) (by omega) (by omega) (by omega) (by omega) (by omega)])) ?_ (f0.tr ⟨f2.n.trans f1.n, f2.k.trans f1.k, f2.r.trans f1.r, fun k hk => er k (by omega) (by omega) (by omega) (by omega) (by omega) (by omega) (by omega) (by omega)⟩)
    · rw [er 138 (by omega) (by omega) (by omega) (by omega) (by omega) (by omega) (by omega) (by omega)]; exact X0.p
    · intro _; rw [f2.i _ (by omega) (by omega) (by omega), rw_ss]; rfl
    · intro _; exact f2.M R1'
    · intro _ _; exact v2
    · intro _ _; exact w2
    · have X2 := h0.x i' hi'
      refine ⟨?_, fun p => ?_, fun p => ?_, fun p p2 => ?_, fun p p2 => ?_⟩
      · rw [er 138 (by omega) (by omega) (by omega) (by omega) (by omega) (by omega) (by omega) (by omega)]; exact X2.p
      · rw [f2.i _ (by omega) (by omega) (by omega), rw_sn ne, f1.i _ (by omega) (by omega) (by omega) (by omega)]; exact X2.j p
      · have r1 := f1.M (X2.R p)
        refine f2.M (RepM_congr r1 (fun c g1 g2 => ?_))
        funext j
        rw [mRr (by omega), mRr (by omega), rw_n (by omega)]
      · intro j g1 g2
        have l2 := (X2.R p).lnn
        have d := f1.d (100 * i' + j) (by omega)
        rw [f2.i _ (by omega) (by omega) (by omega), f2.i _ (by omega) (by omega) (by omega), rw_n (by omega), rw_n (by omega), d.1, d.2]
        exact X2.v p p2 j g1 g2
      · have ok2 := (so.x i' p).ok
        have ll := owed_len (g := (S.x i').gd) ok2.N ok2.p
        have l2 := ok2.D.n
        have O := X2.o p p2
        refine ⟨?_, fun j hj => ?_⟩
        · rw [f2.o _ ne, rw_n (by omega), f1.i _ (by omega) (by omega) (by omega) (by omega)]; exact O.1
        · rw [f2.w _ (by omega), rw_n (by omega), f1.i _ (by omega) (by omega) (by omega) (by omega)]; exact O.2 j hj
    · rw [er 136 (by omega) (by omega) (by omega) (by omega) (by omega) (by omega) (by omega) (by omega)]; exact z0
  · simp only [a_decide, z, Option.map_some, hp] at q
    unfold w_Mo_decide_J26
    rw [rw_ss]
    exact br_f (by decide) (ma2 h q)
end DE
