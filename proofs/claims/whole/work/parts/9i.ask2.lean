/-! CALLS THAT ONLY ASK, the rest. -/
def lnA (T : Txt) (w j : Nat) : Nat := if w = 0 then T.anl j else T.nnl j
def chA (T : Txt) (w j k : Nat) : Nat := if w = 0 then T.anm j k else T.nnm j k
def cuA (T : Txt) (w : Nat) : Nat := if w = 0 then T.na else T.nn
def a_name (S : Sx) (v1 v2 v3 v4 : Int32) : Option (Int32 × Sx) := (pres S v1).bind fun i => (idx v2 2).bind fun w => (idx v3 (cuA (S.x i).T w)).bind fun j => if v4 = -1 then some (nI (lnA (S.x i).T w j), S) else (idx v4 (lnA (S.x i).T w j)).map fun k => (nI (chA (S.x i).T w j k), S)
def atA (x : Tx) (j w : Nat) : Int32 := if w = 0 then nI (x.T.asz j) else if w = 1 then bI (x.T.amany j) else if w = 2 then bI (x.T.amust j) else nI (x.g j)
def a_attribute (S : Sx) (v1 v2 v3 : Int32) : Option (Int32 × Sx) := (pres S v1).bind fun i => (idx v2 (S.x i).T.na).bind fun j => (idx v3 4).map fun w => (atA (S.x i) j w, S)
def a_decided (S : Sx) (v1 v2 : Int32) : Option (Int32 × Sx) := (pres S v1).bind fun i => if (S.x i).jd then (idx v2 (S.x i).T.nn).map fun j => (nI (dec (S.x i).T (S.x i).gd j), S) else none
def a_truth (S : Sx) (v1 v2 : Int32) : Option (Int32 × Sx) := (pres S v1).bind fun i => if (S.x i).jd then (idx v2 (S.x i).T.nn).map fun j => (nI (tru (S.x i).T (S.x i).gd j), S) else none
def a_duty (S : Sx) (v1 v2 : Int32) : Option (Int32 × Sx) := (pres S v1).bind fun i => if (S.x i).jd then (if v2 = -1 then some (nI (owedL (S.x i).T (S.x i).gd).length, S) else (idx v2 (owedL (S.x i).T (S.x i).gd).length).map fun j => (nI ((owedL (S.x i).T (S.x i).gd).getD j 0), S)) else none
def a_differ (S : Sx) (v1 v2 : Int32) : Option (Option (Int32 × Sx)) := (idx v1 6).bind fun a => (idx v2 6).map fun b => if S.cm then some (nI (S.tl (6 * a + b)), S) else none
def a_witness (S : Sx) (v : Int32) : Option (Int32 × Sx) := (idx v S.wn).map fun j => (nI (S.wv j), S)
def a_out (S : Sx) (v : Int32) : Option (Int32 × Sx) := (idx v S.pn).map fun j => (nI (S.pb j), S)
section NA
variable {S : Sx} {M : aM} {post : Int32 → aM → Prop} {ex : Nat → Prop} {v1 v2 v3 v4 : Int32} {e2 : Nat}
/-- the letter, or how many -/
theorem c_nm {o i w j : Nat} (h : CI S M) (hi : i ≤ 1) (hl : lnA (S.x i).T w j ≤ 12) (e1 : rI M (o + 1) j = nI (lnA (S.x i).T w j)) (e2 : ∀ k, k < lnA (S.x i).T w j → rI M (o + 2) (j * 12 + k) = nI (chA (S.x i).T w j k)) {N1 : Nat} (hN : (rK M (o + 1)).2 = N1) (hj : j < N1) (hN2 : (rK M (o + 2)).2 = N1 * 12) (hN3 : N1 ≤ 100) {e3 : Nat} (q : CA M post ex 0 e3 ((if v4 = -1 then some (nI (lnA (S.x i).T w j), S) else (idx v4 (lnA (S.x i).T w j)).map fun k => (nI (chA (S.x i).T w j k), S)).map some)) : ((¬ v4 = ((-1 : Int32))) → (vp_in (nI j) (rK M (o + 1)).2) ∧ (w_J_checkIndex (w_Nm_letter (fun x5 => post x5 M) o (nI j) v4 M) ex v4 (rI M (o + 1) (nI j).toNatClampNeg) M)) ∧ (¬ (¬ v4 = ((-1 : Int32))) → (vp_in (nI j) (rK M (o + 1)).2) ∧ post (rI M (o + 1) (nI j).toNatClampNeg) M) := by
  rw [nI_clamp (by omega), e1, hN]
  have iv : vp_in (nI j) N1 := vin hj
  by_cases z : v4 = -1
  · rw [if_pos z] at q
    exact nb_t z ⟨iv, q M h FB.refl⟩
  · rw [if_neg z] at q
    refine nb_f z ⟨iv, c_idx (lnA (S.x i).T w j) (by omega) (fun y => ?_) (fun k y hk e => ?_)⟩
    · simp only [y, Option.map_none] at q; exact q
    · simp only [y, Option.map_some] at q
      have q1 := q M h FB.refl
      unfold w_Nm_letter
      rw [e, show (12 : Int32) = nI 12 from rfl, pk_mul, nI_add, nI_clamp (by omega), e2 k hk, hN2]
      exact ⟨vin (by omega), q1⟩
theorem c_nameQ (h : CI S M) (q : CA M post ex 0 e2 ((a_name S v1 v2 v3 v4).map some)) : w_J_name post ex 1 v1 v2 v3 v4 M := by
  unfold w_J_name
  refine c_pres h (fun z => ?_) (fun i z hi e hp => ?_)
  · simp only [a_name, z, Option.bind_none, Option.map_none] at q; exact q
  have R := (h.x i hi).R hp
  have ht := h.t hi
  have lnn := R.lnn
  have lna := R.lna
  have K := h.tp.K
  refine c_idx 2 (by omega) (fun y => ?_) (fun w y hw e2 => ?_)
  · simp only [a_name, z, y, Option.bind_some, Option.bind_none, Option.map_none] at q; exact q
  subst e2
  have hw2 : w = 0 ∨ w = 1 := by omega
  rcases hw2 with rfl | rfl
  · refine nb_t rfl (c_idx (S.x i).T.na (by omega) (fun u => ?_) (fun j u hj e3 => ?_) R.na)
    · simp only [a_name, z, y, Option.bind_some] at q
      have u2 : idx v3 (cuA (S.x i).T 0) = none := u
      simp only [u2, Option.bind_none, Option.map_none] at q; exact q
    · simp only [a_name, z, y, Option.bind_some] at q
      have u2 : idx v3 (cuA (S.x i).T 0) = some j := u
      simp only [u2, Option.bind_some] at q
      subst e3
      refine nb_t rfl (c_nm (o := rR M 47 i + 1 + 1) (w := 0) h hi (R.lanl j hj) (R.anl j hj) (fun k hk => R.anm j hj k hk) (K.tl ht 3 8) (by omega) (K.tl ht 4 96) (by omega) q)
  · refine nb_f (by decide) (c_idx (S.x i).T.nn (by omega) (fun u => ?_) (fun j u hj e3 => ?_) R.nn)
    · simp only [a_name, z, y, Option.bind_some] at q
      have u2 : idx v3 (cuA (S.x i).T 1) = none := u
      simp only [u2, Option.bind_none, Option.map_none] at q; exact q
    · simp only [a_name, z, y, Option.bind_some] at q
      have u2 : idx v3 (cuA (S.x i).T 1) = some j := u
      simp only [u2, Option.bind_some] at q
      subst e3
      refine nb_f (by decide) (c_nm (o := rR M 47 i + 9 + 1) (w := 1) h hi (R.lnnl j hj) (R.nnl j hj) (fun k hk => R.nnm j hj k hk) (K.tl ht 11 100) (by omega) (K.tl ht 12 1200) (by omega) q)
theorem m_nm {i w j sl : Nat} (so : SO S) (h : MI S M) (hl : lnA (S.x i).T w j ≤ 12) (e1 : rI M 144 sl = nI (lnA (S.x i).T w j)) (e2 : ∀ k, k < lnA (S.x i).T w j → rI M 145 (12 * sl + k) = sx (chA (S.x i).T w j k)) (hs : sl < 324) (hb : ∀ k, chA (S.x i).T w j k < 256) (q : MA S M post ((if v4 = -1 then some (nI (lnA (S.x i).T w j), S) else (idx v4 (lnA (S.x i).T w j)).map fun k => (nI (chA (S.x i).T w j k), S)).map some)) (hv : v1 = nI i) (hv3 : v3 = nI j) (hv2 : v2 = nI w) (hsl : sl = 108 * i + (if w = 0 then j else 8 + j)) (hw : w ≤ 1) (hi : i ≤ 1) (hj : j < 100) : w_Mo_name_J32 post 136 v1 v2 v3 v4 1 M := by
  unfold w_Mo_name_J32
  refine m_goes1 (nb_f (by decide) ?_)
  have h1 := h.t (x := 0)
  have f138 : rI (wI M 136 0 0) 144 sl = nI (lnA (S.x i).T w j) := by rw [rw_n (by omega)]; exact e1
  have f139 : ∀ k, k < lnA (S.x i).T w j → rI (wI M 136 0 0) 145 (12 * sl + k) = sx (chA (S.x i).T w j k) := fun k hk => by rw [rw_n (by omega)]; exact e2 k hk
  have k8 : (rK M 144).2 = 324 := mK h.tp.K 143 324
  have k9 : (rK M 145).2 = 3888 := mK h.tp.K 144 3888
  have key : ((¬ v4 = ((-1 : Int32))) → (vp_in (nI sl) (rK (wI M 136 0 0) (136 + 8)).2) ∧ (w_Mo_in (fun x3 => w_Mo_goes (fun x4 M4 => ((x4 = ((0 : Int32))) → post ((0 : Int32)) M4) ∧ (¬ (x4 = ((0 : Int32))) → (vp_in ((((12 : Int32)) * (nI sl)) + v4) (rK M4 (136 + 9)).2) ∧ post ((rI M4 (136 + 9) ((((12 : Int32)) * (nI sl)) + v4).toNatClampNeg) &&& ((255 : Int32))) M4)) 136 x3 (wI M 136 0 0)) v4 ((0 : Int32)) ((rI (wI M 136 0 0) (136 + 8) (nI sl).toNatClampNeg) - ((1 : Int32))) (wI M 136 0 0))) ∧ (¬ (¬ v4 = ((-1 : Int32))) → (vp_in (nI sl) (rK (wI M 136 0 0) (136 + 8)).2) ∧ post (rI (wI M 136 0 0) (136 + 8) (nI sl).toNatClampNeg) (wI M 136 0 0)) := by
    rw [nI_clamp (by omega)]
    simp only [Nat.reduceAdd, kw_I, k8]
    rw [f138]
    have iv : vp_in (nI sl) 324 := vin hs
    by_cases z : v4 = -1
    · rw [if_pos z] at q
      exact nb_t z ⟨iv, ma1 h q⟩
    · rw [if_neg z] at q
      refine nb_f z ⟨iv, m_idx (lnA (S.x i).T w j) (by omega) (fun y => ?_) (fun k y hk e => ?_)⟩
      · simp only [y, Option.map_none] at q
        exact m_goes0 (br_t rfl (ma01 h q))
      · simp only [y, Option.map_some] at q
        refine m_goes1 (br_f (by decide) ?_)
        rw [e, show (12 : Int32) = nI 12 from rfl, pk_mul, nI_add, nI_clamp (by omega), rw_n (by omega), f139 k hk, sx_and _ (hb k)]
        simp only [kw_I, k9]
        exact ⟨vin (by omega), ma11 h q⟩
  unfold w_Mo_nameOf
  subst hv hv2 hv3
  have : w = 0 ∨ w = 1 := by omega
  rcases this with rfl | rfl
  · refine nb_t rfl ?_
    rw [m108, show 108 * i + j = sl from hsl.symm]
    exact key
  · refine nb_f (by decide) ?_
    rw [show (8 : Int32) + nI j = nI (8 + j) from nI_add 8 j, m108, show 108 * i + (8 + j) = sl from hsl.symm]
    exact key
theorem m_nmF (h : MI S M) (q : MA S M post none) : w_Mo_name_J32 post 136 v1 v2 v3 v4 0 M := by
  unfold w_Mo_name_J32
  exact m_goes0 (nb_t rfl (ma0 h q))
theorem m_nameQ (so : SO S) (h : MI S M) (q : MA S M post ((a_name S v1 v2 v3 v4).map some)) : w_Mo_name post 136 v1 v2 v3 v4 M := by
  have fn : ∀ {w}, idx v2 2 = some w → v2 = nI w ∧ w ≤ 1 := fun z => by have := idx_ok (by omega) z; exact ⟨this.2, by omega⟩
  unfold w_Mo_name
  by_cases z0 : v2 = 0
  · have y : idx v2 2 = some 0 := by rw [z0]; exact idx_nI (k := 0) (by omega) (by omega)
    refine nb_t z0 (m_isAttr h (fun z => ?_) (fun i z u => ?_) (fun i j z hi e hp u hj e3 => ?_))
    · simp only [a_name, z, Option.bind_none, Option.map_none] at q
      exact m_nmF h q
    · have u2 : idx v3 (cuA (S.x i).T 0) = none := u
      simp only [a_name, z, y, Option.bind_some, u2, Option.bind_none, Option.map_none] at q
      exact m_nmF h q
    · have u2 : idx v3 (cuA (S.x i).T 0) = some j := u
      simp only [a_name, z, y, Option.bind_some, u2] at q
      have R := (h.x i hi).R hp
      have ok := (so.x i hp).ok
      have lna := R.lna
      refine m_nm (i := i) (w := 0) (j := j) (sl := 108 * i + j) so h (R.lanl j hj) ?_ (fun k hk => ?_) (by omega) (fun k => ok.A.b j k) q e e3 z0 rfl (by omega) hi (by omega)
      · have := R.anl j hj
        rw [mRr (by omega), show szM 8 = 108 from rfl, Nat.mul_comm] at this
        exact this
      · have := R.anm j hj k hk
        rw [mRr (by omega), show szM 9 = 1296 from rfl] at this
        rw [show 12 * (108 * i + j) + k = i * 1296 + (12 * j + k) by omega]
        exact this
  · refine nb_f z0 ?_
    by_cases z1 : v2 = 1
    · have y : idx v2 2 = some 1 := by rw [z1]; exact idx_nI (k := 1) (by omega) (by omega)
      refine nb_t z1 (m_isNode h (fun z => br_t rfl ?_) (fun i z u => br_t rfl ?_) (fun i j z hi e hp u hj e3 => br_f (by decide) ?_))
      · simp only [a_name, z, Option.bind_none, Option.map_none] at q
        exact m_nmF h q
      · have u2 : idx v3 (cuA (S.x i).T 1) = none := u
        simp only [a_name, z, y, Option.bind_some, u2, Option.bind_none, Option.map_none] at q
        exact m_nmF h q
      · have u2 : idx v3 (cuA (S.x i).T 1) = some j := u
        simp only [a_name, z, y, Option.bind_some, u2] at q
        have R := (h.x i hi).R hp
        have ok := (so.x i hp).ok
        have lnn := R.lnn
        refine m_nm (i := i) (w := 1) (j := j) (sl := 108 * i + (8 + j)) so h (R.lnnl j hj) ?_ (fun k hk => ?_) (by omega) (fun k => ok.W.b j k) q e e3 z1 rfl (by omega) hi (by omega)
        · have := R.nnl j hj
          rw [mRr (by omega), show szM 8 = 108 from rfl, Nat.mul_comm] at this
          exact this
        · have := R.nnm j hj k hk
          rw [mRr (by omega), show szM 9 = 1296 from rfl] at this
          rw [show 12 * (108 * i + (8 + j)) + k = i * 1296 + (12 * (8 + j) + k) by omega]
          exact this
    · refine nb_f z1 ?_
      have y : idx v2 2 = none := by
        cases y : idx v2 2 with
        | none => rfl
        | some w =>
          have := fn y
          have : w = 0 ∨ w = 1 := by omega
          rcases this with rfl | rfl
          · exact absurd (fn y).1 z0
          · exact absurd (fn y).1 z1
      have q2 : MA S M post none := by
        cases z : pres S v1 with
        | none => simp only [a_name, z, Option.bind_none, Option.map_none] at q; exact q
        | some i => simp only [a_name, z, y, Option.bind_some, Option.bind_none, Option.map_none] at q; exact q
      exact m_nmF h q2
end NA
section AT
variable {S : Sx} {M : aM} {post : Int32 → aM → Prop} {ex : Nat → Prop} {v1 v2 v3 v4 : Int32} {e2 : Nat}
theorem c_attribute (h : CI S M) (q : CA M post ex 0 e2 ((a_attribute S v1 v2 v3).map some)) : w_J_attribute post ex 1 v1 v2 v3 M := by
  unfold w_J_attribute
  refine c_pres h (fun z => ?_) (fun i z hi e hp => ?_)
  · simp only [a_attribute, z, Option.bind_none, Option.map_none] at q; exact q
  have R := (h.x i hi).R hp
  have ht := h.t hi
  have lna := R.lna
  refine c_idx (S.x i).T.na (by omega) (fun y => ?_) (fun j y hj e2 => ?_) R.na
  · simp only [a_attribute, z, y, Option.bind_some, Option.bind_none, Option.map_none] at q; exact q
  refine c_idx 4 (by omega) (fun u => ?_) (fun w u hw e3 => ?_)
  · simp only [a_attribute, z, y, u, Option.bind_some, Option.bind_none, Option.map_none] at q; exact q
  simp only [a_attribute, z, y, u, Option.bind_some, Option.map_some] at q
  have q1 : post (atA (S.x i) j w) M := q M h FB.refl
  subst e2 e3
  rw [nI_clamp (by omega)]
  generalize rR M 47 i = t at R ht
  have K := h.tp.K
  have iv : ∀ n, n = 8 → vp_in (nI j) n := fun n hn => by rw [hn]; exact vin (by omega)
  have : w = 0 ∨ w = 1 ∨ w = 2 ∨ w = 3 := by omega
  rcases this with rfl | rfl | rfl | rfl
  · exact br_t rfl ⟨iv _ (K.tl ht 5 8), by rw [show rI M (t + 1 + 4) j = _ from R.asz j hj]; exact q1⟩
  · have q2 : post (bI ((S.x i).T.amany j)) M := q1
    exact br_f (by decide) (br_t rfl ⟨iv _ (K.tl ht 6 8), pk_b0 _ (fun c => by rw [c] at q2; exact q2) (fun c => by rw [c] at q2; exact q2) (R.amany j hj) rfl⟩)
  · have q2 : post (bI ((S.x i).T.amust j)) M := q1
    exact br_f (by decide) (br_f (by decide) (br_t rfl ⟨iv _ (K.tl ht 7 8), pk_b0 _ (fun c => by rw [c] at q2; exact q2) (fun c => by rw [c] at q2; exact q2) (R.amust j hj) rfl⟩))
  · exact br_f (by decide) (br_f (by decide) (br_f (by decide) ⟨iv _ (K.tl ht 8 8), by rw [show rI M (t + 1 + 7) j = _ from R.bag j hj]; exact q1⟩))
theorem m_attribute (h : MI S M) (q : MA S M post ((a_attribute S v1 v2 v3).map some)) : w_Mo_attribute post 136 v1 v2 v3 M := by
  unfold w_Mo_attribute
  refine m_isAttr h (fun z => br_t rfl ?_) (fun i z y => br_t rfl ?_) (fun i j z hi e hp y hj e2 => br_f (by decide) ?_)
  · simp only [a_attribute, z, Option.bind_none, Option.map_none] at q
    unfold w_Mo_attribute_J23 w_Mo_attribute_J24
    exact m_goes0 (nb_t rfl (ma0 h q))
  · simp only [a_attribute, z, y, Option.bind_some, Option.bind_none, Option.map_none] at q
    unfold w_Mo_attribute_J23 w_Mo_attribute_J24
    exact m_goes0 (nb_t rfl (ma0 h q))
  refine m_idx 4 (by omega) (fun u => br_t rfl ?_) (fun w u hw e3 => br_f (by decide) ?_)
  · simp only [a_attribute, z, y, u, Option.bind_some, Option.bind_none, Option.map_none] at q
    unfold w_Mo_attribute_J23 w_Mo_attribute_J24
    exact m_goes0 (nb_t rfl (ma0 h q))
  simp only [a_attribute, z, y, u, Option.bind_some, Option.map_some] at q
  unfold w_Mo_attribute_J24
  refine m_goes1 (nb_f (by decide) ?_)
  have q1 := ma1 h q
  have h1 := h.t (x := 0)
  generalize wI M 136 0 0 = M1 at q1 h1
  subst e e2 e3
  have R := (h1.x i hi).R hp
  have lna := R.lna
  have iv : ∀ n, n = 24 → vp_in (nI (8 * i + j)) n := fun n hn => by rw [hn]; exact vin (by omega)
  rw [m8, nI_clamp (by omega)]
  have rd : ∀ c, 1 ≤ c ∧ c < 31 → szM c = 8 → rI M1 (136 + c) (8 * i + j) = mR M1 i c j := fun c hc hs => by rw [mRr hc, hs, Nat.mul_comm]
  have : w = 0 ∨ w = 1 ∨ w = 2 ∨ w = 3 := by omega
  rcases this with rfl | rfl | rfl | rfl
  · exact nb_t rfl ⟨iv _ (mK h1.tp.K 139 24), by rw [rd 4 (by omega) rfl, R.asz j hj]; exact q1⟩
  · have q2 : post (bI ((S.x i).T.amany j)) M1 := q1
    exact nb_f (by decide) (nb_t rfl ⟨iv _ (mK h1.tp.K 140 24), pk_b0 _ (fun c => by rw [c] at q2; exact q2) (fun c => by rw [c] at q2; exact q2) ((rd 5 (by omega) rfl).trans (R.amany j hj)) rfl⟩)
  · have q2 : post (bI ((S.x i).T.amust j)) M1 := q1
    exact nb_f (by decide) (nb_f (by decide) (nb_t rfl ⟨iv _ (mK h1.tp.K 141 24), pk_b0 _ (fun c => by rw [c] at q2; exact q2) (fun c => by rw [c] at q2; exact q2) ((rd 6 (by omega) rfl).trans (R.amust j hj)) rfl⟩))
  · exact nb_f (by decide) (nb_f (by decide) (nb_f (by decide) ⟨iv _ (mK h1.tp.K 142 24), by rw [rd 7 (by omega) rfl, R.bag j hj]; exact q1⟩))
end AT
section DQ
variable {S : Sx} {M : aM} {post : Int32 → aM → Prop} {ex : Nat → Prop} {v1 v2 v3 v4 : Int32} {e2 : Nat}
theorem c_decided (h : CI S M) (q : CA M post ex 0 e2 ((a_decided S v1 v2).map some)) : w_J_decided post ex 1 v1 v2 M := by
  unfold w_J_decided
  refine c_judged h (fun z => ?_) (fun i z hj => ?_) (fun i z hi e hp hj => ?_)
  · simp only [a_decided, z, Option.bind_none, Option.map_none] at q; exact q
  · simp only [a_decided, z, Option.bind_some, hj] at q; exact q
  have R := (h.x i hi).R hp
  have ht := h.t hi
  have lnn := R.lnn
  refine c_idx (S.x i).T.nn (by omega) (fun y => ?_) (fun j y hj2 e2 => ?_) R.nn
  · simp only [a_decided, z, y, hj, if_true, Option.bind_some, Option.map_none] at q; exact q
  simp only [a_decided, z, y, hj, if_true, Option.bind_some, Option.map_some] at q
  have q1 := q M h FB.refl
  subst e2
  rw [nI_clamp (by omega)]
  refine ⟨by rw [show (rK M (rR M 47 i + 31 + 2)).2 = 100 from h.tp.K.tl ht 33 100]; exact vin (by omega), ?_⟩
  rw [((h.x i hi).v hp hj j (Nat.zero_le _) hj2).2.1]; exact q1
theorem c_truthQ (h : CI S M) (q : CA M post ex 0 e2 ((a_truth S v1 v2).map some)) : w_J_truth post ex 1 v1 v2 M := by
  unfold w_J_truth
  refine c_judged h (fun z => ?_) (fun i z hj => ?_) (fun i z hi e hp hj => ?_)
  · simp only [a_truth, z, Option.bind_none, Option.map_none] at q; exact q
  · simp only [a_truth, z, Option.bind_some, hj] at q; exact q
  have R := (h.x i hi).R hp
  have ht := h.t hi
  have lnn := R.lnn
  refine c_idx (S.x i).T.nn (by omega) (fun y => ?_) (fun j y hj2 e2 => ?_) R.nn
  · simp only [a_truth, z, y, hj, if_true, Option.bind_some, Option.map_none] at q; exact q
  simp only [a_truth, z, y, hj, if_true, Option.bind_some, Option.map_some] at q
  have q1 := q M h FB.refl
  subst e2
  rw [nI_clamp (by omega)]
  refine ⟨by rw [show (rK M (rR M 47 i + 31 + 1)).2 = 100 from h.tp.K.tl ht 32 100]; exact vin (by omega), ?_⟩
  rw [((h.x i hi).v hp hj j (Nat.zero_le _) hj2).1]; exact q1
theorem c_dutyQ (so : SO S) (h : CI S M) (q : CA M post ex 0 e2 ((a_duty S v1 v2).map some)) : w_J_duty post ex 1 v1 v2 M := by
  unfold w_J_duty
  refine c_judged h (fun z => ?_) (fun i z hj => ?_) (fun i z hi e hp hj => ?_)
  · simp only [a_duty, z, Option.bind_none, Option.map_none] at q; exact q
  · simp only [a_duty, z, Option.bind_some, hj] at q; exact q
  have R := (h.x i hi).R hp
  have ht := h.t hi
  have ok := (so.x i hp).ok
  have ll := owed_len (g := (S.x i).gd) ok.N ok.p
  have lnd := R.lnd
  have O := (h.x i hi).o hp hj
  simp only [a_duty, z, hj, if_true, Option.bind_some] at q
  generalize owedL (S.x i).T (S.x i).gd = L at q ll O
  by_cases u : v2 = -1
  · rw [if_pos u] at q
    exact nb_t u (by rw [O.1]; exact q M h FB.refl)
  · rw [if_neg u] at q
    refine nb_f u (c_idx L.length (by omega) (fun y => ?_) (fun j y hj2 e2 => ?_) O.1)
    · simp only [y, Option.map_none] at q; exact q
    simp only [y, Option.map_some] at q
    have q1 := q M h FB.refl
    subst e2
    rw [nI_clamp (by omega)]
    refine ⟨by rw [show (rK M (rR M 47 i + 31 + 4)).2 = 100 from h.tp.K.tl ht 35 100]; exact vin (by omega), ?_⟩
    rw [O.2 j hj2]; exact q1
theorem c_differ (h : CI S M) (q : CA M post ex 0 2 (a_differ S v1 v2)) : w_J_differ post ex 1 v1 v2 M := by
  unfold w_J_differ
  refine c_idx 6 (by omega) (fun z => ?_) (fun a z ha e => ?_)
  · simp only [a_differ, z, Option.bind_none] at q; exact q
  refine c_idx 6 (by omega) (fun y => ?_) (fun c y hc e2 => ?_)
  · simp only [a_differ, z, y, Option.bind_some, Option.map_none] at q; exact q
  simp only [a_differ, z, y, Option.bind_some, Option.map_some] at q
  subst e e2
  refine pk_nb0 S.cm (fun g => ?_) (fun g => ?_) h.cm rfl
  · rw [if_pos g] at q
    have q1 := q M h FB.refl
    rw [show (6 : Int32) = nI 6 from rfl, pk_mul, nI_add, nI_clamp (by omega), show a * 6 + c = 6 * a + c by omega]
    refine ⟨by rw [show (rK M (1 + 119 + 1)).2 = 36 from mK h.tp.K 120 36]; exact vin (by omega), ?_⟩
    rw [show rI M (1 + 119 + 1) (6 * a + c) = _ from h.tl (6 * a + c) (by omega)]; exact q1
  · rw [if_neg (by rw [g]; decide)] at q; exact q
theorem c_witness (so : SO S) (h : CI S M) (q : CA M post ex 0 e2 ((a_witness S v1).map some)) : w_J_witness post ex 1 v1 M := by
  unfold w_J_witness
  have lw := so.wn
  refine c_idx S.wn (by omega) (fun z => ?_) (fun a z ha e => ?_) h.wn
  · simp only [a_witness, z, Option.map_none] at q; exact q
  simp only [a_witness, z, Option.map_some] at q
  have q1 := q M h FB.refl
  subst e
  rw [nI_clamp (by omega)]
  refine ⟨by rw [show (rK M (1 + 119 + 2)).2 = 8 from mK h.tp.K 121 8]; exact vin (by omega), ?_⟩
  rw [show rI M (1 + 119 + 2) a = _ from h.wv a ha]; exact q1
theorem c_out (so : SO S) (h : CI S M) (q : CA M post ex 0 e2 ((a_out S v1).map some)) : w_J_out post ex 1 v1 M := by
  unfold w_J_out
  have lw := so.pn
  refine c_idx S.pn (by omega) (fun z => ?_) (fun a z ha e => ?_) h.pn
  · simp only [a_out, z, Option.map_none] at q; exact q
  simp only [a_out, z, Option.map_some] at q
  have q1 := q M h FB.refl
  subst e
  rw [nI_clamp (by omega)]
  refine ⟨by rw [show (rK M (1 + 130 + 1)).2 = 22000 from mK h.tp.K 131 22000]; exact vin (by omega), ?_⟩
  rw [show rI M (1 + 130 + 1) a = _ from h.pb a ha]; exact q1
end DQ
section DM
variable {S : Sx} {M : aM} {post : Int32 → aM → Prop} {v1 v2 v3 v4 : Int32}
theorem m_decided (h : MI S M) (q : MA S M post ((a_decided S v1 v2).map some)) : w_Mo_decided post 136 v1 v2 M := by
  unfold w_Mo_decided
  refine m_isNode h (fun z => br_t rfl ?_) (fun i z y => br_t rfl ?_) (fun i j z hi e hp y hj e2 => br_f (by decide) ?_)
  · simp only [a_decided, z, Option.bind_none, Option.map_none] at q
    unfold w_Mo_decided_J23 w_Mo_decided_J24
    exact m_goes0 (br_t rfl (ma0 h q))
  · have q2 : MA S M post none := by
      simp only [a_decided, z, y, Option.bind_some, Option.map_none] at q
      by_cases g : (S.x i).jd = true
      · rw [if_pos g] at q; exact q
      · rw [if_neg g] at q; exact q
    unfold w_Mo_decided_J23 w_Mo_decided_J24
    exact m_goes0 (br_t rfl (ma0 h q2))
  · have k28 : (rK M (136 + 28)).2 = 3 := mK h.tp.K 163 3
    subst e e2
    have lnn := ((h.x i hi).R hp).lnn
    rw [nI_clamp (n := i) (by omega)]
    refine ⟨mk3 h hi k28, pk_b0 (S.x i).jd (fun g => ?_) (fun g => ?_) ((h.x i hi).j hp) rfl⟩
    · simp only [a_decided, z, y, g, Option.bind_some] at q
      unfold w_Mo_decided_J23 w_Mo_decided_J24
      exact m_goes0 (br_t rfl (ma0 h q))
    · simp only [a_decided, z, y, g, if_true, Option.bind_some, Option.map_some] at q
      unfold w_Mo_decided_J24
      refine m_goes1 (br_f (by decide) ?_)
      have q1 := ma1 h q
      have h1 := h.t (x := 0)
      generalize wI M 136 0 0 = M1 at q1 h1
      rw [m100, nI_clamp (by omega)]
      refine ⟨by rw [show (rK M1 (136 + 29)).2 = 300 from mK h1.tp.K 164 300]; exact vin (by omega), ?_⟩
      rw [show rI M1 (136 + 29) (100 * i + j) = _ from ((h1.x i hi).v hp g j (Nat.zero_le _) hj).1]; exact q1
theorem m_truthQ (h : MI S M) (q : MA S M post ((a_truth S v1 v2).map some)) : w_Mo_truth post 136 v1 v2 M := by
  unfold w_Mo_truth
  refine m_isNode h (fun z => br_t rfl ?_) (fun i z y => br_t rfl ?_) (fun i j z hi e hp y hj e2 => br_f (by decide) ?_)
  · simp only [a_truth, z, Option.bind_none, Option.map_none] at q
    unfold w_Mo_truth_J23 w_Mo_truth_J24
    exact m_goes0 (br_t rfl (ma0 h q))
  · have q2 : MA S M post none := by
      simp only [a_truth, z, y, Option.bind_some, Option.map_none] at q
      by_cases g : (S.x i).jd = true
      · rw [if_pos g] at q; exact q
      · rw [if_neg g] at q; exact q
    unfold w_Mo_truth_J23 w_Mo_truth_J24
    exact m_goes0 (br_t rfl (ma0 h q2))
  · have k28 : (rK M (136 + 28)).2 = 3 := mK h.tp.K 163 3
    subst e e2
    have lnn := ((h.x i hi).R hp).lnn
    rw [nI_clamp (n := i) (by omega)]
    refine ⟨mk3 h hi k28, pk_b0 (S.x i).jd (fun g => ?_) (fun g => ?_) ((h.x i hi).j hp) rfl⟩
    · simp only [a_truth, z, y, g, Option.bind_some] at q
      unfold w_Mo_truth_J23 w_Mo_truth_J24
      exact m_goes0 (br_t rfl (ma0 h q))
    · simp only [a_truth, z, y, g, if_true, Option.bind_some, Option.map_some] at q
      unfold w_Mo_truth_J24
      refine m_goes1 (br_f (by decide) ?_)
      have q1 := ma1 h q
      have h1 := h.t (x := 0)
      generalize wI M 136 0 0 = M1 at q1 h1
      rw [m100, nI_clamp (by omega)]
      refine ⟨by rw [show (rK M1 (136 + 30)).2 = 300 from mK h1.tp.K 165 300]; exact vin (by omega), ?_⟩
      rw [show rI M1 (136 + 30) (100 * i + j) = _ from ((h1.x i hi).v hp g j (Nat.zero_le _) hj).2]; exact q1
theorem m_dutyQ (so : SO S) (h : MI S M) (q : MA S M post ((a_duty S v1 v2).map some)) : w_Mo_duty post 136 v1 v2 M := by
  unfold w_Mo_duty
  have no : ∀ (_ : MA S M post none), w_Mo_duty_J30 post 136 v1 v2 136 M := fun q => by
    unfold w_Mo_duty_J30 w_Mo_duty_J31
    exact m_goes0 (nb_t rfl (ma0 h q))
  refine m_text2 (fun z => br_t rfl ?_) (fun i z hi e => br_f (by decide) ?_)
  · simp only [a_duty, pres_0 z, Option.bind_none, Option.map_none] at q; exact no q
  have k2 : (rK M (136 + 2)).2 = 3 := mK h.tp.K 137 3
  have k28 : (rK M (136 + 28)).2 = 3 := mK h.tp.K 163 3
  subst e
  rw [nI_clamp (n := i) (by omega)]
  refine ⟨mk3 h hi k2, pk_b0 (S.x i).p (fun hp => ?_) (fun hp => ⟨mk3 h hi k28, pk_b0 (S.x i).jd (fun g => ?_) (fun g => ?_) ((h.x i hi).j hp) rfl⟩) (h.x i hi).p rfl⟩
  · simp only [a_duty, pres_n z hp, Option.bind_none, Option.map_none] at q; exact no q
  · simp only [a_duty, pres_s z hp, g, Option.bind_some] at q; exact no q
  · simp only [a_duty, pres_s z hp, g, if_true, Option.bind_some] at q
    unfold w_Mo_duty_J31
    refine m_goes1 (nb_f (by decide) ?_)
    have ok := (so.x i hp).ok
    have ll := owed_len (g := (S.x i).gd) ok.N ok.p
    have lnd := ok.D.n
    have h1 := h.t (x := 0)
    have O := (h1.x i hi).o hp g
    have K1 := h1.tp.K
    have k38 : (rK (wI M 136 0 0) (136 + 38)).2 = 2 := mK K1 173 2
    have iv : vp_in (nI i) 2 := vin (by omega)
    generalize owedL (S.x i).T (S.x i).gd = L at q ll O
    rw [nI_clamp (n := i) (by omega), k38]
    rw [show rI (wI M 136 0 0) (136 + 38) i = _ from O.1]
    by_cases u : v2 = -1
    · rw [if_pos u] at q
      exact nb_t u ⟨iv, ma1 h q⟩
    · rw [if_neg u] at q
      refine nb_f u ⟨iv, m_idx L.length (by omega) (fun y => ?_) (fun j y hj e2 => ?_)⟩
      · simp only [y, Option.map_none] at q
        exact m_goes0 (br_t rfl (ma01 h q))
      · simp only [y, Option.map_some] at q
        refine m_goes1 (br_f (by decide) ?_)
        subst e2
        rw [m100, nI_clamp (by omega), rw_n (by omega), show rI (wI M 136 0 0) (136 + 39) (100 * i + j) = _ from O.2 j hj]
        simp only [kw_I]
        refine ⟨by rw [show (rK M (136 + 39)).2 = 200 from mK h.tp.K 174 200]; exact vin (by omega), ma11 h q⟩
theorem m_differ (h : MI S M) (q : MA S M post (a_differ S v1 v2)) : w_Mo_differ post 136 v1 v2 M := by
  unfold w_Mo_differ
  have no : ∀ (_ : MA S M post none), w_Mo_differ_J19 post 136 v1 v2 136 M := fun q => by
    unfold w_Mo_differ_J19 w_Mo_differ_J35
    rw [rw_ss]
    exact br_f (by decide) (ma0 h q)
  refine m_idx 6 (by omega) (fun z => br_t rfl ?_) (fun a z ha e => br_f (by decide) ?_)
  · simp only [a_differ, z, Option.bind_none] at q; exact no q
  refine m_idx 6 (by omega) (fun y => nb_t rfl ?_) (fun c y hc e2 => nb_f (by decide) ?_)
  · simp only [a_differ, z, y, Option.bind_some, Option.map_none] at q; exact no q
  simp only [a_differ, z, y, Option.bind_some, Option.map_some] at q
  subst e e2
  refine pk_nb0 S.cm (fun g => ?_) (fun g => ?_) h.cm rfl
  · rw [if_pos g] at q
    unfold w_Mo_differ_J35
    rw [rw_ss]
    refine br_t (by decide) ?_
    rw [show (6 : Int32) = nI 6 from rfl, pk_mul, nI_add, nI_clamp (by omega), rw_n (by omega)]
    refine ⟨by rw [show (rK M (136 + 41)).2 = 36 from mK h.tp.K 176 36]; exact vin (by omega), ?_⟩
    rw [show rI M (136 + 41) (6 * a + c) = _ from h.tl (6 * a + c) (by omega)]; exact ma1 h q
  · rw [if_neg (by rw [g]; decide)] at q
    unfold w_Mo_differ_J35
    rw [rw_ss]
    exact br_f (by decide) (ma2 h q)
theorem m_witness (so : SO S) (h : MI S M) (q : MA S M post ((a_witness S v1).map some)) : w_Mo_witness post 136 v1 M := by
  unfold w_Mo_witness
  have lw := so.wn
  have no : ∀ (_ : MA S M post none), w_Mo_witness_J26 post 136 v1 136 M := fun q => by
    unfold w_Mo_witness_J26 w_Mo_witness_J27
    exact m_goes0 (br_t rfl (ma0 h q))
  rcases h.wn with ⟨e1, e2⟩ | ⟨e1, e2⟩
  · refine br_t e1 (no ?_)
    have : idx v1 S.wn = none := by
      cases y : idx v1 S.wn with
      | none => rfl
      | some k => have := (idx_ok (by omega) y).1; omega
    simp only [a_witness, this, Option.map_none] at q; exact q
  · refine br_f (by rw [e1]; decide) ?_
    rw [e2]
    refine m_idx S.wn (by omega) (fun z => br_t rfl (no ?_)) (fun a z ha e => br_f (by decide) ?_)
    · simp only [a_witness, z, Option.map_none] at q; exact q
    simp only [a_witness, z, Option.map_some] at q
    subst e
    unfold w_Mo_witness_J27
    refine m_goes1 (br_f (by decide) ?_)
    rw [nI_clamp (by omega), rw_n (by omega), show rI M (136 + 42) a = _ from h.wv a ha]
    refine ⟨by simp only [kw_I]; rw [show (rK M (136 + 42)).2 = 8 from mK h.tp.K 177 8]; exact vin (by omega), ma1 h q⟩
theorem m_out (so : SO S) (h : MI S M) (q : MA S M post ((a_out S v1).map some)) : w_Mo_out post 136 v1 M := by
  unfold w_Mo_out
  have lw := so.pn
  rw [h.pn]
  refine m_idx S.pn (by omega) (fun z => ?_) (fun a z ha e => ?_)
  · simp only [a_out, z, Option.map_none] at q
    exact m_goes0 (br_t rfl (ma0 h q))
  simp only [a_out, z, Option.map_some] at q
  subst e
  refine m_goes1 (br_f (by decide) ?_)
  rw [nI_clamp (by omega), rw_n (by omega), show rI M (136 + 47) a = _ from h.pb a ha, sx_and _ (so.pb a)]
  refine ⟨by simp only [kw_I]; rw [show (rK M (136 + 47)).2 = 40000 from mK h.tp.K 182 40000]; exact vin (by omega), ma1 h q⟩
end DM
