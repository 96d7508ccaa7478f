/-! SAME AND REACH, in the class. -/
def FP (P : Nat → Prop) (M0 M : aM) : Prop := (M.1 = M0.1) ∧ (M.2.1 = M0.2.1) ∧ (M.2.2.2 = M0.2.2.2) ∧ (∀ k, P k → rI M k = rI M0 k)
theorem FP.n {P : Nat → Prop} {M0 M : aM} (h : FP P M0 M) : M.1 = M0.1 := h.1
theorem FP.k {P : Nat → Prop} {M0 M : aM} (h : FP P M0 M) : M.2.1 = M0.2.1 := h.2.1
theorem FP.r {P : Nat → Prop} {M0 M : aM} (h : FP P M0 M) : M.2.2.2 = M0.2.2.2 := h.2.2.1
theorem FP.i {P : Nat → Prop} {M0 M : aM} (h : FP P M0 M) : ∀ k, P k → rI M k = rI M0 k := h.2.2.2
theorem FP.refl {P : Nat → Prop} {M : aM} : FP P M M := ⟨rfl, rfl, rfl, fun _ _ => rfl⟩
theorem FP.w {P : Nat → Prop} {w j : Nat} {x : Int32} {M0 M : aM} (h : FP P M0 M) (hw : ¬ P w) : FP P M0 (wI M w j x) := ⟨h.n, h.k, h.r, fun q hq => by
  have hne : q ≠ w := fun c => hw (by rw [← c]; exact hq)
  rw [rw_n hne]; exact h.i q hq⟩
theorem FP.tr {P : Nat → Prop} {M M1 M' : aM} (h : FP P M M1) (h' : FP P M1 M') : FP P M M' := ⟨h'.n.trans h.n, h'.k.trans h.k, h'.r.trans h.r, fun q hq => (h'.i q hq).trans (h.i q hq)⟩
theorem FP.K {P : Nat → Prop} {M0 M : aM} (h : FP P M0 M) (K : KOk (rK M0)) : KOk (rK M) := by rw [show rK M = rK M0 from h.k]; exact K
theorem FP.ofQ {P : Nat → Prop} {w : Nat} {M0 M : aM} (h : FQ w M0 M) (hw : ¬ P w) : FP P M0 M := ⟨h.n, h.k, h.r, fun q hq => h.i q (fun c => hw (c ▸ hq))⟩
theorem FP.ofV {P : Nat → Prop} {v : Nat} {M0 M : aM} (h : FrV v M0 M) (h1 : ¬ P (v + 1)) (h2 : ¬ P (v + 2)) (h3 : ¬ P (v + 3)) : FP P M0 M := ⟨h.n, h.k, h.r, fun q hq => h.i q (fun c => h1 (c ▸ hq)) (fun c => h2 (c ▸ hq)) (fun c => h3 (c ▸ hq))⟩
theorem FP.rr {P : Nat → Prop} {M0 M : aM} (h : FP P M0 M) : rR M = rR M0 := congrArg Prod.fst h.r
theorem FP.cR {P : Nat → Prop} {t : Nat} {T : Txt} {g : Nat → Nat} {M0 M : aM} (h : FP P M0 M) (R : RepC (cR M0 t) T g) (hP : ∀ c, c < 31 → P (t + c)) : RepC (cR M t) T g := RepC_congr R (fun c hc => h.i _ (hP c hc))
section CS
variable {T0 T1 : Txt} {M : aM} {t0 t1 : Nat} {g0 g1 : Nat → Nat}
theorem a_fill {post : aM → Prop} {w n : Nat} (hl : (rK M w).2 = n) (hn : n < 2 ^ 31) (q : ∀ M', FQ w M M' → (∀ j, j < n → rI M' w j = 0) → post M') : w_Ar_fill post w 0 M := by
  unfold w_Ar_fill
  rw [hl]
  have key : ∀ d k M', k + d = n → FQ w M M' → (∀ j, j < k → rI M' w j = 0) → w_Ar_fill_L5 post (d + 1) w 0 (nI k) (nI n) M' := by
    intro d
    induction d with
    | zero =>
      intro k M' hk f h
      have : k = n := by omega
      subst this
      unfold w_Ar_fill_L5
      exact br_t (Int32.le_refl _) (q M' f h)
    | succ d ih =>
      intro k M' hk f h
      unfold w_Ar_fill_L5
      refine pk_le n k (fun z => by omega) (fun _ => ?_)
      rw [show (rK M' w).2 = n by rw [show rK M' = rK M from f.k]; exact hl, nI_clamp (by omega), nI_1]
      refine ⟨vin (by omega), ih (k + 1) _ (by omega) f.w (fun j hj => ?_)⟩
      rw [rw_s]
      by_cases z : j = k
      · rw [z, up_s]
      · rw [up_n z]; exact h j (by omega)
  exact ⟨n + 1, key n 0 M (by omega) FQ.refl (fun j hj => absurd hj (Nat.not_lt_zero _))⟩
theorem fnd_fst {P : Nat → Bool} : ∀ n a, fnd P n a = fst1 P n a := by
  intro n
  induction n with
  | zero => intro a; rfl
  | succ n ih =>
    intro a
    rw [fnd, fst1, ih]
theorem c_find {post : Int32 → Prop} {j : Nat} {x : Int32} (R0 : RepC (cR M t0) T0 g0) (R1 : RepC (cR M t1) T1 g1) (A0 : AI T0) (A1 : AI T1) (K : KOk (rK M)) (ht0 : tOk t0) (ht1 : tOk t1) (hj : j < T1.na) (hx : x = nI T0.na) (q : post (oI (prt T0 T1 j))) : w_Nm_findLike post (t0 + 1 + 1) x (t1 + 1 + 1) (nI j) M := by
  subst hx
  have l0 := R0.lna
  have l1 := R1.lna
  have n1 := R1.lanl j hj
  unfold w_Nm_findLike
  rw [nI_clamp (by omega), show rI M (t1 + 1 + 1 + 1) j = _ from R1.anl j hj, show (rK M (t1 + 1 + 1 + 1)).2 = 8 from K.tl ht1 3 8, show (12 : Int32) = nI 12 from rfl, pk_mul]
  refine ⟨vin (by omega), n_find (L := 8) (N := 96) (nl := T0.anl) (nm := T0.anm) (b := T1.anm j) (P := fun i => smBl T0 T1 i j) R0.anl R0.anm (fun x hx => R1.anm j hj x hx) R0.lanl (by omega) (K.tl ht0 3 8) (K.tl ht0 4 96) (K.tl ht1 4 96) (by omega) (by omega) (by omega) (by omega) (fun x _ => A1.b j x) (fun i _ x _ => A0.b i x) (fun i _ => ?_) ?_⟩
  · show smBl T0 T1 i j = true ↔ _
    rw [smBl_iff]
    constructor
    · intro h; exact ⟨h.1, fun y hy => h.2 y (by omega)⟩
    · intro h; exact ⟨h.1, fun y hy => h.2 y (by omega)⟩
  · rw [← fnd_fst]; exact q
theorem c_pair {post : Int32 → aM → Prop} (R0 : RepC (cR M t0) T0 g0) (R1 : RepC (cR M t1) T1 g1) (A0 : AI T0) (A1 : AI T1) (K : KOk (rK M)) (ht0 : tOk t0) (ht1 : tOk t1) (q : ∀ M', FQ 130 M M' → (pairB T0 T1 = true → ∀ j, j < T1.na → rI M' 130 j = nI ((prt T0 T1 j).getD 0)) → post (bI (pairB T0 T1)) M') : w_Sv_pair post 120 (t0 + 1) (t1 + 1) M := by
  have l0 := R0.lna
  have l1 := R1.lna
  have hh0 := ht0
  have hh1 := ht1
  unfold tOk at hh0 hh1
  have key : ∀ d j M', j + d = T1.na → T0.na = T1.na → FQ 130 M M' → allB (okJ T0 T1) j = true → (∀ x, x < j → rI M' 130 x = nI ((prt T0 T1 x).getD 0)) → w_Sv_pair_L15 post (d + 1) 120 (t0 + 1) (t1 + 1) (nI j) M' := by
    intro d
    induction d with
    | zero =>
      intro j M' hj e f ha h
      have : j = T1.na := by omega
      subst this
      unfold w_Sv_pair_L15
      have R1' := f.cR R1 (by omega)
      have ep : pairB T0 T1 = true := by
        unfold pairB
        rw [Bool.and_eq_true, beq_iff_eq]; exact ⟨e, ha⟩
      have q1 := q M' f (fun _ => h)
      rw [ep] at q1
      exact br_t (by rw [show rI M' (t1 + 1) 0 = _ from R1'.na]; exact Int32.le_refl _) ⟨Or.inr rfl, q1⟩
    | succ d ih =>
      intro j M' hj e f ha h
      have R0' := f.cR R0 (by omega)
      have R1' := f.cR R1 (by omega)
      have K' := f.K K
      unfold w_Sv_pair_L15
      refine pk_le T1.na j (fun z => by omega) (fun _ => ?_) R1'.na rfl
      refine c_find R0' R1' A0 A1 K' ht0 ht1 (by omega) R0'.na ?_
      have no : okJ T0 T1 j = false → ((0 : Int32) = 0 ∨ (0 : Int32) = 1) ∧ post 0 M' := fun c => by
        have ep : pairB T0 T1 = false := by
          unfold pairB
          rw [allB_f (i := j) (by omega) c, Bool.and_false]
        have q1 := q M' f (fun c => by rw [ep] at c; cases c)
        rw [ep] at q1
        exact ⟨Or.inl rfl, q1⟩
      have hpar : ∀ a, prt T0 T1 j = some a → a < T0.na := fun a ha => by have := fnd_s _ _ _ ha; omega
      refine pk_eqm (prt T0 T1 j) (fun z => no ?_) (fun a z => ?_) rfl rfl (fun a ha => by have := hpar a ha; omega)
      · unfold okJ; rw [z]
      · have la := hpar a z
        have eo : okJ T0 T1 j = fitB T0 T1 a j := by unfold okJ; rw [z]
        rw [z, show oI (some a) = nI a from rfl, nI_clamp (n := a) (by omega), nI_clamp (n := j) (by omega)]
        rw [show (rK M' (t0 + 1 + 4)).2 = 8 from K'.tl ht0 5 8, show (rK M' (t0 + 1 + 5)).2 = 8 from K'.tl ht0 6 8, show (rK M' (t0 + 1 + 6)).2 = 8 from K'.tl ht0 7 8, show (rK M' (t1 + 1 + 4)).2 = 8 from K'.tl ht1 5 8, show (rK M' (t1 + 1 + 5)).2 = 8 from K'.tl ht1 6 8, show (rK M' (t1 + 1 + 6)).2 = 8 from K'.tl ht1 7 8, show (rK M' (120 + 10)).2 = 8 from mK K' 129 8]
        rw [show rI M' (t0 + 1 + 4) a = _ from R0'.asz a la, show rI M' (t1 + 1 + 4) j = _ from R1'.asz j (by omega), show rI M' (t0 + 1 + 5) a = _ from R0'.amany a la, show rI M' (t1 + 1 + 5) j = _ from R1'.amany j (by omega), show rI M' (t0 + 1 + 6) a = _ from R0'.amust a la, show rI M' (t1 + 1 + 6) j = _ from R1'.amust j (by omega)]
        have z0 := R0.lasz a la
        have z1 := R1.lasz j (by omega)
        have bb : ∀ x y : Bool, bI x = bI y ↔ x = y := by decide
        refine ⟨vin (by omega), vin (by omega), pk_ne (T0.asz a) (T1.asz j) (fun c => no ?_) (fun c => ⟨vin (by omega), vin (by omega), ?_⟩)⟩
        · rw [eo]; unfold fitB; rw [beq_false_of_ne c, Bool.false_and]
        · refine ⟨fun c2 => no ?_, fun c2 => ⟨vin (by omega), vin (by omega), ?_⟩⟩
          · rw [bb] at c2
            rw [eo]; unfold fitB; rw [beq_false_of_ne c2, Bool.false_and, Bool.and_false]
          · rw [bb] at c2
            refine ⟨fun c3 => ⟨vin (by omega), ?_⟩, fun c3 => no ?_⟩
            · rw [bb] at c3
              rw [nI_1]
              refine ih (j + 1) _ (by omega) e f.w ?_ (fun x hx => ?_)
              · rw [allB, ha, Bool.true_and, eo]
                unfold fitB
                rw [c, Classical.not_not.mp c2, c3]; simp
              · show rI (wI M' 130 j (nI a)) 130 x = _
                by_cases y : x = j
                · subst y; rw [rw_ss, z]; rfl
                · rw [rw_sn y]; exact h x (by omega)
            · rw [bb] at c3
              rw [eo]; unfold fitB; rw [beq_false_of_ne c3, Bool.and_false, Bool.and_false]
  unfold w_Sv_pair
  refine pk_eq T0.na T1.na (fun e => ⟨T1.na + 1, key T1.na 0 M (by omega) e FQ.refl rfl (fun x hx => absurd hx (Nat.not_lt_zero _))⟩) (fun e => ?_) R0.na R1.na
  have ep : pairB T0 T1 = false := by unfold pairB; rw [beq_false_of_ne e, Bool.false_and]
  have q1 := q M FQ.refl (fun c => by rw [ep] at c; cases c)
  rw [ep] at q1
  exact ⟨Or.inl rfl, q1⟩
theorem c_arrange {post : aM → Prop} {n : Nat} {p g : Nat → Nat} (K : KOk (rK M)) (hn : n ≤ 8) (hp : ∀ j, j < n → rI M 130 j = nI (p j) ∧ p j < 8) (hg : ∀ j, j < n → rI M 128 (p j) = nI (g j)) (q : ∀ M', FQ 129 M M' → (∀ j, j < n → rI M' 129 j = nI (g j)) → post M') : w_Sv_arrange post 120 (nI n) M := by
  have key : ∀ d j M', j + d = n → FQ 129 M M' → (∀ x, x < j → rI M' 129 x = nI (g x)) → w_Sv_arrange_L2 post (d + 1) 120 (nI n) (nI j) M' := by
    intro d
    induction d with
    | zero =>
      intro j M' hj f h
      have : j = n := by omega
      subst this
      unfold w_Sv_arrange_L2
      exact br_t (Int32.le_refl _) (q M' f h)
    | succ d ih =>
      intro j M' hj f h
      have K' := f.K K
      have hpj := hp j (by omega)
      unfold w_Sv_arrange_L2
      refine pk_le n j (fun z => by omega) (fun _ => ?_)
      rw [nI_clamp (n := j) (by omega), show rI M' (120 + 10) j = nI (p j) by rw [f.i _ (by omega)]; exact hpj.1, nI_clamp (n := p j) (by omega), show rI M' (120 + 8) (p j) = nI (g j) by rw [f.i _ (by omega)]; exact hg j (by omega)]
      rw [show (rK M' (120 + 10)).2 = 8 from mK K' 129 8, show (rK M' (120 + 8)).2 = 8 from mK K' 127 8, show (rK M' (120 + 9)).2 = 8 from mK K' 128 8, nI_1]
      refine ⟨vin (by omega), vin (by omega), vin (by omega), ih (j + 1) _ (by omega) f.w (fun x hx => ?_)⟩
      show rI (wI M' 129 j (nI (g j))) 129 x = _
      by_cases z : x = j
      · subst z; rw [rw_ss]
      · rw [rw_sn z]; exact h x (by omega)
  unfold w_Sv_arrange
  exact ⟨n + 1, key n 0 M (by omega) FQ.refl (fun x hx => absurd hx (Nat.not_lt_zero _))⟩
theorem c_keepW {post : aM → Prop} {n : Nat} (K : KOk (rK M)) (q : ∀ M', M'.1 = M.1 → M'.2.1 = M.2.1 → M'.2.2.2 = M.2.2.2 → (∀ k, k ≠ 120 → k ≠ 122 → rI M' k = rI M k) → (∀ j, j ≠ 2 → rI M' 120 j = rI M 120 j) → rI M' 120 2 = nI n → (∀ j, j < 8 → rI M' 122 j = rI M 128 j) → post M') : w_Sv_keepWitness post 120 (nI n) M := by
  unfold w_Sv_keepWitness
  rw [show ((0 : Int32)).toNatClampNeg = 0 from by decide, show ((8 : Int32)).toNatClampNeg = 8 from by decide, show (rK M (120 + 8)).2 = 8 from mK K 127 8, show (rK M (120 + 2)).2 = 8 from mK K 121 8]
  refine ⟨⟨by decide, by decide, by decide, by omega, by omega⟩, q _ rfl rfl rfl (fun k h1 h2 => ?_) (fun j hj => ?_) rw_ss (fun j hj => ?_)⟩
  · rw [rw_n h1, cp_r, if_neg h2]
  · rw [rw_sn hj, cp_r, if_neg (by omega)]
  · rw [rw_n (by omega)]
    show rI (aCpy M 128 122 0 0 8) 122 j = _
    rw [cp_r, if_pos rfl, pk_cpy_in (by omega) (by omega), show 0 + (j - 0) = j by omega]
def SVC (M0 M : aM) (T0 T1 : Txt) (c : Nat) : Prop := (FP (fun k => k < 120 ∨ 130 ≤ k) M0 M) ∧ (rI M 120 0 = 1) ∧ (∀ j, j < 36 → rI M 121 j = nI (tlN T0 T1 c j)) ∧ (BR M 128 T0 (Dq T0 c)) ∧ (rI M 120 2 = nI (if (dfN T0 T1 c).isSome then T0.na else 0)) ∧ (∀ x, dfN T0 T1 c = some x → ∀ j, j < T0.na → rI M 122 j = nI (gOf T0 (Dq T0 x) j))
theorem SVC.f {M0 M : aM} {T0 T1 : Txt} {c : Nat} (h : SVC M0 M T0 T1 c) : FP (fun k => k < 120 ∨ 130 ≤ k) M0 M := h.1
theorem SVC.cm {M0 M : aM} {T0 T1 : Txt} {c : Nat} (h : SVC M0 M T0 T1 c) : rI M 120 0 = 1 := h.2.1
theorem SVC.tl {M0 M : aM} {T0 T1 : Txt} {c : Nat} (h : SVC M0 M T0 T1 c) : ∀ j, j < 36 → rI M 121 j = nI (tlN T0 T1 c j) := h.2.2.1
theorem SVC.d {M0 M : aM} {T0 T1 : Txt} {c : Nat} (h : SVC M0 M T0 T1 c) : BR M 128 T0 (Dq T0 c) := h.2.2.2.1
theorem SVC.wn {M0 M : aM} {T0 T1 : Txt} {c : Nat} (h : SVC M0 M T0 T1 c) : rI M 120 2 = nI (if (dfN T0 T1 c).isSome then T0.na else 0) := h.2.2.2.2.1
theorem SVC.wv {M0 M : aM} {T0 T1 : Txt} {c : Nat} (h : SVC M0 M T0 T1 c) : ∀ x, dfN T0 T1 c = some x → ∀ j, j < T0.na → rI M 122 j = nI (gOf T0 (Dq T0 x) j) := h.2.2.2.2.2
theorem VO_s {t : Nat} (K : KOk (rK M)) (ht : tOk t) : VO M 123 t := ⟨fun c h1 h2 => by
    have : c = 1 ∨ c = 2 ∨ c = 3 ∨ c = 4 := by omega
    rcases this with rfl | rfl | rfl | rfl
    · exact mK K 123 100
    · exact mK K 124 100
    · exact mK K 125 100
    · exact mK K 126 100, by unfold tOk at ht; omega⟩
theorem BR_g {w : Nat} {D : Nat → Nat} (A : AI T0) (K : (rK M w).2 = 8) (b : BR M w T0 D) (hD : ∀ j, j < T0.na → D j < rz T0 j) : BG M w T0 (gOf T0 D) := ⟨K, fun i hi => by rw [b i hi]; unfold gOf; rw [if_pos hi], fun i => gOf_lt A hD i⟩
theorem c_cmp {post : Int32 → aM → Prop} (R0 : RepC (cR M t0) T0 g0) (R1 : RepC (cR M t1) T1 g1) (A0 : AI T0) (A1 : AI T1) (N0 : NI T0) (N1 : NI T1) (W0 : WI T0 T0.nn) (W1 : WI T1 T1.nn) (I0 : ∃ rs, RI T0 rs) (I1 : ∃ rs, RI T1 rs) (P0 : 0 < T0.nn) (P1 : 0 < T1.nn) (K : KOk (rK M)) (ht0 : tOk t0) (ht1 : tOk t1) (hpair : pairB T0 T1 = true) (hpr : ∀ j, j < T1.na → rI M 130 j = nI ((prt T0 T1 j).getD 0)) (Q : Nat) (hQ : Q = Qd T0 T0.na) (hQ2 : Q ≤ 4096) (q : ∀ M', SVC M M' T0 T1 Q → post (bI (dfN T0 T1 Q).isNone) M') : ∀ d c M', c + d = Q → SVC M M' T0 T1 c → w_Sv_compare_L40 post (d + 1) 120 t0 t1 (bI (dfN T0 T1 c).isNone) (nI Q) (nI c) M' := by
  have hh0 := ht0
  have hh1 := ht1
  unfold tOk at hh0 hh1
  have l0 := R0.lna
  have l1 := R1.lna
  intro d
  induction d with
  | zero =>
    intro c M' hc s
    have : c = Q := by omega
    subst this
    unfold w_Sv_compare_L40
    exact br_t (Int32.le_refl _) ⟨bI_01 _, q M' s⟩
  | succ d ih =>
    intro c M' hc s
    have hD := Dq_lt A0 c
    have K1 := s.f.K K
    have R0' := s.f.cR R0 (fun c hc => by omega)
    unfold w_Sv_compare_L40
    refine pk_le Q c (fun z => by omega) (fun _ => ?_)
    refine c_judge (v := 123) (k2 := 128) (lo := 0) R0' K1 ht0 (VO_s K1 ht0) N0 W0 I0 (BR_g A0 (mK K1 127 8) s.d hD) (Or.inr (by omega)) (Nat.zero_le _) (fun M1 f1 v1 => ?_)
    have F1 : FP (fun k => k < 124 ∨ 127 ≤ k) M' M1 := FP.ofV f1 (by omega) (by omega) (by omega)
    have K2 := F1.K K1
    have e1 : rI M1 125 0 = nI (qq0 T0 c) := (v1 0 (Nat.le_refl _) P0).2.1
    have lq0 : qq0 T0 c ≤ 5 := dec_le N0 P0
    rw [show ((0 : Int32)).toNatClampNeg = 0 from by decide, show rI M1 (120 + 3 + 2) 0 = _ from e1]
    refine ⟨by rw [show (rK M1 (120 + 3 + 2)).2 = 100 from mK K2 124 100]; exact vin (n := 0) (by omega), ?_⟩
    have R1' := s.f.cR R1 (fun c hc => by omega)
    have R1b := F1.cR R1' (fun c hc => by omega)
    rw [show rI M1 (t1 + 1) 0 = _ from R1b.na]
    have hpp : ∀ j, j < T1.na → (prt T0 T1 j).getD 0 < T0.na := fun j hj => by
      obtain ⟨i, ei, hi, _⟩ := pair_par hpair hj
      rw [ei]; exact hi
    refine c_arrange (p := fun j => (prt T0 T1 j).getD 0) (g := ar T0 T1 (gOf T0 (Dq T0 c))) K2 l1 (fun j hj => ⟨?_, by have := hpp j hj; omega⟩) (fun j hj => ?_) (fun M2 f2 h2 => ?_)
    · rw [F1.i _ (by omega), s.f.i _ (by omega)]; exact hpr j hj
    · rw [F1.i _ (by omega), s.d _ (hpp j hj)]
      unfold ar gOf
      rw [if_pos (hpp j hj)]
    have F2 : FP (fun k => k < 124 ∨ 130 ≤ k ∨ k = 128) M1 M2 := FP.ofQ f2 (by omega)
    have K3 := F2.K K2
    have R1c := F2.cR R1b (fun c hc => by omega)
    refine c_judge (v := 123) (k2 := 129) (lo := 0) (g := ar T0 T1 (gOf T0 (Dq T0 c))) R1c K3 ht1 (VO_s K3 ht1) N1 W1 I1 ⟨mK K3 128 8, h2, fun i => gOf_lt A0 hD _⟩ (Or.inr (by omega)) (Nat.zero_le _) (fun M3 f3 v3 => ?_)
    have F3 : FP (fun k => k < 124 ∨ 127 ≤ k) M2 M3 := FP.ofV f3 (by omega) (by omega) (by omega)
    have K4 := F3.K K3
    have e3 : rI M3 125 0 = nI (qq1 T0 T1 c) := (v3 0 (Nat.le_refl _) P1).2.1
    have lq1 : qq1 T0 T1 c ≤ 5 := dec_le N1 P1
    have e18 : ∀ k, k = 120 ∨ k = 121 ∨ k = 122 ∨ k = 128 → rI M3 k = rI M' k := fun k hk => by rw [F3.i _ (by omega), F2.i _ (by omega), F1.i _ (by omega)]
    have FA : FP (fun k => k < 120 ∨ 130 ≤ k) M M3 := ⟨F3.n.trans (F2.n.trans (F1.n.trans s.f.n)), F3.k.trans (F2.k.trans (F1.k.trans s.f.k)), F3.r.trans (F2.r.trans (F1.r.trans s.f.r)), fun k hk => by rw [F3.i _ (by omega), F2.i _ (by omega), F1.i _ (by omega), s.f.i _ hk]⟩
    have lt := tlN_le (T0 := T0) (T1 := T1) c (6 * qq0 T0 c + qq1 T0 T1 c)
    rw [show rI M3 (120 + 3 + 2) 0 = _ from e3, show (6 : Int32) = nI 6 from rfl, pk_mul, nI_add, show qq0 T0 c * 6 + qq1 T0 T1 c = 6 * qq0 T0 c + qq1 T0 T1 c by omega, nI_clamp (by omega), show rI M3 (120 + 1) (6 * qq0 T0 c + qq1 T0 T1 c) = nI (tlN T0 T1 c (6 * qq0 T0 c + qq1 T0 T1 c)) by rw [e18 _ (by omega)]; exact s.tl _ (by omega), nI_1]
    rw [show (rK M3 (120 + 3 + 2)).2 = 100 from mK K4 124 100, show (rK M3 (120 + 1)).2 = 36 from mK K4 120 36]
    refine ⟨vin (n := 0) (by omega), vin (by omega), vin (by omega), ?_⟩
    have F4 : ∀ y, FP (fun k => k < 120 ∨ 130 ≤ k) M (wI M3 (120 + 1) (6 * qq0 T0 c + qq1 T0 T1 c) y) := fun y => FA.w (by omega)
    have w18 : ∀ k, k = 120 ∨ k = 122 ∨ k = 128 → ∀ y, rI (wI M3 (120 + 1) (6 * qq0 T0 c + qq1 T0 T1 c) y) k = rI M' k := fun k hk y => by rw [rw_n (by omega), e18 _ (by omega)]
    have wtl : ∀ j, j < 36 → rI (wI M3 (120 + 1) (6 * qq0 T0 c + qq1 T0 T1 c) (nI (tlN T0 T1 c (6 * qq0 T0 c + qq1 T0 T1 c) + 1))) 121 j = nI (tlN T0 T1 (c + 1) j) := fun j hj => by
      rw [tlN]
      show rI (wI M3 121 (6 * qq0 T0 c + qq1 T0 T1 c) (nI (tlN T0 T1 c (6 * qq0 T0 c + qq1 T0 T1 c) + 1))) 121 j = _
      by_cases z : j = 6 * qq0 T0 c + qq1 T0 T1 c
      · subst z; rw [rw_ss, up_s]
      · rw [rw_sn z, up_n z, e18 _ (by omega)]; exact s.tl j hj
    have w22 : ∀ y, rI (wI M3 (120 + 1) (6 * qq0 T0 c + qq1 T0 T1 c) y) (120 + 3 + 2) 0 = nI (qq1 T0 T1 c) := fun y => by rw [rw_n (by omega)]; exact e3
    have wk : ∀ y, rK (wI M3 (120 + 1) (6 * qq0 T0 c + qq1 T0 T1 c) y) = rK M3 := fun _ => rfl
    rw [w22]
    have Fm := F4 (nI (tlN T0 T1 c (6 * qq0 T0 c + qq1 T0 T1 c) + 1))
    have wm := fun k hk => w18 k hk (nI (tlN T0 T1 c (6 * qq0 T0 c + qq1 T0 T1 c) + 1))
    generalize wI M3 (120 + 1) (6 * qq0 T0 c + qq1 T0 T1 c) (nI (tlN T0 T1 c (6 * qq0 T0 c + qq1 T0 T1 c) + 1)) = M4 at Fm wm wtl ⊢
    have K5 := Fm.K K
    have fin : ∀ M5, FP (fun k => k < 120 ∨ 130 ≤ k) M M5 → rI M5 128 = rI M' 128 → rI M5 121 = rI M4 121 → rI M5 120 0 = 1 → rI M5 120 2 = nI (if (dfN T0 T1 (c + 1)).isSome then T0.na else 0) → (∀ x, dfN T0 T1 (c + 1) = some x → ∀ j, j < T0.na → rI M5 122 j = nI (gOf T0 (Dq T0 x) j)) → w_Sv_compare_J150 post (w_Sv_compare_L40 post (d + 1)) 120 t0 t1 (bI (dfN T0 T1 (c + 1)).isNone) (nI Q) (nI c) M5 := by
      intro M5 F5 h25 h18 hcm hwn hwv
      unfold w_Sv_compare_J150
      have K6 := F5.K K
      refine c_stepS (F5.cR R0 (fun c hc => by omega)) K6 ht0 A0 hD (fun i hi => by rw [h25]; exact s.d i hi) (fun M6 f6 b6 => ?_)
      rw [nI_1]
      refine ih (c + 1) M6 (by omega) ⟨F5.tr (FP.ofQ f6 (by omega)), ?_, fun j hj => ?_, b6, ?_, fun x hx j hj => ?_⟩
      · rw [f6.i _ (by omega)]; exact hcm
      · rw [f6.i _ (by omega), h18]; exact wtl j hj
      · rw [f6.i _ (by omega)]; exact hwn
      · rw [f6.i _ (by omega)]; exact hwv x hx j hj
    have m17 := wm 120 (by omega)
    have m19 := wm 122 (by omega)
    have m25 := wm 128 (by omega)
    cases hdf : dfN T0 T1 c with
    | some x =>
      have ed : dfN T0 T1 (c + 1) = some x := by rw [dfN, hdf]
      have sw := s.wn
      have sv := s.wv x hdf
      rw [hdf] at sw
      rw [ed] at fin
      refine br_t rfl (fin M4 Fm m25 rfl (by rw [m17]; exact s.cm) (by rw [m17]; exact sw) (fun y hy j hj => ?_))
      cases hy
      rw [m19]; exact sv j hj
    | none =>
      have sw := s.wn
      rw [hdf] at sw
      refine br_f (by decide) ⟨vin (n := 0) (by omega), ?_⟩
      refine pk_eq (qq0 T0 c) (qq1 T0 T1 c) (fun z => ?_) (fun z => ?_)
      · have ed : dfN T0 T1 (c + 1) = none := by rw [dfN, hdf]; show (if _ then _ else _) = _; rw [if_pos z]
        rw [ed] at fin
        exact fin M4 Fm m25 rfl (by rw [m17]; exact s.cm) (by rw [m17]; exact sw) (fun y hy => by cases hy)
      · have ed : dfN T0 T1 (c + 1) = some c := by rw [dfN, hdf]; show (if _ then _ else _) = _; rw [if_neg z]
        rw [ed] at fin
        have R0m := Fm.cR R0 (fun c hc => by omega)
        rw [show rI M4 (t0 + 1) 0 = _ from R0m.na]
        refine c_keepW K5 (fun M5 n5 k5 r5 i5 j5 w5 v5 => ?_)
        refine fin M5 ⟨n5.trans Fm.n, k5.trans Fm.k, r5.trans Fm.r, fun k hk => by rw [i5 _ (by omega) (by omega)]; exact Fm.i k hk⟩ (by rw [i5 _ (by omega) (by omega)]; exact m25) (by rw [i5 _ (by omega) (by omega)]) (by rw [j5 _ (by omega), m17]; exact s.cm) w5 (fun y hy j hj => ?_)
        cases hy
        rw [v5 j (by omega), m25, s.d j hj]
        unfold gOf
        rw [if_pos hj]
end CS
