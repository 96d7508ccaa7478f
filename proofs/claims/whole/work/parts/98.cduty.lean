/-! DUTIES: the class collects them. -/
theorem Dp_inj {fa : Nat → Option Nat} : ∀ (n m : Nat) (o : Option Nat), Dp fa o n → Dp fa o m → n = m := by
  intro n
  induction n with
  | zero =>
    intro m o h1 h2
    cases m with
    | zero => rfl
    | succ m =>
      obtain ⟨a, e, _⟩ := h2
      rw [show o = none from h1] at e
      cases e
  | succ n ih =>
    intro m o h1 h2
    obtain ⟨a, e, h3⟩ := h1
    cases m with
    | zero =>
      rw [show o = none from h2] at e
      cases e
    | succ m =>
      obtain ⟨a', e', h4⟩ := h2
      rw [e] at e'
      cases e'
      rw [ih m _ h3 h4]
theorem tk_sub {T : Txt} {g : Nat → Nat} (N : NI T) : ∀ h k, k < T.nn → tk T g k = false → ∀ x, x ∈ pord T.fa T.nn h k → tk T g x = false := by
  intro h
  induction h with
  | zero => intro k _ _ x hx; cases hx
  | succ h ih =>
    intro k hk ht x hx
    rw [pord] at hx
    rcases List.mem_append.1 hx with hx | hx
    · obtain ⟨y, y1, y2⟩ := List.mem_flatMap.1 hx
      obtain ⟨y3, y4⟩ := mem_kids.1 y1
      refine ih y y3 ?_ x y2
      rw [tk_kid N y3 y4, ht]
      simp
    · rw [List.mem_singleton.1 hx]; exact ht
theorem sub_nil {T : Txt} {g : Nat → Nat} (N : NI T) {h k : Nat} (hk : k < T.nn) (ht : tk T g k = false) : (pord T.fa T.nn h k).flatMap (ownL T g) = [] := by
  have := tk_sub N h k hk ht
  revert this
  generalize pord T.fa T.nn h k = l
  induction l with
  | nil => intro _; rfl
  | cons x l ih =>
    intro hh
    rw [List.flatMap_cons, ih (fun y hy => hh y (List.mem_cons_of_mem _ hy))]
    unfold ownL
    rw [hh x (List.mem_cons_self ..)]
    rfl
/-- what is owed so far -/
def OW (M : aM) (v : Nat) (L : List Nat) : Prop := rI M v 4 = nI L.length ∧ ∀ j, j < L.length → rI M (v + 4) j = nI (L.getD j 0)
def FrW (v : Nat) (M0 M : aM) : Prop := (M.1 = M0.1) ∧ (M.2.1 = M0.2.1) ∧ (M.2.2.2 = M0.2.2.2) ∧ (∀ k, k ≠ v → k ≠ v + 4 → rI M k = rI M0 k) ∧ (∀ j, j ≠ 4 → rI M v j = rI M0 v j)
theorem FrW.n {v : Nat} {M0 M : aM} (h : FrW v M0 M) : M.1 = M0.1 := h.1
theorem FrW.k {v : Nat} {M0 M : aM} (h : FrW v M0 M) : M.2.1 = M0.2.1 := h.2.1
theorem FrW.r {v : Nat} {M0 M : aM} (h : FrW v M0 M) : M.2.2.2 = M0.2.2.2 := h.2.2.1
theorem FrW.i {v : Nat} {M0 M : aM} (h : FrW v M0 M) : ∀ k, k ≠ v → k ≠ v + 4 → rI M k = rI M0 k := h.2.2.2.1
theorem FrW.j {v : Nat} {M0 M : aM} (h : FrW v M0 M) : ∀ j, j ≠ 4 → rI M v j = rI M0 v j := h.2.2.2.2
theorem FrW.refl {v : Nat} {M : aM} : FrW v M M := ⟨rfl, rfl, rfl, fun _ _ _ => rfl, fun _ _ => rfl⟩
theorem FrW.K {v : Nat} {M0 M : aM} (h : FrW v M0 M) : rK M = rK M0 := h.k
theorem FrW.trans {v : Nat} {M0 M M' : aM} (h : FrW v M0 M) (g : FrW v M M') : FrW v M0 M' := ⟨g.n.trans h.n, g.k.trans h.k, g.r.trans h.r, fun k h1 h2 => (g.i k h1 h2).trans (h.i k h1 h2), fun j hj => (g.j j hj).trans (h.j j hj)⟩
theorem FrW.w4 {v : Nat} {M : aM} {x : Int32} : FrW v M (wI M v 4 x) := ⟨rfl, rfl, rfl, fun k h1 _ => rw_n h1, fun j hj => rw_sn hj⟩
theorem FrW.w5 {v : Nat} {M : aM} {j : Nat} {x : Int32} : FrW v M (wI M (v + 4) j x) := ⟨rfl, rfl, rfl, fun k _ h2 => rw_n h2, fun j hj => by rw [rw_n (by omega)]⟩
theorem RepC_W {M M' : aM} {v t : Nat} {T : Txt} {g0 : Nat → Nat} (h : RepC (cR M t) T g0) (F : FrW v M M') (hd : t + 31 ≤ v) : RepC (cR M' t) T g0 := RepC_congr h (fun c hc => by
  show rI M' (t + c) = rI M (t + c)
  exact F.i _ (by omega) (by omega))
section CD
variable {M : aM} {v t : Nat} {T : Txt} {g g0 : Nat → Nat}
theorem c_own {post : aM → Prop} {R : (aM → Prop) → Nat → Nat → Int32 → Int32 → aM → Prop} {i : Nat} (h : RepC (cR M t) T g0) (K : KOk (rK M)) (ht : tOk t) (V : VO M v t) (D : DI T) (hi : i < T.nn) (hdi : dec T g i ≤ 5) (ed : rI M (v + 2) i = nI (dec T g i)) :
    ∀ (n d : Nat) (L : List Nat) (M1 : aM), d + n = T.nd → (L ++ dl T g i n d).length ≤ 100 → FrW v M M1 → OW M1 v L → (∀ M', FrW v M M' → OW M' v (L ++ dl T g i n d) → post M') → w_Vd_collectDutiesOf_L108 post R (n + 1) v (t + 9) (nI i) (nI d) M1 := by
  have lnn := h.lnn
  have lnd := h.lnd
  have hd31 := V.d
  have k12 := K.tl ht 21 100
  have k13 := K.tl ht 22 100
  have k14 := K.tl ht 23 100
  have v2 := V.l 2 (by omega) (by omega)
  have v4 := V.l 4 (by omega) (by omega)
  intro n
  induction n with
  | zero =>
    intro d L M1 hn hL F O q
    have en : rI M1 (t + 9) 10 = nI T.nd := by rw [F.i _ (by omega) (by omega)]; exact h.nd
    unfold w_Vd_collectDutiesOf_L108
    rw [en]
    refine pk_le T.nd d (fun _ => ?_) (fun z => by omega)
    rw [show L ++ dl T g i 0 d = L from List.append_nil L] at q
    exact q M1 F O
  | succ n ih =>
    intro d L M1 hn hL F O q
    have hdn : d < T.nd := by omega
    have en : rI M1 (t + 9) 10 = nI T.nd := by rw [F.i _ (by omega) (by omega)]; exact h.nd
    have eo : rI M1 (t + 22) d = nI (T.dof d) := by rw [F.i _ (by omega) (by omega)]; exact h.dof d hdn
    have ef : rI M1 (t + 23) d = nI (T.dfor d) := by rw [F.i _ (by omega) (by omega)]; exact h.dfor d hdn
    have eu : rI M1 (t + 21) d = nI (T.dnum d) := by rw [F.i _ (by omega) (by omega)]; exact h.dnum d hdn
    have ei : rI M1 (v + 2) i = nI (dec T g i) := by rw [F.i _ (by omega) (by omega)]; exact ed
    have hdo := D.o d hdn
    have hdf : T.dfor d < 3 := by rcases D.f d hdn with z | z <;> omega
    have hLl : L.length ≤ 100 := by rw [List.length_append] at hL; omega
    unfold w_Vd_collectDutiesOf_L108
    simp (disch := omega) only [Nat.add_assoc, Nat.reduceAdd, nI_clamp, en, eo, ef, eu, ei, O.1, F.K, k12, k13, k14, v2, v4]
    refine pk_le T.nd d (fun z => by omega) (fun _ => ?_)
    refine pk_le 100 L.length (fun z => ?_) (fun z => ?_)
    · have hnil : dl T g i (n + 1) d = [] := by
        rw [List.length_append] at hL
        exact List.eq_nil_of_length_eq_zero (by omega)
      rw [hnil, List.append_nil] at q
      exact q M1 F O
    · refine ⟨vin (by omega), ?_⟩
      rw [show nI d + (1 : Int32) = nI (d + 1) from nI_add d 1]
      rw [dl] at q hL
      have skip : ¬ (T.dof d = i ∧ T.dfor d = dec T g i) → w_Vd_collectDutiesOf_L108 post R (n + 1) v (t + 9) (nI i) (nI (d + 1)) M1 := by
        intro z
        rw [if_neg z] at q hL
        exact ih (d + 1) L M1 (by omega) hL F O q
      refine pk_ne (T.dof d) i (fun z1 => skip (fun w => z1 w.1)) (fun z1 => ?_)
      refine ⟨vin (by omega), vin (by omega), pk_ne (T.dfor d) (dec T g i) (fun z2 => skip (fun w => z2 w.2)) (fun z2 => ?_)⟩
      rw [if_pos ⟨z1, z2⟩] at q hL
      refine ⟨vin (by omega), vin (by omega), ?_⟩
      rw [rw_n (by omega), O.1, show nI L.length + (1 : Int32) = nI (L.length + 1) from nI_add _ 1]
      refine ih (d + 1) (L ++ [T.dnum d]) _ (by omega) (by rw [List.append_assoc]; exact hL) ((F.trans FrW.w5).trans FrW.w4) ?_ (by rw [List.append_assoc]; exact q)
      refine ⟨by rw [rw_ss, List.length_append]; rfl, ?_⟩
      intro j hj
      rw [rw_n (by omega)]
      rw [List.length_append] at hj
      have hj2 : j < L.length + 1 := hj
      by_cases y : j = L.length
      · subst y
        rw [rw_ss, List.getD_eq_getElem?_getD, List.getElem?_append_right (Nat.le_refl _)]
        simp
      · rw [rw_sn y, O.2 j (by omega), List.getD_eq_getElem?_getD, List.getD_eq_getElem?_getD, List.getElem?_append_left (by omega)]
end CD
