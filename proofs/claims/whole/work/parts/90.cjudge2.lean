/-! THE CLASS JUDGES, on: by one, combined, the loop. -/
def oneS (t : Nat → Nat) : Option Nat → List Nat → Option (Option Nat)
  | o, [] => some o
  | o, y :: l => if t y = 2 ∨ (t y = 1 ∧ o ≠ none) then none else oneS t (if t y = 1 then some y else o) l
theorem oneS_eq {t : Nat → Nat} : ∀ (l : List Nat) (o : Option Nat), oneS t o l = if 2 ∈ l.map t ∨ 1 < (l.map t).count 1 + (if o = none then 0 else 1) then none else some (match o with
    | none => oneC t l
    | some k => some k) := by
  intro l
  induction l with
  | nil =>
    intro o
    rw [oneS]
    cases o with
    | none => simp [oneC]
    | some k => simp
  | cons y l ih =>
    intro o
    rw [oneS, ih]
    by_cases h2 : t y = 2
    · rw [if_pos (Or.inl h2), if_pos]
      left
      rw [List.map_cons, h2]
      exact List.mem_cons_self ..
    · by_cases h1 : t y = 1
      · cases o with
        | none =>
          rw [if_neg (by simp [h1]), if_pos h1]
          simp [h1, oneC]
        | some k =>
          rw [if_pos (Or.inr ⟨h1, by simp⟩), if_pos]
          right
          simp [h1]
      · rw [if_neg (by simp [h1, h2]), if_neg h1]
        have e1 : ¬ 2 = t y := fun z => h2 z.symm
        have e2 : ¬ 1 = t y := fun z => h1 z.symm
        have e3 : (t y == 1) = false := by simp [h1]
        simp only [List.map_cons, List.mem_cons, e1, false_or, List.count_cons, e3, oneC, if_neg h1]
        simp
theorem combV_le {T : Txt} {g : Nat → Nat} (N : NI T) {w a : Nat} : combV w (kids T.fa T.nn a) (dec T g) (tru T g) ≤ 5 := by
  unfold combV
  split
  · exact strictV_le (by omega)
  · split
    · exact strictV_le (by omega)
    · split
      · cases hf : fstC (dec T g) (kids T.fa T.nn a) with
        | none => exact Nat.zero_le _
        | some k => exact dec_le N (mem_kids.1 (fstC_mem _ k hf).1).1
      · split
        · split
          · exact Nat.le_refl _
          · cases hf : oneC (tru T g) (kids T.fa T.nn a) with
            | none => exact Nat.zero_le _
            | some k => exact dec_le N (mem_kids.1 (oneC_mem _ k hf).1).1
        · split
          · split <;> omega
          · split <;> omega
section CJ
variable {M : aM} {v t : Nat} {T : Txt} {g g0 : Nat → Nat}
theorem c_one {post : Int32 → aM → Prop} {a : Nat} {d tr : Nat → Nat} (h : RepC (cR M t) T g0) (K : KOk (rK M)) (ht : tOk t) (V : VO M v t) (ha : a < T.nn) (hc : rI M (v + 3) a = -1) (htr : ∀ k, tr k ≤ 2) :
    ∀ (l : List Nat) (o : Option Nat) (x : Int32), hdI l x → lnk T.nxt l → l.length ≤ 100 → (∀ k, k ∈ l → k < T.nn ∧ rI M (v + 1) k = nI (tr k) ∧ rI M (v + 2) k = nI (d k)) → (∀ k, o = some k → k < T.nn ∧ rI M (v + 2) k = nI (d k)) → (∀ M', ChF v a (oI (match oneS tr o l with | none => none | some o => o)) M M' → post (nI (match oneS tr o l with | none => 5 | some none => 0 | some (some k) => d k)) M') → w_Vd_byOne_L15 post (l.length + 1) v (t + 9) (nI a) (oI o) x (nI l.length) M := by
  have lnn := h.lnn
  have k10 := K.tl ht 19 100
  have v1 := V.l 1 (by omega) (by omega)
  have v2 := V.l 2 (by omega) (by omega)
  have v3 := V.l 3 (by omega) (by omega)
  intro l
  induction l with
  | nil =>
    intro o x _ _ _ _ ho q
    unfold w_Vd_byOne_L15
    refine br_t (by decide) ?_
    unfold w_Vd_byOne_J84
    simp (disch := omega) only [nI_clamp, v2, v3]
    refine ⟨vin (by omega), ?_⟩
    cases o with
    | none =>
      refine nb_t rfl ?_
      exact q _ ChF.w
    | some k =>
      obtain ⟨k1, k2⟩ := ho k rfl
      refine nb_f (show ¬ nI k = -1 from nI_m1 (by omega)) ?_
      have ec : (oI (some k)).toNatClampNeg = k := nI_clamp (by omega)
      rw [ec, rw_n (by omega), k2]
      refine ⟨vin (by omega), ?_⟩
      exact q _ ChF.w
  | cons y l ih =>
    intro o x hx hl hlen hk ho q
    rw [hx y l rfl]
    obtain ⟨hy, et, ey⟩ := hk y (List.mem_cons_self ..)
    obtain ⟨hn1, hn2⟩ := hdI_nx hl
    have hlen2 : l.length + 1 ≤ 100 := hlen
    have en : rI M (t + 19) y = oI (T.nxt y) := h.nxt y hy
    have hty := htr y
    unfold w_Vd_byOne_L15
    refine pk_le (l.length + 1) 0 (fun z => by omega) (fun _ => ?_)
    refine br_f (nI_m1 (by omega)) ?_
    simp (disch := omega) only [nI_clamp, et, v1]
    refine ⟨vin (by omega), ?_⟩
    rw [oneS] at q
    refine pk_eq (tr y) 2 (fun z => ?_) (fun z2 => ?_)
    · rw [if_pos (Or.inl z)] at q
      exact q M (ChF.id hc)
    refine ⟨vin (by omega), ?_⟩
    have J69 : ∀ o', (∀ k, o' = some k → k < T.nn ∧ rI M (v + 2) k = nI (d k)) → (∀ M', ChF v a (oI (match oneS tr o' l with | none => none | some o => o)) M M' → post (nI (match oneS tr o' l with | none => 5 | some none => 0 | some (some k) => d k)) M') → w_Vd_byOne_J69 post (w_Vd_byOne_L15 post (l.length + 1)) v (t + 9) (nI a) (oI o') (nI y) (nI (y :: l).length) M := by
      intro o' ho' q'
      unfold w_Vd_byOne_J69
      simp (disch := omega) only [Nat.add_assoc, Nat.reduceAdd, nI_clamp, en, k10]
      refine ⟨vin (by omega), ?_⟩
      rw [show nI (y :: l).length = nI (l.length + 1) from rfl, pk_m1]
      exact ih o' _ hn1 hn2 (by omega) (fun k hk2 => hk k (List.mem_cons_of_mem _ hk2)) ho' q'
    have J55 : ¬ (tr y = 1 ∧ o ≠ none) → w_Vd_byOne_J55 post (w_Vd_byOne_L15 post (l.length + 1)) v (t + 9) (nI a) (oI o) (nI y) (nI (y :: l).length) M := by
      intro hn
      rw [if_neg (fun w => w.elim z2 hn)] at q
      unfold w_Vd_byOne_J55
      simp (disch := omega) only [nI_clamp, et, v1]
      refine ⟨vin (by omega), ?_⟩
      refine pk_ne (tr y) 1 (fun z => ?_) (fun z => ?_)
      · rw [if_neg z] at q
        exact J69 o ho q
      · rw [if_pos z] at q
        exact J69 (some y) (fun k e => by cases e; exact ⟨hy, ey⟩) q
    refine pk_ne (tr y) 1 (fun z => ?_) (fun z => ?_)
    · exact J55 (fun w => z w.1)
    · refine pk_eqm o (fun z3 => ?_) (fun k z3 => ?_) rfl rfl (fun k e => by have := (ho k e).1; omega)
      · exact J55 (fun w => w.2 z3)
      · rw [if_pos (Or.inr ⟨z, by rw [z3]; simp⟩)] at q
        exact q M (ChF.id hc)
theorem c_comb {post : Int32 → aM → Prop} {a : Nat} (h : RepC (cR M t) T g0) (K : KOk (rK M)) (ht : tOk t) (V : VO M v t) (N : NI T) (W : WI T T.nn) (ha : a < T.nn) (hs : T.srt a = 2) (hc : rI M (v + 3) a = -1) (hD : VD M v T g (a + 1)) (ht0 : tru T g a ≠ 0)
    (q : ∀ M', ChF v a (oI (chs T g a)) M M' → post (nI (combV ((T.way a).getD 0) (kids T.fa T.nn a) (dec T g) (tru T g))) M') : w_Vd_combined post v (t + 9) (nI a) M := by
  have lnn := h.lnn
  have k5 := K.tl ht 14 100
  have k9 := K.tl ht 18 100
  have k10 := K.tl ht 19 100
  have v2 := V.l 2 (by omega) (by omega)
  obtain ⟨w, hw, ew⟩ := W.w a ha hs
  have e5 : rI M (t + 14) a = nI w := by
    have := h.way a ha
    rw [ew] at this
    exact this
  have e9 : rI M (t + 18) a = nI (kids T.fa T.nn a).length := by
    have := h.chn a ha
    rw [N.ch a ha] at this
    exact this
  have hlen : (kids T.fa T.nn a).length ≤ 100 := by
    have := h.lchn a ha
    rw [N.ch a ha] at this
    omega
  have hl := N.nx a ha
  have hin : vp_in (nI a) 100 := vin (by omega)
  have e1 : nI a + (1 : Int32) = nI (a + 1) := nI_add a 1
  have hh : hdI (kids T.fa T.nn a) (nI (a + 1)) := by
    intro y l' e
    obtain ⟨l2, e2⟩ := N.first (a := a) (by rw [e]; simp)
    rw [e2] at e
    cases e
    rfl
  have hk : ∀ k, k ∈ kids T.fa T.nn a → k < T.nn ∧ rI M (v + 1) k = nI (tru T g k) ∧ rI M (v + 2) k = nI (dec T g k) := by
    intro k hk
    obtain ⟨k1, k2⟩ := mem_kids.1 hk
    have := (N.fl k k1 a k2).1
    obtain ⟨d1, d2, _⟩ := hD k (by omega) k1
    exact ⟨k1, d1, d2⟩
  have hch : chs T g a = if w = 2 then fstC (dec T g) (kids T.fa T.nn a) else if w = 3 then (if 2 ∈ (kids T.fa T.nn a).map (tru T g) ∨ 1 < ((kids T.fa T.nn a).map (tru T g)).count 1 then none else oneC (tru T g) (kids T.fa T.nn a)) else none := by
    unfold chs
    rw [if_neg (fun z => z.elim ht0 (fun z => z hs)), ew]
    rfl
  rw [hch, ew] at q
  rw [show (some w).getD 0 = w from rfl] at q
  unfold w_Vd_combined
  simp (disch := omega) only [Nat.add_assoc, Nat.reduceAdd, nI_clamp, e5, e9, k5, k9]
  refine ⟨hin, ?_⟩
  refine pk_ne w 2 (fun z2 => ?_) (fun z2 => ?_)
  · refine ⟨hin, ?_⟩
    rw [if_neg z2] at q
    refine pk_ne w 3 (fun z3 => ?_) (fun z3 => ?_)
    · rw [if_neg z3] at q
      refine ⟨hin, (kids T.fa T.nn a).length + 1, ?_⟩
      rw [e1]
      have q2 := q M (ChF.id hc)
      -- decisions that are seen
      have key : ∀ (l : List Nat) (s : Nat) (x : Int32), hdI l x → lnk T.nxt l → l.length ≤ 100 → (∀ k, k ∈ l → k < T.nn ∧ rI M (v + 1) k = nI (tru T g k) ∧ rI M (v + 2) k = nI (dec T g k)) → w_Vd_combined_J87 post (t + 9) (nI a) (nI (sOf (l.map (dec T g)) s)) M → w_Vd_combined_L49 post (l.length + 1) v (t + 9) (nI a) (nI s) x (nI l.length) M := by
        intro l
        induction l with
        | nil =>
          intro s x _ _ _ _ qq
          unfold w_Vd_combined_L49
          exact br_t (by decide) qq
        | cons y l ih =>
          intro s x hx hl hlen hk qq
          rw [hx y l rfl]
          obtain ⟨hy, et, ey⟩ := hk y (List.mem_cons_self ..)
          obtain ⟨hn1, hn2⟩ := hdI_nx hl
          have hlen2 : l.length + 1 ≤ 100 := hlen
          have en : rI M (t + 19) y = oI (T.nxt y) := h.nxt y hy
          unfold w_Vd_combined_L49
          refine pk_le (l.length + 1) 0 (fun z => by omega) (fun _ => ?_)
          refine br_f (nI_m1 (by omega)) ?_
          simp (disch := omega) only [Nat.add_assoc, Nat.reduceAdd, nI_clamp, ey, en, k10, v2]
          refine ⟨vin (by omega), vin (by omega), ?_⟩
          rw [show nI (y :: l).length = nI (l.length + 1) from rfl, pk_m1, s_one s _ (dec_le N hy)]
          exact ih _ _ hn1 hn2 (by omega) (fun k hk2 => hk k (List.mem_cons_of_mem _ hk2)) qq
      refine key _ 0 _ hh hl hlen hk ?_
      have hdl : ∀ d, d ∈ (kids T.fa T.nn a).map (dec T g) → d ≤ 5 := by
        intro d hd
        obtain ⟨k, k1, rfl⟩ := List.mem_map.1 hd
        exact dec_le N (mem_kids.1 k1).1
      have hsl := sOf_lt ((kids T.fa T.nn a).map (dec T g)) 0 (by omega) hdl
      have hb : ∀ d, (sOf ((kids T.fa T.nn a).map (dec T g)) 0).testBit d = decide (d ∈ (kids T.fa T.nn a).map (dec T g)) := by
        intro d
        rw [sOf_bit]; simp
      unfold combV at q2
      unfold w_Vd_combined_J87
      simp (disch := omega) only [Nat.add_assoc, Nat.reduceAdd, nI_clamp, e5, k5]
      refine ⟨hin, ?_⟩
      refine pk_eq w 0 (fun z => ?_) (fun z0 => ?_)
      · rw [if_pos z] at q2
        exact c_over (yes := 1) (no := 2) hdl (by omega) (by omega) q2
      rw [if_neg z0] at q2
      refine pk_eq w 1 (fun z => ?_) (fun z1 => ?_)
      · rw [if_pos z] at q2
        exact c_over (yes := 2) (no := 1) hdl (by omega) (by omega) q2
      rw [if_neg z1, if_neg z2, if_neg z3] at q2
      refine pk_eq w 2 (fun z => absurd z z2) (fun _ => ?_)
      refine pk_eq w 3 (fun z => absurd z z3) (fun _ => ?_)
      refine pk_eq w 4 (fun z => ?_) (fun z4 => ?_)
      · rw [if_pos z] at q2
        refine c_has (d := 1) hsl (by omega) ?_
        rw [hb]
        refine pk_b0 (decide (1 ∈ (kids T.fa T.nn a).map (dec T g))) (fun z => ?_) (fun z => ?_)
        · rw [if_neg (of_decide_eq_false z)] at q2; exact q2
        · rw [if_pos (of_decide_eq_true z)] at q2; exact q2
      · rw [if_neg z4] at q2
        refine c_has (d := 2) hsl (by omega) ?_
        rw [hb]
        refine pk_b0 (decide (2 ∈ (kids T.fa T.nn a).map (dec T g))) (fun z => ?_) (fun z => ?_)
        · rw [if_neg (of_decide_eq_false z)] at q2; exact q2
        · rw [if_pos (of_decide_eq_true z)] at q2; exact q2
    · rw [if_pos z3] at q
      subst z3
      unfold w_Vd_byOne
      simp (disch := omega) only [Nat.add_assoc, Nat.reduceAdd, nI_clamp, e9, k9]
      refine ⟨hin, (kids T.fa T.nn a).length + 1, ?_⟩
      rw [e1]
      refine c_one h K ht V ha hc (tru_le T g) _ none _ hh hl hlen hk (fun k e => by cases e) ?_
      rw [oneS_eq]
      unfold combV at q
      simp only [if_neg (show ¬ 3 = 0 by omega), if_neg (show ¬ 3 = 1 by omega), if_neg (show ¬ 3 = 2 by omega), if_pos (show (3 : Nat) = 3 from rfl)] at q
      simp only [if_true, Nat.add_zero]
      by_cases z : 2 ∈ (kids T.fa T.nn a).map (tru T g) ∨ 1 < ((kids T.fa T.nn a).map (tru T g)).count 1
      · rw [if_pos z, if_pos z] at q
        rw [if_pos z]
        exact q
      · rw [if_neg z, if_neg z] at q
        rw [if_neg z]
        cases hf : oneC (tru T g) (kids T.fa T.nn a) with
        | none => rw [hf] at q; exact q
        | some k => rw [hf] at q; exact q
  · rw [if_pos z2] at q
    subst z2
    unfold w_Vd_byFirst
    simp (disch := omega) only [Nat.add_assoc, Nat.reduceAdd, nI_clamp, e9, k9]
    refine ⟨hin, (kids T.fa T.nn a).length + 1, ?_⟩
    rw [e1]
    exact c_first h K ht V ha (fun k hk2 => dec_le N hk2) hc _ _ hh hl hlen (fun k hk2 => ⟨(hk k hk2).1, (hk k hk2).2.2⟩) q
end CJ
section CJ
variable {M : aM} {v t : Nat} {T : Txt} {g g0 : Nat → Nat}
theorem RepC_V {M' : aM} (h : RepC (cR M t) T g0) (F : FrV v M M') (hd : t + 31 ≤ v) : RepC (cR M' t) T g0 := RepC_congr h (fun c hc => by
  show rI M' (t + c) = rI M (t + c)
  exact F.i _ (by omega) (by omega) (by omega))
theorem BG_V {M' : aM} {k2 : Nat} (h : BG M k2 T g) (F : FrV v M M') (hd : k2 ≤ v ∨ v + 4 ≤ k2) : BG M' k2 T g := ⟨by rw [F.K]; exact h.K, by rw [F.i _ (by omega) (by omega) (by omega)]; exact h.b, h.lt⟩
theorem VO_V {M' : aM} (h : VO M v t) (F : FrV v M M') : VO M' v t := ⟨by rw [F.K]; exact h.l, h.d⟩
theorem c_node {post : aM → Prop} {K15 : Nat → Nat → Nat → Int32 → Nat → Int32 → aM → Prop} {k2 i : Nat} {lo : Int32} (h : RepC (cR M t) T g0) (K : KOk (rK M)) (ht : tOk t) (V : VO M v t) (N : NI T) (W : WI T T.nn) (hi : i < T.nn) (hD : VD M v T g (i + 1)) (q : ∀ M', FrV v M M' → VD M' v T g i → K15 v t k2 lo (t + 9) (nI i + (-1)) M') : w_Vd_judge_J59 post K15 v t k2 lo (t + 9) (nI i) (v + 1) (nI i) (nI (tru T g i)) M := by
  have lnn := h.lnn
  have hin : vp_in (nI i) 100 := vin (by omega)
  have v1 := V.l 1 (by omega) (by omega)
  have v2 := V.l 2 (by omega) (by omega)
  have v3 := V.l 3 (by omega) (by omega)
  have k4 := K.tl ht 13 100
  have htr := tru_le T g i
  unfold w_Vd_judge_J59
  obtain ⟨M1, e1⟩ : ∃ x : aM, x = wI (wI M (v + 1) (nI i).toNatClampNeg (nI (tru T g i))) (v + 3) (nI i).toNatClampNeg ((-1 : Int32)) := ⟨_, rfl⟩
  rw [v1, v3, ← e1]
  rw [nI_clamp (n := i) (by omega)] at e1
  have F1 : FrV v M M1 := by
    rw [e1]
    exact (FrV.refl.w (Or.inl rfl)).w (Or.inr (Or.inr rfl))
  have t1 : rI M1 (v + 1) i = nI (tru T g i) := by rw [e1, rw_n (by omega), rw_ss]
  have c1 : rI M1 (v + 3) i = -1 := by rw [e1, rw_ss]
  have h1 := RepC_V h F1 V.d
  have V1 := VO_V V F1
  have K1 : KOk (rK M1) := by rw [F1.K]; exact K
  have D1 : VD M1 v T g (i + 1) := by
    intro j hj hj2
    rw [e1]
    rw [rw_n (k := v + 3) (k' := v + 1) (by omega), rw_sn (k := v + 1) (j' := j) (by omega), rw_n (k := v + 3) (k' := v + 2) (by omega), rw_n (k := v + 1) (k' := v + 2) (by omega), rw_sn (k := v + 3) (j' := j) (by omega), rw_n (k := v + 1) (k' := v + 3) (by omega)]
    exact hD j hj hj2
  -- behind the decision that is sure
  have J : ∀ (M2 : aM) (x : Nat), x ≤ 5 → ChF v i (oI (chs T g i)) M1 M2 → dec T g i = wk (tru T g i) x → (tru T g i = 0 → x = 0) → w_Vd_judge_J90 post K15 v t k2 lo (t + 9) (nI i) (nI x) M2 := by
    intro M2 x hx C hd hx0
    have t2 : rI M2 (v + 1) i = nI (tru T g i) := by rw [C.i _ (by omega)]; exact t1
    have F2 : FrV v M M2 := F1.trans C.V
    have v12 := (VO_V V F2).l 1 (by omega) (by omega)
    have v22 := (VO_V V F2).l 2 (by omega) (by omega)
    have fin : K15 v t k2 lo (t + 9) (nI i + (-1)) (wI M2 (v + 2) i (nI (dec T g i))) := by
      refine q _ (F2.w (Or.inr (Or.inl rfl))) ?_
      intro j hj hj2
      by_cases z : j = i
      · subst z
        rw [rw_n (by omega), rw_ss, rw_n (by omega)]
        exact ⟨t2, rfl, C.a⟩
      · rw [rw_n (by omega), rw_sn z, rw_n (by omega), C.i _ (by omega), C.i _ (by omega), C.j _ z]
        exact D1 j (by omega) hj2
    unfold wk at hd
    have A : dec T g i = x → w_Vd_judge_J119 post K15 v t k2 lo (t + 9) (nI i) (nI x) M2 := by
      intro e
      unfold w_Vd_judge_J119 w_Vd_judge_J120
      refine br_t rfl ?_
      rw [nI_clamp (by omega), v22]
      rw [e] at fin
      exact ⟨hin, fin⟩
    have B : dec T g i = x + 2 → w_Vd_judge_J115 post K15 v t k2 lo (t + 9) (nI i) (nI x) M2 := by
      intro e
      unfold w_Vd_judge_J115 w_Vd_judge_J120
      refine br_f (by decide) ?_
      rw [nI_clamp (by omega), v22, show nI x + (2 : Int32) = nI (x + 2) from nI_add x 2]
      rw [e] at fin
      exact ⟨hin, fin⟩
    unfold w_Vd_judge_J90
    rw [nI_clamp (by omega), t2, v12]
    refine ⟨hin, ?_⟩
    refine pk_ne (tru T g i) 2 (fun z => ?_) (fun z => ?_)
    · refine A ?_
      rw [hd]
      by_cases z0 : tru T g i = 0
      · rw [if_pos z0, hx0 z0]
      · rw [if_neg z0, if_pos (by omega)]
    · rw [if_neg (by omega), if_neg (by omega)] at hd
      refine pk_eq x 1 (fun z1 => ?_) (fun z1 => ?_)
      · rw [if_pos (Or.inl z1)] at hd
        exact B hd
      · refine pk_ne x 2 (fun z2 => ?_) (fun z2 => ?_)
        · rw [if_neg (by omega)] at hd
          exact A hd
        · rw [if_pos (Or.inr z2)] at hd
          exact B hd
  have hde := dec_eq (g := g) N hi
  rw [nI_clamp (n := i) (by omega), t1]
  refine ⟨hin, hin, hin, ?_⟩
  refine pk_ne (tru T g i) 0 (fun z => ?_) (fun z => ?_)
  · have hs := N.sr i hi
    have e4 : rI M1 (t + 13) i = nI (T.srt i) := h1.srt i hi
    unfold w_Vd_decisionIfTrue
    simp (disch := omega) only [Nat.add_assoc, Nat.reduceAdd, nI_clamp, e4, F1.K, k4]
    refine ⟨hin, ?_⟩
    have hr : T.srt i ≠ 2 → chs T g i = none := by
      intro w
      unfold chs
      rw [if_pos (Or.inr w)]
    refine pk_eq (T.srt i) 0 (fun z0 => ?_) (fun z0 => ?_)
    · rw [if_neg (by omega), z0] at hde
      exact J M1 1 (by omega) (by rw [hr (by omega)]; exact ChF.id c1) hde (fun w => absurd w z)
    · refine pk_eq (T.srt i) 1 (fun z1 => ?_) (fun z1 => ?_)
      · rw [if_neg (by omega), z1] at hde
        exact J M1 2 (by omega) (by rw [hr (by omega)]; exact ChF.id c1) hde (fun w => absurd w z)
      · rw [if_pos (by omega)] at hde
        refine c_comb h1 K1 ht V1 N W hi (by omega) c1 D1 z ?_
        intro M2 C
        refine J M2 _ ?_ C hde (fun w => absurd w z)
        exact combV_le N
  · have hc : chs T g i = none := by
      unfold chs
      rw [if_pos (Or.inl z)]
    refine J M1 0 (by omega) (by rw [hc]; exact ChF.id c1) ?_ (fun _ => rfl)
    rw [hde]
    unfold wk
    rw [if_pos z, if_pos z]
end CJ
