/-! DUTIES: the class collects them, down the tree. -/
theorem chs_lt {T : Txt} {g : Nat → Nat} (N : NI T) {i c : Nat} (h : chs T g i = some c) : c < T.nn := by
  unfold chs at h
  split at h
  · cases h
  · split at h
    · exact (mem_kids.1 (fstC_mem _ c h).1).1
    · split at h
      · split at h
        · cases h
        · exact (mem_kids.1 (oneC_mem _ c h).1).1
      · cases h
section CD
variable {M : aM} {v t : Nat} {T : Txt} {g g0 : Nat → Nat}
theorem c_dutOf (h : RepC (cR M t) T g0) (K : KOk (rK M)) (ht : tOk t) (V : VO M v t) (N : NI T) (W : WI T T.nn) (D : DI T) (hdep : ∀ i, i < T.nn → ∃ n, n ≤ 20 ∧ Dp T.fa (T.fa i) n) (hD : VD M v T g 0) :
    ∀ (hh i dp Df : Nat) (L : List Nat) (M1 : aM) (post : aM → Prop), i < T.nn → T.nn ≤ hh + i → tk T g i = true → Dp T.fa (T.fa i) dp → 21 ≤ Df + dp → (L ++ (pord T.fa T.nn hh i).flatMap (ownL T g)).length ≤ 100 → FrW v M M1 → OW M1 v L → (∀ M', FrW v M M' → OW M' v (L ++ (pord T.fa T.nn hh i).flatMap (ownL T g)) → post M') → (S_Vc Df) post v (t + 9) (nI i) (nI dp) M1 := by
  have lnn := h.lnn
  have hd31 := V.d
  have k9 := K.tl ht 18 100
  have k10 := K.tl ht 19 100
  have v2 := V.l 2 (by omega) (by omega)
  have v3 := V.l 3 (by omega) (by omega)
  intro hh
  induction hh with
  | zero => intro i dp Df L M1 post hi h1; omega
  | succ hh ih =>
    intro i dp Df L M1 post hi hf htk hdp hDf hL F O q
    obtain ⟨n, n1, n2⟩ := hdep i hi
    have edp := Dp_inj _ _ _ hdp n2
    obtain ⟨Df, rfl⟩ : ∃ x, Df = x + 1 := ⟨Df - 1, by omega⟩
    have hdi := tk_dec N hi htk
    have e9 : rI M1 (t + 18) i = nI (kids T.fa T.nn i).length := by
      rw [F.i _ (by omega) (by omega)]
      have := h.chn i hi
      rw [N.ch i hi] at this
      exact this
    have hlen : (kids T.fa T.nn i).length ≤ 100 := by
      have := h.lchn i hi
      rw [N.ch i hi] at this
      omega
    have e1 : nI i + (1 : Int32) = nI (i + 1) := nI_add i 1
    have hhd : hdI (kids T.fa T.nn i) (nI (i + 1)) := by
      intro y l' e
      obtain ⟨l2, e2⟩ := N.first (a := i) (by rw [e]; simp)
      rw [e2] at e
      cases e
      rfl
    have eown : ownL T g i = dl T g i T.nd 0 := by unfold ownL; rw [if_pos htk]
    rw [pord, List.flatMap_append, List.flatMap_assoc] at q hL
    have es : [i].flatMap (ownL T g) = dl T g i T.nd 0 := by rw [List.flatMap_cons, eown]; exact List.append_nil _
    rw [es] at q hL
    -- children that are left
    have key : ∀ (l : List Nat) (x : Int32) (L1 : List Nat) (M2 : aM), hdI l x → lnk T.nxt l → l.length ≤ 100 → (∀ k, k ∈ l → k < T.nn ∧ T.fa k = some i) → (L1 ++ (l.flatMap (fun k => (pord T.fa T.nn hh k).flatMap (ownL T g)) ++ dl T g i T.nd 0)).length ≤ 100 → FrW v M M2 → OW M2 v L1 → (∀ M', FrW v M M' → OW M' v (L1 ++ (l.flatMap (fun k => (pord T.fa T.nn hh k).flatMap (ownL T g)) ++ dl T g i T.nd 0)) → post M') → w_Vd_collectDutiesOf_L20 post (S_Vc Df) (l.length + 1) v (t + 9) (nI i) (nI dp) x (nI l.length) M2 := by
      intro l
      induction l with
      | nil =>
        intro x L1 M2 _ _ _ _ hL1 F2 O2 q2
        unfold w_Vd_collectDutiesOf_L20
        refine br_t (by decide) ?_
        refine ⟨T.nd + 1, ?_⟩
        refine c_own h K ht V D hi (dec_le N hi) (hD i (by omega) hi).2.1 T.nd 0 L1 M2 (by omega) ?_ F2 O2 ?_
        · exact hL1
        · exact q2
      | cons y l ihl =>
        intro x L1 M2 hx hl hll hk hL1 F2 O2 q2
        rw [hx y l rfl]
        obtain ⟨hy, hfy⟩ := hk y (List.mem_cons_self ..)
        obtain ⟨hn1, hn2⟩ := hdI_nx hl
        have hll2 : l.length + 1 ≤ 100 := hll
        have hyi := (N.fl y hy i hfy)
        have en : rI M2 (t + 19) y = oI (T.nxt y) := by rw [F2.i _ (by omega) (by omega)]; exact h.nxt y hy
        have ec : rI M2 (v + 3) i = oI (chs T g i) := by rw [F2.i _ (by omega) (by omega)]; exact (hD i (by omega) hi).2.2
        have edi : rI M2 (v + 2) i = nI (dec T g i) := by rw [F2.i _ (by omega) (by omega)]; exact (hD i (by omega) hi).2.1
        have edy : rI M2 (v + 2) y = nI (dec T g y) := by rw [F2.i _ (by omega) (by omega)]; exact (hD y (by omega) hy).2.1
        have hdy := dec_le (g := g) N hy
        obtain ⟨w, hw, ew⟩ := W.w i hi hyi.2
        have hch := chs_of N hi hyi.2 ew hdi
        -- who takes part
        have htky : tk T g y = true ↔ (dec T g y = dec T g i ∧ (chs T g i = none ∨ chs T g i = some y)) := by
          rw [tk_kid N hy hfy, htk, ew]
          simp only [Bool.and_eq_true, decide_eq_true_eq, true_and, Option.getD_some]
          constructor
          · rintro ⟨_, b, c⟩
            refine ⟨b, ?_⟩
            rcases c with ⟨c1, c2⟩ | c
            · exact Or.inl (hch.2.2 c1 c2)
            · exact Or.inr c
          · rintro ⟨b, c⟩
            refine ⟨by rw [b]; exact hdi, b, ?_⟩
            rcases c with c | c
            · left
              exact ⟨fun z => (hch.1 z).2 c, fun z => (hch.2.1 z).2 c⟩
            · exact Or.inr c
        rw [List.flatMap_cons] at hL1 q2
        -- behind the child
        have J90 : ∀ (L2 : List Nat) (M3 : aM), FrW v M M3 → OW M3 v L2 → L2 = L1 ++ (pord T.fa T.nn hh y).flatMap (ownL T g) → w_Vd_collectDutiesOf_J90 post (S_Vc Df) (w_Vd_collectDutiesOf_L20 post (S_Vc Df) (l.length + 1)) v (t + 9) (nI i) (nI dp) (nI y) (nI (y :: l).length) M3 := by
          intro L2 M3 F3 O3 e2
          have en3 : rI M3 (t + 19) y = oI (T.nxt y) := by rw [F3.i _ (by omega) (by omega)]; exact h.nxt y hy
          unfold w_Vd_collectDutiesOf_J90
          simp (disch := omega) only [Nat.add_assoc, Nat.reduceAdd, nI_clamp, en3, F3.K, k10]
          refine ⟨vin (by omega), ?_⟩
          rw [show nI (y :: l).length = nI (l.length + 1) from rfl, pk_m1]
          refine ihl _ L2 M3 hn1 hn2 (by omega) (fun k hk2 => hk k (List.mem_cons_of_mem _ hk2)) ?_ F3 O3 ?_
          · rw [e2]; simp only [List.append_assoc] at hL1 ⊢; exact hL1
          · rw [e2]; simp only [List.append_assoc] at q2 ⊢; exact q2
        have skip : ¬ tk T g y = true → w_Vd_collectDutiesOf_J90 post (S_Vc Df) (w_Vd_collectDutiesOf_L20 post (S_Vc Df) (l.length + 1)) v (t + 9) (nI i) (nI dp) (nI y) (nI (y :: l).length) M2 := by
          intro z
          refine J90 L1 M2 F2 O2 ?_
          rw [sub_nil N hy (by simpa using z), List.append_nil]
        have J52 : (chs T g i = none ∨ chs T g i = some y) → w_Vd_collectDutiesOf_J52 post (S_Vc Df) (w_Vd_collectDutiesOf_L20 post (S_Vc Df) (l.length + 1)) v (t + 9) (nI i) (nI dp) (nI y) (nI (y :: l).length) M2 := by
          intro hc
          unfold w_Vd_collectDutiesOf_J52 w_Vd_collectDutiesOf_J57
          refine br_f (by decide) ?_
          simp (disch := omega) only [nI_clamp, edi, edy, F2.K, v2]
          refine ⟨vin (by omega), vin (by omega), pk_ne (dec T g y) (dec T g i) (fun z => skip (fun w => z (htky.1 w).1)) (fun z => ?_)⟩
          rw [show nI dp + (1 : Int32) = nI (dp + 1) from nI_add dp 1]
          refine ih y (dp + 1) Df L1 M2 _ hy (by omega) (htky.2 ⟨z, hc⟩) ?_ (by omega) ?_ F2 O2 (fun M' F' O' => J90 _ M' F' O' rfl)
          · rw [hfy]; exact ⟨i, rfl, hdp⟩
          · simp only [List.append_assoc] at hL1
            rw [List.length_append] at hL1 ⊢
            rw [List.length_append] at hL1
            omega
        unfold w_Vd_collectDutiesOf_L20
        refine pk_le (l.length + 1) 0 (fun z => by omega) (fun _ => ?_)
        refine br_f (nI_m1 (by omega)) ?_
        simp (disch := omega) only [nI_clamp, ec, F2.K, v3]
        refine ⟨vin (by omega), ?_⟩
        refine pk_eqm (chs T g i) (fun z => J52 (Or.inl z)) (fun c z => ?_) rfl rfl (fun c z => ?_)
        · refine ⟨vin (by omega), ?_⟩
          have hcl : c < 2 ^ 31 := by
            have := chs_lt N z
            omega
          rw [z]
          refine pk_ne c y (fun zc => ?_) (fun zc => J52 (Or.inr (by rw [z, zc])))
          unfold w_Vd_collectDutiesOf_J57
          refine br_t rfl ?_
          refine skip (fun w => ?_)
          rcases (htky.1 w).2 with y1 | y1
          · rw [z] at y1; cases y1
          · rw [z] at y1
            cases y1
            exact zc rfl
        · have := chs_lt N z
          omega
    show w_Vd_collectDutiesOf_r (S_Vc Df) post v (t + 9) (nI i) (nI dp) M1
    unfold w_Vd_collectDutiesOf_r
    refine pk_le dp 20 (fun _ => ?_) (fun z => by omega)
    simp (disch := omega) only [Nat.add_assoc, Nat.reduceAdd, nI_clamp, e9, F.K, k9]
    refine ⟨vin (by omega), (kids T.fa T.nn i).length + 1, ?_⟩
    rw [e1]
    exact key _ _ L M1 hhd (N.nx i hi) hlen (fun k hk => mem_kids.1 hk) hL F O q
/-- the class lays what is owed -/
theorem c_owes {post : aM → Prop} (h : RepC (cR M t) T g0) (K : KOk (rK M)) (ht : tOk t) (V : VO M v t) (N : NI T) (W : WI T T.nn) (D : DI T) (hdep : ∀ i, i < T.nn → ∃ n, n ≤ 20 ∧ Dp T.fa (T.fa i) n) (h0 : 0 < T.nn) (hD : VD M v T g 0) (q : ∀ M', FrW v M M' → OW M' v (owedL T g) → post M') : w_Vd_collectDuties post v (t + 9) M := by
  have v2 := V.l 2 (by omega) (by omega)
  have lnn := h.lnn
  have lnd := h.lnd
  have ed : rI (wI M v 4 0) (v + 2) 0 = nI (dec T g 0) := by rw [rw_n (by omega)]; exact (hD 0 (by omega) h0).2.1
  have hdl := dec_le (g := g) N h0
  have hr := N.r0 h0
  have F : FrW v M (wI M v 4 0) := FrW.w4
  have O : OW (wI M v 4 0) v [] := ⟨rw_ss, fun j hj => absurd hj (Nat.not_lt_zero _)⟩
  have J : (dec T g 0 = 1 ∨ dec T g 0 = 2) → w_Vd_collectDuties_J25 post v (t + 9) (wI M v 4 0) := by
    intro z
    refine ⟨21, by omega, ?_⟩
    have hlen := owed_len (g := g) N h0
    exact c_dutOf h K ht V N W D hdep hD (T.nn + 1) 0 0 21 [] _ _ h0 (by omega) (by rw [tk_root hr]; exact decide_eq_true z) (by rw [hr]; rfl) (by omega) (by rw [List.nil_append]; exact Nat.le_trans hlen lnd) F O q
  unfold w_Vd_collectDuties
  have e0 : ((0 : Int32)).toNatClampNeg = 0 := by decide
  rw [e0, ed, v2]
  refine ⟨vin (n := 0) (by omega), pk_eq (dec T g 0) 1 (fun z => J (Or.inl z)) (fun z1 => ?_)⟩
  refine ⟨vin (n := 0) (by omega), pk_ne (dec T g 0) 2 (fun z2 => ?_) (fun z => J (Or.inr z))⟩
  refine q _ F ?_
  have : owedL T g = [] := sub_nil N h0 (by rw [tk_root hr]; exact decide_eq_false (by omega))
  rw [this]
  exact O
end CD
