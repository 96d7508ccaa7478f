/-! THE CLASS PRINTS expressions. -/
section PX
variable {M0 M : aM} {o : Option Nat} {d : Nat} {L : List Nat} {post : aM → Prop} {T : Txt} {g : Nat → Nat} {t : Nat}
theorem PCl.tx (h : PCl M0 o d L M) (ht : tOk t) {c : Nat} (hc : c < 36) : rI M (t + c) = rI M0 (t + c) := h.f.i _ (by unfold tOk at ht; omega)
theorem PCl.kk (h : PCl M0 o d L M) : rK M = rK M0 := h.f.k
theorem p_list {m : Nat} (hm : m < 256) (h : PCl M0 o d L M) (q : ∀ M', PCl M0 o d (L ++ sLs m) M' → post M') : w_Pr_writeList post 131 (nI m) M := by
  have key : ∀ n v b L M', v + n = 8 → PCl M0 o d L M' → (∀ M', PCl M0 o d (L ++ slL m n v b) M' → post M') → w_Pr_writeList_L10 post (n + 1) 131 (nI m) (bI b) (nI v) M' := by
    intro n
    induction n with
    | zero =>
      intro v b L M' hv h q
      have ev : v = 8 := by omega
      subst ev
      unfold w_Pr_writeList_L10
      exact br_t (Int32.le_refl _) (p_put h q)
    | succ n ih =>
      intro v b L M' hv h q
      unfold w_Pr_writeList_L10
      rw [slL] at q
      refine pk_le 8 v (fun z => by omega) (fun _ => ?_)
      rw [bit_get m hm v (by omega)]
      refine pk_b0 (m.testBit v) (fun z => ?_) (fun z => ?_)
      · rw [if_neg (by rw [z]; decide)] at q
        rw [nI_1]; exact ih (v + 1) b L M' (by omega) h q
      · rw [if_pos z] at q
        have J : ∀ L M', PCl M0 o d L M' → (∀ M', PCl M0 o d (L ++ (sNum v ++ slL m n (v + 1) true)) M' → post M') → w_Pr_writeList_J40 post (w_Pr_writeList_L10 post (n + 1)) 131 (nI m) (nI v) M' := by
          intro L M' h q
          unfold w_Pr_writeList_J40
          refine p_num (v := v) (by omega) h (fun M2 h2 => ?_)
          rw [nI_1]
          exact ih (v + 1) true _ M2 (by omega) h2 (fun M3 h3 => q M3 (by rw [List.append_assoc] at h3; exact h3))
        refine pk_b0 b (fun y => ?_) (fun y => ?_)
        · rw [y] at q; exact J L M' h q
        · rw [y] at q
          refine p_put h (fun M2 h2 => p_put h2 (fun M3 h3 => J _ M3 h3 (fun M4 h4 => q M4 ?_)))
          simp only [if_true, List.append_assoc, List.cons_append, List.nil_append] at h4 ⊢
          exact h4
  unfold w_Pr_writeList
  refine p_put h (fun M2 h2 => ⟨9, key 8 0 false _ M2 (by omega) h2 (fun M3 h3 => q M3 ?_)⟩)
  rw [List.append_assoc] at h3; exact h3
theorem p_tst {p : Nat} (R : RepC (cR M0 t) T g) (K0 : KOk (rK M0)) (ht : tOk t) (hp : p < T.np) (hl : leafOk T p) (hc : T.pk p ≠ 13 ∧ T.pk p ≠ 14 ∧ T.pk p ≠ 15) (h : PCl M0 o d L M) (q : ∀ M', PCl M0 o d (L ++ sTst T p) M' → post M') : w_Pr_writeTest post 131 t (nI p) M := by
  have lnp := R.lnp
  have lna := R.lna
  have hh := ht
  unfold tOk at hh
  have hlf : T.pa p < T.na ∧ (((T.pk p = 16 ∨ T.pk p = 20) ∧ T.pnum p < T.asz (T.pa p)) ∨ ((T.pk p = 17 ∨ T.pk p = 18) ∧ T.pnum p < 256) ∨ (T.pk p = 19 ∧ T.pnum p < T.na) ∨ ((T.pk p = 60 ∨ T.pk p = 61 ∨ T.pk p = 62) ∧ T.pnum p < 1000) ∨ T.pk p = 21) := by
    rcases hl with a | a
    · omega
    · exact a
  obtain ⟨ha, hk⟩ := hlf
  have lz := R.lasz (T.pa p) ha
  have nm : ∀ {L M} {post : aM → Prop} {a : Nat}, a < T.na → PCl M0 o d L M → (∀ M', PCl M0 o d (L ++ anS T a) M' → post M') → w_Pr_putName post 131 (t + 1 + 1) (nI a) M := fun {L M post a} ha h q => p_name (N := 8) (K0.tl ht 3 8) (K0.tl ht 4 96) (by omega) (by omega) (R.lanl a ha) (R.anl a ha) (fun j hj => R.anm a ha j hj) (by omega) h q
  have kk : ∀ c, c < 6 → ∀ {L M}, PCl M0 o d L M → (rK M (t + 24 + (c + 1))).2 = 400 := fun c hc {L M} h => by
    rw [h.kk]
    have : c = 0 ∨ c = 1 ∨ c = 2 ∨ c = 3 ∨ c = 4 ∨ c = 5 := by omega
    rcases this with rfl | rfl | rfl | rfl | rfl | rfl
    · exact K0.tl ht 25 400
    · exact K0.tl ht 26 400
    · exact K0.tl ht 27 400
    · exact K0.tl ht 28 400
    · exact K0.tl ht 29 400
    · exact K0.tl ht 30 400
  have ek : ∀ {L M}, PCl M0 o d L M → rI M (t + 24 + 1) p = nI (T.pk p) := fun {L M} h => by rw [show rI M (t + 24 + 1) = rI M0 (t + 25) from h.tx ht (c := 25) (by omega)]; exact R.pk p hp
  have en : ∀ {L M}, PCl M0 o d L M → rI M (t + 24 + 3) p = nI (T.pnum p) := fun {L M} h => by rw [show rI M (t + 24 + 3) = rI M0 (t + 27) from h.tx ht (c := 27) (by omega)]; exact R.pnum p hp
  have hin : vp_in (nI p) 400 := vin (by omega)
  unfold w_Pr_writeTest
  rw [nI_clamp (by omega), show rI M (t + 24 + 2) p = nI (T.pa p) by rw [show rI M (t + 24 + 2) = rI M0 (t + 26) from h.tx ht (c := 26) (by omega)]; exact R.pa p hp]
  refine ⟨by rw [kk 1 (by omega) h]; exact hin, nm ha h (fun M1 h1 => p_put h1 (fun M2 h2 => ⟨by rw [kk 0 (by omega) h2]; exact hin, ?_⟩))⟩
  rw [ek h2]
  refine p_word (k := T.pk p) (by omega) h2 (fun M3 h3 => ⟨by rw [kk 0 (by omega) h3]; exact hin, ?_⟩)
  rw [ek h3]
  have fin : ∀ s M', tlS T p = s → PCl M0 o d ((((L ++ anS T (T.pa p)) ++ [32]) ++ wd (T.pk p)) ++ s) M' → post M' := fun s M' es h => q M' (by
    unfold sTst
    rw [es]
    simp only [List.append_assoc, List.cons_append, List.nil_append] at h ⊢
    exact h)
  have num : ∀ {M4}, T.pnum p < 1000 → tlS T p = 32 :: sNum (T.pnum p) → PCl M0 o d ((((L ++ anS T (T.pa p)) ++ [32]) ++ wd (T.pk p)) ++ [32]) M4 → (vp_in (nI p) (rK M4 (t + 24 + 3)).2) ∧ (w_Pr_putNumber (fun M5 => post M5) 131 (rI M4 (t + 24 + 3) p) M4) := fun {M4} hn es h4 => by
    refine ⟨by rw [kk 2 (by omega) h4]; exact hin, ?_⟩
    rw [en h4]
    exact p_num hn h4 (fun M5 h5 => fin _ M5 es (by rw [List.append_assoc] at h5; exact h5))
  have lst : ∀ {M4}, T.pnum p < 256 → tlS T p = 32 :: sLs (T.pnum p) → PCl M0 o d ((((L ++ anS T (T.pa p)) ++ [32]) ++ wd (T.pk p)) ++ [32]) M4 → (vp_in (nI p) (rK M4 (t + 24 + 3)).2) ∧ (w_Pr_writeList (fun M5 => post M5) 131 (rI M4 (t + 24 + 3) p) M4) := fun {M4} hn es h4 => by
    refine ⟨by rw [kk 2 (by omega) h4]; exact hin, ?_⟩
    rw [en h4]
    exact p_list hn h4 (fun M5 h5 => fin _ M5 es (by rw [List.append_assoc] at h5; exact h5))
  refine pk_eq (T.pk p) 17 (fun z => ?_) (fun z => ?_)
  · exact p_put h3 (fun M4 h4 => lst (by omega) (by unfold tlS; rw [if_pos (Or.inl z)]) h4)
  refine pk_eq (T.pk p) 18 (fun z2 => ?_) (fun z2 => ?_)
  · exact p_put h3 (fun M4 h4 => lst (by omega) (by unfold tlS; rw [if_pos (Or.inr z2)]) h4)
  have t1 : ¬ (T.pk p = 17 ∨ T.pk p = 18) := by omega
  refine pk_eq (T.pk p) 19 (fun z3 => ?_) (fun z3 => ?_)
  · refine p_put h3 (fun M4 h4 => ⟨by rw [kk 2 (by omega) h4]; exact hin, ?_⟩)
    rw [en h4]
    exact nm (by omega) h4 (fun M5 h5 => fin _ M5 (by unfold tlS; rw [if_neg t1, if_pos z3]) (by rw [List.append_assoc] at h5; exact h5))
  refine pk_eq (T.pk p) 20 (fun z4 => ?_) (fun z4 => ?_)
  · exact p_put h3 (fun M4 h4 => num (by omega) (by unfold tlS; rw [if_neg t1, if_neg z3, if_neg (by omega)]) h4)
  refine pk_eq (T.pk p) 21 (fun z5 => ?_) (fun z5 => ?_)
  · exact fin [] M3 (by unfold tlS; rw [if_neg t1, if_neg z3, if_pos z5]) (by rw [List.append_nil]; exact h3)
  · exact p_put h3 (fun M4 h4 => num (by omega) (by unfold tlS; rw [if_neg t1, if_neg z3, if_neg z5]) h4)
theorem p_joint {post : Int32 → Prop} {c : Nat} (R : RepC (cR M0 t) T g) (K0 : KOk (rK M0)) (ht : tOk t) (hc : c < T.np) (hk : T.pk c < 2 ^ 31) (h : PCl M0 o d L M) (q : post (bI (T.pk c == 10 || T.pk c == 11))) : w_Pt_isJoint post (t + 24) (nI c) M := by
  have lnp := R.lnp
  unfold w_Pt_isJoint
  rw [nI_clamp (by omega), show rI M (t + 24 + 1) c = nI (T.pk c) by rw [show rI M (t + 24 + 1) = rI M0 (t + 25) from h.tx ht (c := 25) (by omega)]; exact R.pk c hc, show (rK M (t + 24 + 1)).2 = 400 by rw [h.kk]; exact K0.tl ht 25 400]
  refine ⟨vin (by omega), pk_eq (T.pk c) 10 (fun z => ⟨Or.inr rfl, ?_⟩) (fun z => ⟨vin (by omega), pk_ne (T.pk c) 11 (fun z2 => ⟨Or.inl rfl, ?_⟩) (fun z2 => ⟨Or.inr rfl, ?_⟩)⟩)⟩
  · rw [z] at q; exact q
  · rw [beq_false_of_ne z, beq_false_of_ne z2] at q; exact q
  · rw [z2] at q; exact q
theorem EX.pk {hh lo hi p : Nat} {seg : List Nat} (e : EX T hh lo hi p seg) : T.pk p < 100 := by
  cases hh with
  | zero => exact e.elim
  | succ hh =>
    obtain ⟨_, _, e3⟩ := e
    rcases e3 with ⟨a1, _⟩ | ⟨a1, _⟩ | ⟨a1, _⟩
    · rcases a1 with b | ⟨_, b | b | b | b | b⟩ <;> omega
    · omega
    · omega
/-- a part, perhaps in brackets -/
theorem p_joined {hh Lv D p c lo hi : Nat} {sg : List Nat} (R : RepC (cR M0 t) T g) (K0 : KOk (rK M0)) (ht : tOk t) (hp : p < T.np) (hpk : T.pk p < 100) (e : EX T hh lo hi c sg) (hhi : hi ≤ T.np) (hL : Lv + 1 < 100) (ih : ∀ (L : List Nat) (M : aM) (post : aM → Prop), PCl M0 o d L M → (∀ M', PCl M0 o d (L ++ sEx T hh c) M' → post M') → (S_Pr D).1 post 131 t (nI c) (nI (Lv + 1)) M) (h : PCl M0 o d L M) (q : ∀ M', PCl M0 o d (L ++ sBr (brk (T.pk p) (T.pk c)) (sEx T hh c)) M' → post M') : (S_Pr (D + 1)).2.1 post 131 t (nI p) (nI c) (nI Lv) M := by
  have lnp := R.lnp
  have ec := EX.in_ e
  have hck := EX.pk e
  have hcn : c < T.np := by omega
  have ek : ∀ i, i < T.np → rI M (t + 24 + 1) i = nI (T.pk i) := fun i hi => by rw [show rI M (t + 24 + 1) = rI M0 (t + 25) from h.tx ht (c := 25) (by omega)]; exact R.pk i hi
  have k1 : (rK M (t + 24 + 1)).2 = 400 := by rw [h.kk]; exact K0.tl ht 25 400
  have J70 : ∀ b : Bool, (∀ M', PCl M0 o d (L ++ sBr b (sEx T hh c)) M' → post M') → w_Pr_writeJoined_J70 post (S_Pr D).1 (S_Pr D).2.1 (S_Pr D).2.2 131 t (nI c) (nI Lv) (bI b) M := by
    intro b q
    unfold w_Pr_writeJoined_J70
    refine pk_b0 b (fun z => ?_) (fun z => ?_)
    · subst z
      unfold w_Pr_writeJoined_J83
      rw [nI_1]
      exact ih L M _ h (fun M1 h1 => br_t rfl (q M1 h1))
    · subst z
      refine p_put h (fun M1 h1 => ?_)
      unfold w_Pr_writeJoined_J83
      rw [nI_1]
      refine ih _ M1 _ h1 (fun M2 h2 => br_f (by decide) (p_put h2 (fun M3 h3 => q M3 ?_)))
      unfold sBr
      rw [if_pos rfl]
      simp only [List.append_assoc, List.cons_append, List.nil_append] at h3 ⊢
      exact h3
  have J49 : ∀ s : Bool, brk (T.pk p) (T.pk c) = ((T.pk c == 10 || T.pk c == 11) && !s) → w_Pr_writeJoined_J49 post (S_Pr D).1 (S_Pr D).2.1 (S_Pr D).2.2 131 t (nI c) (nI Lv) (t + 24) (bI s) M := by
    intro s hs
    unfold w_Pr_writeJoined_J49 w_Pr_writeJoined_J69
    refine p_joint R K0 ht hcn (by omega) h (pk_b0 _ (fun z => ?_) (fun z => pk_nb0 s (fun z2 => ?_) (fun z2 => ?_)))
    · refine J70 false ?_
      rw [hs, z, Bool.false_and] at q; exact q
    · refine J70 false ?_
      rw [hs, z2, Bool.not_true, Bool.and_false] at q; exact q
    · refine J70 true ?_
      rw [hs, z, z2] at q; exact q
  show w_Pr_writeJoined_r (S_Pr D).1 (S_Pr D).2.1 (S_Pr D).2.2 post 131 t (nI p) (nI c) (nI Lv) M
  unfold w_Pr_writeJoined_r
  rw [nI_clamp (n := p) (by omega), nI_clamp (n := c) (by omega), ek p hp, ek c hcn, k1]
  refine br_f (nI_pos (by omega)) (pk_lt c T.np (fun _ => ⟨vin (by omega), ?_⟩) (fun z => by omega) rfl (by rw [show rI M (t + 24) = rI M0 (t + 24) from h.tx ht (by omega)]; exact R.np))
  refine pk_ne (T.pk p) 10 (fun z => ?_) (fun z => ⟨vin (by omega), pk_ne (T.pk c) 11 (fun z2 => ?_) (fun z2 => ?_)⟩)
  · unfold w_Pr_writeJoined_J48
    refine J49 false ?_
    unfold brk; rw [beq_false_of_ne z, Bool.false_and]
  · unfold w_Pr_writeJoined_J48
    refine J49 false ?_
    unfold brk; rw [beq_false_of_ne z2, Bool.and_false]
  · refine J49 true ?_
    unfold brk; rw [z, z2]; rfl
theorem p_ex (R : RepC (cR M0 t) T g) (K0 : KOk (rK M0)) (ht : tOk t) : ∀ (hh Lv D lo hi p : Nat) (seg : List Nat) (L : List Nat) (M : aM) (post : aM → Prop), EX T hh lo hi p seg → hi ≤ T.np → Lv + hh ≤ 43 → 3 * hh ≤ D → PCl M0 o d L M → (∀ M', PCl M0 o d (L ++ sEx T hh p) M' → post M') → (S_Pr D).1 post 131 t (nI p) (nI Lv) M := by
  have lnp := R.lnp
  intro hh
  induction hh with
  | zero => intro Lv D lo hi p seg L M post e; exact e.elim
  | succ hh ih =>
    intro Lv D lo hi p seg L M post e hhi hLv hD h q
    have hpk := EX.pk e
    obtain ⟨e1, e2, e3⟩ := e
    have hp : p < T.np := by omega
    obtain ⟨D, rfl⟩ : ∃ D', D = D' + 1 + 1 + 1 := ⟨D - 3, by omega⟩
    have ek : ∀ {L M}, PCl M0 o d L M → rI M (t + 24 + 1) p = nI (T.pk p) := fun {L M} h => by rw [show rI M (t + 24 + 1) = rI M0 (t + 25) from h.tx ht (c := 25) (by omega)]; exact R.pk p hp
    have k1 : ∀ {L M}, PCl M0 o d L M → (rK M (t + 24 + 1)).2 = 400 := fun {L M} h => by rw [h.kk]; exact K0.tl ht 25 400
    have hin : vp_in (nI p) 400 := vin (by omega)
    show w_Pr_writeExpression_r (S_Pr (D + 1 + 1)).1 (S_Pr (D + 1 + 1)).2.1 (S_Pr (D + 1 + 1)).2.2 post 131 t (nI p) (nI Lv) M
    unfold w_Pr_writeExpression_r
    rw [nI_clamp (by omega), ek h, k1 h]
    refine br_f (nI_pos (by omega)) (pk_le T.np p (fun z => by omega) (fun _ => pk_lt Lv 43 (fun _ => ⟨hin, ?_⟩) (fun z => by omega)) (by rw [show rI M (t + 24) = rI M0 (t + 24) from h.tx ht (by omega)]; exact R.np) rfl)
    rw [sEx] at q
    have jt : ∀ sp, sp < 70 → (T.pk p = 10 ∧ sp = 53 ∨ T.pk p = 11 ∧ sp = 54) → (∀ M', PCl M0 o d (L ++ sJs (sN sp) ((walk T (T.pj p) (T.pf p)).map (fun c => sBr (brk (T.pk p) (T.pk c)) (sEx T hh c)))) M' → post M') → (S_Pr (D + 1 + 1)).2.2 post 131 t (nI p) (nI Lv) M := by
      intro sp hsp hk q
      rcases e3 with ⟨a1, _⟩ | ⟨a1, _⟩ | ⟨a1, ms, a2, a3, a4, a5, a6⟩
      · exfalso
        rcases a1 with b | ⟨_, b | b | b | b | b⟩ <;> omega
      · omega
      · have hlen : ms.length ≤ 400 := by
          have : ∀ (ms : List Mb) (o : Option Nat) (lo : Nat), chn T o lo ms → (∀ m, m ∈ ms → m.2.1.2 ≤ hi) → lo ≤ hi → lo + ms.length ≤ hi := by
            intro ms
            induction ms with
            | nil => intro o lo _ _ h; exact h
            | cons m l ihl =>
              intro o lo hc hm _
              obtain ⟨c1, c2, c3, c4, c5⟩ := hc
              have := ihl _ _ c5 (fun m' hm' => hm m' (List.mem_cons_of_mem _ hm')) (hm m (List.mem_cons_self ..))
              show lo + (l.length + 1) ≤ hi
              omega
          have := this ms _ _ a4 (fun m hm => (a5 m hm).1) (by omega)
          omega
        have q2 : ∀ M', PCl M0 o d (L ++ sJs (sN sp) (ms.map (fun m => sBr (brk (T.pk p) (T.pk m.1)) (sEx T hh m.1)))) M' → post M' := by
          rw [← a3, walk_chn ms _ _ a4, List.map_map] at q
          exact q
        show w_Pr_writeJoint_r (S_Pr (D + 1)).1 (S_Pr (D + 1)).2.1 (S_Pr (D + 1)).2.2 post 131 t (nI p) (nI Lv) M
        unfold w_Pr_writeJoint_r
        rw [nI_clamp (by omega), show rI M (t + 24 + 5) p = oI (T.pf p) by rw [show rI M (t + 24 + 5) = rI M0 (t + 29) from h.tx ht (c := 29) (by omega)]; exact R.pf p hp, show (rK M (t + 24 + 5)).2 = 400 by rw [h.kk]; exact K0.tl ht 29 400]
        refine ⟨hin, ms.length + 1, ?_⟩
        have ej : ∀ {L M}, PCl M0 o d L M → rI M (t + 24 + 4) p = nI (T.pj p) := fun {L M} h => by rw [show rI M (t + 24 + 4) = rI M0 (t + 28) from h.tx ht (c := 28) (by omega)]; exact R.pj p hp
        have kj : ∀ {L M}, PCl M0 o d L M → (rK M (t + 24 + 4)).2 = 400 := fun {L M} h => by rw [h.kk]; exact K0.tl ht 28 400
        have one : ∀ (m : Mb) (n i : Nat) (L : List Nat) (M : aM), m ∈ ms → PCl M0 o d L M → (∀ M', PCl M0 o d (L ++ sBr (brk (T.pk p) (T.pk m.1)) (sEx T hh m.1)) M' → w_Pr_writeJoint_L18 post (S_Pr (D + 1)).1 (S_Pr (D + 1)).2.1 (S_Pr (D + 1)).2.2 n 131 t (nI p) (nI Lv) (t + 24) (oI (T.pn m.1)) (nI (i + 1)) M') → w_Pr_writeJoint_J64 post (S_Pr (D + 1)).1 (S_Pr (D + 1)).2.1 (S_Pr (D + 1)).2.2 (w_Pr_writeJoint_L18 post (S_Pr (D + 1)).1 (S_Pr (D + 1)).2.1 (S_Pr (D + 1)).2.2 n) 131 t (nI p) (nI Lv) (t + 24) (nI m.1) (nI i) M := by
          intro m n i L M hm h q
          obtain ⟨b1, b2, b3⟩ := a5 m hm
          have bi := EX.in_ b3
          have hmn : m.1 < T.np := by omega
          unfold w_Pr_writeJoint_J64
          refine p_joined (Lv := Lv) R K0 ht hp hpk b3 (by omega) (by omega) (fun L M post h q => ih (Lv + 1) D _ _ m.1 m.2.2 L M post b3 (by omega) (by omega) (by omega) h q) h (fun M1 h1 => ?_)
          rw [nI_clamp (by omega), show rI M1 (t + 24 + 6) m.1 = oI (T.pn m.1) by rw [show rI M1 (t + 24 + 6) = rI M0 (t + 30) from h1.tx ht (c := 30) (by omega)]; exact R.pn m.1 hmn, show (rK M1 (t + 24 + 6)).2 = 400 by rw [h1.kk]; exact K0.tl ht 30 400, nI_1]
          exact ⟨vin (by omega), q M1 h1⟩
        have key : ∀ (l dn : List Mb) (oo : Option Nat) (lo2 : Nat) (L : List Nat) (M : aM), ms = dn ++ l → 1 ≤ dn.length → chn T oo lo2 l → PCl M0 o d L M → (∀ M', PCl M0 o d (L ++ l.flatMap (fun m => sN sp ++ sBr (brk (T.pk p) (T.pk m.1)) (sEx T hh m.1))) M' → post M') → w_Pr_writeJoint_L18 post (S_Pr (D + 1)).1 (S_Pr (D + 1)).2.1 (S_Pr (D + 1)).2.2 (l.length + 1) 131 t (nI p) (nI Lv) (t + 24) (oI oo) (nI dn.length) M := by
          intro l
          induction l with
          | nil =>
            intro dn oo lo2 L M hms hdn hc h q
            have e : ms = dn := by rw [hms, List.append_nil]
            unfold w_Pr_writeJoint_L18
            rw [nI_clamp (by omega), ej h, kj h, ← a3, e]
            exact ⟨hin, br_t (Int32.le_refl _) (q M (by rw [List.flatMap_nil, List.append_nil]; exact h))⟩
          | cons m l ihl =>
            intro dn oo lo2 L M hms hdn hc h q
            obtain ⟨c1, c2, c3, c4, c5⟩ := hc
            subst c1
            have hm : m ∈ ms := by rw [hms]; exact List.mem_append_right _ (List.mem_cons_self ..)
            have hl2 : ms.length = dn.length + (l.length + 1) := by rw [hms, List.length_append]; rfl
            have hmn : m.1 < T.np := by have := EX.in_ (a5 m hm).2.2; have := (a5 m hm).1; omega
            unfold w_Pr_writeJoint_L18
            rw [nI_clamp (n := p) (by omega), ej h, kj h, ← a3]
            refine ⟨hin, pk_le ms.length dn.length (fun z => by omega) (fun _ => br_f (show ¬ oI (some m.1) = -1 from nI_m1 (by omega)) (pk_le dn.length 0 (fun z => by omega) (fun _ => p_put h (fun M1 h1 => ⟨by rw [k1 h1]; exact hin, ?_⟩))))⟩
            have nx : ∀ M2, PCl M0 o d (L ++ sN sp) M2 → w_Pr_writeJoint_J64 post (S_Pr (D + 1)).1 (S_Pr (D + 1)).2.1 (S_Pr (D + 1)).2.2 (w_Pr_writeJoint_L18 post (S_Pr (D + 1)).1 (S_Pr (D + 1)).2.1 (S_Pr (D + 1)).2.2 (l.length + 1)) 131 t (nI p) (nI Lv) (t + 24) (oI (some m.1)) (nI dn.length) M2 := by
              intro M2 h2
              refine one m (l.length + 1) dn.length _ M2 hm h2 (fun M3 h3 => ?_)
              have := ihl (dn ++ [m]) (T.pn m.1) m.2.1.2 _ M3 (by rw [hms, List.append_assoc]; rfl) (by rw [List.length_append]; show 1 ≤ dn.length + 1; omega) c5 h3 (fun M4 h4 => q M4 (by
                rw [List.flatMap_cons]
                simp only [List.append_assoc] at h4 ⊢
                exact h4))
              rw [List.length_append] at this
              exact this
            rw [ek h1]
            refine p_word (k := T.pk p) (by omega) h1 (fun M2 h2 => p_put h2 (fun M3 h3 => nx M3 ?_))
            have es : sN sp = 32 :: (wd (T.pk p) ++ [32]) := by rcases hk with ⟨a, b⟩ | ⟨a, b⟩ <;> rw [a, b] <;> rfl
            rw [es]
            simp only [List.append_assoc, List.cons_append, List.nil_append] at h3 ⊢
            exact h3
        cases hms : ms with
        | nil => rw [hms] at a2; exact absurd a2 (by decide)
        | cons m l =>
          rw [hms] at a4 q2
          obtain ⟨c1, c2, c3, c4, c5⟩ := a4
          rw [c1]
          have hm : m ∈ ms := by rw [hms]; exact List.mem_cons_self ..
          have hl2 : ms.length = l.length + 1 := by rw [hms]; rfl
          have hmn : m.1 < T.np := by have := EX.in_ (a5 m hm).2.2; have := (a5 m hm).1; omega
          show w_Pr_writeJoint_L18 post (S_Pr (D + 1)).1 (S_Pr (D + 1)).2.1 (S_Pr (D + 1)).2.2 (l.length + 1 + 1) 131 t (nI p) (nI Lv) (t + 24) (oI (some m.1)) (nI 0) M
          unfold w_Pr_writeJoint_L18
          rw [nI_clamp (n := p) (by omega), ej h, kj h, ← a3]
          refine ⟨hin, pk_le ms.length 0 (fun z => by omega) (fun _ => br_f (show ¬ oI (some m.1) = -1 from nI_m1 (by omega)) (br_t (by decide) ?_))⟩
          refine one m (l.length + 1) 0 L M hm h (fun M3 h3 => ?_)
          refine key l [m] (T.pn m.1) m.2.1.2 _ M3 (by rw [hms]; rfl) (Nat.le_refl _) c5 h3 (fun M4 h4 => q2 M4 ?_)
          show PCl M0 o d (L ++ (sBr (brk (T.pk p) (T.pk m.1)) (sEx T hh m.1) ++ (l.map (fun m => sBr (brk (T.pk p) (T.pk m.1)) (sEx T hh m.1))).flatMap (fun y => sN sp ++ y))) M4
          rw [List.flatMap_map]
          simp only [List.append_assoc] at h4 ⊢
          exact h4
    refine pk_eq (T.pk p) 10 (fun z => ?_) (fun z => ?_)
    · rw [if_pos z] at q
      exact jt 53 (by omega) (Or.inl ⟨z, rfl⟩) (by rw [z]; exact q)
    rw [if_neg z] at q
    refine pk_eq (T.pk p) 11 (fun z1 => ?_) (fun z1 => ?_)
    · rw [if_pos z1] at q
      exact jt 54 (by omega) (Or.inr ⟨z1, rfl⟩) (by rw [z1]; exact q)
    rw [if_neg z1] at q
    refine pk_eq (T.pk p) 12 (fun z2 => ?_) (fun z2 => ?_)
    · rw [if_pos z2] at q
      rcases e3 with ⟨a1, _⟩ | ⟨a1, a2, c, lo', hi', sg, a3, a4, a5, a6, a7, a8⟩ | ⟨a1, _⟩
      · exfalso
        rcases a1 with b | ⟨_, b | b | b | b | b⟩ <;> omega
      · rw [a3] at q
        refine p_word (k := 12) (by omega) h (fun M2 h2 => p_put h2 (fun M3 h3 => ?_))
        rw [show rI M3 (t + 24 + 5) p = oI (T.pf p) by rw [show rI M3 (t + 24 + 5) = rI M0 (t + 29) from h3.tx ht (c := 29) (by omega)]; exact R.pf p hp, show (rK M3 (t + 24 + 5)).2 = 400 by rw [h3.kk]; exact K0.tl ht 29 400, a3]
        refine ⟨hin, ?_⟩
        refine p_joined (Lv := Lv) R K0 ht hp hpk a7 (by omega) (by omega) (fun L M post h q => ih (Lv + 1) (D + 1) _ _ c sg L M post a7 (by omega) (by omega) (by omega) h q) h3 (fun M4 h4 => q M4 ?_)
        rw [z2] at h4
        rw [show sN 52 = wd 12 ++ [32] from rfl]
        simp only [List.append_assoc, List.cons_append, List.nil_append] at h4 ⊢
        exact h4
      · omega
    rw [if_neg z2] at q
    have cn : T.pk p = 13 ∨ T.pk p = 14 ∨ T.pk p = 15 → (vp_in (nI p) 400) ∧ (w_Pr_putToken (fun M5 => post M5) 131 (nI (T.pk p)) M) := fun z => by
      rw [if_pos z] at q
      exact ⟨hin, p_word (k := T.pk p) (by omega) h q⟩
    refine pk_eq (T.pk p) 13 (fun z3 => cn (by omega)) (fun z3 => ?_)
    refine pk_eq (T.pk p) 14 (fun z4 => cn (by omega)) (fun z4 => ?_)
    refine pk_eq (T.pk p) 15 (fun z5 => cn (by omega)) (fun z5 => ?_)
    rw [if_neg (by omega)] at q
    rcases e3 with ⟨a1, _⟩ | ⟨a1, _⟩ | ⟨a1, _⟩
    · exact p_tst R K0 ht hp a1 ⟨z3, z4, z5⟩ h q
    · omega
    · omega
end PX
