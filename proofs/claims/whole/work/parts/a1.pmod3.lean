/-! THE MODEL PRINTS nodes and the whole text. -/
theorem blk_len (n : Nat) : (blk n).length = n := List.length_replicate
section WN
variable {M0 : aM} {T : Txt} {g : Nat → Nat} {x : Nat}
theorem w_dep {post : Int32 → Prop} {i : Nat} {L : List Nat} {M : aM} (R : RepM (mR M0 x) T g) (hx : x ≤ 1) (N : NI T) (hi : i < T.nn) (hd : Dp T.fa (T.fa i) (dO T (T.fa i))) (hd2 : dO T (T.fa i) ≤ 20) (h : PMo M0 L M) (q : post (nI (dO T (T.fa i)))) : w_Mo_depthOf post 136 (nI x) (nI i) M := by
  have lnn := R.lnn
  have e13 : ∀ a, a < T.nn → rI M (136 + 13) (100 * x + a) = oI (T.fa a) := fun a ha => by
    rw [h.mr (by omega)]
    have := R.fa a ha
    rw [mRr (by omega), show szM 13 = 100 from rfl, Nat.mul_comm] at this; exact this
  have k13 : (rK M (136 + 13)).2 = 300 := mK h.K 148 300
  have key : ∀ n o c, Dp T.fa o n → c + n ≤ 20 → (∀ a, o = some a → a < T.nn) → post (nI (c + n)) → w_Mo_depthOf_L15 M post (n + 1) 136 (nI x) (nI c) (oI o) := by
    intro n
    induction n with
    | zero =>
      intro o c hd _ ho q
      unfold w_Mo_depthOf_L15
      rw [show o = none from hd]
      exact br_t rfl q
    | succ n ih =>
      intro o c hd hc ho q
      obtain ⟨a, rfl, hd⟩ := hd
      have ha := ho a rfl
      unfold w_Mo_depthOf_L15
      rw [show oI (some a) = nI a from rfl, m100, nI_clamp (by omega), e13 a ha, k13, nI_1]
      exact br_f (nI_m1 (by omega)) ⟨vin (by omega), ih (T.fa a) (c + 1) hd (by omega) (fun b hb => by have := (N.fl a ha b hb).1; omega) (by rw [show c + 1 + n = c + (n + 1) by omega]; exact q)⟩
  unfold w_Mo_depthOf
  rw [m100, nI_clamp (by omega), e13 i hi, k13]
  exact ⟨vin (by omega), _, key _ (T.fa i) 0 hd (by omega) (fun b hb => by have := (N.fl i hi b hb).1; omega) (by rw [Nat.zero_add]; exact q)⟩
theorem w_for {post : aM → Prop} {i : Nat} {L : List Nat} {M : aM} (R : RepM (mR M0 x) T g) (hx : x ≤ 1) (ok : TOk T) (hi : i < T.nn) (h : PMo M0 L M) (hl : L.length + (sFor T i).length ≤ 40000) (q : ∀ M', PMo M0 (L ++ sFor T i) M' → post M') : w_Mo_sayFor post 136 (nI x) (nI i) M := by
  have lnn := R.lnn
  have e14 : rI M (136 + 14) (100 * x + i) = oI (T.root i) := by
    rw [h.mr (by omega)]
    have := R.root i hi
    rw [mRr (by omega), show szM 14 = 100 from rfl, Nat.mul_comm] at this; exact this
  unfold w_Mo_sayFor
  rw [m100, nI_clamp (by omega), e14, show (rK M (136 + 14)).2 = 300 from mK h.K 149 300]
  unfold sFor at q hl
  refine ⟨vin (by omega), pk_eqm (T.root i) (fun z => ?_) (fun p z => ?_) rfl rfl (fun p hp => by have := ok.rt hi hp; omega)⟩
  · rw [z] at q; exact q M (by show PMo M0 (L ++ []) M; rw [List.append_nil]; exact h)
  · rw [z] at q hl
    dsimp only at q hl
    rw [List.length_append] at hl
    refine w_say (by omega) h (by omega) (fun M1 h1 s1 => ?_)
    obtain ⟨lo, hi2, seg, e, hle⟩ := root_ex ok hi z
    have hp := EX.in_ e
    have lnp := R.lnp
    have K1 := h1.K
    rw [z]
    show w_Mo_sayExpression _ 136 (nI x) (nI p) M1
    unfold w_Mo_sayExpression w_Mo_sayExpression_J9 w_Mo_sayExpression_J16 w_Mo_sayExpression_J34
    rw [show ((0 : Int32)).toNatClampNeg = 0 from by decide, m400, nI_clamp (n := 400 * x + p) (by omega)]
    have e20 : rI (wI (wI M1 (136 + 48) 0 (nI p)) (136 + 49) 0 0) (136 + 20) (400 * x + p) = oI (T.pf p) := by
      rw [rw_n (by omega), rw_n (by omega), h1.mr (by omega)]
      have := R.pf p (by omega)
      rw [mRr (by omega), show szM 20 = 400 from rfl, Nat.mul_comm] at this; exact this
    rw [e20]
    refine ⟨by rw [show (rK M1 (136 + 48)).2 = 64 from mK K1 183 64]; exact vin (n := 0) (by omega), ⟨by rw [show (rK (wI M1 (136 + 48) 0 (nI p)) (136 + 49)).2 = 64 from mK K1 184 64]; exact vin (n := 0) (by omega), Or.inl rfl⟩, by rw [show (rK (wI (wI M1 (136 + 48) 0 (nI p)) (136 + 49) 0 0) (136 + 20)).2 = 1200 from mK K1 155 1200]; exact vin (by omega), by rw [show (rK (wI (wI M1 (136 + 48) 0 (nI p)) (136 + 49) 0 0) (136 + 50)).2 = 64 from mK K1 185 64]; exact vin (n := 0) (by omega), 1 + cs T 43 p, ?_⟩
    refine w_ex R ok.A hx 43 0 lo hi2 p seg false (L ++ sN 41) _ 1 _ e hle (by omega) (fun c => by cases c) ⟨((h1.f.w (by omega)).w (by omega)).w (by omega), K1, fun j hj => ?_, ?_, fun j hj => ?_⟩ ?_ ?_ ?_ ?_ (fun M2 h2 _ => ?_)
    · rw [rw_n (by omega), rw_n (by omega), rw_n (by omega)]; exact h1.o j hj
    · rw [rw_n (by omega), rw_n (by omega), rw_n (by omega)]; exact h1.n
    · rw [rw_n (by omega), rw_n (by omega), rw_n (by omega)]; exact h1.b j hj
    · rw [rw_n (by omega), rw_n (by omega), show (184 : Nat) = 136 + 48 from rfl, rw_ss]
    · rw [rw_n (by omega), show (185 : Nat) = 136 + 49 from rfl, rw_ss]; rfl
    · rw [show (186 : Nat) = 136 + 50 from rfl, rw_ss]
    · show (L ++ sN 41).length + (sEx T 43 p).length ≤ _
      rw [List.length_append]; omega
    · unfold w_Mo_sayExpression_L37
      refine br_t (Int32.le_refl _) (q M2 ?_)
      have h2 : PMo M0 (L ++ sN 41 ++ sEx T 43 p) M2 := h2
      rw [List.append_assoc] at h2; exact h2
theorem w_nnm {post : aM → Prop} {i : Nat} {L : List Nat} {M : aM} (R : RepM (mR M0 x) T g) (W : WI T T.nn) (hx : x ≤ 1) (hi : i < T.nn) (h : PMo M0 L M) (hl : L.length + (nnS T i).length ≤ 40000) (q : ∀ M', PMo M0 (L ++ nnS T i) M' → post M') : w_Mo_sayName post 136 (nI (108 * x + (8 + i))) M := by
  have lnn := R.lnn
  unfold nnS at hl
  rw [sNm_len] at hl
  refine w_name (by omega) (R.lnnl i hi) (W.b i) ?_ (fun j hj => ?_) h hl (fun M' h' _ => q M' h')
  · have := R.nnl i hi
    rw [mRr (by omega), show szM 8 = 108 from rfl, Nat.mul_comm] at this; exact this
  · have := R.nnm i hi j hj
    rw [mRr (by omega), show szM 9 = 1296 from rfl, show x * 1296 + (12 * (8 + i) + j) = 12 * (108 * x + (8 + i)) + j by omega] at this; exact this
theorem w_sdut {post : aM → Prop} {i e : Nat} (R : RepM (mR M0 x) T g) (hx : x ≤ 1) (D : DI T) (hi : i < T.nn) (he : e ≤ 20) : ∀ n d L M, d + n = T.nd → PMo M0 L M → L.length + (sDs T i (e + 1) n d).length ≤ 40000 → (∀ M', PMo M0 (L ++ sDs T i (e + 1) n d) M' → post M') → w_Mo_sayNode_L95 post (n + 1) 136 (nI x) (nI i) (nI (2 * e)) (nI (100 * x + d)) M := by
  have lnn := R.lnn
  have lnd := R.lnd
  have e24 : ∀ {L M}, PMo M0 L M → rI M (136 + 24) x = nI T.nd := fun {L M} h => by rw [h.mr (by omega)]; exact (rd1 (c := 24) (j := 0) (by omega) rfl rfl).symm.trans R.nd
  have rd : ∀ c j, 1 ≤ c ∧ c < 31 → szM c = 100 → ∀ {L M}, PMo M0 L M → rI M (136 + c) (100 * x + j) = mR M0 x c j := fun c j hc hs {L M} h => by rw [h.mr (by omega), mRr hc, hs, Nat.mul_comm]
  intro n
  induction n with
  | zero =>
    intro d L M hd h hl q
    have ed : d = T.nd := by omega
    subst ed
    unfold w_Mo_sayNode_L95
    rw [nI_clamp (n := x) (by omega), e24 h, m100, show (rK M (136 + 24)).2 = 3 from mK h.K 159 3]
    exact ⟨vin (by omega), br_t (Int32.le_refl _) (q M (by rw [sDs, List.append_nil]; exact h))⟩
  | succ n ih =>
    intro d L M hd h hl q
    have lo := D.o d (by omega)
    have hf := D.f d (by omega)
    have hv := D.v d (by omega)
    unfold w_Mo_sayNode_L95
    rw [nI_clamp (n := x) (by omega), e24 h, m100, show (rK M (136 + 24)).2 = 3 from mK h.K 159 3, nI_clamp (n := 100 * x + d) (by omega), rd 25 d (by omega) rfl h, R.dof d (by omega), show (rK M (136 + 25)).2 = 300 from mK h.K 160 300, nI_1]
    rw [sDs] at q hl
    refine ⟨vin (by omega), pk_le (100 * x + T.nd) (100 * x + d) (fun z => by omega) (fun _ => ⟨vin (by omega), pk_ne (T.dof d) i (fun z => ?_) (fun z => ?_)⟩)⟩
    · rw [if_neg z] at q hl
      exact ih (d + 1) L M (by omega) h hl q
    · rw [if_pos z] at q hl
      rw [show nI (2 * e) + (2 : Int32) = nI (2 * (e + 1)) from nI_add (2 * e) 2]
      have ll : L.length + ((blk (2 * (e + 1))).length + ((sN (if T.dfor d = 1 then 56 else 57)).length + ((sNum (T.dnum d)).length + (2 + (sDs T i (e + 1) n (d + 1)).length)))) ≤ 40000 := by
        have e1 : (sN (if T.dfor d = 1 then 56 else 57)).length = (wd 9).length + (1 + ((wd (if T.dfor d = 1 then 6 else 7)).length + 1)) := by split <;> rfl
        have e2 : (sN 59).length = 2 := rfl
        simp only [List.length_append, List.length_cons, e2] at hl
        rw [e1]; omega
      refine w_blank (by omega) h (by rw [blk_len] at ll; omega) (fun M1 h1 _ => ?_)
      rw [rd 26 d (by omega) rfl h1, R.dfor d (by omega), show (rK M1 (136 + 26)).2 = 300 from mK h1.K 161 300]
      have J : ∀ id, id = (if T.dfor d = 1 then 56 else 57) → w_Mo_sayNode_J151 post (w_Mo_sayNode_L95 post (n + 1)) 136 (nI x) (nI i) (nI (2 * e)) (nI (100 * x + d)) 136 id M1 := by
        intro id eid
        rw [← eid] at ll
        have hid : id < 59 := by rw [eid]; split <;> omega
        unfold w_Mo_sayNode_J151
        refine w_say hid h1 (by rw [List.length_append]; omega) (fun M2 h2 _ => ?_)
        rw [nI_clamp (n := 100 * x + d) (by omega), rd 27 d (by omega) rfl h2, R.dnum d (by omega), show (rK M2 (136 + 27)).2 = 300 from mK h2.K 162 300]
        refine ⟨vin (by omega), w_num hv h2 (by simp only [List.length_append]; omega) (fun M3 h3 _ => w_putc h3 (by simp only [List.length_append]; omega) (fun M4 h4 _ => w_putc h4 (by simp only [List.length_append, List.length_cons, List.length_nil]; omega) (fun M5 h5 _ => ?_)))⟩
        rw [nI_1, show 100 * x + d + 1 = 100 * x + (d + 1) by omega]
        refine ih (d + 1) _ M5 (by omega) h5 (by simp only [List.length_append, List.length_cons, List.length_nil]; omega) (fun M6 h6 => q M6 ?_)
        have e1 : sN id = wd 9 ++ (32 :: (wd (if T.dfor d = 1 then 6 else 7) ++ [32])) := by rw [eid]; split <;> rfl
        rw [e1] at h6
        rw [show sN 59 = [59, 10] from rfl]
        simp only [List.append_assoc, List.cons_append, List.nil_append] at h6 ⊢
        exact h6
      exact ⟨vin (by omega), pk_ne (T.dfor d) 1 (fun z => J 57 (by rw [if_neg z])) (fun z => J 56 (by rw [if_pos z]))⟩
theorem w_rdut {post : aM → Prop} {i : Nat} (R : RepM (mR M0 x) T g) (hx : x ≤ 1) (D : DI T) (hi : i < T.nn) : ∀ n d b L M, d + n = T.nd → PMo M0 L M → L.length + ((sDr T i n d b).length + 2) ≤ 40000 → (∀ M', PMo M0 (L ++ (sDr T i n d b ++ sN 59)) M' → post M') → w_Mo_sayNode_L243 post (n + 1) 136 (nI x) (nI i) (bI b) (nI (100 * x + d)) M := by
  have lnn := R.lnn
  have lnd := R.lnd
  have e24 : ∀ {L M}, PMo M0 L M → rI M (136 + 24) x = nI T.nd := fun {L M} h => by rw [h.mr (by omega)]; exact (rd1 (c := 24) (j := 0) (by omega) rfl rfl).symm.trans R.nd
  have rd : ∀ c j, 1 ≤ c ∧ c < 31 → szM c = 100 → ∀ {L M}, PMo M0 L M → rI M (136 + c) (100 * x + j) = mR M0 x c j := fun c j hc hs {L M} h => by rw [h.mr (by omega), mRr hc, hs, Nat.mul_comm]
  intro n
  induction n with
  | zero =>
    intro d b L M hd h hl q
    have ed : d = T.nd := by omega
    subst ed
    unfold w_Mo_sayNode_L243
    rw [nI_clamp (n := x) (by omega), e24 h, m100, show (rK M (136 + 24)).2 = 3 from mK h.K 159 3]
    have hl : L.length + (0 + 2) ≤ 40000 := hl
    refine ⟨vin (by omega), br_t (Int32.le_refl _) (w_putc h (by omega) (fun M4 h4 _ => w_putc h4 (by simp only [List.length_append, List.length_cons, List.length_nil]; omega) (fun M5 h5 _ => q M5 ?_)))⟩
    rw [sDr, show sN 59 = [59, 10] from rfl]
    simp only [List.append_assoc, List.cons_append, List.nil_append] at h5 ⊢
    exact h5
  | succ n ih =>
    intro d b L M hd h hl q
    have lo := D.o d (by omega)
    have hv := D.v d (by omega)
    unfold w_Mo_sayNode_L243
    rw [nI_clamp (n := x) (by omega), e24 h, m100, show (rK M (136 + 24)).2 = 3 from mK h.K 159 3, nI_clamp (n := 100 * x + d) (by omega), rd 25 d (by omega) rfl h, R.dof d (by omega), show (rK M (136 + 25)).2 = 300 from mK h.K 160 300]
    rw [sDr] at q hl
    refine ⟨vin (by omega), pk_le (100 * x + T.nd) (100 * x + d) (fun z => by omega) (fun _ => ⟨vin (by omega), pk_ne (T.dof d) i (fun z => ?_) (fun z => ?_)⟩)⟩
    · rw [if_neg z] at q hl
      rw [nI_1, show 100 * x + d + 1 = 100 * x + (d + 1) by omega]
      exact ih (d + 1) b L M (by omega) h hl q
    · rw [if_pos z] at q hl
      have J : ∀ id, id < 59 → L.length + (((sN id).length + ((sNum (T.dnum d)).length + (sDr T i n (d + 1) true).length)) + 2) ≤ 40000 → (∀ M', PMo M0 (L ++ (sN id ++ (sNum (T.dnum d) ++ sDr T i n (d + 1) true) ++ sN 59)) M' → post M') → w_Mo_sayNode_J285 post (w_Mo_sayNode_L243 post (n + 1)) 136 (nI x) (nI i) (nI (100 * x + d)) 136 id M := by
        intro id hid ll q
        unfold w_Mo_sayNode_J285
        refine w_say hid h (by omega) (fun M2 h2 _ => ?_)
        rw [nI_clamp (n := 100 * x + d) (by omega), rd 27 d (by omega) rfl h2, R.dnum d (by omega), show (rK M2 (136 + 27)).2 = 300 from mK h2.K 162 300]
        refine ⟨vin (by omega), w_num hv h2 (by simp only [List.length_append]; omega) (fun M3 h3 _ => ?_)⟩
        rw [nI_1, show 100 * x + d + 1 = 100 * x + (d + 1) by omega]
        refine ih (d + 1) true _ M3 (by omega) h3 (by simp only [List.length_append]; omega) (fun M6 h6 => q M6 ?_)
        simp only [List.append_assoc] at h6 ⊢
        exact h6
      simp only [List.length_append] at hl
      refine pk_b0 b (fun y => ?_) (fun y => ?_)
      · rw [y] at q hl; exact J 58 (by omega) hl q
      · rw [y] at q hl; exact J 49 (by omega) hl q
theorem w_node {post : aM → Prop} {i : Nat} {L : List Nat} {M : aM} (R : RepM (mR M0 x) T g) (hx : x ≤ 1) (ok : TOk T) (hi : i < T.nn) (h : PMo M0 L M) (hl : L.length + (blk (2 * dO T (T.fa i)) ++ sNode T i (dO T (T.fa i))).length ≤ 40000) (q : ∀ M', PMo M0 (L ++ (blk (2 * dO T (T.fa i)) ++ sNode T i (dO T (T.fa i)))) M' → post M') : w_Mo_sayNode post 136 (nI x) (nI i) M := by
  have lnn := R.lnn
  obtain ⟨f1, f2⟩ := fa_dp ok hi
  have rd : ∀ c j, 1 ≤ c ∧ c < 31 → szM c = 100 → ∀ {L M}, PMo M0 L M → rI M (136 + c) (100 * x + j) = mR M0 x c j := fun c j hc hs {L M} h => by rw [h.mr (by omega), mRr hc, hs, Nat.mul_comm]
  rw [List.length_append, blk_len] at hl
  unfold w_Mo_sayNode
  refine w_dep R hx ok.N hi f1 f2 h ?_
  generalize dO T (T.fa i) = e at f1 f2 hl q ⊢
  unfold w_Mo_nameOf
  refine nb_f (by decide) ?_
  rw [show (8 : Int32) + nI i = nI (8 + i) from nI_add 8 i, m108, show (2 : Int32) * nI e = nI (2 * e) from pk_mul 2 e]
  refine w_blank (by omega) h (by omega) (fun M3 h3 _ => ?_)
  have ls := ok.N.sr i hi
  rw [m100, nI_clamp (n := 100 * x + i) (by omega), rd 11 i (by omega) rfl h3, R.srt i hi, show (rK M3 (136 + 11)).2 = 300 from mK h3.K 146 300]
  refine ⟨vin (by omega), pk_ne (T.srt i) 2 (fun z => ⟨vin (by omega), ?_⟩) (fun z => ?_)⟩
  · -- a rule
    unfold sNode at q hl
    rw [if_neg z] at q hl
    have J : ∀ id w, id < 59 → (if T.srt i = 0 then 6 else 7) = w → sN id = wd w → w_Mo_sayNode_J203 post 136 (nI x) (nI i) (nI (108 * x + (8 + i))) 136 id M3 := by
      intro id w hid ew ei
      unfold sRul at q hl
      rw [ew] at q hl
      simp only [List.length_append] at hl
      have e41 : (sN 59).length = 2 := rfl
      rw [e41] at hl
      unfold w_Mo_sayNode_J203
      refine w_say hid h3 (by rw [List.length_append, blk_len, ei]; omega) (fun M4 h4 _ => ?_)
      have e8 : rI M4 (136 + 8) (108 * x + (8 + i)) = nI (T.nnl i) := by
        rw [h4.mr (by omega)]
        have := R.nnl i hi
        rw [mRr (by omega), show szM 8 = 108 from rfl, Nat.mul_comm] at this; exact this
      rw [nI_clamp (n := 108 * x + (8 + i)) (by omega), e8, show (rK M4 (136 + 8)).2 = 324 from mK h4.K 143 324]
      rw [ei] at h4
      have J228 : ∀ {L1 M5}, PMo M0 L1 M5 → L1.length + ((sFor T i).length + ((sDr T i T.nd 0 false).length + 2)) ≤ 40000 → (∀ M', PMo M0 (L1 ++ (sFor T i ++ (sDr T i T.nd 0 false ++ sN 59))) M' → post M') → w_Mo_sayNode_J228 post 136 (nI x) (nI i) M5 := by
        intro L1 M5 h5 l5 q5
        unfold w_Mo_sayNode_J228
        refine w_for R hx ok hi h5 (by omega) (fun M6 h6 => ⟨T.nd + 1, ?_⟩)
        rw [show (100 : Int32) * nI x = nI (100 * x + 0) from pk_mul 100 x]
        refine w_rdut R hx ok.D hi T.nd 0 false _ M6 (by omega) h6 (by rw [List.length_append]; omega) (fun M7 h7 => q5 M7 ?_)
        rw [List.append_assoc] at h7; exact h7
      have ln := R.lnnl i hi
      refine ⟨vin (by omega), pk_le (T.nnl i) 0 (fun y => ?_) (fun y => ?_)⟩
      · rw [if_neg (by omega)] at q hl
        refine J228 h4 (by simp only [List.length_append, blk_len]; omega) (fun M5 h5 => q M5 ?_)
        simp only [List.append_assoc, List.nil_append] at h5 ⊢
        exact h5
      · rw [if_pos y] at q hl
        simp only [List.length_cons] at hl
        refine w_putc h4 (by simp only [List.length_append, blk_len]; omega) (fun M5 h5 _ => w_nnm R ok.W hx hi h5 (by simp only [List.length_append, blk_len, List.length_cons, List.length_nil]; omega) (fun M6 h6 => J228 h6 (by simp only [List.length_append, blk_len, List.length_cons, List.length_nil]; omega) (fun M7 h7 => q M7 ?_)))
        simp only [List.append_assoc, List.cons_append, List.nil_append] at h7 ⊢
        exact h7
    exact pk_ne (T.srt i) 0 (fun y => J 26 7 (by omega) (if_neg y) rfl) (fun y => J 25 6 (by omega) (if_pos y) rfl)
  · -- a set
    obtain ⟨w, hw, ew⟩ := ok.W.w i hi z
    unfold sNode sSet at q hl
    rw [if_pos z, ew] at q hl
    have q : ∀ M', PMo M0 (L ++ (blk (2 * e) ++ (wd 4 ++ (32 :: (nnS T i ++ (32 :: (wd (22 + w) ++ (sFor T i ++ (sN 61 ++ sDs T i (e + 1) T.nd 0))))))))) M' → post M' := q
    have hl : L.length + (2 * e + (wd 4 ++ (32 :: (nnS T i ++ (32 :: (wd (22 + w) ++ (sFor T i ++ (sN 61 ++ sDs T i (e + 1) T.nd 0))))))).length) ≤ 40000 := hl
    have e4 : (wd 4).length = 3 := rfl
    have e49 : (sN 61).length = 3 := rfl
    have e61 : (sN 34).length = 4 := rfl
    have e67 : (sN 55).length = 2 := rfl
    simp only [List.length_append, List.length_cons, e4, e49] at hl
    refine w_say (by omega) h3 (by simp only [List.length_append, blk_len, e61]; omega) (fun M4 h4 _ => w_nnm R ok.W hx hi h4 (by simp only [List.length_append, blk_len, e61]; omega) (fun M5 h5 => w_putc h5 (by simp only [List.length_append, blk_len, e61]; omega) (fun M6 h6 _ => ?_)))
    rw [rd 12 i (by omega) rfl h6, R.way i hi, ew, show (rK M6 (136 + 12)).2 = 300 from mK h6.K 147 300]
    refine ⟨vin (by omega), ?_⟩
    have go : w_Mo_say (fun M7 => w_Mo_sayFor (fun M8 => w_Mo_say (fun M9 => w_Mo_put (fun M10 => ∃ n9, w_Mo_sayNode_L95 post n9 136 (nI x) (nI i) (nI (2 * e)) ((100 : Int32) * nI x) M10) 136 ((10 : Int32)) M9) 136 55 M8) 136 (nI x) (nI i) M7) 136 (35 + w) M6 := by
      have ewd : wd (22 + w) = sN (35 + w) := by
        have : w = 0 ∨ w = 1 ∨ w = 2 ∨ w = 3 ∨ w = 4 ∨ w = 5 := by omega
        rcases this with rfl | rfl | rfl | rfl | rfl | rfl <;> rfl
      rw [ewd] at q hl
      refine w_say (by omega) h6 (by simp only [List.length_append, blk_len, e61, List.length_cons, List.length_nil]; omega) (fun M7 h7 _ => w_for R hx ok hi h7 (by simp only [List.length_append, blk_len, e61, List.length_cons, List.length_nil]; omega) (fun M8 h8 => w_say (by omega) h8 (by simp only [List.length_append, blk_len, e61, e67, List.length_cons, List.length_nil]; omega) (fun M9 h9 _ => w_putc h9 (by simp only [List.length_append, blk_len, e61, e67, List.length_cons, List.length_nil]; omega) (fun M10 h10 _ => ⟨T.nd + 1, ?_⟩))))
      rw [show (100 : Int32) * nI x = nI (100 * x + 0) from pk_mul 100 x]
      refine w_sdut R hx ok.D hi f2 T.nd 0 _ M10 (by omega) h10 (by simp only [List.length_append, blk_len, e61, e67, List.length_cons, List.length_nil]; omega) (fun M11 h11 => q M11 ?_)
      rw [show sN 34 = wd 4 ++ [32] from rfl, show sN 55 = [32, 123] from rfl] at h11
      rw [show sN 61 = [32, 123, 10] from rfl]
      simp only [List.append_assoc, List.cons_append, List.nil_append] at h11 ⊢
      exact h11
    show w_Mo_sayWay _ 136 (nI w) M6
    unfold w_Mo_sayWay w_Mo_sayWay_J58
    have : w = 0 ∨ w = 1 ∨ w = 2 ∨ w = 3 ∨ w = 4 ∨ w = 5 := by omega
    rcases this with rfl | rfl | rfl | rfl | rfl | rfl
    · exact nb_t rfl go
    · exact nb_f (by decide) (nb_t rfl go)
    · exact nb_f (by decide) (nb_f (by decide) (nb_t rfl go))
    · exact nb_f (by decide) (nb_f (by decide) (nb_f (by decide) (nb_t rfl go)))
    · exact nb_f (by decide) (nb_f (by decide) (nb_f (by decide) (nb_f (by decide) (nb_t rfl go))))
    · exact nb_f (by decide) (nb_f (by decide) (nb_f (by decide) (nb_f (by decide) (nb_f (by decide) go))))
theorem w_cls {post : Int32 → aM → Prop} {K163 : Nat → Int32 → Int32 → Int32 → aM → Prop} {f : Option Nat} {k : Nat} (R : RepM (mR M0 x) T g) (hx : x ≤ 1) (ok : TOk T) (hf : ∀ c, f = some c → c < T.nn) : ∀ m o L M, PtO T.fa m o f → (∀ a, o = some a → a < T.nn) → PMo M0 L M → L.length + (sCls m (dO T o)).length ≤ 40000 → (∀ M', PMo M0 (L ++ sCls m (dO T o)) M' → w_Mo_print_L200 post K163 1 136 (nI x) (oI f) (nI k) (oI f) M') → w_Mo_print_L200 post K163 (m + 1) 136 (nI x) (oI o) (nI k) (oI f) M := by
  have lnn := R.lnn
  intro m
  induction m with
  | zero =>
    intro o L M hp ho h hl q
    rw [show o = f from hp] at q ⊢
    exact q M (by rw [sCls, List.append_nil]; exact h)
  | succ m ih =>
    intro o L M hp ho h hl q
    obtain ⟨a, rfl, hp2⟩ := hp
    have ha := ho a rfl
    have hfa : ∀ b, T.fa a = some b → b < T.nn := fun b hb => by have := (ok.N.fl a ha b hb).1; omega
    obtain ⟨f1, f2⟩ := fa_dp ok ha
    have ed : dO T (some a) = dO T (T.fa a) + 1 := dO_of ⟨a, rfl, f1⟩ (by omega)
    rw [ed, sCls, show dO T (T.fa a) + 1 - 1 = dO T (T.fa a) from rfl] at q hl
    have hne : ¬ oI (some a) = oI f := by
      intro c
      cases f with
      | none => exact nI_m1 (by omega) c
      | some c2 =>
        have hc2 := hf c2 rfl
        have e : a = c2 := (nI_eq (by omega) (by omega)).mp c
        obtain ⟨b, hb, hle⟩ := PtO.lt ok.N m (T.fa a) (some c2) hp2 hfa c2 rfl
        have := (ok.N.fl a ha b hb).1
        omega
    have e43 : (sN 60).length = 2 := rfl
    simp only [List.length_append, blk_len, e43] at hl
    unfold w_Mo_print_L200
    refine br_f hne ?_
    unfold w_Mo_closeSet
    refine w_dep R hx ok.N ha f1 f2 h ?_
    rw [show (2 : Int32) * nI (dO T (T.fa a)) = nI (2 * dO T (T.fa a)) from pk_mul 2 _]
    refine w_blank (by omega) h (by omega) (fun M1 h1 _ => w_putc h1 (by simp only [List.length_append, blk_len]; omega) (fun M2 h2 _ => w_putc h2 (by simp only [List.length_append, blk_len, List.length_cons, List.length_nil]; omega) (fun M3 h3 _ => ?_)))
    rw [show oI (some a) = nI a from rfl, m100, nI_clamp (by omega)]
    dsimp only
    rw [show (rK M3 (136 + 13)).2 = 300 from mK h3.K 148 300]
    have e13 : rI M3 (136 + 13) (100 * x + a) = oI (T.fa a) := by
      rw [h3.mr (by omega)]
      have := R.fa a ha
      rw [mRr (by omega), show szM 13 = 100 from rfl, Nat.mul_comm] at this; exact this
    rw [e13]
    refine ⟨vin (by omega), ih (T.fa a) _ M3 hp2 hfa h3 (by simp only [List.length_append, blk_len, List.length_cons, List.length_nil]; omega) (fun M4 h4 => q M4 ?_)⟩
    rw [show sN 60 = [125, 10] from rfl]
    simp only [List.append_assoc, List.cons_append, List.nil_append] at h4 ⊢
    exact h4
theorem w_nds {post : Int32 → aM → Prop} (R : RepM (mR M0 x) T g) (hx : x ≤ 1) (ok : TOk T) (D : TDp T) : ∀ n k L M, k + n = T.nn → PMo M0 L M → L.length + (sNds T n k (opn T k)).length ≤ 40000 → (∀ M', PMo M0 (L ++ sNds T n k (opn T k)) M' → post (rI M' 136 60) M') → w_Mo_print_L163 post (n + 2) 136 (nI x) (oI (opn T k)) (nI k) M := by
  have lnn := R.lnn
  have e10 : ∀ {L M}, PMo M0 L M → rI M (136 + 10) x = nI T.nn := fun {L M} h => by rw [h.mr (by omega)]; exact (rd1 (c := 10) (j := 0) (by omega) rfl rfl).symm.trans R.nn
  have k10 : ∀ {L M}, PMo M0 L M → (rK M (136 + 10)).2 = 3 := fun {L M} h => mK h.K 145 3
  intro n
  induction n with
  | zero =>
    intro k L M hk h hl q
    have ek : k = T.nn := by omega
    subst ek
    obtain ⟨d1, d2, d3⟩ := opn_dp ok D (Nat.le_refl T.nn)
    unfold w_Mo_print_L163
    rw [nI_clamp (by omega), e10 h, k10 h]
    refine ⟨vin (by omega), br_f (nI_nlt (Nat.le_refl _) (by omega)) ⟨vin (by omega), br_t (Int32.le_refl _) ⟨dO T (opn T T.nn) + 1, ?_⟩⟩⟩
    refine w_cls (f := none) R hx ok (fun c hc => by cases hc) _ (opn T T.nn) L M (Dp.pt _ _ d1) d3 h hl (fun M' h' => ?_)
    unfold w_Mo_print_L200
    rw [nI_clamp (by omega), e10 h', k10 h', nI_1]
    refine br_t rfl ⟨vin (by omega), br_t (Int32.le_refl _) ?_⟩
    unfold w_Mo_print_L163
    rw [nI_clamp (by omega), e10 h', k10 h']
    exact ⟨vin (by omega), br_t (nI_lt (by omega) (by omega)) (q M' h')⟩
  | succ n ih =>
    intro k L M hk h hl q
    obtain ⟨d1, d2, d3⟩ := opn_dp ok D (k := k) (by omega)
    obtain ⟨m, hm⟩ := opn_pt ok (k := k) (by omega)
    obtain ⟨f1, f2⟩ := fa_dp ok (k := k) (by omega)
    have em : dO T (opn T k) = dO T (T.fa k) + m := dO_of (PtO.dp _ _ _ _ hm f1) (by
      have h3 : ∀ n o m, Dp T.fa o n → Dp T.fa o m → n = m := by
        intro n
        induction n with
        | zero =>
          intro o m h1 h2
          cases m with
          | zero => rfl
          | succ m => obtain ⟨a, ha, _⟩ := h2; rw [show o = none from h1] at ha; cases ha
        | succ n ihn =>
          intro o m h1 h2
          obtain ⟨a, rfl, h1⟩ := h1
          cases m with
          | zero => cases (show some a = none from h2)
          | succ m => obtain ⟨b, hb, h2⟩ := h2; cases hb; rw [ihn _ _ h1 h2]
      have := h3 _ _ _ d1 (PtO.dp _ _ _ _ hm f1)
      omega)
    have e13 : rI M (136 + 13) (100 * x + k) = oI (T.fa k) := by
      rw [h.mr (by omega)]
      have := R.fa k (by omega)
      rw [mRr (by omega), show szM 13 = 100 from rfl, Nat.mul_comm] at this; exact this
    unfold w_Mo_print_L163
    rw [nI_clamp (n := x) (by omega), e10 h, k10 h, m100, nI_clamp (n := 100 * x + k) (by omega), e13, show (rK M (136 + 13)).2 = 300 from mK h.K 148 300]
    rw [sNds, show dO T (opn T k) - dO T (T.fa k) = m by omega] at q hl
    rw [List.length_append, ← List.append_assoc (blk _), List.length_append] at hl
    refine ⟨vin (by omega), br_f (nI_nlt (by omega) (by omega)) ⟨vin (by omega), br_f (nI_ge (by omega) (by omega)) ⟨vin (by omega), m + 1, ?_⟩⟩⟩
    refine w_cls (f := T.fa k) R hx ok (fun c hc => by have := (ok.N.fl k (by omega) c hc).1; omega) m (opn T k) L M hm d3 h (by omega) (fun M1 h1 => ?_)
    unfold w_Mo_print_L200
    rw [nI_clamp (n := x) (by omega), e10 h1, k10 h1]
    refine br_t rfl ⟨vin (by omega), br_f (nI_ge (by omega) (by omega)) ?_⟩
    refine w_node R hx ok (by omega) h1 (by rw [List.length_append]; omega) (fun M2 h2 => ?_)
    have e11 : rI M2 (136 + 11) (100 * x + k) = nI (T.srt k) := by
      rw [h2.mr (by omega)]
      have := R.srt k (by omega)
      rw [mRr (by omega), show szM 11 = 100 from rfl, Nat.mul_comm] at this; exact this
    have ls := ok.N.sr k (by omega)
    rw [m100, nI_clamp (n := 100 * x + k) (by omega), e11, show (rK M2 (136 + 11)).2 = 300 from mK h2.K 146 300, nI_1]
    have nx := ih (k + 1) _ M2 (by omega) h2
    rw [opn] at nx
    refine ⟨vin (by omega), pk_ne (T.srt k) 2 (fun z => ?_) (fun z => ?_)⟩
    · rw [if_neg z] at nx q hl
      refine nx (by simp only [List.length_append] at hl ⊢; omega) (fun M3 h3 => q M3 ?_)
      simp only [List.append_assoc] at h3 ⊢
      exact h3
    · rw [if_pos z] at nx q hl
      refine nx (by simp only [List.length_append] at hl ⊢; omega) (fun M3 h3 => q M3 ?_)
      simp only [List.append_assoc] at h3 ⊢
      exact h3
theorem w_ats {post : Int32 → aM → Prop} (R : RepM (mR M0 x) T g) (hx : x ≤ 1) (A : AI T) : ∀ n i L M, i + n = T.na → PMo M0 L M → L.length + (sAts T n i).length ≤ 40000 → (∀ M', PMo M0 (L ++ sAts T n i) M' → ∃ n9, w_Mo_print_L163 post n9 136 (nI x) (-1) 0 M') → w_Mo_print_L45 post (n + 1) 136 (nI x) (nI i) M := by
  have lna := R.lna
  have e3 : ∀ {L M}, PMo M0 L M → rI M (136 + 3) x = nI T.na := fun {L M} h => by rw [h.mr (by omega)]; exact (rd1 (c := 3) (j := 0) (by omega) rfl rfl).symm.trans R.na
  have rd : ∀ c j, 1 ≤ c ∧ c < 31 → szM c = 8 → ∀ {L M}, PMo M0 L M → rI M (136 + c) (8 * x + j) = mR M0 x c j := fun c j hc hs {L M} h => by rw [h.mr (by omega), mRr hc, hs, Nat.mul_comm]
  intro n
  induction n with
  | zero =>
    intro i L M hi h hl q
    have ei : i = T.na := by omega
    subst ei
    unfold w_Mo_print_L45
    rw [nI_clamp (by omega), e3 h, show (rK M (136 + 3)).2 = 3 from mK h.K 138 3]
    exact ⟨vin (by omega), br_t (Int32.le_refl _) (q M (by rw [sAts, List.append_nil]; exact h))⟩
  | succ n ih =>
    intro i L M hi h hl q
    have lz := R.lasz i (by omega)
    unfold w_Mo_print_L45
    rw [nI_clamp (n := x) (by omega), e3 h, show (rK M (136 + 3)).2 = 3 from mK h.K 138 3]
    rw [sAts] at q hl
    have e56 : (sN 29).length = 5 := rfl
    have e1 : (wd 1).length = 4 := rfl
    have e41 : (sN 59).length = 2 := rfl
    unfold sAtt at q hl
    simp only [List.length_append, List.length_cons, e1, e41] at hl
    refine ⟨vin (by omega), pk_le T.na i (fun z => by omega) (fun _ => ?_)⟩
    refine w_say (by omega) h (by rw [e56]; omega) (fun M1 h1 _ => ?_)
    refine w_anm R A hx (by omega) h1 (by simp only [List.length_append, e56]; omega) (fun M3 h3 _ => w_putc h3 (by simp only [List.length_append, e56]; omega) (fun M4 h4 _ => ?_))
    rw [m8, nI_clamp (n := 8 * x + i) (by omega), rd 4 i (by omega) rfl h4, R.asz i (by omega), show (rK M4 (136 + 4)).2 = 24 from mK h4.K 139 24]
    refine ⟨vin (by omega), w_num (v := T.asz i) (by omega) h4 (by simp only [List.length_append, e56, List.length_cons, List.length_nil]; omega) (fun M5 h5 _ => ?_)⟩
    rw [show (rK M5 (136 + 5)).2 = 24 from mK h5.K 140 24, show (rK M5 (136 + 6)).2 = 24 from mK h5.K 141 24]
    have J : ∀ id, id < 59 → sN id = (if T.amany i then 32 :: wd 2 else []) ++ ((if T.amust i then 32 :: wd 3 else []) ++ [59]) → w_Mo_print_J144 post (w_Mo_print_L45 post (n + 1)) 136 (nI x) (nI i) 136 id M5 := by
      intro id hid ei
      have el : (sN id).length = (if T.amany i then 32 :: wd 2 else []).length + ((if T.amust i then 32 :: wd 3 else []).length + 1) := by rw [ei]; simp only [List.length_append, List.length_cons, List.length_nil]
      unfold w_Mo_print_J144
      refine w_say hid h5 (by simp only [List.length_append, e56, List.length_cons, List.length_nil]; omega) (fun M6 h6 _ => w_putc h6 (by simp only [List.length_append, e56, List.length_cons, List.length_nil]; omega) (fun M7 h7 _ => ?_))
      rw [nI_1]
      refine ih (i + 1) _ M7 (by omega) h7 (by simp only [List.length_append, e56, List.length_cons, List.length_nil]; omega) (fun M8 h8 => q M8 ?_)
      rw [ei, show sN 29 = wd 1 ++ [32] from rfl] at h8
      rw [show sN 59 = [59, 10] from rfl]
      simp only [List.append_assoc, List.cons_append, List.nil_append] at h8 ⊢
      exact h8
    refine ⟨vin (by omega), pk_b0 (T.amany i) (fun z => ⟨vin (by omega), pk_b0 (T.amust i) (fun z2 => ?_) (fun z2 => ?_) ((rd 6 i (by omega) rfl h5).trans (R.amust i (by omega))) rfl⟩) (fun z => ⟨vin (by omega), pk_b0 (T.amust i) (fun z2 => ?_) (fun z2 => ?_) ((rd 6 i (by omega) rfl h5).trans (R.amust i (by omega))) rfl⟩) ((rd 5 i (by omega) rfl h5).trans (R.amany i (by omega))) rfl⟩
    · exact J 33 (by omega) (by rw [z, z2]; rfl)
    · exact J 32 (by omega) (by rw [z, z2]; rfl)
    · exact J 31 (by omega) (by rw [z, z2]; rfl)
    · exact J 30 (by omega) (by rw [z, z2]; rfl)
end WN
