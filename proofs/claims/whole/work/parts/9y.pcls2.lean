/-! THE CLASS PRINTS nodes and the whole text. -/
theorem root_ex {T : Txt} (h : TOk T) {i p : Nat} (hi : i < T.nn) (e : T.root i = some p) : ∃ lo hi seg, EX T 43 lo hi p seg ∧ hi ≤ T.np := by
  obtain ⟨rs, R⟩ := h.R
  obtain ⟨m, hm, rfl⟩ := R.ro i hi p e
  exact ⟨_, _, _, R.ex (i, m) hm, ((inc_hi _ _ R.ic).2 m (List.mem_map.mpr ⟨(i, m), hm, rfl⟩)).2⟩
theorem Dp_dpF {fa : Nat → Option Nat} : ∀ (n : Nat) (o : Option Nat) (m : Nat), Dp fa o n → n < m → dpF fa m o = n := by
  intro n
  induction n with
  | zero =>
    intro o m h hm
    obtain ⟨m, rfl⟩ : ∃ k, m = k + 1 := ⟨m - 1, by omega⟩
    rw [show o = none from h]; rfl
  | succ n ih =>
    intro o m h hm
    obtain ⟨m, rfl⟩ : ∃ k, m = k + 1 := ⟨m - 1, by omega⟩
    obtain ⟨a, rfl, h2⟩ := h
    rw [dpF, ih _ m h2 (by omega)]
theorem dO_of {T : Txt} {o : Option Nat} {n : Nat} (h : Dp T.fa o n) (hn : n ≤ 100) : dO T o = n := Dp_dpF n o 101 h (by omega)
/-- m steps outwards from o lead to f -/
def PtO (fa : Nat → Option Nat) : Nat → Option Nat → Option Nat → Prop
  | 0, o, f => o = f
  | m + 1, o, f => ∃ a, o = some a ∧ PtO fa m (fa a) f
theorem PtO.dp {fa : Nat → Option Nat} : ∀ m o f n, PtO fa m o f → Dp fa f n → Dp fa o (n + m) := by
  intro m
  induction m with
  | zero => intro o f n h h2; rw [show o = f from h]; exact h2
  | succ m ih =>
    intro o f n h h2
    obtain ⟨a, rfl, h3⟩ := h
    exact ⟨a, rfl, ih _ _ _ h3 h2⟩
theorem Dp.pt {fa : Nat → Option Nat} : ∀ n o, Dp fa o n → PtO fa n o none := by
  intro n
  induction n with
  | zero => intro o h; exact h
  | succ n ih =>
    intro o h
    obtain ⟨a, rfl, h2⟩ := h
    exact ⟨a, rfl, ih _ h2⟩
theorem PtO.lt {T : Txt} (N : NI T) : ∀ m o f, PtO T.fa m o f → (∀ a, o = some a → a < T.nn) → ∀ c, f = some c → ∃ a, o = some a ∧ c ≤ a := by
  intro m
  induction m with
  | zero => intro o f h ho c hc; rw [show o = f from h]; exact ⟨c, hc, Nat.le_refl _⟩
  | succ m ih =>
    intro o f h ho c hc
    obtain ⟨a, rfl, h2⟩ := h
    obtain ⟨b, hb, hle⟩ := ih _ _ h2 (fun b hb => by have := (N.fl a (ho a rfl) b hb).1; have := ho a rfl; omega) c hc
    have := (N.fl a (ho a rfl) b hb).1
    exact ⟨a, rfl, by omega⟩
theorem Pth.pt {fa : Nat → Option Nat} : ∀ n k c, Pth fa n k c → PtO fa n (some k) (some c) := by
  intro n
  induction n with
  | zero => intro k c h; rw [show k = c from h]; rfl
  | succ n ih =>
    intro k c h
    obtain ⟨b, hb, h2⟩ := h
    exact ⟨k, rfl, by rw [hb]; exact ih _ _ h2⟩
/-- what is open when node k comes -/
def opn (T : Txt) : Nat → Option Nat
  | 0 => none
  | k + 1 => if T.srt k = 2 then some k else T.fa k
theorem opn_pt {T : Txt} (h : TOk T) {k : Nat} (hk : k < T.nn) : ∃ m, PtO T.fa m (opn T k) (T.fa k) := by
  cases k with
  | zero => exact ⟨0, (h.N.r0 h.p).symm⟩
  | succ k =>
    obtain ⟨n, c, hc, hp⟩ := h.N.ds k hk
    rw [opn, hc]
    cases n with
    | zero =>
      have e : k = c := hp
      rw [if_pos (by rw [e]; exact (h.N.fl (k + 1) hk c hc).2), e]
      exact ⟨0, rfl⟩
    | succ n =>
      obtain ⟨b, hb, h2⟩ := hp
      split
      · exact ⟨n + 1, k, rfl, by rw [hb]; exact Pth.pt n b c h2⟩
      · exact ⟨n, by rw [hb]; exact Pth.pt n b c h2⟩
/-- a set has at most 19 sets around it -/
def TDp (T : Txt) : Prop := (∀ i, i < T.nn → T.srt i = 2 → ∃ n, n ≤ 19 ∧ Dp T.fa (T.fa i) n)
theorem TDp.s {T : Txt} (h : TDp T) : ∀ i, i < T.nn → T.srt i = 2 → ∃ n, n ≤ 19 ∧ Dp T.fa (T.fa i) n := h
theorem opn_dp {T : Txt} (h : TOk T) (D : TDp T) {k : Nat} (hk : k ≤ T.nn) : Dp T.fa (opn T k) (dO T (opn T k)) ∧ dO T (opn T k) ≤ 20 ∧ ∀ a, opn T k = some a → a < T.nn := by
  cases k with
  | zero =>
    have : Dp T.fa (opn T 0) 0 := rfl
    rw [dO_of this (by omega)]; exact ⟨this, by omega, fun a ha => by cases ha⟩
  | succ k =>
    rw [opn]
    split
    · obtain ⟨n, h1, h2⟩ := D.s k (by omega) (by assumption)
      have h3 : Dp T.fa (some k) (n + 1) := ⟨k, rfl, h2⟩
      rw [dO_of h3 (by omega)]; exact ⟨h3, by omega, fun a ha => by cases ha; omega⟩
    · obtain ⟨n, h1, h2⟩ := h.d k (by omega)
      rw [dO_of h2 (by omega)]; exact ⟨h2, h1, fun a ha => by have := (h.N.fl k (by omega) a ha).1; omega⟩
theorem fa_dp {T : Txt} (h : TOk T) {k : Nat} (hk : k < T.nn) : Dp T.fa (T.fa k) (dO T (T.fa k)) ∧ dO T (T.fa k) ≤ 20 := by
  obtain ⟨n, h1, h2⟩ := h.d k hk
  rw [dO_of h2 (by omega)]; exact ⟨h2, h1⟩
section PN
variable {M0 M : aM} {o : Option Nat} {d : Nat} {L : List Nat} {post : aM → Prop} {T : Txt} {g : Nat → Nat} {t : Nat}
theorem p_duty {x : Nat} (R : RepC (cR M0 t) T g) (K0 : KOk (rK M0)) (ht : tOk t) (D : DI T) (hx : x < T.nd) (hd : d < 1000) (h : PCl M0 o d L M) (q : ∀ M', PCl M0 o d (L ++ (blk (2 * d) ++ (wd 9 ++ (32 :: (wd (if T.dfor x = 1 then 6 else 7) ++ (32 :: (sNum (T.dnum x) ++ sN 59))))))) M' → post M') : w_Pr_writeDuty post 131 (t + 9) (nI x) M := by
  have lnd := R.lnd
  have hf := D.f x hx
  have hv := D.v x hx
  unfold w_Pr_writeDuty
  refine p_ind h hd (fun M1 h1 => p_word (k := 9) (by omega) h1 (fun M2 h2 => p_put h2 (fun M3 h3 => ?_)))
  have J : ∀ w, (w = 6 ∨ w = 7) → (if T.dfor x = 1 then 6 else 7) = w → w_Pr_writeDuty_J34 post 131 (t + 9) (nI x) 131 (nI w) M3 := by
    intro w hw ew
    unfold w_Pr_writeDuty_J34
    refine p_word (k := w) (by omega) h3 (fun M4 h4 => p_put h4 (fun M5 h5 => ?_))
    rw [nI_clamp (by omega), show rI M5 (t + 9 + 12) x = nI (T.dnum x) by rw [show rI M5 (t + 9 + 12) = rI M0 (t + 21) from h5.tx ht (c := 21) (by omega)]; exact R.dnum x hx, show (rK M5 (t + 9 + 12)).2 = 100 by rw [h5.kk]; exact K0.tl ht 21 100]
    refine ⟨vin (by omega), p_num hv h5 (fun M6 h6 => p_end (c := 59) (id := 59) rfl h6 (fun M7 h7 => q M7 ?_))⟩
    rw [ew]
    simp only [List.append_assoc, List.cons_append, List.nil_append] at h7 ⊢
    exact h7
  rw [nI_clamp (by omega), show rI M3 (t + 9 + 14) x = nI (T.dfor x) by rw [show rI M3 (t + 9 + 14) = rI M0 (t + 23) from h3.tx ht (c := 23) (by omega)]; exact R.dfor x hx, show (rK M3 (t + 9 + 14)).2 = 100 by rw [h3.kk]; exact K0.tl ht 23 100]
  exact ⟨vin (by omega), pk_ne (T.dfor x) 1 (fun z => J 7 (by omega) (if_neg z)) (fun z => J 6 (by omega) (if_pos z))⟩
theorem p_sdut {i : Nat} (R : RepC (cR M0 t) T g) (K0 : KOk (rK M0)) (ht : tOk t) (D : DI T) (hi : i < T.nn) (hd : d < 1000) : ∀ n x L M, x + n = T.nd → PCl M0 o d L M → (∀ M', PCl M0 o d (L ++ sDs T i d n x) M' → post M') → w_Pr_writeSetHead_L101 post (n + 1) 131 (nI i) (t + 9) (nI x) M := by
  have lnd := R.lnd
  have lnn := R.lnn
  intro n
  induction n with
  | zero =>
    intro x L M hx h q
    have ex : x = T.nd := by omega
    subst ex
    unfold w_Pr_writeSetHead_L101
    exact br_t (by rw [show rI M (t + 9) 10 = nI T.nd by rw [h.tx ht (c := 9) (by omega)]; exact R.nd]; exact Int32.le_refl _) (q M (by rw [sDs, List.append_nil]; exact h))
  | succ n ih =>
    intro x L M hx h q
    have lo := D.o x (by omega)
    unfold w_Pr_writeSetHead_L101
    rw [sDs] at q
    refine pk_le T.nd x (fun z => by omega) (fun _ => ?_) (by rw [h.tx ht (c := 9) (by omega)]; exact R.nd) rfl
    rw [nI_clamp (n := x) (by omega), show rI M (t + 9 + 13) x = nI (T.dof x) by rw [show rI M (t + 9 + 13) = rI M0 (t + 22) from h.tx ht (c := 22) (by omega)]; exact R.dof x (by omega), show (rK M (t + 9 + 13)).2 = 100 by rw [h.kk]; exact K0.tl ht 22 100, nI_1]
    refine ⟨vin (by omega), pk_ne (T.dof x) i (fun z => ?_) (fun z => ?_)⟩
    · rw [if_neg z] at q; exact ih (x + 1) L M (by omega) h q
    · rw [if_pos z] at q
      refine p_duty R K0 ht D (by omega) hd h (fun M1 h1 => ih (x + 1) _ M1 (by omega) h1 (fun M2 h2 => q M2 ?_))
      simp only [List.append_assoc, List.cons_append, List.nil_append] at h2 ⊢
      exact h2
theorem PCl.opn {i : Nat} (h : PCl M0 o d L M) : PCl M0 (some i) (d + 1) L (wI (wI M 131 3 (nI i)) 131 4 (rI (wI M 131 3 (nI i)) 131 4 + 1)) := by
  refine ⟨(h.f.w (by omega)).w (by omega), h.K, ?_, ?_, ?_, fun j hj => ?_, h.w⟩
  · rw [rw_sn (by omega), rw_sn (by omega)]; exact h.n
  · rw [rw_sn (by omega)]; exact rw_ss
  · rw [rw_ss, rw_sn (by omega), h.d, nI_1]
  · rw [rw_n (by omega), rw_n (by omega)]; exact h.b j hj
theorem nd_name {i : Nat} (R : RepC (cR M0 t) T g) (K0 : KOk (rK M0)) (ht : tOk t) (hi : i < T.nn) (h : PCl M0 o d L M) (q : ∀ M', PCl M0 o d (L ++ nnS T i) M' → post M') : w_Pr_putName post 131 (t + 9 + 1) (nI i) M := by
  have lnn := R.lnn
  have hh := ht
  unfold tOk at hh
  exact p_name (N := 100) (K0.tl ht 11 100) (K0.tl ht 12 1200) (by omega) (by omega) (R.lnnl i hi) (R.nnl i hi) (fun j hj => R.nnm i hi j hj) (by omega) h q
theorem p_set {i : Nat} (R : RepC (cR M0 t) T g) (K0 : KOk (rK M0)) (ht : tOk t) (ok : TOk T) (hi : i < T.nn) (hs : T.srt i = 2) (hd : d < 900) (h : PCl M0 o d L M) (q : ∀ M', PCl M0 (some i) (d + 1) (L ++ sSet T i d) M' → post M') : w_Pr_writeSetHead post 131 t (nI i) M := by
  have lnn := R.lnn
  obtain ⟨w, hw, ew⟩ := ok.W.w i hi hs
  unfold w_Pr_writeSetHead
  refine p_word (k := 4) (by omega) h (fun M1 h1 => p_put h1 (fun M2 h2 => nd_name R K0 ht hi h2 (fun M3 h3 => p_put h3 (fun M4 h4 => ?_))))
  rw [nI_clamp (by omega), show rI M4 (t + 9 + 5) i = nI w by rw [show rI M4 (t + 9 + 5) = rI M0 (t + 14) from h4.tx ht (c := 14) (by omega), show rI M0 (t + 14) i = _ from R.way i hi, ew]; rfl, show (rK M4 (t + 9 + 5)).2 = 100 by rw [h4.kk]; exact K0.tl ht 14 100]
  refine ⟨vin (by omega), p_word (k := 22 + w) (by omega) h4 (fun M5 h5 => ?_) (nI_add 22 w)⟩
  have er : ∀ {L M}, PCl M0 o d L M → rI M (t + 9 + 7) i = oI (T.root i) := fun {L M} h => by rw [show rI M (t + 9 + 7) = rI M0 (t + 16) from h.tx ht (c := 16) (by omega)]; exact R.root i hi
  have kr : ∀ {L M}, PCl M0 o d L M → (rK M (t + 9 + 7)).2 = 100 := fun {L M} h => by rw [h.kk]; exact K0.tl ht 16 100
  have fin : ∀ s M', sFor T i = s → PCl M0 o d (((((L ++ wd 4) ++ [32]) ++ nnS T i) ++ [32]) ++ wd (22 + w) ++ s) M' → w_Pr_writeSetHead_J71 post 131 (nI i) (t + 9) M' := by
    intro s M' es h
    unfold w_Pr_writeSetHead_J71
    unfold w_Pr_endLine
    refine p_put h (fun M4 h4 => p_put h4 (fun M5 h5 => p_put h5 (fun M6 h6 => ⟨T.nd + 1, ?_⟩)))
    refine p_sdut R K0 ht ok.D hi (by omega) T.nd 0 _ _ (by omega) h6.opn (fun M7 h7 => q M7 ?_)
    unfold sSet
    rw [ew, es, show sN 61 = [32, 123, 10] from rfl]
    simp only [List.append_assoc, List.cons_append, List.nil_append, Option.getD_some] at h7 ⊢
    exact h7
  rw [er h5, kr h5]
  refine ⟨vin (by omega), pk_eqm (T.root i) (fun z => ?_) (fun p z => ?_) rfl rfl (fun p hp => by have := ok.rt hi hp; omega)⟩
  · exact fin [] M5 (by unfold sFor; rw [z]) (by rw [List.append_nil]; exact h5)
  · refine p_btw (k := 5) (id := 41) (by omega) rfl h5 (fun M6 h6 => ?_)
    obtain ⟨lo, hi2, seg, e, hle⟩ := root_ex ok hi z
    rw [er h6, kr h6, z]
    refine ⟨vin (by omega), 150, Nat.le_refl _, ?_⟩
    refine p_ex R K0 ht 43 0 150 lo hi2 p seg _ M6 _ e hle (by omega) (by omega) h6 (fun M7 h7 => fin _ M7 (by unfold sFor; rw [z]) ?_)
    simp only [List.append_assoc, List.cons_append, List.nil_append] at h7 ⊢
    exact h7
theorem p_rdut {i : Nat} (R : RepC (cR M0 t) T g) (K0 : KOk (rK M0)) (ht : tOk t) (D : DI T) (hi : i < T.nn) : ∀ n x b L M, x + n = T.nd → PCl M0 o d L M → (∀ M', PCl M0 o d (L ++ sDr T i n x b) M' → post M') → w_Pr_writeRuleDuties_L5 post (n + 1) 131 (t + 9) (nI i) (bI b) (nI x) M := by
  have lnd := R.lnd
  have lnn := R.lnn
  intro n
  induction n with
  | zero =>
    intro x b L M hx h q
    have ex : x = T.nd := by omega
    subst ex
    unfold w_Pr_writeRuleDuties_L5
    exact br_t (by rw [show rI M (t + 9) 10 = nI T.nd by rw [h.tx ht (c := 9) (by omega)]; exact R.nd]; exact Int32.le_refl _) (q M (by rw [sDr, List.append_nil]; exact h))
  | succ n ih =>
    intro x b L M hx h q
    have lo := D.o x (by omega)
    have hv := D.v x (by omega)
    unfold w_Pr_writeRuleDuties_L5
    rw [sDr] at q
    refine pk_le T.nd x (fun z => by omega) (fun _ => ?_) (by rw [h.tx ht (c := 9) (by omega)]; exact R.nd) rfl
    rw [nI_clamp (n := x) (by omega), show rI M (t + 9 + 13) x = nI (T.dof x) by rw [show rI M (t + 9 + 13) = rI M0 (t + 22) from h.tx ht (c := 22) (by omega)]; exact R.dof x (by omega), show (rK M (t + 9 + 13)).2 = 100 by rw [h.kk]; exact K0.tl ht 22 100]
    refine ⟨vin (by omega), pk_ne (T.dof x) i (fun z => ?_) (fun z => ?_)⟩
    · rw [if_neg z] at q
      rw [nI_1]; exact ih (x + 1) b L M (by omega) h q
    · rw [if_pos z] at q
      have J : ∀ (s : List Nat) (M1 : aM), PCl M0 o d (L ++ s) M1 → (∀ M', PCl M0 o d (L ++ (s ++ (sNum (T.dnum x) ++ sDr T i n (x + 1) true))) M' → post M') → w_Pr_writeRuleDuties_J50 post (w_Pr_writeRuleDuties_L5 post (n + 1)) 131 (t + 9) (nI i) (nI x) M1 := by
        intro s M1 h1 q
        unfold w_Pr_writeRuleDuties_J50
        rw [nI_clamp (by omega), show rI M1 (t + 9 + 12) x = nI (T.dnum x) by rw [show rI M1 (t + 9 + 12) = rI M0 (t + 21) from h1.tx ht (c := 21) (by omega)]; exact R.dnum x (by omega), show (rK M1 (t + 9 + 12)).2 = 100 by rw [h1.kk]; exact K0.tl ht 21 100, nI_1]
        refine ⟨vin (by omega), p_num hv h1 (fun M2 h2 => ih (x + 1) true _ M2 (by omega) h2 (fun M3 h3 => q M3 ?_))⟩
        simp only [List.append_assoc] at h3 ⊢
        exact h3
      refine pk_b0 b (fun y => ?_) (fun y => ?_)
      · rw [y] at q
        exact p_btw (k := 8) (id := 58) (by omega) rfl h (fun M1 h1 => J (sN 58) M1 h1 q)
      · rw [y] at q
        exact p_put h (fun M1 h1 => p_put h1 (fun M2 h2 => J (sN 49) M2 (by rw [List.append_assoc] at h2; exact h2) q))
theorem p_rule {i : Nat} (R : RepC (cR M0 t) T g) (K0 : KOk (rK M0)) (ht : tOk t) (ok : TOk T) (hi : i < T.nn) (hs : T.srt i < 2) (h : PCl M0 o d L M) (q : ∀ M', PCl M0 o d (L ++ sRul T i) M' → post M') : w_Pr_writeRule post 131 t (nI i) M := by
  have lnn := R.lnn
  have er : ∀ {L M}, PCl M0 o d L M → rI M (t + 9 + 7) i = oI (T.root i) := fun {L M} h => by rw [show rI M (t + 9 + 7) = rI M0 (t + 16) from h.tx ht (c := 16) (by omega)]; exact R.root i hi
  have kr : ∀ {L M}, PCl M0 o d L M → (rK M (t + 9 + 7)).2 = 100 := fun {L M} h => by rw [h.kk]; exact K0.tl ht 16 100
  have J80 : ∀ {L M}, PCl M0 o d L M → (∀ M', PCl M0 o d (L ++ (sDr T i T.nd 0 false ++ sN 59)) M' → post M') → w_Pr_writeRule_J79 post 131 (nI i) (t + 9) M := by
    intro L M h q
    unfold w_Pr_writeRule_J79 w_Pr_writeRuleDuties
    exact ⟨T.nd + 1, p_rdut R K0 ht ok.D hi T.nd 0 false L M (by omega) h (fun M1 h1 => p_end (c := 59) (id := 59) rfl h1 (fun M2 h2 => q M2 (by rw [List.append_assoc] at h2; exact h2)))⟩
  have J52 : ∀ {L M}, PCl M0 o d L M → (∀ M', PCl M0 o d (L ++ (sFor T i ++ (sDr T i T.nd 0 false ++ sN 59))) M' → post M') → w_Pr_writeRule_J52 post 131 t (nI i) (t + 9) M := by
    intro L M h q
    unfold w_Pr_writeRule_J52
    rw [nI_clamp (by omega), er h, kr h]
    refine ⟨vin (by omega), pk_eqm (T.root i) (fun z => ?_) (fun p z => ?_) rfl rfl (fun p hp => by have := ok.rt hi hp; omega)⟩
    · unfold sFor at q
      rw [z] at q; exact J80 h q
    · refine p_btw (k := 5) (id := 41) (by omega) rfl h (fun M6 h6 => ?_)
      obtain ⟨lo, hi2, seg, e, hle⟩ := root_ex ok hi z
      rw [er h6, kr h6, z]
      refine ⟨vin (by omega), 150, Nat.le_refl _, ?_⟩
      refine p_ex R K0 ht 43 0 150 lo hi2 p seg _ M6 _ e hle (by omega) (by omega) h6 (fun M7 h7 => J80 h7 (fun M8 h8 => q M8 ?_))
      unfold sFor
      rw [z]
      simp only [List.append_assoc] at h8 ⊢
      exact h8
  have J22 : ∀ w, (w = 6 ∨ w = 7) → (if T.srt i = 0 then 6 else 7) = w → w_Pr_writeRule_J22 post 131 t (nI i) (t + 9) 131 (nI w) M := by
    intro w hw ew
    unfold w_Pr_writeRule_J22
    refine p_word (k := w) (by omega) h (fun M1 h1 => ?_)
    rw [nI_clamp (by omega), show rI M1 (t + 9 + 1 + 1) i = nI (T.nnl i) by rw [show rI M1 (t + 9 + 1 + 1) = rI M0 (t + 11) from h1.tx ht (c := 11) (by omega)]; exact R.nnl i hi, show (rK M1 (t + 9 + 1 + 1)).2 = 100 by rw [h1.kk]; exact K0.tl ht 11 100]
    have ln := R.lnnl i hi
    unfold sRul at q
    rw [ew] at q
    refine ⟨vin (by omega), pk_le (T.nnl i) 0 (fun z => ?_) (fun z => ?_)⟩
    · rw [if_neg (by omega)] at q
      exact J52 h1 (fun M2 h2 => q M2 (by rw [List.append_assoc] at h2; exact h2))
    · rw [if_pos z] at q
      refine p_put h1 (fun M2 h2 => nd_name R K0 ht hi h2 (fun M3 h3 => J52 h3 (fun M4 h4 => q M4 ?_)))
      simp only [List.append_assoc, List.cons_append, List.nil_append] at h4 ⊢
      exact h4
  unfold w_Pr_writeRule
  rw [nI_clamp (by omega), show rI M (t + 9 + 4) i = nI (T.srt i) by rw [show rI M (t + 9 + 4) = rI M0 (t + 13) from h.tx ht (c := 13) (by omega)]; exact R.srt i hi, show (rK M (t + 9 + 4)).2 = 100 by rw [h.kk]; exact K0.tl ht 13 100]
  exact ⟨vin (by omega), pk_ne (T.srt i) 0 (fun z => J22 7 (by omega) (if_neg z)) (fun z => J22 6 (by omega) (if_pos z))⟩
theorem p_close {f : Option Nat} (R : RepC (cR M0 t) T g) (K0 : KOk (rK M0)) (ht : tOk t) (N : NI T) (hf : ∀ c, f = some c → c < T.nn) : ∀ left m o d L M, m ≤ left → left ≤ 20 → PtO T.fa m o f → (∀ a, o = some a → a < T.nn) → m ≤ d → d < 1000 → PCl M0 o d L M → (∀ M', PCl M0 f (d - m) (L ++ sCls m d) M' → post M') → w_Pr_closeSets_L3 post (left + 1) 131 (t + 9) (oI f) (nI left) M := by
  have lnn := R.lnn
  have oN : ∀ o : Option Nat, (∀ a, o = some a → a < T.nn) → ∀ k, o = some k → k < 2 ^ 31 := fun o h k hk => by have := h k hk; omega
  intro left
  induction left with
  | zero =>
    intro m o d L M hm hl hp ho hmd hd h q
    have em : m = 0 := by omega
    subst em
    unfold w_Pr_closeSets_L3
    refine br_t (Int32.le_refl _) (q M ?_)
    rw [sCls, List.append_nil, show d - 0 = d from rfl, ← show o = f from hp]; exact h
  | succ left ih =>
    intro m o d L M hm hl hp ho hmd hd h q
    unfold w_Pr_closeSets_L3
    refine pk_le (left + 1) 0 (fun z => by omega) (fun _ => ?_)
    rw [h.o]
    cases m with
    | zero =>
      refine br_t (by rw [show o = f from hp]) (q M ?_)
      rw [sCls, List.append_nil, show d - 0 = d from rfl, ← show o = f from hp]; exact h
    | succ m =>
      obtain ⟨a, rfl, hp2⟩ := hp
      have ha := ho a rfl
      have hfa : ∀ b, T.fa a = some b → b < T.nn := fun b hb => by have := (N.fl a ha b hb).1; omega
      have hne : ¬ oI (some a) = oI f := by
        intro c
        cases f with
        | none => exact nI_m1 (by omega) c
        | some c2 =>
          have hc2 := hf c2 rfl
          have e : a = c2 := (nI_eq (by omega) (by omega)).mp c
          obtain ⟨b, hb, hle⟩ := PtO.lt N m (T.fa a) (some c2) hp2 hfa c2 rfl
          have := (N.fl a ha b hb).1
          omega
      refine br_f hne (br_f (show ¬ oI (some a) = -1 from nI_m1 (by omega)) ?_)
      have e1 : rI (wI M 131 4 (rI M 131 4 - 1)) 131 3 = nI a := by rw [rw_sn (by omega)]; exact h.o
      have e2 : rI (wI M 131 4 (rI M 131 4 - 1)) (t + 9 + 6) a = oI (T.fa a) := by
        rw [rw_n (by unfold tOk at ht; omega), show rI M (t + 9 + 6) = rI M0 (t + 15) from h.tx ht (c := 15) (by omega)]; exact R.fa a ha
      rw [e1, nI_clamp (by omega), e2, show (rK M (t + 9 + 6)).2 = 100 by rw [h.kk]; exact K0.tl ht 15 100]
      refine ⟨vin (by omega), ?_⟩
      have h2 : PCl M0 (T.fa a) (d - 1) L (wI (wI M 131 4 (rI M 131 4 - 1)) 131 3 (oI (T.fa a))) := by
        refine ⟨(h.f.w (by omega)).w (by omega), h.K, ?_, rw_ss, ?_, fun j hj => ?_, h.w⟩
        · rw [rw_sn (by omega), rw_sn (by omega)]; exact h.n
        · rw [rw_sn (by omega), rw_ss, h.d]; exact pk_sub (b := 1) (by omega)
        · rw [rw_n (by omega), rw_n (by omega)]; exact h.b j hj
      refine p_ind h2 (by omega) (fun M1 h1 => p_end (c := 125) (id := 60) rfl h1 (fun M2 h3 => ?_))
      rw [pk_m1]
      refine ih m (T.fa a) (d - 1) _ M2 (by omega) (by omega) hp2 hfa (by omega) (by omega) h3 (fun M3 h4 => q M3 ?_)
      rw [sCls, show d - (m + 1) = d - 1 - m by omega]
      simp only [List.append_assoc] at h4 ⊢
      exact h4
theorem p_att {i : Nat} (R : RepC (cR M0 t) T g) (K0 : KOk (rK M0)) (ht : tOk t) (hi : i < T.na) (h : PCl M0 o d L M) (q : ∀ M', PCl M0 o d (L ++ sAtt T i) M' → post M') : w_Pr_writeAttribute post 131 (t + 1) (nI i) M := by
  have lna := R.lna
  have hh := ht
  unfold tOk at hh
  have lz := R.lasz i hi
  unfold w_Pr_writeAttribute
  refine p_word (k := 1) (by omega) h (fun M1 h1 => p_put h1 (fun M2 h2 => p_name (N := 8) (K0.tl ht 3 8) (K0.tl ht 4 96) (by omega) (by omega) (R.lanl i hi) (R.anl i hi) (fun j hj => R.anm i hi j hj) (by omega) h2 (fun M3 h3 => p_put h3 (fun M4 h4 => ?_))))
  rw [nI_clamp (by omega), show rI M4 (t + 1 + 4) i = nI (T.asz i) by rw [show rI M4 (t + 1 + 4) = rI M0 (t + 5) from h4.tx ht (c := 5) (by omega)]; exact R.asz i hi, show (rK M4 (t + 1 + 4)).2 = 8 by rw [h4.kk]; exact K0.tl ht 5 8]
  refine ⟨vin (by omega), p_num (v := T.asz i) (by omega) h4 (fun M5 h5 => ?_)⟩
  have J76 : ∀ {L M}, PCl M0 o d L M → (∀ M', PCl M0 o d (L ++ sN 59) M' → post M') → w_Pr_writeAttribute_J76 post 131 M := fun {L M} h q => by
    unfold w_Pr_writeAttribute_J76
    exact p_end (c := 59) (id := 59) rfl h q
  have J56 : ∀ {L M}, PCl M0 o d L M → (∀ M', PCl M0 o d (L ++ ((if T.amust i then 32 :: wd 3 else []) ++ sN 59)) M' → post M') → w_Pr_writeAttribute_J56 post 131 (t + 1) (nI i) M := fun {L M} h q => by
    unfold w_Pr_writeAttribute_J56
    rw [nI_clamp (by omega), show (rK M (t + 1 + 6)).2 = 8 by rw [h.kk]; exact K0.tl ht 7 8]
    refine ⟨vin (by omega), pk_b0 (T.amust i) (fun z => ?_) (fun z => ?_) (by rw [show rI M (t + 1 + 6) = rI M0 (t + 7) from h.tx ht (c := 7) (by omega)]; exact R.amust i hi) rfl⟩
    · rw [z] at q; exact J76 h q
    · rw [z] at q
      refine p_put h (fun M1 h1 => p_word (k := 3) (by omega) h1 (fun M2 h2 => J76 h2 (fun M3 h3 => q M3 ?_)))
      simp only [if_true, List.append_assoc, List.cons_append, List.nil_append] at h3 ⊢
      exact h3
  rw [show (rK M5 (t + 1 + 5)).2 = 8 by rw [h5.kk]; exact K0.tl ht 6 8]
  unfold sAtt anS at q
  refine ⟨vin (by omega), pk_b0 (T.amany i) (fun z => ?_) (fun z => ?_) (by rw [show rI M5 (t + 1 + 5) = rI M0 (t + 6) from h5.tx ht (c := 6) (by omega)]; exact R.amany i hi) rfl⟩
  · rw [z] at q
    refine J56 h5 (fun M6 h6 => q M6 ?_)
    simp only [List.append_assoc, List.cons_append, List.nil_append] at h6 ⊢
    exact h6
  · rw [z] at q
    refine p_put h5 (fun M6 h6 => p_word (k := 2) (by omega) h6 (fun M7 h7 => J56 h7 (fun M8 h8 => q M8 ?_)))
    simp only [if_true, List.append_assoc, List.cons_append, List.nil_append] at h8 ⊢
    exact h8
theorem p_write (R : RepC (cR M0 t) T g) (K0 : KOk (rK M0)) (ht : tOk t) (hw : WO M0 133) (ok : TOk T) (D : TDp T) (q : ∀ M', PCl M0 none 0 (sAll T) M' → post M') : w_Pr_write post 131 t M0 := by
  have lnn := R.lnn
  have lna := R.lna
  have nod : ∀ n k L M, k + n = T.nn → PCl M0 (opn T k) (dO T (opn T k)) L M → (∀ M', PCl M0 none 0 (L ++ sNds T n k (opn T k)) M' → post M') → w_Pr_write_L45 post (n + 1) 131 t (nI k) M := by
    intro n
    induction n with
    | zero =>
      intro k L M hk h q
      have ek : k = T.nn := by omega
      subst ek
      obtain ⟨d1, d2, d3⟩ := opn_dp ok D (Nat.le_refl T.nn)
      unfold w_Pr_write_L45
      refine br_t (by rw [show rI M (t + 9) 0 = nI T.nn by rw [h.tx ht (c := 9) (by omega)]; exact R.nn]; exact Int32.le_refl _) ?_
      unfold w_Pr_closeSets
      refine ⟨21, p_close (f := none) R K0 ht ok.N (fun c hc => by cases hc) 20 (dO T (opn T T.nn)) _ _ L M d2 (Nat.le_refl _) (Dp.pt _ _ d1) d3 (Nat.le_refl _) (by omega) h (fun M1 h1 => q M1 ?_)⟩
      rw [Nat.sub_self] at h1
      exact h1
    | succ n ih =>
      intro k L M hk h q
      obtain ⟨d1, d2, d3⟩ := opn_dp ok D (k := k) (by omega)
      obtain ⟨m, hm⟩ := opn_pt ok (k := k) (by omega)
      obtain ⟨f1, f2⟩ := fa_dp ok (k := k) (by omega)
      have em : dO T (opn T k) = dO T (T.fa k) + m := dO_of (PtO.dp _ _ _ _ hm f1) (by
        have := dO_of (PtO.dp _ _ _ _ hm f1)
        have h3 : ∀ n o m, Dp T.fa o n → Dp T.fa o m → n = m := by
          intro n
          induction n with
          | zero =>
            intro o m h1 h2
            cases m with
            | zero => rfl
            | succ m => obtain ⟨a, ha, _⟩ := h2; rw [show o = none from h1] at ha; cases ha
          | succ n ihn =>
            intro o m h1 h2
            obtain ⟨a, rfl, h1⟩ := h1
            cases m with
            | zero => cases (show some a = none from h2)
            | succ m => obtain ⟨b, hb, h2⟩ := h2; cases hb; rw [ihn _ _ h1 h2]
        have := h3 _ _ _ d1 (PtO.dp _ _ _ _ hm f1)
        omega)
      unfold w_Pr_write_L45
      refine pk_le T.nn k (fun z => by omega) (fun _ => ?_) (by rw [h.tx ht (c := 9) (by omega)]; exact R.nn) rfl
      rw [nI_clamp (by omega), show rI M (t + 9 + 6) k = oI (T.fa k) by rw [show rI M (t + 9 + 6) = rI M0 (t + 15) from h.tx ht (c := 15) (by omega)]; exact R.fa k (by omega), show (rK M (t + 9 + 6)).2 = 100 by rw [h.kk]; exact K0.tl ht 15 100]
      refine ⟨vin (by omega), ?_⟩
      unfold w_Pr_closeSets
      refine ⟨21, p_close (f := T.fa k) R K0 ht ok.N (fun c hc => by have := (ok.N.fl k (by omega) c hc).1; omega) 20 m _ _ L M (by omega) (Nat.le_refl _) hm d3 (by omega) (by omega) h (fun M1 h1 => ?_)⟩
      rw [show dO T (opn T k) - m = dO T (T.fa k) by omega] at h1
      rw [sNds, show dO T (opn T k) - dO T (T.fa k) = m by omega] at q
      refine p_ind h1 (by omega) (fun M2 h2 => ?_)
      rw [show rI M2 (t + 9 + 4) k = nI (T.srt k) by rw [show rI M2 (t + 9 + 4) = rI M0 (t + 13) from h2.tx ht (c := 13) (by omega)]; exact R.srt k (by omega), show (rK M2 (t + 9 + 4)).2 = 100 by rw [h2.kk]; exact K0.tl ht 13 100]
      have ls := ok.N.sr k (by omega)
      unfold sNode at q
      refine ⟨vin (by omega), pk_ne (T.srt k) 2 (fun z => ?_) (fun z => ?_)⟩
      · have eo : opn T (k + 1) = T.fa k := by rw [opn, if_neg z]
        rw [if_neg z, if_neg z] at q
        refine p_rule R K0 ht ok (by omega) (by omega) h2 (fun M3 h3 => ?_)
        rw [nI_1]
        rw [← eo] at h3 q
        refine ih (k + 1) _ M3 (by omega) h3 (fun M4 h4 => q M4 ?_)
        simp only [List.append_assoc, eo] at h4 ⊢
        exact h4
      · have eo : opn T (k + 1) = some k := by rw [opn, if_pos z]
        rw [if_pos z, if_pos z] at q
        refine p_set R K0 ht ok (by omega) z (by omega) h2 (fun M3 h3 => ?_)
        rw [nI_1]
        have ed : dO T (opn T (k + 1)) = dO T (T.fa k) + 1 := by rw [eo]; exact dO_of ⟨k, rfl, f1⟩ (by omega)
        refine ih (k + 1) _ M3 (by omega) (by rw [ed, eo]; exact h3) (fun M4 h4 => q M4 ?_)
        rw [eo] at h4
        simp only [List.append_assoc] at h4 ⊢
        exact h4
  have att : ∀ n i L M, i + n = T.na → PCl M0 none 0 L M → (∀ M', PCl M0 none 0 (L ++ sAts T n i) M' → ∃ n9, w_Pr_write_L45 post n9 131 t 0 M') → w_Pr_write_L17 post (n + 1) 131 t (nI i) M := by
    intro n
    induction n with
    | zero =>
      intro i L M hi h q
      have ei : i = T.na := by omega
      subst ei
      unfold w_Pr_write_L17
      exact br_t (by rw [show rI M (t + 1) 0 = nI T.na by rw [h.tx ht (c := 1) (by omega)]; exact R.na]; exact Int32.le_refl _) (q M (by rw [sAts, List.append_nil]; exact h))
    | succ n ih =>
      intro i L M hi h q
      unfold w_Pr_write_L17
      rw [sAts] at q
      refine pk_le T.na i (fun z => by omega) (fun _ => ?_) (by rw [h.tx ht (c := 1) (by omega)]; exact R.na) rfl
      refine p_att R K0 ht (by omega) h (fun M1 h1 => ?_)
      rw [nI_1]
      exact ih (i + 1) _ M1 (by omega) h1 (fun M2 h2 => q M2 (by rw [List.append_assoc] at h2; exact h2))
  unfold w_Pr_write w_Pr_write_J5 w_Pr_write_J10 w_Pr_write_J15
  refine ⟨T.na + 1, att T.na 0 [] _ (by omega) ⟨((FP.refl.w (by omega)).w (by omega)).w (by omega), K0, ?_, ?_, rw_ss, fun j hj => absurd hj (by rw [List.take_nil]; exact Nat.not_lt_zero _), hw⟩ (fun M1 h1 => ⟨T.nn + 1, ?_⟩)⟩
  · rw [rw_sn (by omega), rw_sn (by omega)]; exact rw_ss
  · rw [rw_sn (by omega)]; exact rw_ss
  · refine nod T.nn 0 (sAts T T.na 0) M1 (by omega) ?_ (fun M2 h2 => q M2 ?_)
    · have : dO T (opn T 0) = 0 := rfl
      rw [this]; exact h1
    · exact h2
end PN
