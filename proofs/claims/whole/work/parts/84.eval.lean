/-! TRUTHS of expressions; the class finds them. -/
def mis (T : Txt) (g : Nat → Nat) (a : Nat) : Bool := T.amust a && g a == 0
/-- the truth of a test -/
def tstV (T : Txt) (g : Nat → Nat) (p : Nat) : Nat :=
  if T.pk p = 16 then (if mis T g (T.pa p) = true then 2 else ((g (T.pa p)).testBit (T.pnum p)).toNat)
  else if T.pk p = 17 then (if mis T g (T.pa p) = true then 2 else (decide (g (T.pa p) &&& T.pnum p ≠ 0)).toNat)
  else if T.pk p = 18 then (if mis T g (T.pa p) = true then 2 else (decide (g (T.pa p) ||| T.pnum p = T.pnum p)).toNat)
  else if T.pk p = 19 then (if mis T g (T.pa p) = true ∨ mis T g (T.pnum p) = true then 2 else (decide (g (T.pa p) &&& g (T.pnum p) ≠ 0)).toNat)
  else if T.pk p = 20 then (if pc (g (T.pa p)) ≠ 1 then 2 else (decide (g (T.pa p) = 1 <<< T.pnum p)).toNat)
  else if T.pk p = 60 then (decide (pc (g (T.pa p)) < T.pnum p)).toNat
  else if T.pk p = 61 then (decide (pc (g (T.pa p)) = T.pnum p)).toNat
  else if T.pk p = 62 then (decide (T.pnum p < pc (g (T.pa p)))).toNat
  else (decide (g (T.pa p) = 0)).toNat
/-- members of a joint, as 'next' leads -/
def walk (T : Txt) : Nat → Option Nat → List Nat
  | 0, _ => []
  | _ + 1, none => []
  | n + 1, some c => c :: walk T n (T.pn c)
/-- one that settles settles; else an error is an error -/
def cmb (w : Nat) (vs : List Nat) : Nat := if w ∈ vs then w else if 2 ∈ vs then 2 else 1 - w
def neg (v : Nat) : Nat := if v = 2 then 2 else if v = 1 then 0 else 1
/-- the truth of part p, h steps down -/
def ev (T : Txt) (g : Nat → Nat) : Nat → Nat → Nat
  | 0, _ => 2
  | h + 1, p =>
    if T.pk p = 10 then cmb 1 ((walk T (T.pj p) (T.pf p)).map (ev T g h))
    else if T.pk p = 11 then cmb 0 ((walk T (T.pj p) (T.pf p)).map (ev T g h))
    else if T.pk p = 12 then neg (ev T g h ((T.pf p).getD 0))
    else if T.pk p = 13 then 1
    else if T.pk p = 14 then 0
    else if T.pk p = 15 then 2
    else tstV T g p
theorem ev_eq (T : Txt) (g : Nat → Nat) (h p : Nat) : ev T g (h + 1) p = (if T.pk p = 10 then cmb 1 ((walk T (T.pj p) (T.pf p)).map (ev T g h))
    else if T.pk p = 11 then cmb 0 ((walk T (T.pj p) (T.pf p)).map (ev T g h))
    else if T.pk p = 12 then neg (ev T g h ((T.pf p).getD 0))
    else if T.pk p = 13 then 1
    else if T.pk p = 14 then 0
    else if T.pk p = 15 then 2
    else tstV T g p) := by rw [ev]
theorem bN_le (b : Bool) : b.toNat ≤ 1 := by cases b <;> decide
theorem tstV_le (T : Txt) (g : Nat → Nat) (p : Nat) : tstV T g p ≤ 2 := by
  have h : ∀ b : Bool, b.toNat ≤ 2 := fun b => Nat.le_trans (bN_le b) (by omega)
  unfold tstV
  repeat (first | exact h _ | exact Nat.le_refl _ | split)
theorem cmb_le {w : Nat} (hw : w ≤ 2) (vs : List Nat) : cmb w vs ≤ 2 := by
  unfold cmb
  split
  · exact hw
  · split <;> omega
theorem neg_le (v : Nat) : neg v ≤ 2 := by
  unfold neg
  split
  · omega
  · split <;> omega
theorem ev_le (T : Txt) (g : Nat → Nat) (h p : Nat) : ev T g h p ≤ 2 := by
  cases h with
  | zero => exact Nat.le_refl _
  | succ h =>
    rw [ev]
    split
    · exact cmb_le (by omega) _
    · split
      · exact cmb_le (by omega) _
      · split
        · exact neg_le _
        · split
          · omega
          · split
            · omega
            · split
              · omega
              · exact tstV_le _ _ _
theorem walk_chn {T : Txt} : ∀ (ms : List Mb) (o : Option Nat) (lo : Nat), chn T o lo ms → walk T ms.length o = ms.map Prod.fst := by
  intro ms
  induction ms with
  | nil => intro o lo _; rfl
  | cons m l ih =>
    intro o lo h
    obtain ⟨h1, _, _, _, h5⟩ := h
    subst h1
    show m.1 :: walk T l.length (T.pn m.1) = m.1 :: l.map Prod.fst
    rw [ih _ _ h5]
/-- further steps change nothing -/
theorem ev_up {T : Txt} {g : Nat → Nat} : ∀ (h lo hi p : Nat) (seg : List Nat), EX T h lo hi p seg → ev T g (h + 1) p = ev T g h p := by
  intro h
  induction h with
  | zero => intro lo hi p seg e; exact e.elim
  | succ h ih =>
    intro lo hi p seg e
    obtain ⟨e1, e2, e3⟩ := e
    rw [ev_eq T g (h + 1) p, ev_eq T g h p]
    rcases e3 with ⟨a1, a2⟩ | ⟨a1, a2, c, lo', hi', sg, a3, a4, a5, a6, a7, a8⟩ | ⟨a1, ms, a2, a3, a4, a5, a6⟩
    · have hk : T.pk p ≠ 10 ∧ T.pk p ≠ 11 ∧ T.pk p ≠ 12 := by
        rcases a1 with b | ⟨_, b | b | b | b | b⟩ <;> omega
      rw [if_neg hk.1, if_neg hk.2.1, if_neg hk.2.2, if_neg hk.1, if_neg hk.2.1, if_neg hk.2.2]
    · rw [if_neg (by omega), if_neg (by omega), if_pos a1, if_neg (by omega), if_neg (by omega), if_pos a1, a3]
      show neg (ev T g (h + 1) c) = neg (ev T g h c)
      rw [ih _ _ _ _ a7]
    · have hm : (walk T (T.pj p) (T.pf p)).map (ev T g (h + 1)) = (walk T (T.pj p) (T.pf p)).map (ev T g h) := by
        rw [← a3, walk_chn ms _ _ a4, List.map_map, List.map_map]
        apply List.map_congr_left
        intro m hm
        exact ih _ _ _ _ (a5 m hm).2.2
      rw [hm]
      rcases a1 with z | z
      · rw [if_pos z, if_pos z]
      · rw [if_neg (by omega), if_pos z, if_neg (by omega), if_pos z]
theorem ev_ge {T : Txt} {g : Nat → Nat} {h h' lo hi p : Nat} {seg : List Nat} (e : EX T h lo hi p seg) (hh : h ≤ h') : ev T g h' p = ev T g h p := by
  induction hh with
  | refl => rfl
  | @step m hm ih => rw [ev_up _ _ _ _ _ (EX_le e hm), ih]
/-- bags of a request, in a row -/
def BG (M : aM) (k1 : Nat) (T : Txt) (g : Nat → Nat) : Prop := ((rK M k1).2 = 8) ∧ (∀ i, i < T.na → rI M k1 i = nI (g i)) ∧ (∀ i, g i < 256)
theorem BG.K {M : aM} {k1 : Nat} {T : Txt} {g : Nat → Nat} (h : BG M k1 T g) : (rK M k1).2 = 8 := h.1
theorem BG.b {M : aM} {k1 : Nat} {T : Txt} {g : Nat → Nat} (h : BG M k1 T g) : ∀ i, i < T.na → rI M k1 i = nI (g i) := h.2.1
theorem BG.lt {M : aM} {k1 : Nat} {T : Txt} {g : Nat → Nat} (h : BG M k1 T g) : ∀ i, g i < 256 := h.2.2
section EV
variable {M : aM} {t k1 : Nat} {T : Txt} {g g0 : Nat → Nat}
theorem c_truthIf {post : Int32 → Prop} {b : Bool} {x : Int32} (p : post (nI b.toNat)) (hx : x = bI b := by rfl) : w_Vd_truthIf post x M := by
  subst hx
  unfold w_Vd_truthIf
  cases b with
  | false => exact br_t rfl p
  | true => exact br_f (by decide) p
theorem c_tst {post : Int32 → Prop} {p : Nat} (h : RepC (cR M t) T g0) (K : KOk (rK M)) (ht : tOk t) (B : BG M k1 T g) (hp : p < T.np) (hl : leafOk T p) (hc : T.pk p ≠ 13 ∧ T.pk p ≠ 14 ∧ T.pk p ≠ 15) (q : post (nI (tstV T g p))) : w_Vd_truthOfTest post (t + 1) k1 (t + 24) (nI p) M := by
  rcases hl with hl | ⟨ha, hl⟩
  · omega
  have lnp := h.lnp
  have lna := h.lna
  have ea : rI M (t + 26) p = nI (T.pa p) := h.pa p hp
  have en : rI M (t + 27) p = nI (T.pnum p) := h.pnum p hp
  have ek : rI M (t + 25) p = nI (T.pk p) := h.pk p hp
  have eu : ∀ i, i < T.na → rI M (t + 7) i = bI (T.amust i) := h.amust
  have k2 := K.tl ht 26 400
  have k3 := K.tl ht 27 400
  have k4 := K.tl ht 25 400
  have k7 := K.tl ht 7 8
  have hb := B.lt (T.pa p)
  have eb := B.b _ ha
  have hin : vp_in (nI p) 400 := vin (by omega)
  have hia : vp_in (nI (T.pa p)) 8 := vin (by omega)
  have hz : T.pk p = 16 ∨ T.pk p = 20 → T.asz (T.pa p) ≤ 8 := fun _ => h.lasz _ ha
  have hz8 := h.lasz _ ha
  unfold w_Vd_truthOfTest
  simp (disch := omega) only [Nat.add_assoc, Nat.reduceAdd, nI_clamp, ea, en, eb, k2, k3, B.K]
  refine ⟨hin, hin, hia, ?_⟩
  -- behind 'missing'
  have go : ∀ b : Bool, b = mis T g (T.pa p) → w_Vd_truthOfTest_J42 M post (t + 1) k1 (t + 24) (nI p) (nI (T.pnum p)) (nI (g (T.pa p))) (bI b) := by
    intro b hbm
    unfold w_Vd_truthOfTest_J42
    simp (disch := omega) only [Nat.add_assoc, Nat.reduceAdd, nI_clamp, ek, k4]
    refine ⟨hin, ?_⟩
    unfold tstV at q
    rw [← hbm] at q
    have hpk : T.pk p < 2 ^ 31 := by rcases hl with b | b | b | b | b <;> omega
    refine pk_eq (T.pk p) 16 (fun z => ?_) (fun z16 => ?_)
    · rw [if_pos z] at q
      have hv : T.pnum p < 8 := by rcases hl with b | b | b | b | b <;> omega
      refine pk_b0 b (fun zb => ?_) (fun zb => ?_)
      · rw [if_neg (by rw [zb]; simp)] at q
        rw [bit_get _ hb _ hv]
        refine pk_b0 ((g (T.pa p)).testBit (T.pnum p)) (fun zt => ?_) (fun zt => ?_)
        · unfold w_Vd_truthOfTest_J148
          rw [zt] at q
          exact c_truthIf (b := false) q
        · unfold w_Vd_truthOfTest_J148
          rw [zt] at q
          exact c_truthIf (b := true) q
      · rw [if_pos zb] at q
        exact q
    rw [if_neg z16] at q
    refine pk_eq (T.pk p) 17 (fun z => ?_) (fun z17 => ?_)
    · rw [if_pos z] at q
      refine pk_b0 b (fun zb => ?_) (fun zb => ?_)
      · rw [if_neg (by rw [zb]; simp)] at q
        rw [nI_and]
        have hlt := and_lt (b := T.pnum p) hb
        refine pk_eq (g (T.pa p) &&& T.pnum p) 0 (fun zt => ?_) (fun zt => ?_)
        · unfold w_Vd_truthOfTest_J174
          rw [decide_eq_false (fun w => w zt)] at q
          exact c_truthIf (b := false) q
        · unfold w_Vd_truthOfTest_J174
          rw [decide_eq_true zt] at q
          exact c_truthIf (b := true) q
      · rw [if_pos zb] at q
        exact q
    rw [if_neg z17] at q
    refine pk_eq (T.pk p) 18 (fun z => ?_) (fun z18 => ?_)
    · rw [if_pos z] at q
      have hv : T.pnum p < 256 := by rcases hl with b | b | b | b | b <;> omega
      refine pk_b0 b (fun zb => ?_) (fun zb => ?_)
      · rw [if_neg (by rw [zb]; simp)] at q
        by_cases w : g (T.pa p) ||| T.pnum p = T.pnum p
        · refine nb_t ((only8 _ hb _ hv).2 w) ?_
          unfold w_Vd_truthOfTest_J202
          rw [decide_eq_true w] at q
          exact c_truthIf (b := true) q
        · refine nb_f (fun e => w ((only8 _ hb _ hv).1 e)) ?_
          unfold w_Vd_truthOfTest_J202
          rw [decide_eq_false w] at q
          exact c_truthIf (b := false) q
      · rw [if_pos zb] at q
        exact q
    rw [if_neg z18] at q
    refine pk_eq (T.pk p) 19 (fun z => ?_) (fun z19 => ?_)
    · rw [if_pos z] at q
      have hv : T.pnum p < T.na := by rcases hl with b | b | b | b | b <;> omega
      have eb2 := B.b _ hv
      have hb2 := B.lt (T.pnum p)
      have hi2 : vp_in (nI (T.pnum p)) 8 := vin (by omega)
      simp (disch := omega) only [Nat.add_assoc, Nat.reduceAdd, nI_clamp, eb2, B.K, eu _ hv, k7]
      refine ⟨hi2, ?_⟩
      have J : ∀ b2 : Bool, b2 = mis T g (T.pnum p) → w_Vd_truthOfTest_J228 M post k1 (nI (T.pnum p)) (nI (g (T.pa p))) (bI b) (bI b2) := by
        intro b2 hb2m
        rw [← hb2m] at q
        unfold w_Vd_truthOfTest_J228
        simp (disch := omega) only [nI_clamp, eb2, B.K]
        refine pk_nb0 b (fun zb => ?_) (fun zb => ?_)
        · rw [if_pos (Or.inl zb)] at q
          exact q
        · refine pk_b0 b2 (fun zb2 => ?_) (fun zb2 => ?_)
          · rw [if_neg (by rw [zb, zb2]; simp)] at q
            refine ⟨hi2, ?_⟩
            rw [nI_and]
            have hlt := and_lt (b := g (T.pnum p)) hb
            refine pk_eq (g (T.pa p) &&& g (T.pnum p)) 0 (fun zt => ?_) (fun zt => ?_)
            · unfold w_Vd_truthOfTest_J259
              rw [decide_eq_false (fun w => w zt)] at q
              exact c_truthIf (b := false) q
            · unfold w_Vd_truthOfTest_J259
              rw [decide_eq_true zt] at q
              exact c_truthIf (b := true) q
          · rw [if_pos (Or.inr zb2)] at q
            exact q
      refine pk_ne (g (T.pnum p)) 0 (fun zg => ?_) (fun zg => ?_)
      · unfold w_Vd_truthOfTest_J227
        exact J false (by unfold mis; simp [zg])
      · refine ⟨hi2, ?_⟩
        refine pk_b0 (T.amust (T.pnum p)) (fun zm => ?_) (fun zm => ?_)
        · unfold w_Vd_truthOfTest_J227
          exact J false (by unfold mis; simp [zm])
        · exact J true (by unfold mis; simp [zm, zg])
    rw [if_neg z19] at q
    refine pk_eq (T.pk p) 20 (fun z => ?_) (fun z20 => ?_)
    · rw [if_pos z] at q
      have hv : T.pnum p < 8 := by rcases hl with b | b | b | b | b <;> omega
      have hpc := pc_le (g (T.pa p))
      refine c_bits hb ?_
      refine pk_eq (pc (g (T.pa p))) 1 (fun z1 => ?_) (fun z1 => ?_)
      · rw [if_neg (fun w => w z1)] at q
        have hs := shl1 _ hv
        rw [hs.1]
        have hs2 := hs.2
        refine pk_ne (g (T.pa p)) (1 <<< T.pnum p) (fun zt => ?_) (fun zt => ?_)
        · unfold w_Vd_truthOfTest_J347
          rw [decide_eq_false zt] at q
          exact c_truthIf (b := false) q
        · unfold w_Vd_truthOfTest_J347
          rw [decide_eq_true zt] at q
          exact c_truthIf (b := true) q
      · rw [if_pos z1] at q
        exact q
    rw [if_neg z20] at q
    refine pk_eq (T.pk p) 60 (fun z => ?_) (fun z60 => ?_)
    · rw [if_pos z] at q
      have hv : T.pnum p < 1000 := by rcases hl with b | b | b | b | b <;> omega
      have hpc := pc_le (g (T.pa p))
      refine c_bits hb ?_
      refine pk_le (T.pnum p) (pc (g (T.pa p))) (fun zt => ?_) (fun zt => ?_)
      · unfold w_Vd_truthOfTest_J278
        rw [decide_eq_false (show ¬ pc (g (T.pa p)) < T.pnum p by omega)] at q
        exact c_truthIf (b := false) q
      · unfold w_Vd_truthOfTest_J278
        rw [decide_eq_true zt] at q
        exact c_truthIf (b := true) q
    rw [if_neg z60] at q
    refine pk_eq (T.pk p) 61 (fun z => ?_) (fun z61 => ?_)
    · rw [if_pos z] at q
      have hv : T.pnum p < 1000 := by rcases hl with b | b | b | b | b <;> omega
      have hpc := pc_le (g (T.pa p))
      refine c_bits hb ?_
      refine pk_ne (pc (g (T.pa p))) (T.pnum p) (fun zt => ?_) (fun zt => ?_)
      · unfold w_Vd_truthOfTest_J297
        rw [decide_eq_false zt] at q
        exact c_truthIf (b := false) q
      · unfold w_Vd_truthOfTest_J297
        rw [decide_eq_true zt] at q
        exact c_truthIf (b := true) q
    rw [if_neg z61] at q
    refine pk_eq (T.pk p) 62 (fun z => ?_) (fun z62 => ?_)
    · rw [if_pos z] at q
      have hv : T.pnum p < 1000 := by rcases hl with b | b | b | b | b <;> omega
      have hpc := pc_le (g (T.pa p))
      refine c_bits hb ?_
      refine pk_le (pc (g (T.pa p))) (T.pnum p) (fun zt => ?_) (fun zt => ?_)
      · unfold w_Vd_truthOfTest_J316
        rw [decide_eq_false (show ¬ T.pnum p < pc (g (T.pa p)) by omega)] at q
        exact c_truthIf (b := false) q
      · unfold w_Vd_truthOfTest_J316
        rw [decide_eq_true zt] at q
        exact c_truthIf (b := true) q
    rw [if_neg z62] at q
    refine pk_ne (g (T.pa p)) 0 (fun zt => ?_) (fun zt => ?_)
    · unfold w_Vd_truthOfTest_J361
      rw [decide_eq_false zt] at q
      exact c_truthIf (b := false) q
    · unfold w_Vd_truthOfTest_J361
      rw [decide_eq_true zt] at q
      exact c_truthIf (b := true) q
  refine pk_ne (g (T.pa p)) 0 (fun zg => ?_) (fun zg => ?_)
  · unfold w_Vd_truthOfTest_J41
    exact go false (by unfold mis; simp [zg])
  · simp (disch := omega) only [eu _ ha, k7]
    refine ⟨hia, ?_⟩
    refine pk_b0 (T.amust (T.pa p)) (fun zm => ?_) (fun zm => ?_)
    · unfold w_Vd_truthOfTest_J41
      exact go false (by unfold mis; simp [zm])
    · exact go true (by unfold mis; simp [zm, zg])
/-- the class finds the truth of a tree -/
theorem c_truth (h : RepC (cR M t) T g0) (K : KOk (rK M)) (ht : tOk t) (B : BG M k1 T g) : ∀ (hh L D lo hi p : Nat) (seg : List Nat) (post : Int32 → Prop), EX T hh lo hi p seg → hi ≤ T.np → L + hh ≤ 43 → 2 * hh ≤ D → post (nI (ev T g hh p)) → (S_Vt D).1 post t k1 (nI p) (nI L) M := by
  have lnp := h.lnp
  have k1' := K.tl ht 25 400
  have k5 := K.tl ht 29 400
  have k4 := K.tl ht 28 400
  have k6 := K.tl ht 30 400
  intro hh
  induction hh with
  | zero => intro L D lo hi p seg post e; exact e.elim
  | succ hh ih =>
    intro L D lo hi p seg post e hhi hL hD q
    obtain ⟨e1, e2, e3⟩ := e
    have hp : p < T.np := by omega
    have hin : vp_in (nI p) 400 := vin (by omega)
    obtain ⟨D, rfl⟩ : ∃ D', D = D' + 1 + 1 := ⟨D - 2, by omega⟩
    have ek : rI M (t + 25) p = nI (T.pk p) := h.pk p hp
    have ef : rI M (t + 29) p = oI (T.pf p) := h.pf p hp
    have ej : rI M (t + 28) p = nI (T.pj p) := h.pj p hp
    have ep : ∀ i, i < T.np → rI M (t + 30) i = oI (T.pn i) := h.pn
    show w_Vd_truthOf_r (S_Vt (D + 1)).1 (S_Vt (D + 1)).2 post t k1 (nI p) (nI L) M
    unfold w_Vd_truthOf_r
    refine br_f (nI_pos (by omega)) ?_
    refine pk_le T.np p (fun z => by omega) (fun _ => ?_) h.np
    refine pk_lt L 43 (fun _ => ?_) (fun z => by omega)
    simp (disch := omega) only [Nat.add_assoc, Nat.reduceAdd, nI_clamp, ek, k1']
    refine ⟨hin, ?_⟩
    rw [ev] at q
    have hpk : T.pk p < 2 ^ 31 := by
      rcases e3 with ⟨a1, _⟩ | ⟨a1, _⟩ | ⟨a1, _⟩
      · rcases a1 with b | ⟨_, b | b | b | b | b⟩ <;> omega
      · omega
      · omega
    -- a joint
    have jt : ∀ w : Nat, w ≤ 1 → T.pk p = 10 ∨ T.pk p = 11 → post (nI (cmb w ((walk T (T.pj p) (T.pf p)).map (ev T g hh)))) → (S_Vt (D + 1)).2 post t k1 (nI p) (nI w) (nI L) M := by
      intro w hw hk qj
      rcases e3 with ⟨a1, _⟩ | ⟨a1, _⟩ | ⟨a1, ms, a2, a3, a4, a5, a6⟩
      · exfalso
        rcases a1 with b | ⟨_, b | b | b | b | b⟩ <;> omega
      · omega
      · have hlen : ms.length ≤ 400 := by
          -- members lie one behind the other
          have : ∀ (ms : List Mb) (o : Option Nat) (lo : Nat), chn T o lo ms → (∀ m, m ∈ ms → m.2.1.2 ≤ hi) → lo ≤ hi → lo + ms.length ≤ hi := by
            intro ms
            induction ms with
            | nil => intro o lo _ _ h; exact h
            | cons m l ihl =>
              intro o lo hc hm _
              obtain ⟨c1, c2, c3, c4, c5⟩ := hc
              have := ihl _ _ c5 (fun m' hm' => hm m' (List.mem_cons_of_mem _ hm')) (hm m (List.mem_cons_self ..))
              show lo + (l.length + 1) ≤ hi
              omega
          have := this ms _ _ a4 (fun m hm => (a5 m hm).1) (by omega)
          omega
        show w_Vd_truthOfJoint_r (S_Vt D).1 (S_Vt D).2 post t k1 (nI p) (nI w) (nI L) M
        have qj2 : post (nI (cmb w (ms.map (fun m => ev T g hh m.1)))) := by
          rw [← a3, walk_chn ms _ _ a4, List.map_map] at qj
          exact qj
        have J : w_Vd_truthOfJoint_J16 M post (S_Vt D).1 (S_Vt D).2 t k1 (nI p) (nI w) (nI L) (t + 24) (nI (1 - w)) := by
          unfold w_Vd_truthOfJoint_J16
          simp (disch := omega) only [Nat.add_assoc, Nat.reduceAdd, nI_clamp, ef, ej, k4, k5]
          refine ⟨hin, hin, ms.length + 1, ?_⟩
          rw [← a3]
          -- the members that are left, and those that are done
          have key : ∀ (l dn : List Mb) (o : Option Nat) (lo2 : Nat), ms = dn ++ l → chn T o lo2 l → w ∉ dn.map (fun m => ev T g hh m.1) → w_Vd_truthOfJoint_L36 M post (S_Vt D).1 (S_Vt D).2 (l.length + 1) t k1 (nI w) (nI L) (t + 24) (nI (if 2 ∈ dn.map (fun m => ev T g hh m.1) then 2 else 1 - w)) (oI o) (nI l.length) := by
            intro l
            induction l with
            | nil =>
              intro dn o lo2 hms hc hnw
              unfold w_Vd_truthOfJoint_L36
              refine br_t (by decide) ?_
              have e : ms = dn := by rw [hms, List.append_nil]
              rw [e] at qj2
              unfold cmb at qj2
              rw [if_neg hnw] at qj2
              exact qj2
            | cons m l ihl =>
              intro dn o lo2 hms hc hnw
              obtain ⟨c1, c2, c3, c4, c5⟩ := hc
              subst c1
              have hm : m ∈ ms := by rw [hms]; exact List.mem_append_right _ (List.mem_cons_self ..)
              obtain ⟨b1, b2, b3⟩ := a5 m hm
              have hl2 : ms.length = dn.length + (l.length + 1) := by rw [hms, List.length_append]; rfl
              have hmn : m.1 < T.np := by omega
              unfold w_Vd_truthOfJoint_L36
              refine pk_le (l.length + 1) 0 (fun z => by omega) (fun _ => ?_)
              refine br_f (show ¬ oI (some m.1) = -1 from nI_m1 (by omega)) ?_
              rw [nI_1]
              have ev2 := ev_le T g hh m.1
              refine ih (L + 1) D _ _ m.1 m.2.2 _ b3 (by omega) (by omega) (by omega) ?_
              have J77 : ∀ (x : Nat), w ∉ (dn ++ [m]).map (fun m => ev T g hh m.1) → x = (if 2 ∈ (dn ++ [m]).map (fun m => ev T g hh m.1) then 2 else 1 - w) → w_Vd_truthOfJoint_J77 M post (S_Vt D).1 (S_Vt D).2 (w_Vd_truthOfJoint_L36 M post (S_Vt D).1 (S_Vt D).2 (l.length + 1)) t k1 (nI w) (nI L) (t + 24) (nI x) (oI (some m.1)) (nI (l.length + 1)) := by
                intro x hx1 hx2
                unfold w_Vd_truthOfJoint_J77
                show vp_in (nI m.1) _ ∧ _
                have eo : (oI (some m.1)).toNatClampNeg = m.1 := nI_clamp (by omega)
                simp (disch := omega) only [Nat.add_assoc, Nat.reduceAdd, eo, ep _ hmn, k6, pk_m1]
                refine ⟨vin (by omega), ?_⟩
                rw [hx2]
                exact ihl (dn ++ [m]) _ _ (by rw [hms]; simp) c5 hx1
              refine pk_ne (ev T g hh m.1) w (fun zw => ?_) (fun zw => ?_)
              · have hx1 : w ∉ (dn ++ [m]).map (fun m => ev T g hh m.1) := by
                  rw [List.map_append]
                  intro hh2
                  rcases List.mem_append.1 hh2 with hh2 | hh2
                  · exact hnw hh2
                  · exact zw (List.mem_singleton.1 hh2).symm
                refine pk_ne (ev T g hh m.1) 2 (fun z2 => ?_) (fun z2 => ?_)
                · refine J77 _ hx1 ?_
                  have : (2 ∈ (dn ++ [m]).map (fun m => ev T g hh m.1)) ↔ 2 ∈ dn.map (fun m => ev T g hh m.1) := by
                    rw [List.map_append, List.mem_append]
                    constructor
                    · intro hh2
                      rcases hh2 with hh2 | hh2
                      · exact hh2
                      · exact absurd (List.mem_singleton.1 hh2).symm z2
                    · exact Or.inl
                  simp only [this]
                · have := J77 2 hx1 (by rw [if_pos]; rw [List.map_append]; exact List.mem_append_right _ (List.mem_singleton.2 z2.symm))
                  exact this
              · have : cmb w (ms.map (fun m => ev T g hh m.1)) = w := by
                  unfold cmb
                  rw [if_pos]
                  rw [← zw]
                  exact List.mem_map.2 ⟨m, hm, rfl⟩
                rw [this] at qj2
                exact qj2
          have := key ms [] _ _ rfl a4 (by simp)
          exact this
        unfold w_Vd_truthOfJoint_r
        refine pk_ne w 1 (fun zw => ?_) (fun zw => ?_)
        · have : w = 0 := by omega
          subst this
          exact J
        · subst zw
          exact J
    refine pk_eq (T.pk p) 10 (fun z => ?_) (fun z10 => ?_)
    · rw [if_pos z] at q
      exact jt 1 (by omega) (Or.inl z) q
    rw [if_neg z10] at q
    refine pk_eq (T.pk p) 11 (fun z => ?_) (fun z11 => ?_)
    · rw [if_pos z] at q
      exact jt 0 (by omega) (Or.inr z) q
    rw [if_neg z11] at q
    refine pk_eq (T.pk p) 12 (fun z => ?_) (fun z12 => ?_)
    · rw [if_pos z] at q
      rcases e3 with ⟨a1, _⟩ | ⟨a1, a2, c, lo', hi', sg, a3, a4, a5, a6, a7, a8⟩ | ⟨a1, _⟩
      · exfalso
        rcases a1 with b | ⟨_, b | b | b | b | b⟩ <;> omega
      · have hc := a7.in_
        rw [a3] at q
        have q2 : post (nI (neg (ev T g hh c))) := q
        have hev := ev_le T g hh c
        rw [ef, a3, nI_1, k5]
        refine ⟨hin, ?_⟩
        refine ih (L + 1) (D + 1) lo' hi' c sg _ a7 (by omega) (by omega) (by omega) ?_
        unfold neg at q2
        refine pk_ne (ev T g hh c) 2 (fun z2 => ?_) (fun z2 => ?_)
        · rw [if_neg z2] at q2
          refine pk_ne (ev T g hh c) 1 (fun z1 => ?_) (fun z1 => ?_)
          · rw [if_neg z1] at q2
            exact q2
          · rw [if_pos z1] at q2
            exact q2
        · rw [if_pos z2] at q2
          exact q2
      · omega
    rw [if_neg z12] at q
    refine pk_eq (T.pk p) 13 (fun z => ?_) (fun z13 => ?_)
    · rw [if_pos z] at q; exact q
    rw [if_neg z13] at q
    refine pk_eq (T.pk p) 14 (fun z => ?_) (fun z14 => ?_)
    · rw [if_pos z] at q; exact q
    rw [if_neg z14] at q
    refine pk_eq (T.pk p) 15 (fun z => ?_) (fun z15 => ?_)
    · rw [if_pos z] at q; exact q
    rw [if_neg z15] at q
    rcases e3 with ⟨a1, _⟩ | ⟨a1, _⟩ | ⟨a1, _⟩
    · exact c_tst h K ht B hp a1 ⟨z13, z14, z15⟩ q
    · omega
    · omega
end EV
