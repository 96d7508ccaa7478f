/-! Mirrors of the methods: what each asks and comes to (w_..), and that the abstract machine follows (g_..). -/
def pIn (M : aM) (post : Int32 → Prop) : Option aV → aM → Prop := fun r M1 => ∃ x, r = some (aI x) ∧ M1 = M ∧ post x
def pRn (t : Nat) (M : aM) (post : Nat → Prop) : Option aV → aM → Prop := fun r M1 => ∃ k, r = some (aR t k) ∧ M1 = M ∧ post k
def pVn (M : aM) (post : Prop) : Option aV → aM → Prop := fun r M1 => r = none ∧ M1 = M ∧ post
theorem gd_callN {d w q : Nat} {cd : List aC} {ow ml : Nat} {post : Option aV → aM → Prop} (hcd : tC q = cd) (how : tOwn q = ow) {pc : Nat} {L : List (Option aV)} {st rest as : List aV} {M : aM} {i : Instr} {len tg q1 : Nat} {v0 : Int32} {sw : List (Int32 × Nat)} {e0 : Nat}
    (hf : cd.find? (fun e => e.1 == pc) = some (e0, i, len, 0, v0, tg, sw)) (hk : aKind ow i = 1) (hc : aCallOf ow i st = some (q1, as, rest)) (hml : tMl q1 = ml) (hd : 1 ≤ d) (hw : ml + 19 ≤ w) (hrl : aWt rest ≤ 8) (hnj : aNoJ as = true) {K : Option aV → aM → Prop}
    (h1 : Gd (d - 1) (w - (ml + 19)) q1 K (0, aEnt q1 as, [], M)) (k : ∀ r M1, K r M1 → Gd d w q post (pc + 3, L, r.toList ++ rest, M1)) : Gd d w q post (pc, L, st, M) := by
  subst hml
  exact gd_call hcd how hf hk hc hd hw hrl hnj h1 k
theorem tc_1 : tC 1 = c1 := rfl
/-- PolicyJudge.fault()I -/
def w_J_fault (post : Int32 → Prop) (k0 : Nat) (M : aM) : Prop := post (rI M (k0 + 1) 1)
theorem g_J_fault {d w : Nat} (hd : 0 ≤ d) (hw : 0 ≤ w) {post : Int32 → Prop} {k0 : Nat} {M : aM} (h : w_J_fault post k0 M) : Gd d w 1 (pIn M post) (0, aEnt 1 [aR 10 k0], [], M) := by
  unfold w_J_fault at h
  show Gd d w 1 _ (0, [some (aR 10 k0)], [], M)
  refine gd_s (P := True ∧ True ∧ True ∧ True) (σ1 := (7, [some (aR 10 k0)], [aI (rI M (k0 + 1) 1)], M)) tc_1 rfl 3 (fun u => ⟨_, rfl⟩) ⟨trivial, trivial, trivial, trivial⟩ ?_
  exact gd_ret tc_1 rfl rfl trivial (fun _ => rfl) ⟨_, rfl, rfl, h⟩
theorem tc_58 : tC 58 = c58 := rfl
def w_Tp_append_L3 (post : aM → Prop) : Nat → Nat → Int32 → Int32 → aM → Prop
  | 0, _, _, _, _ => False
  | n + 1, k0, v1, v2, M => ((v2 < ((0 : Int32))) → post M) ∧ (¬ (v2 < ((0 : Int32))) → ((((6000 : Int32)) ≤ (rI M k0 1)) → post M) ∧ (¬ (((6000 : Int32)) ≤ (rI M k0 1)) → (vp_in (rI M k0 1) (rK M (k0 + 1)).2) ∧ (w_Tp_append_L3 post n k0 v1 (v2 + (-8 : Int32)) (wI (wI M (k0 + 1) (rI M k0 1).toNatClampNeg (((v1.toUInt32 >>> (v2.toUInt32 &&& Int32.toUInt32 31)).toInt32) &&& ((255 : Int32)))) k0 1 ((rI (wI M (k0 + 1) (rI M k0 1).toNatClampNeg (((v1.toUInt32 >>> (v2.toUInt32 &&& Int32.toUInt32 31)).toInt32) &&& ((255 : Int32)))) k0 1) + ((1 : Int32)))))))
theorem g_Tp_append_L3 {d w : Nat} (hd : 0 ≤ d) (hw : 0 ≤ w) {post : aM → Prop} : ∀ (n : Nat) (k0 : Nat) (v1 : Int32) (v2 : Int32) (M : aM), w_Tp_append_L3 post n k0 v1 v2 M → Gd d w 58 (pV post) (3, [some (aR 12 k0), some (aI v1), some (aI v2)], [], M) := by
  intro n
  induction n with
  | zero => intro k0 v1 v2 M h; exact h.elim
  | succ n ih =>
    intro k0 v1 v2 M h
    show Gd d w 58 _ (3, [some (aR 12 k0), some (aI v1), some (aI v2)], [], M)
    refine gd_s (P := True ∧ True) (σ1 := (4, [some (aR 12 k0), some (aI v1), some (aI v2)], [aI v2], M)) tc_58 rfl 1 (fun u => ⟨_, rfl⟩) ⟨trivial, trivial⟩ ?_
    refine gd_br (c := v2 < ((0 : Int32))) (st1 := []) tc_58 rfl rfl (fun _ => rfl) ⟨fun hc => ?_, fun hc => ?_⟩
    · have h := h.1 hc
      show Gd d w 58 _ (49, [some (aR 12 k0), some (aI v1), some (aI v2)], [], M)
      exact gd_ret tc_58 rfl rfl trivial (fun _ => rfl) ⟨rfl, h⟩
    · have h := h.2 hc
      show Gd d w 58 _ (7, [some (aR 12 k0), some (aI v1), some (aI v2)], [], M)
      refine gd_s (P := True ∧ True ∧ True ∧ True) (σ1 := (14, [some (aR 12 k0), some (aI v1), some (aI v2)], [aI ((6000 : Int32)), aI (rI M k0 1)], M)) tc_58 rfl 3 (fun u => ⟨_, rfl⟩) ⟨trivial, trivial, trivial, trivial⟩ ?_
      refine gd_br (c := ((6000 : Int32)) ≤ (rI M k0 1)) (st1 := []) tc_58 rfl rfl (fun _ => rfl) ⟨fun hc => ?_, fun hc => ?_⟩
      · have h := h.1 hc
        show Gd d w 58 _ (49, [some (aR 12 k0), some (aI v1), some (aI v2)], [], M)
        exact gd_ret tc_58 rfl rfl trivial (fun _ => rfl) ⟨rfl, h⟩
      · have h := h.2 hc
        show Gd d w 58 _ (17, [some (aR 12 k0), some (aI v1), some (aI v2)], [], M)
        obtain ⟨c0, h⟩ := h
        refine gd_s (P := True ∧ True ∧ True ∧ True ∧ True ∧ True ∧ True ∧ True ∧ True ∧ (vp_in (rI M k0 1) (rK M (k0 + 1)).2) ∧ True ∧ True ∧ True ∧ True ∧ True ∧ True ∧ True ∧ True ∧ True) (σ1 := (3, [some (aR 12 k0), some (aI v1), some (aI (v2 + (-8 : Int32)))], [], wI (wI M (k0 + 1) (rI M k0 1).toNatClampNeg (((v1.toUInt32 >>> (v2.toUInt32 &&& Int32.toUInt32 31)).toInt32) &&& ((255 : Int32)))) k0 1 ((rI (wI M (k0 + 1) (rI M k0 1).toNatClampNeg (((v1.toUInt32 >>> (v2.toUInt32 &&& Int32.toUInt32 31)).toInt32) &&& ((255 : Int32)))) k0 1) + ((1 : Int32))))) tc_58 rfl 18 (fun u => ⟨_, rfl⟩) ⟨trivial, trivial, trivial, trivial, trivial, trivial, trivial, trivial, trivial, c0, trivial, trivial, trivial, trivial, trivial, trivial, trivial, trivial, trivial⟩ ?_
        exact ih k0 v1 (v2 + (-8 : Int32)) (wI (wI M (k0 + 1) (rI M k0 1).toNatClampNeg (((v1.toUInt32 >>> (v2.toUInt32 &&& Int32.toUInt32 31)).toInt32) &&& ((255 : Int32)))) k0 1 ((rI (wI M (k0 + 1) (rI M k0 1).toNatClampNeg (((v1.toUInt32 >>> (v2.toUInt32 &&& Int32.toUInt32 31)).toInt32) &&& ((255 : Int32)))) k0 1) + ((1 : Int32)))) h
/-- PolicyJudge$Tape.append(I)V -/
def w_Tp_append (post : aM → Prop) (k0 : Nat) (v1 : Int32) (M : aM) : Prop := ∃ n9, w_Tp_append_L3 post n9 k0 v1 ((24 : Int32)) M
theorem g_Tp_append {d w : Nat} (hd : 0 ≤ d) (hw : 0 ≤ w) {post : aM → Prop} {k0 : Nat} {v1 : Int32} {M : aM} (h : w_Tp_append post k0 v1 M) : Gd d w 58 (pV post) (0, aEnt 58 [aR 12 k0, aI v1], [], M) := by
  unfold w_Tp_append at h
  show Gd d w 58 _ (0, [some (aR 12 k0), some (aI v1), none], [], M)
  refine gd_s (P := True ∧ True ∧ True) (σ1 := (3, [some (aR 12 k0), some (aI v1), some (aI ((24 : Int32)))], [], M)) tc_58 rfl 2 (fun u => ⟨_, rfl⟩) ⟨trivial, trivial, trivial⟩ ?_
  obtain ⟨n9, h⟩ := h
  exact g_Tp_append_L3 hd hw n9 k0 v1 ((24 : Int32)) M h
theorem tc_29 : tC 29 = c29 := rfl
/-- PolicyJudge$Reader.isFine()Z -/
def w_Rd_isFine (post : Int32 → Prop) (k0 : Nat) (M : aM) : Prop := ((¬ (rI M k0 1) = ((0 : Int32))) → (((0 : Int32)) = 0 ∨ ((0 : Int32)) = 1) ∧ post ((0 : Int32))) ∧ (¬ (¬ (rI M k0 1) = ((0 : Int32))) → (((1 : Int32)) = 0 ∨ ((1 : Int32)) = 1) ∧ post ((1 : Int32)))
theorem g_Rd_isFine {d w : Nat} (hd : 0 ≤ d) (hw : 0 ≤ w) {post : Int32 → Prop} {k0 : Nat} {M : aM} (h : w_Rd_isFine post k0 M) : Gd d w 29 (pIn M post) (0, aEnt 29 [aR 11 k0], [], M) := by
  unfold w_Rd_isFine at h
  show Gd d w 29 _ (0, [some (aR 11 k0)], [], M)
  refine gd_s (P := True ∧ True ∧ True) (σ1 := (4, [some (aR 11 k0)], [aI (rI M k0 1)], M)) tc_29 rfl 2 (fun u => ⟨_, rfl⟩) ⟨trivial, trivial, trivial⟩ ?_
  refine gd_br (c := ¬ (rI M k0 1) = ((0 : Int32))) (st1 := []) tc_29 rfl rfl (fun _ => rfl) ⟨fun hc => ?_, fun hc => ?_⟩
  · have h := h.1 hc
    show Gd d w 29 _ (11, [some (aR 11 k0)], [], M)
    refine gd_s (P := True ∧ True) (σ1 := (12, [some (aR 11 k0)], [aI ((0 : Int32))], M)) tc_29 rfl 1 (fun u => ⟨_, rfl⟩) ⟨trivial, trivial⟩ ?_
    exact gd_ret tc_29 rfl rfl h.1 (fun _ => rfl) ⟨_, rfl, rfl, h.2⟩
  · have h := h.2 hc
    show Gd d w 29 _ (7, [some (aR 11 k0)], [], M)
    refine gd_s (P := True ∧ True ∧ True) (σ1 := (12, [some (aR 11 k0)], [aI ((1 : Int32))], M)) tc_29 rfl 2 (fun u => ⟨_, rfl⟩) ⟨trivial, trivial, trivial⟩ ?_
    exact gd_ret tc_29 rfl rfl h.1 (fun _ => rfl) ⟨_, rfl, rfl, h.2⟩
theorem tc_30 : tC 30 = c30 := rfl
/-- PolicyJudge$Reader.token()I -/
def w_Rd_token (post : Int32 → Prop) (k0 : Nat) (M : aM) : Prop := (vp_in (rI M k0 4) (rK M ((k0 + 1) + 2)).2) ∧ post (rI M ((k0 + 1) + 2) (rI M k0 4).toNatClampNeg)
theorem g_Rd_token {d w : Nat} (hd : 0 ≤ d) (hw : 0 ≤ w) {post : Int32 → Prop} {k0 : Nat} {M : aM} (h : w_Rd_token post k0 M) : Gd d w 30 (pIn M post) (0, aEnt 30 [aR 11 k0], [], M) := by
  unfold w_Rd_token at h
  show Gd d w 30 _ (0, [some (aR 11 k0)], [], M)
  obtain ⟨c0, h⟩ := h
  refine gd_s (P := True ∧ True ∧ True ∧ True ∧ True ∧ (vp_in (rI M k0 4) (rK M ((k0 + 1) + 2)).2) ∧ True) (σ1 := (12, [some (aR 11 k0)], [aI (rI M ((k0 + 1) + 2) (rI M k0 4).toNatClampNeg)], M)) tc_30 rfl 6 (fun u => ⟨_, rfl⟩) ⟨trivial, trivial, trivial, trivial, trivial, c0, trivial⟩ ?_
  exact gd_ret tc_30 rfl rfl trivial (fun _ => rfl) ⟨_, rfl, rfl, h⟩
theorem tc_32 : tC 32 = c32 := rfl
def w_Rd_refuse_J31 (post : aM → Prop) (k0 : Nat) (t0 : Nat) (s1 : Int32) (M : aM) : Prop := (vp_in (rI (wI M t0 1 s1) k0 4) (rK M ((k0 + 1) + 3)).2) ∧ post (wI (wI M t0 1 s1) k0 2 (rI (wI M t0 1 s1) ((k0 + 1) + 3) (rI (wI M t0 1 s1) k0 4).toNatClampNeg))
theorem g_Rd_refuse_J31 {d w : Nat} (hd : 0 ≤ d) (hw : 0 ≤ w) {post : aM → Prop} (k0 : Nat) (t0 : Nat) (s1 : Int32) (o1 : Option aV) (M : aM) (h : w_Rd_refuse_J31 post k0 t0 s1 M) : Gd d w 32 (pV post) (31, [some (aR 11 k0), o1], [aI s1, aR 11 t0], M) := by
  unfold w_Rd_refuse_J31 at h
  show Gd d w 32 _ (31, [some (aR 11 k0), o1], [aI s1, aR 11 t0], M)
  obtain ⟨c0, h⟩ := h
  refine gd_s (P := True ∧ True ∧ True ∧ True ∧ True ∧ True ∧ True ∧ (vp_in (rI (wI M t0 1 s1) k0 4) (rK M ((k0 + 1) + 3)).2) ∧ True ∧ True) (σ1 := (50, [some (aR 11 k0), o1], [], wI (wI M t0 1 s1) k0 2 (rI (wI M t0 1 s1) ((k0 + 1) + 3) (rI (wI M t0 1 s1) k0 4).toNatClampNeg))) tc_32 rfl 9 (fun u => ⟨_, rfl⟩) ⟨trivial, trivial, trivial, trivial, trivial, trivial, trivial, c0, trivial, trivial⟩ ?_
  exact gd_ret tc_32 rfl rfl trivial (fun _ => rfl) ⟨rfl, h⟩
/-- PolicyJudge$Reader.refuse(I)V -/
def w_Rd_refuse (post : aM → Prop) (k0 : Nat) (v1 : Int32) (M : aM) : Prop := ((¬ (rI M k0 1) = ((0 : Int32))) → post M) ∧ (¬ (¬ (rI M k0 1) = ((0 : Int32))) → (vp_in (rI M k0 4) (rK M ((k0 + 1) + 2)).2) ∧ (((¬ (rI M ((k0 + 1) + 2) (rI M k0 4).toNatClampNeg) = ((131 : Int32))) → w_Rd_refuse_J31 post k0 k0 v1 M) ∧ (¬ (¬ (rI M ((k0 + 1) + 2) (rI M k0 4).toNatClampNeg) = ((131 : Int32))) → w_Rd_refuse_J31 post k0 k0 ((1 : Int32)) M)))
theorem g_Rd_refuse {d w : Nat} (hd : 0 ≤ d) (hw : 0 ≤ w) {post : aM → Prop} {k0 : Nat} {v1 : Int32} {M : aM} (h : w_Rd_refuse post k0 v1 M) : Gd d w 32 (pV post) (0, aEnt 32 [aR 11 k0, aI v1], [], M) := by
  unfold w_Rd_refuse at h
  show Gd d w 32 _ (0, [some (aR 11 k0), some (aI v1)], [], M)
  refine gd_s (P := True ∧ True ∧ True) (σ1 := (4, [some (aR 11 k0), some (aI v1)], [aI (rI M k0 1)], M)) tc_32 rfl 2 (fun u => ⟨_, rfl⟩) ⟨trivial, trivial, trivial⟩ ?_
  refine gd_br (c := ¬ (rI M k0 1) = ((0 : Int32))) (st1 := []) tc_32 rfl rfl (fun _ => rfl) ⟨fun hc => ?_, fun hc => ?_⟩
  · have h := h.1 hc
    show Gd d w 32 _ (50, [some (aR 11 k0), some (aI v1)], [], M)
    exact gd_ret tc_32 rfl rfl trivial (fun _ => rfl) ⟨rfl, h⟩
  · have h := h.2 hc
    show Gd d w 32 _ (7, [some (aR 11 k0), some (aI v1)], [], M)
    obtain ⟨c0, h⟩ := h
    refine gd_s (P := True ∧ True ∧ True ∧ True ∧ True ∧ True ∧ (vp_in (rI M k0 4) (rK M ((k0 + 1) + 2)).2) ∧ True ∧ True) (σ1 := (23, [some (aR 11 k0), some (aI v1)], [aI ((131 : Int32)), aI (rI M ((k0 + 1) + 2) (rI M k0 4).toNatClampNeg), aR 11 k0], M)) tc_32 rfl 8 (fun u => ⟨_, rfl⟩) ⟨trivial, trivial, trivial, trivial, trivial, trivial, c0, trivial, trivial⟩ ?_
    refine gd_br (c := ¬ (rI M ((k0 + 1) + 2) (rI M k0 4).toNatClampNeg) = ((131 : Int32))) (st1 := [aR 11 k0]) tc_32 rfl rfl (fun _ => rfl) ⟨fun hc => ?_, fun hc => ?_⟩
    · have h := h.1 hc
      show Gd d w 32 _ (30, [some (aR 11 k0), some (aI v1)], [aR 11 k0], M)
      refine gd_s (P := True ∧ True) (σ1 := (31, [some (aR 11 k0), some (aI v1)], [aI v1, aR 11 k0], M)) tc_32 rfl 1 (fun u => ⟨_, rfl⟩) ⟨trivial, trivial⟩ ?_
      exact g_Rd_refuse_J31 hd hw k0 k0 v1 (some (aI v1)) M h
    · have h := h.2 hc
      show Gd d w 32 _ (26, [some (aR 11 k0), some (aI v1)], [aR 11 k0], M)
      refine gd_s (P := True ∧ True ∧ True) (σ1 := (31, [some (aR 11 k0), some (aI v1)], [aI ((1 : Int32)), aR 11 k0], M)) tc_32 rfl 2 (fun u => ⟨_, rfl⟩) ⟨trivial, trivial, trivial⟩ ?_
      exact g_Rd_refuse_J31 hd hw k0 k0 ((1 : Int32)) (some (aI v1)) M h
theorem tc_33 : tC 33 = c33 := rfl
/-- PolicyJudge$Reader.step()V -/
def w_Rd_step (post : aM → Prop) (k0 : Nat) (M : aM) : Prop := ((((rI M (k0 + 1) 5) - ((1 : Int32))) ≤ (rI M k0 4)) → post M) ∧ (¬ (((rI M (k0 + 1) 5) - ((1 : Int32))) ≤ (rI M k0 4)) → post (wI M k0 4 ((rI M k0 4) + ((1 : Int32)))))
theorem g_Rd_step {d w : Nat} (hd : 0 ≤ d) (hw : 0 ≤ w) {post : aM → Prop} {k0 : Nat} {M : aM} (h : w_Rd_step post k0 M) : Gd d w 33 (pV post) (0, aEnt 33 [aR 11 k0], [], M) := by
  unfold w_Rd_step at h
  show Gd d w 33 _ (0, [some (aR 11 k0)], [], M)
  refine gd_s (P := True ∧ True ∧ True ∧ True ∧ True ∧ True ∧ True ∧ True) (σ1 := (13, [some (aR 11 k0)], [aI ((rI M (k0 + 1) 5) - ((1 : Int32))), aI (rI M k0 4)], M)) tc_33 rfl 7 (fun u => ⟨_, rfl⟩) ⟨trivial, trivial, trivial, trivial, trivial, trivial, trivial, trivial⟩ ?_
  refine gd_br (c := ((rI M (k0 + 1) 5) - ((1 : Int32))) ≤ (rI M k0 4)) (st1 := []) tc_33 rfl rfl (fun _ => rfl) ⟨fun hc => ?_, fun hc => ?_⟩
  · have h := h.1 hc
    show Gd d w 33 _ (26, [some (aR 11 k0)], [], M)
    exact gd_ret tc_33 rfl rfl trivial (fun _ => rfl) ⟨rfl, h⟩
  · have h := h.2 hc
    show Gd d w 33 _ (16, [some (aR 11 k0)], [], M)
    refine gd_s (P := True ∧ True ∧ True ∧ True ∧ True ∧ True ∧ True) (σ1 := (26, [some (aR 11 k0)], [], wI M k0 4 ((rI M k0 4) + ((1 : Int32))))) tc_33 rfl 6 (fun u => ⟨_, rfl⟩) ⟨trivial, trivial, trivial, trivial, trivial, trivial, trivial⟩ ?_
    exact gd_ret tc_33 rfl rfl trivial (fun _ => rfl) ⟨rfl, h⟩
theorem tc_34 : tC 34 = c34 := rfl
/-- PolicyJudge$Reader.tokenValue()I -/
def w_Rd_tokenValue (post : Int32 → Prop) (k0 : Nat) (M : aM) : Prop := (vp_in (rI M k0 4) (rK M ((k0 + 1) + 4)).2) ∧ post (rI M ((k0 + 1) + 4) (rI M k0 4).toNatClampNeg)
theorem g_Rd_tokenValue {d w : Nat} (hd : 0 ≤ d) (hw : 0 ≤ w) {post : Int32 → Prop} {k0 : Nat} {M : aM} (h : w_Rd_tokenValue post k0 M) : Gd d w 34 (pIn M post) (0, aEnt 34 [aR 11 k0], [], M) := by
  unfold w_Rd_tokenValue at h
  show Gd d w 34 _ (0, [some (aR 11 k0)], [], M)
  obtain ⟨c0, h⟩ := h
  refine gd_s (P := True ∧ True ∧ True ∧ True ∧ True ∧ (vp_in (rI M k0 4) (rK M ((k0 + 1) + 4)).2) ∧ True) (σ1 := (12, [some (aR 11 k0)], [aI (rI M ((k0 + 1) + 4) (rI M k0 4).toNatClampNeg)], M)) tc_34 rfl 6 (fun u => ⟨_, rfl⟩) ⟨trivial, trivial, trivial, trivial, trivial, c0, trivial⟩ ?_
  exact gd_ret tc_34 rfl rfl trivial (fun _ => rfl) ⟨_, rfl, rfl, h⟩
theorem tc_35 : tC 35 = c35 := rfl
/-- PolicyJudge$Reader.skip(I)Z -/
def w_Rd_skip (post : Int32 → aM → Prop) (k0 : Nat) (v1 : Int32) (M : aM) : Prop := w_Rd_token (fun x1 => ((x1 = v1) → w_Rd_step (fun M2 => (((1 : Int32)) = 0 ∨ ((1 : Int32)) = 1) ∧ post ((1 : Int32)) M2) k0 M) ∧ (¬ (x1 = v1) → (((0 : Int32)) = 0 ∨ ((0 : Int32)) = 1) ∧ post ((0 : Int32)) M)) k0 M
theorem g_Rd_skip {d w : Nat} (hd : 1 ≤ d) (hw : 20 ≤ w) {post : Int32 → aM → Prop} {k0 : Nat} {v1 : Int32} {M : aM} (h : w_Rd_skip post k0 v1 M) : Gd d w 35 (pI post) (0, aEnt 35 [aR 11 k0, aI v1], [], M) := by
  unfold w_Rd_skip at h
  show Gd d w 35 _ (0, [some (aR 11 k0), some (aI v1)], [], M)
  refine gd_s (P := True ∧ True) (σ1 := (1, [some (aR 11 k0), some (aI v1)], [aR 11 k0], M)) tc_35 rfl 1 (fun u => ⟨_, rfl⟩) ⟨trivial, trivial⟩ ?_
  refine gd_callN (ml := 1) (as := [aR 11 k0]) (rest := []) tc_35 rfl rfl rfl rfl rfl (by omega) (by omega) (Nat.le_of_ble_eq_true rfl) rfl (g_Rd_token (by omega) (by omega) h) (fun r9 M9 h => ?_)
  obtain ⟨x1, rfl, e9, h⟩ := h
  subst M9
  show Gd d w 35 _ (4, [some (aR 11 k0), some (aI v1)], [aI x1], M)
  refine gd_s (P := True ∧ True) (σ1 := (5, [some (aR 11 k0), some (aI v1)], [aI v1, aI x1], M)) tc_35 rfl 1 (fun u => ⟨_, rfl⟩) ⟨trivial, trivial⟩ ?_
  refine gd_br (c := x1 = v1) (st1 := []) tc_35 rfl rfl (fun _ => rfl) ⟨fun hc => ?_, fun hc => ?_⟩
  · have h := h.1 hc
    show Gd d w 35 _ (10, [some (aR 11 k0), some (aI v1)], [], M)
    refine gd_s (P := True ∧ True) (σ1 := (11, [some (aR 11 k0), some (aI v1)], [aR 11 k0], M)) tc_35 rfl 1 (fun u => ⟨_, rfl⟩) ⟨trivial, trivial⟩ ?_
    refine gd_callN (ml := 1) (as := [aR 11 k0]) (rest := []) tc_35 rfl rfl rfl rfl rfl (by omega) (by omega) (Nat.le_of_ble_eq_true rfl) rfl (g_Rd_step (by omega) (by omega) h) (fun r9 M2 h => ?_)
    obtain ⟨rfl, h⟩ := h
    show Gd d w 35 _ (14, [some (aR 11 k0), some (aI v1)], [], M2)
    refine gd_s (P := True ∧ True) (σ1 := (15, [some (aR 11 k0), some (aI v1)], [aI ((1 : Int32))], M2)) tc_35 rfl 1 (fun u => ⟨_, rfl⟩) ⟨trivial, trivial⟩ ?_
    exact gd_ret tc_35 rfl rfl h.1 (fun _ => rfl) ⟨_, rfl, h.2⟩
  · have h := h.2 hc
    show Gd d w 35 _ (8, [some (aR 11 k0), some (aI v1)], [], M)
    refine gd_s (P := True ∧ True) (σ1 := (9, [some (aR 11 k0), some (aI v1)], [aI ((0 : Int32))], M)) tc_35 rfl 1 (fun u => ⟨_, rfl⟩) ⟨trivial, trivial⟩ ?_
    exact gd_ret tc_35 rfl rfl h.1 (fun _ => rfl) ⟨_, rfl, h.2⟩
theorem tc_36 : tC 36 = c36 := rfl
/-- PolicyJudge$Reader.require(I)V -/
def w_Rd_require (post : aM → Prop) (k0 : Nat) (v1 : Int32) (M : aM) : Prop := w_Rd_token (fun x1 => ((¬ x1 = v1) → w_Rd_refuse (fun M2 => post M2) k0 ((2 : Int32)) M) ∧ (¬ (¬ x1 = v1) → w_Rd_step (fun M3 => post M3) k0 M)) k0 M
theorem g_Rd_require {d w : Nat} (hd : 1 ≤ d) (hw : 21 ≤ w) {post : aM → Prop} {k0 : Nat} {v1 : Int32} {M : aM} (h : w_Rd_require post k0 v1 M) : Gd d w 36 (pV post) (0, aEnt 36 [aR 11 k0, aI v1], [], M) := by
  unfold w_Rd_require at h
  show Gd d w 36 _ (0, [some (aR 11 k0), some (aI v1)], [], M)
  refine gd_s (P := True ∧ True) (σ1 := (1, [some (aR 11 k0), some (aI v1)], [aR 11 k0], M)) tc_36 rfl 1 (fun u => ⟨_, rfl⟩) ⟨trivial, trivial⟩ ?_
  refine gd_callN (ml := 1) (as := [aR 11 k0]) (rest := []) tc_36 rfl rfl rfl rfl rfl (by omega) (by omega) (Nat.le_of_ble_eq_true rfl) rfl (g_Rd_token (by omega) (by omega) h) (fun r9 M9 h => ?_)
  obtain ⟨x1, rfl, e9, h⟩ := h
  subst M9
  show Gd d w 36 _ (4, [some (aR 11 k0), some (aI v1)], [aI x1], M)
  refine gd_s (P := True ∧ True) (σ1 := (5, [some (aR 11 k0), some (aI v1)], [aI v1, aI x1], M)) tc_36 rfl 1 (fun u => ⟨_, rfl⟩) ⟨trivial, trivial⟩ ?_
  refine gd_br (c := ¬ x1 = v1) (st1 := []) tc_36 rfl rfl (fun _ => rfl) ⟨fun hc => ?_, fun hc => ?_⟩
  · have h := h.1 hc
    show Gd d w 36 _ (15, [some (aR 11 k0), some (aI v1)], [], M)
    refine gd_s (P := True ∧ True ∧ True) (σ1 := (17, [some (aR 11 k0), some (aI v1)], [aI ((2 : Int32)), aR 11 k0], M)) tc_36 rfl 2 (fun u => ⟨_, rfl⟩) ⟨trivial, trivial, trivial⟩ ?_
    refine gd_callN (ml := 2) (as := [aR 11 k0, aI ((2 : Int32))]) (rest := []) tc_36 rfl rfl rfl rfl rfl (by omega) (by omega) (Nat.le_of_ble_eq_true rfl) rfl (g_Rd_refuse (by omega) (by omega) h) (fun r9 M2 h => ?_)
    obtain ⟨rfl, h⟩ := h
    show Gd d w 36 _ (20, [some (aR 11 k0), some (aI v1)], [], M2)
    exact gd_ret tc_36 rfl rfl trivial (fun _ => rfl) ⟨rfl, h⟩
  · have h := h.2 hc
    show Gd d w 36 _ (8, [some (aR 11 k0), some (aI v1)], [], M)
    refine gd_s (P := True ∧ True) (σ1 := (9, [some (aR 11 k0), some (aI v1)], [aR 11 k0], M)) tc_36 rfl 1 (fun u => ⟨_, rfl⟩) ⟨trivial, trivial⟩ ?_
    refine gd_callN (ml := 1) (as := [aR 11 k0]) (rest := []) tc_36 rfl rfl rfl rfl rfl (by omega) (by omega) (Nat.le_of_ble_eq_true rfl) rfl (g_Rd_step (by omega) (by omega) h) (fun r9 M3 h => ?_)
    obtain ⟨rfl, h⟩ := h
    show Gd d w 36 _ (12, [some (aR 11 k0), some (aI v1)], [], M3)
    refine gd_s (P := True ∧ True) (σ1 := (20, [some (aR 11 k0), some (aI v1)], [], M3)) tc_36 rfl 1 (fun u => ⟨_, rfl⟩) ⟨trivial, trivial⟩ ?_
    exact gd_ret tc_36 rfl rfl trivial (fun _ => rfl) ⟨rfl, h⟩
theorem tc_78 : tC 78 = c78 := rfl
def w_Nm_find_J59 (M : aM) (post : Int32 → Prop) (K3 : Nat → Int32 → Nat → Int32 → Int32 → Int32 → Prop) (k0 : Nat) (v1 : Int32) (k2 : Nat) (v3 : Int32) (v4 : Int32) (v5 : Int32) (v6 : Int32) : Prop := ((¬ v6 = v4) → K3 k0 v1 k2 v3 v4 (v5 + (1 : Int32))) ∧ (¬ (¬ v6 = v4) → (vp_in v5 (rK M (k0 + 1)).2) ∧ (((¬ v6 = (rI M (k0 + 1) v5.toNatClampNeg)) → K3 k0 v1 k2 v3 v4 (v5 + (1 : Int32))) ∧ (¬ (¬ v6 = (rI M (k0 + 1) v5.toNatClampNeg)) → post v5)))
theorem g_Nm_find_J59 {d w : Nat} (hd : 0 ≤ d) (hw : 0 ≤ w) {M : aM} {post : Int32 → Prop} {K3 : Nat → Int32 → Nat → Int32 → Int32 → Int32 → Prop} (hK3 : ∀ (k0 : Nat) (v1 : Int32) (k2 : Nat) (v3 : Int32) (v4 : Int32) (v5 : Int32) (o6 : Option aV), K3 k0 v1 k2 v3 v4 v5 → Gd d w 78 (pIn M post) (3, [some (aR 15 k0), some (aI v1), some (aR 4 k2), some (aI v3), some (aI v4), some (aI v5), o6], [], M)) (k0 : Nat) (v1 : Int32) (k2 : Nat) (v3 : Int32) (v4 : Int32) (v5 : Int32) (v6 : Int32) (h : w_Nm_find_J59 M post K3 k0 v1 k2 v3 v4 v5 v6) : Gd d w 78 (pIn M post) (59, [some (aR 15 k0), some (aI v1), some (aR 4 k2), some (aI v3), some (aI v4), some (aI v5), some (aI v6)], [], M) := by
  unfold w_Nm_find_J59 at h
  show Gd d w 78 _ (59, [some (aR 15 k0), some (aI v1), some (aR 4 k2), some (aI v3), some (aI v4), some (aI v5), some (aI v6)], [], M)
  refine gd_s (P := True ∧ True ∧ True) (σ1 := (63, [some (aR 15 k0), some (aI v1), some (aR 4 k2), some (aI v3), some (aI v4), some (aI v5), some (aI v6)], [aI v4, aI v6], M)) tc_78 rfl 2 (fun u => ⟨_, rfl⟩) ⟨trivial, trivial, trivial⟩ ?_
  refine gd_br (c := ¬ v6 = v4) (st1 := []) tc_78 rfl rfl (fun _ => rfl) ⟨fun hc => ?_, fun hc => ?_⟩
  · have h := h.1 hc
    show Gd d w 78 _ (81, [some (aR 15 k0), some (aI v1), some (aR 4 k2), some (aI v3), some (aI v4), some (aI v5), some (aI v6)], [], M)
    refine gd_s (P := True ∧ True ∧ True) (σ1 := (3, [some (aR 15 k0), some (aI v1), some (aR 4 k2), some (aI v3), some (aI v4), some (aI (v5 + (1 : Int32))), some (aI v6)], [], M)) tc_78 rfl 2 (fun u => ⟨_, rfl⟩) ⟨trivial, trivial, trivial⟩ ?_
    exact hK3 k0 v1 k2 v3 v4 (v5 + (1 : Int32)) (some (aI v6)) h
  · have h := h.2 hc
    show Gd d w 78 _ (66, [some (aR 15 k0), some (aI v1), some (aR 4 k2), some (aI v3), some (aI v4), some (aI v5), some (aI v6)], [], M)
    obtain ⟨c0, h⟩ := h
    refine gd_s (P := True ∧ True ∧ True ∧ True ∧ (vp_in v5 (rK M (k0 + 1)).2) ∧ True) (σ1 := (75, [some (aR 15 k0), some (aI v1), some (aR 4 k2), some (aI v3), some (aI v4), some (aI v5), some (aI v6)], [aI (rI M (k0 + 1) v5.toNatClampNeg), aI v6], M)) tc_78 rfl 5 (fun u => ⟨_, rfl⟩) ⟨trivial, trivial, trivial, trivial, c0, trivial⟩ ?_
    refine gd_br (c := ¬ v6 = (rI M (k0 + 1) v5.toNatClampNeg)) (st1 := []) tc_78 rfl rfl (fun _ => rfl) ⟨fun hc => ?_, fun hc => ?_⟩
    · have h := h.1 hc
      show Gd d w 78 _ (81, [some (aR 15 k0), some (aI v1), some (aR 4 k2), some (aI v3), some (aI v4), some (aI v5), some (aI v6)], [], M)
      refine gd_s (P := True ∧ True ∧ True) (σ1 := (3, [some (aR 15 k0), some (aI v1), some (aR 4 k2), some (aI v3), some (aI v4), some (aI (v5 + (1 : Int32))), some (aI v6)], [], M)) tc_78 rfl 2 (fun u => ⟨_, rfl⟩) ⟨trivial, trivial, trivial⟩ ?_
      exact hK3 k0 v1 k2 v3 v4 (v5 + (1 : Int32)) (some (aI v6)) h
    · have h := h.2 hc
      show Gd d w 78 _ (78, [some (aR 15 k0), some (aI v1), some (aR 4 k2), some (aI v3), some (aI v4), some (aI v5), some (aI v6)], [], M)
      refine gd_s (P := True ∧ True) (σ1 := (80, [some (aR 15 k0), some (aI v1), some (aR 4 k2), some (aI v3), some (aI v4), some (aI v5), some (aI v6)], [aI v5], M)) tc_78 rfl 1 (fun u => ⟨_, rfl⟩) ⟨trivial, trivial⟩ ?_
      exact gd_ret tc_78 rfl rfl trivial (fun _ => rfl) ⟨_, rfl, rfl, h⟩
def w_Nm_find_L12 (M : aM) (post : Int32 → Prop) (K3 : Nat → Int32 → Nat → Int32 → Int32 → Int32 → Prop) : Nat → Nat → Int32 → Nat → Int32 → Int32 → Int32 → Int32 → Prop
  | 0, _, _, _, _, _, _, _ => False
  | n + 1, k0, v1, k2, v3, v4, v5, v6 => ((v4 ≤ v6) → w_Nm_find_J59 M post K3 k0 v1 k2 v3 v4 v5 v6) ∧ (¬ (v4 ≤ v6) → (vp_in v5 (rK M (k0 + 1)).2) ∧ ((((rI M (k0 + 1) v5.toNatClampNeg) ≤ v6) → w_Nm_find_J59 M post K3 k0 v1 k2 v3 v4 v5 v6) ∧ (¬ ((rI M (k0 + 1) v5.toNatClampNeg) ≤ v6) → (vp_in ((v5 * ((12 : Int32))) + v6) (rK M (k0 + 2)).2) ∧ (vp_in (v3 + v6) (rK M k2).2) ∧ (((¬ (rI M (k0 + 2) ((v5 * ((12 : Int32))) + v6).toNatClampNeg) = (rI M k2 (v3 + v6).toNatClampNeg)) → w_Nm_find_J59 M post K3 k0 v1 k2 v3 v4 v5 v6) ∧ (¬ (¬ (rI M (k0 + 2) ((v5 * ((12 : Int32))) + v6).toNatClampNeg) = (rI M k2 (v3 + v6).toNatClampNeg)) → w_Nm_find_L12 M post K3 n k0 v1 k2 v3 v4 v5 (v6 + (1 : Int32)))))))
theorem g_Nm_find_L12 {d w : Nat} (hd : 0 ≤ d) (hw : 0 ≤ w) {M : aM} {post : Int32 → Prop} {K3 : Nat → Int32 → Nat → Int32 → Int32 → Int32 → Prop} (hK3 : ∀ (k0 : Nat) (v1 : Int32) (k2 : Nat) (v3 : Int32) (v4 : Int32) (v5 : Int32) (o6 : Option aV), K3 k0 v1 k2 v3 v4 v5 → Gd d w 78 (pIn M post) (3, [some (aR 15 k0), some (aI v1), some (aR 4 k2), some (aI v3), some (aI v4), some (aI v5), o6], [], M)) : ∀ (n : Nat) (k0 : Nat) (v1 : Int32) (k2 : Nat) (v3 : Int32) (v4 : Int32) (v5 : Int32) (v6 : Int32), w_Nm_find_L12 M post K3 n k0 v1 k2 v3 v4 v5 v6 → Gd d w 78 (pIn M post) (12, [some (aR 15 k0), some (aI v1), some (aR 4 k2), some (aI v3), some (aI v4), some (aI v5), some (aI v6)], [], M) := by
  intro n
  induction n with
  | zero => intro k0 v1 k2 v3 v4 v5 v6 h; exact h.elim
  | succ n ih =>
    intro k0 v1 k2 v3 v4 v5 v6 h
    show Gd d w 78 _ (12, [some (aR 15 k0), some (aI v1), some (aR 4 k2), some (aI v3), some (aI v4), some (aI v5), some (aI v6)], [], M)
    refine gd_s (P := True ∧ True ∧ True) (σ1 := (16, [some (aR 15 k0), some (aI v1), some (aR 4 k2), some (aI v3), some (aI v4), some (aI v5), some (aI v6)], [aI v4, aI v6], M)) tc_78 rfl 2 (fun u => ⟨_, rfl⟩) ⟨trivial, trivial, trivial⟩ ?_
    refine gd_br (c := v4 ≤ v6) (st1 := []) tc_78 rfl rfl (fun _ => rfl) ⟨fun hc => ?_, fun hc => ?_⟩
    · have h := h.1 hc
      exact g_Nm_find_J59 hd hw hK3 k0 v1 k2 v3 v4 v5 v6 h
    · have h := h.2 hc
      show Gd d w 78 _ (19, [some (aR 15 k0), some (aI v1), some (aR 4 k2), some (aI v3), some (aI v4), some (aI v5), some (aI v6)], [], M)
      obtain ⟨c0, h⟩ := h
      refine gd_s (P := True ∧ True ∧ True ∧ True ∧ (vp_in v5 (rK M (k0 + 1)).2) ∧ True) (σ1 := (28, [some (aR 15 k0), some (aI v1), some (aR 4 k2), some (aI v3), some (aI v4), some (aI v5), some (aI v6)], [aI (rI M (k0 + 1) v5.toNatClampNeg), aI v6], M)) tc_78 rfl 5 (fun u => ⟨_, rfl⟩) ⟨trivial, trivial, trivial, trivial, c0, trivial⟩ ?_
      refine gd_br (c := (rI M (k0 + 1) v5.toNatClampNeg) ≤ v6) (st1 := []) tc_78 rfl rfl (fun _ => rfl) ⟨fun hc => ?_, fun hc => ?_⟩
      · have h := h.1 hc
        exact g_Nm_find_J59 hd hw hK3 k0 v1 k2 v3 v4 v5 v6 h
      · have h := h.2 hc
        show Gd d w 78 _ (31, [some (aR 15 k0), some (aI v1), some (aR 4 k2), some (aI v3), some (aI v4), some (aI v5), some (aI v6)], [], M)
        obtain ⟨c0, c1, h⟩ := h
        refine gd_s (P := True ∧ True ∧ True ∧ True ∧ True ∧ True ∧ True ∧ (vp_in ((v5 * ((12 : Int32))) + v6) (rK M (k0 + 2)).2) ∧ True ∧ True ∧ True ∧ True ∧ (vp_in (v3 + v6) (rK M k2).2) ∧ True) (σ1 := (50, [some (aR 15 k0), some (aI v1), some (aR 4 k2), some (aI v3), some (aI v4), some (aI v5), some (aI v6)], [aI (rI M k2 (v3 + v6).toNatClampNeg), aI (rI M (k0 + 2) ((v5 * ((12 : Int32))) + v6).toNatClampNeg)], M)) tc_78 rfl 13 (fun u => ⟨_, rfl⟩) ⟨trivial, trivial, trivial, trivial, trivial, trivial, trivial, c0, trivial, trivial, trivial, trivial, c1, trivial⟩ ?_
        refine gd_br (c := ¬ (rI M (k0 + 2) ((v5 * ((12 : Int32))) + v6).toNatClampNeg) = (rI M k2 (v3 + v6).toNatClampNeg)) (st1 := []) tc_78 rfl rfl (fun _ => rfl) ⟨fun hc => ?_, fun hc => ?_⟩
        · have h := h.1 hc
          exact g_Nm_find_J59 hd hw hK3 k0 v1 k2 v3 v4 v5 v6 h
        · have h := h.2 hc
          show Gd d w 78 _ (53, [some (aR 15 k0), some (aI v1), some (aR 4 k2), some (aI v3), some (aI v4), some (aI v5), some (aI v6)], [], M)
          refine gd_s (P := True ∧ True ∧ True) (σ1 := (12, [some (aR 15 k0), some (aI v1), some (aR 4 k2), some (aI v3), some (aI v4), some (aI v5), some (aI (v6 + (1 : Int32)))], [], M)) tc_78 rfl 2 (fun u => ⟨_, rfl⟩) ⟨trivial, trivial, trivial⟩ ?_
          exact ih k0 v1 k2 v3 v4 v5 (v6 + (1 : Int32)) h
def w_Nm_find_L3 (M : aM) (post : Int32 → Prop) : Nat → Nat → Int32 → Nat → Int32 → Int32 → Int32 → Prop
  | 0, _, _, _, _, _, _ => False
  | n + 1, k0, v1, k2, v3, v4, v5 => ((v1 ≤ v5) → post ((-1 : Int32))) ∧ (¬ (v1 ≤ v5) → ∃ n9, w_Nm_find_L12 M post (w_Nm_find_L3 M post n) n9 k0 v1 k2 v3 v4 v5 ((0 : Int32)))
theorem g_Nm_find_L3 {d w : Nat} (hd : 0 ≤ d) (hw : 0 ≤ w) {M : aM} {post : Int32 → Prop} : ∀ (n : Nat) (k0 : Nat) (v1 : Int32) (k2 : Nat) (v3 : Int32) (v4 : Int32) (v5 : Int32) (o6 : Option aV), w_Nm_find_L3 M post n k0 v1 k2 v3 v4 v5 → Gd d w 78 (pIn M post) (3, [some (aR 15 k0), some (aI v1), some (aR 4 k2), some (aI v3), some (aI v4), some (aI v5), o6], [], M) := by
  intro n
  induction n with
  | zero => intro k0 v1 k2 v3 v4 v5 o6 h; exact h.elim
  | succ n ih =>
    intro k0 v1 k2 v3 v4 v5 o6 h
    show Gd d w 78 _ (3, [some (aR 15 k0), some (aI v1), some (aR 4 k2), some (aI v3), some (aI v4), some (aI v5), o6], [], M)
    refine gd_s (P := True ∧ True ∧ True) (σ1 := (6, [some (aR 15 k0), some (aI v1), some (aR 4 k2), some (aI v3), some (aI v4), some (aI v5), o6], [aI v1, aI v5], M)) tc_78 rfl 2 (fun u => ⟨_, rfl⟩) ⟨trivial, trivial, trivial⟩ ?_
    refine gd_br (c := v1 ≤ v5) (st1 := []) tc_78 rfl rfl (fun _ => rfl) ⟨fun hc => ?_, fun hc => ?_⟩
    · have h := h.1 hc
      show Gd d w 78 _ (87, [some (aR 15 k0), some (aI v1), some (aR 4 k2), some (aI v3), some (aI v4), some (aI v5), o6], [], M)
      refine gd_s (P := True ∧ True) (σ1 := (88, [some (aR 15 k0), some (aI v1), some (aR 4 k2), some (aI v3), some (aI v4), some (aI v5), o6], [aI ((-1 : Int32))], M)) tc_78 rfl 1 (fun u => ⟨_, rfl⟩) ⟨trivial, trivial⟩ ?_
      exact gd_ret tc_78 rfl rfl trivial (fun _ => rfl) ⟨_, rfl, rfl, h⟩
    · have h := h.2 hc
      show Gd d w 78 _ (9, [some (aR 15 k0), some (aI v1), some (aR 4 k2), some (aI v3), some (aI v4), some (aI v5), o6], [], M)
      refine gd_s (P := True ∧ True ∧ True) (σ1 := (12, [some (aR 15 k0), some (aI v1), some (aR 4 k2), some (aI v3), some (aI v4), some (aI v5), some (aI ((0 : Int32)))], [], M)) tc_78 rfl 2 (fun u => ⟨_, rfl⟩) ⟨trivial, trivial, trivial⟩ ?_
      obtain ⟨n9, h⟩ := h
      exact g_Nm_find_L12 hd hw ih n9 k0 v1 k2 v3 v4 v5 ((0 : Int32)) h
/-- PolicyJudge$Names.find(I[III)I -/
def w_Nm_find (post : Int32 → Prop) (k0 : Nat) (v1 : Int32) (k2 : Nat) (v3 : Int32) (v4 : Int32) (M : aM) : Prop := ∃ n9, w_Nm_find_L3 M post n9 k0 v1 k2 v3 v4 ((0 : Int32))
theorem g_Nm_find {d w : Nat} (hd : 0 ≤ d) (hw : 0 ≤ w) {post : Int32 → Prop} {k0 : Nat} {v1 : Int32} {k2 : Nat} {v3 : Int32} {v4 : Int32} {M : aM} (h : w_Nm_find post k0 v1 k2 v3 v4 M) : Gd d w 78 (pIn M post) (0, aEnt 78 [aR 15 k0, aI v1, aR 4 k2, aI v3, aI v4], [], M) := by
  unfold w_Nm_find at h
  show Gd d w 78 _ (0, [some (aR 15 k0), some (aI v1), some (aR 4 k2), some (aI v3), some (aI v4), none, none], [], M)
  refine gd_s (P := True ∧ True ∧ True) (σ1 := (3, [some (aR 15 k0), some (aI v1), some (aR 4 k2), some (aI v3), some (aI v4), some (aI ((0 : Int32))), none], [], M)) tc_78 rfl 2 (fun u => ⟨_, rfl⟩) ⟨trivial, trivial, trivial⟩ ?_
  obtain ⟨n9, h⟩ := h
  exact g_Nm_find_L3 hd hw n9 k0 v1 k2 v3 v4 ((0 : Int32)) none h
theorem tc_79 : tC 79 = c79 := rfl
def w_Nm_put_L16 (post : aM → Prop) : Nat → Nat → Int32 → Nat → Int32 → Int32 → aM → Prop
  | 0, _, _, _, _, _, _ => False
  | n + 1, k0, v1, k2, v3, v5, M => (vp_in v1 (rK M (k0 + 1)).2) ∧ ((((rI M (k0 + 1) v1.toNatClampNeg) ≤ v5) → post M) ∧ (¬ ((rI M (k0 + 1) v1.toNatClampNeg) ≤ v5) → (vp_in (v3 + v5) (rK M k2).2) ∧ (vp_in ((v1 * ((12 : Int32))) + v5) (rK M (k0 + 2)).2) ∧ (w_Nm_put_L16 post n k0 v1 k2 v3 (v5 + (1 : Int32)) (wI M (k0 + 2) ((v1 * ((12 : Int32))) + v5).toNatClampNeg (rI M k2 (v3 + v5).toNatClampNeg)))))
theorem g_Nm_put_L16 {d w : Nat} (hd : 6 ≤ d) (hw : 200 ≤ w) {post : aM → Prop} : ∀ (n : Nat) (k0 : Nat) (v1 : Int32) (k2 : Nat) (v3 : Int32) (v5 : Int32) (o4 : Option aV) (M : aM), w_Nm_put_L16 post n k0 v1 k2 v3 v5 M → Gd d w 79 (pV post) (16, [some (aR 15 k0), some (aI v1), some (aR 4 k2), some (aI v3), o4, some (aI v5)], [], M) := by
  intro n
  induction n with
  | zero => intro k0 v1 k2 v3 v5 o4 M h; exact h.elim
  | succ n ih =>
    intro k0 v1 k2 v3 v5 o4 M h
    show Gd d w 79 _ (16, [some (aR 15 k0), some (aI v1), some (aR 4 k2), some (aI v3), o4, some (aI v5)], [], M)
    obtain ⟨c0, h⟩ := h
    refine gd_s (P := True ∧ True ∧ True ∧ True ∧ (vp_in v1 (rK M (k0 + 1)).2) ∧ True) (σ1 := (24, [some (aR 15 k0), some (aI v1), some (aR 4 k2), some (aI v3), o4, some (aI v5)], [aI (rI M (k0 + 1) v1.toNatClampNeg), aI v5], M)) tc_79 rfl 5 (fun u => ⟨_, rfl⟩) ⟨trivial, trivial, trivial, trivial, c0, trivial⟩ ?_
    refine gd_br (c := (rI M (k0 + 1) v1.toNatClampNeg) ≤ v5) (st1 := []) tc_79 rfl rfl (fun _ => rfl) ⟨fun hc => ?_, fun hc => ?_⟩
    · have h := h.1 hc
      show Gd d w 79 _ (51, [some (aR 15 k0), some (aI v1), some (aR 4 k2), some (aI v3), o4, some (aI v5)], [], M)
      exact gd_ret tc_79 rfl rfl trivial (fun _ => rfl) ⟨rfl, h⟩
    · have h := h.2 hc
      show Gd d w 79 _ (27, [some (aR 15 k0), some (aI v1), some (aR 4 k2), some (aI v3), o4, some (aI v5)], [], M)
      obtain ⟨c0, c1, h⟩ := h
      refine gd_s (P := True ∧ True ∧ True ∧ True ∧ True ∧ True ∧ True ∧ True ∧ True ∧ True ∧ True ∧ (vp_in (v3 + v5) (rK M k2).2) ∧ (vp_in ((v1 * ((12 : Int32))) + v5) (rK M (k0 + 2)).2) ∧ True ∧ True ∧ True) (σ1 := (16, [some (aR 15 k0), some (aI v1), some (aR 4 k2), some (aI v3), o4, some (aI (v5 + (1 : Int32)))], [], wI M (k0 + 2) ((v1 * ((12 : Int32))) + v5).toNatClampNeg (rI M k2 (v3 + v5).toNatClampNeg))) tc_79 rfl 15 (fun u => ⟨_, rfl⟩) ⟨trivial, trivial, trivial, trivial, trivial, trivial, trivial, trivial, trivial, trivial, trivial, c0, c1, trivial, trivial, trivial⟩ ?_
      exact ih k0 v1 k2 v3 (v5 + (1 : Int32)) o4 (wI M (k0 + 2) ((v1 * ((12 : Int32))) + v5).toNatClampNeg (rI M k2 (v3 + v5).toNatClampNeg)) h
/-- PolicyJudge$Names.put(I[III)V -/
def w_Nm_put (post : aM → Prop) (k0 : Nat) (v1 : Int32) (k2 : Nat) (v3 : Int32) (v4 : Int32) (M : aM) : Prop := (vp_in v1 (rK M (k0 + 1)).2) ∧ (∃ n9, w_Nm_put_L16 post n9 k0 v1 k2 v3 ((0 : Int32)) (wI M (k0 + 1) v1.toNatClampNeg (if ((12 : Int32)) < v4 then ((12 : Int32)) else v4)))
theorem g_Nm_put {d w : Nat} (hd : 6 ≤ d) (hw : 200 ≤ w) {post : aM → Prop} {k0 : Nat} {v1 : Int32} {k2 : Nat} {v3 : Int32} {v4 : Int32} {M : aM} (h : w_Nm_put post k0 v1 k2 v3 v4 M) : Gd d w 79 (pV post) (0, aEnt 79 [aR 15 k0, aI v1, aR 4 k2, aI v3, aI v4], [], M) := by
  unfold w_Nm_put at h
  show Gd d w 79 _ (0, [some (aR 15 k0), some (aI v1), some (aR 4 k2), some (aI v3), some (aI v4), none], [], M)
  refine gd_s (P := True ∧ True ∧ True ∧ True ∧ True ∧ True) (σ1 := (9, [some (aR 15 k0), some (aI v1), some (aR 4 k2), some (aI v3), some (aI v4), none], [aI ((12 : Int32)), aI v4, aI v1, aR 4 (k0 + 1)], M)) tc_79 rfl 5 (fun u => ⟨_, rfl⟩) ⟨trivial, trivial, trivial, trivial, trivial, trivial⟩ ?_
  refine gd_prim (P := True) (σ1 := (12, [some (aR 15 k0), some (aI v1), some (aR 4 k2), some (aI v3), some (aI v4), none], [aI (if ((12 : Int32)) < v4 then ((12 : Int32)) else v4), aI v1, aR 4 (k0 + 1)], M)) tc_79 rfl rfl rfl rfl trivial (by omega) (by omega) (Nat.le_of_ble_eq_true rfl) ?_
  show Gd d w 79 _ (12, [some (aR 15 k0), some (aI v1), some (aR 4 k2), some (aI v3), some (aI v4), none], [aI (if ((12 : Int32)) < v4 then ((12 : Int32)) else v4), aI v1, aR 4 (k0 + 1)], M)
  obtain ⟨c0, h⟩ := h
  refine gd_s (P := (vp_in v1 (rK M (k0 + 1)).2) ∧ True ∧ True ∧ True) (σ1 := (16, [some (aR 15 k0), some (aI v1), some (aR 4 k2), some (aI v3), some (aI v4), some (aI ((0 : Int32)))], [], wI M (k0 + 1) v1.toNatClampNeg (if ((12 : Int32)) < v4 then ((12 : Int32)) else v4))) tc_79 rfl 3 (fun u => ⟨_, rfl⟩) ⟨c0, trivial, trivial, trivial⟩ ?_
  obtain ⟨n9, h⟩ := h
  exact g_Nm_put_L16 hd hw n9 k0 v1 k2 v3 ((0 : Int32)) (some (aI v4)) (wI M (k0 + 1) v1.toNatClampNeg (if ((12 : Int32)) < v4 then ((12 : Int32)) else v4)) h
theorem tc_31 : tC 31 = c31 := rfl
def w_Rd_readAttribute_J154 (post : aM → Prop) (k0 : Nat) (M : aM) : Prop := w_Rd_refuse (fun M1 => post M1) k0 ((4 : Int32)) M
theorem g_Rd_readAttribute_J154 {d w : Nat} (hd : 7 ≤ d) (hw : 225 ≤ w) {post : aM → Prop} (k0 : Nat) (o1 o2 : Option aV) (M : aM) (h : w_Rd_readAttribute_J154 post k0 M) : Gd d w 31 (pV post) (154, [some (aR 11 k0), o1, o2], [], M) := by
  unfold w_Rd_readAttribute_J154 at h
  show Gd d w 31 _ (154, [some (aR 11 k0), o1, o2], [], M)
  refine gd_s (P := True ∧ True ∧ True) (σ1 := (156, [some (aR 11 k0), o1, o2], [aI ((4 : Int32)), aR 11 k0], M)) tc_31 rfl 2 (fun u => ⟨_, rfl⟩) ⟨trivial, trivial, trivial⟩ ?_
  refine gd_callN (ml := 2) (as := [aR 11 k0, aI ((4 : Int32))]) (rest := []) tc_31 rfl rfl rfl rfl rfl (by omega) (by omega) (Nat.le_of_ble_eq_true rfl) rfl (g_Rd_refuse (by omega) (by omega) h) (fun r9 M1 h => ?_)
  obtain ⟨rfl, h⟩ := h
  show Gd d w 31 _ (159, [some (aR 11 k0), o1, o2], [], M1)
  exact gd_ret tc_31 rfl rfl trivial (fun _ => rfl) ⟨rfl, h⟩
def w_Rd_readAttribute_J213 (post : aM → Prop) (k0 : Nat) (M : aM) : Prop := w_Rd_require (fun M1 => post M1) k0 ((59 : Int32)) M
theorem g_Rd_readAttribute_J213 {d w : Nat} (hd : 7 ≤ d) (hw : 225 ≤ w) {post : aM → Prop} (k0 : Nat) (o1 o2 : Option aV) (M : aM) (h : w_Rd_readAttribute_J213 post k0 M) : Gd d w 31 (pV post) (213, [some (aR 11 k0), o1, o2], [], M) := by
  unfold w_Rd_readAttribute_J213 at h
  show Gd d w 31 _ (213, [some (aR 11 k0), o1, o2], [], M)
  refine gd_s (P := True ∧ True ∧ True) (σ1 := (216, [some (aR 11 k0), o1, o2], [aI ((59 : Int32)), aR 11 k0], M)) tc_31 rfl 2 (fun u => ⟨_, rfl⟩) ⟨trivial, trivial, trivial⟩ ?_
  refine gd_callN (ml := 2) (as := [aR 11 k0, aI ((59 : Int32))]) (rest := []) tc_31 rfl rfl rfl rfl rfl (by omega) (by omega) (Nat.le_of_ble_eq_true rfl) rfl (g_Rd_require (by omega) (by omega) h) (fun r9 M1 h => ?_)
  obtain ⟨rfl, h⟩ := h
  show Gd d w 31 _ (219, [some (aR 11 k0), o1, o2], [], M1)
  exact gd_ret tc_31 rfl rfl trivial (fun _ => rfl) ⟨rfl, h⟩
def w_Rd_readAttribute_J203 (post : aM → Prop) (k0 : Nat) (k1 : Nat) (M : aM) : Prop := w_Rd_readAttribute_J213 post k0 (wI M k1 0 ((rI M k1 0) + ((1 : Int32))))
theorem g_Rd_readAttribute_J203 {d w : Nat} (hd : 7 ≤ d) (hw : 225 ≤ w) {post : aM → Prop} (k0 : Nat) (k1 : Nat) (o2 : Option aV) (M : aM) (h : w_Rd_readAttribute_J203 post k0 k1 M) : Gd d w 31 (pV post) (203, [some (aR 11 k0), some (aR 14 k1), o2], [], M) := by
  unfold w_Rd_readAttribute_J203 at h
  show Gd d w 31 _ (203, [some (aR 11 k0), some (aR 14 k1), o2], [], M)
  refine gd_s (P := True ∧ True ∧ True ∧ True ∧ True ∧ True ∧ True) (σ1 := (213, [some (aR 11 k0), some (aR 14 k1), o2], [], wI M k1 0 ((rI M k1 0) + ((1 : Int32))))) tc_31 rfl 6 (fun u => ⟨_, rfl⟩) ⟨trivial, trivial, trivial, trivial, trivial, trivial, trivial⟩ ?_
  exact g_Rd_readAttribute_J213 hd hw k0 (some (aR 14 k1)) o2 (wI M k1 0 ((rI M k1 0) + ((1 : Int32)))) h
def w_Rd_readAttribute_J196 (post : aM → Prop) (k0 : Nat) (k1 : Nat) (v2 : Int32) (M : aM) : Prop := (vp_in v2 (rK M (k1 + 7)).2) ∧ (w_Rd_readAttribute_J203 post k0 k1 (wI M (k1 + 7) v2.toNatClampNeg ((0 : Int32))))
theorem g_Rd_readAttribute_J196 {d w : Nat} (hd : 7 ≤ d) (hw : 225 ≤ w) {post : aM → Prop} (k0 : Nat) (k1 : Nat) (v2 : Int32) (M : aM) (h : w_Rd_readAttribute_J196 post k0 k1 v2 M) : Gd d w 31 (pV post) (196, [some (aR 11 k0), some (aR 14 k1), some (aI v2)], [], M) := by
  unfold w_Rd_readAttribute_J196 at h
  show Gd d w 31 _ (196, [some (aR 11 k0), some (aR 14 k1), some (aI v2)], [], M)
  obtain ⟨c0, h⟩ := h
  refine gd_s (P := True ∧ True ∧ True ∧ True ∧ (vp_in v2 (rK M (k1 + 7)).2) ∧ True) (σ1 := (203, [some (aR 11 k0), some (aR 14 k1), some (aI v2)], [], wI M (k1 + 7) v2.toNatClampNeg ((0 : Int32)))) tc_31 rfl 5 (fun u => ⟨_, rfl⟩) ⟨trivial, trivial, trivial, trivial, c0, trivial⟩ ?_
  exact g_Rd_readAttribute_J203 hd hw k0 k1 (some (aI v2)) (wI M (k1 + 7) v2.toNatClampNeg ((0 : Int32))) h
/-- PolicyJudge$Reader.readAttribute()V -/
def w_Rd_readAttribute (post : aM → Prop) (k0 : Nat) (M : aM) : Prop := (((rI M ((rR M k0 3) + 1) 0) < ((8 : Int32))) → w_Rd_step (fun M1 => w_Rd_token (fun x2 => ((x2 = ((128 : Int32))) → (vp_in (rI M1 k0 4) (rK M1 ((k0 + 1) + 3)).2) ∧ (w_Rd_tokenValue (fun x3 => w_Nm_find (fun x4 => ((x4 = ((-1 : Int32))) → (vp_in (rI M1 k0 4) (rK M1 ((k0 + 1) + 3)).2) ∧ (w_Rd_tokenValue (fun x5 => w_Nm_put (fun M6 => w_Rd_step (fun M7 => w_Rd_token (fun x8 => ((x8 = ((129 : Int32))) → w_Rd_tokenValue (fun x9 => ((x9 < ((1 : Int32))) → w_Rd_readAttribute_J154 post k0 M7) ∧ (¬ (x9 < ((1 : Int32))) → w_Rd_tokenValue (fun x10 => ((x10 ≤ ((8 : Int32))) → w_Rd_tokenValue (fun x11 => (vp_in (rI M ((rR M k0 3) + 1) 0) (rK M7 (((rR M k0 3) + 1) + 4)).2) ∧ (w_Rd_step (fun M12 => w_Rd_skip (fun x13 M13 => (vp_in (rI M ((rR M k0 3) + 1) 0) (rK M13 (((rR M k0 3) + 1) + 5)).2 ∧ (x13 = 0 ∨ x13 = 1)) ∧ (w_Rd_skip (fun x14 M14 => (vp_in (rI M ((rR M k0 3) + 1) 0) (rK M14 (((rR M k0 3) + 1) + 6)).2 ∧ (x14 = 0 ∨ x14 = 1)) ∧ (w_Rd_readAttribute_J196 post k0 ((rR M k0 3) + 1) (rI M ((rR M k0 3) + 1) 0) (wI M14 (((rR M k0 3) + 1) + 6) (rI M ((rR M k0 3) + 1) 0).toNatClampNeg x14))) k0 ((3 : Int32)) (wI M13 (((rR M k0 3) + 1) + 5) (rI M ((rR M k0 3) + 1) 0).toNatClampNeg x13))) k0 ((2 : Int32)) M12) k0 (wI M7 (((rR M k0 3) + 1) + 4) (rI M ((rR M k0 3) + 1) 0).toNatClampNeg x11))) k0 M7) ∧ (¬ (x10 ≤ ((8 : Int32))) → w_Rd_readAttribute_J154 post k0 M7)) k0 M7)) k0 M7) ∧ (¬ (x8 = ((129 : Int32))) → w_Rd_refuse (fun M15 => post M15) k0 ((2 : Int32)) M7)) k0 M7) k0 M6) (((rR M k0 3) + 1) + 1) (rI M ((rR M k0 3) + 1) 0) ((k0 + 1) + 1) (rI M1 ((k0 + 1) + 3) (rI M1 k0 4).toNatClampNeg) x5 M1) k0 M1)) ∧ (¬ (x4 = ((-1 : Int32))) → w_Rd_refuse (fun M16 => post M16) k0 ((3 : Int32)) M1)) (((rR M k0 3) + 1) + 1) (rI M ((rR M k0 3) + 1) 0) ((k0 + 1) + 1) (rI M1 ((k0 + 1) + 3) (rI M1 k0 4).toNatClampNeg) x3 M1) k0 M1)) ∧ (¬ (x2 = ((128 : Int32))) → w_Rd_refuse (fun M17 => post M17) k0 ((2 : Int32)) M1)) k0 M1) k0 M) ∧ (¬ ((rI M ((rR M k0 3) + 1) 0) < ((8 : Int32))) → w_Rd_refuse (fun M18 => post M18) k0 ((5 : Int32)) M)
theorem g_Rd_readAttribute {d w : Nat} (hd : 7 ≤ d) (hw : 225 ≤ w) {post : aM → Prop} {k0 : Nat} {M : aM} (h : w_Rd_readAttribute post k0 M) : Gd d w 31 (pV post) (0, aEnt 31 [aR 11 k0], [], M) := by
  unfold w_Rd_readAttribute at h
  show Gd d w 31 _ (0, [some (aR 11 k0), none, none], [], M)
  refine gd_s (P := True ∧ True ∧ True ∧ True ∧ True ∧ True ∧ True ∧ True ∧ True ∧ True) (σ1 := (16, [some (aR 11 k0), some (aR 14 ((rR M k0 3) + 1)), some (aI (rI M ((rR M k0 3) + 1) 0))], [aI ((8 : Int32)), aI (rI M ((rR M k0 3) + 1) 0)], M)) tc_31 rfl 9 (fun u => ⟨_, rfl⟩) ⟨trivial, trivial, trivial, trivial, trivial, trivial, trivial, trivial, trivial, trivial⟩ ?_
  refine gd_br (c := (rI M ((rR M k0 3) + 1) 0) < ((8 : Int32))) (st1 := []) tc_31 rfl rfl (fun _ => rfl) ⟨fun hc => ?_, fun hc => ?_⟩
  · have h := h.1 hc
    show Gd d w 31 _ (25, [some (aR 11 k0), some (aR 14 ((rR M k0 3) + 1)), some (aI (rI M ((rR M k0 3) + 1) 0))], [], M)
    refine gd_s (P := True ∧ True) (σ1 := (26, [some (aR 11 k0), some (aR 14 ((rR M k0 3) + 1)), some (aI (rI M ((rR M k0 3) + 1) 0))], [aR 11 k0], M)) tc_31 rfl 1 (fun u => ⟨_, rfl⟩) ⟨trivial, trivial⟩ ?_
    refine gd_callN (ml := 1) (as := [aR 11 k0]) (rest := []) tc_31 rfl rfl rfl rfl rfl (by omega) (by omega) (Nat.le_of_ble_eq_true rfl) rfl (g_Rd_step (by omega) (by omega) h) (fun r9 M1 h => ?_)
    obtain ⟨rfl, h⟩ := h
    show Gd d w 31 _ (29, [some (aR 11 k0), some (aR 14 ((rR M k0 3) + 1)), some (aI (rI M ((rR M k0 3) + 1) 0))], [], M1)
    refine gd_s (P := True ∧ True) (σ1 := (30, [some (aR 11 k0), some (aR 14 ((rR M k0 3) + 1)), some (aI (rI M ((rR M k0 3) + 1) 0))], [aR 11 k0], M1)) tc_31 rfl 1 (fun u => ⟨_, rfl⟩) ⟨trivial, trivial⟩ ?_
    refine gd_callN (ml := 1) (as := [aR 11 k0]) (rest := []) tc_31 rfl rfl rfl rfl rfl (by omega) (by omega) (Nat.le_of_ble_eq_true rfl) rfl (g_Rd_token (by omega) (by omega) h) (fun r9 M9 h => ?_)
    obtain ⟨x2, rfl, e9, h⟩ := h
    subst M9
    show Gd d w 31 _ (33, [some (aR 11 k0), some (aR 14 ((rR M k0 3) + 1)), some (aI (rI M ((rR M k0 3) + 1) 0))], [aI x2], M1)
    refine gd_s (P := True ∧ True) (σ1 := (36, [some (aR 11 k0), some (aR 14 ((rR M k0 3) + 1)), some (aI (rI M ((rR M k0 3) + 1) 0))], [aI ((128 : Int32)), aI x2], M1)) tc_31 rfl 1 (fun u => ⟨_, rfl⟩) ⟨trivial, trivial⟩ ?_
    refine gd_br (c := x2 = ((128 : Int32))) (st1 := []) tc_31 rfl rfl (fun _ => rfl) ⟨fun hc => ?_, fun hc => ?_⟩
    · have h := h.1 hc
      show Gd d w 31 _ (45, [some (aR 11 k0), some (aR 14 ((rR M k0 3) + 1)), some (aI (rI M ((rR M k0 3) + 1) 0))], [], M1)
      obtain ⟨c0, h⟩ := h
      refine gd_s (P := True ∧ True ∧ True ∧ True ∧ True ∧ True ∧ True ∧ True ∧ True ∧ True ∧ True ∧ (vp_in (rI M1 k0 4) (rK M1 ((k0 + 1) + 3)).2) ∧ True ∧ True) (σ1 := (70, [some (aR 11 k0), some (aR 14 ((rR M k0 3) + 1)), some (aI (rI M ((rR M k0 3) + 1) 0))], [aR 11 k0, aI (rI M1 ((k0 + 1) + 3) (rI M1 k0 4).toNatClampNeg), aR 4 ((k0 + 1) + 1), aI (rI M ((rR M k0 3) + 1) 0), aR 15 (((rR M k0 3) + 1) + 1)], M1)) tc_31 rfl 13 (fun u => ⟨_, rfl⟩) ⟨trivial, trivial, trivial, trivial, trivial, trivial, trivial, trivial, trivial, trivial, trivial, c0, trivial, trivial⟩ ?_
      refine gd_callN (ml := 1) (as := [aR 11 k0]) (rest := [aI (rI M1 ((k0 + 1) + 3) (rI M1 k0 4).toNatClampNeg), aR 4 ((k0 + 1) + 1), aI (rI M ((rR M k0 3) + 1) 0), aR 15 (((rR M k0 3) + 1) + 1)]) tc_31 rfl rfl rfl rfl rfl (by omega) (by omega) (Nat.le_of_ble_eq_true rfl) rfl (g_Rd_tokenValue (by omega) (by omega) h) (fun r9 M9 h => ?_)
      obtain ⟨x3, rfl, e9, h⟩ := h
      subst M9
      show Gd d w 31 _ (73, [some (aR 11 k0), some (aR 14 ((rR M k0 3) + 1)), some (aI (rI M ((rR M k0 3) + 1) 0))], [aI x3, aI (rI M1 ((k0 + 1) + 3) (rI M1 k0 4).toNatClampNeg), aR 4 ((k0 + 1) + 1), aI (rI M ((rR M k0 3) + 1) 0), aR 15 (((rR M k0 3) + 1) + 1)], M1)
      refine gd_callN (ml := 7) (as := [aR 15 (((rR M k0 3) + 1) + 1), aI (rI M ((rR M k0 3) + 1) 0), aR 4 ((k0 + 1) + 1), aI (rI M1 ((k0 + 1) + 3) (rI M1 k0 4).toNatClampNeg), aI x3]) (rest := []) tc_31 rfl rfl rfl rfl rfl (by omega) (by omega) (Nat.le_of_ble_eq_true rfl) rfl (g_Nm_find (by omega) (by omega) h) (fun r9 M9 h => ?_)
      obtain ⟨x4, rfl, e9, h⟩ := h
      subst M9
      show Gd d w 31 _ (76, [some (aR 11 k0), some (aR 14 ((rR M k0 3) + 1)), some (aI (rI M ((rR M k0 3) + 1) 0))], [aI x4], M1)
      refine gd_s (P := True ∧ True) (σ1 := (77, [some (aR 11 k0), some (aR 14 ((rR M k0 3) + 1)), some (aI (rI M ((rR M k0 3) + 1) 0))], [aI ((-1 : Int32)), aI x4], M1)) tc_31 rfl 1 (fun u => ⟨_, rfl⟩) ⟨trivial, trivial⟩ ?_
      refine gd_br (c := x4 = ((-1 : Int32))) (st1 := []) tc_31 rfl rfl (fun _ => rfl) ⟨fun hc => ?_, fun hc => ?_⟩
      · have h := h.1 hc
        show Gd d w 31 _ (86, [some (aR 11 k0), some (aR 14 ((rR M k0 3) + 1)), some (aI (rI M ((rR M k0 3) + 1) 0))], [], M1)
        obtain ⟨c0, h⟩ := h
        refine gd_s (P := True ∧ True ∧ True ∧ True ∧ True ∧ True ∧ True ∧ True ∧ True ∧ True ∧ True ∧ (vp_in (rI M1 k0 4) (rK M1 ((k0 + 1) + 3)).2) ∧ True ∧ True) (σ1 := (111, [some (aR 11 k0), some (aR 14 ((rR M k0 3) + 1)), some (aI (rI M ((rR M k0 3) + 1) 0))], [aR 11 k0, aI (rI M1 ((k0 + 1) + 3) (rI M1 k0 4).toNatClampNeg), aR 4 ((k0 + 1) + 1), aI (rI M ((rR M k0 3) + 1) 0), aR 15 (((rR M k0 3) + 1) + 1)], M1)) tc_31 rfl 13 (fun u => ⟨_, rfl⟩) ⟨trivial, trivial, trivial, trivial, trivial, trivial, trivial, trivial, trivial, trivial, trivial, c0, trivial, trivial⟩ ?_
        refine gd_callN (ml := 1) (as := [aR 11 k0]) (rest := [aI (rI M1 ((k0 + 1) + 3) (rI M1 k0 4).toNatClampNeg), aR 4 ((k0 + 1) + 1), aI (rI M ((rR M k0 3) + 1) 0), aR 15 (((rR M k0 3) + 1) + 1)]) tc_31 rfl rfl rfl rfl rfl (by omega) (by omega) (Nat.le_of_ble_eq_true rfl) rfl (g_Rd_tokenValue (by omega) (by omega) h) (fun r9 M9 h => ?_)
        obtain ⟨x5, rfl, e9, h⟩ := h
        subst M9
        show Gd d w 31 _ (114, [some (aR 11 k0), some (aR 14 ((rR M k0 3) + 1)), some (aI (rI M ((rR M k0 3) + 1) 0))], [aI x5, aI (rI M1 ((k0 + 1) + 3) (rI M1 k0 4).toNatClampNeg), aR 4 ((k0 + 1) + 1), aI (rI M ((rR M k0 3) + 1) 0), aR 15 (((rR M k0 3) + 1) + 1)], M1)
        refine gd_callN (ml := 6) (as := [aR 15 (((rR M k0 3) + 1) + 1), aI (rI M ((rR M k0 3) + 1) 0), aR 4 ((k0 + 1) + 1), aI (rI M1 ((k0 + 1) + 3) (rI M1 k0 4).toNatClampNeg), aI x5]) (rest := []) tc_31 rfl rfl rfl rfl rfl (by omega) (by omega) (Nat.le_of_ble_eq_true rfl) rfl (g_Nm_put (by omega) (by omega) h) (fun r9 M6 h => ?_)
        obtain ⟨rfl, h⟩ := h
        show Gd d w 31 _ (117, [some (aR 11 k0), some (aR 14 ((rR M k0 3) + 1)), some (aI (rI M ((rR M k0 3) + 1) 0))], [], M6)
        refine gd_s (P := True ∧ True) (σ1 := (118, [some (aR 11 k0), some (aR 14 ((rR M k0 3) + 1)), some (aI (rI M ((rR M k0 3) + 1) 0))], [aR 11 k0], M6)) tc_31 rfl 1 (fun u => ⟨_, rfl⟩) ⟨trivial, trivial⟩ ?_
        refine gd_callN (ml := 1) (as := [aR 11 k0]) (rest := []) tc_31 rfl rfl rfl rfl rfl (by omega) (by omega) (Nat.le_of_ble_eq_true rfl) rfl (g_Rd_step (by omega) (by omega) h) (fun r9 M7 h => ?_)
        obtain ⟨rfl, h⟩ := h
        show Gd d w 31 _ (121, [some (aR 11 k0), some (aR 14 ((rR M k0 3) + 1)), some (aI (rI M ((rR M k0 3) + 1) 0))], [], M7)
        refine gd_s (P := True ∧ True) (σ1 := (122, [some (aR 11 k0), some (aR 14 ((rR M k0 3) + 1)), some (aI (rI M ((rR M k0 3) + 1) 0))], [aR 11 k0], M7)) tc_31 rfl 1 (fun u => ⟨_, rfl⟩) ⟨trivial, trivial⟩ ?_
        refine gd_callN (ml := 1) (as := [aR 11 k0]) (rest := []) tc_31 rfl rfl rfl rfl rfl (by omega) (by omega) (Nat.le_of_ble_eq_true rfl) rfl (g_Rd_token (by omega) (by omega) h) (fun r9 M9 h => ?_)
        obtain ⟨x8, rfl, e9, h⟩ := h
        subst M9
        show Gd d w 31 _ (125, [some (aR 11 k0), some (aR 14 ((rR M k0 3) + 1)), some (aI (rI M ((rR M k0 3) + 1) 0))], [aI x8], M7)
        refine gd_s (P := True ∧ True) (σ1 := (128, [some (aR 11 k0), some (aR 14 ((rR M k0 3) + 1)), some (aI (rI M ((rR M k0 3) + 1) 0))], [aI ((129 : Int32)), aI x8], M7)) tc_31 rfl 1 (fun u => ⟨_, rfl⟩) ⟨trivial, trivial⟩ ?_
        refine gd_br (c := x8 = ((129 : Int32))) (st1 := []) tc_31 rfl rfl (fun _ => rfl) ⟨fun hc => ?_, fun hc => ?_⟩
        · have h := h.1 hc
          show Gd d w 31 _ (137, [some (aR 11 k0), some (aR 14 ((rR M k0 3) + 1)), some (aI (rI M ((rR M k0 3) + 1) 0))], [], M7)
          refine gd_s (P := True ∧ True) (σ1 := (138, [some (aR 11 k0), some (aR 14 ((rR M k0 3) + 1)), some (aI (rI M ((rR M k0 3) + 1) 0))], [aR 11 k0], M7)) tc_31 rfl 1 (fun u => ⟨_, rfl⟩) ⟨trivial, trivial⟩ ?_
          refine gd_callN (ml := 1) (as := [aR 11 k0]) (rest := []) tc_31 rfl rfl rfl rfl rfl (by omega) (by omega) (Nat.le_of_ble_eq_true rfl) rfl (g_Rd_tokenValue (by omega) (by omega) h) (fun r9 M9 h => ?_)
          obtain ⟨x9, rfl, e9, h⟩ := h
          subst M9
          show Gd d w 31 _ (141, [some (aR 11 k0), some (aR 14 ((rR M k0 3) + 1)), some (aI (rI M ((rR M k0 3) + 1) 0))], [aI x9], M7)
          refine gd_s (P := True ∧ True) (σ1 := (142, [some (aR 11 k0), some (aR 14 ((rR M k0 3) + 1)), some (aI (rI M ((rR M k0 3) + 1) 0))], [aI ((1 : Int32)), aI x9], M7)) tc_31 rfl 1 (fun u => ⟨_, rfl⟩) ⟨trivial, trivial⟩ ?_
          refine gd_br (c := x9 < ((1 : Int32))) (st1 := []) tc_31 rfl rfl (fun _ => rfl) ⟨fun hc => ?_, fun hc => ?_⟩
          · have h := h.1 hc
            exact g_Rd_readAttribute_J154 hd hw k0 (some (aR 14 ((rR M k0 3) + 1))) (some (aI (rI M ((rR M k0 3) + 1) 0))) M7 h
          · have h := h.2 hc
            show Gd d w 31 _ (145, [some (aR 11 k0), some (aR 14 ((rR M k0 3) + 1)), some (aI (rI M ((rR M k0 3) + 1) 0))], [], M7)
            refine gd_s (P := True ∧ True) (σ1 := (146, [some (aR 11 k0), some (aR 14 ((rR M k0 3) + 1)), some (aI (rI M ((rR M k0 3) + 1) 0))], [aR 11 k0], M7)) tc_31 rfl 1 (fun u => ⟨_, rfl⟩) ⟨trivial, trivial⟩ ?_
            refine gd_callN (ml := 1) (as := [aR 11 k0]) (rest := []) tc_31 rfl rfl rfl rfl rfl (by omega) (by omega) (Nat.le_of_ble_eq_true rfl) rfl (g_Rd_tokenValue (by omega) (by omega) h) (fun r9 M9 h => ?_)
            obtain ⟨x10, rfl, e9, h⟩ := h
            subst M9
            show Gd d w 31 _ (149, [some (aR 11 k0), some (aR 14 ((rR M k0 3) + 1)), some (aI (rI M ((rR M k0 3) + 1) 0))], [aI x10], M7)
            refine gd_s (P := True ∧ True) (σ1 := (151, [some (aR 11 k0), some (aR 14 ((rR M k0 3) + 1)), some (aI (rI M ((rR M k0 3) + 1) 0))], [aI ((8 : Int32)), aI x10], M7)) tc_31 rfl 1 (fun u => ⟨_, rfl⟩) ⟨trivial, trivial⟩ ?_
            refine gd_br (c := x10 ≤ ((8 : Int32))) (st1 := []) tc_31 rfl rfl (fun _ => rfl) ⟨fun hc => ?_, fun hc => ?_⟩
            · have h := h.1 hc
              show Gd d w 31 _ (160, [some (aR 11 k0), some (aR 14 ((rR M k0 3) + 1)), some (aI (rI M ((rR M k0 3) + 1) 0))], [], M7)
              refine gd_s (P := True ∧ True ∧ True ∧ True ∧ True) (σ1 := (166, [some (aR 11 k0), some (aR 14 ((rR M k0 3) + 1)), some (aI (rI M ((rR M k0 3) + 1) 0))], [aR 11 k0, aI (rI M ((rR M k0 3) + 1) 0), aR 4 (((rR M k0 3) + 1) + 4)], M7)) tc_31 rfl 4 (fun u => ⟨_, rfl⟩) ⟨trivial, trivial, trivial, trivial, trivial⟩ ?_
              refine gd_callN (ml := 1) (as := [aR 11 k0]) (rest := [aI (rI M ((rR M k0 3) + 1) 0), aR 4 (((rR M k0 3) + 1) + 4)]) tc_31 rfl rfl rfl rfl rfl (by omega) (by omega) (Nat.le_of_ble_eq_true rfl) rfl (g_Rd_tokenValue (by omega) (by omega) h) (fun r9 M9 h => ?_)
              obtain ⟨x11, rfl, e9, h⟩ := h
              subst M9
              show Gd d w 31 _ (169, [some (aR 11 k0), some (aR 14 ((rR M k0 3) + 1)), some (aI (rI M ((rR M k0 3) + 1) 0))], [aI x11, aI (rI M ((rR M k0 3) + 1) 0), aR 4 (((rR M k0 3) + 1) + 4)], M7)
              obtain ⟨c0, h⟩ := h
              refine gd_s (P := (vp_in (rI M ((rR M k0 3) + 1) 0) (rK M7 (((rR M k0 3) + 1) + 4)).2) ∧ True ∧ True) (σ1 := (171, [some (aR 11 k0), some (aR 14 ((rR M k0 3) + 1)), some (aI (rI M ((rR M k0 3) + 1) 0))], [aR 11 k0], wI M7 (((rR M k0 3) + 1) + 4) (rI M ((rR M k0 3) + 1) 0).toNatClampNeg x11)) tc_31 rfl 2 (fun u => ⟨_, rfl⟩) ⟨c0, trivial, trivial⟩ ?_
              refine gd_callN (ml := 1) (as := [aR 11 k0]) (rest := []) tc_31 rfl rfl rfl rfl rfl (by omega) (by omega) (Nat.le_of_ble_eq_true rfl) rfl (g_Rd_step (by omega) (by omega) h) (fun r9 M12 h => ?_)
              obtain ⟨rfl, h⟩ := h
              show Gd d w 31 _ (174, [some (aR 11 k0), some (aR 14 ((rR M k0 3) + 1)), some (aI (rI M ((rR M k0 3) + 1) 0))], [], M12)
              refine gd_s (P := True ∧ True ∧ True ∧ True ∧ True ∧ True) (σ1 := (181, [some (aR 11 k0), some (aR 14 ((rR M k0 3) + 1)), some (aI (rI M ((rR M k0 3) + 1) 0))], [aI ((2 : Int32)), aR 11 k0, aI (rI M ((rR M k0 3) + 1) 0), aR 5 (((rR M k0 3) + 1) + 5)], M12)) tc_31 rfl 5 (fun u => ⟨_, rfl⟩) ⟨trivial, trivial, trivial, trivial, trivial, trivial⟩ ?_
              refine gd_callN (ml := 2) (as := [aR 11 k0, aI ((2 : Int32))]) (rest := [aI (rI M ((rR M k0 3) + 1) 0), aR 5 (((rR M k0 3) + 1) + 5)]) tc_31 rfl rfl rfl rfl rfl (by omega) (by omega) (Nat.le_of_ble_eq_true rfl) rfl (g_Rd_skip (by omega) (by omega) h) (fun r9 M13 h => ?_)
              obtain ⟨x13, rfl, h⟩ := h
              show Gd d w 31 _ (184, [some (aR 11 k0), some (aR 14 ((rR M k0 3) + 1)), some (aI (rI M ((rR M k0 3) + 1) 0))], [aI x13, aI (rI M ((rR M k0 3) + 1) 0), aR 5 (((rR M k0 3) + 1) + 5)], M13)
              obtain ⟨c0, h⟩ := h
              refine gd_s (P := (vp_in (rI M ((rR M k0 3) + 1) 0) (rK M13 (((rR M k0 3) + 1) + 5)).2 ∧ (x13 = 0 ∨ x13 = 1)) ∧ True ∧ True ∧ True ∧ True ∧ True ∧ True) (σ1 := (192, [some (aR 11 k0), some (aR 14 ((rR M k0 3) + 1)), some (aI (rI M ((rR M k0 3) + 1) 0))], [aI ((3 : Int32)), aR 11 k0, aI (rI M ((rR M k0 3) + 1) 0), aR 5 (((rR M k0 3) + 1) + 6)], wI M13 (((rR M k0 3) + 1) + 5) (rI M ((rR M k0 3) + 1) 0).toNatClampNeg x13)) tc_31 rfl 6 (fun u => ⟨_, rfl⟩) ⟨c0, trivial, trivial, trivial, trivial, trivial, trivial⟩ ?_
              refine gd_callN (ml := 2) (as := [aR 11 k0, aI ((3 : Int32))]) (rest := [aI (rI M ((rR M k0 3) + 1) 0), aR 5 (((rR M k0 3) + 1) + 6)]) tc_31 rfl rfl rfl rfl rfl (by omega) (by omega) (Nat.le_of_ble_eq_true rfl) rfl (g_Rd_skip (by omega) (by omega) h) (fun r9 M14 h => ?_)
              obtain ⟨x14, rfl, h⟩ := h
              show Gd d w 31 _ (195, [some (aR 11 k0), some (aR 14 ((rR M k0 3) + 1)), some (aI (rI M ((rR M k0 3) + 1) 0))], [aI x14, aI (rI M ((rR M k0 3) + 1) 0), aR 5 (((rR M k0 3) + 1) + 6)], M14)
              obtain ⟨c0, h⟩ := h
              refine gd_s (P := (vp_in (rI M ((rR M k0 3) + 1) 0) (rK M14 (((rR M k0 3) + 1) + 6)).2 ∧ (x14 = 0 ∨ x14 = 1)) ∧ True) (σ1 := (196, [some (aR 11 k0), some (aR 14 ((rR M k0 3) + 1)), some (aI (rI M ((rR M k0 3) + 1) 0))], [], wI M14 (((rR M k0 3) + 1) + 6) (rI M ((rR M k0 3) + 1) 0).toNatClampNeg x14)) tc_31 rfl 1 (fun u => ⟨_, rfl⟩) ⟨c0, trivial⟩ ?_
              exact g_Rd_readAttribute_J196 hd hw k0 ((rR M k0 3) + 1) (rI M ((rR M k0 3) + 1) 0) (wI M14 (((rR M k0 3) + 1) + 6) (rI M ((rR M k0 3) + 1) 0).toNatClampNeg x14) h
            · have h := h.2 hc
              exact g_Rd_readAttribute_J154 hd hw k0 (some (aR 14 ((rR M k0 3) + 1))) (some (aI (rI M ((rR M k0 3) + 1) 0))) M7 h
        · have h := h.2 hc
          show Gd d w 31 _ (131, [some (aR 11 k0), some (aR 14 ((rR M k0 3) + 1)), some (aI (rI M ((rR M k0 3) + 1) 0))], [], M7)
          refine gd_s (P := True ∧ True ∧ True) (σ1 := (133, [some (aR 11 k0), some (aR 14 ((rR M k0 3) + 1)), some (aI (rI M ((rR M k0 3) + 1) 0))], [aI ((2 : Int32)), aR 11 k0], M7)) tc_31 rfl 2 (fun u => ⟨_, rfl⟩) ⟨trivial, trivial, trivial⟩ ?_
          refine gd_callN (ml := 2) (as := [aR 11 k0, aI ((2 : Int32))]) (rest := []) tc_31 rfl rfl rfl rfl rfl (by omega) (by omega) (Nat.le_of_ble_eq_true rfl) rfl (g_Rd_refuse (by omega) (by omega) h) (fun r9 M15 h => ?_)
          obtain ⟨rfl, h⟩ := h
          show Gd d w 31 _ (136, [some (aR 11 k0), some (aR 14 ((rR M k0 3) + 1)), some (aI (rI M ((rR M k0 3) + 1) 0))], [], M15)
          exact gd_ret tc_31 rfl rfl trivial (fun _ => rfl) ⟨rfl, h⟩
      · have h := h.2 hc
        show Gd d w 31 _ (80, [some (aR 11 k0), some (aR 14 ((rR M k0 3) + 1)), some (aI (rI M ((rR M k0 3) + 1) 0))], [], M1)
        refine gd_s (P := True ∧ True ∧ True) (σ1 := (82, [some (aR 11 k0), some (aR 14 ((rR M k0 3) + 1)), some (aI (rI M ((rR M k0 3) + 1) 0))], [aI ((3 : Int32)), aR 11 k0], M1)) tc_31 rfl 2 (fun u => ⟨_, rfl⟩) ⟨trivial, trivial, trivial⟩ ?_
        refine gd_callN (ml := 2) (as := [aR 11 k0, aI ((3 : Int32))]) (rest := []) tc_31 rfl rfl rfl rfl rfl (by omega) (by omega) (Nat.le_of_ble_eq_true rfl) rfl (g_Rd_refuse (by omega) (by omega) h) (fun r9 M16 h => ?_)
        obtain ⟨rfl, h⟩ := h
        show Gd d w 31 _ (85, [some (aR 11 k0), some (aR 14 ((rR M k0 3) + 1)), some (aI (rI M ((rR M k0 3) + 1) 0))], [], M16)
        exact gd_ret tc_31 rfl rfl trivial (fun _ => rfl) ⟨rfl, h⟩
    · have h := h.2 hc
      show Gd d w 31 _ (39, [some (aR 11 k0), some (aR 14 ((rR M k0 3) + 1)), some (aI (rI M ((rR M k0 3) + 1) 0))], [], M1)
      refine gd_s (P := True ∧ True ∧ True) (σ1 := (41, [some (aR 11 k0), some (aR 14 ((rR M k0 3) + 1)), some (aI (rI M ((rR M k0 3) + 1) 0))], [aI ((2 : Int32)), aR 11 k0], M1)) tc_31 rfl 2 (fun u => ⟨_, rfl⟩) ⟨trivial, trivial, trivial⟩ ?_
      refine gd_callN (ml := 2) (as := [aR 11 k0, aI ((2 : Int32))]) (rest := []) tc_31 rfl rfl rfl rfl rfl (by omega) (by omega) (Nat.le_of_ble_eq_true rfl) rfl (g_Rd_refuse (by omega) (by omega) h) (fun r9 M17 h => ?_)
      obtain ⟨rfl, h⟩ := h
      show Gd d w 31 _ (44, [some (aR 11 k0), some (aR 14 ((rR M k0 3) + 1)), some (aI (rI M ((rR M k0 3) + 1) 0))], [], M17)
      exact gd_ret tc_31 rfl rfl trivial (fun _ => rfl) ⟨rfl, h⟩
  · have h := h.2 hc
    show Gd d w 31 _ (19, [some (aR 11 k0), some (aR 14 ((rR M k0 3) + 1)), some (aI (rI M ((rR M k0 3) + 1) 0))], [], M)
    refine gd_s (P := True ∧ True ∧ True) (σ1 := (21, [some (aR 11 k0), some (aR 14 ((rR M k0 3) + 1)), some (aI (rI M ((rR M k0 3) + 1) 0))], [aI ((5 : Int32)), aR 11 k0], M)) tc_31 rfl 2 (fun u => ⟨_, rfl⟩) ⟨trivial, trivial, trivial⟩ ?_
    refine gd_callN (ml := 2) (as := [aR 11 k0, aI ((5 : Int32))]) (rest := []) tc_31 rfl rfl rfl rfl rfl (by omega) (by omega) (Nat.le_of_ble_eq_true rfl) rfl (g_Rd_refuse (by omega) (by omega) h) (fun r9 M18 h => ?_)
    obtain ⟨rfl, h⟩ := h
    show Gd d w 31 _ (24, [some (aR 11 k0), some (aR 14 ((rR M k0 3) + 1)), some (aI (rI M ((rR M k0 3) + 1) 0))], [], M18)
    exact gd_ret tc_31 rfl rfl trivial (fun _ => rfl) ⟨rfl, h⟩
theorem tc_28 : tC 28 = c28 := rfl
def w_Rd_readAttributes_L2 (post : aM → Prop) : Nat → Nat → Int32 → aM → Prop
  | 0, _, _, _ => False
  | n + 1, k0, v1, M => ((((8 : Int32)) < v1) → post M) ∧ (¬ (((8 : Int32)) < v1) → w_Rd_isFine (fun x1 => ((x1 = ((0 : Int32))) → post M) ∧ (¬ (x1 = ((0 : Int32))) → w_Rd_token (fun x2 => ((¬ x2 = ((1 : Int32))) → post M) ∧ (¬ (¬ x2 = ((1 : Int32))) → w_Rd_readAttribute (fun M3 => w_Rd_readAttributes_L2 post n k0 (v1 + (1 : Int32)) M3) k0 M)) k0 M)) k0 M)
theorem g_Rd_readAttributes_L2 {d w : Nat} (hd : 8 ≤ d) (hw : 247 ≤ w) {post : aM → Prop} : ∀ (n : Nat) (k0 : Nat) (v1 : Int32) (M : aM), w_Rd_readAttributes_L2 post n k0 v1 M → Gd d w 28 (pV post) (2, [some (aR 11 k0), some (aI v1)], [], M) := by
  intro n
  induction n with
  | zero => intro k0 v1 M h; exact h.elim
  | succ n ih =>
    intro k0 v1 M h
    show Gd d w 28 _ (2, [some (aR 11 k0), some (aI v1)], [], M)
    refine gd_s (P := True ∧ True ∧ True) (σ1 := (5, [some (aR 11 k0), some (aI v1)], [aI ((8 : Int32)), aI v1], M)) tc_28 rfl 2 (fun u => ⟨_, rfl⟩) ⟨trivial, trivial, trivial⟩ ?_
    refine gd_br (c := ((8 : Int32)) < v1) (st1 := []) tc_28 rfl rfl (fun _ => rfl) ⟨fun hc => ?_, fun hc => ?_⟩
    · have h := h.1 hc
      show Gd d w 28 _ (33, [some (aR 11 k0), some (aI v1)], [], M)
      exact gd_ret tc_28 rfl rfl trivial (fun _ => rfl) ⟨rfl, h⟩
    · have h := h.2 hc
      show Gd d w 28 _ (8, [some (aR 11 k0), some (aI v1)], [], M)
      refine gd_s (P := True ∧ True) (σ1 := (9, [some (aR 11 k0), some (aI v1)], [aR 11 k0], M)) tc_28 rfl 1 (fun u => ⟨_, rfl⟩) ⟨trivial, trivial⟩ ?_
      refine gd_callN (ml := 1) (as := [aR 11 k0]) (rest := []) tc_28 rfl rfl rfl rfl rfl (by omega) (by omega) (Nat.le_of_ble_eq_true rfl) rfl (g_Rd_isFine (by omega) (by omega) h) (fun r9 M9 h => ?_)
      obtain ⟨x1, rfl, e9, h⟩ := h
      subst M9
      show Gd d w 28 _ (12, [some (aR 11 k0), some (aI v1)], [aI x1], M)
      refine gd_br (c := x1 = ((0 : Int32))) (st1 := []) tc_28 rfl rfl (fun _ => rfl) ⟨fun hc => ?_, fun hc => ?_⟩
      · have h := h.1 hc
        show Gd d w 28 _ (33, [some (aR 11 k0), some (aI v1)], [], M)
        exact gd_ret tc_28 rfl rfl trivial (fun _ => rfl) ⟨rfl, h⟩
      · have h := h.2 hc
        show Gd d w 28 _ (15, [some (aR 11 k0), some (aI v1)], [], M)
        refine gd_s (P := True ∧ True) (σ1 := (16, [some (aR 11 k0), some (aI v1)], [aR 11 k0], M)) tc_28 rfl 1 (fun u => ⟨_, rfl⟩) ⟨trivial, trivial⟩ ?_
        refine gd_callN (ml := 1) (as := [aR 11 k0]) (rest := []) tc_28 rfl rfl rfl rfl rfl (by omega) (by omega) (Nat.le_of_ble_eq_true rfl) rfl (g_Rd_token (by omega) (by omega) h) (fun r9 M9 h => ?_)
        obtain ⟨x2, rfl, e9, h⟩ := h
        subst M9
        show Gd d w 28 _ (19, [some (aR 11 k0), some (aI v1)], [aI x2], M)
        refine gd_s (P := True ∧ True) (σ1 := (20, [some (aR 11 k0), some (aI v1)], [aI ((1 : Int32)), aI x2], M)) tc_28 rfl 1 (fun u => ⟨_, rfl⟩) ⟨trivial, trivial⟩ ?_
        refine gd_br (c := ¬ x2 = ((1 : Int32))) (st1 := []) tc_28 rfl rfl (fun _ => rfl) ⟨fun hc => ?_, fun hc => ?_⟩
        · have h := h.1 hc
          show Gd d w 28 _ (33, [some (aR 11 k0), some (aI v1)], [], M)
          exact gd_ret tc_28 rfl rfl trivial (fun _ => rfl) ⟨rfl, h⟩
        · have h := h.2 hc
          show Gd d w 28 _ (23, [some (aR 11 k0), some (aI v1)], [], M)
          refine gd_s (P := True ∧ True) (σ1 := (24, [some (aR 11 k0), some (aI v1)], [aR 11 k0], M)) tc_28 rfl 1 (fun u => ⟨_, rfl⟩) ⟨trivial, trivial⟩ ?_
          refine gd_callN (ml := 3) (as := [aR 11 k0]) (rest := []) tc_28 rfl rfl rfl rfl rfl (by omega) (by omega) (Nat.le_of_ble_eq_true rfl) rfl (g_Rd_readAttribute (by omega) (by omega) h) (fun r9 M3 h => ?_)
          obtain ⟨rfl, h⟩ := h
          show Gd d w 28 _ (27, [some (aR 11 k0), some (aI v1)], [], M3)
          refine gd_s (P := True ∧ True ∧ True) (σ1 := (2, [some (aR 11 k0), some (aI (v1 + (1 : Int32)))], [], M3)) tc_28 rfl 2 (fun u => ⟨_, rfl⟩) ⟨trivial, trivial, trivial⟩ ?_
          exact ih k0 (v1 + (1 : Int32)) M3 h
/-- PolicyJudge$Reader.readAttributes()V -/
def w_Rd_readAttributes (post : aM → Prop) (k0 : Nat) (M : aM) : Prop := ∃ n9, w_Rd_readAttributes_L2 post n9 k0 ((0 : Int32)) M
theorem g_Rd_readAttributes {d w : Nat} (hd : 8 ≤ d) (hw : 247 ≤ w) {post : aM → Prop} {k0 : Nat} {M : aM} (h : w_Rd_readAttributes post k0 M) : Gd d w 28 (pV post) (0, aEnt 28 [aR 11 k0], [], M) := by
  unfold w_Rd_readAttributes at h
  show Gd d w 28 _ (0, [some (aR 11 k0), none], [], M)
  refine gd_s (P := True ∧ True ∧ True) (σ1 := (2, [some (aR 11 k0), some (aI ((0 : Int32)))], [], M)) tc_28 rfl 2 (fun u => ⟨_, rfl⟩) ⟨trivial, trivial, trivial⟩ ?_
  obtain ⟨n9, h⟩ := h
  exact g_Rd_readAttributes_L2 hd hw n9 k0 ((0 : Int32)) M h
theorem tc_61 : tC 61 = c61 := rfl
/-- PolicyJudge$Tape.isBlank(I)Z -/
def w_Tp_isBlank (post : Int32 → Prop) (v0 : Int32) (M : aM) : Prop := ((v0 = ((9 : Int32))) → (((1 : Int32)) = 0 ∨ ((1 : Int32)) = 1) ∧ post ((1 : Int32))) ∧ (¬ (v0 = ((9 : Int32))) → ((v0 = ((10 : Int32))) → (((1 : Int32)) = 0 ∨ ((1 : Int32)) = 1) ∧ post ((1 : Int32))) ∧ (¬ (v0 = ((10 : Int32))) → ((v0 = ((13 : Int32))) → (((1 : Int32)) = 0 ∨ ((1 : Int32)) = 1) ∧ post ((1 : Int32))) ∧ (¬ (v0 = ((13 : Int32))) → ((¬ v0 = ((32 : Int32))) → (((0 : Int32)) = 0 ∨ ((0 : Int32)) = 1) ∧ post ((0 : Int32))) ∧ (¬ (¬ v0 = ((32 : Int32))) → (((1 : Int32)) = 0 ∨ ((1 : Int32)) = 1) ∧ post ((1 : Int32))))))
theorem g_Tp_isBlank {d w : Nat} (hd : 0 ≤ d) (hw : 0 ≤ w) {post : Int32 → Prop} {v0 : Int32} {M : aM} (h : w_Tp_isBlank post v0 M) : Gd d w 61 (pIn M post) (0, aEnt 61 [aI v0], [], M) := by
  unfold w_Tp_isBlank at h
  show Gd d w 61 _ (0, [some (aI v0)], [], M)
  refine gd_s (P := True ∧ True ∧ True) (σ1 := (3, [some (aI v0)], [aI ((9 : Int32)), aI v0], M)) tc_61 rfl 2 (fun u => ⟨_, rfl⟩) ⟨trivial, trivial, trivial⟩ ?_
  refine gd_br (c := v0 = ((9 : Int32))) (st1 := []) tc_61 rfl rfl (fun _ => rfl) ⟨fun hc => ?_, fun hc => ?_⟩
  · have h := h.1 hc
    show Gd d w 61 _ (24, [some (aI v0)], [], M)
    refine gd_s (P := True ∧ True ∧ True) (σ1 := (29, [some (aI v0)], [aI ((1 : Int32))], M)) tc_61 rfl 2 (fun u => ⟨_, rfl⟩) ⟨trivial, trivial, trivial⟩ ?_
    exact gd_ret tc_61 rfl rfl h.1 (fun _ => rfl) ⟨_, rfl, rfl, h.2⟩
  · have h := h.2 hc
    show Gd d w 61 _ (6, [some (aI v0)], [], M)
    refine gd_s (P := True ∧ True ∧ True) (σ1 := (9, [some (aI v0)], [aI ((10 : Int32)), aI v0], M)) tc_61 rfl 2 (fun u => ⟨_, rfl⟩) ⟨trivial, trivial, trivial⟩ ?_
    refine gd_br (c := v0 = ((10 : Int32))) (st1 := []) tc_61 rfl rfl (fun _ => rfl) ⟨fun hc => ?_, fun hc => ?_⟩
    · have h := h.1 hc
      show Gd d w 61 _ (24, [some (aI v0)], [], M)
      refine gd_s (P := True ∧ True ∧ True) (σ1 := (29, [some (aI v0)], [aI ((1 : Int32))], M)) tc_61 rfl 2 (fun u => ⟨_, rfl⟩) ⟨trivial, trivial, trivial⟩ ?_
      exact gd_ret tc_61 rfl rfl h.1 (fun _ => rfl) ⟨_, rfl, rfl, h.2⟩
    · have h := h.2 hc
      show Gd d w 61 _ (12, [some (aI v0)], [], M)
      refine gd_s (P := True ∧ True ∧ True) (σ1 := (15, [some (aI v0)], [aI ((13 : Int32)), aI v0], M)) tc_61 rfl 2 (fun u => ⟨_, rfl⟩) ⟨trivial, trivial, trivial⟩ ?_
      refine gd_br (c := v0 = ((13 : Int32))) (st1 := []) tc_61 rfl rfl (fun _ => rfl) ⟨fun hc => ?_, fun hc => ?_⟩
      · have h := h.1 hc
        show Gd d w 61 _ (24, [some (aI v0)], [], M)
        refine gd_s (P := True ∧ True ∧ True) (σ1 := (29, [some (aI v0)], [aI ((1 : Int32))], M)) tc_61 rfl 2 (fun u => ⟨_, rfl⟩) ⟨trivial, trivial, trivial⟩ ?_
        exact gd_ret tc_61 rfl rfl h.1 (fun _ => rfl) ⟨_, rfl, rfl, h.2⟩
      · have h := h.2 hc
        show Gd d w 61 _ (18, [some (aI v0)], [], M)
        refine gd_s (P := True ∧ True ∧ True) (σ1 := (21, [some (aI v0)], [aI ((32 : Int32)), aI v0], M)) tc_61 rfl 2 (fun u => ⟨_, rfl⟩) ⟨trivial, trivial, trivial⟩ ?_
        refine gd_br (c := ¬ v0 = ((32 : Int32))) (st1 := []) tc_61 rfl rfl (fun _ => rfl) ⟨fun hc => ?_, fun hc => ?_⟩
        · have h := h.1 hc
          show Gd d w 61 _ (28, [some (aI v0)], [], M)
          refine gd_s (P := True ∧ True) (σ1 := (29, [some (aI v0)], [aI ((0 : Int32))], M)) tc_61 rfl 1 (fun u => ⟨_, rfl⟩) ⟨trivial, trivial⟩ ?_
          exact gd_ret tc_61 rfl rfl h.1 (fun _ => rfl) ⟨_, rfl, rfl, h.2⟩
        · have h := h.2 hc
          show Gd d w 61 _ (24, [some (aI v0)], [], M)
          refine gd_s (P := True ∧ True ∧ True) (σ1 := (29, [some (aI v0)], [aI ((1 : Int32))], M)) tc_61 rfl 2 (fun u => ⟨_, rfl⟩) ⟨trivial, trivial, trivial⟩ ?_
          exact gd_ret tc_61 rfl rfl h.1 (fun _ => rfl) ⟨_, rfl, rfl, h.2⟩
theorem tc_62 : tC 62 = c62 := rfl
/-- PolicyJudge$Tape.isSign(I)Z -/
def w_Tp_isSign (post : Int32 → Prop) (v0 : Int32) (M : aM) : Prop := ((v0 = ((40 : Int32))) → (((1 : Int32)) = 0 ∨ ((1 : Int32)) = 1) ∧ post ((1 : Int32))) ∧ (¬ (v0 = ((40 : Int32))) → ((v0 = ((41 : Int32))) → (((1 : Int32)) = 0 ∨ ((1 : Int32)) = 1) ∧ post ((1 : Int32))) ∧ (¬ (v0 = ((41 : Int32))) → ((v0 = ((44 : Int32))) → (((1 : Int32)) = 0 ∨ ((1 : Int32)) = 1) ∧ post ((1 : Int32))) ∧ (¬ (v0 = ((44 : Int32))) → ((v0 = ((59 : Int32))) → (((1 : Int32)) = 0 ∨ ((1 : Int32)) = 1) ∧ post ((1 : Int32))) ∧ (¬ (v0 = ((59 : Int32))) → ((v0 = ((60 : Int32))) → (((1 : Int32)) = 0 ∨ ((1 : Int32)) = 1) ∧ post ((1 : Int32))) ∧ (¬ (v0 = ((60 : Int32))) → ((v0 = ((61 : Int32))) → (((1 : Int32)) = 0 ∨ ((1 : Int32)) = 1) ∧ post ((1 : Int32))) ∧ (¬ (v0 = ((61 : Int32))) → ((v0 = ((62 : Int32))) → (((1 : Int32)) = 0 ∨ ((1 : Int32)) = 1) ∧ post ((1 : Int32))) ∧ (¬ (v0 = ((62 : Int32))) → ((v0 = ((123 : Int32))) → (((1 : Int32)) = 0 ∨ ((1 : Int32)) = 1) ∧ post ((1 : Int32))) ∧ (¬ (v0 = ((123 : Int32))) → ((¬ v0 = ((125 : Int32))) → (((0 : Int32)) = 0 ∨ ((0 : Int32)) = 1) ∧ post ((0 : Int32))) ∧ (¬ (¬ v0 = ((125 : Int32))) → (((1 : Int32)) = 0 ∨ ((1 : Int32)) = 1) ∧ post ((1 : Int32)))))))))))
theorem g_Tp_isSign {d w : Nat} (hd : 0 ≤ d) (hw : 0 ≤ w) {post : Int32 → Prop} {v0 : Int32} {M : aM} (h : w_Tp_isSign post v0 M) : Gd d w 62 (pIn M post) (0, aEnt 62 [aI v0], [], M) := by
  unfold w_Tp_isSign at h
  show Gd d w 62 _ (0, [some (aI v0)], [], M)
  refine gd_s (P := True ∧ True ∧ True) (σ1 := (3, [some (aI v0)], [aI ((40 : Int32)), aI v0], M)) tc_62 rfl 2 (fun u => ⟨_, rfl⟩) ⟨trivial, trivial, trivial⟩ ?_
  refine gd_br (c := v0 = ((40 : Int32))) (st1 := []) tc_62 rfl rfl (fun _ => rfl) ⟨fun hc => ?_, fun hc => ?_⟩
  · have h := h.1 hc
    show Gd d w 62 _ (54, [some (aI v0)], [], M)
    refine gd_s (P := True ∧ True ∧ True) (σ1 := (59, [some (aI v0)], [aI ((1 : Int32))], M)) tc_62 rfl 2 (fun u => ⟨_, rfl⟩) ⟨trivial, trivial, trivial⟩ ?_
    exact gd_ret tc_62 rfl rfl h.1 (fun _ => rfl) ⟨_, rfl, rfl, h.2⟩
  · have h := h.2 hc
    show Gd d w 62 _ (6, [some (aI v0)], [], M)
    refine gd_s (P := True ∧ True ∧ True) (σ1 := (9, [some (aI v0)], [aI ((41 : Int32)), aI v0], M)) tc_62 rfl 2 (fun u => ⟨_, rfl⟩) ⟨trivial, trivial, trivial⟩ ?_
    refine gd_br (c := v0 = ((41 : Int32))) (st1 := []) tc_62 rfl rfl (fun _ => rfl) ⟨fun hc => ?_, fun hc => ?_⟩
    · have h := h.1 hc
      show Gd d w 62 _ (54, [some (aI v0)], [], M)
      refine gd_s (P := True ∧ True ∧ True) (σ1 := (59, [some (aI v0)], [aI ((1 : Int32))], M)) tc_62 rfl 2 (fun u => ⟨_, rfl⟩) ⟨trivial, trivial, trivial⟩ ?_
      exact gd_ret tc_62 rfl rfl h.1 (fun _ => rfl) ⟨_, rfl, rfl, h.2⟩
    · have h := h.2 hc
      show Gd d w 62 _ (12, [some (aI v0)], [], M)
      refine gd_s (P := True ∧ True ∧ True) (σ1 := (15, [some (aI v0)], [aI ((44 : Int32)), aI v0], M)) tc_62 rfl 2 (fun u => ⟨_, rfl⟩) ⟨trivial, trivial, trivial⟩ ?_
      refine gd_br (c := v0 = ((44 : Int32))) (st1 := []) tc_62 rfl rfl (fun _ => rfl) ⟨fun hc => ?_, fun hc => ?_⟩
      · have h := h.1 hc
        show Gd d w 62 _ (54, [some (aI v0)], [], M)
        refine gd_s (P := True ∧ True ∧ True) (σ1 := (59, [some (aI v0)], [aI ((1 : Int32))], M)) tc_62 rfl 2 (fun u => ⟨_, rfl⟩) ⟨trivial, trivial, trivial⟩ ?_
        exact gd_ret tc_62 rfl rfl h.1 (fun _ => rfl) ⟨_, rfl, rfl, h.2⟩
      · have h := h.2 hc
        show Gd d w 62 _ (18, [some (aI v0)], [], M)
        refine gd_s (P := True ∧ True ∧ True) (σ1 := (21, [some (aI v0)], [aI ((59 : Int32)), aI v0], M)) tc_62 rfl 2 (fun u => ⟨_, rfl⟩) ⟨trivial, trivial, trivial⟩ ?_
        refine gd_br (c := v0 = ((59 : Int32))) (st1 := []) tc_62 rfl rfl (fun _ => rfl) ⟨fun hc => ?_, fun hc => ?_⟩
        · have h := h.1 hc
          show Gd d w 62 _ (54, [some (aI v0)], [], M)
          refine gd_s (P := True ∧ True ∧ True) (σ1 := (59, [some (aI v0)], [aI ((1 : Int32))], M)) tc_62 rfl 2 (fun u => ⟨_, rfl⟩) ⟨trivial, trivial, trivial⟩ ?_
          exact gd_ret tc_62 rfl rfl h.1 (fun _ => rfl) ⟨_, rfl, rfl, h.2⟩
        · have h := h.2 hc
          show Gd d w 62 _ (24, [some (aI v0)], [], M)
          refine gd_s (P := True ∧ True ∧ True) (σ1 := (27, [some (aI v0)], [aI ((60 : Int32)), aI v0], M)) tc_62 rfl 2 (fun u => ⟨_, rfl⟩) ⟨trivial, trivial, trivial⟩ ?_
          refine gd_br (c := v0 = ((60 : Int32))) (st1 := []) tc_62 rfl rfl (fun _ => rfl) ⟨fun hc => ?_, fun hc => ?_⟩
          · have h := h.1 hc
            show Gd d w 62 _ (54, [some (aI v0)], [], M)
            refine gd_s (P := True ∧ True ∧ True) (σ1 := (59, [some (aI v0)], [aI ((1 : Int32))], M)) tc_62 rfl 2 (fun u => ⟨_, rfl⟩) ⟨trivial, trivial, trivial⟩ ?_
            exact gd_ret tc_62 rfl rfl h.1 (fun _ => rfl) ⟨_, rfl, rfl, h.2⟩
          · have h := h.2 hc
            show Gd d w 62 _ (30, [some (aI v0)], [], M)
            refine gd_s (P := True ∧ True ∧ True) (σ1 := (33, [some (aI v0)], [aI ((61 : Int32)), aI v0], M)) tc_62 rfl 2 (fun u => ⟨_, rfl⟩) ⟨trivial, trivial, trivial⟩ ?_
            refine gd_br (c := v0 = ((61 : Int32))) (st1 := []) tc_62 rfl rfl (fun _ => rfl) ⟨fun hc => ?_, fun hc => ?_⟩
            · have h := h.1 hc
              show Gd d w 62 _ (54, [some (aI v0)], [], M)
              refine gd_s (P := True ∧ True ∧ True) (σ1 := (59, [some (aI v0)], [aI ((1 : Int32))], M)) tc_62 rfl 2 (fun u => ⟨_, rfl⟩) ⟨trivial, trivial, trivial⟩ ?_
              exact gd_ret tc_62 rfl rfl h.1 (fun _ => rfl) ⟨_, rfl, rfl, h.2⟩
            · have h := h.2 hc
              show Gd d w 62 _ (36, [some (aI v0)], [], M)
              refine gd_s (P := True ∧ True ∧ True) (σ1 := (39, [some (aI v0)], [aI ((62 : Int32)), aI v0], M)) tc_62 rfl 2 (fun u => ⟨_, rfl⟩) ⟨trivial, trivial, trivial⟩ ?_
              refine gd_br (c := v0 = ((62 : Int32))) (st1 := []) tc_62 rfl rfl (fun _ => rfl) ⟨fun hc => ?_, fun hc => ?_⟩
              · have h := h.1 hc
                show Gd d w 62 _ (54, [some (aI v0)], [], M)
                refine gd_s (P := True ∧ True ∧ True) (σ1 := (59, [some (aI v0)], [aI ((1 : Int32))], M)) tc_62 rfl 2 (fun u => ⟨_, rfl⟩) ⟨trivial, trivial, trivial⟩ ?_
                exact gd_ret tc_62 rfl rfl h.1 (fun _ => rfl) ⟨_, rfl, rfl, h.2⟩
              · have h := h.2 hc
                show Gd d w 62 _ (42, [some (aI v0)], [], M)
                refine gd_s (P := True ∧ True ∧ True) (σ1 := (45, [some (aI v0)], [aI ((123 : Int32)), aI v0], M)) tc_62 rfl 2 (fun u => ⟨_, rfl⟩) ⟨trivial, trivial, trivial⟩ ?_
                refine gd_br (c := v0 = ((123 : Int32))) (st1 := []) tc_62 rfl rfl (fun _ => rfl) ⟨fun hc => ?_, fun hc => ?_⟩
                · have h := h.1 hc
                  show Gd d w 62 _ (54, [some (aI v0)], [], M)
                  refine gd_s (P := True ∧ True ∧ True) (σ1 := (59, [some (aI v0)], [aI ((1 : Int32))], M)) tc_62 rfl 2 (fun u => ⟨_, rfl⟩) ⟨trivial, trivial, trivial⟩ ?_
                  exact gd_ret tc_62 rfl rfl h.1 (fun _ => rfl) ⟨_, rfl, rfl, h.2⟩
                · have h := h.2 hc
                  show Gd d w 62 _ (48, [some (aI v0)], [], M)
                  refine gd_s (P := True ∧ True ∧ True) (σ1 := (51, [some (aI v0)], [aI ((125 : Int32)), aI v0], M)) tc_62 rfl 2 (fun u => ⟨_, rfl⟩) ⟨trivial, trivial, trivial⟩ ?_
                  refine gd_br (c := ¬ v0 = ((125 : Int32))) (st1 := []) tc_62 rfl rfl (fun _ => rfl) ⟨fun hc => ?_, fun hc => ?_⟩
                  · have h := h.1 hc
                    show Gd d w 62 _ (58, [some (aI v0)], [], M)
                    refine gd_s (P := True ∧ True) (σ1 := (59, [some (aI v0)], [aI ((0 : Int32))], M)) tc_62 rfl 1 (fun u => ⟨_, rfl⟩) ⟨trivial, trivial⟩ ?_
                    exact gd_ret tc_62 rfl rfl h.1 (fun _ => rfl) ⟨_, rfl, rfl, h.2⟩
                  · have h := h.2 hc
                    show Gd d w 62 _ (54, [some (aI v0)], [], M)
                    refine gd_s (P := True ∧ True ∧ True) (σ1 := (59, [some (aI v0)], [aI ((1 : Int32))], M)) tc_62 rfl 2 (fun u => ⟨_, rfl⟩) ⟨trivial, trivial, trivial⟩ ?_
                    exact gd_ret tc_62 rfl rfl h.1 (fun _ => rfl) ⟨_, rfl, rfl, h.2⟩
theorem tc_63 : tC 63 = c63 := rfl
def w_Tp_addToken_J40 (post : aM → Prop) (k0 : Nat) (M : aM) : Prop := post (wI M k0 5 ((rI M k0 5) + ((1 : Int32))))
theorem g_Tp_addToken_J40 {d w : Nat} (hd : 0 ≤ d) (hw : 0 ≤ w) {post : aM → Prop} (k0 : Nat) (o1 o2 o3 : Option aV) (M : aM) (h : w_Tp_addToken_J40 post k0 M) : Gd d w 63 (pV post) (40, [some (aR 12 k0), o1, o2, o3], [], M) := by
  unfold w_Tp_addToken_J40 at h
  show Gd d w 63 _ (40, [some (aR 12 k0), o1, o2, o3], [], M)
  refine gd_s (P := True ∧ True ∧ True ∧ True ∧ True ∧ True ∧ True) (σ1 := (50, [some (aR 12 k0), o1, o2, o3], [], wI M k0 5 ((rI M k0 5) + ((1 : Int32))))) tc_63 rfl 6 (fun u => ⟨_, rfl⟩) ⟨trivial, trivial, trivial, trivial, trivial, trivial, trivial⟩ ?_
  exact gd_ret tc_63 rfl rfl trivial (fun _ => rfl) ⟨rfl, h⟩
def w_Tp_addToken_J30 (post : aM → Prop) (k0 : Nat) (v3 : Int32) (M : aM) : Prop := (vp_in (rI M k0 5) (rK M (k0 + 4)).2) ∧ (w_Tp_addToken_J40 post k0 (wI M (k0 + 4) (rI M k0 5).toNatClampNeg v3))
theorem g_Tp_addToken_J30 {d w : Nat} (hd : 0 ≤ d) (hw : 0 ≤ w) {post : aM → Prop} (k0 : Nat) (v3 : Int32) (o1 o2 : Option aV) (M : aM) (h : w_Tp_addToken_J30 post k0 v3 M) : Gd d w 63 (pV post) (30, [some (aR 12 k0), o1, o2, some (aI v3)], [], M) := by
  unfold w_Tp_addToken_J30 at h
  show Gd d w 63 _ (30, [some (aR 12 k0), o1, o2, some (aI v3)], [], M)
  obtain ⟨c0, h⟩ := h
  refine gd_s (P := True ∧ True ∧ True ∧ True ∧ True ∧ (vp_in (rI M k0 5) (rK M (k0 + 4)).2) ∧ True) (σ1 := (40, [some (aR 12 k0), o1, o2, some (aI v3)], [], wI M (k0 + 4) (rI M k0 5).toNatClampNeg v3)) tc_63 rfl 6 (fun u => ⟨_, rfl⟩) ⟨trivial, trivial, trivial, trivial, trivial, c0, trivial⟩ ?_
  exact g_Tp_addToken_J40 hd hw k0 o1 o2 (some (aI v3)) (wI M (k0 + 4) (rI M k0 5).toNatClampNeg v3) h
def w_Tp_addToken_J20 (post : aM → Prop) (k0 : Nat) (v2 : Int32) (v3 : Int32) (M : aM) : Prop := (vp_in (rI M k0 5) (rK M (k0 + 3)).2) ∧ (w_Tp_addToken_J30 post k0 v3 (wI M (k0 + 3) (rI M k0 5).toNatClampNeg v2))
theorem g_Tp_addToken_J20 {d w : Nat} (hd : 0 ≤ d) (hw : 0 ≤ w) {post : aM → Prop} (k0 : Nat) (v2 : Int32) (v3 : Int32) (o1 : Option aV) (M : aM) (h : w_Tp_addToken_J20 post k0 v2 v3 M) : Gd d w 63 (pV post) (20, [some (aR 12 k0), o1, some (aI v2), some (aI v3)], [], M) := by
  unfold w_Tp_addToken_J20 at h
  show Gd d w 63 _ (20, [some (aR 12 k0), o1, some (aI v2), some (aI v3)], [], M)
  obtain ⟨c0, h⟩ := h
  refine gd_s (P := True ∧ True ∧ True ∧ True ∧ True ∧ (vp_in (rI M k0 5) (rK M (k0 + 3)).2) ∧ True) (σ1 := (30, [some (aR 12 k0), o1, some (aI v2), some (aI v3)], [], wI M (k0 + 3) (rI M k0 5).toNatClampNeg v2)) tc_63 rfl 6 (fun u => ⟨_, rfl⟩) ⟨trivial, trivial, trivial, trivial, trivial, c0, trivial⟩ ?_
  exact g_Tp_addToken_J30 hd hw k0 v3 o1 (some (aI v2)) (wI M (k0 + 3) (rI M k0 5).toNatClampNeg v2) h
/-- PolicyJudge$Tape.addToken(III)V -/
def w_Tp_addToken (post : aM → Prop) (k0 : Nat) (v1 : Int32) (v2 : Int32) (v3 : Int32) (M : aM) : Prop := ((((6000 : Int32)) < (rI M k0 5)) → post M) ∧ (¬ (((6000 : Int32)) < (rI M k0 5)) → (vp_in (rI M k0 5) (rK M (k0 + 2)).2) ∧ (w_Tp_addToken_J20 post k0 v2 v3 (wI M (k0 + 2) (rI M k0 5).toNatClampNeg v1)))
theorem g_Tp_addToken {d w : Nat} (hd : 0 ≤ d) (hw : 0 ≤ w) {post : aM → Prop} {k0 : Nat} {v1 : Int32} {v2 : Int32} {v3 : Int32} {M : aM} (h : w_Tp_addToken post k0 v1 v2 v3 M) : Gd d w 63 (pV post) (0, aEnt 63 [aR 12 k0, aI v1, aI v2, aI v3], [], M) := by
  unfold w_Tp_addToken at h
  show Gd d w 63 _ (0, [some (aR 12 k0), some (aI v1), some (aI v2), some (aI v3)], [], M)
  refine gd_s (P := True ∧ True ∧ True ∧ True) (σ1 := (7, [some (aR 12 k0), some (aI v1), some (aI v2), some (aI v3)], [aI ((6000 : Int32)), aI (rI M k0 5)], M)) tc_63 rfl 3 (fun u => ⟨_, rfl⟩) ⟨trivial, trivial, trivial, trivial⟩ ?_
  refine gd_br (c := ((6000 : Int32)) < (rI M k0 5)) (st1 := []) tc_63 rfl rfl (fun _ => rfl) ⟨fun hc => ?_, fun hc => ?_⟩
  · have h := h.1 hc
    show Gd d w 63 _ (50, [some (aR 12 k0), some (aI v1), some (aI v2), some (aI v3)], [], M)
    exact gd_ret tc_63 rfl rfl trivial (fun _ => rfl) ⟨rfl, h⟩
  · have h := h.2 hc
    show Gd d w 63 _ (10, [some (aR 12 k0), some (aI v1), some (aI v2), some (aI v3)], [], M)
    obtain ⟨c0, h⟩ := h
    refine gd_s (P := True ∧ True ∧ True ∧ True ∧ True ∧ (vp_in (rI M k0 5) (rK M (k0 + 2)).2) ∧ True) (σ1 := (20, [some (aR 12 k0), some (aI v1), some (aI v2), some (aI v3)], [], wI M (k0 + 2) (rI M k0 5).toNatClampNeg v1)) tc_63 rfl 6 (fun u => ⟨_, rfl⟩) ⟨trivial, trivial, trivial, trivial, trivial, c0, trivial⟩ ?_
    exact g_Tp_addToken_J20 hd hw k0 v2 v3 (some (aI v1)) (wI M (k0 + 2) (rI M k0 5).toNatClampNeg v1) h
theorem tc_65 : tC 65 = c65 := rfl
def w_Tp_isLetter_J12 (M : aM) (post : Int32 → Prop) (v0 : Int32) : Prop := ((v0 < ((65 : Int32))) → (((0 : Int32)) = 0 ∨ ((0 : Int32)) = 1) ∧ post ((0 : Int32))) ∧ (¬ (v0 < ((65 : Int32))) → ((((90 : Int32)) < v0) → (((0 : Int32)) = 0 ∨ ((0 : Int32)) = 1) ∧ post ((0 : Int32))) ∧ (¬ (((90 : Int32)) < v0) → (((1 : Int32)) = 0 ∨ ((1 : Int32)) = 1) ∧ post ((1 : Int32))))
theorem g_Tp_isLetter_J12 {d w : Nat} (hd : 0 ≤ d) (hw : 0 ≤ w) {M : aM} {post : Int32 → Prop} (v0 : Int32) (h : w_Tp_isLetter_J12 M post v0) : Gd d w 65 (pIn M post) (12, [some (aI v0)], [], M) := by
  unfold w_Tp_isLetter_J12 at h
  show Gd d w 65 _ (12, [some (aI v0)], [], M)
  refine gd_s (P := True ∧ True ∧ True) (σ1 := (15, [some (aI v0)], [aI ((65 : Int32)), aI v0], M)) tc_65 rfl 2 (fun u => ⟨_, rfl⟩) ⟨trivial, trivial, trivial⟩ ?_
  refine gd_br (c := v0 < ((65 : Int32))) (st1 := []) tc_65 rfl rfl (fun _ => rfl) ⟨fun hc => ?_, fun hc => ?_⟩
  · have h := h.1 hc
    show Gd d w 65 _ (28, [some (aI v0)], [], M)
    refine gd_s (P := True ∧ True) (σ1 := (29, [some (aI v0)], [aI ((0 : Int32))], M)) tc_65 rfl 1 (fun u => ⟨_, rfl⟩) ⟨trivial, trivial⟩ ?_
    exact gd_ret tc_65 rfl rfl h.1 (fun _ => rfl) ⟨_, rfl, rfl, h.2⟩
  · have h := h.2 hc
    show Gd d w 65 _ (18, [some (aI v0)], [], M)
    refine gd_s (P := True ∧ True ∧ True) (σ1 := (21, [some (aI v0)], [aI ((90 : Int32)), aI v0], M)) tc_65 rfl 2 (fun u => ⟨_, rfl⟩) ⟨trivial, trivial, trivial⟩ ?_
    refine gd_br (c := ((90 : Int32)) < v0) (st1 := []) tc_65 rfl rfl (fun _ => rfl) ⟨fun hc => ?_, fun hc => ?_⟩
    · have h := h.1 hc
      show Gd d w 65 _ (28, [some (aI v0)], [], M)
      refine gd_s (P := True ∧ True) (σ1 := (29, [some (aI v0)], [aI ((0 : Int32))], M)) tc_65 rfl 1 (fun u => ⟨_, rfl⟩) ⟨trivial, trivial⟩ ?_
      exact gd_ret tc_65 rfl rfl h.1 (fun _ => rfl) ⟨_, rfl, rfl, h.2⟩
    · have h := h.2 hc
      show Gd d w 65 _ (24, [some (aI v0)], [], M)
      refine gd_s (P := True ∧ True ∧ True) (σ1 := (29, [some (aI v0)], [aI ((1 : Int32))], M)) tc_65 rfl 2 (fun u => ⟨_, rfl⟩) ⟨trivial, trivial, trivial⟩ ?_
      exact gd_ret tc_65 rfl rfl h.1 (fun _ => rfl) ⟨_, rfl, rfl, h.2⟩
/-- PolicyJudge$Tape.isLetter(I)Z -/
def w_Tp_isLetter (post : Int32 → Prop) (v0 : Int32) (M : aM) : Prop := ((v0 < ((97 : Int32))) → w_Tp_isLetter_J12 M post v0) ∧ (¬ (v0 < ((97 : Int32))) → ((v0 ≤ ((122 : Int32))) → (((1 : Int32)) = 0 ∨ ((1 : Int32)) = 1) ∧ post ((1 : Int32))) ∧ (¬ (v0 ≤ ((122 : Int32))) → w_Tp_isLetter_J12 M post v0))
theorem g_Tp_isLetter {d w : Nat} (hd : 0 ≤ d) (hw : 0 ≤ w) {post : Int32 → Prop} {v0 : Int32} {M : aM} (h : w_Tp_isLetter post v0 M) : Gd d w 65 (pIn M post) (0, aEnt 65 [aI v0], [], M) := by
  unfold w_Tp_isLetter at h
  show Gd d w 65 _ (0, [some (aI v0)], [], M)
  refine gd_s (P := True ∧ True ∧ True) (σ1 := (3, [some (aI v0)], [aI ((97 : Int32)), aI v0], M)) tc_65 rfl 2 (fun u => ⟨_, rfl⟩) ⟨trivial, trivial, trivial⟩ ?_
  refine gd_br (c := v0 < ((97 : Int32))) (st1 := []) tc_65 rfl rfl (fun _ => rfl) ⟨fun hc => ?_, fun hc => ?_⟩
  · have h := h.1 hc
    exact g_Tp_isLetter_J12 hd hw v0 h
  · have h := h.2 hc
    show Gd d w 65 _ (6, [some (aI v0)], [], M)
    refine gd_s (P := True ∧ True ∧ True) (σ1 := (9, [some (aI v0)], [aI ((122 : Int32)), aI v0], M)) tc_65 rfl 2 (fun u => ⟨_, rfl⟩) ⟨trivial, trivial, trivial⟩ ?_
    refine gd_br (c := v0 ≤ ((122 : Int32))) (st1 := []) tc_65 rfl rfl (fun _ => rfl) ⟨fun hc => ?_, fun hc => ?_⟩
    · have h := h.1 hc
      show Gd d w 65 _ (24, [some (aI v0)], [], M)
      refine gd_s (P := True ∧ True ∧ True) (σ1 := (29, [some (aI v0)], [aI ((1 : Int32))], M)) tc_65 rfl 2 (fun u => ⟨_, rfl⟩) ⟨trivial, trivial, trivial⟩ ?_
      exact gd_ret tc_65 rfl rfl h.1 (fun _ => rfl) ⟨_, rfl, rfl, h.2⟩
    · have h := h.2 hc
      exact g_Tp_isLetter_J12 hd hw v0 h
theorem tc_66 : tC 66 = c66 := rfl
/-- PolicyJudge$Tape.isDigit(I)Z -/
def w_Tp_isDigit (post : Int32 → Prop) (v0 : Int32) (M : aM) : Prop := ((v0 < ((48 : Int32))) → (((0 : Int32)) = 0 ∨ ((0 : Int32)) = 1) ∧ post ((0 : Int32))) ∧ (¬ (v0 < ((48 : Int32))) → ((((57 : Int32)) < v0) → (((0 : Int32)) = 0 ∨ ((0 : Int32)) = 1) ∧ post ((0 : Int32))) ∧ (¬ (((57 : Int32)) < v0) → (((1 : Int32)) = 0 ∨ ((1 : Int32)) = 1) ∧ post ((1 : Int32))))
theorem g_Tp_isDigit {d w : Nat} (hd : 0 ≤ d) (hw : 0 ≤ w) {post : Int32 → Prop} {v0 : Int32} {M : aM} (h : w_Tp_isDigit post v0 M) : Gd d w 66 (pIn M post) (0, aEnt 66 [aI v0], [], M) := by
  unfold w_Tp_isDigit at h
  show Gd d w 66 _ (0, [some (aI v0)], [], M)
  refine gd_s (P := True ∧ True ∧ True) (σ1 := (3, [some (aI v0)], [aI ((48 : Int32)), aI v0], M)) tc_66 rfl 2 (fun u => ⟨_, rfl⟩) ⟨trivial, trivial, trivial⟩ ?_
  refine gd_br (c := v0 < ((48 : Int32))) (st1 := []) tc_66 rfl rfl (fun _ => rfl) ⟨fun hc => ?_, fun hc => ?_⟩
  · have h := h.1 hc
    show Gd d w 66 _ (16, [some (aI v0)], [], M)
    refine gd_s (P := True ∧ True) (σ1 := (17, [some (aI v0)], [aI ((0 : Int32))], M)) tc_66 rfl 1 (fun u => ⟨_, rfl⟩) ⟨trivial, trivial⟩ ?_
    exact gd_ret tc_66 rfl rfl h.1 (fun _ => rfl) ⟨_, rfl, rfl, h.2⟩
  · have h := h.2 hc
    show Gd d w 66 _ (6, [some (aI v0)], [], M)
    refine gd_s (P := True ∧ True ∧ True) (σ1 := (9, [some (aI v0)], [aI ((57 : Int32)), aI v0], M)) tc_66 rfl 2 (fun u => ⟨_, rfl⟩) ⟨trivial, trivial, trivial⟩ ?_
    refine gd_br (c := ((57 : Int32)) < v0) (st1 := []) tc_66 rfl rfl (fun _ => rfl) ⟨fun hc => ?_, fun hc => ?_⟩
    · have h := h.1 hc
      show Gd d w 66 _ (16, [some (aI v0)], [], M)
      refine gd_s (P := True ∧ True) (σ1 := (17, [some (aI v0)], [aI ((0 : Int32))], M)) tc_66 rfl 1 (fun u => ⟨_, rfl⟩) ⟨trivial, trivial⟩ ?_
      exact gd_ret tc_66 rfl rfl h.1 (fun _ => rfl) ⟨_, rfl, rfl, h.2⟩
    · have h := h.2 hc
      show Gd d w 66 _ (12, [some (aI v0)], [], M)
      refine gd_s (P := True ∧ True ∧ True) (σ1 := (17, [some (aI v0)], [aI ((1 : Int32))], M)) tc_66 rfl 2 (fun u => ⟨_, rfl⟩) ⟨trivial, trivial, trivial⟩ ?_
      exact gd_ret tc_66 rfl rfl h.1 (fun _ => rfl) ⟨_, rfl, rfl, h.2⟩
theorem tc_64 : tC 64 = c64 := rfl
def w_Tp_runLength_L2 (M : aM) (post : Int32 → Prop) : Nat → Nat → Int32 → Int32 → Prop
  | 0, _, _, _ => False
  | n + 1, k0, v1, v2 => (((rI M k0 1) ≤ v2) → post (v2 - v1)) ∧ (¬ ((rI M k0 1) ≤ v2) → (vp_in v2 (rK M (k0 + 1)).2) ∧ (w_Tp_isLetter (fun x1 => ((¬ x1 = ((0 : Int32))) → w_Tp_runLength_L2 M post n k0 v1 (v2 + (1 : Int32))) ∧ (¬ (¬ x1 = ((0 : Int32))) → (vp_in v2 (rK M (k0 + 1)).2) ∧ (w_Tp_isDigit (fun x2 => ((¬ x2 = ((0 : Int32))) → w_Tp_runLength_L2 M post n k0 v1 (v2 + (1 : Int32))) ∧ (¬ (¬ x2 = ((0 : Int32))) → (vp_in v2 (rK M (k0 + 1)).2) ∧ (((¬ (rI M (k0 + 1) v2.toNatClampNeg) = ((95 : Int32))) → post (v2 - v1)) ∧ (¬ (¬ (rI M (k0 + 1) v2.toNatClampNeg) = ((95 : Int32))) → w_Tp_runLength_L2 M post n k0 v1 (v2 + (1 : Int32)))))) (rI M (k0 + 1) v2.toNatClampNeg) M))) (rI M (k0 + 1) v2.toNatClampNeg) M))
theorem g_Tp_runLength_L2 {d w : Nat} (hd : 1 ≤ d) (hw : 20 ≤ w) {M : aM} {post : Int32 → Prop} : ∀ (n : Nat) (k0 : Nat) (v1 : Int32) (v2 : Int32), w_Tp_runLength_L2 M post n k0 v1 v2 → Gd d w 64 (pIn M post) (2, [some (aR 12 k0), some (aI v1), some (aI v2)], [], M) := by
  intro n
  induction n with
  | zero => intro k0 v1 v2 h; exact h.elim
  | succ n ih =>
    intro k0 v1 v2 h
    show Gd d w 64 _ (2, [some (aR 12 k0), some (aI v1), some (aI v2)], [], M)
    refine gd_s (P := True ∧ True ∧ True ∧ True) (σ1 := (7, [some (aR 12 k0), some (aI v1), some (aI v2)], [aI (rI M k0 1), aI v2], M)) tc_64 rfl 3 (fun u => ⟨_, rfl⟩) ⟨trivial, trivial, trivial, trivial⟩ ?_
    refine gd_br (c := (rI M k0 1) ≤ v2) (st1 := []) tc_64 rfl rfl (fun _ => rfl) ⟨fun hc => ?_, fun hc => ?_⟩
    · have h := h.1 hc
      show Gd d w 64 _ (51, [some (aR 12 k0), some (aI v1), some (aI v2)], [], M)
      refine gd_s (P := True ∧ True ∧ True ∧ True) (σ1 := (54, [some (aR 12 k0), some (aI v1), some (aI v2)], [aI (v2 - v1)], M)) tc_64 rfl 3 (fun u => ⟨_, rfl⟩) ⟨trivial, trivial, trivial, trivial⟩ ?_
      exact gd_ret tc_64 rfl rfl trivial (fun _ => rfl) ⟨_, rfl, rfl, h⟩
    · have h := h.2 hc
      show Gd d w 64 _ (10, [some (aR 12 k0), some (aI v1), some (aI v2)], [], M)
      obtain ⟨c0, h⟩ := h
      refine gd_s (P := True ∧ True ∧ True ∧ (vp_in v2 (rK M (k0 + 1)).2) ∧ True) (σ1 := (16, [some (aR 12 k0), some (aI v1), some (aI v2)], [aI (rI M (k0 + 1) v2.toNatClampNeg)], M)) tc_64 rfl 4 (fun u => ⟨_, rfl⟩) ⟨trivial, trivial, trivial, c0, trivial⟩ ?_
      refine gd_callN (ml := 1) (as := [aI (rI M (k0 + 1) v2.toNatClampNeg)]) (rest := []) tc_64 rfl rfl rfl rfl rfl (by omega) (by omega) (Nat.le_of_ble_eq_true rfl) rfl (g_Tp_isLetter (by omega) (by omega) h) (fun r9 M9 h => ?_)
      obtain ⟨x1, rfl, e9, h⟩ := h
      subst M9
      show Gd d w 64 _ (19, [some (aR 12 k0), some (aI v1), some (aI v2)], [aI x1], M)
      refine gd_br (c := ¬ x1 = ((0 : Int32))) (st1 := []) tc_64 rfl rfl (fun _ => rfl) ⟨fun hc => ?_, fun hc => ?_⟩
      · have h := h.1 hc
        show Gd d w 64 _ (45, [some (aR 12 k0), some (aI v1), some (aI v2)], [], M)
        refine gd_s (P := True ∧ True ∧ True) (σ1 := (2, [some (aR 12 k0), some (aI v1), some (aI (v2 + (1 : Int32)))], [], M)) tc_64 rfl 2 (fun u => ⟨_, rfl⟩) ⟨trivial, trivial, trivial⟩ ?_
        exact ih k0 v1 (v2 + (1 : Int32)) h
      · have h := h.2 hc
        show Gd d w 64 _ (22, [some (aR 12 k0), some (aI v1), some (aI v2)], [], M)
        obtain ⟨c0, h⟩ := h
        refine gd_s (P := True ∧ True ∧ True ∧ (vp_in v2 (rK M (k0 + 1)).2) ∧ True) (σ1 := (28, [some (aR 12 k0), some (aI v1), some (aI v2)], [aI (rI M (k0 + 1) v2.toNatClampNeg)], M)) tc_64 rfl 4 (fun u => ⟨_, rfl⟩) ⟨trivial, trivial, trivial, c0, trivial⟩ ?_
        refine gd_callN (ml := 1) (as := [aI (rI M (k0 + 1) v2.toNatClampNeg)]) (rest := []) tc_64 rfl rfl rfl rfl rfl (by omega) (by omega) (Nat.le_of_ble_eq_true rfl) rfl (g_Tp_isDigit (by omega) (by omega) h) (fun r9 M9 h => ?_)
        obtain ⟨x2, rfl, e9, h⟩ := h
        subst M9
        show Gd d w 64 _ (31, [some (aR 12 k0), some (aI v1), some (aI v2)], [aI x2], M)
        refine gd_br (c := ¬ x2 = ((0 : Int32))) (st1 := []) tc_64 rfl rfl (fun _ => rfl) ⟨fun hc => ?_, fun hc => ?_⟩
        · have h := h.1 hc
          show Gd d w 64 _ (45, [some (aR 12 k0), some (aI v1), some (aI v2)], [], M)
          refine gd_s (P := True ∧ True ∧ True) (σ1 := (2, [some (aR 12 k0), some (aI v1), some (aI (v2 + (1 : Int32)))], [], M)) tc_64 rfl 2 (fun u => ⟨_, rfl⟩) ⟨trivial, trivial, trivial⟩ ?_
          exact ih k0 v1 (v2 + (1 : Int32)) h
        · have h := h.2 hc
          show Gd d w 64 _ (34, [some (aR 12 k0), some (aI v1), some (aI v2)], [], M)
          obtain ⟨c0, h⟩ := h
          refine gd_s (P := True ∧ True ∧ True ∧ (vp_in v2 (rK M (k0 + 1)).2) ∧ True ∧ True) (σ1 := (42, [some (aR 12 k0), some (aI v1), some (aI v2)], [aI ((95 : Int32)), aI (rI M (k0 + 1) v2.toNatClampNeg)], M)) tc_64 rfl 5 (fun u => ⟨_, rfl⟩) ⟨trivial, trivial, trivial, c0, trivial, trivial⟩ ?_
          refine gd_br (c := ¬ (rI M (k0 + 1) v2.toNatClampNeg) = ((95 : Int32))) (st1 := []) tc_64 rfl rfl (fun _ => rfl) ⟨fun hc => ?_, fun hc => ?_⟩
          · have h := h.1 hc
            show Gd d w 64 _ (51, [some (aR 12 k0), some (aI v1), some (aI v2)], [], M)
            refine gd_s (P := True ∧ True ∧ True ∧ True) (σ1 := (54, [some (aR 12 k0), some (aI v1), some (aI v2)], [aI (v2 - v1)], M)) tc_64 rfl 3 (fun u => ⟨_, rfl⟩) ⟨trivial, trivial, trivial, trivial⟩ ?_
            exact gd_ret tc_64 rfl rfl trivial (fun _ => rfl) ⟨_, rfl, rfl, h⟩
          · have h := h.2 hc
            show Gd d w 64 _ (45, [some (aR 12 k0), some (aI v1), some (aI v2)], [], M)
            refine gd_s (P := True ∧ True ∧ True) (σ1 := (2, [some (aR 12 k0), some (aI v1), some (aI (v2 + (1 : Int32)))], [], M)) tc_64 rfl 2 (fun u => ⟨_, rfl⟩) ⟨trivial, trivial, trivial⟩ ?_
            exact ih k0 v1 (v2 + (1 : Int32)) h
/-- PolicyJudge$Tape.runLength(I)I -/
def w_Tp_runLength (post : Int32 → Prop) (k0 : Nat) (v1 : Int32) (M : aM) : Prop := ∃ n9, w_Tp_runLength_L2 M post n9 k0 v1 v1
theorem g_Tp_runLength {d w : Nat} (hd : 1 ≤ d) (hw : 20 ≤ w) {post : Int32 → Prop} {k0 : Nat} {v1 : Int32} {M : aM} (h : w_Tp_runLength post k0 v1 M) : Gd d w 64 (pIn M post) (0, aEnt 64 [aR 12 k0, aI v1], [], M) := by
  unfold w_Tp_runLength at h
  show Gd d w 64 _ (0, [some (aR 12 k0), some (aI v1), none], [], M)
  refine gd_s (P := True ∧ True ∧ True) (σ1 := (2, [some (aR 12 k0), some (aI v1), some (aI v1)], [], M)) tc_64 rfl 2 (fun u => ⟨_, rfl⟩) ⟨trivial, trivial, trivial⟩ ?_
  obtain ⟨n9, h⟩ := h
  exact g_Tp_runLength_L2 hd hw n9 k0 v1 v1 h
theorem tc_67 : tC 67 = c67 := rfl
/-- PolicyJudge$Tape.wordAt(II)I -/
def w_Tp_wordAt (post : Int32 → Prop) (k0 : Nat) (v1 : Int32) (v2 : Int32) (M : aM) : Prop := w_Nm_find (fun x1 => ((¬ x1 = ((-1 : Int32))) → post x1) ∧ (¬ (¬ x1 = ((-1 : Int32))) → post ((128 : Int32)))) (k0 + 5) ((28 : Int32)) (k0 + 1) v1 v2 M
theorem g_Tp_wordAt {d w : Nat} (hd : 1 ≤ d) (hw : 26 ≤ w) {post : Int32 → Prop} {k0 : Nat} {v1 : Int32} {v2 : Int32} {M : aM} (h : w_Tp_wordAt post k0 v1 v2 M) : Gd d w 67 (pIn M post) (0, aEnt 67 [aR 12 k0, aI v1, aI v2], [], M) := by
  unfold w_Tp_wordAt at h
  show Gd d w 67 _ (0, [some (aR 12 k0), some (aI v1), some (aI v2), none], [], M)
  refine gd_s (P := True ∧ True ∧ True ∧ True ∧ True ∧ True ∧ True ∧ True) (σ1 := (12, [some (aR 12 k0), some (aI v1), some (aI v2), none], [aI v2, aI v1, aR 4 (k0 + 1), aI ((28 : Int32)), aR 15 (k0 + 5)], M)) tc_67 rfl 7 (fun u => ⟨_, rfl⟩) ⟨trivial, trivial, trivial, trivial, trivial, trivial, trivial, trivial⟩ ?_
  refine gd_callN (ml := 7) (as := [aR 15 (k0 + 5), aI ((28 : Int32)), aR 4 (k0 + 1), aI v1, aI v2]) (rest := []) tc_67 rfl rfl rfl rfl rfl (by omega) (by omega) (Nat.le_of_ble_eq_true rfl) rfl (g_Nm_find (by omega) (by omega) h) (fun r9 M9 h => ?_)
  obtain ⟨x1, rfl, e9, h⟩ := h
  subst M9
  show Gd d w 67 _ (15, [some (aR 12 k0), some (aI v1), some (aI v2), none], [aI x1], M)
  refine gd_s (P := True ∧ True ∧ True ∧ True) (σ1 := (18, [some (aR 12 k0), some (aI v1), some (aI v2), some (aI x1)], [aI ((-1 : Int32)), aI x1], M)) tc_67 rfl 3 (fun u => ⟨_, rfl⟩) ⟨trivial, trivial, trivial, trivial⟩ ?_
  refine gd_br (c := ¬ x1 = ((-1 : Int32))) (st1 := []) tc_67 rfl rfl (fun _ => rfl) ⟨fun hc => ?_, fun hc => ?_⟩
  · have h := h.1 hc
    show Gd d w 67 _ (27, [some (aR 12 k0), some (aI v1), some (aI v2), some (aI x1)], [], M)
    refine gd_s (P := True ∧ True) (σ1 := (28, [some (aR 12 k0), some (aI v1), some (aI v2), some (aI x1)], [aI x1], M)) tc_67 rfl 1 (fun u => ⟨_, rfl⟩) ⟨trivial, trivial⟩ ?_
    exact gd_ret tc_67 rfl rfl trivial (fun _ => rfl) ⟨_, rfl, rfl, h⟩
  · have h := h.2 hc
    show Gd d w 67 _ (21, [some (aR 12 k0), some (aI v1), some (aI v2), some (aI x1)], [], M)
    refine gd_s (P := True ∧ True ∧ True) (σ1 := (28, [some (aR 12 k0), some (aI v1), some (aI v2), some (aI x1)], [aI ((128 : Int32))], M)) tc_67 rfl 2 (fun u => ⟨_, rfl⟩) ⟨trivial, trivial, trivial⟩ ?_
    exact gd_ret tc_67 rfl rfl trivial (fun _ => rfl) ⟨_, rfl, rfl, h⟩
theorem tc_68 : tC 68 = c68 := rfl
def w_Tp_numberAt_L12 (M : aM) (post : Int32 → Prop) : Nat → Nat → Int32 → Int32 → Int32 → Int32 → Prop
  | 0, _, _, _, _, _ => False
  | n + 1, k0, v1, v2, v3, v4 => (((v1 + v2) ≤ v4) → post v3) ∧ (¬ ((v1 + v2) ≤ v4) → (vp_in v4 (rK M (k0 + 1)).2) ∧ (w_Tp_isDigit (fun x1 => ((¬ x1 = ((0 : Int32))) → (vp_in v4 (rK M (k0 + 1)).2) ∧ (w_Tp_numberAt_L12 M post n k0 v1 v2 (((v3 * ((10 : Int32))) + (rI M (k0 + 1) v4.toNatClampNeg)) - ((48 : Int32))) (v4 + (1 : Int32)))) ∧ (¬ (¬ x1 = ((0 : Int32))) → post ((-1 : Int32)))) (rI M (k0 + 1) v4.toNatClampNeg) M))
theorem g_Tp_numberAt_L12 {d w : Nat} (hd : 1 ≤ d) (hw : 20 ≤ w) {M : aM} {post : Int32 → Prop} : ∀ (n : Nat) (k0 : Nat) (v1 : Int32) (v2 : Int32) (v3 : Int32) (v4 : Int32), w_Tp_numberAt_L12 M post n k0 v1 v2 v3 v4 → Gd d w 68 (pIn M post) (12, [some (aR 12 k0), some (aI v1), some (aI v2), some (aI v3), some (aI v4)], [], M) := by
  intro n
  induction n with
  | zero => intro k0 v1 v2 v3 v4 h; exact h.elim
  | succ n ih =>
    intro k0 v1 v2 v3 v4 h
    show Gd d w 68 _ (12, [some (aR 12 k0), some (aI v1), some (aI v2), some (aI v3), some (aI v4)], [], M)
    refine gd_s (P := True ∧ True ∧ True ∧ True ∧ True) (σ1 := (17, [some (aR 12 k0), some (aI v1), some (aI v2), some (aI v3), some (aI v4)], [aI (v1 + v2), aI v4], M)) tc_68 rfl 4 (fun u => ⟨_, rfl⟩) ⟨trivial, trivial, trivial, trivial, trivial⟩ ?_
    refine gd_br (c := (v1 + v2) ≤ v4) (st1 := []) tc_68 rfl rfl (fun _ => rfl) ⟨fun hc => ?_, fun hc => ?_⟩
    · have h := h.1 hc
      show Gd d w 68 _ (57, [some (aR 12 k0), some (aI v1), some (aI v2), some (aI v3), some (aI v4)], [], M)
      refine gd_s (P := True ∧ True) (σ1 := (58, [some (aR 12 k0), some (aI v1), some (aI v2), some (aI v3), some (aI v4)], [aI v3], M)) tc_68 rfl 1 (fun u => ⟨_, rfl⟩) ⟨trivial, trivial⟩ ?_
      exact gd_ret tc_68 rfl rfl trivial (fun _ => rfl) ⟨_, rfl, rfl, h⟩
    · have h := h.2 hc
      show Gd d w 68 _ (20, [some (aR 12 k0), some (aI v1), some (aI v2), some (aI v3), some (aI v4)], [], M)
      obtain ⟨c0, h⟩ := h
      refine gd_s (P := True ∧ True ∧ True ∧ (vp_in v4 (rK M (k0 + 1)).2) ∧ True) (σ1 := (27, [some (aR 12 k0), some (aI v1), some (aI v2), some (aI v3), some (aI v4)], [aI (rI M (k0 + 1) v4.toNatClampNeg)], M)) tc_68 rfl 4 (fun u => ⟨_, rfl⟩) ⟨trivial, trivial, trivial, c0, trivial⟩ ?_
      refine gd_callN (ml := 1) (as := [aI (rI M (k0 + 1) v4.toNatClampNeg)]) (rest := []) tc_68 rfl rfl rfl rfl rfl (by omega) (by omega) (Nat.le_of_ble_eq_true rfl) rfl (g_Tp_isDigit (by omega) (by omega) h) (fun r9 M9 h => ?_)
      obtain ⟨x1, rfl, e9, h⟩ := h
      subst M9
      show Gd d w 68 _ (30, [some (aR 12 k0), some (aI v1), some (aI v2), some (aI v3), some (aI v4)], [aI x1], M)
      refine gd_br (c := ¬ x1 = ((0 : Int32))) (st1 := []) tc_68 rfl rfl (fun _ => rfl) ⟨fun hc => ?_, fun hc => ?_⟩
      · have h := h.1 hc
        show Gd d w 68 _ (35, [some (aR 12 k0), some (aI v1), some (aI v2), some (aI v3), some (aI v4)], [], M)
        obtain ⟨c0, h⟩ := h
        refine gd_s (P := True ∧ True ∧ True ∧ True ∧ True ∧ True ∧ (vp_in v4 (rK M (k0 + 1)).2) ∧ True ∧ True ∧ True ∧ True ∧ True ∧ True ∧ True) (σ1 := (12, [some (aR 12 k0), some (aI v1), some (aI v2), some (aI (((v3 * ((10 : Int32))) + (rI M (k0 + 1) v4.toNatClampNeg)) - ((48 : Int32)))), some (aI (v4 + (1 : Int32)))], [], M)) tc_68 rfl 13 (fun u => ⟨_, rfl⟩) ⟨trivial, trivial, trivial, trivial, trivial, trivial, c0, trivial, trivial, trivial, trivial, trivial, trivial, trivial⟩ ?_
        exact ih k0 v1 v2 (((v3 * ((10 : Int32))) + (rI M (k0 + 1) v4.toNatClampNeg)) - ((48 : Int32))) (v4 + (1 : Int32)) h
      · have h := h.2 hc
        show Gd d w 68 _ (33, [some (aR 12 k0), some (aI v1), some (aI v2), some (aI v3), some (aI v4)], [], M)
        refine gd_s (P := True ∧ True) (σ1 := (34, [some (aR 12 k0), some (aI v1), some (aI v2), some (aI v3), some (aI v4)], [aI ((-1 : Int32))], M)) tc_68 rfl 1 (fun u => ⟨_, rfl⟩) ⟨trivial, trivial⟩ ?_
        exact gd_ret tc_68 rfl rfl trivial (fun _ => rfl) ⟨_, rfl, rfl, h⟩
/-- PolicyJudge$Tape.numberAt(II)I -/
def w_Tp_numberAt (post : Int32 → Prop) (k0 : Nat) (v1 : Int32) (v2 : Int32) (M : aM) : Prop := ((v2 ≤ ((3 : Int32))) → ∃ n9, w_Tp_numberAt_L12 M post n9 k0 v1 v2 ((0 : Int32)) v1) ∧ (¬ (v2 ≤ ((3 : Int32))) → post ((-1 : Int32)))
theorem g_Tp_numberAt {d w : Nat} (hd : 1 ≤ d) (hw : 20 ≤ w) {post : Int32 → Prop} {k0 : Nat} {v1 : Int32} {v2 : Int32} {M : aM} (h : w_Tp_numberAt post k0 v1 v2 M) : Gd d w 68 (pIn M post) (0, aEnt 68 [aR 12 k0, aI v1, aI v2], [], M) := by
  unfold w_Tp_numberAt at h
  show Gd d w 68 _ (0, [some (aR 12 k0), some (aI v1), some (aI v2), none, none], [], M)
  refine gd_s (P := True ∧ True ∧ True) (σ1 := (2, [some (aR 12 k0), some (aI v1), some (aI v2), none, none], [aI ((3 : Int32)), aI v2], M)) tc_68 rfl 2 (fun u => ⟨_, rfl⟩) ⟨trivial, trivial, trivial⟩ ?_
  refine gd_br (c := v2 ≤ ((3 : Int32))) (st1 := []) tc_68 rfl rfl (fun _ => rfl) ⟨fun hc => ?_, fun hc => ?_⟩
  · have h := h.1 hc
    show Gd d w 68 _ (7, [some (aR 12 k0), some (aI v1), some (aI v2), none, none], [], M)
    refine gd_s (P := True ∧ True ∧ True ∧ True ∧ True) (σ1 := (12, [some (aR 12 k0), some (aI v1), some (aI v2), some (aI ((0 : Int32))), some (aI v1)], [], M)) tc_68 rfl 4 (fun u => ⟨_, rfl⟩) ⟨trivial, trivial, trivial, trivial, trivial⟩ ?_
    obtain ⟨n9, h⟩ := h
    exact g_Tp_numberAt_L12 hd hw n9 k0 v1 v2 ((0 : Int32)) v1 h
  · have h := h.2 hc
    show Gd d w 68 _ (5, [some (aR 12 k0), some (aI v1), some (aI v2), none, none], [], M)
    refine gd_s (P := True ∧ True) (σ1 := (6, [some (aR 12 k0), some (aI v1), some (aI v2), none, none], [aI ((-1 : Int32))], M)) tc_68 rfl 1 (fun u => ⟨_, rfl⟩) ⟨trivial, trivial⟩ ?_
    exact gd_ret tc_68 rfl rfl trivial (fun _ => rfl) ⟨_, rfl, rfl, h⟩
theorem tc_60 : tC 60 = c60 := rfl
def w_Tp_cutToken_J103 (post : Int32 → aM → Prop) (v1 : Int32) (v3 : Int32) (v4 : Int32) (t0 : Nat) (s1 : Int32) (M : aM) : Prop := w_Tp_addToken (fun M1 => post v3 M1) t0 s1 v1 v4 M
theorem g_Tp_cutToken_J103 {d w : Nat} (hd : 2 ≤ d) (hw : 49 ≤ w) {post : Int32 → aM → Prop} (v1 : Int32) (v3 : Int32) (v4 : Int32) (t0 : Nat) (s1 : Int32) (o0 o2 : Option aV) (M : aM) (h : w_Tp_cutToken_J103 post v1 v3 v4 t0 s1 M) : Gd d w 60 (pI post) (103, [o0, some (aI v1), o2, some (aI v3), some (aI v4)], [aI s1, aR 12 t0], M) := by
  unfold w_Tp_cutToken_J103 at h
  show Gd d w 60 _ (103, [o0, some (aI v1), o2, some (aI v3), some (aI v4)], [aI s1, aR 12 t0], M)
  refine gd_s (P := True ∧ True ∧ True) (σ1 := (106, [o0, some (aI v1), o2, some (aI v3), some (aI v4)], [aI v4, aI v1, aI s1, aR 12 t0], M)) tc_60 rfl 2 (fun u => ⟨_, rfl⟩) ⟨trivial, trivial, trivial⟩ ?_
  refine gd_callN (ml := 4) (as := [aR 12 t0, aI s1, aI v1, aI v4]) (rest := []) tc_60 rfl rfl rfl rfl rfl (by omega) (by omega) (Nat.le_of_ble_eq_true rfl) rfl (g_Tp_addToken (by omega) (by omega) h) (fun r9 M1 h => ?_)
  obtain ⟨rfl, h⟩ := h
  show Gd d w 60 _ (109, [o0, some (aI v1), o2, some (aI v3), some (aI v4)], [], M1)
  refine gd_s (P := True ∧ True ∧ True) (σ1 := (122, [o0, some (aI v1), o2, some (aI v3), some (aI v4)], [aI v3], M1)) tc_60 rfl 2 (fun u => ⟨_, rfl⟩) ⟨trivial, trivial, trivial⟩ ?_
  exact gd_ret tc_60 rfl rfl trivial (fun _ => rfl) ⟨_, rfl, h⟩
def w_Tp_cutToken_J64 (post : Int32 → aM → Prop) (v1 : Int32) (v3 : Int32) (t0 : Nat) (s1 : Int32) (M : aM) : Prop := w_Tp_addToken (fun M1 => post v3 M1) t0 s1 v1 v3 M
theorem g_Tp_cutToken_J64 {d w : Nat} (hd : 2 ≤ d) (hw : 49 ≤ w) {post : Int32 → aM → Prop} (v1 : Int32) (v3 : Int32) (t0 : Nat) (s1 : Int32) (o0 o2 o4 : Option aV) (M : aM) (h : w_Tp_cutToken_J64 post v1 v3 t0 s1 M) : Gd d w 60 (pI post) (64, [o0, some (aI v1), o2, some (aI v3), o4], [aI s1, aR 12 t0], M) := by
  unfold w_Tp_cutToken_J64 at h
  show Gd d w 60 _ (64, [o0, some (aI v1), o2, some (aI v3), o4], [aI s1, aR 12 t0], M)
  refine gd_s (P := True ∧ True ∧ True) (σ1 := (66, [o0, some (aI v1), o2, some (aI v3), o4], [aI v3, aI v1, aI s1, aR 12 t0], M)) tc_60 rfl 2 (fun u => ⟨_, rfl⟩) ⟨trivial, trivial, trivial⟩ ?_
  refine gd_callN (ml := 4) (as := [aR 12 t0, aI s1, aI v1, aI v3]) (rest := []) tc_60 rfl rfl rfl rfl rfl (by omega) (by omega) (Nat.le_of_ble_eq_true rfl) rfl (g_Tp_addToken (by omega) (by omega) h) (fun r9 M1 h => ?_)
  obtain ⟨rfl, h⟩ := h
  show Gd d w 60 _ (69, [o0, some (aI v1), o2, some (aI v3), o4], [], M1)
  refine gd_s (P := True ∧ True ∧ True) (σ1 := (122, [o0, some (aI v1), o2, some (aI v3), o4], [aI v3], M1)) tc_60 rfl 2 (fun u => ⟨_, rfl⟩) ⟨trivial, trivial, trivial⟩ ?_
  exact gd_ret tc_60 rfl rfl trivial (fun _ => rfl) ⟨_, rfl, h⟩
/-- PolicyJudge$Tape.cutToken(I)I -/
def w_Tp_cutToken (post : Int32 → aM → Prop) (k0 : Nat) (v1 : Int32) (M : aM) : Prop := (vp_in v1 (rK M (k0 + 1)).2) ∧ (w_Tp_isBlank (fun x1 => ((x1 = ((0 : Int32))) → w_Tp_isSign (fun x2 => ((x2 = ((0 : Int32))) → w_Tp_runLength (fun x3 => w_Tp_isLetter (fun x4 => ((x4 = ((0 : Int32))) → w_Tp_isDigit (fun x5 => ((x5 = ((0 : Int32))) → w_Tp_addToken (fun M6 => post x3 M6) k0 ((131 : Int32)) v1 ((1 : Int32)) M) ∧ (¬ (x5 = ((0 : Int32))) → w_Tp_numberAt (fun x7 => ((¬ x7 = ((-1 : Int32))) → w_Tp_cutToken_J103 post v1 x3 x7 k0 ((129 : Int32)) M) ∧ (¬ (¬ x7 = ((-1 : Int32))) → w_Tp_cutToken_J103 post v1 x3 x7 k0 ((131 : Int32)) M)) k0 v1 x3 M)) (rI M (k0 + 1) v1.toNatClampNeg) M) ∧ (¬ (x4 = ((0 : Int32))) → ((x3 ≤ ((12 : Int32))) → w_Tp_wordAt (fun x8 => w_Tp_cutToken_J64 post v1 x3 k0 x8 M) k0 v1 x3 M) ∧ (¬ (x3 ≤ ((12 : Int32))) → w_Tp_cutToken_J64 post v1 x3 k0 ((131 : Int32)) M))) (rI M (k0 + 1) v1.toNatClampNeg) M) k0 v1 M) ∧ (¬ (x2 = ((0 : Int32))) → w_Tp_addToken (fun M9 => post ((1 : Int32)) M9) k0 (rI M (k0 + 1) v1.toNatClampNeg) v1 ((1 : Int32)) M)) (rI M (k0 + 1) v1.toNatClampNeg) M) ∧ (¬ (x1 = ((0 : Int32))) → post ((1 : Int32)) M)) (rI M (k0 + 1) v1.toNatClampNeg) M)
theorem g_Tp_cutToken {d w : Nat} (hd : 2 ≤ d) (hw : 49 ≤ w) {post : Int32 → aM → Prop} {k0 : Nat} {v1 : Int32} {M : aM} (h : w_Tp_cutToken post k0 v1 M) : Gd d w 60 (pI post) (0, aEnt 60 [aR 12 k0, aI v1], [], M) := by
  unfold w_Tp_cutToken at h
  show Gd d w 60 _ (0, [some (aR 12 k0), some (aI v1), none, none, none], [], M)
  obtain ⟨c0, h⟩ := h
  refine gd_s (P := True ∧ True ∧ True ∧ (vp_in v1 (rK M (k0 + 1)).2) ∧ True ∧ True ∧ True) (σ1 := (8, [some (aR 12 k0), some (aI v1), some (aI (rI M (k0 + 1) v1.toNatClampNeg)), none, none], [aI (rI M (k0 + 1) v1.toNatClampNeg)], M)) tc_60 rfl 6 (fun u => ⟨_, rfl⟩) ⟨trivial, trivial, trivial, c0, trivial, trivial, trivial⟩ ?_
  refine gd_callN (ml := 1) (as := [aI (rI M (k0 + 1) v1.toNatClampNeg)]) (rest := []) tc_60 rfl rfl rfl rfl rfl (by omega) (by omega) (Nat.le_of_ble_eq_true rfl) rfl (g_Tp_isBlank (by omega) (by omega) h) (fun r9 M9 h => ?_)
  obtain ⟨x1, rfl, e9, h⟩ := h
  subst M9
  show Gd d w 60 _ (11, [some (aR 12 k0), some (aI v1), some (aI (rI M (k0 + 1) v1.toNatClampNeg)), none, none], [aI x1], M)
  refine gd_br (c := x1 = ((0 : Int32))) (st1 := []) tc_60 rfl rfl (fun _ => rfl) ⟨fun hc => ?_, fun hc => ?_⟩
  · have h := h.1 hc
    show Gd d w 60 _ (16, [some (aR 12 k0), some (aI v1), some (aI (rI M (k0 + 1) v1.toNatClampNeg)), none, none], [], M)
    refine gd_s (P := True ∧ True) (σ1 := (17, [some (aR 12 k0), some (aI v1), some (aI (rI M (k0 + 1) v1.toNatClampNeg)), none, none], [aI (rI M (k0 + 1) v1.toNatClampNeg)], M)) tc_60 rfl 1 (fun u => ⟨_, rfl⟩) ⟨trivial, trivial⟩ ?_
    refine gd_callN (ml := 1) (as := [aI (rI M (k0 + 1) v1.toNatClampNeg)]) (rest := []) tc_60 rfl rfl rfl rfl rfl (by omega) (by omega) (Nat.le_of_ble_eq_true rfl) rfl (g_Tp_isSign (by omega) (by omega) h) (fun r9 M9 h => ?_)
    obtain ⟨x2, rfl, e9, h⟩ := h
    subst M9
    show Gd d w 60 _ (20, [some (aR 12 k0), some (aI v1), some (aI (rI M (k0 + 1) v1.toNatClampNeg)), none, none], [aI x2], M)
    refine gd_br (c := x2 = ((0 : Int32))) (st1 := []) tc_60 rfl rfl (fun _ => rfl) ⟨fun hc => ?_, fun hc => ?_⟩
    · have h := h.1 hc
      show Gd d w 60 _ (32, [some (aR 12 k0), some (aI v1), some (aI (rI M (k0 + 1) v1.toNatClampNeg)), none, none], [], M)
      refine gd_s (P := True ∧ True ∧ True) (σ1 := (34, [some (aR 12 k0), some (aI v1), some (aI (rI M (k0 + 1) v1.toNatClampNeg)), none, none], [aI v1, aR 12 k0], M)) tc_60 rfl 2 (fun u => ⟨_, rfl⟩) ⟨trivial, trivial, trivial⟩ ?_
      refine gd_callN (ml := 3) (as := [aR 12 k0, aI v1]) (rest := []) tc_60 rfl rfl rfl rfl rfl (by omega) (by omega) (Nat.le_of_ble_eq_true rfl) rfl (g_Tp_runLength (by omega) (by omega) h) (fun r9 M9 h => ?_)
      obtain ⟨x3, rfl, e9, h⟩ := h
      subst M9
      show Gd d w 60 _ (37, [some (aR 12 k0), some (aI v1), some (aI (rI M (k0 + 1) v1.toNatClampNeg)), none, none], [aI x3], M)
      refine gd_s (P := True ∧ True ∧ True) (σ1 := (39, [some (aR 12 k0), some (aI v1), some (aI (rI M (k0 + 1) v1.toNatClampNeg)), some (aI x3), none], [aI (rI M (k0 + 1) v1.toNatClampNeg)], M)) tc_60 rfl 2 (fun u => ⟨_, rfl⟩) ⟨trivial, trivial, trivial⟩ ?_
      refine gd_callN (ml := 1) (as := [aI (rI M (k0 + 1) v1.toNatClampNeg)]) (rest := []) tc_60 rfl rfl rfl rfl rfl (by omega) (by omega) (Nat.le_of_ble_eq_true rfl) rfl (g_Tp_isLetter (by omega) (by omega) h) (fun r9 M9 h => ?_)
      obtain ⟨x4, rfl, e9, h⟩ := h
      subst M9
      show Gd d w 60 _ (42, [some (aR 12 k0), some (aI v1), some (aI (rI M (k0 + 1) v1.toNatClampNeg)), some (aI x3), none], [aI x4], M)
      refine gd_br (c := x4 = ((0 : Int32))) (st1 := []) tc_60 rfl rfl (fun _ => rfl) ⟨fun hc => ?_, fun hc => ?_⟩
      · have h := h.1 hc
        show Gd d w 60 _ (72, [some (aR 12 k0), some (aI v1), some (aI (rI M (k0 + 1) v1.toNatClampNeg)), some (aI x3), none], [], M)
        refine gd_s (P := True ∧ True) (σ1 := (73, [some (aR 12 k0), some (aI v1), some (aI (rI M (k0 + 1) v1.toNatClampNeg)), some (aI x3), none], [aI (rI M (k0 + 1) v1.toNatClampNeg)], M)) tc_60 rfl 1 (fun u => ⟨_, rfl⟩) ⟨trivial, trivial⟩ ?_
        refine gd_callN (ml := 1) (as := [aI (rI M (k0 + 1) v1.toNatClampNeg)]) (rest := []) tc_60 rfl rfl rfl rfl rfl (by omega) (by omega) (Nat.le_of_ble_eq_true rfl) rfl (g_Tp_isDigit (by omega) (by omega) h) (fun r9 M9 h => ?_)
        obtain ⟨x5, rfl, e9, h⟩ := h
        subst M9
        show Gd d w 60 _ (76, [some (aR 12 k0), some (aI v1), some (aI (rI M (k0 + 1) v1.toNatClampNeg)), some (aI x3), none], [aI x5], M)
        refine gd_br (c := x5 = ((0 : Int32))) (st1 := []) tc_60 rfl rfl (fun _ => rfl) ⟨fun hc => ?_, fun hc => ?_⟩
        · have h := h.1 hc
          show Gd d w 60 _ (112, [some (aR 12 k0), some (aI v1), some (aI (rI M (k0 + 1) v1.toNatClampNeg)), some (aI x3), none], [], M)
          refine gd_s (P := True ∧ True ∧ True ∧ True ∧ True) (σ1 := (118, [some (aR 12 k0), some (aI v1), some (aI (rI M (k0 + 1) v1.toNatClampNeg)), some (aI x3), none], [aI ((1 : Int32)), aI v1, aI ((131 : Int32)), aR 12 k0], M)) tc_60 rfl 4 (fun u => ⟨_, rfl⟩) ⟨trivial, trivial, trivial, trivial, trivial⟩ ?_
          refine gd_callN (ml := 4) (as := [aR 12 k0, aI ((131 : Int32)), aI v1, aI ((1 : Int32))]) (rest := []) tc_60 rfl rfl rfl rfl rfl (by omega) (by omega) (Nat.le_of_ble_eq_true rfl) rfl (g_Tp_addToken (by omega) (by omega) h) (fun r9 M6 h => ?_)
          obtain ⟨rfl, h⟩ := h
          show Gd d w 60 _ (121, [some (aR 12 k0), some (aI v1), some (aI (rI M (k0 + 1) v1.toNatClampNeg)), some (aI x3), none], [], M6)
          refine gd_s (P := True ∧ True) (σ1 := (122, [some (aR 12 k0), some (aI v1), some (aI (rI M (k0 + 1) v1.toNatClampNeg)), some (aI x3), none], [aI x3], M6)) tc_60 rfl 1 (fun u => ⟨_, rfl⟩) ⟨trivial, trivial⟩ ?_
          exact gd_ret tc_60 rfl rfl trivial (fun _ => rfl) ⟨_, rfl, h⟩
        · have h := h.2 hc
          show Gd d w 60 _ (79, [some (aR 12 k0), some (aI v1), some (aI (rI M (k0 + 1) v1.toNatClampNeg)), some (aI x3), none], [], M)
          refine gd_s (P := True ∧ True ∧ True ∧ True) (σ1 := (82, [some (aR 12 k0), some (aI v1), some (aI (rI M (k0 + 1) v1.toNatClampNeg)), some (aI x3), none], [aI x3, aI v1, aR 12 k0], M)) tc_60 rfl 3 (fun u => ⟨_, rfl⟩) ⟨trivial, trivial, trivial, trivial⟩ ?_
          refine gd_callN (ml := 5) (as := [aR 12 k0, aI v1, aI x3]) (rest := []) tc_60 rfl rfl rfl rfl rfl (by omega) (by omega) (Nat.le_of_ble_eq_true rfl) rfl (g_Tp_numberAt (by omega) (by omega) h) (fun r9 M9 h => ?_)
          obtain ⟨x7, rfl, e9, h⟩ := h
          subst M9
          show Gd d w 60 _ (85, [some (aR 12 k0), some (aI v1), some (aI (rI M (k0 + 1) v1.toNatClampNeg)), some (aI x3), none], [aI x7], M)
          refine gd_s (P := True ∧ True ∧ True ∧ True ∧ True) (σ1 := (91, [some (aR 12 k0), some (aI v1), some (aI (rI M (k0 + 1) v1.toNatClampNeg)), some (aI x3), some (aI x7)], [aI ((-1 : Int32)), aI x7, aR 12 k0], M)) tc_60 rfl 4 (fun u => ⟨_, rfl⟩) ⟨trivial, trivial, trivial, trivial, trivial⟩ ?_
          refine gd_br (c := ¬ x7 = ((-1 : Int32))) (st1 := [aR 12 k0]) tc_60 rfl rfl (fun _ => rfl) ⟨fun hc => ?_, fun hc => ?_⟩
          · have h := h.1 hc
            show Gd d w 60 _ (100, [some (aR 12 k0), some (aI v1), some (aI (rI M (k0 + 1) v1.toNatClampNeg)), some (aI x3), some (aI x7)], [aR 12 k0], M)
            refine gd_s (P := True ∧ True) (σ1 := (103, [some (aR 12 k0), some (aI v1), some (aI (rI M (k0 + 1) v1.toNatClampNeg)), some (aI x3), some (aI x7)], [aI ((129 : Int32)), aR 12 k0], M)) tc_60 rfl 1 (fun u => ⟨_, rfl⟩) ⟨trivial, trivial⟩ ?_
            exact g_Tp_cutToken_J103 hd hw v1 x3 x7 k0 ((129 : Int32)) (some (aR 12 k0)) (some (aI (rI M (k0 + 1) v1.toNatClampNeg))) M h
          · have h := h.2 hc
            show Gd d w 60 _ (94, [some (aR 12 k0), some (aI v1), some (aI (rI M (k0 + 1) v1.toNatClampNeg)), some (aI x3), some (aI x7)], [aR 12 k0], M)
            refine gd_s (P := True ∧ True ∧ True) (σ1 := (103, [some (aR 12 k0), some (aI v1), some (aI (rI M (k0 + 1) v1.toNatClampNeg)), some (aI x3), some (aI x7)], [aI ((131 : Int32)), aR 12 k0], M)) tc_60 rfl 2 (fun u => ⟨_, rfl⟩) ⟨trivial, trivial, trivial⟩ ?_
            exact g_Tp_cutToken_J103 hd hw v1 x3 x7 k0 ((131 : Int32)) (some (aR 12 k0)) (some (aI (rI M (k0 + 1) v1.toNatClampNeg))) M h
      · have h := h.2 hc
        show Gd d w 60 _ (45, [some (aR 12 k0), some (aI v1), some (aI (rI M (k0 + 1) v1.toNatClampNeg)), some (aI x3), none], [], M)
        refine gd_s (P := True ∧ True ∧ True ∧ True) (σ1 := (49, [some (aR 12 k0), some (aI v1), some (aI (rI M (k0 + 1) v1.toNatClampNeg)), some (aI x3), none], [aI ((12 : Int32)), aI x3, aR 12 k0], M)) tc_60 rfl 3 (fun u => ⟨_, rfl⟩) ⟨trivial, trivial, trivial, trivial⟩ ?_
        refine gd_br (c := x3 ≤ ((12 : Int32))) (st1 := [aR 12 k0]) tc_60 rfl rfl (fun _ => rfl) ⟨fun hc => ?_, fun hc => ?_⟩
        · have h := h.1 hc
          show Gd d w 60 _ (58, [some (aR 12 k0), some (aI v1), some (aI (rI M (k0 + 1) v1.toNatClampNeg)), some (aI x3), none], [aR 12 k0], M)
          refine gd_s (P := True ∧ True ∧ True ∧ True) (σ1 := (61, [some (aR 12 k0), some (aI v1), some (aI (rI M (k0 + 1) v1.toNatClampNeg)), some (aI x3), none], [aI x3, aI v1, aR 12 k0, aR 12 k0], M)) tc_60 rfl 3 (fun u => ⟨_, rfl⟩) ⟨trivial, trivial, trivial, trivial⟩ ?_
          refine gd_callN (ml := 4) (as := [aR 12 k0, aI v1, aI x3]) (rest := [aR 12 k0]) tc_60 rfl rfl rfl rfl rfl (by omega) (by omega) (Nat.le_of_ble_eq_true rfl) rfl (g_Tp_wordAt (by omega) (by omega) h) (fun r9 M9 h => ?_)
          obtain ⟨x8, rfl, e9, h⟩ := h
          subst M9
          exact g_Tp_cutToken_J64 hd hw v1 x3 k0 x8 (some (aR 12 k0)) (some (aI (rI M (k0 + 1) v1.toNatClampNeg))) none M h
        · have h := h.2 hc
          show Gd d w 60 _ (52, [some (aR 12 k0), some (aI v1), some (aI (rI M (k0 + 1) v1.toNatClampNeg)), some (aI x3), none], [aR 12 k0], M)
          refine gd_s (P := True ∧ True ∧ True) (σ1 := (64, [some (aR 12 k0), some (aI v1), some (aI (rI M (k0 + 1) v1.toNatClampNeg)), some (aI x3), none], [aI ((131 : Int32)), aR 12 k0], M)) tc_60 rfl 2 (fun u => ⟨_, rfl⟩) ⟨trivial, trivial, trivial⟩ ?_
          exact g_Tp_cutToken_J64 hd hw v1 x3 k0 ((131 : Int32)) (some (aR 12 k0)) (some (aI (rI M (k0 + 1) v1.toNatClampNeg))) none M h
    · have h := h.2 hc
      show Gd d w 60 _ (23, [some (aR 12 k0), some (aI v1), some (aI (rI M (k0 + 1) v1.toNatClampNeg)), none, none], [], M)
      refine gd_s (P := True ∧ True ∧ True ∧ True ∧ True) (σ1 := (27, [some (aR 12 k0), some (aI v1), some (aI (rI M (k0 + 1) v1.toNatClampNeg)), none, none], [aI ((1 : Int32)), aI v1, aI (rI M (k0 + 1) v1.toNatClampNeg), aR 12 k0], M)) tc_60 rfl 4 (fun u => ⟨_, rfl⟩) ⟨trivial, trivial, trivial, trivial, trivial⟩ ?_
      refine gd_callN (ml := 4) (as := [aR 12 k0, aI (rI M (k0 + 1) v1.toNatClampNeg), aI v1, aI ((1 : Int32))]) (rest := []) tc_60 rfl rfl rfl rfl rfl (by omega) (by omega) (Nat.le_of_ble_eq_true rfl) rfl (g_Tp_addToken (by omega) (by omega) h) (fun r9 M9 h => ?_)
      obtain ⟨rfl, h⟩ := h
      show Gd d w 60 _ (30, [some (aR 12 k0), some (aI v1), some (aI (rI M (k0 + 1) v1.toNatClampNeg)), none, none], [], M9)
      refine gd_s (P := True ∧ True) (σ1 := (31, [some (aR 12 k0), some (aI v1), some (aI (rI M (k0 + 1) v1.toNatClampNeg)), none, none], [aI ((1 : Int32))], M9)) tc_60 rfl 1 (fun u => ⟨_, rfl⟩) ⟨trivial, trivial⟩ ?_
      exact gd_ret tc_60 rfl rfl trivial (fun _ => rfl) ⟨_, rfl, h⟩
  · have h := h.2 hc
    show Gd d w 60 _ (14, [some (aR 12 k0), some (aI v1), some (aI (rI M (k0 + 1) v1.toNatClampNeg)), none, none], [], M)
    refine gd_s (P := True ∧ True) (σ1 := (15, [some (aR 12 k0), some (aI v1), some (aI (rI M (k0 + 1) v1.toNatClampNeg)), none, none], [aI ((1 : Int32))], M)) tc_60 rfl 1 (fun u => ⟨_, rfl⟩) ⟨trivial, trivial⟩ ?_
    exact gd_ret tc_60 rfl rfl trivial (fun _ => rfl) ⟨_, rfl, h⟩
theorem tc_59 : tC 59 = c59 := rfl
def w_Tp_cutIntoTokens_L7 (post : aM → Prop) : Nat → Nat → Int32 → aM → Prop
  | 0, _, _, _ => False
  | n + 1, k0, v1, M => (((rI M k0 1) ≤ v1) → w_Tp_addToken (fun M1 => post M1) k0 ((130 : Int32)) (rI M k0 1) ((0 : Int32)) M) ∧ (¬ ((rI M k0 1) ≤ v1) → w_Tp_cutToken (fun x2 M2 => w_Tp_cutIntoTokens_L7 post n k0 (v1 + (if ((1 : Int32)) < x2 then x2 else ((1 : Int32)))) M2) k0 v1 M)
theorem g_Tp_cutIntoTokens_L7 {d w : Nat} (hd : 6 ≤ d) (hw : 200 ≤ w) {post : aM → Prop} : ∀ (n : Nat) (k0 : Nat) (v1 : Int32) (M : aM), w_Tp_cutIntoTokens_L7 post n k0 v1 M → Gd d w 59 (pV post) (7, [some (aR 12 k0), some (aI v1)], [], M) := by
  intro n
  induction n with
  | zero => intro k0 v1 M h; exact h.elim
  | succ n ih =>
    intro k0 v1 M h
    show Gd d w 59 _ (7, [some (aR 12 k0), some (aI v1)], [], M)
    refine gd_s (P := True ∧ True ∧ True ∧ True) (σ1 := (12, [some (aR 12 k0), some (aI v1)], [aI (rI M k0 1), aI v1], M)) tc_59 rfl 3 (fun u => ⟨_, rfl⟩) ⟨trivial, trivial, trivial, trivial⟩ ?_
    refine gd_br (c := (rI M k0 1) ≤ v1) (st1 := []) tc_59 rfl rfl (fun _ => rfl) ⟨fun hc => ?_, fun hc => ?_⟩
    · have h := h.1 hc
      show Gd d w 59 _ (30, [some (aR 12 k0), some (aI v1)], [], M)
      refine gd_s (P := True ∧ True ∧ True ∧ True ∧ True ∧ True) (σ1 := (39, [some (aR 12 k0), some (aI v1)], [aI ((0 : Int32)), aI (rI M k0 1), aI ((130 : Int32)), aR 12 k0], M)) tc_59 rfl 5 (fun u => ⟨_, rfl⟩) ⟨trivial, trivial, trivial, trivial, trivial, trivial⟩ ?_
      refine gd_callN (ml := 4) (as := [aR 12 k0, aI ((130 : Int32)), aI (rI M k0 1), aI ((0 : Int32))]) (rest := []) tc_59 rfl rfl rfl rfl rfl (by omega) (by omega) (Nat.le_of_ble_eq_true rfl) rfl (g_Tp_addToken (by omega) (by omega) h) (fun r9 M1 h => ?_)
      obtain ⟨rfl, h⟩ := h
      show Gd d w 59 _ (42, [some (aR 12 k0), some (aI v1)], [], M1)
      exact gd_ret tc_59 rfl rfl trivial (fun _ => rfl) ⟨rfl, h⟩
    · have h := h.2 hc
      show Gd d w 59 _ (15, [some (aR 12 k0), some (aI v1)], [], M)
      refine gd_s (P := True ∧ True ∧ True ∧ True ∧ True) (σ1 := (19, [some (aR 12 k0), some (aI v1)], [aI v1, aR 12 k0, aI ((1 : Int32)), aI v1], M)) tc_59 rfl 4 (fun u => ⟨_, rfl⟩) ⟨trivial, trivial, trivial, trivial, trivial⟩ ?_
      refine gd_callN (ml := 5) (as := [aR 12 k0, aI v1]) (rest := [aI ((1 : Int32)), aI v1]) tc_59 rfl rfl rfl rfl rfl (by omega) (by omega) (Nat.le_of_ble_eq_true rfl) rfl (g_Tp_cutToken (by omega) (by omega) h) (fun r9 M2 h => ?_)
      obtain ⟨x2, rfl, h⟩ := h
      show Gd d w 59 _ (22, [some (aR 12 k0), some (aI v1)], [aI x2, aI ((1 : Int32)), aI v1], M2)
      refine gd_prim (P := True) (σ1 := (25, [some (aR 12 k0), some (aI v1)], [aI (if ((1 : Int32)) < x2 then x2 else ((1 : Int32))), aI v1], M2)) tc_59 rfl rfl rfl rfl trivial (by omega) (by omega) (Nat.le_of_ble_eq_true rfl) ?_
      show Gd d w 59 _ (25, [some (aR 12 k0), some (aI v1)], [aI (if ((1 : Int32)) < x2 then x2 else ((1 : Int32))), aI v1], M2)
      refine gd_s (P := True ∧ True ∧ True ∧ True) (σ1 := (7, [some (aR 12 k0), some (aI (v1 + (if ((1 : Int32)) < x2 then x2 else ((1 : Int32)))))], [], M2)) tc_59 rfl 3 (fun u => ⟨_, rfl⟩) ⟨trivial, trivial, trivial, trivial⟩ ?_
      exact ih k0 (v1 + (if ((1 : Int32)) < x2 then x2 else ((1 : Int32)))) M2 h
/-- PolicyJudge$Tape.cutIntoTokens()V -/
def w_Tp_cutIntoTokens (post : aM → Prop) (k0 : Nat) (M : aM) : Prop := ∃ n9, w_Tp_cutIntoTokens_L7 post n9 k0 ((0 : Int32)) (wI M k0 5 ((0 : Int32)))
theorem g_Tp_cutIntoTokens {d w : Nat} (hd : 6 ≤ d) (hw : 200 ≤ w) {post : aM → Prop} {k0 : Nat} {M : aM} (h : w_Tp_cutIntoTokens post k0 M) : Gd d w 59 (pV post) (0, aEnt 59 [aR 12 k0], [], M) := by
  unfold w_Tp_cutIntoTokens at h
  show Gd d w 59 _ (0, [some (aR 12 k0), none], [], M)
  refine gd_s (P := True ∧ True ∧ True ∧ True ∧ True ∧ True) (σ1 := (7, [some (aR 12 k0), some (aI ((0 : Int32)))], [], wI M k0 5 ((0 : Int32)))) tc_59 rfl 5 (fun u => ⟨_, rfl⟩) ⟨trivial, trivial, trivial, trivial, trivial, trivial⟩ ?_
  obtain ⟨n9, h⟩ := h
  exact g_Tp_cutIntoTokens_L7 hd hw n9 k0 ((0 : Int32)) (wI M k0 5 ((0 : Int32))) h
theorem tc_71 : tC 71 = c71 := rfl
def w_Tx_clear_J34 (post : aM → Prop) (k0 : Nat) (M : aM) : Prop := post (wI M (k0 + 24) 0 ((0 : Int32)))
theorem g_Tx_clear_J34 {d w : Nat} (hd : 0 ≤ d) (hw : 0 ≤ w) {post : aM → Prop} (k0 : Nat) (M : aM) (h : w_Tx_clear_J34 post k0 M) : Gd d w 71 (pV post) (34, [some (aR 13 k0)], [], M) := by
  unfold w_Tx_clear_J34 at h
  show Gd d w 71 _ (34, [some (aR 13 k0)], [], M)
  refine gd_s (P := True ∧ True ∧ True ∧ True ∧ True) (σ1 := (42, [some (aR 13 k0)], [], wI M (k0 + 24) 0 ((0 : Int32)))) tc_71 rfl 4 (fun u => ⟨_, rfl⟩) ⟨trivial, trivial, trivial, trivial, trivial⟩ ?_
  exact gd_ret tc_71 rfl rfl trivial (fun _ => rfl) ⟨rfl, h⟩
def w_Tx_clear_J26 (post : aM → Prop) (k0 : Nat) (M : aM) : Prop := w_Tx_clear_J34 post k0 (wI M (k0 + 9) 10 ((0 : Int32)))
theorem g_Tx_clear_J26 {d w : Nat} (hd : 0 ≤ d) (hw : 0 ≤ w) {post : aM → Prop} (k0 : Nat) (M : aM) (h : w_Tx_clear_J26 post k0 M) : Gd d w 71 (pV post) (26, [some (aR 13 k0)], [], M) := by
  unfold w_Tx_clear_J26 at h
  show Gd d w 71 _ (26, [some (aR 13 k0)], [], M)
  refine gd_s (P := True ∧ True ∧ True ∧ True ∧ True) (σ1 := (34, [some (aR 13 k0)], [], wI M (k0 + 9) 10 ((0 : Int32)))) tc_71 rfl 4 (fun u => ⟨_, rfl⟩) ⟨trivial, trivial, trivial, trivial, trivial⟩ ?_
  exact g_Tx_clear_J34 hd hw k0 (wI M (k0 + 9) 10 ((0 : Int32))) h
def w_Tx_clear_J18 (post : aM → Prop) (k0 : Nat) (M : aM) : Prop := w_Tx_clear_J26 post k0 (wI M (k0 + 9) 0 ((0 : Int32)))
theorem g_Tx_clear_J18 {d w : Nat} (hd : 0 ≤ d) (hw : 0 ≤ w) {post : aM → Prop} (k0 : Nat) (M : aM) (h : w_Tx_clear_J18 post k0 M) : Gd d w 71 (pV post) (18, [some (aR 13 k0)], [], M) := by
  unfold w_Tx_clear_J18 at h
  show Gd d w 71 _ (18, [some (aR 13 k0)], [], M)
  refine gd_s (P := True ∧ True ∧ True ∧ True ∧ True) (σ1 := (26, [some (aR 13 k0)], [], wI M (k0 + 9) 0 ((0 : Int32)))) tc_71 rfl 4 (fun u => ⟨_, rfl⟩) ⟨trivial, trivial, trivial, trivial, trivial⟩ ?_
  exact g_Tx_clear_J26 hd hw k0 (wI M (k0 + 9) 0 ((0 : Int32))) h
def w_Tx_clear_J10 (post : aM → Prop) (k0 : Nat) (M : aM) : Prop := w_Tx_clear_J18 post k0 (wI M (k0 + 1) 0 ((0 : Int32)))
theorem g_Tx_clear_J10 {d w : Nat} (hd : 0 ≤ d) (hw : 0 ≤ w) {post : aM → Prop} (k0 : Nat) (M : aM) (h : w_Tx_clear_J10 post k0 M) : Gd d w 71 (pV post) (10, [some (aR 13 k0)], [], M) := by
  unfold w_Tx_clear_J10 at h
  show Gd d w 71 _ (10, [some (aR 13 k0)], [], M)
  refine gd_s (P := True ∧ True ∧ True ∧ True ∧ True) (σ1 := (18, [some (aR 13 k0)], [], wI M (k0 + 1) 0 ((0 : Int32)))) tc_71 rfl 4 (fun u => ⟨_, rfl⟩) ⟨trivial, trivial, trivial, trivial, trivial⟩ ?_
  exact g_Tx_clear_J18 hd hw k0 (wI M (k0 + 1) 0 ((0 : Int32))) h
def w_Tx_clear_J5 (post : aM → Prop) (k0 : Nat) (M : aM) : Prop := (((0 : Int32)) = 0 ∨ ((0 : Int32)) = 1) ∧ (w_Tx_clear_J10 post k0 (wI M k0 1 ((0 : Int32))))
theorem g_Tx_clear_J5 {d w : Nat} (hd : 0 ≤ d) (hw : 0 ≤ w) {post : aM → Prop} (k0 : Nat) (M : aM) (h : w_Tx_clear_J5 post k0 M) : Gd d w 71 (pV post) (5, [some (aR 13 k0)], [], M) := by
  unfold w_Tx_clear_J5 at h
  show Gd d w 71 _ (5, [some (aR 13 k0)], [], M)
  obtain ⟨c0, h⟩ := h
  refine gd_s (P := True ∧ True ∧ (((0 : Int32)) = 0 ∨ ((0 : Int32)) = 1) ∧ True) (σ1 := (10, [some (aR 13 k0)], [], wI M k0 1 ((0 : Int32)))) tc_71 rfl 3 (fun u => ⟨_, rfl⟩) ⟨trivial, trivial, c0, trivial⟩ ?_
  exact g_Tx_clear_J10 hd hw k0 (wI M k0 1 ((0 : Int32))) h
/-- PolicyJudge$Text.clear()V -/
def w_Tx_clear (post : aM → Prop) (k0 : Nat) (M : aM) : Prop := (((0 : Int32)) = 0 ∨ ((0 : Int32)) = 1) ∧ (w_Tx_clear_J5 post k0 (wI M k0 0 ((0 : Int32))))
theorem g_Tx_clear {d w : Nat} (hd : 0 ≤ d) (hw : 0 ≤ w) {post : aM → Prop} {k0 : Nat} {M : aM} (h : w_Tx_clear post k0 M) : Gd d w 71 (pV post) (0, aEnt 71 [aR 13 k0], [], M) := by
  unfold w_Tx_clear at h
  show Gd d w 71 _ (0, [some (aR 13 k0)], [], M)
  obtain ⟨c0, h⟩ := h
  refine gd_s (P := True ∧ True ∧ (((0 : Int32)) = 0 ∨ ((0 : Int32)) = 1) ∧ True) (σ1 := (5, [some (aR 13 k0)], [], wI M k0 0 ((0 : Int32)))) tc_71 rfl 3 (fun u => ⟨_, rfl⟩) ⟨trivial, trivial, c0, trivial⟩ ?_
  exact g_Tx_clear_J5 hd hw k0 (wI M k0 0 ((0 : Int32))) h
theorem tc_27 : tC 27 = c27 := rfl
def w_Rd_begin_J40 (post : aM → Prop) (k0 : Nat) (M : aM) : Prop := w_Tx_clear (fun M1 => w_Rd_readAttributes (fun M2 => post M2) k0 M1) (rR M k0 3) M
theorem g_Rd_begin_J40 {d w : Nat} (hd : 9 ≤ d) (hw : 268 ≤ w) {post : aM → Prop} (k0 : Nat) (M : aM) (h : w_Rd_begin_J40 post k0 M) : Gd d w 27 (pV post) (40, [some (aR 11 k0)], [], M) := by
  unfold w_Rd_begin_J40 at h
  show Gd d w 27 _ (40, [some (aR 11 k0)], [], M)
  refine gd_s (P := True ∧ True ∧ True) (σ1 := (44, [some (aR 11 k0)], [aR 13 (rR M k0 3)], M)) tc_27 rfl 2 (fun u => ⟨_, rfl⟩) ⟨trivial, trivial, trivial⟩ ?_
  refine gd_callN (ml := 1) (as := [aR 13 (rR M k0 3)]) (rest := []) tc_27 rfl rfl rfl rfl rfl (by omega) (by omega) (Nat.le_of_ble_eq_true rfl) rfl (g_Tx_clear (by omega) (by omega) h) (fun r9 M1 h => ?_)
  obtain ⟨rfl, h⟩ := h
  show Gd d w 27 _ (47, [some (aR 11 k0)], [], M1)
  refine gd_s (P := True ∧ True) (σ1 := (48, [some (aR 11 k0)], [aR 11 k0], M1)) tc_27 rfl 1 (fun u => ⟨_, rfl⟩) ⟨trivial, trivial⟩ ?_
  refine gd_callN (ml := 2) (as := [aR 11 k0]) (rest := []) tc_27 rfl rfl rfl rfl rfl (by omega) (by omega) (Nat.le_of_ble_eq_true rfl) rfl (g_Rd_readAttributes (by omega) (by omega) h) (fun r9 M2 h => ?_)
  obtain ⟨rfl, h⟩ := h
  show Gd d w 27 _ (51, [some (aR 11 k0)], [], M2)
  exact gd_ret tc_27 rfl rfl trivial (fun _ => rfl) ⟨rfl, h⟩
def w_Rd_begin_J35 (post : aM → Prop) (k0 : Nat) (M : aM) : Prop := w_Rd_begin_J40 post k0 (wI M k0 6 ((0 : Int32)))
theorem g_Rd_begin_J35 {d w : Nat} (hd : 9 ≤ d) (hw : 268 ≤ w) {post : aM → Prop} (k0 : Nat) (M : aM) (h : w_Rd_begin_J35 post k0 M) : Gd d w 27 (pV post) (35, [some (aR 11 k0)], [], M) := by
  unfold w_Rd_begin_J35 at h
  show Gd d w 27 _ (35, [some (aR 11 k0)], [], M)
  refine gd_s (P := True ∧ True ∧ True ∧ True) (σ1 := (40, [some (aR 11 k0)], [], wI M k0 6 ((0 : Int32)))) tc_27 rfl 3 (fun u => ⟨_, rfl⟩) ⟨trivial, trivial, trivial, trivial⟩ ?_
  exact g_Rd_begin_J40 hd hw k0 (wI M k0 6 ((0 : Int32))) h
def w_Rd_begin_J30 (post : aM → Prop) (k0 : Nat) (M : aM) : Prop := w_Rd_begin_J35 post k0 (wI M k0 5 ((-1 : Int32)))
theorem g_Rd_begin_J30 {d w : Nat} (hd : 9 ≤ d) (hw : 268 ≤ w) {post : aM → Prop} (k0 : Nat) (M : aM) (h : w_Rd_begin_J30 post k0 M) : Gd d w 27 (pV post) (30, [some (aR 11 k0)], [], M) := by
  unfold w_Rd_begin_J30 at h
  show Gd d w 27 _ (30, [some (aR 11 k0)], [], M)
  refine gd_s (P := True ∧ True ∧ True ∧ True) (σ1 := (35, [some (aR 11 k0)], [], wI M k0 5 ((-1 : Int32)))) tc_27 rfl 3 (fun u => ⟨_, rfl⟩) ⟨trivial, trivial, trivial, trivial⟩ ?_
  exact g_Rd_begin_J35 hd hw k0 (wI M k0 5 ((-1 : Int32))) h
def w_Rd_begin_J25 (post : aM → Prop) (k0 : Nat) (M : aM) : Prop := w_Rd_begin_J30 post k0 (wI M k0 4 ((0 : Int32)))
theorem g_Rd_begin_J25 {d w : Nat} (hd : 9 ≤ d) (hw : 268 ≤ w) {post : aM → Prop} (k0 : Nat) (M : aM) (h : w_Rd_begin_J25 post k0 M) : Gd d w 27 (pV post) (25, [some (aR 11 k0)], [], M) := by
  unfold w_Rd_begin_J25 at h
  show Gd d w 27 _ (25, [some (aR 11 k0)], [], M)
  refine gd_s (P := True ∧ True ∧ True ∧ True) (σ1 := (30, [some (aR 11 k0)], [], wI M k0 4 ((0 : Int32)))) tc_27 rfl 3 (fun u => ⟨_, rfl⟩) ⟨trivial, trivial, trivial, trivial⟩ ?_
  exact g_Rd_begin_J30 hd hw k0 (wI M k0 4 ((0 : Int32))) h
def w_Rd_begin_J20 (post : aM → Prop) (k0 : Nat) (M : aM) : Prop := w_Rd_begin_J25 post k0 (wI M k0 2 ((0 : Int32)))
theorem g_Rd_begin_J20 {d w : Nat} (hd : 9 ≤ d) (hw : 268 ≤ w) {post : aM → Prop} (k0 : Nat) (M : aM) (h : w_Rd_begin_J20 post k0 M) : Gd d w 27 (pV post) (20, [some (aR 11 k0)], [], M) := by
  unfold w_Rd_begin_J20 at h
  show Gd d w 27 _ (20, [some (aR 11 k0)], [], M)
  refine gd_s (P := True ∧ True ∧ True ∧ True) (σ1 := (25, [some (aR 11 k0)], [], wI M k0 2 ((0 : Int32)))) tc_27 rfl 3 (fun u => ⟨_, rfl⟩) ⟨trivial, trivial, trivial, trivial⟩ ?_
  exact g_Rd_begin_J25 hd hw k0 (wI M k0 2 ((0 : Int32))) h
def w_Rd_begin_J15 (post : aM → Prop) (k0 : Nat) (M : aM) : Prop := w_Rd_begin_J20 post k0 (wI M k0 1 ((0 : Int32)))
theorem g_Rd_begin_J15 {d w : Nat} (hd : 9 ≤ d) (hw : 268 ≤ w) {post : aM → Prop} (k0 : Nat) (M : aM) (h : w_Rd_begin_J15 post k0 M) : Gd d w 27 (pV post) (15, [some (aR 11 k0)], [], M) := by
  unfold w_Rd_begin_J15 at h
  show Gd d w 27 _ (15, [some (aR 11 k0)], [], M)
  refine gd_s (P := True ∧ True ∧ True ∧ True) (σ1 := (20, [some (aR 11 k0)], [], wI M k0 1 ((0 : Int32)))) tc_27 rfl 3 (fun u => ⟨_, rfl⟩) ⟨trivial, trivial, trivial, trivial⟩ ?_
  exact g_Rd_begin_J20 hd hw k0 (wI M k0 1 ((0 : Int32))) h
/-- PolicyJudge$Reader.begin()V -/
def w_Rd_begin (post : aM → Prop) (k0 : Nat) (M : aM) : Prop := w_Tp_cutIntoTokens (fun M1 => w_Rd_begin_J15 post k0 (wI M1 (k0 + 1) 1 ((0 : Int32)))) (k0 + 1) M
theorem g_Rd_begin {d w : Nat} (hd : 9 ≤ d) (hw : 268 ≤ w) {post : aM → Prop} {k0 : Nat} {M : aM} (h : w_Rd_begin post k0 M) : Gd d w 27 (pV post) (0, aEnt 27 [aR 11 k0], [], M) := by
  unfold w_Rd_begin at h
  show Gd d w 27 _ (0, [some (aR 11 k0)], [], M)
  refine gd_s (P := True ∧ True ∧ True) (σ1 := (4, [some (aR 11 k0)], [aR 12 (k0 + 1)], M)) tc_27 rfl 2 (fun u => ⟨_, rfl⟩) ⟨trivial, trivial, trivial⟩ ?_
  refine gd_callN (ml := 2) (as := [aR 12 (k0 + 1)]) (rest := []) tc_27 rfl rfl rfl rfl rfl (by omega) (by omega) (Nat.le_of_ble_eq_true rfl) rfl (g_Tp_cutIntoTokens (by omega) (by omega) h) (fun r9 M1 h => ?_)
  obtain ⟨rfl, h⟩ := h
  show Gd d w 27 _ (7, [some (aR 11 k0)], [], M1)
  refine gd_s (P := True ∧ True ∧ True ∧ True ∧ True) (σ1 := (15, [some (aR 11 k0)], [], wI M1 (k0 + 1) 1 ((0 : Int32)))) tc_27 rfl 4 (fun u => ⟨_, rfl⟩) ⟨trivial, trivial, trivial, trivial, trivial⟩ ?_
  exact g_Rd_begin_J15 hd hw k0 (wI M1 (k0 + 1) 1 ((0 : Int32))) h
theorem tc_84 : tC 84 = c84 := rfl
def w_Nd_addChild_J21 (post : aM → Prop) (k0 : Nat) (v1 : Int32) (v2 : Int32) (M : aM) : Prop := (vp_in v1 (rK M (k0 + 11)).2) ∧ (vp_in v1 (rK M (k0 + 9)).2) ∧ (vp_in v1 (rK M (k0 + 9)).2) ∧ post (wI (wI M (k0 + 11) v1.toNatClampNeg v2) (k0 + 9) v1.toNatClampNeg ((rI (wI M (k0 + 11) v1.toNatClampNeg v2) (k0 + 9) v1.toNatClampNeg) + ((1 : Int32))))
theorem g_Nd_addChild_J21 {d w : Nat} (hd : 0 ≤ d) (hw : 0 ≤ w) {post : aM → Prop} (k0 : Nat) (v1 : Int32) (v2 : Int32) (M : aM) (h : w_Nd_addChild_J21 post k0 v1 v2 M) : Gd d w 84 (pV post) (21, [some (aR 16 k0), some (aI v1), some (aI v2)], [], M) := by
  unfold w_Nd_addChild_J21 at h
  show Gd d w 84 _ (21, [some (aR 16 k0), some (aI v1), some (aI v2)], [], M)
  obtain ⟨c0, c1, c2, h⟩ := h
  refine gd_s (P := True ∧ True ∧ True ∧ True ∧ (vp_in v1 (rK M (k0 + 11)).2) ∧ True ∧ True ∧ True ∧ True ∧ (vp_in v1 (rK M (k0 + 9)).2) ∧ True ∧ True ∧ (vp_in v1 (rK M (k0 + 9)).2) ∧ True) (σ1 := (38, [some (aR 16 k0), some (aI v1), some (aI v2)], [], wI (wI M (k0 + 11) v1.toNatClampNeg v2) (k0 + 9) v1.toNatClampNeg ((rI (wI M (k0 + 11) v1.toNatClampNeg v2) (k0 + 9) v1.toNatClampNeg) + ((1 : Int32))))) tc_84 rfl 13 (fun u => ⟨_, rfl⟩) ⟨trivial, trivial, trivial, trivial, c0, trivial, trivial, trivial, trivial, c1, trivial, trivial, c2, trivial⟩ ?_
  exact gd_ret tc_84 rfl rfl trivial (fun _ => rfl) ⟨rfl, h⟩
/-- PolicyJudge$Nodes.addChild(II)V -/
def w_Nd_addChild (post : aM → Prop) (k0 : Nat) (v1 : Int32) (v2 : Int32) (M : aM) : Prop := (vp_in v1 (rK M (k0 + 9)).2) ∧ ((((rI M (k0 + 9) v1.toNatClampNeg) ≤ ((0 : Int32))) → w_Nd_addChild_J21 post k0 v1 v2 M) ∧ (¬ ((rI M (k0 + 9) v1.toNatClampNeg) ≤ ((0 : Int32))) → (vp_in v1 (rK M (k0 + 11)).2) ∧ (vp_in (rI M (k0 + 11) v1.toNatClampNeg) (rK M (k0 + 10)).2) ∧ (w_Nd_addChild_J21 post k0 v1 v2 (wI M (k0 + 10) (rI M (k0 + 11) v1.toNatClampNeg).toNatClampNeg v2))))
theorem g_Nd_addChild {d w : Nat} (hd : 0 ≤ d) (hw : 0 ≤ w) {post : aM → Prop} {k0 : Nat} {v1 : Int32} {v2 : Int32} {M : aM} (h : w_Nd_addChild post k0 v1 v2 M) : Gd d w 84 (pV post) (0, aEnt 84 [aR 16 k0, aI v1, aI v2], [], M) := by
  unfold w_Nd_addChild at h
  show Gd d w 84 _ (0, [some (aR 16 k0), some (aI v1), some (aI v2)], [], M)
  obtain ⟨c0, h⟩ := h
  refine gd_s (P := True ∧ True ∧ True ∧ (vp_in v1 (rK M (k0 + 9)).2) ∧ True) (σ1 := (6, [some (aR 16 k0), some (aI v1), some (aI v2)], [aI (rI M (k0 + 9) v1.toNatClampNeg)], M)) tc_84 rfl 4 (fun u => ⟨_, rfl⟩) ⟨trivial, trivial, trivial, c0, trivial⟩ ?_
  refine gd_br (c := (rI M (k0 + 9) v1.toNatClampNeg) ≤ ((0 : Int32))) (st1 := []) tc_84 rfl rfl (fun _ => rfl) ⟨fun hc => ?_, fun hc => ?_⟩
  · have h := h.1 hc
    exact g_Nd_addChild_J21 hd hw k0 v1 v2 M h
  · have h := h.2 hc
    show Gd d w 84 _ (9, [some (aR 16 k0), some (aI v1), some (aI v2)], [], M)
    obtain ⟨c0, c1, h⟩ := h
    refine gd_s (P := True ∧ True ∧ True ∧ True ∧ True ∧ (vp_in v1 (rK M (k0 + 11)).2) ∧ True ∧ (vp_in (rI M (k0 + 11) v1.toNatClampNeg) (rK M (k0 + 10)).2) ∧ True) (σ1 := (21, [some (aR 16 k0), some (aI v1), some (aI v2)], [], wI M (k0 + 10) (rI M (k0 + 11) v1.toNatClampNeg).toNatClampNeg v2)) tc_84 rfl 8 (fun u => ⟨_, rfl⟩) ⟨trivial, trivial, trivial, trivial, trivial, c0, trivial, c1, trivial⟩ ?_
    exact g_Nd_addChild_J21 hd hw k0 v1 v2 (wI M (k0 + 10) (rI M (k0 + 11) v1.toNatClampNeg).toNatClampNeg v2) h
theorem tc_83 : tC 83 = c83 := rfl
def w_Nd_addTo_J74 (post : aM → Prop) (k0 : Nat) (v1 : Int32) (v3 : Int32) (M : aM) : Prop := ((v1 = ((-1 : Int32))) → post M) ∧ (¬ (v1 = ((-1 : Int32))) → w_Nd_addChild (fun M1 => post M1) k0 v1 v3 M)
theorem g_Nd_addTo_J74 {d w : Nat} (hd : 1 ≤ d) (hw : 22 ≤ w) {post : aM → Prop} (k0 : Nat) (v1 : Int32) (v3 : Int32) (o2 : Option aV) (M : aM) (h : w_Nd_addTo_J74 post k0 v1 v3 M) : Gd d w 83 (pV post) (74, [some (aR 16 k0), some (aI v1), o2, some (aI v3)], [], M) := by
  unfold w_Nd_addTo_J74 at h
  show Gd d w 83 _ (74, [some (aR 16 k0), some (aI v1), o2, some (aI v3)], [], M)
  refine gd_s (P := True ∧ True ∧ True) (σ1 := (76, [some (aR 16 k0), some (aI v1), o2, some (aI v3)], [aI ((-1 : Int32)), aI v1], M)) tc_83 rfl 2 (fun u => ⟨_, rfl⟩) ⟨trivial, trivial, trivial⟩ ?_
  refine gd_br (c := v1 = ((-1 : Int32))) (st1 := []) tc_83 rfl rfl (fun _ => rfl) ⟨fun hc => ?_, fun hc => ?_⟩
  · have h := h.1 hc
    show Gd d w 83 _ (85, [some (aR 16 k0), some (aI v1), o2, some (aI v3)], [], M)
    exact gd_ret tc_83 rfl rfl trivial (fun _ => rfl) ⟨rfl, h⟩
  · have h := h.2 hc
    show Gd d w 83 _ (79, [some (aR 16 k0), some (aI v1), o2, some (aI v3)], [], M)
    refine gd_s (P := True ∧ True ∧ True ∧ True) (σ1 := (82, [some (aR 16 k0), some (aI v1), o2, some (aI v3)], [aI v3, aI v1, aR 16 k0], M)) tc_83 rfl 3 (fun u => ⟨_, rfl⟩) ⟨trivial, trivial, trivial, trivial⟩ ?_
    refine gd_callN (ml := 3) (as := [aR 16 k0, aI v1, aI v3]) (rest := []) tc_83 rfl rfl rfl rfl rfl (by omega) (by omega) (Nat.le_of_ble_eq_true rfl) rfl (g_Nd_addChild (by omega) (by omega) h) (fun r9 M1 h => ?_)
    obtain ⟨rfl, h⟩ := h
    show Gd d w 83 _ (85, [some (aR 16 k0), some (aI v1), o2, some (aI v3)], [], M1)
    exact gd_ret tc_83 rfl rfl trivial (fun _ => rfl) ⟨rfl, h⟩
def w_Nd_addTo_J64 (post : aM → Prop) (k0 : Nat) (v1 : Int32) (v3 : Int32) (M : aM) : Prop := (vp_in v3 (rK M ((k0 + 1) + 1)).2) ∧ (w_Nd_addTo_J74 post k0 v1 v3 (wI M ((k0 + 1) + 1) v3.toNatClampNeg ((0 : Int32))))
theorem g_Nd_addTo_J64 {d w : Nat} (hd : 1 ≤ d) (hw : 22 ≤ w) {post : aM → Prop} (k0 : Nat) (v1 : Int32) (v3 : Int32) (o2 : Option aV) (M : aM) (h : w_Nd_addTo_J64 post k0 v1 v3 M) : Gd d w 83 (pV post) (64, [some (aR 16 k0), some (aI v1), o2, some (aI v3)], [], M) := by
  unfold w_Nd_addTo_J64 at h
  show Gd d w 83 _ (64, [some (aR 16 k0), some (aI v1), o2, some (aI v3)], [], M)
  obtain ⟨c0, h⟩ := h
  refine gd_s (P := True ∧ True ∧ True ∧ True ∧ True ∧ (vp_in v3 (rK M ((k0 + 1) + 1)).2) ∧ True) (σ1 := (74, [some (aR 16 k0), some (aI v1), o2, some (aI v3)], [], wI M ((k0 + 1) + 1) v3.toNatClampNeg ((0 : Int32)))) tc_83 rfl 6 (fun u => ⟨_, rfl⟩) ⟨trivial, trivial, trivial, trivial, trivial, c0, trivial⟩ ?_
  exact g_Nd_addTo_J74 hd hw k0 v1 v3 o2 (wI M ((k0 + 1) + 1) v3.toNatClampNeg ((0 : Int32))) h
def w_Nd_addTo_J57 (post : aM → Prop) (k0 : Nat) (v1 : Int32) (v3 : Int32) (M : aM) : Prop := (vp_in v3 (rK M (k0 + 10)).2) ∧ (w_Nd_addTo_J64 post k0 v1 v3 (wI M (k0 + 10) v3.toNatClampNeg ((-1 : Int32))))
theorem g_Nd_addTo_J57 {d w : Nat} (hd : 1 ≤ d) (hw : 22 ≤ w) {post : aM → Prop} (k0 : Nat) (v1 : Int32) (v3 : Int32) (o2 : Option aV) (M : aM) (h : w_Nd_addTo_J57 post k0 v1 v3 M) : Gd d w 83 (pV post) (57, [some (aR 16 k0), some (aI v1), o2, some (aI v3)], [], M) := by
  unfold w_Nd_addTo_J57 at h
  show Gd d w 83 _ (57, [some (aR 16 k0), some (aI v1), o2, some (aI v3)], [], M)
  obtain ⟨c0, h⟩ := h
  refine gd_s (P := True ∧ True ∧ True ∧ True ∧ (vp_in v3 (rK M (k0 + 10)).2) ∧ True) (σ1 := (64, [some (aR 16 k0), some (aI v1), o2, some (aI v3)], [], wI M (k0 + 10) v3.toNatClampNeg ((-1 : Int32)))) tc_83 rfl 5 (fun u => ⟨_, rfl⟩) ⟨trivial, trivial, trivial, trivial, c0, trivial⟩ ?_
  exact g_Nd_addTo_J64 hd hw k0 v1 v3 o2 (wI M (k0 + 10) v3.toNatClampNeg ((-1 : Int32))) h
def w_Nd_addTo_J50 (post : aM → Prop) (k0 : Nat) (v1 : Int32) (v3 : Int32) (M : aM) : Prop := (vp_in v3 (rK M (k0 + 9)).2) ∧ (w_Nd_addTo_J57 post k0 v1 v3 (wI M (k0 + 9) v3.toNatClampNeg ((0 : Int32))))
theorem g_Nd_addTo_J50 {d w : Nat} (hd : 1 ≤ d) (hw : 22 ≤ w) {post : aM → Prop} (k0 : Nat) (v1 : Int32) (v3 : Int32) (o2 : Option aV) (M : aM) (h : w_Nd_addTo_J50 post k0 v1 v3 M) : Gd d w 83 (pV post) (50, [some (aR 16 k0), some (aI v1), o2, some (aI v3)], [], M) := by
  unfold w_Nd_addTo_J50 at h
  show Gd d w 83 _ (50, [some (aR 16 k0), some (aI v1), o2, some (aI v3)], [], M)
  obtain ⟨c0, h⟩ := h
  refine gd_s (P := True ∧ True ∧ True ∧ True ∧ (vp_in v3 (rK M (k0 + 9)).2) ∧ True) (σ1 := (57, [some (aR 16 k0), some (aI v1), o2, some (aI v3)], [], wI M (k0 + 9) v3.toNatClampNeg ((0 : Int32)))) tc_83 rfl 5 (fun u => ⟨_, rfl⟩) ⟨trivial, trivial, trivial, trivial, c0, trivial⟩ ?_
  exact g_Nd_addTo_J57 hd hw k0 v1 v3 o2 (wI M (k0 + 9) v3.toNatClampNeg ((0 : Int32))) h
def w_Nd_addTo_J43 (post : aM → Prop) (k0 : Nat) (v1 : Int32) (v3 : Int32) (M : aM) : Prop := (vp_in v3 (rK M (k0 + 8)).2) ∧ (w_Nd_addTo_J50 post k0 v1 v3 (wI M (k0 + 8) v3.toNatClampNeg ((0 : Int32))))
theorem g_Nd_addTo_J43 {d w : Nat} (hd : 1 ≤ d) (hw : 22 ≤ w) {post : aM → Prop} (k0 : Nat) (v1 : Int32) (v3 : Int32) (o2 : Option aV) (M : aM) (h : w_Nd_addTo_J43 post k0 v1 v3 M) : Gd d w 83 (pV post) (43, [some (aR 16 k0), some (aI v1), o2, some (aI v3)], [], M) := by
  unfold w_Nd_addTo_J43 at h
  show Gd d w 83 _ (43, [some (aR 16 k0), some (aI v1), o2, some (aI v3)], [], M)
  obtain ⟨c0, h⟩ := h
  refine gd_s (P := True ∧ True ∧ True ∧ True ∧ (vp_in v3 (rK M (k0 + 8)).2) ∧ True) (σ1 := (50, [some (aR 16 k0), some (aI v1), o2, some (aI v3)], [], wI M (k0 + 8) v3.toNatClampNeg ((0 : Int32)))) tc_83 rfl 5 (fun u => ⟨_, rfl⟩) ⟨trivial, trivial, trivial, trivial, c0, trivial⟩ ?_
  exact g_Nd_addTo_J50 hd hw k0 v1 v3 o2 (wI M (k0 + 8) v3.toNatClampNeg ((0 : Int32))) h
def w_Nd_addTo_J36 (post : aM → Prop) (k0 : Nat) (v1 : Int32) (v3 : Int32) (M : aM) : Prop := (vp_in v3 (rK M (k0 + 7)).2) ∧ (w_Nd_addTo_J43 post k0 v1 v3 (wI M (k0 + 7) v3.toNatClampNeg ((-1 : Int32))))
theorem g_Nd_addTo_J36 {d w : Nat} (hd : 1 ≤ d) (hw : 22 ≤ w) {post : aM → Prop} (k0 : Nat) (v1 : Int32) (v3 : Int32) (o2 : Option aV) (M : aM) (h : w_Nd_addTo_J36 post k0 v1 v3 M) : Gd d w 83 (pV post) (36, [some (aR 16 k0), some (aI v1), o2, some (aI v3)], [], M) := by
  unfold w_Nd_addTo_J36 at h
  show Gd d w 83 _ (36, [some (aR 16 k0), some (aI v1), o2, some (aI v3)], [], M)
  obtain ⟨c0, h⟩ := h
  refine gd_s (P := True ∧ True ∧ True ∧ True ∧ (vp_in v3 (rK M (k0 + 7)).2) ∧ True) (σ1 := (43, [some (aR 16 k0), some (aI v1), o2, some (aI v3)], [], wI M (k0 + 7) v3.toNatClampNeg ((-1 : Int32)))) tc_83 rfl 5 (fun u => ⟨_, rfl⟩) ⟨trivial, trivial, trivial, trivial, c0, trivial⟩ ?_
  exact g_Nd_addTo_J43 hd hw k0 v1 v3 o2 (wI M (k0 + 7) v3.toNatClampNeg ((-1 : Int32))) h
def w_Nd_addTo_J29 (post : aM → Prop) (k0 : Nat) (v1 : Int32) (v3 : Int32) (M : aM) : Prop := (vp_in v3 (rK M (k0 + 6)).2) ∧ (w_Nd_addTo_J36 post k0 v1 v3 (wI M (k0 + 6) v3.toNatClampNeg v1))
theorem g_Nd_addTo_J29 {d w : Nat} (hd : 1 ≤ d) (hw : 22 ≤ w) {post : aM → Prop} (k0 : Nat) (v1 : Int32) (v3 : Int32) (o2 : Option aV) (M : aM) (h : w_Nd_addTo_J29 post k0 v1 v3 M) : Gd d w 83 (pV post) (29, [some (aR 16 k0), some (aI v1), o2, some (aI v3)], [], M) := by
  unfold w_Nd_addTo_J29 at h
  show Gd d w 83 _ (29, [some (aR 16 k0), some (aI v1), o2, some (aI v3)], [], M)
  obtain ⟨c0, h⟩ := h
  refine gd_s (P := True ∧ True ∧ True ∧ True ∧ (vp_in v3 (rK M (k0 + 6)).2) ∧ True) (σ1 := (36, [some (aR 16 k0), some (aI v1), o2, some (aI v3)], [], wI M (k0 + 6) v3.toNatClampNeg v1)) tc_83 rfl 5 (fun u => ⟨_, rfl⟩) ⟨trivial, trivial, trivial, trivial, c0, trivial⟩ ?_
  exact g_Nd_addTo_J36 hd hw k0 v1 v3 o2 (wI M (k0 + 6) v3.toNatClampNeg v1) h
def w_Nd_addTo_J22 (post : aM → Prop) (k0 : Nat) (v1 : Int32) (v3 : Int32) (M : aM) : Prop := (vp_in v3 (rK M (k0 + 5)).2) ∧ (w_Nd_addTo_J29 post k0 v1 v3 (wI M (k0 + 5) v3.toNatClampNeg ((-1 : Int32))))
theorem g_Nd_addTo_J22 {d w : Nat} (hd : 1 ≤ d) (hw : 22 ≤ w) {post : aM → Prop} (k0 : Nat) (v1 : Int32) (v3 : Int32) (o2 : Option aV) (M : aM) (h : w_Nd_addTo_J22 post k0 v1 v3 M) : Gd d w 83 (pV post) (22, [some (aR 16 k0), some (aI v1), o2, some (aI v3)], [], M) := by
  unfold w_Nd_addTo_J22 at h
  show Gd d w 83 _ (22, [some (aR 16 k0), some (aI v1), o2, some (aI v3)], [], M)
  obtain ⟨c0, h⟩ := h
  refine gd_s (P := True ∧ True ∧ True ∧ True ∧ (vp_in v3 (rK M (k0 + 5)).2) ∧ True) (σ1 := (29, [some (aR 16 k0), some (aI v1), o2, some (aI v3)], [], wI M (k0 + 5) v3.toNatClampNeg ((-1 : Int32)))) tc_83 rfl 5 (fun u => ⟨_, rfl⟩) ⟨trivial, trivial, trivial, trivial, c0, trivial⟩ ?_
  exact g_Nd_addTo_J29 hd hw k0 v1 v3 o2 (wI M (k0 + 5) v3.toNatClampNeg ((-1 : Int32))) h
def w_Nd_addTo_J15 (post : aM → Prop) (k0 : Nat) (v1 : Int32) (v2 : Int32) (v3 : Int32) (M : aM) : Prop := (vp_in v3 (rK M (k0 + 4)).2) ∧ (w_Nd_addTo_J22 post k0 v1 v3 (wI M (k0 + 4) v3.toNatClampNeg v2))
theorem g_Nd_addTo_J15 {d w : Nat} (hd : 1 ≤ d) (hw : 22 ≤ w) {post : aM → Prop} (k0 : Nat) (v1 : Int32) (v2 : Int32) (v3 : Int32) (M : aM) (h : w_Nd_addTo_J15 post k0 v1 v2 v3 M) : Gd d w 83 (pV post) (15, [some (aR 16 k0), some (aI v1), some (aI v2), some (aI v3)], [], M) := by
  unfold w_Nd_addTo_J15 at h
  show Gd d w 83 _ (15, [some (aR 16 k0), some (aI v1), some (aI v2), some (aI v3)], [], M)
  obtain ⟨c0, h⟩ := h
  refine gd_s (P := True ∧ True ∧ True ∧ True ∧ (vp_in v3 (rK M (k0 + 4)).2) ∧ True) (σ1 := (22, [some (aR 16 k0), some (aI v1), some (aI v2), some (aI v3)], [], wI M (k0 + 4) v3.toNatClampNeg v2)) tc_83 rfl 5 (fun u => ⟨_, rfl⟩) ⟨trivial, trivial, trivial, trivial, c0, trivial⟩ ?_
  exact g_Nd_addTo_J22 hd hw k0 v1 v3 (some (aI v2)) (wI M (k0 + 4) v3.toNatClampNeg v2) h
/-- PolicyJudge$Nodes.addTo(II)V -/
def w_Nd_addTo (post : aM → Prop) (k0 : Nat) (v1 : Int32) (v2 : Int32) (M : aM) : Prop := w_Nd_addTo_J15 post k0 v1 v2 (rI M k0 0) (wI M k0 0 ((rI M k0 0) + ((1 : Int32))))
theorem g_Nd_addTo {d w : Nat} (hd : 1 ≤ d) (hw : 22 ≤ w) {post : aM → Prop} {k0 : Nat} {v1 : Int32} {v2 : Int32} {M : aM} (h : w_Nd_addTo post k0 v1 v2 M) : Gd d w 83 (pV post) (0, aEnt 83 [aR 16 k0, aI v1, aI v2], [], M) := by
  unfold w_Nd_addTo at h
  show Gd d w 83 _ (0, [some (aR 16 k0), some (aI v1), some (aI v2), none], [], M)
  refine gd_s (P := True ∧ True ∧ True ∧ True ∧ True ∧ True ∧ True ∧ True ∧ True ∧ True) (σ1 := (15, [some (aR 16 k0), some (aI v1), some (aI v2), some (aI (rI M k0 0))], [], wI M k0 0 ((rI M k0 0) + ((1 : Int32))))) tc_83 rfl 9 (fun u => ⟨_, rfl⟩) ⟨trivial, trivial, trivial, trivial, trivial, trivial, trivial, trivial, trivial, trivial⟩ ?_
  exact g_Nd_addTo_J15 hd hw k0 v1 v2 (rI M k0 0) (wI M k0 0 ((rI M k0 0) + ((1 : Int32)))) h
theorem tc_39 : tC 39 = c39 := rfl
/-- PolicyJudge$Reader.addNode(I)I -/
def w_Rd_addNode (post : Int32 → aM → Prop) (k0 : Nat) (v1 : Int32) (M : aM) : Prop := (((rI M ((rR M k0 3) + 9) 0) < ((100 : Int32))) → w_Nd_addTo (fun M1 => post ((rI M1 ((rR M k0 3) + 9) 0) - ((1 : Int32))) M1) ((rR M k0 3) + 9) (rI M k0 5) v1 M) ∧ (¬ ((rI M ((rR M k0 3) + 9) 0) < ((100 : Int32))) → w_Rd_refuse (fun M2 => post ((-1 : Int32)) M2) k0 ((5 : Int32)) M)
theorem g_Rd_addNode {d w : Nat} (hd : 2 ≤ d) (hw : 45 ≤ w) {post : Int32 → aM → Prop} {k0 : Nat} {v1 : Int32} {M : aM} (h : w_Rd_addNode post k0 v1 M) : Gd d w 39 (pI post) (0, aEnt 39 [aR 11 k0, aI v1], [], M) := by
  unfold w_Rd_addNode at h
  show Gd d w 39 _ (0, [some (aR 11 k0), some (aI v1), none], [], M)
  refine gd_s (P := True ∧ True ∧ True ∧ True ∧ True ∧ True ∧ True ∧ True) (σ1 := (14, [some (aR 11 k0), some (aI v1), some (aR 16 ((rR M k0 3) + 9))], [aI ((100 : Int32)), aI (rI M ((rR M k0 3) + 9) 0)], M)) tc_39 rfl 7 (fun u => ⟨_, rfl⟩) ⟨trivial, trivial, trivial, trivial, trivial, trivial, trivial, trivial⟩ ?_
  refine gd_br (c := (rI M ((rR M k0 3) + 9) 0) < ((100 : Int32))) (st1 := []) tc_39 rfl rfl (fun _ => rfl) ⟨fun hc => ?_, fun hc => ?_⟩
  · have h := h.1 hc
    show Gd d w 39 _ (24, [some (aR 11 k0), some (aI v1), some (aR 16 ((rR M k0 3) + 9))], [], M)
    refine gd_s (P := True ∧ True ∧ True ∧ True ∧ True) (σ1 := (30, [some (aR 11 k0), some (aI v1), some (aR 16 ((rR M k0 3) + 9))], [aI v1, aI (rI M k0 5), aR 16 ((rR M k0 3) + 9)], M)) tc_39 rfl 4 (fun u => ⟨_, rfl⟩) ⟨trivial, trivial, trivial, trivial, trivial⟩ ?_
    refine gd_callN (ml := 4) (as := [aR 16 ((rR M k0 3) + 9), aI (rI M k0 5), aI v1]) (rest := []) tc_39 rfl rfl rfl rfl rfl (by omega) (by omega) (Nat.le_of_ble_eq_true rfl) rfl (g_Nd_addTo (by omega) (by omega) h) (fun r9 M1 h => ?_)
    obtain ⟨rfl, h⟩ := h
    show Gd d w 39 _ (33, [some (aR 11 k0), some (aI v1), some (aR 16 ((rR M k0 3) + 9))], [], M1)
    refine gd_s (P := True ∧ True ∧ True ∧ True ∧ True) (σ1 := (39, [some (aR 11 k0), some (aI v1), some (aR 16 ((rR M k0 3) + 9))], [aI ((rI M1 ((rR M k0 3) + 9) 0) - ((1 : Int32)))], M1)) tc_39 rfl 4 (fun u => ⟨_, rfl⟩) ⟨trivial, trivial, trivial, trivial, trivial⟩ ?_
    exact gd_ret tc_39 rfl rfl trivial (fun _ => rfl) ⟨_, rfl, h⟩
  · have h := h.2 hc
    show Gd d w 39 _ (17, [some (aR 11 k0), some (aI v1), some (aR 16 ((rR M k0 3) + 9))], [], M)
    refine gd_s (P := True ∧ True ∧ True) (σ1 := (19, [some (aR 11 k0), some (aI v1), some (aR 16 ((rR M k0 3) + 9))], [aI ((5 : Int32)), aR 11 k0], M)) tc_39 rfl 2 (fun u => ⟨_, rfl⟩) ⟨trivial, trivial, trivial⟩ ?_
    refine gd_callN (ml := 2) (as := [aR 11 k0, aI ((5 : Int32))]) (rest := []) tc_39 rfl rfl rfl rfl rfl (by omega) (by omega) (Nat.le_of_ble_eq_true rfl) rfl (g_Rd_refuse (by omega) (by omega) h) (fun r9 M2 h => ?_)
    obtain ⟨rfl, h⟩ := h
    show Gd d w 39 _ (22, [some (aR 11 k0), some (aI v1), some (aR 16 ((rR M k0 3) + 9))], [], M2)
    refine gd_s (P := True ∧ True) (σ1 := (23, [some (aR 11 k0), some (aI v1), some (aR 16 ((rR M k0 3) + 9))], [aI ((-1 : Int32))], M2)) tc_39 rfl 1 (fun u => ⟨_, rfl⟩) ⟨trivial, trivial⟩ ?_
    exact gd_ret tc_39 rfl rfl trivial (fun _ => rfl) ⟨_, rfl, h⟩
theorem tc_40 : tC 40 = c40 := rfl
/-- PolicyJudge$Reader.readName(I)Z -/
def w_Rd_readName (post : Int32 → aM → Prop) (k0 : Nat) (v1 : Int32) (M : aM) : Prop := w_Rd_token (fun x1 => ((x1 = ((128 : Int32))) → (vp_in (rI M k0 4) (rK M ((k0 + 1) + 3)).2) ∧ (w_Rd_tokenValue (fun x2 => w_Nm_put (fun M3 => w_Rd_step (fun M4 => (((1 : Int32)) = 0 ∨ ((1 : Int32)) = 1) ∧ post ((1 : Int32)) M4) k0 M3) (((rR M k0 3) + 9) + 1) v1 ((k0 + 1) + 1) (rI M ((k0 + 1) + 3) (rI M k0 4).toNatClampNeg) x2 M) k0 M)) ∧ (¬ (x1 = ((128 : Int32))) → (((0 : Int32)) = 0 ∨ ((0 : Int32)) = 1) ∧ post ((0 : Int32)) M)) k0 M
theorem g_Rd_readName {d w : Nat} (hd : 7 ≤ d) (hw : 225 ≤ w) {post : Int32 → aM → Prop} {k0 : Nat} {v1 : Int32} {M : aM} (h : w_Rd_readName post k0 v1 M) : Gd d w 40 (pI post) (0, aEnt 40 [aR 11 k0, aI v1], [], M) := by
  unfold w_Rd_readName at h
  show Gd d w 40 _ (0, [some (aR 11 k0), some (aI v1)], [], M)
  refine gd_s (P := True ∧ True) (σ1 := (1, [some (aR 11 k0), some (aI v1)], [aR 11 k0], M)) tc_40 rfl 1 (fun u => ⟨_, rfl⟩) ⟨trivial, trivial⟩ ?_
  refine gd_callN (ml := 1) (as := [aR 11 k0]) (rest := []) tc_40 rfl rfl rfl rfl rfl (by omega) (by omega) (Nat.le_of_ble_eq_true rfl) rfl (g_Rd_token (by omega) (by omega) h) (fun r9 M9 h => ?_)
  obtain ⟨x1, rfl, e9, h⟩ := h
  subst M9
  show Gd d w 40 _ (4, [some (aR 11 k0), some (aI v1)], [aI x1], M)
  refine gd_s (P := True ∧ True) (σ1 := (7, [some (aR 11 k0), some (aI v1)], [aI ((128 : Int32)), aI x1], M)) tc_40 rfl 1 (fun u => ⟨_, rfl⟩) ⟨trivial, trivial⟩ ?_
  refine gd_br (c := x1 = ((128 : Int32))) (st1 := []) tc_40 rfl rfl (fun _ => rfl) ⟨fun hc => ?_, fun hc => ?_⟩
  · have h := h.1 hc
    show Gd d w 40 _ (12, [some (aR 11 k0), some (aI v1)], [], M)
    obtain ⟨c0, h⟩ := h
    refine gd_s (P := True ∧ True ∧ True ∧ True ∧ True ∧ True ∧ True ∧ True ∧ True ∧ True ∧ True ∧ True ∧ True ∧ (vp_in (rI M k0 4) (rK M ((k0 + 1) + 3)).2) ∧ True ∧ True) (σ1 := (43, [some (aR 11 k0), some (aI v1)], [aR 11 k0, aI (rI M ((k0 + 1) + 3) (rI M k0 4).toNatClampNeg), aR 4 ((k0 + 1) + 1), aI v1, aR 15 (((rR M k0 3) + 9) + 1)], M)) tc_40 rfl 15 (fun u => ⟨_, rfl⟩) ⟨trivial, trivial, trivial, trivial, trivial, trivial, trivial, trivial, trivial, trivial, trivial, trivial, trivial, c0, trivial, trivial⟩ ?_
    refine gd_callN (ml := 1) (as := [aR 11 k0]) (rest := [aI (rI M ((k0 + 1) + 3) (rI M k0 4).toNatClampNeg), aR 4 ((k0 + 1) + 1), aI v1, aR 15 (((rR M k0 3) + 9) + 1)]) tc_40 rfl rfl rfl rfl rfl (by omega) (by omega) (Nat.le_of_ble_eq_true rfl) rfl (g_Rd_tokenValue (by omega) (by omega) h) (fun r9 M9 h => ?_)
    obtain ⟨x2, rfl, e9, h⟩ := h
    subst M9
    show Gd d w 40 _ (46, [some (aR 11 k0), some (aI v1)], [aI x2, aI (rI M ((k0 + 1) + 3) (rI M k0 4).toNatClampNeg), aR 4 ((k0 + 1) + 1), aI v1, aR 15 (((rR M k0 3) + 9) + 1)], M)
    refine gd_callN (ml := 6) (as := [aR 15 (((rR M k0 3) + 9) + 1), aI v1, aR 4 ((k0 + 1) + 1), aI (rI M ((k0 + 1) + 3) (rI M k0 4).toNatClampNeg), aI x2]) (rest := []) tc_40 rfl rfl rfl rfl rfl (by omega) (by omega) (Nat.le_of_ble_eq_true rfl) rfl (g_Nm_put (by omega) (by omega) h) (fun r9 M3 h => ?_)
    obtain ⟨rfl, h⟩ := h
    show Gd d w 40 _ (49, [some (aR 11 k0), some (aI v1)], [], M3)
    refine gd_s (P := True ∧ True) (σ1 := (50, [some (aR 11 k0), some (aI v1)], [aR 11 k0], M3)) tc_40 rfl 1 (fun u => ⟨_, rfl⟩) ⟨trivial, trivial⟩ ?_
    refine gd_callN (ml := 1) (as := [aR 11 k0]) (rest := []) tc_40 rfl rfl rfl rfl rfl (by omega) (by omega) (Nat.le_of_ble_eq_true rfl) rfl (g_Rd_step (by omega) (by omega) h) (fun r9 M4 h => ?_)
    obtain ⟨rfl, h⟩ := h
    show Gd d w 40 _ (53, [some (aR 11 k0), some (aI v1)], [], M4)
    refine gd_s (P := True ∧ True) (σ1 := (54, [some (aR 11 k0), some (aI v1)], [aI ((1 : Int32))], M4)) tc_40 rfl 1 (fun u => ⟨_, rfl⟩) ⟨trivial, trivial⟩ ?_
    exact gd_ret tc_40 rfl rfl h.1 (fun _ => rfl) ⟨_, rfl, h.2⟩
  · have h := h.2 hc
    show Gd d w 40 _ (10, [some (aR 11 k0), some (aI v1)], [], M)
    refine gd_s (P := True ∧ True) (σ1 := (11, [some (aR 11 k0), some (aI v1)], [aI ((0 : Int32))], M)) tc_40 rfl 1 (fun u => ⟨_, rfl⟩) ⟨trivial, trivial⟩ ?_
    exact gd_ret tc_40 rfl rfl h.1 (fun _ => rfl) ⟨_, rfl, h.2⟩
theorem tc_87 : tC 87 = c87 := rfl
def w_Pt_add_J60 (post : aM → Prop) (k0 : Nat) (M : aM) : Prop := post (wI M k0 0 ((rI M k0 0) + ((1 : Int32))))
theorem g_Pt_add_J60 {d w : Nat} (hd : 0 ≤ d) (hw : 0 ≤ w) {post : aM → Prop} (k0 : Nat) (o1 : Option aV) (M : aM) (h : w_Pt_add_J60 post k0 M) : Gd d w 87 (pV post) (60, [some (aR 17 k0), o1], [], M) := by
  unfold w_Pt_add_J60 at h
  show Gd d w 87 _ (60, [some (aR 17 k0), o1], [], M)
  refine gd_s (P := True ∧ True ∧ True ∧ True ∧ True ∧ True ∧ True) (σ1 := (70, [some (aR 17 k0), o1], [], wI M k0 0 ((rI M k0 0) + ((1 : Int32))))) tc_87 rfl 6 (fun u => ⟨_, rfl⟩) ⟨trivial, trivial, trivial, trivial, trivial, trivial, trivial⟩ ?_
  exact gd_ret tc_87 rfl rfl trivial (fun _ => rfl) ⟨rfl, h⟩
def w_Pt_add_J50 (post : aM → Prop) (k0 : Nat) (M : aM) : Prop := (vp_in (rI M k0 0) (rK M (k0 + 6)).2) ∧ (w_Pt_add_J60 post k0 (wI M (k0 + 6) (rI M k0 0).toNatClampNeg ((-1 : Int32))))
theorem g_Pt_add_J50 {d w : Nat} (hd : 0 ≤ d) (hw : 0 ≤ w) {post : aM → Prop} (k0 : Nat) (o1 : Option aV) (M : aM) (h : w_Pt_add_J50 post k0 M) : Gd d w 87 (pV post) (50, [some (aR 17 k0), o1], [], M) := by
  unfold w_Pt_add_J50 at h
  show Gd d w 87 _ (50, [some (aR 17 k0), o1], [], M)
  obtain ⟨c0, h⟩ := h
  refine gd_s (P := True ∧ True ∧ True ∧ True ∧ True ∧ (vp_in (rI M k0 0) (rK M (k0 + 6)).2) ∧ True) (σ1 := (60, [some (aR 17 k0), o1], [], wI M (k0 + 6) (rI M k0 0).toNatClampNeg ((-1 : Int32)))) tc_87 rfl 6 (fun u => ⟨_, rfl⟩) ⟨trivial, trivial, trivial, trivial, trivial, c0, trivial⟩ ?_
  exact g_Pt_add_J60 hd hw k0 o1 (wI M (k0 + 6) (rI M k0 0).toNatClampNeg ((-1 : Int32))) h
def w_Pt_add_J40 (post : aM → Prop) (k0 : Nat) (M : aM) : Prop := (vp_in (rI M k0 0) (rK M (k0 + 5)).2) ∧ (w_Pt_add_J50 post k0 (wI M (k0 + 5) (rI M k0 0).toNatClampNeg ((-1 : Int32))))
theorem g_Pt_add_J40 {d w : Nat} (hd : 0 ≤ d) (hw : 0 ≤ w) {post : aM → Prop} (k0 : Nat) (o1 : Option aV) (M : aM) (h : w_Pt_add_J40 post k0 M) : Gd d w 87 (pV post) (40, [some (aR 17 k0), o1], [], M) := by
  unfold w_Pt_add_J40 at h
  show Gd d w 87 _ (40, [some (aR 17 k0), o1], [], M)
  obtain ⟨c0, h⟩ := h
  refine gd_s (P := True ∧ True ∧ True ∧ True ∧ True ∧ (vp_in (rI M k0 0) (rK M (k0 + 5)).2) ∧ True) (σ1 := (50, [some (aR 17 k0), o1], [], wI M (k0 + 5) (rI M k0 0).toNatClampNeg ((-1 : Int32)))) tc_87 rfl 6 (fun u => ⟨_, rfl⟩) ⟨trivial, trivial, trivial, trivial, trivial, c0, trivial⟩ ?_
  exact g_Pt_add_J50 hd hw k0 o1 (wI M (k0 + 5) (rI M k0 0).toNatClampNeg ((-1 : Int32))) h
def w_Pt_add_J30 (post : aM → Prop) (k0 : Nat) (M : aM) : Prop := (vp_in (rI M k0 0) (rK M (k0 + 4)).2) ∧ (w_Pt_add_J40 post k0 (wI M (k0 + 4) (rI M k0 0).toNatClampNeg ((0 : Int32))))
theorem g_Pt_add_J30 {d w : Nat} (hd : 0 ≤ d) (hw : 0 ≤ w) {post : aM → Prop} (k0 : Nat) (o1 : Option aV) (M : aM) (h : w_Pt_add_J30 post k0 M) : Gd d w 87 (pV post) (30, [some (aR 17 k0), o1], [], M) := by
  unfold w_Pt_add_J30 at h
  show Gd d w 87 _ (30, [some (aR 17 k0), o1], [], M)
  obtain ⟨c0, h⟩ := h
  refine gd_s (P := True ∧ True ∧ True ∧ True ∧ True ∧ (vp_in (rI M k0 0) (rK M (k0 + 4)).2) ∧ True) (σ1 := (40, [some (aR 17 k0), o1], [], wI M (k0 + 4) (rI M k0 0).toNatClampNeg ((0 : Int32)))) tc_87 rfl 6 (fun u => ⟨_, rfl⟩) ⟨trivial, trivial, trivial, trivial, trivial, c0, trivial⟩ ?_
  exact g_Pt_add_J40 hd hw k0 o1 (wI M (k0 + 4) (rI M k0 0).toNatClampNeg ((0 : Int32))) h
def w_Pt_add_J20 (post : aM → Prop) (k0 : Nat) (M : aM) : Prop := (vp_in (rI M k0 0) (rK M (k0 + 3)).2) ∧ (w_Pt_add_J30 post k0 (wI M (k0 + 3) (rI M k0 0).toNatClampNeg ((0 : Int32))))
theorem g_Pt_add_J20 {d w : Nat} (hd : 0 ≤ d) (hw : 0 ≤ w) {post : aM → Prop} (k0 : Nat) (o1 : Option aV) (M : aM) (h : w_Pt_add_J20 post k0 M) : Gd d w 87 (pV post) (20, [some (aR 17 k0), o1], [], M) := by
  unfold w_Pt_add_J20 at h
  show Gd d w 87 _ (20, [some (aR 17 k0), o1], [], M)
  obtain ⟨c0, h⟩ := h
  refine gd_s (P := True ∧ True ∧ True ∧ True ∧ True ∧ (vp_in (rI M k0 0) (rK M (k0 + 3)).2) ∧ True) (σ1 := (30, [some (aR 17 k0), o1], [], wI M (k0 + 3) (rI M k0 0).toNatClampNeg ((0 : Int32)))) tc_87 rfl 6 (fun u => ⟨_, rfl⟩) ⟨trivial, trivial, trivial, trivial, trivial, c0, trivial⟩ ?_
  exact g_Pt_add_J30 hd hw k0 o1 (wI M (k0 + 3) (rI M k0 0).toNatClampNeg ((0 : Int32))) h
def w_Pt_add_J10 (post : aM → Prop) (k0 : Nat) (M : aM) : Prop := (vp_in (rI M k0 0) (rK M (k0 + 2)).2) ∧ (w_Pt_add_J20 post k0 (wI M (k0 + 2) (rI M k0 0).toNatClampNeg ((0 : Int32))))
theorem g_Pt_add_J10 {d w : Nat} (hd : 0 ≤ d) (hw : 0 ≤ w) {post : aM → Prop} (k0 : Nat) (o1 : Option aV) (M : aM) (h : w_Pt_add_J10 post k0 M) : Gd d w 87 (pV post) (10, [some (aR 17 k0), o1], [], M) := by
  unfold w_Pt_add_J10 at h
  show Gd d w 87 _ (10, [some (aR 17 k0), o1], [], M)
  obtain ⟨c0, h⟩ := h
  refine gd_s (P := True ∧ True ∧ True ∧ True ∧ True ∧ (vp_in (rI M k0 0) (rK M (k0 + 2)).2) ∧ True) (σ1 := (20, [some (aR 17 k0), o1], [], wI M (k0 + 2) (rI M k0 0).toNatClampNeg ((0 : Int32)))) tc_87 rfl 6 (fun u => ⟨_, rfl⟩) ⟨trivial, trivial, trivial, trivial, trivial, c0, trivial⟩ ?_
  exact g_Pt_add_J20 hd hw k0 o1 (wI M (k0 + 2) (rI M k0 0).toNatClampNeg ((0 : Int32))) h
/-- PolicyJudge$Parts.add(I)V -/
def w_Pt_add (post : aM → Prop) (k0 : Nat) (v1 : Int32) (M : aM) : Prop := (vp_in (rI M k0 0) (rK M (k0 + 1)).2) ∧ (w_Pt_add_J10 post k0 (wI M (k0 + 1) (rI M k0 0).toNatClampNeg v1))
theorem g_Pt_add {d w : Nat} (hd : 0 ≤ d) (hw : 0 ≤ w) {post : aM → Prop} {k0 : Nat} {v1 : Int32} {M : aM} (h : w_Pt_add post k0 v1 M) : Gd d w 87 (pV post) (0, aEnt 87 [aR 17 k0, aI v1], [], M) := by
  unfold w_Pt_add at h
  show Gd d w 87 _ (0, [some (aR 17 k0), some (aI v1)], [], M)
  obtain ⟨c0, h⟩ := h
  refine gd_s (P := True ∧ True ∧ True ∧ True ∧ True ∧ (vp_in (rI M k0 0) (rK M (k0 + 1)).2) ∧ True) (σ1 := (10, [some (aR 17 k0), some (aI v1)], [], wI M (k0 + 1) (rI M k0 0).toNatClampNeg v1)) tc_87 rfl 6 (fun u => ⟨_, rfl⟩) ⟨trivial, trivial, trivial, trivial, trivial, c0, trivial⟩ ?_
  exact g_Pt_add_J10 hd hw k0 (some (aI v1)) (wI M (k0 + 1) (rI M k0 0).toNatClampNeg v1) h
theorem tc_44 : tC 44 = c44 := rfl
/-- PolicyJudge$Reader.addPart(I)I -/
def w_Rd_addPart (post : Int32 → aM → Prop) (k0 : Nat) (v1 : Int32) (M : aM) : Prop := (((rI M ((rR M k0 3) + 24) 0) < ((400 : Int32))) → w_Pt_add (fun M1 => post ((rI M1 ((rR M k0 3) + 24) 0) - ((1 : Int32))) M1) ((rR M k0 3) + 24) v1 M) ∧ (¬ ((rI M ((rR M k0 3) + 24) 0) < ((400 : Int32))) → w_Rd_refuse (fun M2 => post ((-1 : Int32)) M2) k0 ((5 : Int32)) M)
theorem g_Rd_addPart {d w : Nat} (hd : 1 ≤ d) (hw : 21 ≤ w) {post : Int32 → aM → Prop} {k0 : Nat} {v1 : Int32} {M : aM} (h : w_Rd_addPart post k0 v1 M) : Gd d w 44 (pI post) (0, aEnt 44 [aR 11 k0, aI v1], [], M) := by
  unfold w_Rd_addPart at h
  show Gd d w 44 _ (0, [some (aR 11 k0), some (aI v1), none], [], M)
  refine gd_s (P := True ∧ True ∧ True ∧ True ∧ True ∧ True ∧ True ∧ True) (σ1 := (15, [some (aR 11 k0), some (aI v1), some (aR 17 ((rR M k0 3) + 24))], [aI ((400 : Int32)), aI (rI M ((rR M k0 3) + 24) 0)], M)) tc_44 rfl 7 (fun u => ⟨_, rfl⟩) ⟨trivial, trivial, trivial, trivial, trivial, trivial, trivial, trivial⟩ ?_
  refine gd_br (c := (rI M ((rR M k0 3) + 24) 0) < ((400 : Int32))) (st1 := []) tc_44 rfl rfl (fun _ => rfl) ⟨fun hc => ?_, fun hc => ?_⟩
  · have h := h.1 hc
    show Gd d w 44 _ (25, [some (aR 11 k0), some (aI v1), some (aR 17 ((rR M k0 3) + 24))], [], M)
    refine gd_s (P := True ∧ True ∧ True) (σ1 := (27, [some (aR 11 k0), some (aI v1), some (aR 17 ((rR M k0 3) + 24))], [aI v1, aR 17 ((rR M k0 3) + 24)], M)) tc_44 rfl 2 (fun u => ⟨_, rfl⟩) ⟨trivial, trivial, trivial⟩ ?_
    refine gd_callN (ml := 2) (as := [aR 17 ((rR M k0 3) + 24), aI v1]) (rest := []) tc_44 rfl rfl rfl rfl rfl (by omega) (by omega) (Nat.le_of_ble_eq_true rfl) rfl (g_Pt_add (by omega) (by omega) h) (fun r9 M1 h => ?_)
    obtain ⟨rfl, h⟩ := h
    show Gd d w 44 _ (30, [some (aR 11 k0), some (aI v1), some (aR 17 ((rR M k0 3) + 24))], [], M1)
    refine gd_s (P := True ∧ True ∧ True ∧ True ∧ True) (σ1 := (36, [some (aR 11 k0), some (aI v1), some (aR 17 ((rR M k0 3) + 24))], [aI ((rI M1 ((rR M k0 3) + 24) 0) - ((1 : Int32)))], M1)) tc_44 rfl 4 (fun u => ⟨_, rfl⟩) ⟨trivial, trivial, trivial, trivial, trivial⟩ ?_
    exact gd_ret tc_44 rfl rfl trivial (fun _ => rfl) ⟨_, rfl, h⟩
  · have h := h.2 hc
    show Gd d w 44 _ (18, [some (aR 11 k0), some (aI v1), some (aR 17 ((rR M k0 3) + 24))], [], M)
    refine gd_s (P := True ∧ True ∧ True) (σ1 := (20, [some (aR 11 k0), some (aI v1), some (aR 17 ((rR M k0 3) + 24))], [aI ((5 : Int32)), aR 11 k0], M)) tc_44 rfl 2 (fun u => ⟨_, rfl⟩) ⟨trivial, trivial, trivial⟩ ?_
    refine gd_callN (ml := 2) (as := [aR 11 k0, aI ((5 : Int32))]) (rest := []) tc_44 rfl rfl rfl rfl rfl (by omega) (by omega) (Nat.le_of_ble_eq_true rfl) rfl (g_Rd_refuse (by omega) (by omega) h) (fun r9 M2 h => ?_)
    obtain ⟨rfl, h⟩ := h
    show Gd d w 44 _ (23, [some (aR 11 k0), some (aI v1), some (aR 17 ((rR M k0 3) + 24))], [], M2)
    refine gd_s (P := True ∧ True) (σ1 := (24, [some (aR 11 k0), some (aI v1), some (aR 17 ((rR M k0 3) + 24))], [aI ((-1 : Int32))], M2)) tc_44 rfl 1 (fun u => ⟨_, rfl⟩) ⟨trivial, trivial⟩ ?_
    exact gd_ret tc_44 rfl rfl trivial (fun _ => rfl) ⟨_, rfl, h⟩
theorem tc_43 : tC 43 = c43 := rfl
/-- PolicyJudge$Reader.readNot(I)I -/
def w_Rd_readNot_r (R_Rd_readJoined : (Int32 → aM → Prop) → Nat → Int32 → Int32 → aM → Prop) (R_Rd_readPart : (Int32 → aM → Prop) → Nat → Int32 → aM → Prop) (R_Rd_readNot : (Int32 → aM → Prop) → Nat → Int32 → aM → Prop) (R_Rd_readBracket : (Int32 → aM → Prop) → Nat → Int32 → aM → Prop) (post : Int32 → aM → Prop) (k0 : Nat) (v1 : Int32) (M : aM) : Prop := ((v1 < ((20 : Int32))) → w_Rd_addPart (fun x1 M1 => ((¬ x1 = ((-1 : Int32))) → w_Rd_step (fun M2 => R_Rd_readPart (fun x3 M3 => (vp_in x1 (rK M3 (((rR M2 k0 3) + 24) + 5)).2) ∧ (vp_in x1 (rK M3 (((rR (wI M3 (((rR M2 k0 3) + 24) + 5) x1.toNatClampNeg x3) k0 3) + 24) + 4)).2) ∧ post x1 (wI (wI M3 (((rR M2 k0 3) + 24) + 5) x1.toNatClampNeg x3) (((rR (wI M3 (((rR M2 k0 3) + 24) + 5) x1.toNatClampNeg x3) k0 3) + 24) + 4) x1.toNatClampNeg ((1 : Int32)))) k0 (v1 + ((1 : Int32))) M2) k0 M1) ∧ (¬ (¬ x1 = ((-1 : Int32))) → post ((-1 : Int32)) M1)) k0 ((12 : Int32)) M) ∧ (¬ (v1 < ((20 : Int32))) → w_Rd_refuse (fun M4 => post ((-1 : Int32)) M4) k0 ((5 : Int32)) M)
theorem g_Rd_readNot_r {d w : Nat} (hd : 4 ≤ d) (hw : 98 ≤ w) {R_Rd_readJoined : (Int32 → aM → Prop) → Nat → Int32 → Int32 → aM → Prop} (hR_Rd_readJoined : ∀ (post : Int32 → aM → Prop) (k0 : Nat) (v1 : Int32) (v2 : Int32) (M : aM), R_Rd_readJoined post k0 v1 v2 M → Gd (d - 1) (w - (9 + 19)) 41 (pI post) (0, aEnt 41 [aR 11 k0, aI v1, aI v2], [], M)) {R_Rd_readPart : (Int32 → aM → Prop) → Nat → Int32 → aM → Prop} (hR_Rd_readPart : ∀ (post : Int32 → aM → Prop) (k0 : Nat) (v1 : Int32) (M : aM), R_Rd_readPart post k0 v1 M → Gd (d - 1) (w - (3 + 19)) 42 (pI post) (0, aEnt 42 [aR 11 k0, aI v1], [], M)) {R_Rd_readNot : (Int32 → aM → Prop) → Nat → Int32 → aM → Prop} (hR_Rd_readNot : ∀ (post : Int32 → aM → Prop) (k0 : Nat) (v1 : Int32) (M : aM), R_Rd_readNot post k0 v1 M → Gd (d - 1) (w - (3 + 19)) 43 (pI post) (0, aEnt 43 [aR 11 k0, aI v1], [], M)) {R_Rd_readBracket : (Int32 → aM → Prop) → Nat → Int32 → aM → Prop} (hR_Rd_readBracket : ∀ (post : Int32 → aM → Prop) (k0 : Nat) (v1 : Int32) (M : aM), R_Rd_readBracket post k0 v1 M → Gd (d - 1) (w - (3 + 19)) 45 (pI post) (0, aEnt 45 [aR 11 k0, aI v1], [], M)) {post : Int32 → aM → Prop} {k0 : Nat} {v1 : Int32} {M : aM} (h : w_Rd_readNot_r R_Rd_readJoined R_Rd_readPart R_Rd_readNot R_Rd_readBracket post k0 v1 M) : Gd d w 43 (pI post) (0, aEnt 43 [aR 11 k0, aI v1], [], M) := by
  unfold w_Rd_readNot_r at h
  show Gd d w 43 _ (0, [some (aR 11 k0), some (aI v1), none], [], M)
  refine gd_s (P := True ∧ True ∧ True) (σ1 := (3, [some (aR 11 k0), some (aI v1), none], [aI ((20 : Int32)), aI v1], M)) tc_43 rfl 2 (fun u => ⟨_, rfl⟩) ⟨trivial, trivial, trivial⟩ ?_
  refine gd_br (c := v1 < ((20 : Int32))) (st1 := []) tc_43 rfl rfl (fun _ => rfl) ⟨fun hc => ?_, fun hc => ?_⟩
  · have h := h.1 hc
    show Gd d w 43 _ (13, [some (aR 11 k0), some (aI v1), none], [], M)
    refine gd_s (P := True ∧ True ∧ True) (σ1 := (16, [some (aR 11 k0), some (aI v1), none], [aI ((12 : Int32)), aR 11 k0], M)) tc_43 rfl 2 (fun u => ⟨_, rfl⟩) ⟨trivial, trivial, trivial⟩ ?_
    refine gd_callN (ml := 3) (as := [aR 11 k0, aI ((12 : Int32))]) (rest := []) tc_43 rfl rfl rfl rfl rfl (by omega) (by omega) (Nat.le_of_ble_eq_true rfl) rfl (g_Rd_addPart (by omega) (by omega) h) (fun r9 M1 h => ?_)
    obtain ⟨x1, rfl, h⟩ := h
    show Gd d w 43 _ (19, [some (aR 11 k0), some (aI v1), none], [aI x1], M1)
    refine gd_s (P := True ∧ True ∧ True ∧ True) (σ1 := (22, [some (aR 11 k0), some (aI v1), some (aI x1)], [aI ((-1 : Int32)), aI x1], M1)) tc_43 rfl 3 (fun u => ⟨_, rfl⟩) ⟨trivial, trivial, trivial, trivial⟩ ?_
    refine gd_br (c := ¬ x1 = ((-1 : Int32))) (st1 := []) tc_43 rfl rfl (fun _ => rfl) ⟨fun hc => ?_, fun hc => ?_⟩
    · have h := h.1 hc
      show Gd d w 43 _ (27, [some (aR 11 k0), some (aI v1), some (aI x1)], [], M1)
      refine gd_s (P := True ∧ True) (σ1 := (28, [some (aR 11 k0), some (aI v1), some (aI x1)], [aR 11 k0], M1)) tc_43 rfl 1 (fun u => ⟨_, rfl⟩) ⟨trivial, trivial⟩ ?_
      refine gd_callN (ml := 1) (as := [aR 11 k0]) (rest := []) tc_43 rfl rfl rfl rfl rfl (by omega) (by omega) (Nat.le_of_ble_eq_true rfl) rfl (g_Rd_step (by omega) (by omega) h) (fun r9 M2 h => ?_)
      obtain ⟨rfl, h⟩ := h
      show Gd d w 43 _ (31, [some (aR 11 k0), some (aI v1), some (aI x1)], [], M2)
      refine gd_s (P := True ∧ True ∧ True ∧ True ∧ True ∧ True ∧ True ∧ True ∧ True ∧ True) (σ1 := (46, [some (aR 11 k0), some (aI v1), some (aI x1)], [aI (v1 + ((1 : Int32))), aR 11 k0, aI x1, aR 4 (((rR M2 k0 3) + 24) + 5)], M2)) tc_43 rfl 9 (fun u => ⟨_, rfl⟩) ⟨trivial, trivial, trivial, trivial, trivial, trivial, trivial, trivial, trivial, trivial⟩ ?_
      refine gd_callN (ml := 3) (as := [aR 11 k0, aI (v1 + ((1 : Int32)))]) (rest := [aI x1, aR 4 (((rR M2 k0 3) + 24) + 5)]) tc_43 rfl rfl rfl rfl rfl (by omega) (by omega) (Nat.le_of_ble_eq_true rfl) rfl (hR_Rd_readPart _ k0 (v1 + ((1 : Int32))) _ h) (fun r9 M3 h => ?_)
      obtain ⟨x3, rfl, h⟩ := h
      show Gd d w 43 _ (49, [some (aR 11 k0), some (aI v1), some (aI x1)], [aI x3, aI x1, aR 4 (((rR M2 k0 3) + 24) + 5)], M3)
      obtain ⟨c0, c1, h⟩ := h
      refine gd_s (P := (vp_in x1 (rK M3 (((rR M2 k0 3) + 24) + 5)).2) ∧ True ∧ True ∧ True ∧ True ∧ True ∧ True ∧ (vp_in x1 (rK M3 (((rR (wI M3 (((rR M2 k0 3) + 24) + 5) x1.toNatClampNeg x3) k0 3) + 24) + 4)).2) ∧ True ∧ True) (σ1 := (64, [some (aR 11 k0), some (aI v1), some (aI x1)], [aI x1], wI (wI M3 (((rR M2 k0 3) + 24) + 5) x1.toNatClampNeg x3) (((rR (wI M3 (((rR M2 k0 3) + 24) + 5) x1.toNatClampNeg x3) k0 3) + 24) + 4) x1.toNatClampNeg ((1 : Int32)))) tc_43 rfl 9 (fun u => ⟨_, rfl⟩) ⟨c0, trivial, trivial, trivial, trivial, trivial, trivial, c1, trivial, trivial⟩ ?_
      exact gd_ret tc_43 rfl rfl trivial (fun _ => rfl) ⟨_, rfl, h⟩
    · have h := h.2 hc
      show Gd d w 43 _ (25, [some (aR 11 k0), some (aI v1), some (aI x1)], [], M1)
      refine gd_s (P := True ∧ True) (σ1 := (26, [some (aR 11 k0), some (aI v1), some (aI x1)], [aI ((-1 : Int32))], M1)) tc_43 rfl 1 (fun u => ⟨_, rfl⟩) ⟨trivial, trivial⟩ ?_
      exact gd_ret tc_43 rfl rfl trivial (fun _ => rfl) ⟨_, rfl, h⟩
  · have h := h.2 hc
    show Gd d w 43 _ (6, [some (aR 11 k0), some (aI v1), none], [], M)
    refine gd_s (P := True ∧ True ∧ True) (σ1 := (8, [some (aR 11 k0), some (aI v1), none], [aI ((5 : Int32)), aR 11 k0], M)) tc_43 rfl 2 (fun u => ⟨_, rfl⟩) ⟨trivial, trivial, trivial⟩ ?_
    refine gd_callN (ml := 2) (as := [aR 11 k0, aI ((5 : Int32))]) (rest := []) tc_43 rfl rfl rfl rfl rfl (by omega) (by omega) (Nat.le_of_ble_eq_true rfl) rfl (g_Rd_refuse (by omega) (by omega) h) (fun r9 M4 h => ?_)
    obtain ⟨rfl, h⟩ := h
    show Gd d w 43 _ (11, [some (aR 11 k0), some (aI v1), none], [], M4)
    refine gd_s (P := True ∧ True) (σ1 := (12, [some (aR 11 k0), some (aI v1), none], [aI ((-1 : Int32))], M4)) tc_43 rfl 1 (fun u => ⟨_, rfl⟩) ⟨trivial, trivial⟩ ?_
    exact gd_ret tc_43 rfl rfl trivial (fun _ => rfl) ⟨_, rfl, h⟩
theorem tc_45 : tC 45 = c45 := rfl
/-- PolicyJudge$Reader.readBracket(I)I -/
def w_Rd_readBracket_r (R_Rd_readJoined : (Int32 → aM → Prop) → Nat → Int32 → Int32 → aM → Prop) (R_Rd_readPart : (Int32 → aM → Prop) → Nat → Int32 → aM → Prop) (R_Rd_readNot : (Int32 → aM → Prop) → Nat → Int32 → aM → Prop) (R_Rd_readBracket : (Int32 → aM → Prop) → Nat → Int32 → aM → Prop) (post : Int32 → aM → Prop) (k0 : Nat) (v1 : Int32) (M : aM) : Prop := ((v1 < ((20 : Int32))) → w_Rd_step (fun M1 => R_Rd_readJoined (fun x2 M2 => w_Rd_isFine (fun x3 => ((x3 = ((0 : Int32))) → post x2 M2) ∧ (¬ (x3 = ((0 : Int32))) → w_Rd_require (fun M4 => post x2 M4) k0 ((41 : Int32)) M2)) k0 M2) k0 ((10 : Int32)) (v1 + ((1 : Int32))) M1) k0 M) ∧ (¬ (v1 < ((20 : Int32))) → w_Rd_refuse (fun M5 => post ((-1 : Int32)) M5) k0 ((5 : Int32)) M)
theorem g_Rd_readBracket_r {d w : Nat} (hd : 4 ≤ d) (hw : 98 ≤ w) {R_Rd_readJoined : (Int32 → aM → Prop) → Nat → Int32 → Int32 → aM → Prop} (hR_Rd_readJoined : ∀ (post : Int32 → aM → Prop) (k0 : Nat) (v1 : Int32) (v2 : Int32) (M : aM), R_Rd_readJoined post k0 v1 v2 M → Gd (d - 1) (w - (9 + 19)) 41 (pI post) (0, aEnt 41 [aR 11 k0, aI v1, aI v2], [], M)) {R_Rd_readPart : (Int32 → aM → Prop) → Nat → Int32 → aM → Prop} (hR_Rd_readPart : ∀ (post : Int32 → aM → Prop) (k0 : Nat) (v1 : Int32) (M : aM), R_Rd_readPart post k0 v1 M → Gd (d - 1) (w - (3 + 19)) 42 (pI post) (0, aEnt 42 [aR 11 k0, aI v1], [], M)) {R_Rd_readNot : (Int32 → aM → Prop) → Nat → Int32 → aM → Prop} (hR_Rd_readNot : ∀ (post : Int32 → aM → Prop) (k0 : Nat) (v1 : Int32) (M : aM), R_Rd_readNot post k0 v1 M → Gd (d - 1) (w - (3 + 19)) 43 (pI post) (0, aEnt 43 [aR 11 k0, aI v1], [], M)) {R_Rd_readBracket : (Int32 → aM → Prop) → Nat → Int32 → aM → Prop} (hR_Rd_readBracket : ∀ (post : Int32 → aM → Prop) (k0 : Nat) (v1 : Int32) (M : aM), R_Rd_readBracket post k0 v1 M → Gd (d - 1) (w - (3 + 19)) 45 (pI post) (0, aEnt 45 [aR 11 k0, aI v1], [], M)) {post : Int32 → aM → Prop} {k0 : Nat} {v1 : Int32} {M : aM} (h : w_Rd_readBracket_r R_Rd_readJoined R_Rd_readPart R_Rd_readNot R_Rd_readBracket post k0 v1 M) : Gd d w 45 (pI post) (0, aEnt 45 [aR 11 k0, aI v1], [], M) := by
  unfold w_Rd_readBracket_r at h
  show Gd d w 45 _ (0, [some (aR 11 k0), some (aI v1), none], [], M)
  refine gd_s (P := True ∧ True ∧ True) (σ1 := (3, [some (aR 11 k0), some (aI v1), none], [aI ((20 : Int32)), aI v1], M)) tc_45 rfl 2 (fun u => ⟨_, rfl⟩) ⟨trivial, trivial, trivial⟩ ?_
  refine gd_br (c := v1 < ((20 : Int32))) (st1 := []) tc_45 rfl rfl (fun _ => rfl) ⟨fun hc => ?_, fun hc => ?_⟩
  · have h := h.1 hc
    show Gd d w 45 _ (13, [some (aR 11 k0), some (aI v1), none], [], M)
    refine gd_s (P := True ∧ True) (σ1 := (14, [some (aR 11 k0), some (aI v1), none], [aR 11 k0], M)) tc_45 rfl 1 (fun u => ⟨_, rfl⟩) ⟨trivial, trivial⟩ ?_
    refine gd_callN (ml := 1) (as := [aR 11 k0]) (rest := []) tc_45 rfl rfl rfl rfl rfl (by omega) (by omega) (Nat.le_of_ble_eq_true rfl) rfl (g_Rd_step (by omega) (by omega) h) (fun r9 M1 h => ?_)
    obtain ⟨rfl, h⟩ := h
    show Gd d w 45 _ (17, [some (aR 11 k0), some (aI v1), none], [], M1)
    refine gd_s (P := True ∧ True ∧ True ∧ True ∧ True ∧ True) (σ1 := (23, [some (aR 11 k0), some (aI v1), none], [aI (v1 + ((1 : Int32))), aI ((10 : Int32)), aR 11 k0], M1)) tc_45 rfl 5 (fun u => ⟨_, rfl⟩) ⟨trivial, trivial, trivial, trivial, trivial, trivial⟩ ?_
    refine gd_callN (ml := 9) (as := [aR 11 k0, aI ((10 : Int32)), aI (v1 + ((1 : Int32)))]) (rest := []) tc_45 rfl rfl rfl rfl rfl (by omega) (by omega) (Nat.le_of_ble_eq_true rfl) rfl (hR_Rd_readJoined _ k0 ((10 : Int32)) (v1 + ((1 : Int32))) _ h) (fun r9 M2 h => ?_)
    obtain ⟨x2, rfl, h⟩ := h
    show Gd d w 45 _ (26, [some (aR 11 k0), some (aI v1), none], [aI x2], M2)
    refine gd_s (P := True ∧ True ∧ True) (σ1 := (28, [some (aR 11 k0), some (aI v1), some (aI x2)], [aR 11 k0], M2)) tc_45 rfl 2 (fun u => ⟨_, rfl⟩) ⟨trivial, trivial, trivial⟩ ?_
    refine gd_callN (ml := 1) (as := [aR 11 k0]) (rest := []) tc_45 rfl rfl rfl rfl rfl (by omega) (by omega) (Nat.le_of_ble_eq_true rfl) rfl (g_Rd_isFine (by omega) (by omega) h) (fun r9 M9 h => ?_)
    obtain ⟨x3, rfl, e9, h⟩ := h
    subst M9
    show Gd d w 45 _ (31, [some (aR 11 k0), some (aI v1), some (aI x2)], [aI x3], M2)
    refine gd_br (c := x3 = ((0 : Int32))) (st1 := []) tc_45 rfl rfl (fun _ => rfl) ⟨fun hc => ?_, fun hc => ?_⟩
    · have h := h.1 hc
      show Gd d w 45 _ (40, [some (aR 11 k0), some (aI v1), some (aI x2)], [], M2)
      refine gd_s (P := True ∧ True) (σ1 := (41, [some (aR 11 k0), some (aI v1), some (aI x2)], [aI x2], M2)) tc_45 rfl 1 (fun u => ⟨_, rfl⟩) ⟨trivial, trivial⟩ ?_
      exact gd_ret tc_45 rfl rfl trivial (fun _ => rfl) ⟨_, rfl, h⟩
    · have h := h.2 hc
      show Gd d w 45 _ (34, [some (aR 11 k0), some (aI v1), some (aI x2)], [], M2)
      refine gd_s (P := True ∧ True ∧ True) (σ1 := (37, [some (aR 11 k0), some (aI v1), some (aI x2)], [aI ((41 : Int32)), aR 11 k0], M2)) tc_45 rfl 2 (fun u => ⟨_, rfl⟩) ⟨trivial, trivial, trivial⟩ ?_
      refine gd_callN (ml := 2) (as := [aR 11 k0, aI ((41 : Int32))]) (rest := []) tc_45 rfl rfl rfl rfl rfl (by omega) (by omega) (Nat.le_of_ble_eq_true rfl) rfl (g_Rd_require (by omega) (by omega) h) (fun r9 M4 h => ?_)
      obtain ⟨rfl, h⟩ := h
      show Gd d w 45 _ (40, [some (aR 11 k0), some (aI v1), some (aI x2)], [], M4)
      refine gd_s (P := True ∧ True) (σ1 := (41, [some (aR 11 k0), some (aI v1), some (aI x2)], [aI x2], M4)) tc_45 rfl 1 (fun u => ⟨_, rfl⟩) ⟨trivial, trivial⟩ ?_
      exact gd_ret tc_45 rfl rfl trivial (fun _ => rfl) ⟨_, rfl, h⟩
  · have h := h.2 hc
    show Gd d w 45 _ (6, [some (aR 11 k0), some (aI v1), none], [], M)
    refine gd_s (P := True ∧ True ∧ True) (σ1 := (8, [some (aR 11 k0), some (aI v1), none], [aI ((5 : Int32)), aR 11 k0], M)) tc_45 rfl 2 (fun u => ⟨_, rfl⟩) ⟨trivial, trivial, trivial⟩ ?_
    refine gd_callN (ml := 2) (as := [aR 11 k0, aI ((5 : Int32))]) (rest := []) tc_45 rfl rfl rfl rfl rfl (by omega) (by omega) (Nat.le_of_ble_eq_true rfl) rfl (g_Rd_refuse (by omega) (by omega) h) (fun r9 M5 h => ?_)
    obtain ⟨rfl, h⟩ := h
    show Gd d w 45 _ (11, [some (aR 11 k0), some (aI v1), none], [], M5)
    refine gd_s (P := True ∧ True) (σ1 := (12, [some (aR 11 k0), some (aI v1), none], [aI ((-1 : Int32))], M5)) tc_45 rfl 1 (fun u => ⟨_, rfl⟩) ⟨trivial, trivial⟩ ?_
    exact gd_ret tc_45 rfl rfl trivial (fun _ => rfl) ⟨_, rfl, h⟩
theorem tc_47 : tC 47 = c47 := rfl
/-- PolicyJudge$Reader.attributeHere()I -/
def w_Rd_attributeHere (post : Int32 → aM → Prop) (k0 : Nat) (M : aM) : Prop := w_Rd_token (fun x1 => ((x1 = ((128 : Int32))) → (vp_in (rI M k0 4) (rK M ((k0 + 1) + 3)).2) ∧ (w_Rd_tokenValue (fun x2 => w_Nm_find (fun x3 => ((¬ x3 = ((-1 : Int32))) → post x3 M) ∧ (¬ (¬ x3 = ((-1 : Int32))) → w_Rd_refuse (fun M4 => post x3 M4) k0 ((3 : Int32)) M)) (((rR M k0 3) + 1) + 1) (rI M ((rR M k0 3) + 1) 0) ((k0 + 1) + 1) (rI M ((k0 + 1) + 3) (rI M k0 4).toNatClampNeg) x2 M) k0 M)) ∧ (¬ (x1 = ((128 : Int32))) → w_Rd_refuse (fun M5 => post ((-1 : Int32)) M5) k0 ((2 : Int32)) M)) k0 M
theorem g_Rd_attributeHere {d w : Nat} (hd : 1 ≤ d) (hw : 26 ≤ w) {post : Int32 → aM → Prop} {k0 : Nat} {M : aM} (h : w_Rd_attributeHere post k0 M) : Gd d w 47 (pI post) (0, aEnt 47 [aR 11 k0], [], M) := by
  unfold w_Rd_attributeHere at h
  show Gd d w 47 _ (0, [some (aR 11 k0), none], [], M)
  refine gd_s (P := True ∧ True ∧ True ∧ True) (σ1 := (3, [some (aR 11 k0), some (aI ((-1 : Int32)))], [aR 11 k0], M)) tc_47 rfl 3 (fun u => ⟨_, rfl⟩) ⟨trivial, trivial, trivial, trivial⟩ ?_
  refine gd_callN (ml := 1) (as := [aR 11 k0]) (rest := []) tc_47 rfl rfl rfl rfl rfl (by omega) (by omega) (Nat.le_of_ble_eq_true rfl) rfl (g_Rd_token (by omega) (by omega) h) (fun r9 M9 h => ?_)
  obtain ⟨x1, rfl, e9, h⟩ := h
  subst M9
  show Gd d w 47 _ (6, [some (aR 11 k0), some (aI ((-1 : Int32)))], [aI x1], M)
  refine gd_s (P := True ∧ True) (σ1 := (9, [some (aR 11 k0), some (aI ((-1 : Int32)))], [aI ((128 : Int32)), aI x1], M)) tc_47 rfl 1 (fun u => ⟨_, rfl⟩) ⟨trivial, trivial⟩ ?_
  refine gd_br (c := x1 = ((128 : Int32))) (st1 := []) tc_47 rfl rfl (fun _ => rfl) ⟨fun hc => ?_, fun hc => ?_⟩
  · have h := h.1 hc
    show Gd d w 47 _ (20, [some (aR 11 k0), some (aI ((-1 : Int32)))], [], M)
    obtain ⟨c0, h⟩ := h
    refine gd_s (P := True ∧ True ∧ True ∧ True ∧ True ∧ True ∧ True ∧ True ∧ True ∧ True ∧ True ∧ True ∧ True ∧ True ∧ True ∧ True ∧ (vp_in (rI M k0 4) (rK M ((k0 + 1) + 3)).2) ∧ True ∧ True) (σ1 := (60, [some (aR 11 k0), some (aI ((-1 : Int32)))], [aR 11 k0, aI (rI M ((k0 + 1) + 3) (rI M k0 4).toNatClampNeg), aR 4 ((k0 + 1) + 1), aI (rI M ((rR M k0 3) + 1) 0), aR 15 (((rR M k0 3) + 1) + 1)], M)) tc_47 rfl 18 (fun u => ⟨_, rfl⟩) ⟨trivial, trivial, trivial, trivial, trivial, trivial, trivial, trivial, trivial, trivial, trivial, trivial, trivial, trivial, trivial, trivial, c0, trivial, trivial⟩ ?_
    refine gd_callN (ml := 1) (as := [aR 11 k0]) (rest := [aI (rI M ((k0 + 1) + 3) (rI M k0 4).toNatClampNeg), aR 4 ((k0 + 1) + 1), aI (rI M ((rR M k0 3) + 1) 0), aR 15 (((rR M k0 3) + 1) + 1)]) tc_47 rfl rfl rfl rfl rfl (by omega) (by omega) (Nat.le_of_ble_eq_true rfl) rfl (g_Rd_tokenValue (by omega) (by omega) h) (fun r9 M9 h => ?_)
    obtain ⟨x2, rfl, e9, h⟩ := h
    subst M9
    show Gd d w 47 _ (63, [some (aR 11 k0), some (aI ((-1 : Int32)))], [aI x2, aI (rI M ((k0 + 1) + 3) (rI M k0 4).toNatClampNeg), aR 4 ((k0 + 1) + 1), aI (rI M ((rR M k0 3) + 1) 0), aR 15 (((rR M k0 3) + 1) + 1)], M)
    refine gd_callN (ml := 7) (as := [aR 15 (((rR M k0 3) + 1) + 1), aI (rI M ((rR M k0 3) + 1) 0), aR 4 ((k0 + 1) + 1), aI (rI M ((k0 + 1) + 3) (rI M k0 4).toNatClampNeg), aI x2]) (rest := []) tc_47 rfl rfl rfl rfl rfl (by omega) (by omega) (Nat.le_of_ble_eq_true rfl) rfl (g_Nm_find (by omega) (by omega) h) (fun r9 M9 h => ?_)
    obtain ⟨x3, rfl, e9, h⟩ := h
    subst M9
    show Gd d w 47 _ (66, [some (aR 11 k0), some (aI ((-1 : Int32)))], [aI x3], M)
    refine gd_s (P := True ∧ True ∧ True ∧ True) (σ1 := (69, [some (aR 11 k0), some (aI x3)], [aI ((-1 : Int32)), aI x3], M)) tc_47 rfl 3 (fun u => ⟨_, rfl⟩) ⟨trivial, trivial, trivial, trivial⟩ ?_
    refine gd_br (c := ¬ x3 = ((-1 : Int32))) (st1 := []) tc_47 rfl rfl (fun _ => rfl) ⟨fun hc => ?_, fun hc => ?_⟩
    · have h := h.1 hc
      show Gd d w 47 _ (77, [some (aR 11 k0), some (aI x3)], [], M)
      refine gd_s (P := True ∧ True) (σ1 := (78, [some (aR 11 k0), some (aI x3)], [aI x3], M)) tc_47 rfl 1 (fun u => ⟨_, rfl⟩) ⟨trivial, trivial⟩ ?_
      exact gd_ret tc_47 rfl rfl trivial (fun _ => rfl) ⟨_, rfl, h⟩
    · have h := h.2 hc
      show Gd d w 47 _ (72, [some (aR 11 k0), some (aI x3)], [], M)
      refine gd_s (P := True ∧ True ∧ True) (σ1 := (74, [some (aR 11 k0), some (aI x3)], [aI ((3 : Int32)), aR 11 k0], M)) tc_47 rfl 2 (fun u => ⟨_, rfl⟩) ⟨trivial, trivial, trivial⟩ ?_
      refine gd_callN (ml := 2) (as := [aR 11 k0, aI ((3 : Int32))]) (rest := []) tc_47 rfl rfl rfl rfl rfl (by omega) (by omega) (Nat.le_of_ble_eq_true rfl) rfl (g_Rd_refuse (by omega) (by omega) h) (fun r9 M4 h => ?_)
      obtain ⟨rfl, h⟩ := h
      show Gd d w 47 _ (77, [some (aR 11 k0), some (aI x3)], [], M4)
      refine gd_s (P := True ∧ True) (σ1 := (78, [some (aR 11 k0), some (aI x3)], [aI x3], M4)) tc_47 rfl 1 (fun u => ⟨_, rfl⟩) ⟨trivial, trivial⟩ ?_
      exact gd_ret tc_47 rfl rfl trivial (fun _ => rfl) ⟨_, rfl, h⟩
  · have h := h.2 hc
    show Gd d w 47 _ (12, [some (aR 11 k0), some (aI ((-1 : Int32)))], [], M)
    refine gd_s (P := True ∧ True ∧ True) (σ1 := (14, [some (aR 11 k0), some (aI ((-1 : Int32)))], [aI ((2 : Int32)), aR 11 k0], M)) tc_47 rfl 2 (fun u => ⟨_, rfl⟩) ⟨trivial, trivial, trivial⟩ ?_
    refine gd_callN (ml := 2) (as := [aR 11 k0, aI ((2 : Int32))]) (rest := []) tc_47 rfl rfl rfl rfl rfl (by omega) (by omega) (Nat.le_of_ble_eq_true rfl) rfl (g_Rd_refuse (by omega) (by omega) h) (fun r9 M5 h => ?_)
    obtain ⟨rfl, h⟩ := h
    show Gd d w 47 _ (17, [some (aR 11 k0), some (aI ((-1 : Int32)))], [], M5)
    refine gd_s (P := True ∧ True ∧ True) (σ1 := (78, [some (aR 11 k0), some (aI ((-1 : Int32)))], [aI ((-1 : Int32))], M5)) tc_47 rfl 2 (fun u => ⟨_, rfl⟩) ⟨trivial, trivial, trivial⟩ ?_
    exact gd_ret tc_47 rfl rfl trivial (fun _ => rfl) ⟨_, rfl, h⟩
theorem tc_48 : tC 48 = c48 := rfl
/-- PolicyJudge$Reader.readNumber(I)I -/
def w_Rd_readNumber (post : Int32 → aM → Prop) (k0 : Nat) (v1 : Int32) (M : aM) : Prop := w_Rd_step (fun M1 => w_Rd_tokenValue (fun x2 => w_Rd_token (fun x3 => ((x3 = ((129 : Int32))) → ((x2 < v1) → w_Rd_step (fun M4 => post x2 M4) k0 M1) ∧ (¬ (x2 < v1) → w_Rd_refuse (fun M5 => post x2 M5) k0 ((4 : Int32)) M1)) ∧ (¬ (x3 = ((129 : Int32))) → w_Rd_refuse (fun M6 => post x2 M6) k0 ((2 : Int32)) M1)) k0 M1) k0 M1) k0 M
theorem g_Rd_readNumber {d w : Nat} (hd : 1 ≤ d) (hw : 21 ≤ w) {post : Int32 → aM → Prop} {k0 : Nat} {v1 : Int32} {M : aM} (h : w_Rd_readNumber post k0 v1 M) : Gd d w 48 (pI post) (0, aEnt 48 [aR 11 k0, aI v1], [], M) := by
  unfold w_Rd_readNumber at h
  show Gd d w 48 _ (0, [some (aR 11 k0), some (aI v1), none], [], M)
  refine gd_s (P := True ∧ True) (σ1 := (1, [some (aR 11 k0), some (aI v1), none], [aR 11 k0], M)) tc_48 rfl 1 (fun u => ⟨_, rfl⟩) ⟨trivial, trivial⟩ ?_
  refine gd_callN (ml := 1) (as := [aR 11 k0]) (rest := []) tc_48 rfl rfl rfl rfl rfl (by omega) (by omega) (Nat.le_of_ble_eq_true rfl) rfl (g_Rd_step (by omega) (by omega) h) (fun r9 M1 h => ?_)
  obtain ⟨rfl, h⟩ := h
  show Gd d w 48 _ (4, [some (aR 11 k0), some (aI v1), none], [], M1)
  refine gd_s (P := True ∧ True) (σ1 := (5, [some (aR 11 k0), some (aI v1), none], [aR 11 k0], M1)) tc_48 rfl 1 (fun u => ⟨_, rfl⟩) ⟨trivial, trivial⟩ ?_
  refine gd_callN (ml := 1) (as := [aR 11 k0]) (rest := []) tc_48 rfl rfl rfl rfl rfl (by omega) (by omega) (Nat.le_of_ble_eq_true rfl) rfl (g_Rd_tokenValue (by omega) (by omega) h) (fun r9 M9 h => ?_)
  obtain ⟨x2, rfl, e9, h⟩ := h
  subst M9
  show Gd d w 48 _ (8, [some (aR 11 k0), some (aI v1), none], [aI x2], M1)
  refine gd_s (P := True ∧ True ∧ True) (σ1 := (10, [some (aR 11 k0), some (aI v1), some (aI x2)], [aR 11 k0], M1)) tc_48 rfl 2 (fun u => ⟨_, rfl⟩) ⟨trivial, trivial, trivial⟩ ?_
  refine gd_callN (ml := 1) (as := [aR 11 k0]) (rest := []) tc_48 rfl rfl rfl rfl rfl (by omega) (by omega) (Nat.le_of_ble_eq_true rfl) rfl (g_Rd_token (by omega) (by omega) h) (fun r9 M9 h => ?_)
  obtain ⟨x3, rfl, e9, h⟩ := h
  subst M9
  show Gd d w 48 _ (13, [some (aR 11 k0), some (aI v1), some (aI x2)], [aI x3], M1)
  refine gd_s (P := True ∧ True) (σ1 := (16, [some (aR 11 k0), some (aI v1), some (aI x2)], [aI ((129 : Int32)), aI x3], M1)) tc_48 rfl 1 (fun u => ⟨_, rfl⟩) ⟨trivial, trivial⟩ ?_
  refine gd_br (c := x3 = ((129 : Int32))) (st1 := []) tc_48 rfl rfl (fun _ => rfl) ⟨fun hc => ?_, fun hc => ?_⟩
  · have h := h.1 hc
    show Gd d w 48 _ (27, [some (aR 11 k0), some (aI v1), some (aI x2)], [], M1)
    refine gd_s (P := True ∧ True ∧ True) (σ1 := (29, [some (aR 11 k0), some (aI v1), some (aI x2)], [aI v1, aI x2], M1)) tc_48 rfl 2 (fun u => ⟨_, rfl⟩) ⟨trivial, trivial, trivial⟩ ?_
    refine gd_br (c := x2 < v1) (st1 := []) tc_48 rfl rfl (fun _ => rfl) ⟨fun hc => ?_, fun hc => ?_⟩
    · have h := h.1 hc
      show Gd d w 48 _ (40, [some (aR 11 k0), some (aI v1), some (aI x2)], [], M1)
      refine gd_s (P := True ∧ True) (σ1 := (41, [some (aR 11 k0), some (aI v1), some (aI x2)], [aR 11 k0], M1)) tc_48 rfl 1 (fun u => ⟨_, rfl⟩) ⟨trivial, trivial⟩ ?_
      refine gd_callN (ml := 1) (as := [aR 11 k0]) (rest := []) tc_48 rfl rfl rfl rfl rfl (by omega) (by omega) (Nat.le_of_ble_eq_true rfl) rfl (g_Rd_step (by omega) (by omega) h) (fun r9 M4 h => ?_)
      obtain ⟨rfl, h⟩ := h
      show Gd d w 48 _ (44, [some (aR 11 k0), some (aI v1), some (aI x2)], [], M4)
      refine gd_s (P := True ∧ True) (σ1 := (45, [some (aR 11 k0), some (aI v1), some (aI x2)], [aI x2], M4)) tc_48 rfl 1 (fun u => ⟨_, rfl⟩) ⟨trivial, trivial⟩ ?_
      exact gd_ret tc_48 rfl rfl trivial (fun _ => rfl) ⟨_, rfl, h⟩
    · have h := h.2 hc
      show Gd d w 48 _ (32, [some (aR 11 k0), some (aI v1), some (aI x2)], [], M1)
      refine gd_s (P := True ∧ True ∧ True) (σ1 := (34, [some (aR 11 k0), some (aI v1), some (aI x2)], [aI ((4 : Int32)), aR 11 k0], M1)) tc_48 rfl 2 (fun u => ⟨_, rfl⟩) ⟨trivial, trivial, trivial⟩ ?_
      refine gd_callN (ml := 2) (as := [aR 11 k0, aI ((4 : Int32))]) (rest := []) tc_48 rfl rfl rfl rfl rfl (by omega) (by omega) (Nat.le_of_ble_eq_true rfl) rfl (g_Rd_refuse (by omega) (by omega) h) (fun r9 M5 h => ?_)
      obtain ⟨rfl, h⟩ := h
      show Gd d w 48 _ (37, [some (aR 11 k0), some (aI v1), some (aI x2)], [], M5)
      refine gd_s (P := True ∧ True ∧ True) (σ1 := (45, [some (aR 11 k0), some (aI v1), some (aI x2)], [aI x2], M5)) tc_48 rfl 2 (fun u => ⟨_, rfl⟩) ⟨trivial, trivial, trivial⟩ ?_
      exact gd_ret tc_48 rfl rfl trivial (fun _ => rfl) ⟨_, rfl, h⟩
  · have h := h.2 hc
    show Gd d w 48 _ (19, [some (aR 11 k0), some (aI v1), some (aI x2)], [], M1)
    refine gd_s (P := True ∧ True ∧ True) (σ1 := (21, [some (aR 11 k0), some (aI v1), some (aI x2)], [aI ((2 : Int32)), aR 11 k0], M1)) tc_48 rfl 2 (fun u => ⟨_, rfl⟩) ⟨trivial, trivial, trivial⟩ ?_
    refine gd_callN (ml := 2) (as := [aR 11 k0, aI ((2 : Int32))]) (rest := []) tc_48 rfl rfl rfl rfl rfl (by omega) (by omega) (Nat.le_of_ble_eq_true rfl) rfl (g_Rd_refuse (by omega) (by omega) h) (fun r9 M6 h => ?_)
    obtain ⟨rfl, h⟩ := h
    show Gd d w 48 _ (24, [some (aR 11 k0), some (aI v1), some (aI x2)], [], M6)
    refine gd_s (P := True ∧ True ∧ True) (σ1 := (45, [some (aR 11 k0), some (aI v1), some (aI x2)], [aI x2], M6)) tc_48 rfl 2 (fun u => ⟨_, rfl⟩) ⟨trivial, trivial, trivial⟩ ?_
    exact gd_ret tc_48 rfl rfl trivial (fun _ => rfl) ⟨_, rfl, h⟩
theorem tc_49 : tC 49 = c49 := rfl
def w_Rd_readList_J122 (post : Int32 → aM → Prop) (k0 : Nat) (v2 : Int32) (M : aM) : Prop := w_Rd_step (fun M1 => post v2 M1) k0 M
theorem g_Rd_readList_J122 {d w : Nat} (hd : 1 ≤ d) (hw : 21 ≤ w) {post : Int32 → aM → Prop} (k0 : Nat) (v2 : Int32) (o1 o3 o4 : Option aV) (M : aM) (h : w_Rd_readList_J122 post k0 v2 M) : Gd d w 49 (pI post) (122, [some (aR 11 k0), o1, some (aI v2), o3, o4], [], M) := by
  unfold w_Rd_readList_J122 at h
  show Gd d w 49 _ (122, [some (aR 11 k0), o1, some (aI v2), o3, o4], [], M)
  refine gd_s (P := True ∧ True) (σ1 := (123, [some (aR 11 k0), o1, some (aI v2), o3, o4], [aR 11 k0], M)) tc_49 rfl 1 (fun u => ⟨_, rfl⟩) ⟨trivial, trivial⟩ ?_
  refine gd_callN (ml := 1) (as := [aR 11 k0]) (rest := []) tc_49 rfl rfl rfl rfl rfl (by omega) (by omega) (Nat.le_of_ble_eq_true rfl) rfl (g_Rd_step (by omega) (by omega) h) (fun r9 M1 h => ?_)
  obtain ⟨rfl, h⟩ := h
  show Gd d w 49 _ (126, [some (aR 11 k0), o1, some (aI v2), o3, o4], [], M1)
  refine gd_s (P := True ∧ True) (σ1 := (127, [some (aR 11 k0), o1, some (aI v2), o3, o4], [aI v2], M1)) tc_49 rfl 1 (fun u => ⟨_, rfl⟩) ⟨trivial, trivial⟩ ?_
  exact gd_ret tc_49 rfl rfl trivial (fun _ => rfl) ⟨_, rfl, h⟩
def w_Rd_readList_J108 (post : Int32 → aM → Prop) (k0 : Nat) (v2 : Int32) (M : aM) : Prop := w_Rd_token (fun x1 => ((x1 = ((125 : Int32))) → w_Rd_readList_J122 post k0 v2 M) ∧ (¬ (x1 = ((125 : Int32))) → w_Rd_refuse (fun M2 => w_Rd_readList_J122 post k0 v2 M2) k0 ((2 : Int32)) M)) k0 M
theorem g_Rd_readList_J108 {d w : Nat} (hd : 1 ≤ d) (hw : 21 ≤ w) {post : Int32 → aM → Prop} (k0 : Nat) (v2 : Int32) (o1 o3 o4 : Option aV) (M : aM) (h : w_Rd_readList_J108 post k0 v2 M) : Gd d w 49 (pI post) (108, [some (aR 11 k0), o1, some (aI v2), o3, o4], [], M) := by
  unfold w_Rd_readList_J108 at h
  show Gd d w 49 _ (108, [some (aR 11 k0), o1, some (aI v2), o3, o4], [], M)
  refine gd_s (P := True ∧ True) (σ1 := (109, [some (aR 11 k0), o1, some (aI v2), o3, o4], [aR 11 k0], M)) tc_49 rfl 1 (fun u => ⟨_, rfl⟩) ⟨trivial, trivial⟩ ?_
  refine gd_callN (ml := 1) (as := [aR 11 k0]) (rest := []) tc_49 rfl rfl rfl rfl rfl (by omega) (by omega) (Nat.le_of_ble_eq_true rfl) rfl (g_Rd_token (by omega) (by omega) h) (fun r9 M9 h => ?_)
  obtain ⟨x1, rfl, e9, h⟩ := h
  subst M9
  show Gd d w 49 _ (112, [some (aR 11 k0), o1, some (aI v2), o3, o4], [aI x1], M)
  refine gd_s (P := True ∧ True) (σ1 := (114, [some (aR 11 k0), o1, some (aI v2), o3, o4], [aI ((125 : Int32)), aI x1], M)) tc_49 rfl 1 (fun u => ⟨_, rfl⟩) ⟨trivial, trivial⟩ ?_
  refine gd_br (c := x1 = ((125 : Int32))) (st1 := []) tc_49 rfl rfl (fun _ => rfl) ⟨fun hc => ?_, fun hc => ?_⟩
  · have h := h.1 hc
    exact g_Rd_readList_J122 hd hw k0 v2 o1 o3 o4 M h
  · have h := h.2 hc
    show Gd d w 49 _ (117, [some (aR 11 k0), o1, some (aI v2), o3, o4], [], M)
    refine gd_s (P := True ∧ True ∧ True) (σ1 := (119, [some (aR 11 k0), o1, some (aI v2), o3, o4], [aI ((2 : Int32)), aR 11 k0], M)) tc_49 rfl 2 (fun u => ⟨_, rfl⟩) ⟨trivial, trivial, trivial⟩ ?_
    refine gd_callN (ml := 2) (as := [aR 11 k0, aI ((2 : Int32))]) (rest := []) tc_49 rfl rfl rfl rfl rfl (by omega) (by omega) (Nat.le_of_ble_eq_true rfl) rfl (g_Rd_refuse (by omega) (by omega) h) (fun r9 M2 h => ?_)
    obtain ⟨rfl, h⟩ := h
    exact g_Rd_readList_J122 hd hw k0 v2 o1 o3 o4 M2 h
def w_Rd_readList_J72 (post : Int32 → aM → Prop) (k0 : Nat) (M : aM) : Prop := w_Rd_refuse (fun M1 => post ((0 : Int32)) M1) k0 ((4 : Int32)) M
theorem g_Rd_readList_J72 {d w : Nat} (hd : 1 ≤ d) (hw : 21 ≤ w) {post : Int32 → aM → Prop} (k0 : Nat) (o1 o2 o3 o4 : Option aV) (M : aM) (h : w_Rd_readList_J72 post k0 M) : Gd d w 49 (pI post) (72, [some (aR 11 k0), o1, o2, o3, o4], [], M) := by
  unfold w_Rd_readList_J72 at h
  show Gd d w 49 _ (72, [some (aR 11 k0), o1, o2, o3, o4], [], M)
  refine gd_s (P := True ∧ True ∧ True) (σ1 := (74, [some (aR 11 k0), o1, o2, o3, o4], [aI ((4 : Int32)), aR 11 k0], M)) tc_49 rfl 2 (fun u => ⟨_, rfl⟩) ⟨trivial, trivial, trivial⟩ ?_
  refine gd_callN (ml := 2) (as := [aR 11 k0, aI ((4 : Int32))]) (rest := []) tc_49 rfl rfl rfl rfl rfl (by omega) (by omega) (Nat.le_of_ble_eq_true rfl) rfl (g_Rd_refuse (by omega) (by omega) h) (fun r9 M1 h => ?_)
  obtain ⟨rfl, h⟩ := h
  show Gd d w 49 _ (77, [some (aR 11 k0), o1, o2, o3, o4], [], M1)
  refine gd_s (P := True ∧ True) (σ1 := (78, [some (aR 11 k0), o1, o2, o3, o4], [aI ((0 : Int32))], M1)) tc_49 rfl 1 (fun u => ⟨_, rfl⟩) ⟨trivial, trivial⟩ ?_
  exact gd_ret tc_49 rfl rfl trivial (fun _ => rfl) ⟨_, rfl, h⟩
def w_Rd_readList_L24 (post : Int32 → aM → Prop) : Nat → Nat → Int32 → Int32 → Int32 → aM → Prop
  | 0, _, _, _, _, _ => False
  | n + 1, k0, v1, v2, v3, M => ((((8 : Int32)) < v3) → w_Rd_readList_J108 post k0 v2 M) ∧ (¬ (((8 : Int32)) < v3) → w_Rd_step (fun M1 => w_Rd_token (fun x2 => ((x2 = ((129 : Int32))) → w_Rd_tokenValue (fun x3 => ((v1 ≤ x3) → w_Rd_readList_J72 post k0 M1) ∧ (¬ (v1 ≤ x3) → ((((v2 >>> (x3 &&& 31)) &&& ((1 : Int32))) = ((0 : Int32))) → w_Rd_step (fun M4 => w_Rd_token (fun x5 => ((x5 = ((44 : Int32))) → w_Rd_readList_L24 post n k0 v1 (v2 ||| (((1 : Int32)) <<< (x3 &&& 31))) (v3 + (1 : Int32)) M4) ∧ (¬ (x5 = ((44 : Int32))) → w_Rd_readList_J108 post k0 (v2 ||| (((1 : Int32)) <<< (x3 &&& 31))) M4)) k0 M4) k0 M1) ∧ (¬ (((v2 >>> (x3 &&& 31)) &&& ((1 : Int32))) = ((0 : Int32))) → w_Rd_readList_J72 post k0 M1))) k0 M1) ∧ (¬ (x2 = ((129 : Int32))) → w_Rd_refuse (fun M6 => post ((0 : Int32)) M6) k0 ((2 : Int32)) M1)) k0 M1) k0 M)
theorem g_Rd_readList_L24 {d w : Nat} (hd : 1 ≤ d) (hw : 21 ≤ w) {post : Int32 → aM → Prop} : ∀ (n : Nat) (k0 : Nat) (v1 : Int32) (v2 : Int32) (v3 : Int32) (o4 : Option aV) (M : aM), w_Rd_readList_L24 post n k0 v1 v2 v3 M → Gd d w 49 (pI post) (24, [some (aR 11 k0), some (aI v1), some (aI v2), some (aI v3), o4], [], M) := by
  intro n
  induction n with
  | zero => intro k0 v1 v2 v3 o4 M h; exact h.elim
  | succ n ih =>
    intro k0 v1 v2 v3 o4 M h
    show Gd d w 49 _ (24, [some (aR 11 k0), some (aI v1), some (aI v2), some (aI v3), o4], [], M)
    refine gd_s (P := True ∧ True ∧ True) (σ1 := (27, [some (aR 11 k0), some (aI v1), some (aI v2), some (aI v3), o4], [aI ((8 : Int32)), aI v3], M)) tc_49 rfl 2 (fun u => ⟨_, rfl⟩) ⟨trivial, trivial, trivial⟩ ?_
    refine gd_br (c := ((8 : Int32)) < v3) (st1 := []) tc_49 rfl rfl (fun _ => rfl) ⟨fun hc => ?_, fun hc => ?_⟩
    · have h := h.1 hc
      exact g_Rd_readList_J108 hd hw k0 v2 (some (aI v1)) (some (aI v3)) o4 M h
    · have h := h.2 hc
      show Gd d w 49 _ (30, [some (aR 11 k0), some (aI v1), some (aI v2), some (aI v3), o4], [], M)
      refine gd_s (P := True ∧ True) (σ1 := (31, [some (aR 11 k0), some (aI v1), some (aI v2), some (aI v3), o4], [aR 11 k0], M)) tc_49 rfl 1 (fun u => ⟨_, rfl⟩) ⟨trivial, trivial⟩ ?_
      refine gd_callN (ml := 1) (as := [aR 11 k0]) (rest := []) tc_49 rfl rfl rfl rfl rfl (by omega) (by omega) (Nat.le_of_ble_eq_true rfl) rfl (g_Rd_step (by omega) (by omega) h) (fun r9 M1 h => ?_)
      obtain ⟨rfl, h⟩ := h
      show Gd d w 49 _ (34, [some (aR 11 k0), some (aI v1), some (aI v2), some (aI v3), o4], [], M1)
      refine gd_s (P := True ∧ True) (σ1 := (35, [some (aR 11 k0), some (aI v1), some (aI v2), some (aI v3), o4], [aR 11 k0], M1)) tc_49 rfl 1 (fun u => ⟨_, rfl⟩) ⟨trivial, trivial⟩ ?_
      refine gd_callN (ml := 1) (as := [aR 11 k0]) (rest := []) tc_49 rfl rfl rfl rfl rfl (by omega) (by omega) (Nat.le_of_ble_eq_true rfl) rfl (g_Rd_token (by omega) (by omega) h) (fun r9 M9 h => ?_)
      obtain ⟨x2, rfl, e9, h⟩ := h
      subst M9
      show Gd d w 49 _ (38, [some (aR 11 k0), some (aI v1), some (aI v2), some (aI v3), o4], [aI x2], M1)
      refine gd_s (P := True ∧ True) (σ1 := (41, [some (aR 11 k0), some (aI v1), some (aI v2), some (aI v3), o4], [aI ((129 : Int32)), aI x2], M1)) tc_49 rfl 1 (fun u => ⟨_, rfl⟩) ⟨trivial, trivial⟩ ?_
      refine gd_br (c := x2 = ((129 : Int32))) (st1 := []) tc_49 rfl rfl (fun _ => rfl) ⟨fun hc => ?_, fun hc => ?_⟩
      · have h := h.1 hc
        show Gd d w 49 _ (51, [some (aR 11 k0), some (aI v1), some (aI v2), some (aI v3), o4], [], M1)
        refine gd_s (P := True ∧ True) (σ1 := (52, [some (aR 11 k0), some (aI v1), some (aI v2), some (aI v3), o4], [aR 11 k0], M1)) tc_49 rfl 1 (fun u => ⟨_, rfl⟩) ⟨trivial, trivial⟩ ?_
        refine gd_callN (ml := 1) (as := [aR 11 k0]) (rest := []) tc_49 rfl rfl rfl rfl rfl (by omega) (by omega) (Nat.le_of_ble_eq_true rfl) rfl (g_Rd_tokenValue (by omega) (by omega) h) (fun r9 M9 h => ?_)
        obtain ⟨x3, rfl, e9, h⟩ := h
        subst M9
        show Gd d w 49 _ (55, [some (aR 11 k0), some (aI v1), some (aI v2), some (aI v3), o4], [aI x3], M1)
        refine gd_s (P := True ∧ True ∧ True ∧ True) (σ1 := (60, [some (aR 11 k0), some (aI v1), some (aI v2), some (aI v3), some (aI x3)], [aI v1, aI x3], M1)) tc_49 rfl 3 (fun u => ⟨_, rfl⟩) ⟨trivial, trivial, trivial, trivial⟩ ?_
        refine gd_br (c := v1 ≤ x3) (st1 := []) tc_49 rfl rfl (fun _ => rfl) ⟨fun hc => ?_, fun hc => ?_⟩
        · have h := h.1 hc
          exact g_Rd_readList_J72 hd hw k0 (some (aI v1)) (some (aI v2)) (some (aI v3)) (some (aI x3)) M1 h
        · have h := h.2 hc
          show Gd d w 49 _ (63, [some (aR 11 k0), some (aI v1), some (aI v2), some (aI v3), some (aI x3)], [], M1)
          refine gd_s (P := True ∧ True ∧ True ∧ True ∧ True ∧ True) (σ1 := (69, [some (aR 11 k0), some (aI v1), some (aI v2), some (aI v3), some (aI x3)], [aI ((v2 >>> (x3 &&& 31)) &&& ((1 : Int32)))], M1)) tc_49 rfl 5 (fun u => ⟨_, rfl⟩) ⟨trivial, trivial, trivial, trivial, trivial, trivial⟩ ?_
          refine gd_br (c := ((v2 >>> (x3 &&& 31)) &&& ((1 : Int32))) = ((0 : Int32))) (st1 := []) tc_49 rfl rfl (fun _ => rfl) ⟨fun hc => ?_, fun hc => ?_⟩
          · have h := h.1 hc
            show Gd d w 49 _ (79, [some (aR 11 k0), some (aI v1), some (aI v2), some (aI v3), some (aI x3)], [], M1)
            refine gd_s (P := True ∧ True ∧ True ∧ True ∧ True ∧ True ∧ True ∧ True) (σ1 := (87, [some (aR 11 k0), some (aI v1), some (aI (v2 ||| (((1 : Int32)) <<< (x3 &&& 31)))), some (aI v3), some (aI x3)], [aR 11 k0], M1)) tc_49 rfl 7 (fun u => ⟨_, rfl⟩) ⟨trivial, trivial, trivial, trivial, trivial, trivial, trivial, trivial⟩ ?_
            refine gd_callN (ml := 1) (as := [aR 11 k0]) (rest := []) tc_49 rfl rfl rfl rfl rfl (by omega) (by omega) (Nat.le_of_ble_eq_true rfl) rfl (g_Rd_step (by omega) (by omega) h) (fun r9 M4 h => ?_)
            obtain ⟨rfl, h⟩ := h
            show Gd d w 49 _ (90, [some (aR 11 k0), some (aI v1), some (aI (v2 ||| (((1 : Int32)) <<< (x3 &&& 31)))), some (aI v3), some (aI x3)], [], M4)
            refine gd_s (P := True ∧ True) (σ1 := (91, [some (aR 11 k0), some (aI v1), some (aI (v2 ||| (((1 : Int32)) <<< (x3 &&& 31)))), some (aI v3), some (aI x3)], [aR 11 k0], M4)) tc_49 rfl 1 (fun u => ⟨_, rfl⟩) ⟨trivial, trivial⟩ ?_
            refine gd_callN (ml := 1) (as := [aR 11 k0]) (rest := []) tc_49 rfl rfl rfl rfl rfl (by omega) (by omega) (Nat.le_of_ble_eq_true rfl) rfl (g_Rd_token (by omega) (by omega) h) (fun r9 M9 h => ?_)
            obtain ⟨x5, rfl, e9, h⟩ := h
            subst M9
            show Gd d w 49 _ (94, [some (aR 11 k0), some (aI v1), some (aI (v2 ||| (((1 : Int32)) <<< (x3 &&& 31)))), some (aI v3), some (aI x3)], [aI x5], M4)
            refine gd_s (P := True ∧ True) (σ1 := (96, [some (aR 11 k0), some (aI v1), some (aI (v2 ||| (((1 : Int32)) <<< (x3 &&& 31)))), some (aI v3), some (aI x3)], [aI ((44 : Int32)), aI x5], M4)) tc_49 rfl 1 (fun u => ⟨_, rfl⟩) ⟨trivial, trivial⟩ ?_
            refine gd_br (c := x5 = ((44 : Int32))) (st1 := []) tc_49 rfl rfl (fun _ => rfl) ⟨fun hc => ?_, fun hc => ?_⟩
            · have h := h.1 hc
              show Gd d w 49 _ (102, [some (aR 11 k0), some (aI v1), some (aI (v2 ||| (((1 : Int32)) <<< (x3 &&& 31)))), some (aI v3), some (aI x3)], [], M4)
              refine gd_s (P := True ∧ True ∧ True) (σ1 := (24, [some (aR 11 k0), some (aI v1), some (aI (v2 ||| (((1 : Int32)) <<< (x3 &&& 31)))), some (aI (v3 + (1 : Int32))), some (aI x3)], [], M4)) tc_49 rfl 2 (fun u => ⟨_, rfl⟩) ⟨trivial, trivial, trivial⟩ ?_
              exact ih k0 v1 (v2 ||| (((1 : Int32)) <<< (x3 &&& 31))) (v3 + (1 : Int32)) (some (aI x3)) M4 h
            · have h := h.2 hc
              show Gd d w 49 _ (99, [some (aR 11 k0), some (aI v1), some (aI (v2 ||| (((1 : Int32)) <<< (x3 &&& 31)))), some (aI v3), some (aI x3)], [], M4)
              refine gd_s (P := True ∧ True) (σ1 := (108, [some (aR 11 k0), some (aI v1), some (aI (v2 ||| (((1 : Int32)) <<< (x3 &&& 31)))), some (aI v3), some (aI x3)], [], M4)) tc_49 rfl 1 (fun u => ⟨_, rfl⟩) ⟨trivial, trivial⟩ ?_
              exact g_Rd_readList_J108 hd hw k0 (v2 ||| (((1 : Int32)) <<< (x3 &&& 31))) (some (aI v1)) (some (aI v3)) (some (aI x3)) M4 h
          · have h := h.2 hc
            exact g_Rd_readList_J72 hd hw k0 (some (aI v1)) (some (aI v2)) (some (aI v3)) (some (aI x3)) M1 h
      · have h := h.2 hc
        show Gd d w 49 _ (44, [some (aR 11 k0), some (aI v1), some (aI v2), some (aI v3), o4], [], M1)
        refine gd_s (P := True ∧ True ∧ True) (σ1 := (46, [some (aR 11 k0), some (aI v1), some (aI v2), some (aI v3), o4], [aI ((2 : Int32)), aR 11 k0], M1)) tc_49 rfl 2 (fun u => ⟨_, rfl⟩) ⟨trivial, trivial, trivial⟩ ?_
        refine gd_callN (ml := 2) (as := [aR 11 k0, aI ((2 : Int32))]) (rest := []) tc_49 rfl rfl rfl rfl rfl (by omega) (by omega) (Nat.le_of_ble_eq_true rfl) rfl (g_Rd_refuse (by omega) (by omega) h) (fun r9 M6 h => ?_)
        obtain ⟨rfl, h⟩ := h
        show Gd d w 49 _ (49, [some (aR 11 k0), some (aI v1), some (aI v2), some (aI v3), o4], [], M6)
        refine gd_s (P := True ∧ True) (σ1 := (50, [some (aR 11 k0), some (aI v1), some (aI v2), some (aI v3), o4], [aI ((0 : Int32))], M6)) tc_49 rfl 1 (fun u => ⟨_, rfl⟩) ⟨trivial, trivial⟩ ?_
        exact gd_ret tc_49 rfl rfl trivial (fun _ => rfl) ⟨_, rfl, h⟩
/-- PolicyJudge$Reader.readList(I)I -/
def w_Rd_readList (post : Int32 → aM → Prop) (k0 : Nat) (v1 : Int32) (M : aM) : Prop := w_Rd_step (fun M1 => w_Rd_token (fun x2 => ((x2 = ((123 : Int32))) → ∃ n9, w_Rd_readList_L24 post n9 k0 v1 ((0 : Int32)) ((0 : Int32)) M1) ∧ (¬ (x2 = ((123 : Int32))) → w_Rd_refuse (fun M3 => post ((0 : Int32)) M3) k0 ((2 : Int32)) M1)) k0 M1) k0 M
theorem g_Rd_readList {d w : Nat} (hd : 1 ≤ d) (hw : 21 ≤ w) {post : Int32 → aM → Prop} {k0 : Nat} {v1 : Int32} {M : aM} (h : w_Rd_readList post k0 v1 M) : Gd d w 49 (pI post) (0, aEnt 49 [aR 11 k0, aI v1], [], M) := by
  unfold w_Rd_readList at h
  show Gd d w 49 _ (0, [some (aR 11 k0), some (aI v1), none, none, none], [], M)
  refine gd_s (P := True ∧ True) (σ1 := (1, [some (aR 11 k0), some (aI v1), none, none, none], [aR 11 k0], M)) tc_49 rfl 1 (fun u => ⟨_, rfl⟩) ⟨trivial, trivial⟩ ?_
  refine gd_callN (ml := 1) (as := [aR 11 k0]) (rest := []) tc_49 rfl rfl rfl rfl rfl (by omega) (by omega) (Nat.le_of_ble_eq_true rfl) rfl (g_Rd_step (by omega) (by omega) h) (fun r9 M1 h => ?_)
  obtain ⟨rfl, h⟩ := h
  show Gd d w 49 _ (4, [some (aR 11 k0), some (aI v1), none, none, none], [], M1)
  refine gd_s (P := True ∧ True) (σ1 := (5, [some (aR 11 k0), some (aI v1), none, none, none], [aR 11 k0], M1)) tc_49 rfl 1 (fun u => ⟨_, rfl⟩) ⟨trivial, trivial⟩ ?_
  refine gd_callN (ml := 1) (as := [aR 11 k0]) (rest := []) tc_49 rfl rfl rfl rfl rfl (by omega) (by omega) (Nat.le_of_ble_eq_true rfl) rfl (g_Rd_token (by omega) (by omega) h) (fun r9 M9 h => ?_)
  obtain ⟨x2, rfl, e9, h⟩ := h
  subst M9
  show Gd d w 49 _ (8, [some (aR 11 k0), some (aI v1), none, none, none], [aI x2], M1)
  refine gd_s (P := True ∧ True) (σ1 := (10, [some (aR 11 k0), some (aI v1), none, none, none], [aI ((123 : Int32)), aI x2], M1)) tc_49 rfl 1 (fun u => ⟨_, rfl⟩) ⟨trivial, trivial⟩ ?_
  refine gd_br (c := x2 = ((123 : Int32))) (st1 := []) tc_49 rfl rfl (fun _ => rfl) ⟨fun hc => ?_, fun hc => ?_⟩
  · have h := h.1 hc
    show Gd d w 49 _ (20, [some (aR 11 k0), some (aI v1), none, none, none], [], M1)
    refine gd_s (P := True ∧ True ∧ True ∧ True ∧ True) (σ1 := (24, [some (aR 11 k0), some (aI v1), some (aI ((0 : Int32))), some (aI ((0 : Int32))), none], [], M1)) tc_49 rfl 4 (fun u => ⟨_, rfl⟩) ⟨trivial, trivial, trivial, trivial, trivial⟩ ?_
    obtain ⟨n9, h⟩ := h
    exact g_Rd_readList_L24 hd hw n9 k0 v1 ((0 : Int32)) ((0 : Int32)) none M1 h
  · have h := h.2 hc
    show Gd d w 49 _ (13, [some (aR 11 k0), some (aI v1), none, none, none], [], M1)
    refine gd_s (P := True ∧ True ∧ True) (σ1 := (15, [some (aR 11 k0), some (aI v1), none, none, none], [aI ((2 : Int32)), aR 11 k0], M1)) tc_49 rfl 2 (fun u => ⟨_, rfl⟩) ⟨trivial, trivial, trivial⟩ ?_
    refine gd_callN (ml := 2) (as := [aR 11 k0, aI ((2 : Int32))]) (rest := []) tc_49 rfl rfl rfl rfl rfl (by omega) (by omega) (Nat.le_of_ble_eq_true rfl) rfl (g_Rd_refuse (by omega) (by omega) h) (fun r9 M3 h => ?_)
    obtain ⟨rfl, h⟩ := h
    show Gd d w 49 _ (18, [some (aR 11 k0), some (aI v1), none, none, none], [], M3)
    refine gd_s (P := True ∧ True) (σ1 := (19, [some (aR 11 k0), some (aI v1), none, none, none], [aI ((0 : Int32))], M3)) tc_49 rfl 1 (fun u => ⟨_, rfl⟩) ⟨trivial, trivial⟩ ?_
    exact gd_ret tc_49 rfl rfl trivial (fun _ => rfl) ⟨_, rfl, h⟩
theorem tc_46 : tC 46 = c46 := rfl
def w_Rd_readTest_J21 (post : Int32 → aM → Prop) (k0 : Nat) (v1 : Int32) (s0 : Int32) (M : aM) : Prop := ((¬ s0 = ((-1 : Int32))) → w_Rd_step (fun M1 => w_Rd_token (fun x2 => (vp_in s0 (rK M1 (((rR M1 k0 3) + 24) + 1)).2) ∧ (vp_in s0 (rK M1 (((rR M1 k0 3) + 24) + 2)).2) ∧ (w_Rd_token (fun x3 => ((x3 = (16 : Int32)) → (vp_in v1 (rK M1 (((rR (wI (wI M1 (((rR M1 k0 3) + 24) + 1) s0.toNatClampNeg x2) (((rR M1 k0 3) + 24) + 2) s0.toNatClampNeg v1) k0 3) + 1) + 4)).2) ∧ (w_Rd_readNumber (fun x4 M4 => (vp_in s0 (rK M4 (((rR M1 k0 3) + 24) + 3)).2) ∧ post s0 (wI M4 (((rR M1 k0 3) + 24) + 3) s0.toNatClampNeg x4)) k0 (rI (wI (wI M1 (((rR M1 k0 3) + 24) + 1) s0.toNatClampNeg x2) (((rR M1 k0 3) + 24) + 2) s0.toNatClampNeg v1) (((rR (wI (wI M1 (((rR M1 k0 3) + 24) + 1) s0.toNatClampNeg x2) (((rR M1 k0 3) + 24) + 2) s0.toNatClampNeg v1) k0 3) + 1) + 4) v1.toNatClampNeg) (wI (wI M1 (((rR M1 k0 3) + 24) + 1) s0.toNatClampNeg x2) (((rR M1 k0 3) + 24) + 2) s0.toNatClampNeg v1))) ∧ (¬ (x3 = (16 : Int32)) → ((x3 = (17 : Int32)) → (vp_in v1 (rK M1 (((rR (wI (wI M1 (((rR M1 k0 3) + 24) + 1) s0.toNatClampNeg x2) (((rR M1 k0 3) + 24) + 2) s0.toNatClampNeg v1) k0 3) + 1) + 4)).2) ∧ (w_Rd_readList (fun x5 M5 => (vp_in s0 (rK M5 (((rR M1 k0 3) + 24) + 3)).2) ∧ post s0 (wI M5 (((rR M1 k0 3) + 24) + 3) s0.toNatClampNeg x5)) k0 (rI (wI (wI M1 (((rR M1 k0 3) + 24) + 1) s0.toNatClampNeg x2) (((rR M1 k0 3) + 24) + 2) s0.toNatClampNeg v1) (((rR (wI (wI M1 (((rR M1 k0 3) + 24) + 1) s0.toNatClampNeg x2) (((rR M1 k0 3) + 24) + 2) s0.toNatClampNeg v1) k0 3) + 1) + 4) v1.toNatClampNeg) (wI (wI M1 (((rR M1 k0 3) + 24) + 1) s0.toNatClampNeg x2) (((rR M1 k0 3) + 24) + 2) s0.toNatClampNeg v1))) ∧ (¬ (x3 = (17 : Int32)) → ((x3 = (18 : Int32)) → (vp_in v1 (rK M1 (((rR (wI (wI M1 (((rR M1 k0 3) + 24) + 1) s0.toNatClampNeg x2) (((rR M1 k0 3) + 24) + 2) s0.toNatClampNeg v1) k0 3) + 1) + 4)).2) ∧ (w_Rd_readList (fun x6 M6 => (vp_in s0 (rK M6 (((rR M1 k0 3) + 24) + 3)).2) ∧ post s0 (wI M6 (((rR M1 k0 3) + 24) + 3) s0.toNatClampNeg x6)) k0 (rI (wI (wI M1 (((rR M1 k0 3) + 24) + 1) s0.toNatClampNeg x2) (((rR M1 k0 3) + 24) + 2) s0.toNatClampNeg v1) (((rR (wI (wI M1 (((rR M1 k0 3) + 24) + 1) s0.toNatClampNeg x2) (((rR M1 k0 3) + 24) + 2) s0.toNatClampNeg v1) k0 3) + 1) + 4) v1.toNatClampNeg) (wI (wI M1 (((rR M1 k0 3) + 24) + 1) s0.toNatClampNeg x2) (((rR M1 k0 3) + 24) + 2) s0.toNatClampNeg v1))) ∧ (¬ (x3 = (18 : Int32)) → ((x3 = (19 : Int32)) → w_Rd_step (fun M7 => w_Rd_attributeHere (fun x8 M8 => (vp_in s0 (rK M8 (((rR M1 k0 3) + 24) + 3)).2) ∧ (w_Rd_step (fun M9 => post s0 M9) k0 (wI M8 (((rR M1 k0 3) + 24) + 3) s0.toNatClampNeg x8))) k0 M7) k0 (wI (wI M1 (((rR M1 k0 3) + 24) + 1) s0.toNatClampNeg x2) (((rR M1 k0 3) + 24) + 2) s0.toNatClampNeg v1)) ∧ (¬ (x3 = (19 : Int32)) → ((x3 = (20 : Int32)) → (vp_in v1 (rK M1 (((rR (wI (wI M1 (((rR M1 k0 3) + 24) + 1) s0.toNatClampNeg x2) (((rR M1 k0 3) + 24) + 2) s0.toNatClampNeg v1) k0 3) + 1) + 4)).2) ∧ (w_Rd_readNumber (fun x10 M10 => (vp_in s0 (rK M10 (((rR M1 k0 3) + 24) + 3)).2) ∧ post s0 (wI M10 (((rR M1 k0 3) + 24) + 3) s0.toNatClampNeg x10)) k0 (rI (wI (wI M1 (((rR M1 k0 3) + 24) + 1) s0.toNatClampNeg x2) (((rR M1 k0 3) + 24) + 2) s0.toNatClampNeg v1) (((rR (wI (wI M1 (((rR M1 k0 3) + 24) + 1) s0.toNatClampNeg x2) (((rR M1 k0 3) + 24) + 2) s0.toNatClampNeg v1) k0 3) + 1) + 4) v1.toNatClampNeg) (wI (wI M1 (((rR M1 k0 3) + 24) + 1) s0.toNatClampNeg x2) (((rR M1 k0 3) + 24) + 2) s0.toNatClampNeg v1))) ∧ (¬ (x3 = (20 : Int32)) → ((x3 = (21 : Int32)) → w_Rd_step (fun M11 => post s0 M11) k0 (wI (wI M1 (((rR M1 k0 3) + 24) + 1) s0.toNatClampNeg x2) (((rR M1 k0 3) + 24) + 2) s0.toNatClampNeg v1)) ∧ (¬ (x3 = (21 : Int32)) → ((x3 = (60 : Int32)) → w_Rd_readNumber (fun x12 M12 => (vp_in s0 (rK M12 (((rR M1 k0 3) + 24) + 3)).2) ∧ post s0 (wI M12 (((rR M1 k0 3) + 24) + 3) s0.toNatClampNeg x12)) k0 ((1000 : Int32)) (wI (wI M1 (((rR M1 k0 3) + 24) + 1) s0.toNatClampNeg x2) (((rR M1 k0 3) + 24) + 2) s0.toNatClampNeg v1)) ∧ (¬ (x3 = (60 : Int32)) → ((x3 = (61 : Int32)) → w_Rd_readNumber (fun x13 M13 => (vp_in s0 (rK M13 (((rR M1 k0 3) + 24) + 3)).2) ∧ post s0 (wI M13 (((rR M1 k0 3) + 24) + 3) s0.toNatClampNeg x13)) k0 ((1000 : Int32)) (wI (wI M1 (((rR M1 k0 3) + 24) + 1) s0.toNatClampNeg x2) (((rR M1 k0 3) + 24) + 2) s0.toNatClampNeg v1)) ∧ (¬ (x3 = (61 : Int32)) → ((x3 = (62 : Int32)) → w_Rd_readNumber (fun x14 M14 => (vp_in s0 (rK M14 (((rR M1 k0 3) + 24) + 3)).2) ∧ post s0 (wI M14 (((rR M1 k0 3) + 24) + 3) s0.toNatClampNeg x14)) k0 ((1000 : Int32)) (wI (wI M1 (((rR M1 k0 3) + 24) + 1) s0.toNatClampNeg x2) (((rR M1 k0 3) + 24) + 2) s0.toNatClampNeg v1)) ∧ (¬ (x3 = (62 : Int32)) → w_Rd_refuse (fun M15 => post s0 M15) k0 ((2 : Int32)) (wI (wI M1 (((rR M1 k0 3) + 24) + 1) s0.toNatClampNeg x2) (((rR M1 k0 3) + 24) + 2) s0.toNatClampNeg v1))))))))))) k0 (wI (wI M1 (((rR M1 k0 3) + 24) + 1) s0.toNatClampNeg x2) (((rR M1 k0 3) + 24) + 2) s0.toNatClampNeg v1))) k0 M1) k0 M) ∧ (¬ (¬ s0 = ((-1 : Int32))) → post ((-1 : Int32)) M)
theorem g_Rd_readTest_J21 {d w : Nat} (hd : 2 ≤ d) (hw : 47 ≤ w) {post : Int32 → aM → Prop} (k0 : Nat) (v1 : Int32) (s0 : Int32) (o2 o3 : Option aV) (M : aM) (h : w_Rd_readTest_J21 post k0 v1 s0 M) : Gd d w 46 (pI post) (21, [some (aR 11 k0), some (aI v1), o2, o3], [aI s0], M) := by
  unfold w_Rd_readTest_J21 at h
  show Gd d w 46 _ (21, [some (aR 11 k0), some (aI v1), o2, o3], [aI s0], M)
  refine gd_s (P := True ∧ True ∧ True ∧ True) (σ1 := (24, [some (aR 11 k0), some (aI v1), some (aI s0), o3], [aI ((-1 : Int32)), aI s0], M)) tc_46 rfl 3 (fun u => ⟨_, rfl⟩) ⟨trivial, trivial, trivial, trivial⟩ ?_
  refine gd_br (c := ¬ s0 = ((-1 : Int32))) (st1 := []) tc_46 rfl rfl (fun _ => rfl) ⟨fun hc => ?_, fun hc => ?_⟩
  · have h := h.1 hc
    show Gd d w 46 _ (29, [some (aR 11 k0), some (aI v1), some (aI s0), o3], [], M)
    refine gd_s (P := True ∧ True) (σ1 := (30, [some (aR 11 k0), some (aI v1), some (aI s0), o3], [aR 11 k0], M)) tc_46 rfl 1 (fun u => ⟨_, rfl⟩) ⟨trivial, trivial⟩ ?_
    refine gd_callN (ml := 1) (as := [aR 11 k0]) (rest := []) tc_46 rfl rfl rfl rfl rfl (by omega) (by omega) (Nat.le_of_ble_eq_true rfl) rfl (g_Rd_step (by omega) (by omega) h) (fun r9 M1 h => ?_)
    obtain ⟨rfl, h⟩ := h
    show Gd d w 46 _ (33, [some (aR 11 k0), some (aI v1), some (aI s0), o3], [], M1)
    refine gd_s (P := True ∧ True ∧ True ∧ True ∧ True ∧ True ∧ True ∧ True ∧ True) (σ1 := (47, [some (aR 11 k0), some (aI v1), some (aI s0), some (aR 17 ((rR M1 k0 3) + 24))], [aR 11 k0, aI s0, aR 4 (((rR M1 k0 3) + 24) + 1)], M1)) tc_46 rfl 8 (fun u => ⟨_, rfl⟩) ⟨trivial, trivial, trivial, trivial, trivial, trivial, trivial, trivial, trivial⟩ ?_
    refine gd_callN (ml := 1) (as := [aR 11 k0]) (rest := [aI s0, aR 4 (((rR M1 k0 3) + 24) + 1)]) tc_46 rfl rfl rfl rfl rfl (by omega) (by omega) (Nat.le_of_ble_eq_true rfl) rfl (g_Rd_token (by omega) (by omega) h) (fun r9 M9 h => ?_)
    obtain ⟨x2, rfl, e9, h⟩ := h
    subst M9
    show Gd d w 46 _ (50, [some (aR 11 k0), some (aI v1), some (aI s0), some (aR 17 ((rR M1 k0 3) + 24))], [aI x2, aI s0, aR 4 (((rR M1 k0 3) + 24) + 1)], M1)
    obtain ⟨c0, c1, h⟩ := h
    refine gd_s (P := (vp_in s0 (rK M1 (((rR M1 k0 3) + 24) + 1)).2) ∧ True ∧ True ∧ True ∧ True ∧ (vp_in s0 (rK M1 (((rR M1 k0 3) + 24) + 2)).2) ∧ True ∧ True) (σ1 := (59, [some (aR 11 k0), some (aI v1), some (aI s0), some (aR 17 ((rR M1 k0 3) + 24))], [aR 11 k0], wI (wI M1 (((rR M1 k0 3) + 24) + 1) s0.toNatClampNeg x2) (((rR M1 k0 3) + 24) + 2) s0.toNatClampNeg v1)) tc_46 rfl 7 (fun u => ⟨_, rfl⟩) ⟨c0, trivial, trivial, trivial, trivial, c1, trivial, trivial⟩ ?_
    refine gd_callN (ml := 1) (as := [aR 11 k0]) (rest := []) tc_46 rfl rfl rfl rfl rfl (by omega) (by omega) (Nat.le_of_ble_eq_true rfl) rfl (g_Rd_token (by omega) (by omega) h) (fun r9 M9 h => ?_)
    obtain ⟨x3, rfl, e9, h⟩ := h
    subst M9
    show Gd d w 46 _ (62, [some (aR 11 k0), some (aI v1), some (aI s0), some (aR 17 ((rR M1 k0 3) + 24))], [aI x3], wI (wI M1 (((rR M1 k0 3) + 24) + 1) s0.toNatClampNeg x2) (((rR M1 k0 3) + 24) + 2) s0.toNatClampNeg v1)
    refine gd_sw tc_46 rfl rfl (fun _ => rfl) ?_
    refine gd_case ⟨fun hc => ?_, fun hc => ?_⟩
    · have h := h.1 hc
      show Gd d w 46 _ (144, [some (aR 11 k0), some (aI v1), some (aI s0), some (aR 17 ((rR M1 k0 3) + 24))], [], wI (wI M1 (((rR M1 k0 3) + 24) + 1) s0.toNatClampNeg x2) (((rR M1 k0 3) + 24) + 2) s0.toNatClampNeg v1)
      obtain ⟨c0, h⟩ := h
      refine gd_s (P := True ∧ True ∧ True ∧ True ∧ True ∧ True ∧ True ∧ True ∧ True ∧ (vp_in v1 (rK M1 (((rR (wI (wI M1 (((rR M1 k0 3) + 24) + 1) s0.toNatClampNeg x2) (((rR M1 k0 3) + 24) + 2) s0.toNatClampNeg v1) k0 3) + 1) + 4)).2) ∧ True) (σ1 := (162, [some (aR 11 k0), some (aI v1), some (aI s0), some (aR 17 ((rR M1 k0 3) + 24))], [aI (rI (wI (wI M1 (((rR M1 k0 3) + 24) + 1) s0.toNatClampNeg x2) (((rR M1 k0 3) + 24) + 2) s0.toNatClampNeg v1) (((rR (wI (wI M1 (((rR M1 k0 3) + 24) + 1) s0.toNatClampNeg x2) (((rR M1 k0 3) + 24) + 2) s0.toNatClampNeg v1) k0 3) + 1) + 4) v1.toNatClampNeg), aR 11 k0, aI s0, aR 4 (((rR M1 k0 3) + 24) + 3)], wI (wI M1 (((rR M1 k0 3) + 24) + 1) s0.toNatClampNeg x2) (((rR M1 k0 3) + 24) + 2) s0.toNatClampNeg v1)) tc_46 rfl 10 (fun u => ⟨_, rfl⟩) ⟨trivial, trivial, trivial, trivial, trivial, trivial, trivial, trivial, trivial, c0, trivial⟩ ?_
      refine gd_callN (ml := 3) (as := [aR 11 k0, aI (rI (wI (wI M1 (((rR M1 k0 3) + 24) + 1) s0.toNatClampNeg x2) (((rR M1 k0 3) + 24) + 2) s0.toNatClampNeg v1) (((rR (wI (wI M1 (((rR M1 k0 3) + 24) + 1) s0.toNatClampNeg x2) (((rR M1 k0 3) + 24) + 2) s0.toNatClampNeg v1) k0 3) + 1) + 4) v1.toNatClampNeg)]) (rest := [aI s0, aR 4 (((rR M1 k0 3) + 24) + 3)]) tc_46 rfl rfl rfl rfl rfl (by omega) (by omega) (Nat.le_of_ble_eq_true rfl) rfl (g_Rd_readNumber (by omega) (by omega) h) (fun r9 M4 h => ?_)
      obtain ⟨x4, rfl, h⟩ := h
      show Gd d w 46 _ (165, [some (aR 11 k0), some (aI v1), some (aI s0), some (aR 17 ((rR M1 k0 3) + 24))], [aI x4, aI s0, aR 4 (((rR M1 k0 3) + 24) + 3)], M4)
      obtain ⟨c0, h⟩ := h
      refine gd_s (P := (vp_in s0 (rK M4 (((rR M1 k0 3) + 24) + 3)).2) ∧ True ∧ True ∧ True) (σ1 := (244, [some (aR 11 k0), some (aI v1), some (aI s0), some (aR 17 ((rR M1 k0 3) + 24))], [aI s0], wI M4 (((rR M1 k0 3) + 24) + 3) s0.toNatClampNeg x4)) tc_46 rfl 3 (fun u => ⟨_, rfl⟩) ⟨c0, trivial, trivial, trivial⟩ ?_
      exact gd_ret tc_46 rfl rfl trivial (fun _ => rfl) ⟨_, rfl, h⟩
    have h := h.2 hc
    refine gd_case ⟨fun hc => ?_, fun hc => ?_⟩
    · have h := h.1 hc
      show Gd d w 46 _ (169, [some (aR 11 k0), some (aI v1), some (aI s0), some (aR 17 ((rR M1 k0 3) + 24))], [], wI (wI M1 (((rR M1 k0 3) + 24) + 1) s0.toNatClampNeg x2) (((rR M1 k0 3) + 24) + 2) s0.toNatClampNeg v1)
      obtain ⟨c0, h⟩ := h
      refine gd_s (P := True ∧ True ∧ True ∧ True ∧ True ∧ True ∧ True ∧ True ∧ True ∧ (vp_in v1 (rK M1 (((rR (wI (wI M1 (((rR M1 k0 3) + 24) + 1) s0.toNatClampNeg x2) (((rR M1 k0 3) + 24) + 2) s0.toNatClampNeg v1) k0 3) + 1) + 4)).2) ∧ True) (σ1 := (187, [some (aR 11 k0), some (aI v1), some (aI s0), some (aR 17 ((rR M1 k0 3) + 24))], [aI (rI (wI (wI M1 (((rR M1 k0 3) + 24) + 1) s0.toNatClampNeg x2) (((rR M1 k0 3) + 24) + 2) s0.toNatClampNeg v1) (((rR (wI (wI M1 (((rR M1 k0 3) + 24) + 1) s0.toNatClampNeg x2) (((rR M1 k0 3) + 24) + 2) s0.toNatClampNeg v1) k0 3) + 1) + 4) v1.toNatClampNeg), aR 11 k0, aI s0, aR 4 (((rR M1 k0 3) + 24) + 3)], wI (wI M1 (((rR M1 k0 3) + 24) + 1) s0.toNatClampNeg x2) (((rR M1 k0 3) + 24) + 2) s0.toNatClampNeg v1)) tc_46 rfl 10 (fun u => ⟨_, rfl⟩) ⟨trivial, trivial, trivial, trivial, trivial, trivial, trivial, trivial, trivial, c0, trivial⟩ ?_
      refine gd_callN (ml := 5) (as := [aR 11 k0, aI (rI (wI (wI M1 (((rR M1 k0 3) + 24) + 1) s0.toNatClampNeg x2) (((rR M1 k0 3) + 24) + 2) s0.toNatClampNeg v1) (((rR (wI (wI M1 (((rR M1 k0 3) + 24) + 1) s0.toNatClampNeg x2) (((rR M1 k0 3) + 24) + 2) s0.toNatClampNeg v1) k0 3) + 1) + 4) v1.toNatClampNeg)]) (rest := [aI s0, aR 4 (((rR M1 k0 3) + 24) + 3)]) tc_46 rfl rfl rfl rfl rfl (by omega) (by omega) (Nat.le_of_ble_eq_true rfl) rfl (g_Rd_readList (by omega) (by omega) h) (fun r9 M5 h => ?_)
      obtain ⟨x5, rfl, h⟩ := h
      show Gd d w 46 _ (190, [some (aR 11 k0), some (aI v1), some (aI s0), some (aR 17 ((rR M1 k0 3) + 24))], [aI x5, aI s0, aR 4 (((rR M1 k0 3) + 24) + 3)], M5)
      obtain ⟨c0, h⟩ := h
      refine gd_s (P := (vp_in s0 (rK M5 (((rR M1 k0 3) + 24) + 3)).2) ∧ True ∧ True ∧ True) (σ1 := (244, [some (aR 11 k0), some (aI v1), some (aI s0), some (aR 17 ((rR M1 k0 3) + 24))], [aI s0], wI M5 (((rR M1 k0 3) + 24) + 3) s0.toNatClampNeg x5)) tc_46 rfl 3 (fun u => ⟨_, rfl⟩) ⟨c0, trivial, trivial, trivial⟩ ?_
      exact gd_ret tc_46 rfl rfl trivial (fun _ => rfl) ⟨_, rfl, h⟩
    have h := h.2 hc
    refine gd_case ⟨fun hc => ?_, fun hc => ?_⟩
    · have h := h.1 hc
      show Gd d w 46 _ (169, [some (aR 11 k0), some (aI v1), some (aI s0), some (aR 17 ((rR M1 k0 3) + 24))], [], wI (wI M1 (((rR M1 k0 3) + 24) + 1) s0.toNatClampNeg x2) (((rR M1 k0 3) + 24) + 2) s0.toNatClampNeg v1)
      obtain ⟨c0, h⟩ := h
      refine gd_s (P := True ∧ True ∧ True ∧ True ∧ True ∧ True ∧ True ∧ True ∧ True ∧ (vp_in v1 (rK M1 (((rR (wI (wI M1 (((rR M1 k0 3) + 24) + 1) s0.toNatClampNeg x2) (((rR M1 k0 3) + 24) + 2) s0.toNatClampNeg v1) k0 3) + 1) + 4)).2) ∧ True) (σ1 := (187, [some (aR 11 k0), some (aI v1), some (aI s0), some (aR 17 ((rR M1 k0 3) + 24))], [aI (rI (wI (wI M1 (((rR M1 k0 3) + 24) + 1) s0.toNatClampNeg x2) (((rR M1 k0 3) + 24) + 2) s0.toNatClampNeg v1) (((rR (wI (wI M1 (((rR M1 k0 3) + 24) + 1) s0.toNatClampNeg x2) (((rR M1 k0 3) + 24) + 2) s0.toNatClampNeg v1) k0 3) + 1) + 4) v1.toNatClampNeg), aR 11 k0, aI s0, aR 4 (((rR M1 k0 3) + 24) + 3)], wI (wI M1 (((rR M1 k0 3) + 24) + 1) s0.toNatClampNeg x2) (((rR M1 k0 3) + 24) + 2) s0.toNatClampNeg v1)) tc_46 rfl 10 (fun u => ⟨_, rfl⟩) ⟨trivial, trivial, trivial, trivial, trivial, trivial, trivial, trivial, trivial, c0, trivial⟩ ?_
      refine gd_callN (ml := 5) (as := [aR 11 k0, aI (rI (wI (wI M1 (((rR M1 k0 3) + 24) + 1) s0.toNatClampNeg x2) (((rR M1 k0 3) + 24) + 2) s0.toNatClampNeg v1) (((rR (wI (wI M1 (((rR M1 k0 3) + 24) + 1) s0.toNatClampNeg x2) (((rR M1 k0 3) + 24) + 2) s0.toNatClampNeg v1) k0 3) + 1) + 4) v1.toNatClampNeg)]) (rest := [aI s0, aR 4 (((rR M1 k0 3) + 24) + 3)]) tc_46 rfl rfl rfl rfl rfl (by omega) (by omega) (Nat.le_of_ble_eq_true rfl) rfl (g_Rd_readList (by omega) (by omega) h) (fun r9 M6 h => ?_)
      obtain ⟨x6, rfl, h⟩ := h
      show Gd d w 46 _ (190, [some (aR 11 k0), some (aI v1), some (aI s0), some (aR 17 ((rR M1 k0 3) + 24))], [aI x6, aI s0, aR 4 (((rR M1 k0 3) + 24) + 3)], M6)
      obtain ⟨c0, h⟩ := h
      refine gd_s (P := (vp_in s0 (rK M6 (((rR M1 k0 3) + 24) + 3)).2) ∧ True ∧ True ∧ True) (σ1 := (244, [some (aR 11 k0), some (aI v1), some (aI s0), some (aR 17 ((rR M1 k0 3) + 24))], [aI s0], wI M6 (((rR M1 k0 3) + 24) + 3) s0.toNatClampNeg x6)) tc_46 rfl 3 (fun u => ⟨_, rfl⟩) ⟨c0, trivial, trivial, trivial⟩ ?_
      exact gd_ret tc_46 rfl rfl trivial (fun _ => rfl) ⟨_, rfl, h⟩
    have h := h.2 hc
    refine gd_case ⟨fun hc => ?_, fun hc => ?_⟩
    · have h := h.1 hc
      show Gd d w 46 _ (210, [some (aR 11 k0), some (aI v1), some (aI s0), some (aR 17 ((rR M1 k0 3) + 24))], [], wI (wI M1 (((rR M1 k0 3) + 24) + 1) s0.toNatClampNeg x2) (((rR M1 k0 3) + 24) + 2) s0.toNatClampNeg v1)
      refine gd_s (P := True ∧ True) (σ1 := (211, [some (aR 11 k0), some (aI v1), some (aI s0), some (aR 17 ((rR M1 k0 3) + 24))], [aR 11 k0], wI (wI M1 (((rR M1 k0 3) + 24) + 1) s0.toNatClampNeg x2) (((rR M1 k0 3) + 24) + 2) s0.toNatClampNeg v1)) tc_46 rfl 1 (fun u => ⟨_, rfl⟩) ⟨trivial, trivial⟩ ?_
      refine gd_callN (ml := 1) (as := [aR 11 k0]) (rest := []) tc_46 rfl rfl rfl rfl rfl (by omega) (by omega) (Nat.le_of_ble_eq_true rfl) rfl (g_Rd_step (by omega) (by omega) h) (fun r9 M7 h => ?_)
      obtain ⟨rfl, h⟩ := h
      show Gd d w 46 _ (214, [some (aR 11 k0), some (aI v1), some (aI s0), some (aR 17 ((rR M1 k0 3) + 24))], [], M7)
      refine gd_s (P := True ∧ True ∧ True ∧ True ∧ True) (σ1 := (220, [some (aR 11 k0), some (aI v1), some (aI s0), some (aR 17 ((rR M1 k0 3) + 24))], [aR 11 k0, aI s0, aR 4 (((rR M1 k0 3) + 24) + 3)], M7)) tc_46 rfl 4 (fun u => ⟨_, rfl⟩) ⟨trivial, trivial, trivial, trivial, trivial⟩ ?_
      refine gd_callN (ml := 2) (as := [aR 11 k0]) (rest := [aI s0, aR 4 (((rR M1 k0 3) + 24) + 3)]) tc_46 rfl rfl rfl rfl rfl (by omega) (by omega) (Nat.le_of_ble_eq_true rfl) rfl (g_Rd_attributeHere (by omega) (by omega) h) (fun r9 M8 h => ?_)
      obtain ⟨x8, rfl, h⟩ := h
      show Gd d w 46 _ (223, [some (aR 11 k0), some (aI v1), some (aI s0), some (aR 17 ((rR M1 k0 3) + 24))], [aI x8, aI s0, aR 4 (((rR M1 k0 3) + 24) + 3)], M8)
      obtain ⟨c0, h⟩ := h
      refine gd_s (P := (vp_in s0 (rK M8 (((rR M1 k0 3) + 24) + 3)).2) ∧ True ∧ True) (σ1 := (225, [some (aR 11 k0), some (aI v1), some (aI s0), some (aR 17 ((rR M1 k0 3) + 24))], [aR 11 k0], wI M8 (((rR M1 k0 3) + 24) + 3) s0.toNatClampNeg x8)) tc_46 rfl 2 (fun u => ⟨_, rfl⟩) ⟨c0, trivial, trivial⟩ ?_
      refine gd_callN (ml := 1) (as := [aR 11 k0]) (rest := []) tc_46 rfl rfl rfl rfl rfl (by omega) (by omega) (Nat.le_of_ble_eq_true rfl) rfl (g_Rd_step (by omega) (by omega) h) (fun r9 M9 h => ?_)
      obtain ⟨rfl, h⟩ := h
      show Gd d w 46 _ (228, [some (aR 11 k0), some (aI v1), some (aI s0), some (aR 17 ((rR M1 k0 3) + 24))], [], M9)
      refine gd_s (P := True ∧ True ∧ True) (σ1 := (244, [some (aR 11 k0), some (aI v1), some (aI s0), some (aR 17 ((rR M1 k0 3) + 24))], [aI s0], M9)) tc_46 rfl 2 (fun u => ⟨_, rfl⟩) ⟨trivial, trivial, trivial⟩ ?_
      exact gd_ret tc_46 rfl rfl trivial (fun _ => rfl) ⟨_, rfl, h⟩
    have h := h.2 hc
    refine gd_case ⟨fun hc => ?_, fun hc => ?_⟩
    · have h := h.1 hc
      show Gd d w 46 _ (144, [some (aR 11 k0), some (aI v1), some (aI s0), some (aR 17 ((rR M1 k0 3) + 24))], [], wI (wI M1 (((rR M1 k0 3) + 24) + 1) s0.toNatClampNeg x2) (((rR M1 k0 3) + 24) + 2) s0.toNatClampNeg v1)
      obtain ⟨c0, h⟩ := h
      refine gd_s (P := True ∧ True ∧ True ∧ True ∧ True ∧ True ∧ True ∧ True ∧ True ∧ (vp_in v1 (rK M1 (((rR (wI (wI M1 (((rR M1 k0 3) + 24) + 1) s0.toNatClampNeg x2) (((rR M1 k0 3) + 24) + 2) s0.toNatClampNeg v1) k0 3) + 1) + 4)).2) ∧ True) (σ1 := (162, [some (aR 11 k0), some (aI v1), some (aI s0), some (aR 17 ((rR M1 k0 3) + 24))], [aI (rI (wI (wI M1 (((rR M1 k0 3) + 24) + 1) s0.toNatClampNeg x2) (((rR M1 k0 3) + 24) + 2) s0.toNatClampNeg v1) (((rR (wI (wI M1 (((rR M1 k0 3) + 24) + 1) s0.toNatClampNeg x2) (((rR M1 k0 3) + 24) + 2) s0.toNatClampNeg v1) k0 3) + 1) + 4) v1.toNatClampNeg), aR 11 k0, aI s0, aR 4 (((rR M1 k0 3) + 24) + 3)], wI (wI M1 (((rR M1 k0 3) + 24) + 1) s0.toNatClampNeg x2) (((rR M1 k0 3) + 24) + 2) s0.toNatClampNeg v1)) tc_46 rfl 10 (fun u => ⟨_, rfl⟩) ⟨trivial, trivial, trivial, trivial, trivial, trivial, trivial, trivial, trivial, c0, trivial⟩ ?_
      refine gd_callN (ml := 3) (as := [aR 11 k0, aI (rI (wI (wI M1 (((rR M1 k0 3) + 24) + 1) s0.toNatClampNeg x2) (((rR M1 k0 3) + 24) + 2) s0.toNatClampNeg v1) (((rR (wI (wI M1 (((rR M1 k0 3) + 24) + 1) s0.toNatClampNeg x2) (((rR M1 k0 3) + 24) + 2) s0.toNatClampNeg v1) k0 3) + 1) + 4) v1.toNatClampNeg)]) (rest := [aI s0, aR 4 (((rR M1 k0 3) + 24) + 3)]) tc_46 rfl rfl rfl rfl rfl (by omega) (by omega) (Nat.le_of_ble_eq_true rfl) rfl (g_Rd_readNumber (by omega) (by omega) h) (fun r9 M10 h => ?_)
      obtain ⟨x10, rfl, h⟩ := h
      show Gd d w 46 _ (165, [some (aR 11 k0), some (aI v1), some (aI s0), some (aR 17 ((rR M1 k0 3) + 24))], [aI x10, aI s0, aR 4 (((rR M1 k0 3) + 24) + 3)], M10)
      obtain ⟨c0, h⟩ := h
      refine gd_s (P := (vp_in s0 (rK M10 (((rR M1 k0 3) + 24) + 3)).2) ∧ True ∧ True ∧ True) (σ1 := (244, [some (aR 11 k0), some (aI v1), some (aI s0), some (aR 17 ((rR M1 k0 3) + 24))], [aI s0], wI M10 (((rR M1 k0 3) + 24) + 3) s0.toNatClampNeg x10)) tc_46 rfl 3 (fun u => ⟨_, rfl⟩) ⟨c0, trivial, trivial, trivial⟩ ?_
      exact gd_ret tc_46 rfl rfl trivial (fun _ => rfl) ⟨_, rfl, h⟩
    have h := h.2 hc
    refine gd_case ⟨fun hc => ?_, fun hc => ?_⟩
    · have h := h.1 hc
      show Gd d w 46 _ (231, [some (aR 11 k0), some (aI v1), some (aI s0), some (aR 17 ((rR M1 k0 3) + 24))], [], wI (wI M1 (((rR M1 k0 3) + 24) + 1) s0.toNatClampNeg x2) (((rR M1 k0 3) + 24) + 2) s0.toNatClampNeg v1)
      refine gd_s (P := True ∧ True) (σ1 := (232, [some (aR 11 k0), some (aI v1), some (aI s0), some (aR 17 ((rR M1 k0 3) + 24))], [aR 11 k0], wI (wI M1 (((rR M1 k0 3) + 24) + 1) s0.toNatClampNeg x2) (((rR M1 k0 3) + 24) + 2) s0.toNatClampNeg v1)) tc_46 rfl 1 (fun u => ⟨_, rfl⟩) ⟨trivial, trivial⟩ ?_
      refine gd_callN (ml := 1) (as := [aR 11 k0]) (rest := []) tc_46 rfl rfl rfl rfl rfl (by omega) (by omega) (Nat.le_of_ble_eq_true rfl) rfl (g_Rd_step (by omega) (by omega) h) (fun r9 M11 h => ?_)
      obtain ⟨rfl, h⟩ := h
      show Gd d w 46 _ (235, [some (aR 11 k0), some (aI v1), some (aI s0), some (aR 17 ((rR M1 k0 3) + 24))], [], M11)
      refine gd_s (P := True ∧ True ∧ True) (σ1 := (244, [some (aR 11 k0), some (aI v1), some (aI s0), some (aR 17 ((rR M1 k0 3) + 24))], [aI s0], M11)) tc_46 rfl 2 (fun u => ⟨_, rfl⟩) ⟨trivial, trivial, trivial⟩ ?_
      exact gd_ret tc_46 rfl rfl trivial (fun _ => rfl) ⟨_, rfl, h⟩
    have h := h.2 hc
    refine gd_case ⟨fun hc => ?_, fun hc => ?_⟩
    · have h := h.1 hc
      show Gd d w 46 _ (194, [some (aR 11 k0), some (aI v1), some (aI s0), some (aR 17 ((rR M1 k0 3) + 24))], [], wI (wI M1 (((rR M1 k0 3) + 24) + 1) s0.toNatClampNeg x2) (((rR M1 k0 3) + 24) + 2) s0.toNatClampNeg v1)
      refine gd_s (P := True ∧ True ∧ True ∧ True ∧ True ∧ True) (σ1 := (203, [some (aR 11 k0), some (aI v1), some (aI s0), some (aR 17 ((rR M1 k0 3) + 24))], [aI ((1000 : Int32)), aR 11 k0, aI s0, aR 4 (((rR M1 k0 3) + 24) + 3)], wI (wI M1 (((rR M1 k0 3) + 24) + 1) s0.toNatClampNeg x2) (((rR M1 k0 3) + 24) + 2) s0.toNatClampNeg v1)) tc_46 rfl 5 (fun u => ⟨_, rfl⟩) ⟨trivial, trivial, trivial, trivial, trivial, trivial⟩ ?_
      refine gd_callN (ml := 3) (as := [aR 11 k0, aI ((1000 : Int32))]) (rest := [aI s0, aR 4 (((rR M1 k0 3) + 24) + 3)]) tc_46 rfl rfl rfl rfl rfl (by omega) (by omega) (Nat.le_of_ble_eq_true rfl) rfl (g_Rd_readNumber (by omega) (by omega) h) (fun r9 M12 h => ?_)
      obtain ⟨x12, rfl, h⟩ := h
      show Gd d w 46 _ (206, [some (aR 11 k0), some (aI v1), some (aI s0), some (aR 17 ((rR M1 k0 3) + 24))], [aI x12, aI s0, aR 4 (((rR M1 k0 3) + 24) + 3)], M12)
      obtain ⟨c0, h⟩ := h
      refine gd_s (P := (vp_in s0 (rK M12 (((rR M1 k0 3) + 24) + 3)).2) ∧ True ∧ True ∧ True) (σ1 := (244, [some (aR 11 k0), some (aI v1), some (aI s0), some (aR 17 ((rR M1 k0 3) + 24))], [aI s0], wI M12 (((rR M1 k0 3) + 24) + 3) s0.toNatClampNeg x12)) tc_46 rfl 3 (fun u => ⟨_, rfl⟩) ⟨c0, trivial, trivial, trivial⟩ ?_
      exact gd_ret tc_46 rfl rfl trivial (fun _ => rfl) ⟨_, rfl, h⟩
    have h := h.2 hc
    refine gd_case ⟨fun hc => ?_, fun hc => ?_⟩
    · have h := h.1 hc
      show Gd d w 46 _ (194, [some (aR 11 k0), some (aI v1), some (aI s0), some (aR 17 ((rR M1 k0 3) + 24))], [], wI (wI M1 (((rR M1 k0 3) + 24) + 1) s0.toNatClampNeg x2) (((rR M1 k0 3) + 24) + 2) s0.toNatClampNeg v1)
      refine gd_s (P := True ∧ True ∧ True ∧ True ∧ True ∧ True) (σ1 := (203, [some (aR 11 k0), some (aI v1), some (aI s0), some (aR 17 ((rR M1 k0 3) + 24))], [aI ((1000 : Int32)), aR 11 k0, aI s0, aR 4 (((rR M1 k0 3) + 24) + 3)], wI (wI M1 (((rR M1 k0 3) + 24) + 1) s0.toNatClampNeg x2) (((rR M1 k0 3) + 24) + 2) s0.toNatClampNeg v1)) tc_46 rfl 5 (fun u => ⟨_, rfl⟩) ⟨trivial, trivial, trivial, trivial, trivial, trivial⟩ ?_
      refine gd_callN (ml := 3) (as := [aR 11 k0, aI ((1000 : Int32))]) (rest := [aI s0, aR 4 (((rR M1 k0 3) + 24) + 3)]) tc_46 rfl rfl rfl rfl rfl (by omega) (by omega) (Nat.le_of_ble_eq_true rfl) rfl (g_Rd_readNumber (by omega) (by omega) h) (fun r9 M13 h => ?_)
      obtain ⟨x13, rfl, h⟩ := h
      show Gd d w 46 _ (206, [some (aR 11 k0), some (aI v1), some (aI s0), some (aR 17 ((rR M1 k0 3) + 24))], [aI x13, aI s0, aR 4 (((rR M1 k0 3) + 24) + 3)], M13)
      obtain ⟨c0, h⟩ := h
      refine gd_s (P := (vp_in s0 (rK M13 (((rR M1 k0 3) + 24) + 3)).2) ∧ True ∧ True ∧ True) (σ1 := (244, [some (aR 11 k0), some (aI v1), some (aI s0), some (aR 17 ((rR M1 k0 3) + 24))], [aI s0], wI M13 (((rR M1 k0 3) + 24) + 3) s0.toNatClampNeg x13)) tc_46 rfl 3 (fun u => ⟨_, rfl⟩) ⟨c0, trivial, trivial, trivial⟩ ?_
      exact gd_ret tc_46 rfl rfl trivial (fun _ => rfl) ⟨_, rfl, h⟩
    have h := h.2 hc
    refine gd_case ⟨fun hc => ?_, fun hc => ?_⟩
    · have h := h.1 hc
      show Gd d w 46 _ (194, [some (aR 11 k0), some (aI v1), some (aI s0), some (aR 17 ((rR M1 k0 3) + 24))], [], wI (wI M1 (((rR M1 k0 3) + 24) + 1) s0.toNatClampNeg x2) (((rR M1 k0 3) + 24) + 2) s0.toNatClampNeg v1)
      refine gd_s (P := True ∧ True ∧ True ∧ True ∧ True ∧ True) (σ1 := (203, [some (aR 11 k0), some (aI v1), some (aI s0), some (aR 17 ((rR M1 k0 3) + 24))], [aI ((1000 : Int32)), aR 11 k0, aI s0, aR 4 (((rR M1 k0 3) + 24) + 3)], wI (wI M1 (((rR M1 k0 3) + 24) + 1) s0.toNatClampNeg x2) (((rR M1 k0 3) + 24) + 2) s0.toNatClampNeg v1)) tc_46 rfl 5 (fun u => ⟨_, rfl⟩) ⟨trivial, trivial, trivial, trivial, trivial, trivial⟩ ?_
      refine gd_callN (ml := 3) (as := [aR 11 k0, aI ((1000 : Int32))]) (rest := [aI s0, aR 4 (((rR M1 k0 3) + 24) + 3)]) tc_46 rfl rfl rfl rfl rfl (by omega) (by omega) (Nat.le_of_ble_eq_true rfl) rfl (g_Rd_readNumber (by omega) (by omega) h) (fun r9 M14 h => ?_)
      obtain ⟨x14, rfl, h⟩ := h
      show Gd d w 46 _ (206, [some (aR 11 k0), some (aI v1), some (aI s0), some (aR 17 ((rR M1 k0 3) + 24))], [aI x14, aI s0, aR 4 (((rR M1 k0 3) + 24) + 3)], M14)
      obtain ⟨c0, h⟩ := h
      refine gd_s (P := (vp_in s0 (rK M14 (((rR M1 k0 3) + 24) + 3)).2) ∧ True ∧ True ∧ True) (σ1 := (244, [some (aR 11 k0), some (aI v1), some (aI s0), some (aR 17 ((rR M1 k0 3) + 24))], [aI s0], wI M14 (((rR M1 k0 3) + 24) + 3) s0.toNatClampNeg x14)) tc_46 rfl 3 (fun u => ⟨_, rfl⟩) ⟨c0, trivial, trivial, trivial⟩ ?_
      exact gd_ret tc_46 rfl rfl trivial (fun _ => rfl) ⟨_, rfl, h⟩
    have h := h.2 hc
    show Gd d w 46 _ (238, [some (aR 11 k0), some (aI v1), some (aI s0), some (aR 17 ((rR M1 k0 3) + 24))], [], wI (wI M1 (((rR M1 k0 3) + 24) + 1) s0.toNatClampNeg x2) (((rR M1 k0 3) + 24) + 2) s0.toNatClampNeg v1)
    refine gd_s (P := True ∧ True ∧ True) (σ1 := (240, [some (aR 11 k0), some (aI v1), some (aI s0), some (aR 17 ((rR M1 k0 3) + 24))], [aI ((2 : Int32)), aR 11 k0], wI (wI M1 (((rR M1 k0 3) + 24) + 1) s0.toNatClampNeg x2) (((rR M1 k0 3) + 24) + 2) s0.toNatClampNeg v1)) tc_46 rfl 2 (fun u => ⟨_, rfl⟩) ⟨trivial, trivial, trivial⟩ ?_
    refine gd_callN (ml := 2) (as := [aR 11 k0, aI ((2 : Int32))]) (rest := []) tc_46 rfl rfl rfl rfl rfl (by omega) (by omega) (Nat.le_of_ble_eq_true rfl) rfl (g_Rd_refuse (by omega) (by omega) h) (fun r9 M15 h => ?_)
    obtain ⟨rfl, h⟩ := h
    show Gd d w 46 _ (243, [some (aR 11 k0), some (aI v1), some (aI s0), some (aR 17 ((rR M1 k0 3) + 24))], [], M15)
    refine gd_s (P := True ∧ True) (σ1 := (244, [some (aR 11 k0), some (aI v1), some (aI s0), some (aR 17 ((rR M1 k0 3) + 24))], [aI s0], M15)) tc_46 rfl 1 (fun u => ⟨_, rfl⟩) ⟨trivial, trivial⟩ ?_
    exact gd_ret tc_46 rfl rfl trivial (fun _ => rfl) ⟨_, rfl, h⟩
  · have h := h.2 hc
    show Gd d w 46 _ (27, [some (aR 11 k0), some (aI v1), some (aI s0), o3], [], M)
    refine gd_s (P := True ∧ True) (σ1 := (28, [some (aR 11 k0), some (aI v1), some (aI s0), o3], [aI ((-1 : Int32))], M)) tc_46 rfl 1 (fun u => ⟨_, rfl⟩) ⟨trivial, trivial⟩ ?_
    exact gd_ret tc_46 rfl rfl trivial (fun _ => rfl) ⟨_, rfl, h⟩
/-- PolicyJudge$Reader.readTest()I -/
def w_Rd_readTest (post : Int32 → aM → Prop) (k0 : Nat) (M : aM) : Prop := w_Rd_attributeHere (fun x1 M1 => ((¬ x1 = ((-1 : Int32))) → w_Rd_addPart (fun x2 M2 => w_Rd_readTest_J21 post k0 x1 x2 M2) k0 ((128 : Int32)) M1) ∧ (¬ (¬ x1 = ((-1 : Int32))) → w_Rd_readTest_J21 post k0 x1 ((-1 : Int32)) M1)) k0 M
theorem g_Rd_readTest {d w : Nat} (hd : 2 ≤ d) (hw : 47 ≤ w) {post : Int32 → aM → Prop} {k0 : Nat} {M : aM} (h : w_Rd_readTest post k0 M) : Gd d w 46 (pI post) (0, aEnt 46 [aR 11 k0], [], M) := by
  unfold w_Rd_readTest at h
  show Gd d w 46 _ (0, [some (aR 11 k0), none, none, none], [], M)
  refine gd_s (P := True ∧ True) (σ1 := (1, [some (aR 11 k0), none, none, none], [aR 11 k0], M)) tc_46 rfl 1 (fun u => ⟨_, rfl⟩) ⟨trivial, trivial⟩ ?_
  refine gd_callN (ml := 2) (as := [aR 11 k0]) (rest := []) tc_46 rfl rfl rfl rfl rfl (by omega) (by omega) (Nat.le_of_ble_eq_true rfl) rfl (g_Rd_attributeHere (by omega) (by omega) h) (fun r9 M1 h => ?_)
  obtain ⟨x1, rfl, h⟩ := h
  show Gd d w 46 _ (4, [some (aR 11 k0), none, none, none], [aI x1], M1)
  refine gd_s (P := True ∧ True ∧ True ∧ True) (σ1 := (7, [some (aR 11 k0), some (aI x1), none, none], [aI ((-1 : Int32)), aI x1], M1)) tc_46 rfl 3 (fun u => ⟨_, rfl⟩) ⟨trivial, trivial, trivial, trivial⟩ ?_
  refine gd_br (c := ¬ x1 = ((-1 : Int32))) (st1 := []) tc_46 rfl rfl (fun _ => rfl) ⟨fun hc => ?_, fun hc => ?_⟩
  · have h := h.1 hc
    show Gd d w 46 _ (14, [some (aR 11 k0), some (aI x1), none, none], [], M1)
    refine gd_s (P := True ∧ True ∧ True) (σ1 := (18, [some (aR 11 k0), some (aI x1), none, none], [aI ((128 : Int32)), aR 11 k0], M1)) tc_46 rfl 2 (fun u => ⟨_, rfl⟩) ⟨trivial, trivial, trivial⟩ ?_
    refine gd_callN (ml := 3) (as := [aR 11 k0, aI ((128 : Int32))]) (rest := []) tc_46 rfl rfl rfl rfl rfl (by omega) (by omega) (Nat.le_of_ble_eq_true rfl) rfl (g_Rd_addPart (by omega) (by omega) h) (fun r9 M2 h => ?_)
    obtain ⟨x2, rfl, h⟩ := h
    exact g_Rd_readTest_J21 hd hw k0 x1 x2 none none M2 h
  · have h := h.2 hc
    show Gd d w 46 _ (10, [some (aR 11 k0), some (aI x1), none, none], [], M1)
    refine gd_s (P := True ∧ True ∧ True) (σ1 := (21, [some (aR 11 k0), some (aI x1), none, none], [aI ((-1 : Int32))], M1)) tc_46 rfl 2 (fun u => ⟨_, rfl⟩) ⟨trivial, trivial, trivial⟩ ?_
    exact g_Rd_readTest_J21 hd hw k0 x1 ((-1 : Int32)) none none M1 h
theorem tc_42 : tC 42 = c42 := rfl
/-- PolicyJudge$Reader.readPart(I)I -/
def w_Rd_readPart_r (R_Rd_readJoined : (Int32 → aM → Prop) → Nat → Int32 → Int32 → aM → Prop) (R_Rd_readPart : (Int32 → aM → Prop) → Nat → Int32 → aM → Prop) (R_Rd_readNot : (Int32 → aM → Prop) → Nat → Int32 → aM → Prop) (R_Rd_readBracket : (Int32 → aM → Prop) → Nat → Int32 → aM → Prop) (post : Int32 → aM → Prop) (k0 : Nat) (v1 : Int32) (M : aM) : Prop := w_Rd_token (fun x1 => ((x1 = (12 : Int32)) → R_Rd_readNot (fun x2 M2 => post x2 M2) k0 v1 M) ∧ (¬ (x1 = (12 : Int32)) → ((x1 = (13 : Int32)) → w_Rd_token (fun x3 => w_Rd_addPart (fun x4 M4 => w_Rd_step (fun M5 => post x4 M5) k0 M4) k0 x3 M) k0 M) ∧ (¬ (x1 = (13 : Int32)) → ((x1 = (14 : Int32)) → w_Rd_token (fun x6 => w_Rd_addPart (fun x7 M7 => w_Rd_step (fun M8 => post x7 M8) k0 M7) k0 x6 M) k0 M) ∧ (¬ (x1 = (14 : Int32)) → ((x1 = (15 : Int32)) → w_Rd_token (fun x9 => w_Rd_addPart (fun x10 M10 => w_Rd_step (fun M11 => post x10 M11) k0 M10) k0 x9 M) k0 M) ∧ (¬ (x1 = (15 : Int32)) → ((x1 = (40 : Int32)) → R_Rd_readBracket (fun x12 M12 => post x12 M12) k0 v1 M) ∧ (¬ (x1 = (40 : Int32)) → ((x1 = (128 : Int32)) → w_Rd_readTest (fun x13 M13 => post x13 M13) k0 M) ∧ (¬ (x1 = (128 : Int32)) → w_Rd_refuse (fun M14 => post ((-1 : Int32)) M14) k0 ((2 : Int32)) M))))))) k0 M
theorem g_Rd_readPart_r {d w : Nat} (hd : 4 ≤ d) (hw : 98 ≤ w) {R_Rd_readJoined : (Int32 → aM → Prop) → Nat → Int32 → Int32 → aM → Prop} (hR_Rd_readJoined : ∀ (post : Int32 → aM → Prop) (k0 : Nat) (v1 : Int32) (v2 : Int32) (M : aM), R_Rd_readJoined post k0 v1 v2 M → Gd (d - 1) (w - (9 + 19)) 41 (pI post) (0, aEnt 41 [aR 11 k0, aI v1, aI v2], [], M)) {R_Rd_readPart : (Int32 → aM → Prop) → Nat → Int32 → aM → Prop} (hR_Rd_readPart : ∀ (post : Int32 → aM → Prop) (k0 : Nat) (v1 : Int32) (M : aM), R_Rd_readPart post k0 v1 M → Gd (d - 1) (w - (3 + 19)) 42 (pI post) (0, aEnt 42 [aR 11 k0, aI v1], [], M)) {R_Rd_readNot : (Int32 → aM → Prop) → Nat → Int32 → aM → Prop} (hR_Rd_readNot : ∀ (post : Int32 → aM → Prop) (k0 : Nat) (v1 : Int32) (M : aM), R_Rd_readNot post k0 v1 M → Gd (d - 1) (w - (3 + 19)) 43 (pI post) (0, aEnt 43 [aR 11 k0, aI v1], [], M)) {R_Rd_readBracket : (Int32 → aM → Prop) → Nat → Int32 → aM → Prop} (hR_Rd_readBracket : ∀ (post : Int32 → aM → Prop) (k0 : Nat) (v1 : Int32) (M : aM), R_Rd_readBracket post k0 v1 M → Gd (d - 1) (w - (3 + 19)) 45 (pI post) (0, aEnt 45 [aR 11 k0, aI v1], [], M)) {post : Int32 → aM → Prop} {k0 : Nat} {v1 : Int32} {M : aM} (h : w_Rd_readPart_r R_Rd_readJoined R_Rd_readPart R_Rd_readNot R_Rd_readBracket post k0 v1 M) : Gd d w 42 (pI post) (0, aEnt 42 [aR 11 k0, aI v1], [], M) := by
  unfold w_Rd_readPart_r at h
  show Gd d w 42 _ (0, [some (aR 11 k0), some (aI v1), none], [], M)
  refine gd_s (P := True ∧ True) (σ1 := (1, [some (aR 11 k0), some (aI v1), none], [aR 11 k0], M)) tc_42 rfl 1 (fun u => ⟨_, rfl⟩) ⟨trivial, trivial⟩ ?_
  refine gd_callN (ml := 1) (as := [aR 11 k0]) (rest := []) tc_42 rfl rfl rfl rfl rfl (by omega) (by omega) (Nat.le_of_ble_eq_true rfl) rfl (g_Rd_token (by omega) (by omega) h) (fun r9 M9 h => ?_)
  obtain ⟨x1, rfl, e9, h⟩ := h
  subst M9
  show Gd d w 42 _ (4, [some (aR 11 k0), some (aI v1), none], [aI x1], M)
  refine gd_sw tc_42 rfl rfl (fun _ => rfl) ?_
  refine gd_case ⟨fun hc => ?_, fun hc => ?_⟩
  · have h := h.1 hc
    show Gd d w 42 _ (64, [some (aR 11 k0), some (aI v1), none], [], M)
    refine gd_s (P := True ∧ True ∧ True) (σ1 := (66, [some (aR 11 k0), some (aI v1), none], [aI v1, aR 11 k0], M)) tc_42 rfl 2 (fun u => ⟨_, rfl⟩) ⟨trivial, trivial, trivial⟩ ?_
    refine gd_callN (ml := 3) (as := [aR 11 k0, aI v1]) (rest := []) tc_42 rfl rfl rfl rfl rfl (by omega) (by omega) (Nat.le_of_ble_eq_true rfl) rfl (hR_Rd_readNot _ k0 v1 _ h) (fun r9 M2 h => ?_)
    obtain ⟨x2, rfl, h⟩ := h
    show Gd d w 42 _ (69, [some (aR 11 k0), some (aI v1), none], [aI x2], M2)
    exact gd_ret tc_42 rfl rfl trivial (fun _ => rfl) ⟨_, rfl, h⟩
  have h := h.2 hc
  refine gd_case ⟨fun hc => ?_, fun hc => ?_⟩
  · have h := h.1 hc
    show Gd d w 42 _ (76, [some (aR 11 k0), some (aI v1), none], [], M)
    refine gd_s (P := True ∧ True ∧ True) (σ1 := (78, [some (aR 11 k0), some (aI v1), none], [aR 11 k0, aR 11 k0], M)) tc_42 rfl 2 (fun u => ⟨_, rfl⟩) ⟨trivial, trivial, trivial⟩ ?_
    refine gd_callN (ml := 1) (as := [aR 11 k0]) (rest := [aR 11 k0]) tc_42 rfl rfl rfl rfl rfl (by omega) (by omega) (Nat.le_of_ble_eq_true rfl) rfl (g_Rd_token (by omega) (by omega) h) (fun r9 M9 h => ?_)
    obtain ⟨x3, rfl, e9, h⟩ := h
    subst M9
    show Gd d w 42 _ (81, [some (aR 11 k0), some (aI v1), none], [aI x3, aR 11 k0], M)
    refine gd_callN (ml := 3) (as := [aR 11 k0, aI x3]) (rest := []) tc_42 rfl rfl rfl rfl rfl (by omega) (by omega) (Nat.le_of_ble_eq_true rfl) rfl (g_Rd_addPart (by omega) (by omega) h) (fun r9 M4 h => ?_)
    obtain ⟨x4, rfl, h⟩ := h
    show Gd d w 42 _ (84, [some (aR 11 k0), some (aI v1), none], [aI x4], M4)
    refine gd_s (P := True ∧ True ∧ True) (σ1 := (86, [some (aR 11 k0), some (aI v1), some (aI x4)], [aR 11 k0], M4)) tc_42 rfl 2 (fun u => ⟨_, rfl⟩) ⟨trivial, trivial, trivial⟩ ?_
    refine gd_callN (ml := 1) (as := [aR 11 k0]) (rest := []) tc_42 rfl rfl rfl rfl rfl (by omega) (by omega) (Nat.le_of_ble_eq_true rfl) rfl (g_Rd_step (by omega) (by omega) h) (fun r9 M5 h => ?_)
    obtain ⟨rfl, h⟩ := h
    show Gd d w 42 _ (89, [some (aR 11 k0), some (aI v1), some (aI x4)], [], M5)
    refine gd_s (P := True ∧ True) (σ1 := (90, [some (aR 11 k0), some (aI v1), some (aI x4)], [aI x4], M5)) tc_42 rfl 1 (fun u => ⟨_, rfl⟩) ⟨trivial, trivial⟩ ?_
    exact gd_ret tc_42 rfl rfl trivial (fun _ => rfl) ⟨_, rfl, h⟩
  have h := h.2 hc
  refine gd_case ⟨fun hc => ?_, fun hc => ?_⟩
  · have h := h.1 hc
    show Gd d w 42 _ (76, [some (aR 11 k0), some (aI v1), none], [], M)
    refine gd_s (P := True ∧ True ∧ True) (σ1 := (78, [some (aR 11 k0), some (aI v1), none], [aR 11 k0, aR 11 k0], M)) tc_42 rfl 2 (fun u => ⟨_, rfl⟩) ⟨trivial, trivial, trivial⟩ ?_
    refine gd_callN (ml := 1) (as := [aR 11 k0]) (rest := [aR 11 k0]) tc_42 rfl rfl rfl rfl rfl (by omega) (by omega) (Nat.le_of_ble_eq_true rfl) rfl (g_Rd_token (by omega) (by omega) h) (fun r9 M9 h => ?_)
    obtain ⟨x6, rfl, e9, h⟩ := h
    subst M9
    show Gd d w 42 _ (81, [some (aR 11 k0), some (aI v1), none], [aI x6, aR 11 k0], M)
    refine gd_callN (ml := 3) (as := [aR 11 k0, aI x6]) (rest := []) tc_42 rfl rfl rfl rfl rfl (by omega) (by omega) (Nat.le_of_ble_eq_true rfl) rfl (g_Rd_addPart (by omega) (by omega) h) (fun r9 M7 h => ?_)
    obtain ⟨x7, rfl, h⟩ := h
    show Gd d w 42 _ (84, [some (aR 11 k0), some (aI v1), none], [aI x7], M7)
    refine gd_s (P := True ∧ True ∧ True) (σ1 := (86, [some (aR 11 k0), some (aI v1), some (aI x7)], [aR 11 k0], M7)) tc_42 rfl 2 (fun u => ⟨_, rfl⟩) ⟨trivial, trivial, trivial⟩ ?_
    refine gd_callN (ml := 1) (as := [aR 11 k0]) (rest := []) tc_42 rfl rfl rfl rfl rfl (by omega) (by omega) (Nat.le_of_ble_eq_true rfl) rfl (g_Rd_step (by omega) (by omega) h) (fun r9 M8 h => ?_)
    obtain ⟨rfl, h⟩ := h
    show Gd d w 42 _ (89, [some (aR 11 k0), some (aI v1), some (aI x7)], [], M8)
    refine gd_s (P := True ∧ True) (σ1 := (90, [some (aR 11 k0), some (aI v1), some (aI x7)], [aI x7], M8)) tc_42 rfl 1 (fun u => ⟨_, rfl⟩) ⟨trivial, trivial⟩ ?_
    exact gd_ret tc_42 rfl rfl trivial (fun _ => rfl) ⟨_, rfl, h⟩
  have h := h.2 hc
  refine gd_case ⟨fun hc => ?_, fun hc => ?_⟩
  · have h := h.1 hc
    show Gd d w 42 _ (76, [some (aR 11 k0), some (aI v1), none], [], M)
    refine gd_s (P := True ∧ True ∧ True) (σ1 := (78, [some (aR 11 k0), some (aI v1), none], [aR 11 k0, aR 11 k0], M)) tc_42 rfl 2 (fun u => ⟨_, rfl⟩) ⟨trivial, trivial, trivial⟩ ?_
    refine gd_callN (ml := 1) (as := [aR 11 k0]) (rest := [aR 11 k0]) tc_42 rfl rfl rfl rfl rfl (by omega) (by omega) (Nat.le_of_ble_eq_true rfl) rfl (g_Rd_token (by omega) (by omega) h) (fun r9 M9 h => ?_)
    obtain ⟨x9, rfl, e9, h⟩ := h
    subst M9
    show Gd d w 42 _ (81, [some (aR 11 k0), some (aI v1), none], [aI x9, aR 11 k0], M)
    refine gd_callN (ml := 3) (as := [aR 11 k0, aI x9]) (rest := []) tc_42 rfl rfl rfl rfl rfl (by omega) (by omega) (Nat.le_of_ble_eq_true rfl) rfl (g_Rd_addPart (by omega) (by omega) h) (fun r9 M10 h => ?_)
    obtain ⟨x10, rfl, h⟩ := h
    show Gd d w 42 _ (84, [some (aR 11 k0), some (aI v1), none], [aI x10], M10)
    refine gd_s (P := True ∧ True ∧ True) (σ1 := (86, [some (aR 11 k0), some (aI v1), some (aI x10)], [aR 11 k0], M10)) tc_42 rfl 2 (fun u => ⟨_, rfl⟩) ⟨trivial, trivial, trivial⟩ ?_
    refine gd_callN (ml := 1) (as := [aR 11 k0]) (rest := []) tc_42 rfl rfl rfl rfl rfl (by omega) (by omega) (Nat.le_of_ble_eq_true rfl) rfl (g_Rd_step (by omega) (by omega) h) (fun r9 M11 h => ?_)
    obtain ⟨rfl, h⟩ := h
    show Gd d w 42 _ (89, [some (aR 11 k0), some (aI v1), some (aI x10)], [], M11)
    refine gd_s (P := True ∧ True) (σ1 := (90, [some (aR 11 k0), some (aI v1), some (aI x10)], [aI x10], M11)) tc_42 rfl 1 (fun u => ⟨_, rfl⟩) ⟨trivial, trivial⟩ ?_
    exact gd_ret tc_42 rfl rfl trivial (fun _ => rfl) ⟨_, rfl, h⟩
  have h := h.2 hc
  refine gd_case ⟨fun hc => ?_, fun hc => ?_⟩
  · have h := h.1 hc
    show Gd d w 42 _ (70, [some (aR 11 k0), some (aI v1), none], [], M)
    refine gd_s (P := True ∧ True ∧ True) (σ1 := (72, [some (aR 11 k0), some (aI v1), none], [aI v1, aR 11 k0], M)) tc_42 rfl 2 (fun u => ⟨_, rfl⟩) ⟨trivial, trivial, trivial⟩ ?_
    refine gd_callN (ml := 3) (as := [aR 11 k0, aI v1]) (rest := []) tc_42 rfl rfl rfl rfl rfl (by omega) (by omega) (Nat.le_of_ble_eq_true rfl) rfl (hR_Rd_readBracket _ k0 v1 _ h) (fun r9 M12 h => ?_)
    obtain ⟨x12, rfl, h⟩ := h
    show Gd d w 42 _ (75, [some (aR 11 k0), some (aI v1), none], [aI x12], M12)
    exact gd_ret tc_42 rfl rfl trivial (fun _ => rfl) ⟨_, rfl, h⟩
  have h := h.2 hc
  refine gd_case ⟨fun hc => ?_, fun hc => ?_⟩
  · have h := h.1 hc
    show Gd d w 42 _ (91, [some (aR 11 k0), some (aI v1), none], [], M)
    refine gd_s (P := True ∧ True) (σ1 := (92, [some (aR 11 k0), some (aI v1), none], [aR 11 k0], M)) tc_42 rfl 1 (fun u => ⟨_, rfl⟩) ⟨trivial, trivial⟩ ?_
    refine gd_callN (ml := 4) (as := [aR 11 k0]) (rest := []) tc_42 rfl rfl rfl rfl rfl (by omega) (by omega) (Nat.le_of_ble_eq_true rfl) rfl (g_Rd_readTest (by omega) (by omega) h) (fun r9 M13 h => ?_)
    obtain ⟨x13, rfl, h⟩ := h
    show Gd d w 42 _ (95, [some (aR 11 k0), some (aI v1), none], [aI x13], M13)
    exact gd_ret tc_42 rfl rfl trivial (fun _ => rfl) ⟨_, rfl, h⟩
  have h := h.2 hc
  show Gd d w 42 _ (96, [some (aR 11 k0), some (aI v1), none], [], M)
  refine gd_s (P := True ∧ True ∧ True) (σ1 := (98, [some (aR 11 k0), some (aI v1), none], [aI ((2 : Int32)), aR 11 k0], M)) tc_42 rfl 2 (fun u => ⟨_, rfl⟩) ⟨trivial, trivial, trivial⟩ ?_
  refine gd_callN (ml := 2) (as := [aR 11 k0, aI ((2 : Int32))]) (rest := []) tc_42 rfl rfl rfl rfl rfl (by omega) (by omega) (Nat.le_of_ble_eq_true rfl) rfl (g_Rd_refuse (by omega) (by omega) h) (fun r9 M14 h => ?_)
  obtain ⟨rfl, h⟩ := h
  show Gd d w 42 _ (101, [some (aR 11 k0), some (aI v1), none], [], M14)
  refine gd_s (P := True ∧ True) (σ1 := (102, [some (aR 11 k0), some (aI v1), none], [aI ((-1 : Int32))], M14)) tc_42 rfl 1 (fun u => ⟨_, rfl⟩) ⟨trivial, trivial⟩ ?_
  exact gd_ret tc_42 rfl rfl trivial (fun _ => rfl) ⟨_, rfl, h⟩
theorem tc_41 : tC 41 = c41 := rfl
def w_Rd_readJoined_J127 (post : Int32 → aM → Prop) (R_Rd_readJoined : (Int32 → aM → Prop) → Nat → Int32 → Int32 → aM → Prop) (R_Rd_readPart : (Int32 → aM → Prop) → Nat → Int32 → aM → Prop) (R_Rd_readNot : (Int32 → aM → Prop) → Nat → Int32 → aM → Prop) (R_Rd_readBracket : (Int32 → aM → Prop) → Nat → Int32 → aM → Prop) (K89 : Nat → Int32 → Int32 → Int32 → Nat → Int32 → Int32 → aM → Prop) (k0 : Nat) (v1 : Int32) (v2 : Int32) (v4 : Int32) (k5 : Nat) (v6 : Int32) (v7 : Int32) (s0 : Int32) (M : aM) : Prop := w_Rd_isFine (fun x1 => ((¬ x1 = ((0 : Int32))) → (vp_in v6 (rK M (k5 + 6)).2) ∧ (vp_in v4 (rK M (k5 + 4)).2) ∧ (vp_in v4 (rK M (k5 + 4)).2) ∧ (K89 k0 v1 v2 v4 k5 s0 (v7 + (-1 : Int32)) (wI (wI M (k5 + 6) v6.toNatClampNeg s0) (k5 + 4) v4.toNatClampNeg ((rI (wI M (k5 + 6) v6.toNatClampNeg s0) (k5 + 4) v4.toNatClampNeg) + ((1 : Int32)))))) ∧ (¬ (¬ x1 = ((0 : Int32))) → post ((-1 : Int32)) M)) k0 M
theorem g_Rd_readJoined_J127 {d w : Nat} (hd : 4 ≤ d) (hw : 98 ≤ w) {post : Int32 → aM → Prop} {R_Rd_readJoined : (Int32 → aM → Prop) → Nat → Int32 → Int32 → aM → Prop} (hR_Rd_readJoined : ∀ (post : Int32 → aM → Prop) (k0 : Nat) (v1 : Int32) (v2 : Int32) (M : aM), R_Rd_readJoined post k0 v1 v2 M → Gd (d - 1) (w - (9 + 19)) 41 (pI post) (0, aEnt 41 [aR 11 k0, aI v1, aI v2], [], M)) {R_Rd_readPart : (Int32 → aM → Prop) → Nat → Int32 → aM → Prop} (hR_Rd_readPart : ∀ (post : Int32 → aM → Prop) (k0 : Nat) (v1 : Int32) (M : aM), R_Rd_readPart post k0 v1 M → Gd (d - 1) (w - (3 + 19)) 42 (pI post) (0, aEnt 42 [aR 11 k0, aI v1], [], M)) {R_Rd_readNot : (Int32 → aM → Prop) → Nat → Int32 → aM → Prop} (hR_Rd_readNot : ∀ (post : Int32 → aM → Prop) (k0 : Nat) (v1 : Int32) (M : aM), R_Rd_readNot post k0 v1 M → Gd (d - 1) (w - (3 + 19)) 43 (pI post) (0, aEnt 43 [aR 11 k0, aI v1], [], M)) {R_Rd_readBracket : (Int32 → aM → Prop) → Nat → Int32 → aM → Prop} (hR_Rd_readBracket : ∀ (post : Int32 → aM → Prop) (k0 : Nat) (v1 : Int32) (M : aM), R_Rd_readBracket post k0 v1 M → Gd (d - 1) (w - (3 + 19)) 45 (pI post) (0, aEnt 45 [aR 11 k0, aI v1], [], M)) {K89 : Nat → Int32 → Int32 → Int32 → Nat → Int32 → Int32 → aM → Prop} (hK89 : ∀ (k0 : Nat) (v1 : Int32) (v2 : Int32) (v4 : Int32) (k5 : Nat) (v6 : Int32) (v7 : Int32) (o3 o8 : Option aV) (M : aM), K89 k0 v1 v2 v4 k5 v6 v7 M → Gd d w 41 (pI post) (89, [some (aR 11 k0), some (aI v1), some (aI v2), o3, some (aI v4), some (aR 17 k5), some (aI v6), some (aI v7), o8], [], M)) (k0 : Nat) (v1 : Int32) (v2 : Int32) (v4 : Int32) (k5 : Nat) (v6 : Int32) (v7 : Int32) (s0 : Int32) (o3 o8 : Option aV) (M : aM) (h : w_Rd_readJoined_J127 post R_Rd_readJoined R_Rd_readPart R_Rd_readNot R_Rd_readBracket K89 k0 v1 v2 v4 k5 v6 v7 s0 M) : Gd d w 41 (pI post) (127, [some (aR 11 k0), some (aI v1), some (aI v2), o3, some (aI v4), some (aR 17 k5), some (aI v6), some (aI v7), o8], [aI s0], M) := by
  unfold w_Rd_readJoined_J127 at h
  show Gd d w 41 _ (127, [some (aR 11 k0), some (aI v1), some (aI v2), o3, some (aI v4), some (aR 17 k5), some (aI v6), some (aI v7), o8], [aI s0], M)
  refine gd_s (P := True ∧ True ∧ True) (σ1 := (130, [some (aR 11 k0), some (aI v1), some (aI v2), o3, some (aI v4), some (aR 17 k5), some (aI v6), some (aI v7), some (aI s0)], [aR 11 k0], M)) tc_41 rfl 2 (fun u => ⟨_, rfl⟩) ⟨trivial, trivial, trivial⟩ ?_
  refine gd_callN (ml := 1) (as := [aR 11 k0]) (rest := []) tc_41 rfl rfl rfl rfl rfl (by omega) (by omega) (Nat.le_of_ble_eq_true rfl) rfl (g_Rd_isFine (by omega) (by omega) h) (fun r9 M9 h => ?_)
  obtain ⟨x1, rfl, e9, h⟩ := h
  subst M9
  show Gd d w 41 _ (133, [some (aR 11 k0), some (aI v1), some (aI v2), o3, some (aI v4), some (aR 17 k5), some (aI v6), some (aI v7), some (aI s0)], [aI x1], M)
  refine gd_br (c := ¬ x1 = ((0 : Int32))) (st1 := []) tc_41 rfl rfl (fun _ => rfl) ⟨fun hc => ?_, fun hc => ?_⟩
  · have h := h.1 hc
    show Gd d w 41 _ (138, [some (aR 11 k0), some (aI v1), some (aI v2), o3, some (aI v4), some (aR 17 k5), some (aI v6), some (aI v7), some (aI s0)], [], M)
    obtain ⟨c0, c1, c2, h⟩ := h
    refine gd_s (P := True ∧ True ∧ True ∧ True ∧ (vp_in v6 (rK M (k5 + 6)).2) ∧ True ∧ True ∧ True ∧ True ∧ (vp_in v4 (rK M (k5 + 4)).2) ∧ True ∧ True ∧ (vp_in v4 (rK M (k5 + 4)).2) ∧ True ∧ True ∧ True ∧ True ∧ True) (σ1 := (89, [some (aR 11 k0), some (aI v1), some (aI v2), o3, some (aI v4), some (aR 17 k5), some (aI s0), some (aI (v7 + (-1 : Int32))), some (aI s0)], [], wI (wI M (k5 + 6) v6.toNatClampNeg s0) (k5 + 4) v4.toNatClampNeg ((rI (wI M (k5 + 6) v6.toNatClampNeg s0) (k5 + 4) v4.toNatClampNeg) + ((1 : Int32))))) tc_41 rfl 17 (fun u => ⟨_, rfl⟩) ⟨trivial, trivial, trivial, trivial, c0, trivial, trivial, trivial, trivial, c1, trivial, trivial, c2, trivial, trivial, trivial, trivial, trivial⟩ ?_
    exact hK89 k0 v1 v2 v4 k5 s0 (v7 + (-1 : Int32)) o3 (some (aI s0)) (wI (wI M (k5 + 6) v6.toNatClampNeg s0) (k5 + 4) v4.toNatClampNeg ((rI (wI M (k5 + 6) v6.toNatClampNeg s0) (k5 + 4) v4.toNatClampNeg) + ((1 : Int32)))) h
  · have h := h.2 hc
    show Gd d w 41 _ (136, [some (aR 11 k0), some (aI v1), some (aI v2), o3, some (aI v4), some (aR 17 k5), some (aI v6), some (aI v7), some (aI s0)], [], M)
    refine gd_s (P := True ∧ True) (σ1 := (137, [some (aR 11 k0), some (aI v1), some (aI v2), o3, some (aI v4), some (aR 17 k5), some (aI v6), some (aI v7), some (aI s0)], [aI ((-1 : Int32))], M)) tc_41 rfl 1 (fun u => ⟨_, rfl⟩) ⟨trivial, trivial⟩ ?_
    exact gd_ret tc_41 rfl rfl trivial (fun _ => rfl) ⟨_, rfl, h⟩
def w_Rd_readJoined_L89 (post : Int32 → aM → Prop) (R_Rd_readJoined : (Int32 → aM → Prop) → Nat → Int32 → Int32 → aM → Prop) (R_Rd_readPart : (Int32 → aM → Prop) → Nat → Int32 → aM → Prop) (R_Rd_readNot : (Int32 → aM → Prop) → Nat → Int32 → aM → Prop) (R_Rd_readBracket : (Int32 → aM → Prop) → Nat → Int32 → aM → Prop) : Nat → Nat → Int32 → Int32 → Int32 → Nat → Int32 → Int32 → aM → Prop
  | 0, _, _, _, _, _, _, _, _ => False
  | n + 1, k0, v1, v2, v4, k5, v6, v7, M => ((v7 ≤ ((0 : Int32))) → post v4 M) ∧ (¬ (v7 ≤ ((0 : Int32))) → w_Rd_token (fun x1 => ((¬ x1 = v1) → post v4 M) ∧ (¬ (¬ x1 = v1) → w_Rd_step (fun M2 => ((¬ v1 = ((10 : Int32))) → R_Rd_readPart (fun x3 M3 => w_Rd_readJoined_J127 post R_Rd_readJoined R_Rd_readPart R_Rd_readNot R_Rd_readBracket (w_Rd_readJoined_L89 post R_Rd_readJoined R_Rd_readPart R_Rd_readNot R_Rd_readBracket n) k0 v1 v2 v4 k5 v6 v7 x3 M3) k0 v2 M2) ∧ (¬ (¬ v1 = ((10 : Int32))) → R_Rd_readJoined (fun x4 M4 => w_Rd_readJoined_J127 post R_Rd_readJoined R_Rd_readPart R_Rd_readNot R_Rd_readBracket (w_Rd_readJoined_L89 post R_Rd_readJoined R_Rd_readPart R_Rd_readNot R_Rd_readBracket n) k0 v1 v2 v4 k5 v6 v7 x4 M4) k0 ((11 : Int32)) v2 M2)) k0 M)) k0 M)
theorem g_Rd_readJoined_L89 {d w : Nat} (hd : 4 ≤ d) (hw : 98 ≤ w) {post : Int32 → aM → Prop} {R_Rd_readJoined : (Int32 → aM → Prop) → Nat → Int32 → Int32 → aM → Prop} (hR_Rd_readJoined : ∀ (post : Int32 → aM → Prop) (k0 : Nat) (v1 : Int32) (v2 : Int32) (M : aM), R_Rd_readJoined post k0 v1 v2 M → Gd (d - 1) (w - (9 + 19)) 41 (pI post) (0, aEnt 41 [aR 11 k0, aI v1, aI v2], [], M)) {R_Rd_readPart : (Int32 → aM → Prop) → Nat → Int32 → aM → Prop} (hR_Rd_readPart : ∀ (post : Int32 → aM → Prop) (k0 : Nat) (v1 : Int32) (M : aM), R_Rd_readPart post k0 v1 M → Gd (d - 1) (w - (3 + 19)) 42 (pI post) (0, aEnt 42 [aR 11 k0, aI v1], [], M)) {R_Rd_readNot : (Int32 → aM → Prop) → Nat → Int32 → aM → Prop} (hR_Rd_readNot : ∀ (post : Int32 → aM → Prop) (k0 : Nat) (v1 : Int32) (M : aM), R_Rd_readNot post k0 v1 M → Gd (d - 1) (w - (3 + 19)) 43 (pI post) (0, aEnt 43 [aR 11 k0, aI v1], [], M)) {R_Rd_readBracket : (Int32 → aM → Prop) → Nat → Int32 → aM → Prop} (hR_Rd_readBracket : ∀ (post : Int32 → aM → Prop) (k0 : Nat) (v1 : Int32) (M : aM), R_Rd_readBracket post k0 v1 M → Gd (d - 1) (w - (3 + 19)) 45 (pI post) (0, aEnt 45 [aR 11 k0, aI v1], [], M)) : ∀ (n : Nat) (k0 : Nat) (v1 : Int32) (v2 : Int32) (v4 : Int32) (k5 : Nat) (v6 : Int32) (v7 : Int32) (o3 o8 : Option aV) (M : aM), w_Rd_readJoined_L89 post R_Rd_readJoined R_Rd_readPart R_Rd_readNot R_Rd_readBracket n k0 v1 v2 v4 k5 v6 v7 M → Gd d w 41 (pI post) (89, [some (aR 11 k0), some (aI v1), some (aI v2), o3, some (aI v4), some (aR 17 k5), some (aI v6), some (aI v7), o8], [], M) := by
  intro n
  induction n with
  | zero => intro k0 v1 v2 v4 k5 v6 v7 o3 o8 M h; exact h.elim
  | succ n ih =>
    intro k0 v1 v2 v4 k5 v6 v7 o3 o8 M h
    show Gd d w 41 _ (89, [some (aR 11 k0), some (aI v1), some (aI v2), o3, some (aI v4), some (aR 17 k5), some (aI v6), some (aI v7), o8], [], M)
    refine gd_s (P := True ∧ True) (σ1 := (91, [some (aR 11 k0), some (aI v1), some (aI v2), o3, some (aI v4), some (aR 17 k5), some (aI v6), some (aI v7), o8], [aI v7], M)) tc_41 rfl 1 (fun u => ⟨_, rfl⟩) ⟨trivial, trivial⟩ ?_
    refine gd_br (c := v7 ≤ ((0 : Int32))) (st1 := []) tc_41 rfl rfl (fun _ => rfl) ⟨fun hc => ?_, fun hc => ?_⟩
    · have h := h.1 hc
      show Gd d w 41 _ (170, [some (aR 11 k0), some (aI v1), some (aI v2), o3, some (aI v4), some (aR 17 k5), some (aI v6), some (aI v7), o8], [], M)
      refine gd_s (P := True ∧ True) (σ1 := (172, [some (aR 11 k0), some (aI v1), some (aI v2), o3, some (aI v4), some (aR 17 k5), some (aI v6), some (aI v7), o8], [aI v4], M)) tc_41 rfl 1 (fun u => ⟨_, rfl⟩) ⟨trivial, trivial⟩ ?_
      exact gd_ret tc_41 rfl rfl trivial (fun _ => rfl) ⟨_, rfl, h⟩
    · have h := h.2 hc
      show Gd d w 41 _ (94, [some (aR 11 k0), some (aI v1), some (aI v2), o3, some (aI v4), some (aR 17 k5), some (aI v6), some (aI v7), o8], [], M)
      refine gd_s (P := True ∧ True) (σ1 := (95, [some (aR 11 k0), some (aI v1), some (aI v2), o3, some (aI v4), some (aR 17 k5), some (aI v6), some (aI v7), o8], [aR 11 k0], M)) tc_41 rfl 1 (fun u => ⟨_, rfl⟩) ⟨trivial, trivial⟩ ?_
      refine gd_callN (ml := 1) (as := [aR 11 k0]) (rest := []) tc_41 rfl rfl rfl rfl rfl (by omega) (by omega) (Nat.le_of_ble_eq_true rfl) rfl (g_Rd_token (by omega) (by omega) h) (fun r9 M9 h => ?_)
      obtain ⟨x1, rfl, e9, h⟩ := h
      subst M9
      show Gd d w 41 _ (98, [some (aR 11 k0), some (aI v1), some (aI v2), o3, some (aI v4), some (aR 17 k5), some (aI v6), some (aI v7), o8], [aI x1], M)
      refine gd_s (P := True ∧ True) (σ1 := (99, [some (aR 11 k0), some (aI v1), some (aI v2), o3, some (aI v4), some (aR 17 k5), some (aI v6), some (aI v7), o8], [aI v1, aI x1], M)) tc_41 rfl 1 (fun u => ⟨_, rfl⟩) ⟨trivial, trivial⟩ ?_
      refine gd_br (c := ¬ x1 = v1) (st1 := []) tc_41 rfl rfl (fun _ => rfl) ⟨fun hc => ?_, fun hc => ?_⟩
      · have h := h.1 hc
        show Gd d w 41 _ (170, [some (aR 11 k0), some (aI v1), some (aI v2), o3, some (aI v4), some (aR 17 k5), some (aI v6), some (aI v7), o8], [], M)
        refine gd_s (P := True ∧ True) (σ1 := (172, [some (aR 11 k0), some (aI v1), some (aI v2), o3, some (aI v4), some (aR 17 k5), some (aI v6), some (aI v7), o8], [aI v4], M)) tc_41 rfl 1 (fun u => ⟨_, rfl⟩) ⟨trivial, trivial⟩ ?_
        exact gd_ret tc_41 rfl rfl trivial (fun _ => rfl) ⟨_, rfl, h⟩
      · have h := h.2 hc
        show Gd d w 41 _ (102, [some (aR 11 k0), some (aI v1), some (aI v2), o3, some (aI v4), some (aR 17 k5), some (aI v6), some (aI v7), o8], [], M)
        refine gd_s (P := True ∧ True) (σ1 := (103, [some (aR 11 k0), some (aI v1), some (aI v2), o3, some (aI v4), some (aR 17 k5), some (aI v6), some (aI v7), o8], [aR 11 k0], M)) tc_41 rfl 1 (fun u => ⟨_, rfl⟩) ⟨trivial, trivial⟩ ?_
        refine gd_callN (ml := 1) (as := [aR 11 k0]) (rest := []) tc_41 rfl rfl rfl rfl rfl (by omega) (by omega) (Nat.le_of_ble_eq_true rfl) rfl (g_Rd_step (by omega) (by omega) h) (fun r9 M2 h => ?_)
        obtain ⟨rfl, h⟩ := h
        show Gd d w 41 _ (106, [some (aR 11 k0), some (aI v1), some (aI v2), o3, some (aI v4), some (aR 17 k5), some (aI v6), some (aI v7), o8], [], M2)
        refine gd_s (P := True ∧ True ∧ True) (σ1 := (109, [some (aR 11 k0), some (aI v1), some (aI v2), o3, some (aI v4), some (aR 17 k5), some (aI v6), some (aI v7), o8], [aI ((10 : Int32)), aI v1], M2)) tc_41 rfl 2 (fun u => ⟨_, rfl⟩) ⟨trivial, trivial, trivial⟩ ?_
        refine gd_br (c := ¬ v1 = ((10 : Int32))) (st1 := []) tc_41 rfl rfl (fun _ => rfl) ⟨fun hc => ?_, fun hc => ?_⟩
        · have h := h.1 hc
          show Gd d w 41 _ (122, [some (aR 11 k0), some (aI v1), some (aI v2), o3, some (aI v4), some (aR 17 k5), some (aI v6), some (aI v7), o8], [], M2)
          refine gd_s (P := True ∧ True ∧ True) (σ1 := (124, [some (aR 11 k0), some (aI v1), some (aI v2), o3, some (aI v4), some (aR 17 k5), some (aI v6), some (aI v7), o8], [aI v2, aR 11 k0], M2)) tc_41 rfl 2 (fun u => ⟨_, rfl⟩) ⟨trivial, trivial, trivial⟩ ?_
          refine gd_callN (ml := 3) (as := [aR 11 k0, aI v2]) (rest := []) tc_41 rfl rfl rfl rfl rfl (by omega) (by omega) (Nat.le_of_ble_eq_true rfl) rfl (hR_Rd_readPart _ k0 v2 _ h) (fun r9 M3 h => ?_)
          obtain ⟨x3, rfl, h⟩ := h
          exact g_Rd_readJoined_J127 hd hw hR_Rd_readJoined hR_Rd_readPart hR_Rd_readNot hR_Rd_readBracket ih k0 v1 v2 v4 k5 v6 v7 x3 o3 o8 M3 h
        · have h := h.2 hc
          show Gd d w 41 _ (112, [some (aR 11 k0), some (aI v1), some (aI v2), o3, some (aI v4), some (aR 17 k5), some (aI v6), some (aI v7), o8], [], M2)
          refine gd_s (P := True ∧ True ∧ True ∧ True) (σ1 := (116, [some (aR 11 k0), some (aI v1), some (aI v2), o3, some (aI v4), some (aR 17 k5), some (aI v6), some (aI v7), o8], [aI v2, aI ((11 : Int32)), aR 11 k0], M2)) tc_41 rfl 3 (fun u => ⟨_, rfl⟩) ⟨trivial, trivial, trivial, trivial⟩ ?_
          refine gd_callN (ml := 9) (as := [aR 11 k0, aI ((11 : Int32)), aI v2]) (rest := []) tc_41 rfl rfl rfl rfl rfl (by omega) (by omega) (Nat.le_of_ble_eq_true rfl) rfl (hR_Rd_readJoined _ k0 ((11 : Int32)) v2 _ h) (fun r9 M4 h => ?_)
          obtain ⟨x4, rfl, h⟩ := h
          show Gd d w 41 _ (119, [some (aR 11 k0), some (aI v1), some (aI v2), o3, some (aI v4), some (aR 17 k5), some (aI v6), some (aI v7), o8], [aI x4], M4)
          refine gd_s (P := True ∧ True) (σ1 := (127, [some (aR 11 k0), some (aI v1), some (aI v2), o3, some (aI v4), some (aR 17 k5), some (aI v6), some (aI v7), o8], [aI x4], M4)) tc_41 rfl 1 (fun u => ⟨_, rfl⟩) ⟨trivial, trivial⟩ ?_
          exact g_Rd_readJoined_J127 hd hw hR_Rd_readJoined hR_Rd_readPart hR_Rd_readNot hR_Rd_readBracket ih k0 v1 v2 v4 k5 v6 v7 x4 o3 o8 M4 h
def w_Rd_readJoined_J21 (post : Int32 → aM → Prop) (R_Rd_readJoined : (Int32 → aM → Prop) → Nat → Int32 → Int32 → aM → Prop) (R_Rd_readPart : (Int32 → aM → Prop) → Nat → Int32 → aM → Prop) (R_Rd_readNot : (Int32 → aM → Prop) → Nat → Int32 → aM → Prop) (R_Rd_readBracket : (Int32 → aM → Prop) → Nat → Int32 → aM → Prop) (k0 : Nat) (v1 : Int32) (v2 : Int32) (s0 : Int32) (M : aM) : Prop := w_Rd_isFine (fun x1 => ((x1 = ((0 : Int32))) → post s0 M) ∧ (¬ (x1 = ((0 : Int32))) → w_Rd_token (fun x2 => ((x2 = v1) → w_Rd_addPart (fun x3 M3 => ((¬ x3 = ((-1 : Int32))) → (vp_in x3 (rK M3 (((rR M3 k0 3) + 24) + 5)).2) ∧ (vp_in x3 (rK M3 (((rR M3 k0 3) + 24) + 4)).2) ∧ (∃ n9, w_Rd_readJoined_L89 post R_Rd_readJoined R_Rd_readPart R_Rd_readNot R_Rd_readBracket n9 k0 v1 v2 x3 ((rR M3 k0 3) + 24) s0 ((400 : Int32)) (wI (wI M3 (((rR M3 k0 3) + 24) + 5) x3.toNatClampNeg s0) (((rR M3 k0 3) + 24) + 4) x3.toNatClampNeg ((1 : Int32))))) ∧ (¬ (¬ x3 = ((-1 : Int32))) → post ((-1 : Int32)) M3)) k0 v1 M) ∧ (¬ (x2 = v1) → post s0 M)) k0 M)) k0 M
theorem g_Rd_readJoined_J21 {d w : Nat} (hd : 4 ≤ d) (hw : 98 ≤ w) {post : Int32 → aM → Prop} {R_Rd_readJoined : (Int32 → aM → Prop) → Nat → Int32 → Int32 → aM → Prop} (hR_Rd_readJoined : ∀ (post : Int32 → aM → Prop) (k0 : Nat) (v1 : Int32) (v2 : Int32) (M : aM), R_Rd_readJoined post k0 v1 v2 M → Gd (d - 1) (w - (9 + 19)) 41 (pI post) (0, aEnt 41 [aR 11 k0, aI v1, aI v2], [], M)) {R_Rd_readPart : (Int32 → aM → Prop) → Nat → Int32 → aM → Prop} (hR_Rd_readPart : ∀ (post : Int32 → aM → Prop) (k0 : Nat) (v1 : Int32) (M : aM), R_Rd_readPart post k0 v1 M → Gd (d - 1) (w - (3 + 19)) 42 (pI post) (0, aEnt 42 [aR 11 k0, aI v1], [], M)) {R_Rd_readNot : (Int32 → aM → Prop) → Nat → Int32 → aM → Prop} (hR_Rd_readNot : ∀ (post : Int32 → aM → Prop) (k0 : Nat) (v1 : Int32) (M : aM), R_Rd_readNot post k0 v1 M → Gd (d - 1) (w - (3 + 19)) 43 (pI post) (0, aEnt 43 [aR 11 k0, aI v1], [], M)) {R_Rd_readBracket : (Int32 → aM → Prop) → Nat → Int32 → aM → Prop} (hR_Rd_readBracket : ∀ (post : Int32 → aM → Prop) (k0 : Nat) (v1 : Int32) (M : aM), R_Rd_readBracket post k0 v1 M → Gd (d - 1) (w - (3 + 19)) 45 (pI post) (0, aEnt 45 [aR 11 k0, aI v1], [], M)) (k0 : Nat) (v1 : Int32) (v2 : Int32) (s0 : Int32) (o3 o4 o5 o6 o7 o8 : Option aV) (M : aM) (h : w_Rd_readJoined_J21 post R_Rd_readJoined R_Rd_readPart R_Rd_readNot R_Rd_readBracket k0 v1 v2 s0 M) : Gd d w 41 (pI post) (21, [some (aR 11 k0), some (aI v1), some (aI v2), o3, o4, o5, o6, o7, o8], [aI s0], M) := by
  unfold w_Rd_readJoined_J21 at h
  show Gd d w 41 _ (21, [some (aR 11 k0), some (aI v1), some (aI v2), o3, o4, o5, o6, o7, o8], [aI s0], M)
  refine gd_s (P := True ∧ True ∧ True) (σ1 := (23, [some (aR 11 k0), some (aI v1), some (aI v2), some (aI s0), o4, o5, o6, o7, o8], [aR 11 k0], M)) tc_41 rfl 2 (fun u => ⟨_, rfl⟩) ⟨trivial, trivial, trivial⟩ ?_
  refine gd_callN (ml := 1) (as := [aR 11 k0]) (rest := []) tc_41 rfl rfl rfl rfl rfl (by omega) (by omega) (Nat.le_of_ble_eq_true rfl) rfl (g_Rd_isFine (by omega) (by omega) h) (fun r9 M9 h => ?_)
  obtain ⟨x1, rfl, e9, h⟩ := h
  subst M9
  show Gd d w 41 _ (26, [some (aR 11 k0), some (aI v1), some (aI v2), some (aI s0), o4, o5, o6, o7, o8], [aI x1], M)
  refine gd_br (c := x1 = ((0 : Int32))) (st1 := []) tc_41 rfl rfl (fun _ => rfl) ⟨fun hc => ?_, fun hc => ?_⟩
  · have h := h.1 hc
    show Gd d w 41 _ (37, [some (aR 11 k0), some (aI v1), some (aI v2), some (aI s0), o4, o5, o6, o7, o8], [], M)
    refine gd_s (P := True ∧ True) (σ1 := (38, [some (aR 11 k0), some (aI v1), some (aI v2), some (aI s0), o4, o5, o6, o7, o8], [aI s0], M)) tc_41 rfl 1 (fun u => ⟨_, rfl⟩) ⟨trivial, trivial⟩ ?_
    exact gd_ret tc_41 rfl rfl trivial (fun _ => rfl) ⟨_, rfl, h⟩
  · have h := h.2 hc
    show Gd d w 41 _ (29, [some (aR 11 k0), some (aI v1), some (aI v2), some (aI s0), o4, o5, o6, o7, o8], [], M)
    refine gd_s (P := True ∧ True) (σ1 := (30, [some (aR 11 k0), some (aI v1), some (aI v2), some (aI s0), o4, o5, o6, o7, o8], [aR 11 k0], M)) tc_41 rfl 1 (fun u => ⟨_, rfl⟩) ⟨trivial, trivial⟩ ?_
    refine gd_callN (ml := 1) (as := [aR 11 k0]) (rest := []) tc_41 rfl rfl rfl rfl rfl (by omega) (by omega) (Nat.le_of_ble_eq_true rfl) rfl (g_Rd_token (by omega) (by omega) h) (fun r9 M9 h => ?_)
    obtain ⟨x2, rfl, e9, h⟩ := h
    subst M9
    show Gd d w 41 _ (33, [some (aR 11 k0), some (aI v1), some (aI v2), some (aI s0), o4, o5, o6, o7, o8], [aI x2], M)
    refine gd_s (P := True ∧ True) (σ1 := (34, [some (aR 11 k0), some (aI v1), some (aI v2), some (aI s0), o4, o5, o6, o7, o8], [aI v1, aI x2], M)) tc_41 rfl 1 (fun u => ⟨_, rfl⟩) ⟨trivial, trivial⟩ ?_
    refine gd_br (c := x2 = v1) (st1 := []) tc_41 rfl rfl (fun _ => rfl) ⟨fun hc => ?_, fun hc => ?_⟩
    · have h := h.1 hc
      show Gd d w 41 _ (39, [some (aR 11 k0), some (aI v1), some (aI v2), some (aI s0), o4, o5, o6, o7, o8], [], M)
      refine gd_s (P := True ∧ True ∧ True) (σ1 := (41, [some (aR 11 k0), some (aI v1), some (aI v2), some (aI s0), o4, o5, o6, o7, o8], [aI v1, aR 11 k0], M)) tc_41 rfl 2 (fun u => ⟨_, rfl⟩) ⟨trivial, trivial, trivial⟩ ?_
      refine gd_callN (ml := 3) (as := [aR 11 k0, aI v1]) (rest := []) tc_41 rfl rfl rfl rfl rfl (by omega) (by omega) (Nat.le_of_ble_eq_true rfl) rfl (g_Rd_addPart (by omega) (by omega) h) (fun r9 M3 h => ?_)
      obtain ⟨x3, rfl, h⟩ := h
      show Gd d w 41 _ (44, [some (aR 11 k0), some (aI v1), some (aI v2), some (aI s0), o4, o5, o6, o7, o8], [aI x3], M3)
      refine gd_s (P := True ∧ True ∧ True ∧ True) (σ1 := (49, [some (aR 11 k0), some (aI v1), some (aI v2), some (aI s0), some (aI x3), o5, o6, o7, o8], [aI ((-1 : Int32)), aI x3], M3)) tc_41 rfl 3 (fun u => ⟨_, rfl⟩) ⟨trivial, trivial, trivial, trivial⟩ ?_
      refine gd_br (c := ¬ x3 = ((-1 : Int32))) (st1 := []) tc_41 rfl rfl (fun _ => rfl) ⟨fun hc => ?_, fun hc => ?_⟩
      · have h := h.1 hc
        show Gd d w 41 _ (54, [some (aR 11 k0), some (aI v1), some (aI v2), some (aI s0), some (aI x3), o5, o6, o7, o8], [], M3)
        obtain ⟨c0, c1, h⟩ := h
        refine gd_s (P := True ∧ True ∧ True ∧ True ∧ True ∧ True ∧ True ∧ True ∧ (vp_in x3 (rK M3 (((rR M3 k0 3) + 24) + 5)).2) ∧ True ∧ True ∧ True ∧ True ∧ (vp_in x3 (rK M3 (((rR M3 k0 3) + 24) + 4)).2) ∧ True ∧ True ∧ True ∧ True ∧ True) (σ1 := (89, [some (aR 11 k0), some (aI v1), some (aI v2), some (aI s0), some (aI x3), some (aR 17 ((rR M3 k0 3) + 24)), some (aI s0), some (aI ((400 : Int32))), o8], [], wI (wI M3 (((rR M3 k0 3) + 24) + 5) x3.toNatClampNeg s0) (((rR M3 k0 3) + 24) + 4) x3.toNatClampNeg ((1 : Int32)))) tc_41 rfl 18 (fun u => ⟨_, rfl⟩) ⟨trivial, trivial, trivial, trivial, trivial, trivial, trivial, trivial, c0, trivial, trivial, trivial, trivial, c1, trivial, trivial, trivial, trivial, trivial⟩ ?_
        obtain ⟨n9, h⟩ := h
        exact g_Rd_readJoined_L89 hd hw hR_Rd_readJoined hR_Rd_readPart hR_Rd_readNot hR_Rd_readBracket n9 k0 v1 v2 x3 ((rR M3 k0 3) + 24) s0 ((400 : Int32)) (some (aI s0)) o8 (wI (wI M3 (((rR M3 k0 3) + 24) + 5) x3.toNatClampNeg s0) (((rR M3 k0 3) + 24) + 4) x3.toNatClampNeg ((1 : Int32))) h
      · have h := h.2 hc
        show Gd d w 41 _ (52, [some (aR 11 k0), some (aI v1), some (aI v2), some (aI s0), some (aI x3), o5, o6, o7, o8], [], M3)
        refine gd_s (P := True ∧ True) (σ1 := (53, [some (aR 11 k0), some (aI v1), some (aI v2), some (aI s0), some (aI x3), o5, o6, o7, o8], [aI ((-1 : Int32))], M3)) tc_41 rfl 1 (fun u => ⟨_, rfl⟩) ⟨trivial, trivial⟩ ?_
        exact gd_ret tc_41 rfl rfl trivial (fun _ => rfl) ⟨_, rfl, h⟩
    · have h := h.2 hc
      show Gd d w 41 _ (37, [some (aR 11 k0), some (aI v1), some (aI v2), some (aI s0), o4, o5, o6, o7, o8], [], M)
      refine gd_s (P := True ∧ True) (σ1 := (38, [some (aR 11 k0), some (aI v1), some (aI v2), some (aI s0), o4, o5, o6, o7, o8], [aI s0], M)) tc_41 rfl 1 (fun u => ⟨_, rfl⟩) ⟨trivial, trivial⟩ ?_
      exact gd_ret tc_41 rfl rfl trivial (fun _ => rfl) ⟨_, rfl, h⟩
/-- PolicyJudge$Reader.readJoined(II)I -/
def w_Rd_readJoined_r (R_Rd_readJoined : (Int32 → aM → Prop) → Nat → Int32 → Int32 → aM → Prop) (R_Rd_readPart : (Int32 → aM → Prop) → Nat → Int32 → aM → Prop) (R_Rd_readNot : (Int32 → aM → Prop) → Nat → Int32 → aM → Prop) (R_Rd_readBracket : (Int32 → aM → Prop) → Nat → Int32 → aM → Prop) (post : Int32 → aM → Prop) (k0 : Nat) (v1 : Int32) (v2 : Int32) (M : aM) : Prop := ((¬ v1 = ((10 : Int32))) → R_Rd_readPart (fun x1 M1 => w_Rd_readJoined_J21 post R_Rd_readJoined R_Rd_readPart R_Rd_readNot R_Rd_readBracket k0 v1 v2 x1 M1) k0 v2 M) ∧ (¬ (¬ v1 = ((10 : Int32))) → R_Rd_readJoined (fun x2 M2 => w_Rd_readJoined_J21 post R_Rd_readJoined R_Rd_readPart R_Rd_readNot R_Rd_readBracket k0 v1 v2 x2 M2) k0 ((11 : Int32)) v2 M)
theorem g_Rd_readJoined_r {d w : Nat} (hd : 4 ≤ d) (hw : 98 ≤ w) {R_Rd_readJoined : (Int32 → aM → Prop) → Nat → Int32 → Int32 → aM → Prop} (hR_Rd_readJoined : ∀ (post : Int32 → aM → Prop) (k0 : Nat) (v1 : Int32) (v2 : Int32) (M : aM), R_Rd_readJoined post k0 v1 v2 M → Gd (d - 1) (w - (9 + 19)) 41 (pI post) (0, aEnt 41 [aR 11 k0, aI v1, aI v2], [], M)) {R_Rd_readPart : (Int32 → aM → Prop) → Nat → Int32 → aM → Prop} (hR_Rd_readPart : ∀ (post : Int32 → aM → Prop) (k0 : Nat) (v1 : Int32) (M : aM), R_Rd_readPart post k0 v1 M → Gd (d - 1) (w - (3 + 19)) 42 (pI post) (0, aEnt 42 [aR 11 k0, aI v1], [], M)) {R_Rd_readNot : (Int32 → aM → Prop) → Nat → Int32 → aM → Prop} (hR_Rd_readNot : ∀ (post : Int32 → aM → Prop) (k0 : Nat) (v1 : Int32) (M : aM), R_Rd_readNot post k0 v1 M → Gd (d - 1) (w - (3 + 19)) 43 (pI post) (0, aEnt 43 [aR 11 k0, aI v1], [], M)) {R_Rd_readBracket : (Int32 → aM → Prop) → Nat → Int32 → aM → Prop} (hR_Rd_readBracket : ∀ (post : Int32 → aM → Prop) (k0 : Nat) (v1 : Int32) (M : aM), R_Rd_readBracket post k0 v1 M → Gd (d - 1) (w - (3 + 19)) 45 (pI post) (0, aEnt 45 [aR 11 k0, aI v1], [], M)) {post : Int32 → aM → Prop} {k0 : Nat} {v1 : Int32} {v2 : Int32} {M : aM} (h : w_Rd_readJoined_r R_Rd_readJoined R_Rd_readPart R_Rd_readNot R_Rd_readBracket post k0 v1 v2 M) : Gd d w 41 (pI post) (0, aEnt 41 [aR 11 k0, aI v1, aI v2], [], M) := by
  unfold w_Rd_readJoined_r at h
  show Gd d w 41 _ (0, [some (aR 11 k0), some (aI v1), some (aI v2), none, none, none, none, none, none], [], M)
  refine gd_s (P := True ∧ True ∧ True) (σ1 := (3, [some (aR 11 k0), some (aI v1), some (aI v2), none, none, none, none, none, none], [aI ((10 : Int32)), aI v1], M)) tc_41 rfl 2 (fun u => ⟨_, rfl⟩) ⟨trivial, trivial, trivial⟩ ?_
  refine gd_br (c := ¬ v1 = ((10 : Int32))) (st1 := []) tc_41 rfl rfl (fun _ => rfl) ⟨fun hc => ?_, fun hc => ?_⟩
  · have h := h.1 hc
    show Gd d w 41 _ (16, [some (aR 11 k0), some (aI v1), some (aI v2), none, none, none, none, none, none], [], M)
    refine gd_s (P := True ∧ True ∧ True) (σ1 := (18, [some (aR 11 k0), some (aI v1), some (aI v2), none, none, none, none, none, none], [aI v2, aR 11 k0], M)) tc_41 rfl 2 (fun u => ⟨_, rfl⟩) ⟨trivial, trivial, trivial⟩ ?_
    refine gd_callN (ml := 3) (as := [aR 11 k0, aI v2]) (rest := []) tc_41 rfl rfl rfl rfl rfl (by omega) (by omega) (Nat.le_of_ble_eq_true rfl) rfl (hR_Rd_readPart _ k0 v2 _ h) (fun r9 M1 h => ?_)
    obtain ⟨x1, rfl, h⟩ := h
    exact g_Rd_readJoined_J21 hd hw hR_Rd_readJoined hR_Rd_readPart hR_Rd_readNot hR_Rd_readBracket k0 v1 v2 x1 none none none none none none M1 h
  · have h := h.2 hc
    show Gd d w 41 _ (6, [some (aR 11 k0), some (aI v1), some (aI v2), none, none, none, none, none, none], [], M)
    refine gd_s (P := True ∧ True ∧ True ∧ True) (σ1 := (10, [some (aR 11 k0), some (aI v1), some (aI v2), none, none, none, none, none, none], [aI v2, aI ((11 : Int32)), aR 11 k0], M)) tc_41 rfl 3 (fun u => ⟨_, rfl⟩) ⟨trivial, trivial, trivial, trivial⟩ ?_
    refine gd_callN (ml := 9) (as := [aR 11 k0, aI ((11 : Int32)), aI v2]) (rest := []) tc_41 rfl rfl rfl rfl rfl (by omega) (by omega) (Nat.le_of_ble_eq_true rfl) rfl (hR_Rd_readJoined _ k0 ((11 : Int32)) v2 _ h) (fun r9 M2 h => ?_)
    obtain ⟨x2, rfl, h⟩ := h
    show Gd d w 41 _ (13, [some (aR 11 k0), some (aI v1), some (aI v2), none, none, none, none, none, none], [aI x2], M2)
    refine gd_s (P := True ∧ True) (σ1 := (21, [some (aR 11 k0), some (aI v1), some (aI v2), none, none, none, none, none, none], [aI x2], M2)) tc_41 rfl 1 (fun u => ⟨_, rfl⟩) ⟨trivial, trivial⟩ ?_
    exact g_Rd_readJoined_J21 hd hw hR_Rd_readJoined hR_Rd_readPart hR_Rd_readNot hR_Rd_readBracket k0 v1 v2 x2 none none none none none none M2 h
def S_Rd : Nat → ((Int32 → aM → Prop) → Nat → Int32 → Int32 → aM → Prop) × ((Int32 → aM → Prop) → Nat → Int32 → aM → Prop) × ((Int32 → aM → Prop) → Nat → Int32 → aM → Prop) × ((Int32 → aM → Prop) → Nat → Int32 → aM → Prop)
  | 0 => (fun _ _ _ _ _ => False, fun _ _ _ _ => False, fun _ _ _ _ => False, fun _ _ _ _ => False)
  | D + 1 => (w_Rd_readJoined_r ((S_Rd D).1) ((S_Rd D).2.1) ((S_Rd D).2.2.1) ((S_Rd D).2.2.2), w_Rd_readPart_r ((S_Rd D).1) ((S_Rd D).2.1) ((S_Rd D).2.2.1) ((S_Rd D).2.2.2), w_Rd_readNot_r ((S_Rd D).1) ((S_Rd D).2.1) ((S_Rd D).2.2.1) ((S_Rd D).2.2.2), w_Rd_readBracket_r ((S_Rd D).1) ((S_Rd D).2.1) ((S_Rd D).2.2.1) ((S_Rd D).2.2.2))
theorem gS_Rd : ∀ (D d w : Nat), 3 + D ≤ d → 70 + D * 28 ≤ w → (∀ (post : Int32 → aM → Prop) (k0 : Nat) (v1 : Int32) (v2 : Int32) (M : aM), (S_Rd D).1 post k0 v1 v2 M → Gd d w 41 (pI post) (0, aEnt 41 [aR 11 k0, aI v1, aI v2], [], M)) ∧ (∀ (post : Int32 → aM → Prop) (k0 : Nat) (v1 : Int32) (M : aM), (S_Rd D).2.1 post k0 v1 M → Gd d w 42 (pI post) (0, aEnt 42 [aR 11 k0, aI v1], [], M)) ∧ (∀ (post : Int32 → aM → Prop) (k0 : Nat) (v1 : Int32) (M : aM), (S_Rd D).2.2.1 post k0 v1 M → Gd d w 43 (pI post) (0, aEnt 43 [aR 11 k0, aI v1], [], M)) ∧ (∀ (post : Int32 → aM → Prop) (k0 : Nat) (v1 : Int32) (M : aM), (S_Rd D).2.2.2 post k0 v1 M → Gd d w 45 (pI post) (0, aEnt 45 [aR 11 k0, aI v1], [], M)) := by
  intro D
  induction D with
  | zero =>
    intro d w hd hw
    exact ⟨fun post k0 v1 v2 M h => h.elim, fun post k0 v1 M h => h.elim, fun post k0 v1 M h => h.elim, fun post k0 v1 M h => h.elim⟩
  | succ D ih =>
    intro d w hd hw
    have ih41 := ih (d - 1) (w - (9 + 19)) (by omega) (by omega)
    have ih42 := ih (d - 1) (w - (3 + 19)) (by omega) (by omega)
    have ih43 := ih (d - 1) (w - (3 + 19)) (by omega) (by omega)
    have ih45 := ih (d - 1) (w - (3 + 19)) (by omega) (by omega)
    exact ⟨fun post k0 v1 v2 M h => g_Rd_readJoined_r (by omega) (by omega) ih41.1 ih42.2.1 ih43.2.2.1 ih45.2.2.2 h, fun post k0 v1 M h => g_Rd_readPart_r (by omega) (by omega) ih41.1 ih42.2.1 ih43.2.2.1 ih45.2.2.2 h, fun post k0 v1 M h => g_Rd_readNot_r (by omega) (by omega) ih41.1 ih42.2.1 ih43.2.2.1 ih45.2.2.2 h, fun post k0 v1 M h => g_Rd_readBracket_r (by omega) (by omega) ih41.1 ih42.2.1 ih43.2.2.1 ih45.2.2.2 h⟩
/-- PolicyJudge$Reader.readJoined(II)I, to depth D -/
def w_Rd_readJoined (D : Nat) (post : Int32 → aM → Prop) (k0 : Nat) (v1 : Int32) (v2 : Int32) (M : aM) : Prop := (S_Rd D).1 post k0 v1 v2 M
theorem g_Rd_readJoined {D d w : Nat} (hd : 3 + D ≤ d) (hw : 70 + D * 28 ≤ w) {post : Int32 → aM → Prop} {k0 : Nat} {v1 : Int32} {v2 : Int32} {M : aM} (h : w_Rd_readJoined D post k0 v1 v2 M) : Gd d w 41 (pI post) (0, aEnt 41 [aR 11 k0, aI v1, aI v2], [], M) := (gS_Rd D d w hd hw).1 _ _ _ _ _ h
/-- PolicyJudge$Reader.readPart(I)I, to depth D -/
def w_Rd_readPart (D : Nat) (post : Int32 → aM → Prop) (k0 : Nat) (v1 : Int32) (M : aM) : Prop := (S_Rd D).2.1 post k0 v1 M
theorem g_Rd_readPart {D d w : Nat} (hd : 3 + D ≤ d) (hw : 70 + D * 28 ≤ w) {post : Int32 → aM → Prop} {k0 : Nat} {v1 : Int32} {M : aM} (h : w_Rd_readPart D post k0 v1 M) : Gd d w 42 (pI post) (0, aEnt 42 [aR 11 k0, aI v1], [], M) := (gS_Rd D d w hd hw).2.1 _ _ _ _ h
/-- PolicyJudge$Reader.readNot(I)I, to depth D -/
def w_Rd_readNot (D : Nat) (post : Int32 → aM → Prop) (k0 : Nat) (v1 : Int32) (M : aM) : Prop := (S_Rd D).2.2.1 post k0 v1 M
theorem g_Rd_readNot {D d w : Nat} (hd : 3 + D ≤ d) (hw : 70 + D * 28 ≤ w) {post : Int32 → aM → Prop} {k0 : Nat} {v1 : Int32} {M : aM} (h : w_Rd_readNot D post k0 v1 M) : Gd d w 43 (pI post) (0, aEnt 43 [aR 11 k0, aI v1], [], M) := (gS_Rd D d w hd hw).2.2.1 _ _ _ _ h
/-- PolicyJudge$Reader.readBracket(I)I, to depth D -/
def w_Rd_readBracket (D : Nat) (post : Int32 → aM → Prop) (k0 : Nat) (v1 : Int32) (M : aM) : Prop := (S_Rd D).2.2.2 post k0 v1 M
theorem g_Rd_readBracket {D d w : Nat} (hd : 3 + D ≤ d) (hw : 70 + D * 28 ≤ w) {post : Int32 → aM → Prop} {k0 : Nat} {v1 : Int32} {M : aM} (h : w_Rd_readBracket D post k0 v1 M) : Gd d w 45 (pI post) (0, aEnt 45 [aR 11 k0, aI v1], [], M) := (gS_Rd D d w hd hw).2.2.2 _ _ _ _ h
