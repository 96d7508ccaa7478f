set_option maxRecDepth 100000
/-! Mirrors, on. -/
theorem tc_201 : tC 201 = c201 := rfl
def w_Mo_duty_J31 (post : Int32 → aM → Prop) (k0 : Nat) (v1 : Int32) (v2 : Int32) (t0 : Nat) (s1 : Int32) (M : aM) : Prop := w_Mo_goes (fun x1 M1 => ((¬ x1 = ((0 : Int32))) → ((¬ v2 = ((-1 : Int32))) → (vp_in v1 (rK M1 (k0 + 38)).2) ∧ (w_Mo_in (fun x2 => w_Mo_goes (fun x3 M3 => ((x3 = ((0 : Int32))) → post ((0 : Int32)) M3) ∧ (¬ (x3 = ((0 : Int32))) → (vp_in ((((100 : Int32)) * v1) + v2) (rK M3 (k0 + 39)).2) ∧ post (rI M3 (k0 + 39) ((((100 : Int32)) * v1) + v2).toNatClampNeg) M3)) k0 x2 M1) v2 ((0 : Int32)) ((rI M1 (k0 + 38) v1.toNatClampNeg) - ((1 : Int32))) M1)) ∧ (¬ (¬ v2 = ((-1 : Int32))) → (vp_in v1 (rK M1 (k0 + 38)).2) ∧ post (rI M1 (k0 + 38) v1.toNatClampNeg) M1)) ∧ (¬ (¬ x1 = ((0 : Int32))) → post ((0 : Int32)) M1)) t0 s1 M
theorem g_Mo_duty_J31 {d w : Nat} (hd : 2 ≤ d) (hw : 42 ≤ w) {post : Int32 → aM → Prop} (k0 : Nat) (v1 : Int32) (v2 : Int32) (t0 : Nat) (s1 : Int32) (M : aM) (h : w_Mo_duty_J31 post k0 v1 v2 t0 s1 M) : Gd d w 201 (pI post) (31, [some (aR 21 k0), some (aI v1), some (aI v2)], [aI s1, aR 21 t0], M) := by
  unfold w_Mo_duty_J31 at h
  show Gd d w 201 _ (31, [some (aR 21 k0), some (aI v1), some (aI v2)], [aI s1, aR 21 t0], M)
  refine gd_callN (ml := 2) (as := [aR 21 t0, aI s1]) (rest := []) tc_201 rfl rfl rfl rfl rfl (by omega) (by omega) (Nat.le_of_ble_eq_true rfl) rfl (g_Mo_goes (by omega) (by omega) h) (fun r9 M1 h => ?_)
  obtain ⟨x1, rfl, h⟩ := h
  show Gd d w 201 _ (34, [some (aR 21 k0), some (aI v1), some (aI v2)], [aI x1], M1)
  refine gd_br (c := ¬ x1 = ((0 : Int32))) (st1 := []) tc_201 rfl rfl (fun _ => rfl) ⟨fun hc => ?_, fun hc => ?_⟩
  · have h := h.1 hc
    show Gd d w 201 _ (39, [some (aR 21 k0), some (aI v1), some (aI v2)], [], M1)
    refine gd_s (P := True ∧ True ∧ True) (σ1 := (41, [some (aR 21 k0), some (aI v1), some (aI v2)], [aI ((-1 : Int32)), aI v2], M1)) tc_201 rfl 2 (fun u => ⟨_, rfl⟩) ⟨trivial, trivial, trivial⟩ ?_
    refine gd_br (c := ¬ v2 = ((-1 : Int32))) (st1 := []) tc_201 rfl rfl (fun _ => rfl) ⟨fun hc => ?_, fun hc => ?_⟩
    · have h := h.1 hc
      show Gd d w 201 _ (51, [some (aR 21 k0), some (aI v1), some (aI v2)], [], M1)
      obtain ⟨c0, h⟩ := h
      refine gd_s (P := True ∧ True ∧ True ∧ True ∧ True ∧ True ∧ (vp_in v1 (rK M1 (k0 + 38)).2) ∧ True ∧ True ∧ True) (σ1 := (62, [some (aR 21 k0), some (aI v1), some (aI v2)], [aI ((rI M1 (k0 + 38) v1.toNatClampNeg) - ((1 : Int32))), aI ((0 : Int32)), aI v2, aR 21 k0], M1)) tc_201 rfl 9 (fun u => ⟨_, rfl⟩) ⟨trivial, trivial, trivial, trivial, trivial, trivial, c0, trivial, trivial, trivial⟩ ?_
      refine gd_callN (ml := 3) (as := [aI v2, aI ((0 : Int32)), aI ((rI M1 (k0 + 38) v1.toNatClampNeg) - ((1 : Int32)))]) (rest := [aR 21 k0]) tc_201 rfl rfl rfl rfl rfl (by omega) (by omega) (Nat.le_of_ble_eq_true rfl) rfl (g_Mo_in (by omega) (by omega) h) (fun r9 M9 h => ?_)
      obtain ⟨x2, rfl, e9, h⟩ := h
      subst M9
      show Gd d w 201 _ (65, [some (aR 21 k0), some (aI v1), some (aI v2)], [aI x2, aR 21 k0], M1)
      refine gd_callN (ml := 2) (as := [aR 21 k0, aI x2]) (rest := []) tc_201 rfl rfl rfl rfl rfl (by omega) (by omega) (Nat.le_of_ble_eq_true rfl) rfl (g_Mo_goes (by omega) (by omega) h) (fun r9 M3 h => ?_)
      obtain ⟨x3, rfl, h⟩ := h
      show Gd d w 201 _ (68, [some (aR 21 k0), some (aI v1), some (aI v2)], [aI x3], M3)
      refine gd_br (c := x3 = ((0 : Int32))) (st1 := []) tc_201 rfl rfl (fun _ => rfl) ⟨fun hc => ?_, fun hc => ?_⟩
      · have h := h.1 hc
        show Gd d w 201 _ (85, [some (aR 21 k0), some (aI v1), some (aI v2)], [], M3)
        refine gd_s (P := True ∧ True) (σ1 := (86, [some (aR 21 k0), some (aI v1), some (aI v2)], [aI ((0 : Int32))], M3)) tc_201 rfl 1 (fun u => ⟨_, rfl⟩) ⟨trivial, trivial⟩ ?_
        exact gd_ret tc_201 rfl rfl trivial (fun _ => rfl) ⟨_, rfl, h⟩
      · have h := h.2 hc
        show Gd d w 201 _ (71, [some (aR 21 k0), some (aI v1), some (aI v2)], [], M3)
        obtain ⟨c0, h⟩ := h
        refine gd_s (P := True ∧ True ∧ True ∧ True ∧ True ∧ True ∧ True ∧ (vp_in ((((100 : Int32)) * v1) + v2) (rK M3 (k0 + 39)).2) ∧ True ∧ True) (σ1 := (86, [some (aR 21 k0), some (aI v1), some (aI v2)], [aI (rI M3 (k0 + 39) ((((100 : Int32)) * v1) + v2).toNatClampNeg)], M3)) tc_201 rfl 9 (fun u => ⟨_, rfl⟩) ⟨trivial, trivial, trivial, trivial, trivial, trivial, trivial, c0, trivial, trivial⟩ ?_
        exact gd_ret tc_201 rfl rfl trivial (fun _ => rfl) ⟨_, rfl, h⟩
    · have h := h.2 hc
      show Gd d w 201 _ (44, [some (aR 21 k0), some (aI v1), some (aI v2)], [], M1)
      obtain ⟨c0, h⟩ := h
      refine gd_s (P := True ∧ True ∧ True ∧ (vp_in v1 (rK M1 (k0 + 38)).2) ∧ True) (σ1 := (50, [some (aR 21 k0), some (aI v1), some (aI v2)], [aI (rI M1 (k0 + 38) v1.toNatClampNeg)], M1)) tc_201 rfl 4 (fun u => ⟨_, rfl⟩) ⟨trivial, trivial, trivial, c0, trivial⟩ ?_
      exact gd_ret tc_201 rfl rfl trivial (fun _ => rfl) ⟨_, rfl, h⟩
  · have h := h.2 hc
    show Gd d w 201 _ (37, [some (aR 21 k0), some (aI v1), some (aI v2)], [], M1)
    refine gd_s (P := True ∧ True) (σ1 := (38, [some (aR 21 k0), some (aI v1), some (aI v2)], [aI ((0 : Int32))], M1)) tc_201 rfl 1 (fun u => ⟨_, rfl⟩) ⟨trivial, trivial⟩ ?_
    exact gd_ret tc_201 rfl rfl trivial (fun _ => rfl) ⟨_, rfl, h⟩
def w_Mo_duty_J30 (post : Int32 → aM → Prop) (k0 : Nat) (v1 : Int32) (v2 : Int32) (t0 : Nat) (M : aM) : Prop := w_Mo_duty_J31 post k0 v1 v2 t0 ((0 : Int32)) M
theorem g_Mo_duty_J30 {d w : Nat} (hd : 2 ≤ d) (hw : 42 ≤ w) {post : Int32 → aM → Prop} (k0 : Nat) (v1 : Int32) (v2 : Int32) (t0 : Nat) (M : aM) (h : w_Mo_duty_J30 post k0 v1 v2 t0 M) : Gd d w 201 (pI post) (30, [some (aR 21 k0), some (aI v1), some (aI v2)], [aR 21 t0], M) := by
  unfold w_Mo_duty_J30 at h
  show Gd d w 201 _ (30, [some (aR 21 k0), some (aI v1), some (aI v2)], [aR 21 t0], M)
  refine gd_s (P := True ∧ True) (σ1 := (31, [some (aR 21 k0), some (aI v1), some (aI v2)], [aI ((0 : Int32)), aR 21 t0], M)) tc_201 rfl 1 (fun u => ⟨_, rfl⟩) ⟨trivial, trivial⟩ ?_
  exact g_Mo_duty_J31 hd hw k0 v1 v2 t0 ((0 : Int32)) M h
/-- PolicyJudgeModel.duty(II)I -/
def w_Mo_duty (post : Int32 → aM → Prop) (k0 : Nat) (v1 : Int32) (v2 : Int32) (M : aM) : Prop := w_Mo_isText (fun x1 => ((x1 = ((0 : Int32))) → w_Mo_duty_J30 post k0 v1 v2 k0 M) ∧ (¬ (x1 = ((0 : Int32))) → (vp_in v1 (rK M (k0 + 2)).2) ∧ ((((rI M (k0 + 2) v1.toNatClampNeg) = ((0 : Int32))) → w_Mo_duty_J30 post k0 v1 v2 k0 M) ∧ (¬ ((rI M (k0 + 2) v1.toNatClampNeg) = ((0 : Int32))) → (vp_in v1 (rK M (k0 + 28)).2) ∧ ((((rI M (k0 + 28) v1.toNatClampNeg) = ((0 : Int32))) → w_Mo_duty_J30 post k0 v1 v2 k0 M) ∧ (¬ ((rI M (k0 + 28) v1.toNatClampNeg) = ((0 : Int32))) → w_Mo_duty_J31 post k0 v1 v2 k0 ((1 : Int32)) M)))))) v1 M
theorem g_Mo_duty {d w : Nat} (hd : 2 ≤ d) (hw : 42 ≤ w) {post : Int32 → aM → Prop} {k0 : Nat} {v1 : Int32} {v2 : Int32} {M : aM} (h : w_Mo_duty post k0 v1 v2 M) : Gd d w 201 (pI post) (0, aEnt 201 [aR 21 k0, aI v1, aI v2], [], M) := by
  unfold w_Mo_duty at h
  show Gd d w 201 _ (0, [some (aR 21 k0), some (aI v1), some (aI v2)], [], M)
  refine gd_s (P := True ∧ True ∧ True) (σ1 := (2, [some (aR 21 k0), some (aI v1), some (aI v2)], [aI v1, aR 21 k0], M)) tc_201 rfl 2 (fun u => ⟨_, rfl⟩) ⟨trivial, trivial, trivial⟩ ?_
  refine gd_callN (ml := 1) (as := [aI v1]) (rest := [aR 21 k0]) tc_201 rfl rfl rfl rfl rfl (by omega) (by omega) (Nat.le_of_ble_eq_true rfl) rfl (g_Mo_isText (by omega) (by omega) h) (fun r9 M9 h => ?_)
  obtain ⟨x1, rfl, e9, h⟩ := h
  subst M9
  show Gd d w 201 _ (5, [some (aR 21 k0), some (aI v1), some (aI v2)], [aI x1, aR 21 k0], M)
  refine gd_br (c := x1 = ((0 : Int32))) (st1 := [aR 21 k0]) tc_201 rfl rfl (fun _ => rfl) ⟨fun hc => ?_, fun hc => ?_⟩
  · have h := h.1 hc
    exact g_Mo_duty_J30 hd hw k0 v1 v2 k0 M h
  · have h := h.2 hc
    show Gd d w 201 _ (8, [some (aR 21 k0), some (aI v1), some (aI v2)], [aR 21 k0], M)
    obtain ⟨c0, h⟩ := h
    refine gd_s (P := True ∧ True ∧ True ∧ (vp_in v1 (rK M (k0 + 2)).2) ∧ True) (σ1 := (14, [some (aR 21 k0), some (aI v1), some (aI v2)], [aI (rI M (k0 + 2) v1.toNatClampNeg), aR 21 k0], M)) tc_201 rfl 4 (fun u => ⟨_, rfl⟩) ⟨trivial, trivial, trivial, c0, trivial⟩ ?_
    refine gd_br (c := (rI M (k0 + 2) v1.toNatClampNeg) = ((0 : Int32))) (st1 := [aR 21 k0]) tc_201 rfl rfl (fun _ => rfl) ⟨fun hc => ?_, fun hc => ?_⟩
    · have h := h.1 hc
      exact g_Mo_duty_J30 hd hw k0 v1 v2 k0 M h
    · have h := h.2 hc
      show Gd d w 201 _ (17, [some (aR 21 k0), some (aI v1), some (aI v2)], [aR 21 k0], M)
      obtain ⟨c0, h⟩ := h
      refine gd_s (P := True ∧ True ∧ True ∧ (vp_in v1 (rK M (k0 + 28)).2) ∧ True) (σ1 := (23, [some (aR 21 k0), some (aI v1), some (aI v2)], [aI (rI M (k0 + 28) v1.toNatClampNeg), aR 21 k0], M)) tc_201 rfl 4 (fun u => ⟨_, rfl⟩) ⟨trivial, trivial, trivial, c0, trivial⟩ ?_
      refine gd_br (c := (rI M (k0 + 28) v1.toNatClampNeg) = ((0 : Int32))) (st1 := [aR 21 k0]) tc_201 rfl rfl (fun _ => rfl) ⟨fun hc => ?_, fun hc => ?_⟩
      · have h := h.1 hc
        exact g_Mo_duty_J30 hd hw k0 v1 v2 k0 M h
      · have h := h.2 hc
        show Gd d w 201 _ (26, [some (aR 21 k0), some (aI v1), some (aI v2)], [aR 21 k0], M)
        refine gd_s (P := True ∧ True ∧ True) (σ1 := (31, [some (aR 21 k0), some (aI v1), some (aI v2)], [aI ((1 : Int32)), aR 21 k0], M)) tc_201 rfl 2 (fun u => ⟨_, rfl⟩) ⟨trivial, trivial, trivial⟩ ?_
        exact g_Mo_duty_J31 hd hw k0 v1 v2 k0 ((1 : Int32)) M h
theorem tc_203 : tC 203 = c203 := rfl
def w_Mo_findFellows_J158 (post : Int32 → aM → Prop) (K23 : Nat → Int32 → Int32 → aM → Prop) (K46 : Nat → Int32 → Int32 → aM → Prop) (k0 : Nat) (v2 : Int32) (v3 : Int32) (v6 : Int32) (M : aM) : Prop := ((v6 = ((0 : Int32))) → (vp_in v2 (rK M (k0 + 46)).2) ∧ (vp_in v2 (rK M (k0 + 46)).2) ∧ (K46 k0 v2 (v3 + (1 : Int32)) (wI M (k0 + 46) v2.toNatClampNeg (rI M (k0 + 46) v2.toNatClampNeg)))) ∧ (¬ (v6 = ((0 : Int32))) → (vp_in v2 (rK M (k0 + 46)).2) ∧ (K46 k0 v2 (v3 + (1 : Int32)) (wI M (k0 + 46) v2.toNatClampNeg v3)))
theorem g_Mo_findFellows_J158 {d w : Nat} (hd : 1 ≤ d) (hw : 22 ≤ w) {post : Int32 → aM → Prop} {K23 : Nat → Int32 → Int32 → aM → Prop} {K46 : Nat → Int32 → Int32 → aM → Prop} (hK23 : ∀ (k0 : Nat) (v1 : Int32) (v2 : Int32) (o3 o4 o5 o6 o7 : Option aV) (M : aM), K23 k0 v1 v2 M → Gd d w 203 (pI post) (23, [some (aR 21 k0), some (aI v1), some (aI v2), o3, o4, o5, o6, o7], [], M)) (hK46 : ∀ (k0 : Nat) (v2 : Int32) (v3 : Int32) (o1 o4 o5 o6 o7 : Option aV) (M : aM), K46 k0 v2 v3 M → Gd d w 203 (pI post) (46, [some (aR 21 k0), o1, some (aI v2), some (aI v3), o4, o5, o6, o7], [], M)) (k0 : Nat) (v2 : Int32) (v3 : Int32) (v6 : Int32) (o1 o4 o5 o7 : Option aV) (M : aM) (h : w_Mo_findFellows_J158 post K23 K46 k0 v2 v3 v6 M) : Gd d w 203 (pI post) (158, [some (aR 21 k0), o1, some (aI v2), some (aI v3), o4, o5, some (aI v6), o7], [], M) := by
  unfold w_Mo_findFellows_J158 at h
  show Gd d w 203 _ (158, [some (aR 21 k0), o1, some (aI v2), some (aI v3), o4, o5, some (aI v6), o7], [], M)
  refine gd_s (P := True ∧ True ∧ True ∧ True ∧ True) (σ1 := (165, [some (aR 21 k0), o1, some (aI v2), some (aI v3), o4, o5, some (aI v6), o7], [aI v6, aI v2, aR 4 (k0 + 46)], M)) tc_203 rfl 4 (fun u => ⟨_, rfl⟩) ⟨trivial, trivial, trivial, trivial, trivial⟩ ?_
  refine gd_br (c := v6 = ((0 : Int32))) (st1 := [aI v2, aR 4 (k0 + 46)]) tc_203 rfl rfl (fun _ => rfl) ⟨fun hc => ?_, fun hc => ?_⟩
  · have h := h.1 hc
    show Gd d w 203 _ (172, [some (aR 21 k0), o1, some (aI v2), some (aI v3), o4, o5, some (aI v6), o7], [aI v2, aR 4 (k0 + 46)], M)
    obtain ⟨c0, c1, h⟩ := h
    refine gd_s (P := True ∧ True ∧ True ∧ (vp_in v2 (rK M (k0 + 46)).2) ∧ (vp_in v2 (rK M (k0 + 46)).2) ∧ True ∧ True ∧ True) (σ1 := (46, [some (aR 21 k0), o1, some (aI v2), some (aI (v3 + (1 : Int32))), o4, o5, some (aI v6), o7], [], wI M (k0 + 46) v2.toNatClampNeg (rI M (k0 + 46) v2.toNatClampNeg))) tc_203 rfl 7 (fun u => ⟨_, rfl⟩) ⟨trivial, trivial, trivial, c0, c1, trivial, trivial, trivial⟩ ?_
    exact hK46 k0 v2 (v3 + (1 : Int32)) o1 o4 o5 (some (aI v6)) o7 (wI M (k0 + 46) v2.toNatClampNeg (rI M (k0 + 46) v2.toNatClampNeg)) h
  · have h := h.2 hc
    show Gd d w 203 _ (168, [some (aR 21 k0), o1, some (aI v2), some (aI v3), o4, o5, some (aI v6), o7], [aI v2, aR 4 (k0 + 46)], M)
    obtain ⟨c0, h⟩ := h
    refine gd_s (P := True ∧ True ∧ (vp_in v2 (rK M (k0 + 46)).2) ∧ True ∧ True ∧ True) (σ1 := (46, [some (aR 21 k0), o1, some (aI v2), some (aI (v3 + (1 : Int32))), o4, o5, some (aI v6), o7], [], wI M (k0 + 46) v2.toNatClampNeg v3)) tc_203 rfl 5 (fun u => ⟨_, rfl⟩) ⟨trivial, trivial, c0, trivial, trivial, trivial⟩ ?_
    exact hK46 k0 v2 (v3 + (1 : Int32)) o1 o4 o5 (some (aI v6)) o7 (wI M (k0 + 46) v2.toNatClampNeg v3) h
def w_Mo_findFellows_L99 (post : Int32 → aM → Prop) (K23 : Nat → Int32 → Int32 → aM → Prop) (K46 : Nat → Int32 → Int32 → aM → Prop) : Nat → Nat → Int32 → Int32 → Int32 → Int32 → Int32 → Int32 → aM → Prop
  | 0, _, _, _, _, _, _, _, _ => False
  | n + 1, k0, v2, v3, v4, v5, v6, v7, M => (vp_in v4 (rK M (k0 + 8)).2) ∧ ((((rI M (k0 + 8) v4.toNatClampNeg) ≤ v7) → w_Mo_findFellows_J158 post K23 K46 k0 v2 v3 v6 M) ∧ (¬ ((rI M (k0 + 8) v4.toNatClampNeg) ≤ v7) → ((v6 = ((0 : Int32))) → w_Mo_findFellows_J158 post K23 K46 k0 v2 v3 v6 M) ∧ (¬ (v6 = ((0 : Int32))) → (vp_in ((((12 : Int32)) * v4) + v7) (rK M (k0 + 9)).2) ∧ (vp_in ((((12 : Int32)) * v5) + v7) (rK M (k0 + 9)).2) ∧ (((¬ (rI M (k0 + 9) ((((12 : Int32)) * v4) + v7).toNatClampNeg) = (rI M (k0 + 9) ((((12 : Int32)) * v5) + v7).toNatClampNeg)) → w_Mo_findFellows_L99 post K23 K46 n k0 v2 v3 v4 v5 ((0 : Int32)) (v7 + (1 : Int32)) M) ∧ (¬ (¬ (rI M (k0 + 9) ((((12 : Int32)) * v4) + v7).toNatClampNeg) = (rI M (k0 + 9) ((((12 : Int32)) * v5) + v7).toNatClampNeg)) → w_Mo_findFellows_L99 post K23 K46 n k0 v2 v3 v4 v5 ((1 : Int32)) (v7 + (1 : Int32)) M)))))
theorem g_Mo_findFellows_L99 {d w : Nat} (hd : 1 ≤ d) (hw : 22 ≤ w) {post : Int32 → aM → Prop} {K23 : Nat → Int32 → Int32 → aM → Prop} {K46 : Nat → Int32 → Int32 → aM → Prop} (hK23 : ∀ (k0 : Nat) (v1 : Int32) (v2 : Int32) (o3 o4 o5 o6 o7 : Option aV) (M : aM), K23 k0 v1 v2 M → Gd d w 203 (pI post) (23, [some (aR 21 k0), some (aI v1), some (aI v2), o3, o4, o5, o6, o7], [], M)) (hK46 : ∀ (k0 : Nat) (v2 : Int32) (v3 : Int32) (o1 o4 o5 o6 o7 : Option aV) (M : aM), K46 k0 v2 v3 M → Gd d w 203 (pI post) (46, [some (aR 21 k0), o1, some (aI v2), some (aI v3), o4, o5, o6, o7], [], M)) : ∀ (n : Nat) (k0 : Nat) (v2 : Int32) (v3 : Int32) (v4 : Int32) (v5 : Int32) (v6 : Int32) (v7 : Int32) (o1 : Option aV) (M : aM), w_Mo_findFellows_L99 post K23 K46 n k0 v2 v3 v4 v5 v6 v7 M → Gd d w 203 (pI post) (99, [some (aR 21 k0), o1, some (aI v2), some (aI v3), some (aI v4), some (aI v5), some (aI v6), some (aI v7)], [], M) := by
  intro n
  induction n with
  | zero => intro k0 v2 v3 v4 v5 v6 v7 o1 M h; exact h.elim
  | succ n ih =>
    intro k0 v2 v3 v4 v5 v6 v7 o1 M h
    show Gd d w 203 _ (99, [some (aR 21 k0), o1, some (aI v2), some (aI v3), some (aI v4), some (aI v5), some (aI v6), some (aI v7)], [], M)
    obtain ⟨c0, h⟩ := h
    refine gd_s (P := True ∧ True ∧ True ∧ True ∧ (vp_in v4 (rK M (k0 + 8)).2) ∧ True) (σ1 := (108, [some (aR 21 k0), o1, some (aI v2), some (aI v3), some (aI v4), some (aI v5), some (aI v6), some (aI v7)], [aI (rI M (k0 + 8) v4.toNatClampNeg), aI v7], M)) tc_203 rfl 5 (fun u => ⟨_, rfl⟩) ⟨trivial, trivial, trivial, trivial, c0, trivial⟩ ?_
    refine gd_br (c := (rI M (k0 + 8) v4.toNatClampNeg) ≤ v7) (st1 := []) tc_203 rfl rfl (fun _ => rfl) ⟨fun hc => ?_, fun hc => ?_⟩
    · have h := h.1 hc
      exact g_Mo_findFellows_J158 hd hw hK23 hK46 k0 v2 v3 v6 o1 (some (aI v4)) (some (aI v5)) (some (aI v7)) M h
    · have h := h.2 hc
      show Gd d w 203 _ (111, [some (aR 21 k0), o1, some (aI v2), some (aI v3), some (aI v4), some (aI v5), some (aI v6), some (aI v7)], [], M)
      refine gd_s (P := True ∧ True) (σ1 := (113, [some (aR 21 k0), o1, some (aI v2), some (aI v3), some (aI v4), some (aI v5), some (aI v6), some (aI v7)], [aI v6], M)) tc_203 rfl 1 (fun u => ⟨_, rfl⟩) ⟨trivial, trivial⟩ ?_
      refine gd_br (c := v6 = ((0 : Int32))) (st1 := []) tc_203 rfl rfl (fun _ => rfl) ⟨fun hc => ?_, fun hc => ?_⟩
      · have h := h.1 hc
        exact g_Mo_findFellows_J158 hd hw hK23 hK46 k0 v2 v3 v6 o1 (some (aI v4)) (some (aI v5)) (some (aI v7)) M h
      · have h := h.2 hc
        show Gd d w 203 _ (116, [some (aR 21 k0), o1, some (aI v2), some (aI v3), some (aI v4), some (aI v5), some (aI v6), some (aI v7)], [], M)
        obtain ⟨c0, c1, h⟩ := h
        refine gd_s (P := True ∧ True ∧ True ∧ True ∧ True ∧ True ∧ True ∧ (vp_in ((((12 : Int32)) * v4) + v7) (rK M (k0 + 9)).2) ∧ True ∧ True ∧ True ∧ True ∧ True ∧ True ∧ True ∧ (vp_in ((((12 : Int32)) * v5) + v7) (rK M (k0 + 9)).2) ∧ True) (σ1 := (142, [some (aR 21 k0), o1, some (aI v2), some (aI v3), some (aI v4), some (aI v5), some (aI v6), some (aI v7)], [aI (rI M (k0 + 9) ((((12 : Int32)) * v5) + v7).toNatClampNeg), aI (rI M (k0 + 9) ((((12 : Int32)) * v4) + v7).toNatClampNeg)], M)) tc_203 rfl 16 (fun u => ⟨_, rfl⟩) ⟨trivial, trivial, trivial, trivial, trivial, trivial, trivial, c0, trivial, trivial, trivial, trivial, trivial, trivial, trivial, c1, trivial⟩ ?_
        refine gd_br (c := ¬ (rI M (k0 + 9) ((((12 : Int32)) * v4) + v7).toNatClampNeg) = (rI M (k0 + 9) ((((12 : Int32)) * v5) + v7).toNatClampNeg)) (st1 := []) tc_203 rfl rfl (fun _ => rfl) ⟨fun hc => ?_, fun hc => ?_⟩
        · have h := h.1 hc
          show Gd d w 203 _ (149, [some (aR 21 k0), o1, some (aI v2), some (aI v3), some (aI v4), some (aI v5), some (aI v6), some (aI v7)], [], M)
          refine gd_s (P := True ∧ True ∧ True ∧ True ∧ True) (σ1 := (99, [some (aR 21 k0), o1, some (aI v2), some (aI v3), some (aI v4), some (aI v5), some (aI ((0 : Int32))), some (aI (v7 + (1 : Int32)))], [], M)) tc_203 rfl 4 (fun u => ⟨_, rfl⟩) ⟨trivial, trivial, trivial, trivial, trivial⟩ ?_
          exact ih k0 v2 v3 v4 v5 ((0 : Int32)) (v7 + (1 : Int32)) o1 M h
        · have h := h.2 hc
          show Gd d w 203 _ (145, [some (aR 21 k0), o1, some (aI v2), some (aI v3), some (aI v4), some (aI v5), some (aI v6), some (aI v7)], [], M)
          refine gd_s (P := True ∧ True ∧ True ∧ True ∧ True ∧ True) (σ1 := (99, [some (aR 21 k0), o1, some (aI v2), some (aI v3), some (aI v4), some (aI v5), some (aI ((1 : Int32))), some (aI (v7 + (1 : Int32)))], [], M)) tc_203 rfl 5 (fun u => ⟨_, rfl⟩) ⟨trivial, trivial, trivial, trivial, trivial, trivial⟩ ?_
          exact ih k0 v2 v3 v4 v5 ((1 : Int32)) (v7 + (1 : Int32)) o1 M h
def w_Mo_findFellows_L46 (post : Int32 → aM → Prop) (K23 : Nat → Int32 → Int32 → aM → Prop) : Nat → Nat → Int32 → Int32 → aM → Prop
  | 0, _, _, _, _ => False
  | n + 1, k0, v2, v3, M => (vp_in ((1 : Int32)) (rK M (k0 + 3)).2) ∧ ((((rI M (k0 + 3) ((1 : Int32)).toNatClampNeg) ≤ v3) → (vp_in v2 (rK M (k0 + 46)).2) ∧ (vp_in v2 (rK M (k0 + 46)).2) ∧ ((((rI M (k0 + 46) v2.toNatClampNeg) = ((-1 : Int32))) → K23 k0 ((0 : Int32)) (v2 + (1 : Int32)) M) ∧ (¬ ((rI M (k0 + 46) v2.toNatClampNeg) = ((-1 : Int32))) → (vp_in v2 (rK M (k0 + 4)).2) ∧ (vp_in (((8 : Int32)) + (rI M (k0 + 46) v2.toNatClampNeg)) (rK M (k0 + 4)).2) ∧ (((¬ (rI M (k0 + 4) v2.toNatClampNeg) = (rI M (k0 + 4) (((8 : Int32)) + (rI M (k0 + 46) v2.toNatClampNeg)).toNatClampNeg)) → K23 k0 ((0 : Int32)) (v2 + (1 : Int32)) M) ∧ (¬ (¬ (rI M (k0 + 4) v2.toNatClampNeg) = (rI M (k0 + 4) (((8 : Int32)) + (rI M (k0 + 46) v2.toNatClampNeg)).toNatClampNeg)) → (vp_in v2 (rK M (k0 + 5)).2) ∧ (vp_in (((8 : Int32)) + (rI M (k0 + 46) v2.toNatClampNeg)) (rK M (k0 + 5)).2) ∧ (((¬ (rI M (k0 + 5) v2.toNatClampNeg) = (rI M (k0 + 5) (((8 : Int32)) + (rI M (k0 + 46) v2.toNatClampNeg)).toNatClampNeg)) → K23 k0 ((0 : Int32)) (v2 + (1 : Int32)) M) ∧ (¬ (¬ (rI M (k0 + 5) v2.toNatClampNeg) = (rI M (k0 + 5) (((8 : Int32)) + (rI M (k0 + 46) v2.toNatClampNeg)).toNatClampNeg)) → (vp_in v2 (rK M (k0 + 6)).2) ∧ (vp_in (((8 : Int32)) + (rI M (k0 + 46) v2.toNatClampNeg)) (rK M (k0 + 6)).2) ∧ (((¬ (rI M (k0 + 6) v2.toNatClampNeg) = (rI M (k0 + 6) (((8 : Int32)) + (rI M (k0 + 46) v2.toNatClampNeg)).toNatClampNeg)) → K23 k0 ((0 : Int32)) (v2 + (1 : Int32)) M) ∧ (¬ (¬ (rI M (k0 + 6) v2.toNatClampNeg) = (rI M (k0 + 6) (((8 : Int32)) + (rI M (k0 + 46) v2.toNatClampNeg)).toNatClampNeg)) → K23 k0 ((1 : Int32)) (v2 + (1 : Int32)) M))))))))) ∧ (¬ ((rI M (k0 + 3) ((1 : Int32)).toNatClampNeg) ≤ v3) → w_Mo_nameOf (fun x1 => w_Mo_nameOf (fun x2 => (vp_in x1 (rK M (k0 + 8)).2) ∧ (vp_in x2 (rK M (k0 + 8)).2) ∧ (((¬ (rI M (k0 + 8) x1.toNatClampNeg) = (rI M (k0 + 8) x2.toNatClampNeg)) → ∃ n9, w_Mo_findFellows_L99 post K23 (w_Mo_findFellows_L46 post K23 n) n9 k0 v2 v3 x1 x2 ((0 : Int32)) ((0 : Int32)) M) ∧ (¬ (¬ (rI M (k0 + 8) x1.toNatClampNeg) = (rI M (k0 + 8) x2.toNatClampNeg)) → ∃ n9, w_Mo_findFellows_L99 post K23 (w_Mo_findFellows_L46 post K23 n) n9 k0 v2 v3 x1 x2 ((1 : Int32)) ((0 : Int32)) M))) ((1 : Int32)) ((0 : Int32)) v3 M) ((0 : Int32)) ((0 : Int32)) v2 M))
theorem g_Mo_findFellows_L46 {d w : Nat} (hd : 1 ≤ d) (hw : 22 ≤ w) {post : Int32 → aM → Prop} {K23 : Nat → Int32 → Int32 → aM → Prop} (hK23 : ∀ (k0 : Nat) (v1 : Int32) (v2 : Int32) (o3 o4 o5 o6 o7 : Option aV) (M : aM), K23 k0 v1 v2 M → Gd d w 203 (pI post) (23, [some (aR 21 k0), some (aI v1), some (aI v2), o3, o4, o5, o6, o7], [], M)) : ∀ (n : Nat) (k0 : Nat) (v2 : Int32) (v3 : Int32) (o1 o4 o5 o6 o7 : Option aV) (M : aM), w_Mo_findFellows_L46 post K23 n k0 v2 v3 M → Gd d w 203 (pI post) (46, [some (aR 21 k0), o1, some (aI v2), some (aI v3), o4, o5, o6, o7], [], M) := by
  intro n
  induction n with
  | zero => intro k0 v2 v3 o1 o4 o5 o6 o7 M h; exact h.elim
  | succ n ih =>
    intro k0 v2 v3 o1 o4 o5 o6 o7 M h
    show Gd d w 203 _ (46, [some (aR 21 k0), o1, some (aI v2), some (aI v3), o4, o5, o6, o7], [], M)
    obtain ⟨c0, h⟩ := h
    refine gd_s (P := True ∧ True ∧ True ∧ True ∧ (vp_in ((1 : Int32)) (rK M (k0 + 3)).2) ∧ True) (σ1 := (53, [some (aR 21 k0), o1, some (aI v2), some (aI v3), o4, o5, o6, o7], [aI (rI M (k0 + 3) ((1 : Int32)).toNatClampNeg), aI v3], M)) tc_203 rfl 5 (fun u => ⟨_, rfl⟩) ⟨trivial, trivial, trivial, trivial, c0, trivial⟩ ?_
    refine gd_br (c := (rI M (k0 + 3) ((1 : Int32)).toNatClampNeg) ≤ v3) (st1 := []) tc_203 rfl rfl (fun _ => rfl) ⟨fun hc => ?_, fun hc => ?_⟩
    · have h := h.1 hc
      show Gd d w 203 _ (185, [some (aR 21 k0), o1, some (aI v2), some (aI v3), o4, o5, o6, o7], [], M)
      obtain ⟨c0, c1, h⟩ := h
      refine gd_s (P := True ∧ True ∧ True ∧ True ∧ (vp_in v2 (rK M (k0 + 46)).2) ∧ True ∧ True ∧ True ∧ True ∧ True ∧ (vp_in v2 (rK M (k0 + 46)).2) ∧ True ∧ True) (σ1 := (202, [some (aR 21 k0), o1, some (aI v2), some (aI (((8 : Int32)) + (rI M (k0 + 46) v2.toNatClampNeg))), o4, o5, o6, o7], [aI ((-1 : Int32)), aI (rI M (k0 + 46) v2.toNatClampNeg)], M)) tc_203 rfl 12 (fun u => ⟨_, rfl⟩) ⟨trivial, trivial, trivial, trivial, c0, trivial, trivial, trivial, trivial, trivial, c1, trivial, trivial⟩ ?_
      refine gd_br (c := (rI M (k0 + 46) v2.toNatClampNeg) = ((-1 : Int32))) (st1 := []) tc_203 rfl rfl (fun _ => rfl) ⟨fun hc => ?_, fun hc => ?_⟩
      · have h := h.1 hc
        show Gd d w 203 _ (254, [some (aR 21 k0), o1, some (aI v2), some (aI (((8 : Int32)) + (rI M (k0 + 46) v2.toNatClampNeg))), o4, o5, o6, o7], [], M)
        refine gd_s (P := True ∧ True ∧ True ∧ True ∧ True) (σ1 := (23, [some (aR 21 k0), some (aI ((0 : Int32))), some (aI (v2 + (1 : Int32))), some (aI (((8 : Int32)) + (rI M (k0 + 46) v2.toNatClampNeg))), o4, o5, o6, o7], [], M)) tc_203 rfl 4 (fun u => ⟨_, rfl⟩) ⟨trivial, trivial, trivial, trivial, trivial⟩ ?_
        exact hK23 k0 ((0 : Int32)) (v2 + (1 : Int32)) (some (aI (((8 : Int32)) + (rI M (k0 + 46) v2.toNatClampNeg)))) o4 o5 o6 o7 M h
      · have h := h.2 hc
        show Gd d w 203 _ (205, [some (aR 21 k0), o1, some (aI v2), some (aI (((8 : Int32)) + (rI M (k0 + 46) v2.toNatClampNeg))), o4, o5, o6, o7], [], M)
        obtain ⟨c0, c1, h⟩ := h
        refine gd_s (P := True ∧ True ∧ True ∧ (vp_in v2 (rK M (k0 + 4)).2) ∧ True ∧ True ∧ True ∧ (vp_in (((8 : Int32)) + (rI M (k0 + 46) v2.toNatClampNeg)) (rK M (k0 + 4)).2) ∧ True) (σ1 := (217, [some (aR 21 k0), o1, some (aI v2), some (aI (((8 : Int32)) + (rI M (k0 + 46) v2.toNatClampNeg))), o4, o5, o6, o7], [aI (rI M (k0 + 4) (((8 : Int32)) + (rI M (k0 + 46) v2.toNatClampNeg)).toNatClampNeg), aI (rI M (k0 + 4) v2.toNatClampNeg)], M)) tc_203 rfl 8 (fun u => ⟨_, rfl⟩) ⟨trivial, trivial, trivial, c0, trivial, trivial, trivial, c1, trivial⟩ ?_
        refine gd_br (c := ¬ (rI M (k0 + 4) v2.toNatClampNeg) = (rI M (k0 + 4) (((8 : Int32)) + (rI M (k0 + 46) v2.toNatClampNeg)).toNatClampNeg)) (st1 := []) tc_203 rfl rfl (fun _ => rfl) ⟨fun hc => ?_, fun hc => ?_⟩
        · have h := h.1 hc
          show Gd d w 203 _ (254, [some (aR 21 k0), o1, some (aI v2), some (aI (((8 : Int32)) + (rI M (k0 + 46) v2.toNatClampNeg))), o4, o5, o6, o7], [], M)
          refine gd_s (P := True ∧ True ∧ True ∧ True ∧ True) (σ1 := (23, [some (aR 21 k0), some (aI ((0 : Int32))), some (aI (v2 + (1 : Int32))), some (aI (((8 : Int32)) + (rI M (k0 + 46) v2.toNatClampNeg))), o4, o5, o6, o7], [], M)) tc_203 rfl 4 (fun u => ⟨_, rfl⟩) ⟨trivial, trivial, trivial, trivial, trivial⟩ ?_
          exact hK23 k0 ((0 : Int32)) (v2 + (1 : Int32)) (some (aI (((8 : Int32)) + (rI M (k0 + 46) v2.toNatClampNeg)))) o4 o5 o6 o7 M h
        · have h := h.2 hc
          show Gd d w 203 _ (220, [some (aR 21 k0), o1, some (aI v2), some (aI (((8 : Int32)) + (rI M (k0 + 46) v2.toNatClampNeg))), o4, o5, o6, o7], [], M)
          obtain ⟨c0, c1, h⟩ := h
          refine gd_s (P := True ∧ True ∧ True ∧ (vp_in v2 (rK M (k0 + 5)).2) ∧ True ∧ True ∧ True ∧ (vp_in (((8 : Int32)) + (rI M (k0 + 46) v2.toNatClampNeg)) (rK M (k0 + 5)).2) ∧ True) (σ1 := (232, [some (aR 21 k0), o1, some (aI v2), some (aI (((8 : Int32)) + (rI M (k0 + 46) v2.toNatClampNeg))), o4, o5, o6, o7], [aI (rI M (k0 + 5) (((8 : Int32)) + (rI M (k0 + 46) v2.toNatClampNeg)).toNatClampNeg), aI (rI M (k0 + 5) v2.toNatClampNeg)], M)) tc_203 rfl 8 (fun u => ⟨_, rfl⟩) ⟨trivial, trivial, trivial, c0, trivial, trivial, trivial, c1, trivial⟩ ?_
          refine gd_br (c := ¬ (rI M (k0 + 5) v2.toNatClampNeg) = (rI M (k0 + 5) (((8 : Int32)) + (rI M (k0 + 46) v2.toNatClampNeg)).toNatClampNeg)) (st1 := []) tc_203 rfl rfl (fun _ => rfl) ⟨fun hc => ?_, fun hc => ?_⟩
          · have h := h.1 hc
            show Gd d w 203 _ (254, [some (aR 21 k0), o1, some (aI v2), some (aI (((8 : Int32)) + (rI M (k0 + 46) v2.toNatClampNeg))), o4, o5, o6, o7], [], M)
            refine gd_s (P := True ∧ True ∧ True ∧ True ∧ True) (σ1 := (23, [some (aR 21 k0), some (aI ((0 : Int32))), some (aI (v2 + (1 : Int32))), some (aI (((8 : Int32)) + (rI M (k0 + 46) v2.toNatClampNeg))), o4, o5, o6, o7], [], M)) tc_203 rfl 4 (fun u => ⟨_, rfl⟩) ⟨trivial, trivial, trivial, trivial, trivial⟩ ?_
            exact hK23 k0 ((0 : Int32)) (v2 + (1 : Int32)) (some (aI (((8 : Int32)) + (rI M (k0 + 46) v2.toNatClampNeg)))) o4 o5 o6 o7 M h
          · have h := h.2 hc
            show Gd d w 203 _ (235, [some (aR 21 k0), o1, some (aI v2), some (aI (((8 : Int32)) + (rI M (k0 + 46) v2.toNatClampNeg))), o4, o5, o6, o7], [], M)
            obtain ⟨c0, c1, h⟩ := h
            refine gd_s (P := True ∧ True ∧ True ∧ (vp_in v2 (rK M (k0 + 6)).2) ∧ True ∧ True ∧ True ∧ (vp_in (((8 : Int32)) + (rI M (k0 + 46) v2.toNatClampNeg)) (rK M (k0 + 6)).2) ∧ True) (σ1 := (247, [some (aR 21 k0), o1, some (aI v2), some (aI (((8 : Int32)) + (rI M (k0 + 46) v2.toNatClampNeg))), o4, o5, o6, o7], [aI (rI M (k0 + 6) (((8 : Int32)) + (rI M (k0 + 46) v2.toNatClampNeg)).toNatClampNeg), aI (rI M (k0 + 6) v2.toNatClampNeg)], M)) tc_203 rfl 8 (fun u => ⟨_, rfl⟩) ⟨trivial, trivial, trivial, c0, trivial, trivial, trivial, c1, trivial⟩ ?_
            refine gd_br (c := ¬ (rI M (k0 + 6) v2.toNatClampNeg) = (rI M (k0 + 6) (((8 : Int32)) + (rI M (k0 + 46) v2.toNatClampNeg)).toNatClampNeg)) (st1 := []) tc_203 rfl rfl (fun _ => rfl) ⟨fun hc => ?_, fun hc => ?_⟩
            · have h := h.1 hc
              show Gd d w 203 _ (254, [some (aR 21 k0), o1, some (aI v2), some (aI (((8 : Int32)) + (rI M (k0 + 46) v2.toNatClampNeg))), o4, o5, o6, o7], [], M)
              refine gd_s (P := True ∧ True ∧ True ∧ True ∧ True) (σ1 := (23, [some (aR 21 k0), some (aI ((0 : Int32))), some (aI (v2 + (1 : Int32))), some (aI (((8 : Int32)) + (rI M (k0 + 46) v2.toNatClampNeg))), o4, o5, o6, o7], [], M)) tc_203 rfl 4 (fun u => ⟨_, rfl⟩) ⟨trivial, trivial, trivial, trivial, trivial⟩ ?_
              exact hK23 k0 ((0 : Int32)) (v2 + (1 : Int32)) (some (aI (((8 : Int32)) + (rI M (k0 + 46) v2.toNatClampNeg)))) o4 o5 o6 o7 M h
            · have h := h.2 hc
              show Gd d w 203 _ (250, [some (aR 21 k0), o1, some (aI v2), some (aI (((8 : Int32)) + (rI M (k0 + 46) v2.toNatClampNeg))), o4, o5, o6, o7], [], M)
              refine gd_s (P := True ∧ True ∧ True ∧ True ∧ True ∧ True) (σ1 := (23, [some (aR 21 k0), some (aI ((1 : Int32))), some (aI (v2 + (1 : Int32))), some (aI (((8 : Int32)) + (rI M (k0 + 46) v2.toNatClampNeg))), o4, o5, o6, o7], [], M)) tc_203 rfl 5 (fun u => ⟨_, rfl⟩) ⟨trivial, trivial, trivial, trivial, trivial, trivial⟩ ?_
              exact hK23 k0 ((1 : Int32)) (v2 + (1 : Int32)) (some (aI (((8 : Int32)) + (rI M (k0 + 46) v2.toNatClampNeg)))) o4 o5 o6 o7 M h
    · have h := h.2 hc
      show Gd d w 203 _ (56, [some (aR 21 k0), o1, some (aI v2), some (aI v3), o4, o5, o6, o7], [], M)
      refine gd_s (P := True ∧ True ∧ True ∧ True) (σ1 := (59, [some (aR 21 k0), o1, some (aI v2), some (aI v3), o4, o5, o6, o7], [aI v2, aI ((0 : Int32)), aI ((0 : Int32))], M)) tc_203 rfl 3 (fun u => ⟨_, rfl⟩) ⟨trivial, trivial, trivial, trivial⟩ ?_
      refine gd_callN (ml := 3) (as := [aI ((0 : Int32)), aI ((0 : Int32)), aI v2]) (rest := []) tc_203 rfl rfl rfl rfl rfl (by omega) (by omega) (Nat.le_of_ble_eq_true rfl) rfl (g_Mo_nameOf (by omega) (by omega) h) (fun r9 M9 h => ?_)
      obtain ⟨x1, rfl, e9, h⟩ := h
      subst M9
      show Gd d w 203 _ (62, [some (aR 21 k0), o1, some (aI v2), some (aI v3), o4, o5, o6, o7], [aI x1], M)
      refine gd_s (P := True ∧ True ∧ True ∧ True ∧ True) (σ1 := (67, [some (aR 21 k0), o1, some (aI v2), some (aI v3), some (aI x1), o5, o6, o7], [aI v3, aI ((0 : Int32)), aI ((1 : Int32))], M)) tc_203 rfl 4 (fun u => ⟨_, rfl⟩) ⟨trivial, trivial, trivial, trivial, trivial⟩ ?_
      refine gd_callN (ml := 3) (as := [aI ((1 : Int32)), aI ((0 : Int32)), aI v3]) (rest := []) tc_203 rfl rfl rfl rfl rfl (by omega) (by omega) (Nat.le_of_ble_eq_true rfl) rfl (g_Mo_nameOf (by omega) (by omega) h) (fun r9 M9 h => ?_)
      obtain ⟨x2, rfl, e9, h⟩ := h
      subst M9
      show Gd d w 203 _ (70, [some (aR 21 k0), o1, some (aI v2), some (aI v3), some (aI x1), o5, o6, o7], [aI x2], M)
      obtain ⟨c0, c1, h⟩ := h
      refine gd_s (P := True ∧ True ∧ True ∧ True ∧ (vp_in x1 (rK M (k0 + 8)).2) ∧ True ∧ True ∧ True ∧ (vp_in x2 (rK M (k0 + 8)).2) ∧ True) (σ1 := (86, [some (aR 21 k0), o1, some (aI v2), some (aI v3), some (aI x1), some (aI x2), o6, o7], [aI (rI M (k0 + 8) x2.toNatClampNeg), aI (rI M (k0 + 8) x1.toNatClampNeg)], M)) tc_203 rfl 9 (fun u => ⟨_, rfl⟩) ⟨trivial, trivial, trivial, trivial, c0, trivial, trivial, trivial, c1, trivial⟩ ?_
      refine gd_br (c := ¬ (rI M (k0 + 8) x1.toNatClampNeg) = (rI M (k0 + 8) x2.toNatClampNeg)) (st1 := []) tc_203 rfl rfl (fun _ => rfl) ⟨fun hc => ?_, fun hc => ?_⟩
      · have h := h.1 hc
        show Gd d w 203 _ (93, [some (aR 21 k0), o1, some (aI v2), some (aI v3), some (aI x1), some (aI x2), o6, o7], [], M)
        refine gd_s (P := True ∧ True ∧ True ∧ True ∧ True) (σ1 := (99, [some (aR 21 k0), o1, some (aI v2), some (aI v3), some (aI x1), some (aI x2), some (aI ((0 : Int32))), some (aI ((0 : Int32)))], [], M)) tc_203 rfl 4 (fun u => ⟨_, rfl⟩) ⟨trivial, trivial, trivial, trivial, trivial⟩ ?_
        obtain ⟨n9, h⟩ := h
        exact g_Mo_findFellows_L99 hd hw hK23 ih n9 k0 v2 v3 x1 x2 ((0 : Int32)) ((0 : Int32)) o1 M h
      · have h := h.2 hc
        show Gd d w 203 _ (89, [some (aR 21 k0), o1, some (aI v2), some (aI v3), some (aI x1), some (aI x2), o6, o7], [], M)
        refine gd_s (P := True ∧ True ∧ True ∧ True ∧ True ∧ True) (σ1 := (99, [some (aR 21 k0), o1, some (aI v2), some (aI v3), some (aI x1), some (aI x2), some (aI ((1 : Int32))), some (aI ((0 : Int32)))], [], M)) tc_203 rfl 5 (fun u => ⟨_, rfl⟩) ⟨trivial, trivial, trivial, trivial, trivial, trivial⟩ ?_
        obtain ⟨n9, h⟩ := h
        exact g_Mo_findFellows_L99 hd hw hK23 ih n9 k0 v2 v3 x1 x2 ((1 : Int32)) ((0 : Int32)) o1 M h
def w_Mo_findFellows_L23 (post : Int32 → aM → Prop) : Nat → Nat → Int32 → Int32 → aM → Prop
  | 0, _, _, _, _ => False
  | n + 1, k0, v1, v2, M => (vp_in ((0 : Int32)) (rK M (k0 + 3)).2) ∧ ((((rI M (k0 + 3) ((0 : Int32)).toNatClampNeg) ≤ v2) → (v1 = 0 ∨ v1 = 1) ∧ post v1 M) ∧ (¬ ((rI M (k0 + 3) ((0 : Int32)).toNatClampNeg) ≤ v2) → ((v1 = ((0 : Int32))) → (v1 = 0 ∨ v1 = 1) ∧ post v1 M) ∧ (¬ (v1 = ((0 : Int32))) → (vp_in v2 (rK M (k0 + 46)).2) ∧ (∃ n9, w_Mo_findFellows_L46 post (w_Mo_findFellows_L23 post n) n9 k0 v2 ((0 : Int32)) (wI M (k0 + 46) v2.toNatClampNeg ((-1 : Int32)))))))
theorem g_Mo_findFellows_L23 {d w : Nat} (hd : 1 ≤ d) (hw : 22 ≤ w) {post : Int32 → aM → Prop} : ∀ (n : Nat) (k0 : Nat) (v1 : Int32) (v2 : Int32) (o3 o4 o5 o6 o7 : Option aV) (M : aM), w_Mo_findFellows_L23 post n k0 v1 v2 M → Gd d w 203 (pI post) (23, [some (aR 21 k0), some (aI v1), some (aI v2), o3, o4, o5, o6, o7], [], M) := by
  intro n
  induction n with
  | zero => intro k0 v1 v2 o3 o4 o5 o6 o7 M h; exact h.elim
  | succ n ih =>
    intro k0 v1 v2 o3 o4 o5 o6 o7 M h
    show Gd d w 203 _ (23, [some (aR 21 k0), some (aI v1), some (aI v2), o3, o4, o5, o6, o7], [], M)
    obtain ⟨c0, h⟩ := h
    refine gd_s (P := True ∧ True ∧ True ∧ True ∧ (vp_in ((0 : Int32)) (rK M (k0 + 3)).2) ∧ True) (σ1 := (30, [some (aR 21 k0), some (aI v1), some (aI v2), o3, o4, o5, o6, o7], [aI (rI M (k0 + 3) ((0 : Int32)).toNatClampNeg), aI v2], M)) tc_203 rfl 5 (fun u => ⟨_, rfl⟩) ⟨trivial, trivial, trivial, trivial, c0, trivial⟩ ?_
    refine gd_br (c := (rI M (k0 + 3) ((0 : Int32)).toNatClampNeg) ≤ v2) (st1 := []) tc_203 rfl rfl (fun _ => rfl) ⟨fun hc => ?_, fun hc => ?_⟩
    · have h := h.1 hc
      show Gd d w 203 _ (262, [some (aR 21 k0), some (aI v1), some (aI v2), o3, o4, o5, o6, o7], [], M)
      refine gd_s (P := True ∧ True) (σ1 := (263, [some (aR 21 k0), some (aI v1), some (aI v2), o3, o4, o5, o6, o7], [aI v1], M)) tc_203 rfl 1 (fun u => ⟨_, rfl⟩) ⟨trivial, trivial⟩ ?_
      exact gd_ret tc_203 rfl rfl h.1 (fun _ => rfl) ⟨_, rfl, h.2⟩
    · have h := h.2 hc
      show Gd d w 203 _ (33, [some (aR 21 k0), some (aI v1), some (aI v2), o3, o4, o5, o6, o7], [], M)
      refine gd_s (P := True ∧ True) (σ1 := (34, [some (aR 21 k0), some (aI v1), some (aI v2), o3, o4, o5, o6, o7], [aI v1], M)) tc_203 rfl 1 (fun u => ⟨_, rfl⟩) ⟨trivial, trivial⟩ ?_
      refine gd_br (c := v1 = ((0 : Int32))) (st1 := []) tc_203 rfl rfl (fun _ => rfl) ⟨fun hc => ?_, fun hc => ?_⟩
      · have h := h.1 hc
        show Gd d w 203 _ (262, [some (aR 21 k0), some (aI v1), some (aI v2), o3, o4, o5, o6, o7], [], M)
        refine gd_s (P := True ∧ True) (σ1 := (263, [some (aR 21 k0), some (aI v1), some (aI v2), o3, o4, o5, o6, o7], [aI v1], M)) tc_203 rfl 1 (fun u => ⟨_, rfl⟩) ⟨trivial, trivial⟩ ?_
        exact gd_ret tc_203 rfl rfl h.1 (fun _ => rfl) ⟨_, rfl, h.2⟩
      · have h := h.2 hc
        show Gd d w 203 _ (37, [some (aR 21 k0), some (aI v1), some (aI v2), o3, o4, o5, o6, o7], [], M)
        obtain ⟨c0, h⟩ := h
        refine gd_s (P := True ∧ True ∧ True ∧ True ∧ (vp_in v2 (rK M (k0 + 46)).2) ∧ True ∧ True ∧ True) (σ1 := (46, [some (aR 21 k0), some (aI v1), some (aI v2), some (aI ((0 : Int32))), o4, o5, o6, o7], [], wI M (k0 + 46) v2.toNatClampNeg ((-1 : Int32)))) tc_203 rfl 7 (fun u => ⟨_, rfl⟩) ⟨trivial, trivial, trivial, trivial, c0, trivial, trivial, trivial⟩ ?_
        obtain ⟨n9, h⟩ := h
        exact g_Mo_findFellows_L46 hd hw ih n9 k0 v2 ((0 : Int32)) (some (aI v1)) o4 o5 o6 o7 (wI M (k0 + 46) v2.toNatClampNeg ((-1 : Int32))) h
/-- PolicyJudgeModel.findFellows()Z -/
def w_Mo_findFellows (post : Int32 → aM → Prop) (k0 : Nat) (M : aM) : Prop := (vp_in ((0 : Int32)) (rK M (k0 + 3)).2) ∧ (vp_in ((1 : Int32)) (rK M (k0 + 3)).2) ∧ (((¬ (rI M (k0 + 3) ((0 : Int32)).toNatClampNeg) = (rI M (k0 + 3) ((1 : Int32)).toNatClampNeg)) → ∃ n9, w_Mo_findFellows_L23 post n9 k0 ((0 : Int32)) ((0 : Int32)) M) ∧ (¬ (¬ (rI M (k0 + 3) ((0 : Int32)).toNatClampNeg) = (rI M (k0 + 3) ((1 : Int32)).toNatClampNeg)) → ∃ n9, w_Mo_findFellows_L23 post n9 k0 ((1 : Int32)) ((0 : Int32)) M))
theorem g_Mo_findFellows {d w : Nat} (hd : 1 ≤ d) (hw : 22 ≤ w) {post : Int32 → aM → Prop} {k0 : Nat} {M : aM} (h : w_Mo_findFellows post k0 M) : Gd d w 203 (pI post) (0, aEnt 203 [aR 21 k0], [], M) := by
  unfold w_Mo_findFellows at h
  show Gd d w 203 _ (0, [some (aR 21 k0), none, none, none, none, none, none, none], [], M)
  obtain ⟨c0, c1, h⟩ := h
  refine gd_s (P := True ∧ True ∧ True ∧ (vp_in ((0 : Int32)) (rK M (k0 + 3)).2) ∧ True ∧ True ∧ True ∧ (vp_in ((1 : Int32)) (rK M (k0 + 3)).2) ∧ True) (σ1 := (12, [some (aR 21 k0), none, none, none, none, none, none, none], [aI (rI M (k0 + 3) ((1 : Int32)).toNatClampNeg), aI (rI M (k0 + 3) ((0 : Int32)).toNatClampNeg)], M)) tc_203 rfl 8 (fun u => ⟨_, rfl⟩) ⟨trivial, trivial, trivial, c0, trivial, trivial, trivial, c1, trivial⟩ ?_
  refine gd_br (c := ¬ (rI M (k0 + 3) ((0 : Int32)).toNatClampNeg) = (rI M (k0 + 3) ((1 : Int32)).toNatClampNeg)) (st1 := []) tc_203 rfl rfl (fun _ => rfl) ⟨fun hc => ?_, fun hc => ?_⟩
  · have h := h.1 hc
    show Gd d w 203 _ (19, [some (aR 21 k0), none, none, none, none, none, none, none], [], M)
    refine gd_s (P := True ∧ True ∧ True ∧ True ∧ True) (σ1 := (23, [some (aR 21 k0), some (aI ((0 : Int32))), some (aI ((0 : Int32))), none, none, none, none, none], [], M)) tc_203 rfl 4 (fun u => ⟨_, rfl⟩) ⟨trivial, trivial, trivial, trivial, trivial⟩ ?_
    obtain ⟨n9, h⟩ := h
    exact g_Mo_findFellows_L23 hd hw n9 k0 ((0 : Int32)) ((0 : Int32)) none none none none none M h
  · have h := h.2 hc
    show Gd d w 203 _ (15, [some (aR 21 k0), none, none, none, none, none, none, none], [], M)
    refine gd_s (P := True ∧ True ∧ True ∧ True ∧ True ∧ True) (σ1 := (23, [some (aR 21 k0), some (aI ((1 : Int32))), some (aI ((0 : Int32))), none, none, none, none, none], [], M)) tc_203 rfl 5 (fun u => ⟨_, rfl⟩) ⟨trivial, trivial, trivial, trivial, trivial, trivial⟩ ?_
    obtain ⟨n9, h⟩ := h
    exact g_Mo_findFellows_L23 hd hw n9 k0 ((1 : Int32)) ((0 : Int32)) none none none none none M h
theorem tc_204 : tC 204 = c204 := rfl
def w_Mo_requests_L7 (M : aM) (post : Int32 → Prop) : Nat → Nat → Int32 → Int32 → Int32 → Prop
  | 0, _, _, _, _ => False
  | n + 1, k0, v1, v2, v3 => (vp_in v1 (rK M (k0 + 3)).2) ∧ (((((((8 : Int32)) * v1) + (rI M (k0 + 3) v1.toNatClampNeg)) ≤ v3) → post v2) ∧ (¬ (((((8 : Int32)) * v1) + (rI M (k0 + 3) v1.toNatClampNeg)) ≤ v3) → ((v2 ≤ ((4096 : Int32))) → (vp_in v3 (rK M (k0 + 5)).2) ∧ ((((rI M (k0 + 5) v3.toNatClampNeg) = ((0 : Int32))) → (vp_in v3 (rK M (k0 + 4)).2) ∧ (w_Mo_requests_L7 M post n k0 v1 (v2 * ((rI M (k0 + 4) v3.toNatClampNeg) + ((1 : Int32)))) (v3 + (1 : Int32)))) ∧ (¬ ((rI M (k0 + 5) v3.toNatClampNeg) = ((0 : Int32))) → (vp_in v3 (rK M (k0 + 4)).2) ∧ (w_Mo_requests_L7 M post n k0 v1 (v2 * (((1 : Int32)) <<< ((rI M (k0 + 4) v3.toNatClampNeg) &&& 31))) (v3 + (1 : Int32)))))) ∧ (¬ (v2 ≤ ((4096 : Int32))) → w_Mo_requests_L7 M post n k0 v1 v2 (v3 + (1 : Int32)))))
theorem g_Mo_requests_L7 {d w : Nat} (hd : 0 ≤ d) (hw : 0 ≤ w) {M : aM} {post : Int32 → Prop} : ∀ (n : Nat) (k0 : Nat) (v1 : Int32) (v2 : Int32) (v3 : Int32), w_Mo_requests_L7 M post n k0 v1 v2 v3 → Gd d w 204 (pIn M post) (7, [some (aR 21 k0), some (aI v1), some (aI v2), some (aI v3)], [], M) := by
  intro n
  induction n with
  | zero => intro k0 v1 v2 v3 h; exact h.elim
  | succ n ih =>
    intro k0 v1 v2 v3 h
    show Gd d w 204 _ (7, [some (aR 21 k0), some (aI v1), some (aI v2), some (aI v3)], [], M)
    obtain ⟨c0, h⟩ := h
    refine gd_s (P := True ∧ True ∧ True ∧ True ∧ True ∧ True ∧ True ∧ (vp_in v1 (rK M (k0 + 3)).2) ∧ True ∧ True) (σ1 := (19, [some (aR 21 k0), some (aI v1), some (aI v2), some (aI v3)], [aI ((((8 : Int32)) * v1) + (rI M (k0 + 3) v1.toNatClampNeg)), aI v3], M)) tc_204 rfl 9 (fun u => ⟨_, rfl⟩) ⟨trivial, trivial, trivial, trivial, trivial, trivial, trivial, c0, trivial, trivial⟩ ?_
    refine gd_br (c := ((((8 : Int32)) * v1) + (rI M (k0 + 3) v1.toNatClampNeg)) ≤ v3) (st1 := []) tc_204 rfl rfl (fun _ => rfl) ⟨fun hc => ?_, fun hc => ?_⟩
    · have h := h.1 hc
      show Gd d w 204 _ (70, [some (aR 21 k0), some (aI v1), some (aI v2), some (aI v3)], [], M)
      refine gd_s (P := True ∧ True) (σ1 := (71, [some (aR 21 k0), some (aI v1), some (aI v2), some (aI v3)], [aI v2], M)) tc_204 rfl 1 (fun u => ⟨_, rfl⟩) ⟨trivial, trivial⟩ ?_
      exact gd_ret tc_204 rfl rfl trivial (fun _ => rfl) ⟨_, rfl, rfl, h⟩
    · have h := h.2 hc
      show Gd d w 204 _ (22, [some (aR 21 k0), some (aI v1), some (aI v2), some (aI v3)], [], M)
      refine gd_s (P := True ∧ True ∧ True) (σ1 := (26, [some (aR 21 k0), some (aI v1), some (aI v2), some (aI v3)], [aI ((4096 : Int32)), aI v2], M)) tc_204 rfl 2 (fun u => ⟨_, rfl⟩) ⟨trivial, trivial, trivial⟩ ?_
      refine gd_br (c := v2 ≤ ((4096 : Int32))) (st1 := []) tc_204 rfl rfl (fun _ => rfl) ⟨fun hc => ?_, fun hc => ?_⟩
      · have h := h.1 hc
        show Gd d w 204 _ (33, [some (aR 21 k0), some (aI v1), some (aI v2), some (aI v3)], [], M)
        obtain ⟨c0, h⟩ := h
        refine gd_s (P := True ∧ True ∧ True ∧ True ∧ (vp_in v3 (rK M (k0 + 5)).2) ∧ True) (σ1 := (40, [some (aR 21 k0), some (aI v1), some (aI v2), some (aI v3)], [aI (rI M (k0 + 5) v3.toNatClampNeg), aI v2], M)) tc_204 rfl 5 (fun u => ⟨_, rfl⟩) ⟨trivial, trivial, trivial, trivial, c0, trivial⟩ ?_
        refine gd_br (c := (rI M (k0 + 5) v3.toNatClampNeg) = ((0 : Int32))) (st1 := [aI v2]) tc_204 rfl rfl (fun _ => rfl) ⟨fun hc => ?_, fun hc => ?_⟩
        · have h := h.1 hc
          show Gd d w 204 _ (54, [some (aR 21 k0), some (aI v1), some (aI v2), some (aI v3)], [aI v2], M)
          obtain ⟨c0, h⟩ := h
          refine gd_s (P := True ∧ True ∧ True ∧ (vp_in v3 (rK M (k0 + 4)).2) ∧ True ∧ True ∧ True ∧ True ∧ True ∧ True ∧ True) (σ1 := (7, [some (aR 21 k0), some (aI v1), some (aI (v2 * ((rI M (k0 + 4) v3.toNatClampNeg) + ((1 : Int32))))), some (aI (v3 + (1 : Int32)))], [], M)) tc_204 rfl 10 (fun u => ⟨_, rfl⟩) ⟨trivial, trivial, trivial, c0, trivial, trivial, trivial, trivial, trivial, trivial, trivial⟩ ?_
          exact ih k0 v1 (v2 * ((rI M (k0 + 4) v3.toNatClampNeg) + ((1 : Int32)))) (v3 + (1 : Int32)) h
        · have h := h.2 hc
          show Gd d w 204 _ (43, [some (aR 21 k0), some (aI v1), some (aI v2), some (aI v3)], [aI v2], M)
          obtain ⟨c0, h⟩ := h
          refine gd_s (P := True ∧ True ∧ True ∧ True ∧ (vp_in v3 (rK M (k0 + 4)).2) ∧ True ∧ True ∧ True ∧ True ∧ True ∧ True ∧ True) (σ1 := (7, [some (aR 21 k0), some (aI v1), some (aI (v2 * (((1 : Int32)) <<< ((rI M (k0 + 4) v3.toNatClampNeg) &&& 31)))), some (aI (v3 + (1 : Int32)))], [], M)) tc_204 rfl 11 (fun u => ⟨_, rfl⟩) ⟨trivial, trivial, trivial, trivial, c0, trivial, trivial, trivial, trivial, trivial, trivial, trivial⟩ ?_
          exact ih k0 v1 (v2 * (((1 : Int32)) <<< ((rI M (k0 + 4) v3.toNatClampNeg) &&& 31))) (v3 + (1 : Int32)) h
      · have h := h.2 hc
        show Gd d w 204 _ (29, [some (aR 21 k0), some (aI v1), some (aI v2), some (aI v3)], [], M)
        refine gd_s (P := True ∧ True ∧ True ∧ True ∧ True ∧ True) (σ1 := (7, [some (aR 21 k0), some (aI v1), some (aI v2), some (aI (v3 + (1 : Int32)))], [], M)) tc_204 rfl 5 (fun u => ⟨_, rfl⟩) ⟨trivial, trivial, trivial, trivial, trivial, trivial⟩ ?_
        exact ih k0 v1 v2 (v3 + (1 : Int32)) h
/-- PolicyJudgeModel.requests(I)I -/
def w_Mo_requests (post : Int32 → Prop) (k0 : Nat) (v1 : Int32) (M : aM) : Prop := ∃ n9, w_Mo_requests_L7 M post n9 k0 v1 ((1 : Int32)) (((8 : Int32)) * v1)
theorem g_Mo_requests {d w : Nat} (hd : 0 ≤ d) (hw : 0 ≤ w) {post : Int32 → Prop} {k0 : Nat} {v1 : Int32} {M : aM} (h : w_Mo_requests post k0 v1 M) : Gd d w 204 (pIn M post) (0, aEnt 204 [aR 21 k0, aI v1], [], M) := by
  unfold w_Mo_requests at h
  show Gd d w 204 _ (0, [some (aR 21 k0), some (aI v1), none, none], [], M)
  refine gd_s (P := True ∧ True ∧ True ∧ True ∧ True ∧ True ∧ True) (σ1 := (7, [some (aR 21 k0), some (aI v1), some (aI ((1 : Int32))), some (aI (((8 : Int32)) * v1))], [], M)) tc_204 rfl 6 (fun u => ⟨_, rfl⟩) ⟨trivial, trivial, trivial, trivial, trivial, trivial, trivial⟩ ?_
  obtain ⟨n9, h⟩ := h
  exact g_Mo_requests_L7 hd hw n9 k0 v1 ((1 : Int32)) (((8 : Int32)) * v1) h
theorem tc_205 : tC 205 = c205 := rfl
def w_Mo_keep_L28 (post : aM → Prop) : Nat → Nat → Int32 → aM → Prop
  | 0, _, _, _ => False
  | n + 1, k0, v1, M => ((((200 : Int32)) ≤ v1) → post M) ∧ (¬ (((200 : Int32)) ≤ v1) → (vp_in v1 (rK M (k0 + 29)).2) ∧ (vp_in v1 (rK M (k0 + 44)).2) ∧ (vp_in v1 (rK M (k0 + 30)).2) ∧ (vp_in v1 (rK M (k0 + 45)).2) ∧ (w_Mo_keep_L28 post n k0 (v1 + (1 : Int32)) (wI (wI M (k0 + 44) v1.toNatClampNeg (rI M (k0 + 29) v1.toNatClampNeg)) (k0 + 45) v1.toNatClampNeg (rI (wI M (k0 + 44) v1.toNatClampNeg (rI M (k0 + 29) v1.toNatClampNeg)) (k0 + 30) v1.toNatClampNeg))))
theorem g_Mo_keep_L28 {d w : Nat} (hd : 0 ≤ d) (hw : 0 ≤ w) {post : aM → Prop} : ∀ (n : Nat) (k0 : Nat) (v1 : Int32) (M : aM), w_Mo_keep_L28 post n k0 v1 M → Gd d w 205 (pV post) (28, [some (aR 21 k0), some (aI v1)], [], M) := by
  intro n
  induction n with
  | zero => intro k0 v1 M h; exact h.elim
  | succ n ih =>
    intro k0 v1 M h
    show Gd d w 205 _ (28, [some (aR 21 k0), some (aI v1)], [], M)
    refine gd_s (P := True ∧ True ∧ True) (σ1 := (32, [some (aR 21 k0), some (aI v1)], [aI ((200 : Int32)), aI v1], M)) tc_205 rfl 2 (fun u => ⟨_, rfl⟩) ⟨trivial, trivial, trivial⟩ ?_
    refine gd_br (c := ((200 : Int32)) ≤ v1) (st1 := []) tc_205 rfl rfl (fun _ => rfl) ⟨fun hc => ?_, fun hc => ?_⟩
    · have h := h.1 hc
      show Gd d w 205 _ (65, [some (aR 21 k0), some (aI v1)], [], M)
      exact gd_ret tc_205 rfl rfl trivial (fun _ => rfl) ⟨rfl, h⟩
    · have h := h.2 hc
      show Gd d w 205 _ (35, [some (aR 21 k0), some (aI v1)], [], M)
      obtain ⟨c0, c1, c2, c3, h⟩ := h
      refine gd_s (P := True ∧ True ∧ True ∧ True ∧ True ∧ True ∧ (vp_in v1 (rK M (k0 + 29)).2) ∧ (vp_in v1 (rK M (k0 + 44)).2) ∧ True ∧ True ∧ True ∧ True ∧ True ∧ True ∧ (vp_in v1 (rK M (k0 + 30)).2) ∧ (vp_in v1 (rK M (k0 + 45)).2) ∧ True ∧ True ∧ True) (σ1 := (28, [some (aR 21 k0), some (aI (v1 + (1 : Int32)))], [], wI (wI M (k0 + 44) v1.toNatClampNeg (rI M (k0 + 29) v1.toNatClampNeg)) (k0 + 45) v1.toNatClampNeg (rI (wI M (k0 + 44) v1.toNatClampNeg (rI M (k0 + 29) v1.toNatClampNeg)) (k0 + 30) v1.toNatClampNeg))) tc_205 rfl 18 (fun u => ⟨_, rfl⟩) ⟨trivial, trivial, trivial, trivial, trivial, trivial, c0, c1, trivial, trivial, trivial, trivial, trivial, trivial, c2, c3, trivial, trivial, trivial⟩ ?_
      exact ih k0 (v1 + (1 : Int32)) (wI (wI M (k0 + 44) v1.toNatClampNeg (rI M (k0 + 29) v1.toNatClampNeg)) (k0 + 45) v1.toNatClampNeg (rI (wI M (k0 + 44) v1.toNatClampNeg (rI M (k0 + 29) v1.toNatClampNeg)) (k0 + 30) v1.toNatClampNeg)) h
def w_Mo_keep_L2 (post : aM → Prop) : Nat → Nat → Int32 → aM → Prop
  | 0, _, _, _ => False
  | n + 1, k0, v1, M => ((((16 : Int32)) ≤ v1) → ∃ n9, w_Mo_keep_L28 post n9 k0 ((0 : Int32)) M) ∧ (¬ (((16 : Int32)) ≤ v1) → (vp_in v1 (rK M (k0 + 7)).2) ∧ (vp_in v1 (rK M (k0 + 43)).2) ∧ (w_Mo_keep_L2 post n k0 (v1 + (1 : Int32)) (wI M (k0 + 43) v1.toNatClampNeg (rI M (k0 + 7) v1.toNatClampNeg))))
theorem g_Mo_keep_L2 {d w : Nat} (hd : 0 ≤ d) (hw : 0 ≤ w) {post : aM → Prop} : ∀ (n : Nat) (k0 : Nat) (v1 : Int32) (M : aM), w_Mo_keep_L2 post n k0 v1 M → Gd d w 205 (pV post) (2, [some (aR 21 k0), some (aI v1)], [], M) := by
  intro n
  induction n with
  | zero => intro k0 v1 M h; exact h.elim
  | succ n ih =>
    intro k0 v1 M h
    show Gd d w 205 _ (2, [some (aR 21 k0), some (aI v1)], [], M)
    refine gd_s (P := True ∧ True ∧ True) (σ1 := (5, [some (aR 21 k0), some (aI v1)], [aI ((16 : Int32)), aI v1], M)) tc_205 rfl 2 (fun u => ⟨_, rfl⟩) ⟨trivial, trivial, trivial⟩ ?_
    refine gd_br (c := ((16 : Int32)) ≤ v1) (st1 := []) tc_205 rfl rfl (fun _ => rfl) ⟨fun hc => ?_, fun hc => ?_⟩
    · have h := h.1 hc
      show Gd d w 205 _ (26, [some (aR 21 k0), some (aI v1)], [], M)
      refine gd_s (P := True ∧ True ∧ True) (σ1 := (28, [some (aR 21 k0), some (aI ((0 : Int32)))], [], M)) tc_205 rfl 2 (fun u => ⟨_, rfl⟩) ⟨trivial, trivial, trivial⟩ ?_
      obtain ⟨n9, h⟩ := h
      exact g_Mo_keep_L28 hd hw n9 k0 ((0 : Int32)) M h
    · have h := h.2 hc
      show Gd d w 205 _ (8, [some (aR 21 k0), some (aI v1)], [], M)
      obtain ⟨c0, c1, h⟩ := h
      refine gd_s (P := True ∧ True ∧ True ∧ True ∧ True ∧ True ∧ (vp_in v1 (rK M (k0 + 7)).2) ∧ (vp_in v1 (rK M (k0 + 43)).2) ∧ True ∧ True ∧ True) (σ1 := (2, [some (aR 21 k0), some (aI (v1 + (1 : Int32)))], [], wI M (k0 + 43) v1.toNatClampNeg (rI M (k0 + 7) v1.toNatClampNeg))) tc_205 rfl 10 (fun u => ⟨_, rfl⟩) ⟨trivial, trivial, trivial, trivial, trivial, trivial, c0, c1, trivial, trivial, trivial⟩ ?_
      exact ih k0 (v1 + (1 : Int32)) (wI M (k0 + 43) v1.toNatClampNeg (rI M (k0 + 7) v1.toNatClampNeg)) h
/-- PolicyJudgeModel.keep()V -/
def w_Mo_keep (post : aM → Prop) (k0 : Nat) (M : aM) : Prop := ∃ n9, w_Mo_keep_L2 post n9 k0 ((0 : Int32)) M
theorem g_Mo_keep {d w : Nat} (hd : 0 ≤ d) (hw : 0 ≤ w) {post : aM → Prop} {k0 : Nat} {M : aM} (h : w_Mo_keep post k0 M) : Gd d w 205 (pV post) (0, aEnt 205 [aR 21 k0], [], M) := by
  unfold w_Mo_keep at h
  show Gd d w 205 _ (0, [some (aR 21 k0), none], [], M)
  refine gd_s (P := True ∧ True ∧ True) (σ1 := (2, [some (aR 21 k0), some (aI ((0 : Int32)))], [], M)) tc_205 rfl 2 (fun u => ⟨_, rfl⟩) ⟨trivial, trivial, trivial⟩ ?_
  obtain ⟨n9, h⟩ := h
  exact g_Mo_keep_L2 hd hw n9 k0 ((0 : Int32)) M h
theorem tc_206 : tC 206 = c206 := rfl
def w_Mo_emptyBags_L2 (post : aM → Prop) : Nat → Nat → Int32 → Int32 → aM → Prop
  | 0, _, _, _, _ => False
  | n + 1, k0, v1, v2, M => ((((8 : Int32)) ≤ v2) → post M) ∧ (¬ (((8 : Int32)) ≤ v2) → (vp_in ((((8 : Int32)) * v1) + v2) (rK M (k0 + 7)).2) ∧ (w_Mo_emptyBags_L2 post n k0 v1 (v2 + (1 : Int32)) (wI M (k0 + 7) ((((8 : Int32)) * v1) + v2).toNatClampNeg ((0 : Int32)))))
theorem g_Mo_emptyBags_L2 {d w : Nat} (hd : 0 ≤ d) (hw : 0 ≤ w) {post : aM → Prop} : ∀ (n : Nat) (k0 : Nat) (v1 : Int32) (v2 : Int32) (M : aM), w_Mo_emptyBags_L2 post n k0 v1 v2 M → Gd d w 206 (pV post) (2, [some (aR 21 k0), some (aI v1), some (aI v2)], [], M) := by
  intro n
  induction n with
  | zero => intro k0 v1 v2 M h; exact h.elim
  | succ n ih =>
    intro k0 v1 v2 M h
    show Gd d w 206 _ (2, [some (aR 21 k0), some (aI v1), some (aI v2)], [], M)
    refine gd_s (P := True ∧ True ∧ True) (σ1 := (5, [some (aR 21 k0), some (aI v1), some (aI v2)], [aI ((8 : Int32)), aI v2], M)) tc_206 rfl 2 (fun u => ⟨_, rfl⟩) ⟨trivial, trivial, trivial⟩ ?_
    refine gd_br (c := ((8 : Int32)) ≤ v2) (st1 := []) tc_206 rfl rfl (fun _ => rfl) ⟨fun hc => ?_, fun hc => ?_⟩
    · have h := h.1 hc
      show Gd d w 206 _ (26, [some (aR 21 k0), some (aI v1), some (aI v2)], [], M)
      exact gd_ret tc_206 rfl rfl trivial (fun _ => rfl) ⟨rfl, h⟩
    · have h := h.2 hc
      show Gd d w 206 _ (8, [some (aR 21 k0), some (aI v1), some (aI v2)], [], M)
      obtain ⟨c0, h⟩ := h
      refine gd_s (P := True ∧ True ∧ True ∧ True ∧ True ∧ True ∧ True ∧ True ∧ (vp_in ((((8 : Int32)) * v1) + v2) (rK M (k0 + 7)).2) ∧ True ∧ True ∧ True) (σ1 := (2, [some (aR 21 k0), some (aI v1), some (aI (v2 + (1 : Int32)))], [], wI M (k0 + 7) ((((8 : Int32)) * v1) + v2).toNatClampNeg ((0 : Int32)))) tc_206 rfl 11 (fun u => ⟨_, rfl⟩) ⟨trivial, trivial, trivial, trivial, trivial, trivial, trivial, trivial, c0, trivial, trivial, trivial⟩ ?_
      exact ih k0 v1 (v2 + (1 : Int32)) (wI M (k0 + 7) ((((8 : Int32)) * v1) + v2).toNatClampNeg ((0 : Int32))) h
/-- PolicyJudgeModel.emptyBags(I)V -/
def w_Mo_emptyBags (post : aM → Prop) (k0 : Nat) (v1 : Int32) (M : aM) : Prop := ∃ n9, w_Mo_emptyBags_L2 post n9 k0 v1 ((0 : Int32)) M
theorem g_Mo_emptyBags {d w : Nat} (hd : 0 ≤ d) (hw : 0 ≤ w) {post : aM → Prop} {k0 : Nat} {v1 : Int32} {M : aM} (h : w_Mo_emptyBags post k0 v1 M) : Gd d w 206 (pV post) (0, aEnt 206 [aR 21 k0, aI v1], [], M) := by
  unfold w_Mo_emptyBags at h
  show Gd d w 206 _ (0, [some (aR 21 k0), some (aI v1), none], [], M)
  refine gd_s (P := True ∧ True ∧ True) (σ1 := (2, [some (aR 21 k0), some (aI v1), some (aI ((0 : Int32)))], [], M)) tc_206 rfl 2 (fun u => ⟨_, rfl⟩) ⟨trivial, trivial, trivial⟩ ?_
  obtain ⟨n9, h⟩ := h
  exact g_Mo_emptyBags_L2 hd hw n9 k0 v1 ((0 : Int32)) M h
theorem tc_207 : tC 207 = c207 := rfl
def w_Mo_isWitness_L17 (post : aM → Prop) : Nat → Nat → Int32 → Int32 → aM → Prop
  | 0, _, _, _, _ => False
  | n + 1, k0, v1, v2, M => ((((8 : Int32)) ≤ v2) → post M) ∧ (¬ (((8 : Int32)) ≤ v2) → (vp_in ((((8 : Int32)) * v1) + v2) (rK M (k0 + 7)).2) ∧ (vp_in v2 (rK M (k0 + 42)).2) ∧ (w_Mo_isWitness_L17 post n k0 v1 (v2 + (1 : Int32)) (wI M (k0 + 42) v2.toNatClampNeg (rI M (k0 + 7) ((((8 : Int32)) * v1) + v2).toNatClampNeg))))
theorem g_Mo_isWitness_L17 {d w : Nat} (hd : 0 ≤ d) (hw : 0 ≤ w) {post : aM → Prop} : ∀ (n : Nat) (k0 : Nat) (v1 : Int32) (v2 : Int32) (M : aM), w_Mo_isWitness_L17 post n k0 v1 v2 M → Gd d w 207 (pV post) (17, [some (aR 21 k0), some (aI v1), some (aI v2)], [], M) := by
  intro n
  induction n with
  | zero => intro k0 v1 v2 M h; exact h.elim
  | succ n ih =>
    intro k0 v1 v2 M h
    show Gd d w 207 _ (17, [some (aR 21 k0), some (aI v1), some (aI v2)], [], M)
    refine gd_s (P := True ∧ True ∧ True) (σ1 := (20, [some (aR 21 k0), some (aI v1), some (aI v2)], [aI ((8 : Int32)), aI v2], M)) tc_207 rfl 2 (fun u => ⟨_, rfl⟩) ⟨trivial, trivial, trivial⟩ ?_
    refine gd_br (c := ((8 : Int32)) ≤ v2) (st1 := []) tc_207 rfl rfl (fun _ => rfl) ⟨fun hc => ?_, fun hc => ?_⟩
    · have h := h.1 hc
      show Gd d w 207 _ (46, [some (aR 21 k0), some (aI v1), some (aI v2)], [], M)
      exact gd_ret tc_207 rfl rfl trivial (fun _ => rfl) ⟨rfl, h⟩
    · have h := h.2 hc
      show Gd d w 207 _ (23, [some (aR 21 k0), some (aI v1), some (aI v2)], [], M)
      obtain ⟨c0, c1, h⟩ := h
      refine gd_s (P := True ∧ True ∧ True ∧ True ∧ True ∧ True ∧ True ∧ True ∧ True ∧ True ∧ (vp_in ((((8 : Int32)) * v1) + v2) (rK M (k0 + 7)).2) ∧ (vp_in v2 (rK M (k0 + 42)).2) ∧ True ∧ True ∧ True) (σ1 := (17, [some (aR 21 k0), some (aI v1), some (aI (v2 + (1 : Int32)))], [], wI M (k0 + 42) v2.toNatClampNeg (rI M (k0 + 7) ((((8 : Int32)) * v1) + v2).toNatClampNeg))) tc_207 rfl 14 (fun u => ⟨_, rfl⟩) ⟨trivial, trivial, trivial, trivial, trivial, trivial, trivial, trivial, trivial, trivial, c0, c1, trivial, trivial, trivial⟩ ?_
      exact ih k0 v1 (v2 + (1 : Int32)) (wI M (k0 + 42) v2.toNatClampNeg (rI M (k0 + 7) ((((8 : Int32)) * v1) + v2).toNatClampNeg)) h
/-- PolicyJudgeModel.isWitness(I)V -/
def w_Mo_isWitness (post : aM → Prop) (k0 : Nat) (v1 : Int32) (M : aM) : Prop := (((1 : Int32)) = 0 ∨ ((1 : Int32)) = 1) ∧ (vp_in v1 (rK M (k0 + 3)).2) ∧ (∃ n9, w_Mo_isWitness_L17 post n9 k0 v1 ((0 : Int32)) (wI (wI M k0 54 ((1 : Int32))) k0 53 (rI (wI M k0 54 ((1 : Int32))) (k0 + 3) v1.toNatClampNeg)))
theorem g_Mo_isWitness {d w : Nat} (hd : 0 ≤ d) (hw : 0 ≤ w) {post : aM → Prop} {k0 : Nat} {v1 : Int32} {M : aM} (h : w_Mo_isWitness post k0 v1 M) : Gd d w 207 (pV post) (0, aEnt 207 [aR 21 k0, aI v1], [], M) := by
  unfold w_Mo_isWitness at h
  show Gd d w 207 _ (0, [some (aR 21 k0), some (aI v1), none], [], M)
  obtain ⟨c0, c1, h⟩ := h
  refine gd_s (P := True ∧ True ∧ (((1 : Int32)) = 0 ∨ ((1 : Int32)) = 1) ∧ True ∧ True ∧ True ∧ True ∧ (vp_in v1 (rK M (k0 + 3)).2) ∧ True ∧ True ∧ True ∧ True) (σ1 := (17, [some (aR 21 k0), some (aI v1), some (aI ((0 : Int32)))], [], wI (wI M k0 54 ((1 : Int32))) k0 53 (rI (wI M k0 54 ((1 : Int32))) (k0 + 3) v1.toNatClampNeg))) tc_207 rfl 11 (fun u => ⟨_, rfl⟩) ⟨trivial, trivial, c0, trivial, trivial, trivial, trivial, c1, trivial, trivial, trivial, trivial⟩ ?_
  obtain ⟨n9, h⟩ := h
  exact g_Mo_isWitness_L17 hd hw n9 k0 v1 ((0 : Int32)) (wI (wI M k0 54 ((1 : Int32))) k0 53 (rI (wI M k0 54 ((1 : Int32))) (k0 + 3) v1.toNatClampNeg)) h
theorem tc_208 : tC 208 = c208 := rfl
def w_Mo_nextRequest_J54 (post : Int32 → aM → Prop) (K14 : Nat → Int32 → Int32 → aM → Prop) (k0 : Nat) (v1 : Int32) (v2 : Int32) (s0 : Int32) (M : aM) : Prop := (vp_in v2 (rK M (k0 + 7)).2) ∧ (((s0 ≤ (rI M (k0 + 7) v2.toNatClampNeg)) → (vp_in v2 (rK M (k0 + 7)).2) ∧ (K14 k0 v1 (v2 + (-1 : Int32)) (wI M (k0 + 7) v2.toNatClampNeg ((0 : Int32))))) ∧ (¬ (s0 ≤ (rI M (k0 + 7) v2.toNatClampNeg)) → (vp_in v2 (rK M (k0 + 5)).2) ∧ ((((rI M (k0 + 5) v2.toNatClampNeg) = ((0 : Int32))) → (vp_in v2 (rK M (k0 + 7)).2) ∧ (((¬ (rI M (k0 + 7) v2.toNatClampNeg) = ((0 : Int32))) → (vp_in v2 (rK M (k0 + 7)).2) ∧ (vp_in v2 (rK M (k0 + 7)).2) ∧ (((1 : Int32)) = 0 ∨ ((1 : Int32)) = 1) ∧ post ((1 : Int32)) (wI M (k0 + 7) v2.toNatClampNeg (((2 : Int32)) * (rI M (k0 + 7) v2.toNatClampNeg)))) ∧ (¬ (¬ (rI M (k0 + 7) v2.toNatClampNeg) = ((0 : Int32))) → (vp_in v2 (rK M (k0 + 7)).2) ∧ (((1 : Int32)) = 0 ∨ ((1 : Int32)) = 1) ∧ post ((1 : Int32)) (wI M (k0 + 7) v2.toNatClampNeg ((1 : Int32)))))) ∧ (¬ ((rI M (k0 + 5) v2.toNatClampNeg) = ((0 : Int32))) → (vp_in v2 (rK M (k0 + 7)).2) ∧ (vp_in v2 (rK M (k0 + 7)).2) ∧ (((1 : Int32)) = 0 ∨ ((1 : Int32)) = 1) ∧ post ((1 : Int32)) (wI M (k0 + 7) v2.toNatClampNeg ((rI M (k0 + 7) v2.toNatClampNeg) + ((1 : Int32))))))))
theorem g_Mo_nextRequest_J54 {d w : Nat} (hd : 0 ≤ d) (hw : 0 ≤ w) {post : Int32 → aM → Prop} {K14 : Nat → Int32 → Int32 → aM → Prop} (hK14 : ∀ (k0 : Nat) (v1 : Int32) (v2 : Int32) (o3 : Option aV) (M : aM), K14 k0 v1 v2 M → Gd d w 208 (pI post) (14, [some (aR 21 k0), some (aI v1), some (aI v2), o3], [], M)) (k0 : Nat) (v1 : Int32) (v2 : Int32) (s0 : Int32) (o3 : Option aV) (M : aM) (h : w_Mo_nextRequest_J54 post K14 k0 v1 v2 s0 M) : Gd d w 208 (pI post) (54, [some (aR 21 k0), some (aI v1), some (aI v2), o3], [aI s0], M) := by
  unfold w_Mo_nextRequest_J54 at h
  show Gd d w 208 _ (54, [some (aR 21 k0), some (aI v1), some (aI v2), o3], [aI s0], M)
  obtain ⟨c0, h⟩ := h
  refine gd_s (P := True ∧ True ∧ True ∧ True ∧ (vp_in v2 (rK M (k0 + 7)).2) ∧ True ∧ True) (σ1 := (62, [some (aR 21 k0), some (aI v1), some (aI v2), some (aI s0)], [aI s0, aI (rI M (k0 + 7) v2.toNatClampNeg)], M)) tc_208 rfl 6 (fun u => ⟨_, rfl⟩) ⟨trivial, trivial, trivial, trivial, c0, trivial, trivial⟩ ?_
  refine gd_br (c := s0 ≤ (rI M (k0 + 7) v2.toNatClampNeg)) (st1 := []) tc_208 rfl rfl (fun _ => rfl) ⟨fun hc => ?_, fun hc => ?_⟩
  · have h := h.1 hc
    show Gd d w 208 _ (114, [some (aR 21 k0), some (aI v1), some (aI v2), some (aI s0)], [], M)
    obtain ⟨c0, h⟩ := h
    refine gd_s (P := True ∧ True ∧ True ∧ True ∧ (vp_in v2 (rK M (k0 + 7)).2) ∧ True ∧ True ∧ True) (σ1 := (14, [some (aR 21 k0), some (aI v1), some (aI (v2 + (-1 : Int32))), some (aI s0)], [], wI M (k0 + 7) v2.toNatClampNeg ((0 : Int32)))) tc_208 rfl 7 (fun u => ⟨_, rfl⟩) ⟨trivial, trivial, trivial, trivial, c0, trivial, trivial, trivial⟩ ?_
    exact hK14 k0 v1 (v2 + (-1 : Int32)) (some (aI s0)) (wI M (k0 + 7) v2.toNatClampNeg ((0 : Int32))) h
  · have h := h.2 hc
    show Gd d w 208 _ (65, [some (aR 21 k0), some (aI v1), some (aI v2), some (aI s0)], [], M)
    obtain ⟨c0, h⟩ := h
    refine gd_s (P := True ∧ True ∧ True ∧ True ∧ True ∧ True ∧ (vp_in v2 (rK M (k0 + 5)).2) ∧ True) (σ1 := (76, [some (aR 21 k0), some (aI v1), some (aI v2), some (aI s0)], [aI (rI M (k0 + 5) v2.toNatClampNeg), aI v2, aR 4 (k0 + 7)], M)) tc_208 rfl 7 (fun u => ⟨_, rfl⟩) ⟨trivial, trivial, trivial, trivial, trivial, trivial, c0, trivial⟩ ?_
    refine gd_br (c := (rI M (k0 + 5) v2.toNatClampNeg) = ((0 : Int32))) (st1 := [aI v2, aR 4 (k0 + 7)]) tc_208 rfl rfl (fun _ => rfl) ⟨fun hc => ?_, fun hc => ?_⟩
    · have h := h.1 hc
      show Gd d w 208 _ (90, [some (aR 21 k0), some (aI v1), some (aI v2), some (aI s0)], [aI v2, aR 4 (k0 + 7)], M)
      obtain ⟨c0, h⟩ := h
      refine gd_s (P := True ∧ True ∧ True ∧ (vp_in v2 (rK M (k0 + 7)).2) ∧ True) (σ1 := (96, [some (aR 21 k0), some (aI v1), some (aI v2), some (aI s0)], [aI (rI M (k0 + 7) v2.toNatClampNeg), aI v2, aR 4 (k0 + 7)], M)) tc_208 rfl 4 (fun u => ⟨_, rfl⟩) ⟨trivial, trivial, trivial, c0, trivial⟩ ?_
      refine gd_br (c := ¬ (rI M (k0 + 7) v2.toNatClampNeg) = ((0 : Int32))) (st1 := [aI v2, aR 4 (k0 + 7)]) tc_208 rfl rfl (fun _ => rfl) ⟨fun hc => ?_, fun hc => ?_⟩
      · have h := h.1 hc
        show Gd d w 208 _ (103, [some (aR 21 k0), some (aI v1), some (aI v2), some (aI s0)], [aI v2, aR 4 (k0 + 7)], M)
        obtain ⟨c0, c1, h⟩ := h
        refine gd_s (P := True ∧ True ∧ True ∧ True ∧ (vp_in v2 (rK M (k0 + 7)).2) ∧ True ∧ (vp_in v2 (rK M (k0 + 7)).2) ∧ True ∧ True) (σ1 := (113, [some (aR 21 k0), some (aI v1), some (aI v2), some (aI s0)], [aI ((1 : Int32))], wI M (k0 + 7) v2.toNatClampNeg (((2 : Int32)) * (rI M (k0 + 7) v2.toNatClampNeg)))) tc_208 rfl 8 (fun u => ⟨_, rfl⟩) ⟨trivial, trivial, trivial, trivial, c0, trivial, c1, trivial, trivial⟩ ?_
        exact gd_ret tc_208 rfl rfl h.1 (fun _ => rfl) ⟨_, rfl, h.2⟩
      · have h := h.2 hc
        show Gd d w 208 _ (99, [some (aR 21 k0), some (aI v1), some (aI v2), some (aI s0)], [aI v2, aR 4 (k0 + 7)], M)
        obtain ⟨c0, h⟩ := h
        refine gd_s (P := True ∧ True ∧ (vp_in v2 (rK M (k0 + 7)).2) ∧ True ∧ True) (σ1 := (113, [some (aR 21 k0), some (aI v1), some (aI v2), some (aI s0)], [aI ((1 : Int32))], wI M (k0 + 7) v2.toNatClampNeg ((1 : Int32)))) tc_208 rfl 4 (fun u => ⟨_, rfl⟩) ⟨trivial, trivial, c0, trivial, trivial⟩ ?_
        exact gd_ret tc_208 rfl rfl h.1 (fun _ => rfl) ⟨_, rfl, h.2⟩
    · have h := h.2 hc
      show Gd d w 208 _ (79, [some (aR 21 k0), some (aI v1), some (aI v2), some (aI s0)], [aI v2, aR 4 (k0 + 7)], M)
      obtain ⟨c0, c1, h⟩ := h
      refine gd_s (P := True ∧ True ∧ True ∧ (vp_in v2 (rK M (k0 + 7)).2) ∧ True ∧ True ∧ True ∧ (vp_in v2 (rK M (k0 + 7)).2) ∧ True ∧ True) (σ1 := (113, [some (aR 21 k0), some (aI v1), some (aI v2), some (aI s0)], [aI ((1 : Int32))], wI M (k0 + 7) v2.toNatClampNeg ((rI M (k0 + 7) v2.toNatClampNeg) + ((1 : Int32))))) tc_208 rfl 9 (fun u => ⟨_, rfl⟩) ⟨trivial, trivial, trivial, c0, trivial, trivial, trivial, c1, trivial, trivial⟩ ?_
      exact gd_ret tc_208 rfl rfl h.1 (fun _ => rfl) ⟨_, rfl, h.2⟩
def w_Mo_nextRequest_L14 (post : Int32 → aM → Prop) : Nat → Nat → Int32 → Int32 → aM → Prop
  | 0, _, _, _, _ => False
  | n + 1, k0, v1, v2, M => ((v2 < (((8 : Int32)) * v1)) → (((0 : Int32)) = 0 ∨ ((0 : Int32)) = 1) ∧ post ((0 : Int32)) M) ∧ (¬ (v2 < (((8 : Int32)) * v1)) → (vp_in v2 (rK M (k0 + 5)).2) ∧ ((((rI M (k0 + 5) v2.toNatClampNeg) = ((0 : Int32))) → (vp_in v2 (rK M (k0 + 4)).2) ∧ (w_Mo_nextRequest_J54 post (w_Mo_nextRequest_L14 post n) k0 v1 v2 (((1 : Int32)) <<< (((rI M (k0 + 4) v2.toNatClampNeg) - ((1 : Int32))) &&& 31)) M)) ∧ (¬ ((rI M (k0 + 5) v2.toNatClampNeg) = ((0 : Int32))) → (vp_in v2 (rK M (k0 + 4)).2) ∧ (w_Mo_nextRequest_J54 post (w_Mo_nextRequest_L14 post n) k0 v1 v2 ((((1 : Int32)) <<< ((rI M (k0 + 4) v2.toNatClampNeg) &&& 31)) - ((1 : Int32))) M))))
theorem g_Mo_nextRequest_L14 {d w : Nat} (hd : 0 ≤ d) (hw : 0 ≤ w) {post : Int32 → aM → Prop} : ∀ (n : Nat) (k0 : Nat) (v1 : Int32) (v2 : Int32) (o3 : Option aV) (M : aM), w_Mo_nextRequest_L14 post n k0 v1 v2 M → Gd d w 208 (pI post) (14, [some (aR 21 k0), some (aI v1), some (aI v2), o3], [], M) := by
  intro n
  induction n with
  | zero => intro k0 v1 v2 o3 M h; exact h.elim
  | succ n ih =>
    intro k0 v1 v2 o3 M h
    show Gd d w 208 _ (14, [some (aR 21 k0), some (aI v1), some (aI v2), o3], [], M)
    refine gd_s (P := True ∧ True ∧ True ∧ True ∧ True) (σ1 := (19, [some (aR 21 k0), some (aI v1), some (aI v2), o3], [aI (((8 : Int32)) * v1), aI v2], M)) tc_208 rfl 4 (fun u => ⟨_, rfl⟩) ⟨trivial, trivial, trivial, trivial, trivial⟩ ?_
    refine gd_br (c := v2 < (((8 : Int32)) * v1)) (st1 := []) tc_208 rfl rfl (fun _ => rfl) ⟨fun hc => ?_, fun hc => ?_⟩
    · have h := h.1 hc
      show Gd d w 208 _ (127, [some (aR 21 k0), some (aI v1), some (aI v2), o3], [], M)
      refine gd_s (P := True ∧ True) (σ1 := (128, [some (aR 21 k0), some (aI v1), some (aI v2), o3], [aI ((0 : Int32))], M)) tc_208 rfl 1 (fun u => ⟨_, rfl⟩) ⟨trivial, trivial⟩ ?_
      exact gd_ret tc_208 rfl rfl h.1 (fun _ => rfl) ⟨_, rfl, h.2⟩
    · have h := h.2 hc
      show Gd d w 208 _ (22, [some (aR 21 k0), some (aI v1), some (aI v2), o3], [], M)
      obtain ⟨c0, h⟩ := h
      refine gd_s (P := True ∧ True ∧ True ∧ (vp_in v2 (rK M (k0 + 5)).2) ∧ True) (σ1 := (28, [some (aR 21 k0), some (aI v1), some (aI v2), o3], [aI (rI M (k0 + 5) v2.toNatClampNeg)], M)) tc_208 rfl 4 (fun u => ⟨_, rfl⟩) ⟨trivial, trivial, trivial, c0, trivial⟩ ?_
      refine gd_br (c := (rI M (k0 + 5) v2.toNatClampNeg) = ((0 : Int32))) (st1 := []) tc_208 rfl rfl (fun _ => rfl) ⟨fun hc => ?_, fun hc => ?_⟩
      · have h := h.1 hc
        show Gd d w 208 _ (44, [some (aR 21 k0), some (aI v1), some (aI v2), o3], [], M)
        obtain ⟨c0, h⟩ := h
        refine gd_s (P := True ∧ True ∧ True ∧ True ∧ (vp_in v2 (rK M (k0 + 4)).2) ∧ True ∧ True ∧ True ∧ True) (σ1 := (54, [some (aR 21 k0), some (aI v1), some (aI v2), o3], [aI (((1 : Int32)) <<< (((rI M (k0 + 4) v2.toNatClampNeg) - ((1 : Int32))) &&& 31))], M)) tc_208 rfl 8 (fun u => ⟨_, rfl⟩) ⟨trivial, trivial, trivial, trivial, c0, trivial, trivial, trivial, trivial⟩ ?_
        exact g_Mo_nextRequest_J54 hd hw ih k0 v1 v2 (((1 : Int32)) <<< (((rI M (k0 + 4) v2.toNatClampNeg) - ((1 : Int32))) &&& 31)) o3 M h
      · have h := h.2 hc
        show Gd d w 208 _ (31, [some (aR 21 k0), some (aI v1), some (aI v2), o3], [], M)
        obtain ⟨c0, h⟩ := h
        refine gd_s (P := True ∧ True ∧ True ∧ True ∧ (vp_in v2 (rK M (k0 + 4)).2) ∧ True ∧ True ∧ True ∧ True ∧ True) (σ1 := (54, [some (aR 21 k0), some (aI v1), some (aI v2), o3], [aI ((((1 : Int32)) <<< ((rI M (k0 + 4) v2.toNatClampNeg) &&& 31)) - ((1 : Int32)))], M)) tc_208 rfl 9 (fun u => ⟨_, rfl⟩) ⟨trivial, trivial, trivial, trivial, c0, trivial, trivial, trivial, trivial, trivial⟩ ?_
        exact g_Mo_nextRequest_J54 hd hw ih k0 v1 v2 ((((1 : Int32)) <<< ((rI M (k0 + 4) v2.toNatClampNeg) &&& 31)) - ((1 : Int32))) o3 M h
/-- PolicyJudgeModel.nextRequest(I)Z -/
def w_Mo_nextRequest (post : Int32 → aM → Prop) (k0 : Nat) (v1 : Int32) (M : aM) : Prop := (vp_in v1 (rK M (k0 + 3)).2) ∧ (∃ n9, w_Mo_nextRequest_L14 post n9 k0 v1 (((((8 : Int32)) * v1) + (rI M (k0 + 3) v1.toNatClampNeg)) - ((1 : Int32))) M)
theorem g_Mo_nextRequest {d w : Nat} (hd : 0 ≤ d) (hw : 0 ≤ w) {post : Int32 → aM → Prop} {k0 : Nat} {v1 : Int32} {M : aM} (h : w_Mo_nextRequest post k0 v1 M) : Gd d w 208 (pI post) (0, aEnt 208 [aR 21 k0, aI v1], [], M) := by
  unfold w_Mo_nextRequest at h
  show Gd d w 208 _ (0, [some (aR 21 k0), some (aI v1), none, none], [], M)
  obtain ⟨c0, h⟩ := h
  refine gd_s (P := True ∧ True ∧ True ∧ True ∧ True ∧ True ∧ (vp_in v1 (rK M (k0 + 3)).2) ∧ True ∧ True ∧ True ∧ True ∧ True) (σ1 := (14, [some (aR 21 k0), some (aI v1), some (aI (((((8 : Int32)) * v1) + (rI M (k0 + 3) v1.toNatClampNeg)) - ((1 : Int32)))), none], [], M)) tc_208 rfl 11 (fun u => ⟨_, rfl⟩) ⟨trivial, trivial, trivial, trivial, trivial, trivial, c0, trivial, trivial, trivial, trivial, trivial⟩ ?_
  obtain ⟨n9, h⟩ := h
  exact g_Mo_nextRequest_L14 hd hw n9 k0 v1 (((((8 : Int32)) * v1) + (rI M (k0 + 3) v1.toNatClampNeg)) - ((1 : Int32))) none M h
theorem tc_209 : tC 209 = c209 := rfl
def w_Mo_restore_L28 (post : aM → Prop) : Nat → Nat → Int32 → aM → Prop
  | 0, _, _, _ => False
  | n + 1, k0, v1, M => ((((200 : Int32)) ≤ v1) → post M) ∧ (¬ (((200 : Int32)) ≤ v1) → (vp_in v1 (rK M (k0 + 44)).2) ∧ (vp_in v1 (rK M (k0 + 29)).2) ∧ (vp_in v1 (rK M (k0 + 45)).2) ∧ (vp_in v1 (rK M (k0 + 30)).2) ∧ (w_Mo_restore_L28 post n k0 (v1 + (1 : Int32)) (wI (wI M (k0 + 29) v1.toNatClampNeg (rI M (k0 + 44) v1.toNatClampNeg)) (k0 + 30) v1.toNatClampNeg (rI (wI M (k0 + 29) v1.toNatClampNeg (rI M (k0 + 44) v1.toNatClampNeg)) (k0 + 45) v1.toNatClampNeg))))
theorem g_Mo_restore_L28 {d w : Nat} (hd : 0 ≤ d) (hw : 0 ≤ w) {post : aM → Prop} : ∀ (n : Nat) (k0 : Nat) (v1 : Int32) (M : aM), w_Mo_restore_L28 post n k0 v1 M → Gd d w 209 (pV post) (28, [some (aR 21 k0), some (aI v1)], [], M) := by
  intro n
  induction n with
  | zero => intro k0 v1 M h; exact h.elim
  | succ n ih =>
    intro k0 v1 M h
    show Gd d w 209 _ (28, [some (aR 21 k0), some (aI v1)], [], M)
    refine gd_s (P := True ∧ True ∧ True) (σ1 := (32, [some (aR 21 k0), some (aI v1)], [aI ((200 : Int32)), aI v1], M)) tc_209 rfl 2 (fun u => ⟨_, rfl⟩) ⟨trivial, trivial, trivial⟩ ?_
    refine gd_br (c := ((200 : Int32)) ≤ v1) (st1 := []) tc_209 rfl rfl (fun _ => rfl) ⟨fun hc => ?_, fun hc => ?_⟩
    · have h := h.1 hc
      show Gd d w 209 _ (65, [some (aR 21 k0), some (aI v1)], [], M)
      exact gd_ret tc_209 rfl rfl trivial (fun _ => rfl) ⟨rfl, h⟩
    · have h := h.2 hc
      show Gd d w 209 _ (35, [some (aR 21 k0), some (aI v1)], [], M)
      obtain ⟨c0, c1, c2, c3, h⟩ := h
      refine gd_s (P := True ∧ True ∧ True ∧ True ∧ True ∧ True ∧ (vp_in v1 (rK M (k0 + 44)).2) ∧ (vp_in v1 (rK M (k0 + 29)).2) ∧ True ∧ True ∧ True ∧ True ∧ True ∧ True ∧ (vp_in v1 (rK M (k0 + 45)).2) ∧ (vp_in v1 (rK M (k0 + 30)).2) ∧ True ∧ True ∧ True) (σ1 := (28, [some (aR 21 k0), some (aI (v1 + (1 : Int32)))], [], wI (wI M (k0 + 29) v1.toNatClampNeg (rI M (k0 + 44) v1.toNatClampNeg)) (k0 + 30) v1.toNatClampNeg (rI (wI M (k0 + 29) v1.toNatClampNeg (rI M (k0 + 44) v1.toNatClampNeg)) (k0 + 45) v1.toNatClampNeg))) tc_209 rfl 18 (fun u => ⟨_, rfl⟩) ⟨trivial, trivial, trivial, trivial, trivial, trivial, c0, c1, trivial, trivial, trivial, trivial, trivial, trivial, c2, c3, trivial, trivial, trivial⟩ ?_
      exact ih k0 (v1 + (1 : Int32)) (wI (wI M (k0 + 29) v1.toNatClampNeg (rI M (k0 + 44) v1.toNatClampNeg)) (k0 + 30) v1.toNatClampNeg (rI (wI M (k0 + 29) v1.toNatClampNeg (rI M (k0 + 44) v1.toNatClampNeg)) (k0 + 45) v1.toNatClampNeg)) h
def w_Mo_restore_L2 (post : aM → Prop) : Nat → Nat → Int32 → aM → Prop
  | 0, _, _, _ => False
  | n + 1, k0, v1, M => ((((16 : Int32)) ≤ v1) → ∃ n9, w_Mo_restore_L28 post n9 k0 ((0 : Int32)) M) ∧ (¬ (((16 : Int32)) ≤ v1) → (vp_in v1 (rK M (k0 + 43)).2) ∧ (vp_in v1 (rK M (k0 + 7)).2) ∧ (w_Mo_restore_L2 post n k0 (v1 + (1 : Int32)) (wI M (k0 + 7) v1.toNatClampNeg (rI M (k0 + 43) v1.toNatClampNeg))))
theorem g_Mo_restore_L2 {d w : Nat} (hd : 0 ≤ d) (hw : 0 ≤ w) {post : aM → Prop} : ∀ (n : Nat) (k0 : Nat) (v1 : Int32) (M : aM), w_Mo_restore_L2 post n k0 v1 M → Gd d w 209 (pV post) (2, [some (aR 21 k0), some (aI v1)], [], M) := by
  intro n
  induction n with
  | zero => intro k0 v1 M h; exact h.elim
  | succ n ih =>
    intro k0 v1 M h
    show Gd d w 209 _ (2, [some (aR 21 k0), some (aI v1)], [], M)
    refine gd_s (P := True ∧ True ∧ True) (σ1 := (5, [some (aR 21 k0), some (aI v1)], [aI ((16 : Int32)), aI v1], M)) tc_209 rfl 2 (fun u => ⟨_, rfl⟩) ⟨trivial, trivial, trivial⟩ ?_
    refine gd_br (c := ((16 : Int32)) ≤ v1) (st1 := []) tc_209 rfl rfl (fun _ => rfl) ⟨fun hc => ?_, fun hc => ?_⟩
    · have h := h.1 hc
      show Gd d w 209 _ (26, [some (aR 21 k0), some (aI v1)], [], M)
      refine gd_s (P := True ∧ True ∧ True) (σ1 := (28, [some (aR 21 k0), some (aI ((0 : Int32)))], [], M)) tc_209 rfl 2 (fun u => ⟨_, rfl⟩) ⟨trivial, trivial, trivial⟩ ?_
      obtain ⟨n9, h⟩ := h
      exact g_Mo_restore_L28 hd hw n9 k0 ((0 : Int32)) M h
    · have h := h.2 hc
      show Gd d w 209 _ (8, [some (aR 21 k0), some (aI v1)], [], M)
      obtain ⟨c0, c1, h⟩ := h
      refine gd_s (P := True ∧ True ∧ True ∧ True ∧ True ∧ True ∧ (vp_in v1 (rK M (k0 + 43)).2) ∧ (vp_in v1 (rK M (k0 + 7)).2) ∧ True ∧ True ∧ True) (σ1 := (2, [some (aR 21 k0), some (aI (v1 + (1 : Int32)))], [], wI M (k0 + 7) v1.toNatClampNeg (rI M (k0 + 43) v1.toNatClampNeg))) tc_209 rfl 10 (fun u => ⟨_, rfl⟩) ⟨trivial, trivial, trivial, trivial, trivial, trivial, c0, c1, trivial, trivial, trivial⟩ ?_
      exact ih k0 (v1 + (1 : Int32)) (wI M (k0 + 7) v1.toNatClampNeg (rI M (k0 + 43) v1.toNatClampNeg)) h
/-- PolicyJudgeModel.restore()V -/
def w_Mo_restore (post : aM → Prop) (k0 : Nat) (M : aM) : Prop := ∃ n9, w_Mo_restore_L2 post n9 k0 ((0 : Int32)) M
theorem g_Mo_restore {d w : Nat} (hd : 0 ≤ d) (hw : 0 ≤ w) {post : aM → Prop} {k0 : Nat} {M : aM} (h : w_Mo_restore post k0 M) : Gd d w 209 (pV post) (0, aEnt 209 [aR 21 k0], [], M) := by
  unfold w_Mo_restore at h
  show Gd d w 209 _ (0, [some (aR 21 k0), none], [], M)
  refine gd_s (P := True ∧ True ∧ True) (σ1 := (2, [some (aR 21 k0), some (aI ((0 : Int32)))], [], M)) tc_209 rfl 2 (fun u => ⟨_, rfl⟩) ⟨trivial, trivial, trivial⟩ ?_
  obtain ⟨n9, h⟩ := h
  exact g_Mo_restore_L2 hd hw n9 k0 ((0 : Int32)) M h
theorem tc_202 : tC 202 = c202 := rfl
def w_Mo_same_J223 (post : Int32 → aM → Prop) (v1 : Int32) (t0 : Nat) (s1 : Int32) (M : aM) : Prop := (s1 = 0 ∨ s1 = 1) ∧ (((v1 = ((0 : Int32))) → post ((0 : Int32)) (wI M t0 54 s1)) ∧ (¬ (v1 = ((0 : Int32))) → post ((1 : Int32)) (wI M t0 54 s1)))
theorem g_Mo_same_J223 {d w : Nat} (hd : 4 ≤ d) (hw : 100 ≤ w) {post : Int32 → aM → Prop} (v1 : Int32) (t0 : Nat) (s1 : Int32) (o0 o2 o3 : Option aV) (M : aM) (h : w_Mo_same_J223 post v1 t0 s1 M) : Gd d w 202 (pI post) (223, [o0, some (aI v1), o2, o3], [aI s1, aR 21 t0], M) := by
  unfold w_Mo_same_J223 at h
  show Gd d w 202 _ (223, [o0, some (aI v1), o2, o3], [aI s1, aR 21 t0], M)
  obtain ⟨c0, h⟩ := h
  refine gd_s (P := (s1 = 0 ∨ s1 = 1) ∧ True ∧ True) (σ1 := (227, [o0, some (aI v1), o2, o3], [aI v1], wI M t0 54 s1)) tc_202 rfl 2 (fun u => ⟨_, rfl⟩) ⟨c0, trivial, trivial⟩ ?_
  refine gd_br (c := v1 = ((0 : Int32))) (st1 := []) tc_202 rfl rfl (fun _ => rfl) ⟨fun hc => ?_, fun hc => ?_⟩
  · have h := h.1 hc
    show Gd d w 202 _ (234, [o0, some (aI v1), o2, o3], [], wI M t0 54 s1)
    refine gd_s (P := True ∧ True) (σ1 := (235, [o0, some (aI v1), o2, o3], [aI ((0 : Int32))], wI M t0 54 s1)) tc_202 rfl 1 (fun u => ⟨_, rfl⟩) ⟨trivial, trivial⟩ ?_
    exact gd_ret tc_202 rfl rfl trivial (fun _ => rfl) ⟨_, rfl, h⟩
  · have h := h.2 hc
    show Gd d w 202 _ (230, [o0, some (aI v1), o2, o3], [], wI M t0 54 s1)
    refine gd_s (P := True ∧ True ∧ True) (σ1 := (235, [o0, some (aI v1), o2, o3], [aI ((1 : Int32))], wI M t0 54 s1)) tc_202 rfl 2 (fun u => ⟨_, rfl⟩) ⟨trivial, trivial, trivial⟩ ?_
    exact gd_ret tc_202 rfl rfl trivial (fun _ => rfl) ⟨_, rfl, h⟩
def w_Mo_same_J195 (post : Int32 → aM → Prop) (K90 : Nat → Int32 → Int32 → aM → Prop) (k0 : Nat) (v1 : Int32) (M : aM) : Prop := w_Mo_nextRequest (fun x1 M1 => K90 k0 v1 x1 M1) k0 ((0 : Int32)) M
theorem g_Mo_same_J195 {d w : Nat} (hd : 4 ≤ d) (hw : 100 ≤ w) {post : Int32 → aM → Prop} {K90 : Nat → Int32 → Int32 → aM → Prop} (hK90 : ∀ (k0 : Nat) (v1 : Int32) (v2 : Int32) (o3 : Option aV) (M : aM), K90 k0 v1 v2 M → Gd d w 202 (pI post) (90, [some (aR 21 k0), some (aI v1), some (aI v2), o3], [], M)) (k0 : Nat) (v1 : Int32) (o2 o3 : Option aV) (M : aM) (h : w_Mo_same_J195 post K90 k0 v1 M) : Gd d w 202 (pI post) (195, [some (aR 21 k0), some (aI v1), o2, o3], [], M) := by
  unfold w_Mo_same_J195 at h
  show Gd d w 202 _ (195, [some (aR 21 k0), some (aI v1), o2, o3], [], M)
  refine gd_s (P := True ∧ True ∧ True) (σ1 := (197, [some (aR 21 k0), some (aI v1), o2, o3], [aI ((0 : Int32)), aR 21 k0], M)) tc_202 rfl 2 (fun u => ⟨_, rfl⟩) ⟨trivial, trivial, trivial⟩ ?_
  refine gd_callN (ml := 4) (as := [aR 21 k0, aI ((0 : Int32))]) (rest := []) tc_202 rfl rfl rfl rfl rfl (by omega) (by omega) (Nat.le_of_ble_eq_true rfl) rfl (g_Mo_nextRequest (by omega) (by omega) h) (fun r9 M1 h => ?_)
  obtain ⟨x1, rfl, h⟩ := h
  show Gd d w 202 _ (200, [some (aR 21 k0), some (aI v1), o2, o3], [aI x1], M1)
  refine gd_s (P := True ∧ True ∧ True) (σ1 := (90, [some (aR 21 k0), some (aI v1), some (aI x1), o3], [], M1)) tc_202 rfl 2 (fun u => ⟨_, rfl⟩) ⟨trivial, trivial, trivial⟩ ?_
  exact hK90 k0 v1 x1 o3 M1 h
def w_Mo_same_L96 (post : Int32 → aM → Prop) (K90 : Nat → Int32 → Int32 → aM → Prop) : Nat → Nat → Int32 → Int32 → aM → Prop
  | 0, _, _, _, _ => False
  | n + 1, k0, v1, v3, M => (vp_in ((0 : Int32)) (rK M (k0 + 3)).2) ∧ ((((rI M (k0 + 3) ((0 : Int32)).toNatClampNeg) ≤ v3) → w_Mo_judge (fun M1 => w_Mo_judge (fun M2 => (vp_in ((0 : Int32)) (rK M2 (k0 + 29)).2) ∧ (vp_in ((100 : Int32)) (rK M2 (k0 + 29)).2) ∧ (vp_in ((((6 : Int32)) * (rI M2 (k0 + 29) ((0 : Int32)).toNatClampNeg)) + (rI M2 (k0 + 29) ((100 : Int32)).toNatClampNeg)) (rK M2 (k0 + 41)).2) ∧ (vp_in ((((6 : Int32)) * (rI M2 (k0 + 29) ((0 : Int32)).toNatClampNeg)) + (rI M2 (k0 + 29) ((100 : Int32)).toNatClampNeg)) (rK M2 (k0 + 41)).2) ∧ (((v1 = ((0 : Int32))) → w_Mo_same_J195 post K90 k0 v1 (wI M2 (k0 + 41) ((((6 : Int32)) * (rI M2 (k0 + 29) ((0 : Int32)).toNatClampNeg)) + (rI M2 (k0 + 29) ((100 : Int32)).toNatClampNeg)).toNatClampNeg ((rI M2 (k0 + 41) ((((6 : Int32)) * (rI M2 (k0 + 29) ((0 : Int32)).toNatClampNeg)) + (rI M2 (k0 + 29) ((100 : Int32)).toNatClampNeg)).toNatClampNeg) + ((1 : Int32))))) ∧ (¬ (v1 = ((0 : Int32))) → (vp_in ((0 : Int32)) (rK M2 (k0 + 29)).2) ∧ (vp_in ((100 : Int32)) (rK M2 (k0 + 29)).2) ∧ ((((rI (wI M2 (k0 + 41) ((((6 : Int32)) * (rI M2 (k0 + 29) ((0 : Int32)).toNatClampNeg)) + (rI M2 (k0 + 29) ((100 : Int32)).toNatClampNeg)).toNatClampNeg ((rI M2 (k0 + 41) ((((6 : Int32)) * (rI M2 (k0 + 29) ((0 : Int32)).toNatClampNeg)) + (rI M2 (k0 + 29) ((100 : Int32)).toNatClampNeg)).toNatClampNeg) + ((1 : Int32)))) (k0 + 29) ((0 : Int32)).toNatClampNeg) = (rI (wI M2 (k0 + 41) ((((6 : Int32)) * (rI M2 (k0 + 29) ((0 : Int32)).toNatClampNeg)) + (rI M2 (k0 + 29) ((100 : Int32)).toNatClampNeg)).toNatClampNeg ((rI M2 (k0 + 41) ((((6 : Int32)) * (rI M2 (k0 + 29) ((0 : Int32)).toNatClampNeg)) + (rI M2 (k0 + 29) ((100 : Int32)).toNatClampNeg)).toNatClampNeg) + ((1 : Int32)))) (k0 + 29) ((100 : Int32)).toNatClampNeg)) → w_Mo_same_J195 post K90 k0 v1 (wI M2 (k0 + 41) ((((6 : Int32)) * (rI M2 (k0 + 29) ((0 : Int32)).toNatClampNeg)) + (rI M2 (k0 + 29) ((100 : Int32)).toNatClampNeg)).toNatClampNeg ((rI M2 (k0 + 41) ((((6 : Int32)) * (rI M2 (k0 + 29) ((0 : Int32)).toNatClampNeg)) + (rI M2 (k0 + 29) ((100 : Int32)).toNatClampNeg)).toNatClampNeg) + ((1 : Int32))))) ∧ (¬ ((rI (wI M2 (k0 + 41) ((((6 : Int32)) * (rI M2 (k0 + 29) ((0 : Int32)).toNatClampNeg)) + (rI M2 (k0 + 29) ((100 : Int32)).toNatClampNeg)).toNatClampNeg ((rI M2 (k0 + 41) ((((6 : Int32)) * (rI M2 (k0 + 29) ((0 : Int32)).toNatClampNeg)) + (rI M2 (k0 + 29) ((100 : Int32)).toNatClampNeg)).toNatClampNeg) + ((1 : Int32)))) (k0 + 29) ((0 : Int32)).toNatClampNeg) = (rI (wI M2 (k0 + 41) ((((6 : Int32)) * (rI M2 (k0 + 29) ((0 : Int32)).toNatClampNeg)) + (rI M2 (k0 + 29) ((100 : Int32)).toNatClampNeg)).toNatClampNeg ((rI M2 (k0 + 41) ((((6 : Int32)) * (rI M2 (k0 + 29) ((0 : Int32)).toNatClampNeg)) + (rI M2 (k0 + 29) ((100 : Int32)).toNatClampNeg)).toNatClampNeg) + ((1 : Int32)))) (k0 + 29) ((100 : Int32)).toNatClampNeg)) → w_Mo_isWitness (fun M3 => w_Mo_same_J195 post K90 k0 ((0 : Int32)) M3) k0 ((0 : Int32)) (wI M2 (k0 + 41) ((((6 : Int32)) * (rI M2 (k0 + 29) ((0 : Int32)).toNatClampNeg)) + (rI M2 (k0 + 29) ((100 : Int32)).toNatClampNeg)).toNatClampNeg ((rI M2 (k0 + 41) ((((6 : Int32)) * (rI M2 (k0 + 29) ((0 : Int32)).toNatClampNeg)) + (rI M2 (k0 + 29) ((100 : Int32)).toNatClampNeg)).toNatClampNeg) + ((1 : Int32))))))))) k0 ((1 : Int32)) M1) k0 ((0 : Int32)) M) ∧ (¬ ((rI M (k0 + 3) ((0 : Int32)).toNatClampNeg) ≤ v3) → (vp_in v3 (rK M (k0 + 46)).2) ∧ (vp_in v3 (rK M (k0 + 7)).2) ∧ (vp_in (((8 : Int32)) + (rI M (k0 + 46) v3.toNatClampNeg)) (rK M (k0 + 7)).2) ∧ (w_Mo_same_L96 post K90 n k0 v1 (v3 + (1 : Int32)) (wI M (k0 + 7) (((8 : Int32)) + (rI M (k0 + 46) v3.toNatClampNeg)).toNatClampNeg (rI M (k0 + 7) v3.toNatClampNeg)))))
theorem g_Mo_same_L96 {d w : Nat} (hd : 4 ≤ d) (hw : 100 ≤ w) {post : Int32 → aM → Prop} {K90 : Nat → Int32 → Int32 → aM → Prop} (hK90 : ∀ (k0 : Nat) (v1 : Int32) (v2 : Int32) (o3 : Option aV) (M : aM), K90 k0 v1 v2 M → Gd d w 202 (pI post) (90, [some (aR 21 k0), some (aI v1), some (aI v2), o3], [], M)) : ∀ (n : Nat) (k0 : Nat) (v1 : Int32) (v3 : Int32) (o2 : Option aV) (M : aM), w_Mo_same_L96 post K90 n k0 v1 v3 M → Gd d w 202 (pI post) (96, [some (aR 21 k0), some (aI v1), o2, some (aI v3)], [], M) := by
  intro n
  induction n with
  | zero => intro k0 v1 v3 o2 M h; exact h.elim
  | succ n ih =>
    intro k0 v1 v3 o2 M h
    show Gd d w 202 _ (96, [some (aR 21 k0), some (aI v1), o2, some (aI v3)], [], M)
    obtain ⟨c0, h⟩ := h
    refine gd_s (P := True ∧ True ∧ True ∧ True ∧ (vp_in ((0 : Int32)) (rK M (k0 + 3)).2) ∧ True) (σ1 := (103, [some (aR 21 k0), some (aI v1), o2, some (aI v3)], [aI (rI M (k0 + 3) ((0 : Int32)).toNatClampNeg), aI v3], M)) tc_202 rfl 5 (fun u => ⟨_, rfl⟩) ⟨trivial, trivial, trivial, trivial, c0, trivial⟩ ?_
    refine gd_br (c := (rI M (k0 + 3) ((0 : Int32)).toNatClampNeg) ≤ v3) (st1 := []) tc_202 rfl rfl (fun _ => rfl) ⟨fun hc => ?_, fun hc => ?_⟩
    · have h := h.1 hc
      show Gd d w 202 _ (132, [some (aR 21 k0), some (aI v1), o2, some (aI v3)], [], M)
      refine gd_s (P := True ∧ True ∧ True) (σ1 := (134, [some (aR 21 k0), some (aI v1), o2, some (aI v3)], [aI ((0 : Int32)), aR 21 k0], M)) tc_202 rfl 2 (fun u => ⟨_, rfl⟩) ⟨trivial, trivial, trivial⟩ ?_
      refine gd_callN (ml := 5) (as := [aR 21 k0, aI ((0 : Int32))]) (rest := []) tc_202 rfl rfl rfl rfl rfl (by omega) (by omega) (Nat.le_of_ble_eq_true rfl) rfl (g_Mo_judge (by omega) (by omega) h) (fun r9 M1 h => ?_)
      obtain ⟨rfl, h⟩ := h
      show Gd d w 202 _ (137, [some (aR 21 k0), some (aI v1), o2, some (aI v3)], [], M1)
      refine gd_s (P := True ∧ True ∧ True) (σ1 := (139, [some (aR 21 k0), some (aI v1), o2, some (aI v3)], [aI ((1 : Int32)), aR 21 k0], M1)) tc_202 rfl 2 (fun u => ⟨_, rfl⟩) ⟨trivial, trivial, trivial⟩ ?_
      refine gd_callN (ml := 5) (as := [aR 21 k0, aI ((1 : Int32))]) (rest := []) tc_202 rfl rfl rfl rfl rfl (by omega) (by omega) (Nat.le_of_ble_eq_true rfl) rfl (g_Mo_judge (by omega) (by omega) h) (fun r9 M2 h => ?_)
      obtain ⟨rfl, h⟩ := h
      show Gd d w 202 _ (142, [some (aR 21 k0), some (aI v1), o2, some (aI v3)], [], M2)
      obtain ⟨c0, c1, c2, c3, h⟩ := h
      refine gd_s (P := True ∧ True ∧ True ∧ True ∧ True ∧ True ∧ (vp_in ((0 : Int32)) (rK M2 (k0 + 29)).2) ∧ True ∧ True ∧ True ∧ True ∧ (vp_in ((100 : Int32)) (rK M2 (k0 + 29)).2) ∧ True ∧ True ∧ (vp_in ((((6 : Int32)) * (rI M2 (k0 + 29) ((0 : Int32)).toNatClampNeg)) + (rI M2 (k0 + 29) ((100 : Int32)).toNatClampNeg)) (rK M2 (k0 + 41)).2) ∧ True ∧ True ∧ (vp_in ((((6 : Int32)) * (rI M2 (k0 + 29) ((0 : Int32)).toNatClampNeg)) + (rI M2 (k0 + 29) ((100 : Int32)).toNatClampNeg)) (rK M2 (k0 + 41)).2) ∧ True ∧ True) (σ1 := (169, [some (aR 21 k0), some (aI v1), o2, some (aI v3)], [aI v1], wI M2 (k0 + 41) ((((6 : Int32)) * (rI M2 (k0 + 29) ((0 : Int32)).toNatClampNeg)) + (rI M2 (k0 + 29) ((100 : Int32)).toNatClampNeg)).toNatClampNeg ((rI M2 (k0 + 41) ((((6 : Int32)) * (rI M2 (k0 + 29) ((0 : Int32)).toNatClampNeg)) + (rI M2 (k0 + 29) ((100 : Int32)).toNatClampNeg)).toNatClampNeg) + ((1 : Int32))))) tc_202 rfl 19 (fun u => ⟨_, rfl⟩) ⟨trivial, trivial, trivial, trivial, trivial, trivial, c0, trivial, trivial, trivial, trivial, c1, trivial, trivial, c2, trivial, trivial, c3, trivial, trivial⟩ ?_
      refine gd_br (c := v1 = ((0 : Int32))) (st1 := []) tc_202 rfl rfl (fun _ => rfl) ⟨fun hc => ?_, fun hc => ?_⟩
      · have h := h.1 hc
        exact g_Mo_same_J195 hd hw hK90 k0 v1 o2 (some (aI v3)) (wI M2 (k0 + 41) ((((6 : Int32)) * (rI M2 (k0 + 29) ((0 : Int32)).toNatClampNeg)) + (rI M2 (k0 + 29) ((100 : Int32)).toNatClampNeg)).toNatClampNeg ((rI M2 (k0 + 41) ((((6 : Int32)) * (rI M2 (k0 + 29) ((0 : Int32)).toNatClampNeg)) + (rI M2 (k0 + 29) ((100 : Int32)).toNatClampNeg)).toNatClampNeg) + ((1 : Int32)))) h
      · have h := h.2 hc
        show Gd d w 202 _ (172, [some (aR 21 k0), some (aI v1), o2, some (aI v3)], [], wI M2 (k0 + 41) ((((6 : Int32)) * (rI M2 (k0 + 29) ((0 : Int32)).toNatClampNeg)) + (rI M2 (k0 + 29) ((100 : Int32)).toNatClampNeg)).toNatClampNeg ((rI M2 (k0 + 41) ((((6 : Int32)) * (rI M2 (k0 + 29) ((0 : Int32)).toNatClampNeg)) + (rI M2 (k0 + 29) ((100 : Int32)).toNatClampNeg)).toNatClampNeg) + ((1 : Int32))))
        obtain ⟨c0, c1, h⟩ := h
        refine gd_s (P := True ∧ True ∧ True ∧ (vp_in ((0 : Int32)) (rK M2 (k0 + 29)).2) ∧ True ∧ True ∧ True ∧ (vp_in ((100 : Int32)) (rK M2 (k0 + 29)).2) ∧ True) (σ1 := (185, [some (aR 21 k0), some (aI v1), o2, some (aI v3)], [aI (rI (wI M2 (k0 + 41) ((((6 : Int32)) * (rI M2 (k0 + 29) ((0 : Int32)).toNatClampNeg)) + (rI M2 (k0 + 29) ((100 : Int32)).toNatClampNeg)).toNatClampNeg ((rI M2 (k0 + 41) ((((6 : Int32)) * (rI M2 (k0 + 29) ((0 : Int32)).toNatClampNeg)) + (rI M2 (k0 + 29) ((100 : Int32)).toNatClampNeg)).toNatClampNeg) + ((1 : Int32)))) (k0 + 29) ((100 : Int32)).toNatClampNeg), aI (rI (wI M2 (k0 + 41) ((((6 : Int32)) * (rI M2 (k0 + 29) ((0 : Int32)).toNatClampNeg)) + (rI M2 (k0 + 29) ((100 : Int32)).toNatClampNeg)).toNatClampNeg ((rI M2 (k0 + 41) ((((6 : Int32)) * (rI M2 (k0 + 29) ((0 : Int32)).toNatClampNeg)) + (rI M2 (k0 + 29) ((100 : Int32)).toNatClampNeg)).toNatClampNeg) + ((1 : Int32)))) (k0 + 29) ((0 : Int32)).toNatClampNeg)], wI M2 (k0 + 41) ((((6 : Int32)) * (rI M2 (k0 + 29) ((0 : Int32)).toNatClampNeg)) + (rI M2 (k0 + 29) ((100 : Int32)).toNatClampNeg)).toNatClampNeg ((rI M2 (k0 + 41) ((((6 : Int32)) * (rI M2 (k0 + 29) ((0 : Int32)).toNatClampNeg)) + (rI M2 (k0 + 29) ((100 : Int32)).toNatClampNeg)).toNatClampNeg) + ((1 : Int32))))) tc_202 rfl 8 (fun u => ⟨_, rfl⟩) ⟨trivial, trivial, trivial, c0, trivial, trivial, trivial, c1, trivial⟩ ?_
        refine gd_br (c := (rI (wI M2 (k0 + 41) ((((6 : Int32)) * (rI M2 (k0 + 29) ((0 : Int32)).toNatClampNeg)) + (rI M2 (k0 + 29) ((100 : Int32)).toNatClampNeg)).toNatClampNeg ((rI M2 (k0 + 41) ((((6 : Int32)) * (rI M2 (k0 + 29) ((0 : Int32)).toNatClampNeg)) + (rI M2 (k0 + 29) ((100 : Int32)).toNatClampNeg)).toNatClampNeg) + ((1 : Int32)))) (k0 + 29) ((0 : Int32)).toNatClampNeg) = (rI (wI M2 (k0 + 41) ((((6 : Int32)) * (rI M2 (k0 + 29) ((0 : Int32)).toNatClampNeg)) + (rI M2 (k0 + 29) ((100 : Int32)).toNatClampNeg)).toNatClampNeg ((rI M2 (k0 + 41) ((((6 : Int32)) * (rI M2 (k0 + 29) ((0 : Int32)).toNatClampNeg)) + (rI M2 (k0 + 29) ((100 : Int32)).toNatClampNeg)).toNatClampNeg) + ((1 : Int32)))) (k0 + 29) ((100 : Int32)).toNatClampNeg)) (st1 := []) tc_202 rfl rfl (fun _ => rfl) ⟨fun hc => ?_, fun hc => ?_⟩
        · have h := h.1 hc
          exact g_Mo_same_J195 hd hw hK90 k0 v1 o2 (some (aI v3)) (wI M2 (k0 + 41) ((((6 : Int32)) * (rI M2 (k0 + 29) ((0 : Int32)).toNatClampNeg)) + (rI M2 (k0 + 29) ((100 : Int32)).toNatClampNeg)).toNatClampNeg ((rI M2 (k0 + 41) ((((6 : Int32)) * (rI M2 (k0 + 29) ((0 : Int32)).toNatClampNeg)) + (rI M2 (k0 + 29) ((100 : Int32)).toNatClampNeg)).toNatClampNeg) + ((1 : Int32)))) h
        · have h := h.2 hc
          show Gd d w 202 _ (188, [some (aR 21 k0), some (aI v1), o2, some (aI v3)], [], wI M2 (k0 + 41) ((((6 : Int32)) * (rI M2 (k0 + 29) ((0 : Int32)).toNatClampNeg)) + (rI M2 (k0 + 29) ((100 : Int32)).toNatClampNeg)).toNatClampNeg ((rI M2 (k0 + 41) ((((6 : Int32)) * (rI M2 (k0 + 29) ((0 : Int32)).toNatClampNeg)) + (rI M2 (k0 + 29) ((100 : Int32)).toNatClampNeg)).toNatClampNeg) + ((1 : Int32))))
          refine gd_s (P := True ∧ True ∧ True ∧ True ∧ True) (σ1 := (192, [some (aR 21 k0), some (aI ((0 : Int32))), o2, some (aI v3)], [aI ((0 : Int32)), aR 21 k0], wI M2 (k0 + 41) ((((6 : Int32)) * (rI M2 (k0 + 29) ((0 : Int32)).toNatClampNeg)) + (rI M2 (k0 + 29) ((100 : Int32)).toNatClampNeg)).toNatClampNeg ((rI M2 (k0 + 41) ((((6 : Int32)) * (rI M2 (k0 + 29) ((0 : Int32)).toNatClampNeg)) + (rI M2 (k0 + 29) ((100 : Int32)).toNatClampNeg)).toNatClampNeg) + ((1 : Int32))))) tc_202 rfl 4 (fun u => ⟨_, rfl⟩) ⟨trivial, trivial, trivial, trivial, trivial⟩ ?_
          refine gd_callN (ml := 3) (as := [aR 21 k0, aI ((0 : Int32))]) (rest := []) tc_202 rfl rfl rfl rfl rfl (by omega) (by omega) (Nat.le_of_ble_eq_true rfl) rfl (g_Mo_isWitness (by omega) (by omega) h) (fun r9 M3 h => ?_)
          obtain ⟨rfl, h⟩ := h
          exact g_Mo_same_J195 hd hw hK90 k0 ((0 : Int32)) o2 (some (aI v3)) M3 h
    · have h := h.2 hc
      show Gd d w 202 _ (106, [some (aR 21 k0), some (aI v1), o2, some (aI v3)], [], M)
      obtain ⟨c0, c1, c2, h⟩ := h
      refine gd_s (P := True ∧ True ∧ True ∧ True ∧ True ∧ True ∧ (vp_in v3 (rK M (k0 + 46)).2) ∧ True ∧ True ∧ True ∧ True ∧ (vp_in v3 (rK M (k0 + 7)).2) ∧ (vp_in (((8 : Int32)) + (rI M (k0 + 46) v3.toNatClampNeg)) (rK M (k0 + 7)).2) ∧ True ∧ True ∧ True) (σ1 := (96, [some (aR 21 k0), some (aI v1), o2, some (aI (v3 + (1 : Int32)))], [], wI M (k0 + 7) (((8 : Int32)) + (rI M (k0 + 46) v3.toNatClampNeg)).toNatClampNeg (rI M (k0 + 7) v3.toNatClampNeg))) tc_202 rfl 15 (fun u => ⟨_, rfl⟩) ⟨trivial, trivial, trivial, trivial, trivial, trivial, c0, trivial, trivial, trivial, trivial, c1, c2, trivial, trivial, trivial⟩ ?_
      exact ih k0 v1 (v3 + (1 : Int32)) o2 (wI M (k0 + 7) (((8 : Int32)) + (rI M (k0 + 46) v3.toNatClampNeg)).toNatClampNeg (rI M (k0 + 7) v3.toNatClampNeg)) h
def w_Mo_same_L90 (post : Int32 → aM → Prop) : Nat → Nat → Int32 → Int32 → aM → Prop
  | 0, _, _, _, _ => False
  | n + 1, k0, v1, v2, M => ((v2 = ((0 : Int32))) → w_Mo_restore (fun M1 => (((1 : Int32)) = 0 ∨ ((1 : Int32)) = 1) ∧ (((¬ v1 = ((0 : Int32))) → w_Mo_same_J223 post v1 k0 ((0 : Int32)) (wI M1 k0 51 ((1 : Int32)))) ∧ (¬ (¬ v1 = ((0 : Int32))) → w_Mo_same_J223 post v1 k0 ((1 : Int32)) (wI M1 k0 51 ((1 : Int32)))))) k0 M) ∧ (¬ (v2 = ((0 : Int32))) → ∃ n9, w_Mo_same_L96 post (w_Mo_same_L90 post n) n9 k0 v1 ((0 : Int32)) M)
theorem g_Mo_same_L90 {d w : Nat} (hd : 4 ≤ d) (hw : 100 ≤ w) {post : Int32 → aM → Prop} : ∀ (n : Nat) (k0 : Nat) (v1 : Int32) (v2 : Int32) (o3 : Option aV) (M : aM), w_Mo_same_L90 post n k0 v1 v2 M → Gd d w 202 (pI post) (90, [some (aR 21 k0), some (aI v1), some (aI v2), o3], [], M) := by
  intro n
  induction n with
  | zero => intro k0 v1 v2 o3 M h; exact h.elim
  | succ n ih =>
    intro k0 v1 v2 o3 M h
    show Gd d w 202 _ (90, [some (aR 21 k0), some (aI v1), some (aI v2), o3], [], M)
    refine gd_s (P := True ∧ True) (σ1 := (91, [some (aR 21 k0), some (aI v1), some (aI v2), o3], [aI v2], M)) tc_202 rfl 1 (fun u => ⟨_, rfl⟩) ⟨trivial, trivial⟩ ?_
    refine gd_br (c := v2 = ((0 : Int32))) (st1 := []) tc_202 rfl rfl (fun _ => rfl) ⟨fun hc => ?_, fun hc => ?_⟩
    · have h := h.1 hc
      show Gd d w 202 _ (204, [some (aR 21 k0), some (aI v1), some (aI v2), o3], [], M)
      refine gd_s (P := True ∧ True) (σ1 := (205, [some (aR 21 k0), some (aI v1), some (aI v2), o3], [aR 21 k0], M)) tc_202 rfl 1 (fun u => ⟨_, rfl⟩) ⟨trivial, trivial⟩ ?_
      refine gd_callN (ml := 2) (as := [aR 21 k0]) (rest := []) tc_202 rfl rfl rfl rfl rfl (by omega) (by omega) (Nat.le_of_ble_eq_true rfl) rfl (g_Mo_restore (by omega) (by omega) h) (fun r9 M1 h => ?_)
      obtain ⟨rfl, h⟩ := h
      show Gd d w 202 _ (208, [some (aR 21 k0), some (aI v1), some (aI v2), o3], [], M1)
      obtain ⟨c0, h⟩ := h
      refine gd_s (P := True ∧ True ∧ (((1 : Int32)) = 0 ∨ ((1 : Int32)) = 1) ∧ True ∧ True ∧ True) (σ1 := (215, [some (aR 21 k0), some (aI v1), some (aI v2), o3], [aI v1, aR 21 k0], wI M1 k0 51 ((1 : Int32)))) tc_202 rfl 5 (fun u => ⟨_, rfl⟩) ⟨trivial, trivial, c0, trivial, trivial, trivial⟩ ?_
      refine gd_br (c := ¬ v1 = ((0 : Int32))) (st1 := [aR 21 k0]) tc_202 rfl rfl (fun _ => rfl) ⟨fun hc => ?_, fun hc => ?_⟩
      · have h := h.1 hc
        show Gd d w 202 _ (222, [some (aR 21 k0), some (aI v1), some (aI v2), o3], [aR 21 k0], wI M1 k0 51 ((1 : Int32)))
        refine gd_s (P := True ∧ True) (σ1 := (223, [some (aR 21 k0), some (aI v1), some (aI v2), o3], [aI ((0 : Int32)), aR 21 k0], wI M1 k0 51 ((1 : Int32)))) tc_202 rfl 1 (fun u => ⟨_, rfl⟩) ⟨trivial, trivial⟩ ?_
        exact g_Mo_same_J223 hd hw v1 k0 ((0 : Int32)) (some (aR 21 k0)) (some (aI v2)) o3 (wI M1 k0 51 ((1 : Int32))) h
      · have h := h.2 hc
        show Gd d w 202 _ (218, [some (aR 21 k0), some (aI v1), some (aI v2), o3], [aR 21 k0], wI M1 k0 51 ((1 : Int32)))
        refine gd_s (P := True ∧ True ∧ True) (σ1 := (223, [some (aR 21 k0), some (aI v1), some (aI v2), o3], [aI ((1 : Int32)), aR 21 k0], wI M1 k0 51 ((1 : Int32)))) tc_202 rfl 2 (fun u => ⟨_, rfl⟩) ⟨trivial, trivial, trivial⟩ ?_
        exact g_Mo_same_J223 hd hw v1 k0 ((1 : Int32)) (some (aR 21 k0)) (some (aI v2)) o3 (wI M1 k0 51 ((1 : Int32))) h
    · have h := h.2 hc
      show Gd d w 202 _ (94, [some (aR 21 k0), some (aI v1), some (aI v2), o3], [], M)
      refine gd_s (P := True ∧ True ∧ True) (σ1 := (96, [some (aR 21 k0), some (aI v1), some (aI v2), some (aI ((0 : Int32)))], [], M)) tc_202 rfl 2 (fun u => ⟨_, rfl⟩) ⟨trivial, trivial, trivial⟩ ?_
      obtain ⟨n9, h⟩ := h
      exact g_Mo_same_L96 hd hw ih n9 k0 v1 ((0 : Int32)) (some (aI v2)) M h
def w_Mo_same_L58 (post : Int32 → aM → Prop) : Nat → Nat → Int32 → aM → Prop
  | 0, _, _, _ => False
  | n + 1, k0, v1, M => ((((36 : Int32)) ≤ v1) → w_Mo_keep (fun M1 => w_Mo_emptyBags (fun M2 => ∃ n9, w_Mo_same_L90 post n9 k0 ((1 : Int32)) ((1 : Int32)) M2) k0 ((0 : Int32)) M1) k0 M) ∧ (¬ (((36 : Int32)) ≤ v1) → (vp_in v1 (rK M (k0 + 41)).2) ∧ (w_Mo_same_L58 post n k0 (v1 + (1 : Int32)) (wI M (k0 + 41) v1.toNatClampNeg ((0 : Int32)))))
theorem g_Mo_same_L58 {d w : Nat} (hd : 4 ≤ d) (hw : 100 ≤ w) {post : Int32 → aM → Prop} : ∀ (n : Nat) (k0 : Nat) (v1 : Int32) (o2 o3 : Option aV) (M : aM), w_Mo_same_L58 post n k0 v1 M → Gd d w 202 (pI post) (58, [some (aR 21 k0), some (aI v1), o2, o3], [], M) := by
  intro n
  induction n with
  | zero => intro k0 v1 o2 o3 M h; exact h.elim
  | succ n ih =>
    intro k0 v1 o2 o3 M h
    show Gd d w 202 _ (58, [some (aR 21 k0), some (aI v1), o2, o3], [], M)
    refine gd_s (P := True ∧ True ∧ True) (σ1 := (61, [some (aR 21 k0), some (aI v1), o2, o3], [aI ((36 : Int32)), aI v1], M)) tc_202 rfl 2 (fun u => ⟨_, rfl⟩) ⟨trivial, trivial, trivial⟩ ?_
    refine gd_br (c := ((36 : Int32)) ≤ v1) (st1 := []) tc_202 rfl rfl (fun _ => rfl) ⟨fun hc => ?_, fun hc => ?_⟩
    · have h := h.1 hc
      show Gd d w 202 _ (77, [some (aR 21 k0), some (aI v1), o2, o3], [], M)
      refine gd_s (P := True ∧ True) (σ1 := (78, [some (aR 21 k0), some (aI v1), o2, o3], [aR 21 k0], M)) tc_202 rfl 1 (fun u => ⟨_, rfl⟩) ⟨trivial, trivial⟩ ?_
      refine gd_callN (ml := 2) (as := [aR 21 k0]) (rest := []) tc_202 rfl rfl rfl rfl rfl (by omega) (by omega) (Nat.le_of_ble_eq_true rfl) rfl (g_Mo_keep (by omega) (by omega) h) (fun r9 M1 h => ?_)
      obtain ⟨rfl, h⟩ := h
      show Gd d w 202 _ (81, [some (aR 21 k0), some (aI v1), o2, o3], [], M1)
      refine gd_s (P := True ∧ True ∧ True) (σ1 := (83, [some (aR 21 k0), some (aI v1), o2, o3], [aI ((0 : Int32)), aR 21 k0], M1)) tc_202 rfl 2 (fun u => ⟨_, rfl⟩) ⟨trivial, trivial, trivial⟩ ?_
      refine gd_callN (ml := 3) (as := [aR 21 k0, aI ((0 : Int32))]) (rest := []) tc_202 rfl rfl rfl rfl rfl (by omega) (by omega) (Nat.le_of_ble_eq_true rfl) rfl (g_Mo_emptyBags (by omega) (by omega) h) (fun r9 M2 h => ?_)
      obtain ⟨rfl, h⟩ := h
      show Gd d w 202 _ (86, [some (aR 21 k0), some (aI v1), o2, o3], [], M2)
      refine gd_s (P := True ∧ True ∧ True ∧ True ∧ True) (σ1 := (90, [some (aR 21 k0), some (aI ((1 : Int32))), some (aI ((1 : Int32))), o3], [], M2)) tc_202 rfl 4 (fun u => ⟨_, rfl⟩) ⟨trivial, trivial, trivial, trivial, trivial⟩ ?_
      obtain ⟨n9, h⟩ := h
      exact g_Mo_same_L90 hd hw n9 k0 ((1 : Int32)) ((1 : Int32)) o3 M2 h
    · have h := h.2 hc
      show Gd d w 202 _ (64, [some (aR 21 k0), some (aI v1), o2, o3], [], M)
      obtain ⟨c0, h⟩ := h
      refine gd_s (P := True ∧ True ∧ True ∧ True ∧ (vp_in v1 (rK M (k0 + 41)).2) ∧ True ∧ True ∧ True) (σ1 := (58, [some (aR 21 k0), some (aI (v1 + (1 : Int32))), o2, o3], [], wI M (k0 + 41) v1.toNatClampNeg ((0 : Int32)))) tc_202 rfl 7 (fun u => ⟨_, rfl⟩) ⟨trivial, trivial, trivial, trivial, c0, trivial, trivial, trivial⟩ ?_
      exact ih k0 (v1 + (1 : Int32)) o2 o3 (wI M (k0 + 41) v1.toNatClampNeg ((0 : Int32))) h
def w_Mo_same_J24 (post : Int32 → aM → Prop) (k0 : Nat) (t0 : Nat) (s1 : Int32) (M : aM) : Prop := w_Mo_goes (fun x1 M1 => ((¬ x1 = ((0 : Int32))) → w_Mo_findFellows (fun x2 M2 => ((¬ x2 = ((0 : Int32))) → w_Mo_requests (fun x3 => ((x3 ≤ ((4096 : Int32))) → ∃ n9, w_Mo_same_L58 post n9 k0 ((0 : Int32)) M2) ∧ (¬ (x3 ≤ ((4096 : Int32))) → post ((-3 : Int32)) M2)) k0 ((0 : Int32)) M2) ∧ (¬ (¬ x2 = ((0 : Int32))) → post ((-2 : Int32)) M2)) k0 M1) ∧ (¬ (¬ x1 = ((0 : Int32))) → post ((0 : Int32)) M1)) t0 s1 M
theorem g_Mo_same_J24 {d w : Nat} (hd : 4 ≤ d) (hw : 100 ≤ w) {post : Int32 → aM → Prop} (k0 : Nat) (t0 : Nat) (s1 : Int32) (o1 o2 o3 : Option aV) (M : aM) (h : w_Mo_same_J24 post k0 t0 s1 M) : Gd d w 202 (pI post) (24, [some (aR 21 k0), o1, o2, o3], [aI s1, aR 21 t0], M) := by
  unfold w_Mo_same_J24 at h
  show Gd d w 202 _ (24, [some (aR 21 k0), o1, o2, o3], [aI s1, aR 21 t0], M)
  refine gd_callN (ml := 2) (as := [aR 21 t0, aI s1]) (rest := []) tc_202 rfl rfl rfl rfl rfl (by omega) (by omega) (Nat.le_of_ble_eq_true rfl) rfl (g_Mo_goes (by omega) (by omega) h) (fun r9 M1 h => ?_)
  obtain ⟨x1, rfl, h⟩ := h
  show Gd d w 202 _ (27, [some (aR 21 k0), o1, o2, o3], [aI x1], M1)
  refine gd_br (c := ¬ x1 = ((0 : Int32))) (st1 := []) tc_202 rfl rfl (fun _ => rfl) ⟨fun hc => ?_, fun hc => ?_⟩
  · have h := h.1 hc
    show Gd d w 202 _ (32, [some (aR 21 k0), o1, o2, o3], [], M1)
    refine gd_s (P := True ∧ True) (σ1 := (33, [some (aR 21 k0), o1, o2, o3], [aR 21 k0], M1)) tc_202 rfl 1 (fun u => ⟨_, rfl⟩) ⟨trivial, trivial⟩ ?_
    refine gd_callN (ml := 8) (as := [aR 21 k0]) (rest := []) tc_202 rfl rfl rfl rfl rfl (by omega) (by omega) (Nat.le_of_ble_eq_true rfl) rfl (g_Mo_findFellows (by omega) (by omega) h) (fun r9 M2 h => ?_)
    obtain ⟨x2, rfl, h⟩ := h
    show Gd d w 202 _ (36, [some (aR 21 k0), o1, o2, o3], [aI x2], M2)
    refine gd_br (c := ¬ x2 = ((0 : Int32))) (st1 := []) tc_202 rfl rfl (fun _ => rfl) ⟨fun hc => ?_, fun hc => ?_⟩
    · have h := h.1 hc
      show Gd d w 202 _ (42, [some (aR 21 k0), o1, o2, o3], [], M2)
      refine gd_s (P := True ∧ True ∧ True) (σ1 := (44, [some (aR 21 k0), o1, o2, o3], [aI ((0 : Int32)), aR 21 k0], M2)) tc_202 rfl 2 (fun u => ⟨_, rfl⟩) ⟨trivial, trivial, trivial⟩ ?_
      refine gd_callN (ml := 4) (as := [aR 21 k0, aI ((0 : Int32))]) (rest := []) tc_202 rfl rfl rfl rfl rfl (by omega) (by omega) (Nat.le_of_ble_eq_true rfl) rfl (g_Mo_requests (by omega) (by omega) h) (fun r9 M9 h => ?_)
      obtain ⟨x3, rfl, e9, h⟩ := h
      subst M9
      show Gd d w 202 _ (47, [some (aR 21 k0), o1, o2, o3], [aI x3], M2)
      refine gd_s (P := True ∧ True) (σ1 := (50, [some (aR 21 k0), o1, o2, o3], [aI ((4096 : Int32)), aI x3], M2)) tc_202 rfl 1 (fun u => ⟨_, rfl⟩) ⟨trivial, trivial⟩ ?_
      refine gd_br (c := x3 ≤ ((4096 : Int32))) (st1 := []) tc_202 rfl rfl (fun _ => rfl) ⟨fun hc => ?_, fun hc => ?_⟩
      · have h := h.1 hc
        show Gd d w 202 _ (56, [some (aR 21 k0), o1, o2, o3], [], M2)
        refine gd_s (P := True ∧ True ∧ True) (σ1 := (58, [some (aR 21 k0), some (aI ((0 : Int32))), o2, o3], [], M2)) tc_202 rfl 2 (fun u => ⟨_, rfl⟩) ⟨trivial, trivial, trivial⟩ ?_
        obtain ⟨n9, h⟩ := h
        exact g_Mo_same_L58 hd hw n9 k0 ((0 : Int32)) o2 o3 M2 h
      · have h := h.2 hc
        show Gd d w 202 _ (53, [some (aR 21 k0), o1, o2, o3], [], M2)
        refine gd_s (P := True ∧ True) (σ1 := (55, [some (aR 21 k0), o1, o2, o3], [aI ((-3 : Int32))], M2)) tc_202 rfl 1 (fun u => ⟨_, rfl⟩) ⟨trivial, trivial⟩ ?_
        exact gd_ret tc_202 rfl rfl trivial (fun _ => rfl) ⟨_, rfl, h⟩
    · have h := h.2 hc
      show Gd d w 202 _ (39, [some (aR 21 k0), o1, o2, o3], [], M2)
      refine gd_s (P := True ∧ True) (σ1 := (41, [some (aR 21 k0), o1, o2, o3], [aI ((-2 : Int32))], M2)) tc_202 rfl 1 (fun u => ⟨_, rfl⟩) ⟨trivial, trivial⟩ ?_
      exact gd_ret tc_202 rfl rfl trivial (fun _ => rfl) ⟨_, rfl, h⟩
  · have h := h.2 hc
    show Gd d w 202 _ (30, [some (aR 21 k0), o1, o2, o3], [], M1)
    refine gd_s (P := True ∧ True) (σ1 := (31, [some (aR 21 k0), o1, o2, o3], [aI ((0 : Int32))], M1)) tc_202 rfl 1 (fun u => ⟨_, rfl⟩) ⟨trivial, trivial⟩ ?_
    exact gd_ret tc_202 rfl rfl trivial (fun _ => rfl) ⟨_, rfl, h⟩
def w_Mo_same_J23 (post : Int32 → aM → Prop) (k0 : Nat) (t0 : Nat) (M : aM) : Prop := w_Mo_same_J24 post k0 t0 ((0 : Int32)) M
theorem g_Mo_same_J23 {d w : Nat} (hd : 4 ≤ d) (hw : 100 ≤ w) {post : Int32 → aM → Prop} (k0 : Nat) (t0 : Nat) (o1 o2 o3 : Option aV) (M : aM) (h : w_Mo_same_J23 post k0 t0 M) : Gd d w 202 (pI post) (23, [some (aR 21 k0), o1, o2, o3], [aR 21 t0], M) := by
  unfold w_Mo_same_J23 at h
  show Gd d w 202 _ (23, [some (aR 21 k0), o1, o2, o3], [aR 21 t0], M)
  refine gd_s (P := True ∧ True) (σ1 := (24, [some (aR 21 k0), o1, o2, o3], [aI ((0 : Int32)), aR 21 t0], M)) tc_202 rfl 1 (fun u => ⟨_, rfl⟩) ⟨trivial, trivial⟩ ?_
  exact g_Mo_same_J24 hd hw k0 t0 ((0 : Int32)) o1 o2 o3 M h
/-- PolicyJudgeModel.same()I -/
def w_Mo_same (post : Int32 → aM → Prop) (k0 : Nat) (M : aM) : Prop := (vp_in ((0 : Int32)) (rK M (k0 + 2)).2) ∧ ((((rI M (k0 + 2) ((0 : Int32)).toNatClampNeg) = ((0 : Int32))) → w_Mo_same_J23 post k0 k0 M) ∧ (¬ ((rI M (k0 + 2) ((0 : Int32)).toNatClampNeg) = ((0 : Int32))) → (vp_in ((1 : Int32)) (rK M (k0 + 2)).2) ∧ ((((rI M (k0 + 2) ((1 : Int32)).toNatClampNeg) = ((0 : Int32))) → w_Mo_same_J23 post k0 k0 M) ∧ (¬ ((rI M (k0 + 2) ((1 : Int32)).toNatClampNeg) = ((0 : Int32))) → w_Mo_same_J24 post k0 k0 ((1 : Int32)) M))))
theorem g_Mo_same {d w : Nat} (hd : 4 ≤ d) (hw : 100 ≤ w) {post : Int32 → aM → Prop} {k0 : Nat} {M : aM} (h : w_Mo_same post k0 M) : Gd d w 202 (pI post) (0, aEnt 202 [aR 21 k0], [], M) := by
  unfold w_Mo_same at h
  show Gd d w 202 _ (0, [some (aR 21 k0), none, none, none], [], M)
  obtain ⟨c0, h⟩ := h
  refine gd_s (P := True ∧ True ∧ True ∧ True ∧ (vp_in ((0 : Int32)) (rK M (k0 + 2)).2) ∧ True) (σ1 := (7, [some (aR 21 k0), none, none, none], [aI (rI M (k0 + 2) ((0 : Int32)).toNatClampNeg), aR 21 k0], M)) tc_202 rfl 5 (fun u => ⟨_, rfl⟩) ⟨trivial, trivial, trivial, trivial, c0, trivial⟩ ?_
  refine gd_br (c := (rI M (k0 + 2) ((0 : Int32)).toNatClampNeg) = ((0 : Int32))) (st1 := [aR 21 k0]) tc_202 rfl rfl (fun _ => rfl) ⟨fun hc => ?_, fun hc => ?_⟩
  · have h := h.1 hc
    exact g_Mo_same_J23 hd hw k0 k0 none none none M h
  · have h := h.2 hc
    show Gd d w 202 _ (10, [some (aR 21 k0), none, none, none], [aR 21 k0], M)
    obtain ⟨c0, h⟩ := h
    refine gd_s (P := True ∧ True ∧ True ∧ (vp_in ((1 : Int32)) (rK M (k0 + 2)).2) ∧ True) (σ1 := (16, [some (aR 21 k0), none, none, none], [aI (rI M (k0 + 2) ((1 : Int32)).toNatClampNeg), aR 21 k0], M)) tc_202 rfl 4 (fun u => ⟨_, rfl⟩) ⟨trivial, trivial, trivial, c0, trivial⟩ ?_
    refine gd_br (c := (rI M (k0 + 2) ((1 : Int32)).toNatClampNeg) = ((0 : Int32))) (st1 := [aR 21 k0]) tc_202 rfl rfl (fun _ => rfl) ⟨fun hc => ?_, fun hc => ?_⟩
    · have h := h.1 hc
      exact g_Mo_same_J23 hd hw k0 k0 none none none M h
    · have h := h.2 hc
      show Gd d w 202 _ (19, [some (aR 21 k0), none, none, none], [aR 21 k0], M)
      refine gd_s (P := True ∧ True ∧ True) (σ1 := (24, [some (aR 21 k0), none, none, none], [aI ((1 : Int32)), aR 21 k0], M)) tc_202 rfl 2 (fun u => ⟨_, rfl⟩) ⟨trivial, trivial, trivial⟩ ?_
      exact g_Mo_same_J24 hd hw k0 k0 ((1 : Int32)) none none none M h
theorem tc_210 : tC 210 = c210 := rfl
def w_Mo_differ_J35 (post : Int32 → aM → Prop) (k0 : Nat) (v1 : Int32) (v2 : Int32) (t0 : Nat) (s1 : Int32) (M : aM) : Prop := (((rI (wI M t0 0 s1) k0 0) ≤ ((0 : Int32))) → (vp_in ((((6 : Int32)) * v1) + v2) (rK M (k0 + 41)).2) ∧ post (rI (wI M t0 0 s1) (k0 + 41) ((((6 : Int32)) * v1) + v2).toNatClampNeg) (wI M t0 0 s1)) ∧ (¬ ((rI (wI M t0 0 s1) k0 0) ≤ ((0 : Int32))) → post ((0 : Int32)) (wI M t0 0 s1))
theorem g_Mo_differ_J35 {d w : Nat} (hd : 1 ≤ d) (hw : 22 ≤ w) {post : Int32 → aM → Prop} (k0 : Nat) (v1 : Int32) (v2 : Int32) (t0 : Nat) (s1 : Int32) (M : aM) (h : w_Mo_differ_J35 post k0 v1 v2 t0 s1 M) : Gd d w 210 (pI post) (35, [some (aR 21 k0), some (aI v1), some (aI v2)], [aI s1, aR 21 t0], M) := by
  unfold w_Mo_differ_J35 at h
  show Gd d w 210 _ (35, [some (aR 21 k0), some (aI v1), some (aI v2)], [aI s1, aR 21 t0], M)
  refine gd_s (P := True ∧ True ∧ True ∧ True) (σ1 := (42, [some (aR 21 k0), some (aI v1), some (aI v2)], [aI (rI (wI M t0 0 s1) k0 0)], wI M t0 0 s1)) tc_210 rfl 3 (fun u => ⟨_, rfl⟩) ⟨trivial, trivial, trivial, trivial⟩ ?_
  refine gd_br (c := (rI (wI M t0 0 s1) k0 0) ≤ ((0 : Int32))) (st1 := []) tc_210 rfl rfl (fun _ => rfl) ⟨fun hc => ?_, fun hc => ?_⟩
  · have h := h.1 hc
    show Gd d w 210 _ (49, [some (aR 21 k0), some (aI v1), some (aI v2)], [], wI M t0 0 s1)
    obtain ⟨c0, h⟩ := h
    refine gd_s (P := True ∧ True ∧ True ∧ True ∧ True ∧ True ∧ True ∧ (vp_in ((((6 : Int32)) * v1) + v2) (rK M (k0 + 41)).2) ∧ True) (σ1 := (60, [some (aR 21 k0), some (aI v1), some (aI v2)], [aI (rI (wI M t0 0 s1) (k0 + 41) ((((6 : Int32)) * v1) + v2).toNatClampNeg)], wI M t0 0 s1)) tc_210 rfl 8 (fun u => ⟨_, rfl⟩) ⟨trivial, trivial, trivial, trivial, trivial, trivial, trivial, c0, trivial⟩ ?_
    exact gd_ret tc_210 rfl rfl trivial (fun _ => rfl) ⟨_, rfl, h⟩
  · have h := h.2 hc
    show Gd d w 210 _ (45, [some (aR 21 k0), some (aI v1), some (aI v2)], [], wI M t0 0 s1)
    refine gd_s (P := True ∧ True ∧ True) (σ1 := (60, [some (aR 21 k0), some (aI v1), some (aI v2)], [aI ((0 : Int32))], wI M t0 0 s1)) tc_210 rfl 2 (fun u => ⟨_, rfl⟩) ⟨trivial, trivial, trivial⟩ ?_
    exact gd_ret tc_210 rfl rfl trivial (fun _ => rfl) ⟨_, rfl, h⟩
def w_Mo_differ_J19 (post : Int32 → aM → Prop) (k0 : Nat) (v1 : Int32) (v2 : Int32) (t0 : Nat) (M : aM) : Prop := w_Mo_differ_J35 post k0 v1 v2 t0 ((1 : Int32)) M
theorem g_Mo_differ_J19 {d w : Nat} (hd : 1 ≤ d) (hw : 22 ≤ w) {post : Int32 → aM → Prop} (k0 : Nat) (v1 : Int32) (v2 : Int32) (t0 : Nat) (M : aM) (h : w_Mo_differ_J19 post k0 v1 v2 t0 M) : Gd d w 210 (pI post) (19, [some (aR 21 k0), some (aI v1), some (aI v2)], [aR 21 t0], M) := by
  unfold w_Mo_differ_J19 at h
  show Gd d w 210 _ (19, [some (aR 21 k0), some (aI v1), some (aI v2)], [aR 21 t0], M)
  refine gd_s (P := True ∧ True ∧ True) (σ1 := (35, [some (aR 21 k0), some (aI v1), some (aI v2)], [aI ((1 : Int32)), aR 21 t0], M)) tc_210 rfl 2 (fun u => ⟨_, rfl⟩) ⟨trivial, trivial, trivial⟩ ?_
  exact g_Mo_differ_J35 hd hw k0 v1 v2 t0 ((1 : Int32)) M h
/-- PolicyJudgeModel.differ(II)I -/
def w_Mo_differ (post : Int32 → aM → Prop) (k0 : Nat) (v1 : Int32) (v2 : Int32) (M : aM) : Prop := w_Mo_in (fun x1 => ((x1 = ((0 : Int32))) → w_Mo_differ_J19 post k0 v1 v2 k0 M) ∧ (¬ (x1 = ((0 : Int32))) → w_Mo_in (fun x2 => ((¬ x2 = ((0 : Int32))) → ((¬ (rI M k0 51) = ((0 : Int32))) → w_Mo_differ_J35 post k0 v1 v2 k0 ((0 : Int32)) M) ∧ (¬ (¬ (rI M k0 51) = ((0 : Int32))) → w_Mo_differ_J35 post k0 v1 v2 k0 ((2 : Int32)) M)) ∧ (¬ (¬ x2 = ((0 : Int32))) → w_Mo_differ_J19 post k0 v1 v2 k0 M)) v2 ((0 : Int32)) ((5 : Int32)) M)) v1 ((0 : Int32)) ((5 : Int32)) M
theorem g_Mo_differ {d w : Nat} (hd : 1 ≤ d) (hw : 22 ≤ w) {post : Int32 → aM → Prop} {k0 : Nat} {v1 : Int32} {v2 : Int32} {M : aM} (h : w_Mo_differ post k0 v1 v2 M) : Gd d w 210 (pI post) (0, aEnt 210 [aR 21 k0, aI v1, aI v2], [], M) := by
  unfold w_Mo_differ at h
  show Gd d w 210 _ (0, [some (aR 21 k0), some (aI v1), some (aI v2)], [], M)
  refine gd_s (P := True ∧ True ∧ True ∧ True ∧ True) (σ1 := (4, [some (aR 21 k0), some (aI v1), some (aI v2)], [aI ((5 : Int32)), aI ((0 : Int32)), aI v1, aR 21 k0], M)) tc_210 rfl 4 (fun u => ⟨_, rfl⟩) ⟨trivial, trivial, trivial, trivial, trivial⟩ ?_
  refine gd_callN (ml := 3) (as := [aI v1, aI ((0 : Int32)), aI ((5 : Int32))]) (rest := [aR 21 k0]) tc_210 rfl rfl rfl rfl rfl (by omega) (by omega) (Nat.le_of_ble_eq_true rfl) rfl (g_Mo_in (by omega) (by omega) h) (fun r9 M9 h => ?_)
  obtain ⟨x1, rfl, e9, h⟩ := h
  subst M9
  show Gd d w 210 _ (7, [some (aR 21 k0), some (aI v1), some (aI v2)], [aI x1, aR 21 k0], M)
  refine gd_br (c := x1 = ((0 : Int32))) (st1 := [aR 21 k0]) tc_210 rfl rfl (fun _ => rfl) ⟨fun hc => ?_, fun hc => ?_⟩
  · have h := h.1 hc
    exact g_Mo_differ_J19 hd hw k0 v1 v2 k0 M h
  · have h := h.2 hc
    show Gd d w 210 _ (10, [some (aR 21 k0), some (aI v1), some (aI v2)], [aR 21 k0], M)
    refine gd_s (P := True ∧ True ∧ True ∧ True) (σ1 := (13, [some (aR 21 k0), some (aI v1), some (aI v2)], [aI ((5 : Int32)), aI ((0 : Int32)), aI v2, aR 21 k0], M)) tc_210 rfl 3 (fun u => ⟨_, rfl⟩) ⟨trivial, trivial, trivial, trivial⟩ ?_
    refine gd_callN (ml := 3) (as := [aI v2, aI ((0 : Int32)), aI ((5 : Int32))]) (rest := [aR 21 k0]) tc_210 rfl rfl rfl rfl rfl (by omega) (by omega) (Nat.le_of_ble_eq_true rfl) rfl (g_Mo_in (by omega) (by omega) h) (fun r9 M9 h => ?_)
    obtain ⟨x2, rfl, e9, h⟩ := h
    subst M9
    show Gd d w 210 _ (16, [some (aR 21 k0), some (aI v1), some (aI v2)], [aI x2, aR 21 k0], M)
    refine gd_br (c := ¬ x2 = ((0 : Int32))) (st1 := [aR 21 k0]) tc_210 rfl rfl (fun _ => rfl) ⟨fun hc => ?_, fun hc => ?_⟩
    · have h := h.1 hc
      show Gd d w 210 _ (23, [some (aR 21 k0), some (aI v1), some (aI v2)], [aR 21 k0], M)
      refine gd_s (P := True ∧ True ∧ True) (σ1 := (27, [some (aR 21 k0), some (aI v1), some (aI v2)], [aI (rI M k0 51), aR 21 k0], M)) tc_210 rfl 2 (fun u => ⟨_, rfl⟩) ⟨trivial, trivial, trivial⟩ ?_
      refine gd_br (c := ¬ (rI M k0 51) = ((0 : Int32))) (st1 := [aR 21 k0]) tc_210 rfl rfl (fun _ => rfl) ⟨fun hc => ?_, fun hc => ?_⟩
      · have h := h.1 hc
        show Gd d w 210 _ (34, [some (aR 21 k0), some (aI v1), some (aI v2)], [aR 21 k0], M)
        refine gd_s (P := True ∧ True) (σ1 := (35, [some (aR 21 k0), some (aI v1), some (aI v2)], [aI ((0 : Int32)), aR 21 k0], M)) tc_210 rfl 1 (fun u => ⟨_, rfl⟩) ⟨trivial, trivial⟩ ?_
        exact g_Mo_differ_J35 hd hw k0 v1 v2 k0 ((0 : Int32)) M h
      · have h := h.2 hc
        show Gd d w 210 _ (30, [some (aR 21 k0), some (aI v1), some (aI v2)], [aR 21 k0], M)
        refine gd_s (P := True ∧ True ∧ True) (σ1 := (35, [some (aR 21 k0), some (aI v1), some (aI v2)], [aI ((2 : Int32)), aR 21 k0], M)) tc_210 rfl 2 (fun u => ⟨_, rfl⟩) ⟨trivial, trivial, trivial⟩ ?_
        exact g_Mo_differ_J35 hd hw k0 v1 v2 k0 ((2 : Int32)) M h
    · have h := h.2 hc
      exact g_Mo_differ_J19 hd hw k0 v1 v2 k0 M h
theorem tc_211 : tC 211 = c211 := rfl
def w_Mo_reach_J121 (post : Int32 → aM → Prop) (k0 : Nat) (v4 : Int32) (M : aM) : Prop := (v4 = 0 ∨ v4 = 1) ∧ (w_Mo_restore (fun M1 => ((v4 = ((0 : Int32))) → post ((0 : Int32)) M1) ∧ (¬ (v4 = ((0 : Int32))) → post ((1 : Int32)) M1)) k0 (wI M k0 54 v4))
theorem g_Mo_reach_J121 {d w : Nat} (hd : 4 ≤ d) (hw : 100 ≤ w) {post : Int32 → aM → Prop} (k0 : Nat) (v4 : Int32) (o1 o2 o3 o5 : Option aV) (M : aM) (h : w_Mo_reach_J121 post k0 v4 M) : Gd d w 211 (pI post) (121, [some (aR 21 k0), o1, o2, o3, some (aI v4), o5], [], M) := by
  unfold w_Mo_reach_J121 at h
  show Gd d w 211 _ (121, [some (aR 21 k0), o1, o2, o3, some (aI v4), o5], [], M)
  obtain ⟨c0, h⟩ := h
  refine gd_s (P := True ∧ True ∧ (v4 = 0 ∨ v4 = 1) ∧ True ∧ True) (σ1 := (128, [some (aR 21 k0), o1, o2, o3, some (aI v4), o5], [aR 21 k0], wI M k0 54 v4)) tc_211 rfl 4 (fun u => ⟨_, rfl⟩) ⟨trivial, trivial, c0, trivial, trivial⟩ ?_
  refine gd_callN (ml := 2) (as := [aR 21 k0]) (rest := []) tc_211 rfl rfl rfl rfl rfl (by omega) (by omega) (Nat.le_of_ble_eq_true rfl) rfl (g_Mo_restore (by omega) (by omega) h) (fun r9 M1 h => ?_)
  obtain ⟨rfl, h⟩ := h
  show Gd d w 211 _ (131, [some (aR 21 k0), o1, o2, o3, some (aI v4), o5], [], M1)
  refine gd_s (P := True ∧ True) (σ1 := (133, [some (aR 21 k0), o1, o2, o3, some (aI v4), o5], [aI v4], M1)) tc_211 rfl 1 (fun u => ⟨_, rfl⟩) ⟨trivial, trivial⟩ ?_
  refine gd_br (c := v4 = ((0 : Int32))) (st1 := []) tc_211 rfl rfl (fun _ => rfl) ⟨fun hc => ?_, fun hc => ?_⟩
  · have h := h.1 hc
    show Gd d w 211 _ (140, [some (aR 21 k0), o1, o2, o3, some (aI v4), o5], [], M1)
    refine gd_s (P := True ∧ True) (σ1 := (141, [some (aR 21 k0), o1, o2, o3, some (aI v4), o5], [aI ((0 : Int32))], M1)) tc_211 rfl 1 (fun u => ⟨_, rfl⟩) ⟨trivial, trivial⟩ ?_
    exact gd_ret tc_211 rfl rfl trivial (fun _ => rfl) ⟨_, rfl, h⟩
  · have h := h.2 hc
    show Gd d w 211 _ (136, [some (aR 21 k0), o1, o2, o3, some (aI v4), o5], [], M1)
    refine gd_s (P := True ∧ True ∧ True) (σ1 := (141, [some (aR 21 k0), o1, o2, o3, some (aI v4), o5], [aI ((1 : Int32))], M1)) tc_211 rfl 2 (fun u => ⟨_, rfl⟩) ⟨trivial, trivial, trivial⟩ ?_
    exact gd_ret tc_211 rfl rfl trivial (fun _ => rfl) ⟨_, rfl, h⟩
def w_Mo_reach_J96 (post : Int32 → aM → Prop) (K61 : Nat → Int32 → Int32 → Int32 → Int32 → Int32 → aM → Prop) (k0 : Nat) (v1 : Int32) (v2 : Int32) (v3 : Int32) (v5 : Int32) (s0 : Int32) (M : aM) : Prop := ((s0 = ((0 : Int32))) → w_Mo_nextRequest (fun x1 M1 => K61 k0 v1 v2 v3 s0 x1 M1) k0 v1 M) ∧ (¬ (s0 = ((0 : Int32))) → w_Mo_isWitness (fun M2 => K61 k0 v1 v2 v3 s0 v5 M2) k0 v1 M)
theorem g_Mo_reach_J96 {d w : Nat} (hd : 4 ≤ d) (hw : 100 ≤ w) {post : Int32 → aM → Prop} {K61 : Nat → Int32 → Int32 → Int32 → Int32 → Int32 → aM → Prop} (hK61 : ∀ (k0 : Nat) (v1 : Int32) (v2 : Int32) (v3 : Int32) (v4 : Int32) (v5 : Int32) (M : aM), K61 k0 v1 v2 v3 v4 v5 M → Gd d w 211 (pI post) (61, [some (aR 21 k0), some (aI v1), some (aI v2), some (aI v3), some (aI v4), some (aI v5)], [], M)) (k0 : Nat) (v1 : Int32) (v2 : Int32) (v3 : Int32) (v5 : Int32) (s0 : Int32) (o4 : Option aV) (M : aM) (h : w_Mo_reach_J96 post K61 k0 v1 v2 v3 v5 s0 M) : Gd d w 211 (pI post) (96, [some (aR 21 k0), some (aI v1), some (aI v2), some (aI v3), o4, some (aI v5)], [aI s0], M) := by
  unfold w_Mo_reach_J96 at h
  show Gd d w 211 _ (96, [some (aR 21 k0), some (aI v1), some (aI v2), some (aI v3), o4, some (aI v5)], [aI s0], M)
  refine gd_s (P := True ∧ True ∧ True) (σ1 := (100, [some (aR 21 k0), some (aI v1), some (aI v2), some (aI v3), some (aI s0), some (aI v5)], [aI s0], M)) tc_211 rfl 2 (fun u => ⟨_, rfl⟩) ⟨trivial, trivial, trivial⟩ ?_
  refine gd_br (c := s0 = ((0 : Int32))) (st1 := []) tc_211 rfl rfl (fun _ => rfl) ⟨fun hc => ?_, fun hc => ?_⟩
  · have h := h.1 hc
    show Gd d w 211 _ (111, [some (aR 21 k0), some (aI v1), some (aI v2), some (aI v3), some (aI s0), some (aI v5)], [], M)
    refine gd_s (P := True ∧ True ∧ True) (σ1 := (113, [some (aR 21 k0), some (aI v1), some (aI v2), some (aI v3), some (aI s0), some (aI v5)], [aI v1, aR 21 k0], M)) tc_211 rfl 2 (fun u => ⟨_, rfl⟩) ⟨trivial, trivial, trivial⟩ ?_
    refine gd_callN (ml := 4) (as := [aR 21 k0, aI v1]) (rest := []) tc_211 rfl rfl rfl rfl rfl (by omega) (by omega) (Nat.le_of_ble_eq_true rfl) rfl (g_Mo_nextRequest (by omega) (by omega) h) (fun r9 M1 h => ?_)
    obtain ⟨x1, rfl, h⟩ := h
    show Gd d w 211 _ (116, [some (aR 21 k0), some (aI v1), some (aI v2), some (aI v3), some (aI s0), some (aI v5)], [aI x1], M1)
    refine gd_s (P := True ∧ True ∧ True) (σ1 := (61, [some (aR 21 k0), some (aI v1), some (aI v2), some (aI v3), some (aI s0), some (aI x1)], [], M1)) tc_211 rfl 2 (fun u => ⟨_, rfl⟩) ⟨trivial, trivial, trivial⟩ ?_
    exact hK61 k0 v1 v2 v3 s0 x1 M1 h
  · have h := h.2 hc
    show Gd d w 211 _ (103, [some (aR 21 k0), some (aI v1), some (aI v2), some (aI v3), some (aI s0), some (aI v5)], [], M)
    refine gd_s (P := True ∧ True ∧ True) (σ1 := (105, [some (aR 21 k0), some (aI v1), some (aI v2), some (aI v3), some (aI s0), some (aI v5)], [aI v1, aR 21 k0], M)) tc_211 rfl 2 (fun u => ⟨_, rfl⟩) ⟨trivial, trivial, trivial⟩ ?_
    refine gd_callN (ml := 3) (as := [aR 21 k0, aI v1]) (rest := []) tc_211 rfl rfl rfl rfl rfl (by omega) (by omega) (Nat.le_of_ble_eq_true rfl) rfl (g_Mo_isWitness (by omega) (by omega) h) (fun r9 M2 h => ?_)
    obtain ⟨rfl, h⟩ := h
    show Gd d w 211 _ (108, [some (aR 21 k0), some (aI v1), some (aI v2), some (aI v3), some (aI s0), some (aI v5)], [], M2)
    refine gd_s (P := True ∧ True) (σ1 := (61, [some (aR 21 k0), some (aI v1), some (aI v2), some (aI v3), some (aI s0), some (aI v5)], [], M2)) tc_211 rfl 1 (fun u => ⟨_, rfl⟩) ⟨trivial, trivial⟩ ?_
    exact hK61 k0 v1 v2 v3 s0 v5 M2 h
def w_Mo_reach_L61 (post : Int32 → aM → Prop) : Nat → Nat → Int32 → Int32 → Int32 → Int32 → Int32 → aM → Prop
  | 0, _, _, _, _, _, _, _ => False
  | n + 1, k0, v1, v2, v3, v4, v5, M => ((v5 = ((0 : Int32))) → w_Mo_reach_J121 post k0 v4 M) ∧ (¬ (v5 = ((0 : Int32))) → ((¬ v4 = ((0 : Int32))) → w_Mo_reach_J121 post k0 v4 M) ∧ (¬ (¬ v4 = ((0 : Int32))) → w_Mo_judge (fun M1 => (vp_in ((((100 : Int32)) * v1) + v2) (rK M1 (k0 + 29)).2) ∧ (((¬ (rI M1 (k0 + 29) ((((100 : Int32)) * v1) + v2).toNatClampNeg) = v3) → w_Mo_reach_J96 post (w_Mo_reach_L61 post n) k0 v1 v2 v3 v5 ((0 : Int32)) M1) ∧ (¬ (¬ (rI M1 (k0 + 29) ((((100 : Int32)) * v1) + v2).toNatClampNeg) = v3) → w_Mo_reach_J96 post (w_Mo_reach_L61 post n) k0 v1 v2 v3 v5 ((1 : Int32)) M1))) k0 v1 M))
theorem g_Mo_reach_L61 {d w : Nat} (hd : 4 ≤ d) (hw : 100 ≤ w) {post : Int32 → aM → Prop} : ∀ (n : Nat) (k0 : Nat) (v1 : Int32) (v2 : Int32) (v3 : Int32) (v4 : Int32) (v5 : Int32) (M : aM), w_Mo_reach_L61 post n k0 v1 v2 v3 v4 v5 M → Gd d w 211 (pI post) (61, [some (aR 21 k0), some (aI v1), some (aI v2), some (aI v3), some (aI v4), some (aI v5)], [], M) := by
  intro n
  induction n with
  | zero => intro k0 v1 v2 v3 v4 v5 M h; exact h.elim
  | succ n ih =>
    intro k0 v1 v2 v3 v4 v5 M h
    show Gd d w 211 _ (61, [some (aR 21 k0), some (aI v1), some (aI v2), some (aI v3), some (aI v4), some (aI v5)], [], M)
    refine gd_s (P := True ∧ True) (σ1 := (63, [some (aR 21 k0), some (aI v1), some (aI v2), some (aI v3), some (aI v4), some (aI v5)], [aI v5], M)) tc_211 rfl 1 (fun u => ⟨_, rfl⟩) ⟨trivial, trivial⟩ ?_
    refine gd_br (c := v5 = ((0 : Int32))) (st1 := []) tc_211 rfl rfl (fun _ => rfl) ⟨fun hc => ?_, fun hc => ?_⟩
    · have h := h.1 hc
      exact g_Mo_reach_J121 hd hw k0 v4 (some (aI v1)) (some (aI v2)) (some (aI v3)) (some (aI v5)) M h
    · have h := h.2 hc
      show Gd d w 211 _ (66, [some (aR 21 k0), some (aI v1), some (aI v2), some (aI v3), some (aI v4), some (aI v5)], [], M)
      refine gd_s (P := True ∧ True) (σ1 := (68, [some (aR 21 k0), some (aI v1), some (aI v2), some (aI v3), some (aI v4), some (aI v5)], [aI v4], M)) tc_211 rfl 1 (fun u => ⟨_, rfl⟩) ⟨trivial, trivial⟩ ?_
      refine gd_br (c := ¬ v4 = ((0 : Int32))) (st1 := []) tc_211 rfl rfl (fun _ => rfl) ⟨fun hc => ?_, fun hc => ?_⟩
      · have h := h.1 hc
        exact g_Mo_reach_J121 hd hw k0 v4 (some (aI v1)) (some (aI v2)) (some (aI v3)) (some (aI v5)) M h
      · have h := h.2 hc
        show Gd d w 211 _ (71, [some (aR 21 k0), some (aI v1), some (aI v2), some (aI v3), some (aI v4), some (aI v5)], [], M)
        refine gd_s (P := True ∧ True ∧ True) (σ1 := (73, [some (aR 21 k0), some (aI v1), some (aI v2), some (aI v3), some (aI v4), some (aI v5)], [aI v1, aR 21 k0], M)) tc_211 rfl 2 (fun u => ⟨_, rfl⟩) ⟨trivial, trivial, trivial⟩ ?_
        refine gd_callN (ml := 5) (as := [aR 21 k0, aI v1]) (rest := []) tc_211 rfl rfl rfl rfl rfl (by omega) (by omega) (Nat.le_of_ble_eq_true rfl) rfl (g_Mo_judge (by omega) (by omega) h) (fun r9 M1 h => ?_)
        obtain ⟨rfl, h⟩ := h
        show Gd d w 211 _ (76, [some (aR 21 k0), some (aI v1), some (aI v2), some (aI v3), some (aI v4), some (aI v5)], [], M1)
        obtain ⟨c0, h⟩ := h
        refine gd_s (P := True ∧ True ∧ True ∧ True ∧ True ∧ True ∧ True ∧ (vp_in ((((100 : Int32)) * v1) + v2) (rK M1 (k0 + 29)).2) ∧ True ∧ True) (σ1 := (88, [some (aR 21 k0), some (aI v1), some (aI v2), some (aI v3), some (aI v4), some (aI v5)], [aI v3, aI (rI M1 (k0 + 29) ((((100 : Int32)) * v1) + v2).toNatClampNeg)], M1)) tc_211 rfl 9 (fun u => ⟨_, rfl⟩) ⟨trivial, trivial, trivial, trivial, trivial, trivial, trivial, c0, trivial, trivial⟩ ?_
        refine gd_br (c := ¬ (rI M1 (k0 + 29) ((((100 : Int32)) * v1) + v2).toNatClampNeg) = v3) (st1 := []) tc_211 rfl rfl (fun _ => rfl) ⟨fun hc => ?_, fun hc => ?_⟩
        · have h := h.1 hc
          show Gd d w 211 _ (95, [some (aR 21 k0), some (aI v1), some (aI v2), some (aI v3), some (aI v4), some (aI v5)], [], M1)
          refine gd_s (P := True ∧ True) (σ1 := (96, [some (aR 21 k0), some (aI v1), some (aI v2), some (aI v3), some (aI v4), some (aI v5)], [aI ((0 : Int32))], M1)) tc_211 rfl 1 (fun u => ⟨_, rfl⟩) ⟨trivial, trivial⟩ ?_
          exact g_Mo_reach_J96 hd hw ih k0 v1 v2 v3 v5 ((0 : Int32)) (some (aI v4)) M1 h
        · have h := h.2 hc
          show Gd d w 211 _ (91, [some (aR 21 k0), some (aI v1), some (aI v2), some (aI v3), some (aI v4), some (aI v5)], [], M1)
          refine gd_s (P := True ∧ True ∧ True) (σ1 := (96, [some (aR 21 k0), some (aI v1), some (aI v2), some (aI v3), some (aI v4), some (aI v5)], [aI ((1 : Int32))], M1)) tc_211 rfl 2 (fun u => ⟨_, rfl⟩) ⟨trivial, trivial, trivial⟩ ?_
          exact g_Mo_reach_J96 hd hw ih k0 v1 v2 v3 v5 ((1 : Int32)) (some (aI v4)) M1 h
def w_Mo_reach_J24 (post : Int32 → aM → Prop) (k0 : Nat) (v1 : Int32) (v2 : Int32) (v3 : Int32) (t0 : Nat) (s1 : Int32) (M : aM) : Prop := w_Mo_goes (fun x1 M1 => ((¬ x1 = ((0 : Int32))) → w_Mo_requests (fun x2 => ((x2 ≤ ((4096 : Int32))) → w_Mo_keep (fun M3 => w_Mo_emptyBags (fun M4 => ∃ n9, w_Mo_reach_L61 post n9 k0 v1 v2 v3 ((0 : Int32)) ((1 : Int32)) M4) k0 v1 M3) k0 M1) ∧ (¬ (x2 ≤ ((4096 : Int32))) → post ((-3 : Int32)) M1)) k0 v1 M1) ∧ (¬ (¬ x1 = ((0 : Int32))) → post ((0 : Int32)) M1)) t0 s1 M
theorem g_Mo_reach_J24 {d w : Nat} (hd : 4 ≤ d) (hw : 100 ≤ w) {post : Int32 → aM → Prop} (k0 : Nat) (v1 : Int32) (v2 : Int32) (v3 : Int32) (t0 : Nat) (s1 : Int32) (o4 o5 : Option aV) (M : aM) (h : w_Mo_reach_J24 post k0 v1 v2 v3 t0 s1 M) : Gd d w 211 (pI post) (24, [some (aR 21 k0), some (aI v1), some (aI v2), some (aI v3), o4, o5], [aI s1, aR 21 t0], M) := by
  unfold w_Mo_reach_J24 at h
  show Gd d w 211 _ (24, [some (aR 21 k0), some (aI v1), some (aI v2), some (aI v3), o4, o5], [aI s1, aR 21 t0], M)
  refine gd_callN (ml := 2) (as := [aR 21 t0, aI s1]) (rest := []) tc_211 rfl rfl rfl rfl rfl (by omega) (by omega) (Nat.le_of_ble_eq_true rfl) rfl (g_Mo_goes (by omega) (by omega) h) (fun r9 M1 h => ?_)
  obtain ⟨x1, rfl, h⟩ := h
  show Gd d w 211 _ (27, [some (aR 21 k0), some (aI v1), some (aI v2), some (aI v3), o4, o5], [aI x1], M1)
  refine gd_br (c := ¬ x1 = ((0 : Int32))) (st1 := []) tc_211 rfl rfl (fun _ => rfl) ⟨fun hc => ?_, fun hc => ?_⟩
  · have h := h.1 hc
    show Gd d w 211 _ (32, [some (aR 21 k0), some (aI v1), some (aI v2), some (aI v3), o4, o5], [], M1)
    refine gd_s (P := True ∧ True ∧ True) (σ1 := (34, [some (aR 21 k0), some (aI v1), some (aI v2), some (aI v3), o4, o5], [aI v1, aR 21 k0], M1)) tc_211 rfl 2 (fun u => ⟨_, rfl⟩) ⟨trivial, trivial, trivial⟩ ?_
    refine gd_callN (ml := 4) (as := [aR 21 k0, aI v1]) (rest := []) tc_211 rfl rfl rfl rfl rfl (by omega) (by omega) (Nat.le_of_ble_eq_true rfl) rfl (g_Mo_requests (by omega) (by omega) h) (fun r9 M9 h => ?_)
    obtain ⟨x2, rfl, e9, h⟩ := h
    subst M9
    show Gd d w 211 _ (37, [some (aR 21 k0), some (aI v1), some (aI v2), some (aI v3), o4, o5], [aI x2], M1)
    refine gd_s (P := True ∧ True) (σ1 := (40, [some (aR 21 k0), some (aI v1), some (aI v2), some (aI v3), o4, o5], [aI ((4096 : Int32)), aI x2], M1)) tc_211 rfl 1 (fun u => ⟨_, rfl⟩) ⟨trivial, trivial⟩ ?_
    refine gd_br (c := x2 ≤ ((4096 : Int32))) (st1 := []) tc_211 rfl rfl (fun _ => rfl) ⟨fun hc => ?_, fun hc => ?_⟩
    · have h := h.1 hc
      show Gd d w 211 _ (46, [some (aR 21 k0), some (aI v1), some (aI v2), some (aI v3), o4, o5], [], M1)
      refine gd_s (P := True ∧ True) (σ1 := (47, [some (aR 21 k0), some (aI v1), some (aI v2), some (aI v3), o4, o5], [aR 21 k0], M1)) tc_211 rfl 1 (fun u => ⟨_, rfl⟩) ⟨trivial, trivial⟩ ?_
      refine gd_callN (ml := 2) (as := [aR 21 k0]) (rest := []) tc_211 rfl rfl rfl rfl rfl (by omega) (by omega) (Nat.le_of_ble_eq_true rfl) rfl (g_Mo_keep (by omega) (by omega) h) (fun r9 M3 h => ?_)
      obtain ⟨rfl, h⟩ := h
      show Gd d w 211 _ (50, [some (aR 21 k0), some (aI v1), some (aI v2), some (aI v3), o4, o5], [], M3)
      refine gd_s (P := True ∧ True ∧ True) (σ1 := (52, [some (aR 21 k0), some (aI v1), some (aI v2), some (aI v3), o4, o5], [aI v1, aR 21 k0], M3)) tc_211 rfl 2 (fun u => ⟨_, rfl⟩) ⟨trivial, trivial, trivial⟩ ?_
      refine gd_callN (ml := 3) (as := [aR 21 k0, aI v1]) (rest := []) tc_211 rfl rfl rfl rfl rfl (by omega) (by omega) (Nat.le_of_ble_eq_true rfl) rfl (g_Mo_emptyBags (by omega) (by omega) h) (fun r9 M4 h => ?_)
      obtain ⟨rfl, h⟩ := h
      show Gd d w 211 _ (55, [some (aR 21 k0), some (aI v1), some (aI v2), some (aI v3), o4, o5], [], M4)
      refine gd_s (P := True ∧ True ∧ True ∧ True ∧ True) (σ1 := (61, [some (aR 21 k0), some (aI v1), some (aI v2), some (aI v3), some (aI ((0 : Int32))), some (aI ((1 : Int32)))], [], M4)) tc_211 rfl 4 (fun u => ⟨_, rfl⟩) ⟨trivial, trivial, trivial, trivial, trivial⟩ ?_
      obtain ⟨n9, h⟩ := h
      exact g_Mo_reach_L61 hd hw n9 k0 v1 v2 v3 ((0 : Int32)) ((1 : Int32)) M4 h
    · have h := h.2 hc
      show Gd d w 211 _ (43, [some (aR 21 k0), some (aI v1), some (aI v2), some (aI v3), o4, o5], [], M1)
      refine gd_s (P := True ∧ True) (σ1 := (45, [some (aR 21 k0), some (aI v1), some (aI v2), some (aI v3), o4, o5], [aI ((-3 : Int32))], M1)) tc_211 rfl 1 (fun u => ⟨_, rfl⟩) ⟨trivial, trivial⟩ ?_
      exact gd_ret tc_211 rfl rfl trivial (fun _ => rfl) ⟨_, rfl, h⟩
  · have h := h.2 hc
    show Gd d w 211 _ (30, [some (aR 21 k0), some (aI v1), some (aI v2), some (aI v3), o4, o5], [], M1)
    refine gd_s (P := True ∧ True) (σ1 := (31, [some (aR 21 k0), some (aI v1), some (aI v2), some (aI v3), o4, o5], [aI ((0 : Int32))], M1)) tc_211 rfl 1 (fun u => ⟨_, rfl⟩) ⟨trivial, trivial⟩ ?_
    exact gd_ret tc_211 rfl rfl trivial (fun _ => rfl) ⟨_, rfl, h⟩
def w_Mo_reach_J23 (post : Int32 → aM → Prop) (k0 : Nat) (v1 : Int32) (v2 : Int32) (v3 : Int32) (t0 : Nat) (M : aM) : Prop := w_Mo_reach_J24 post k0 v1 v2 v3 t0 ((0 : Int32)) M
theorem g_Mo_reach_J23 {d w : Nat} (hd : 4 ≤ d) (hw : 100 ≤ w) {post : Int32 → aM → Prop} (k0 : Nat) (v1 : Int32) (v2 : Int32) (v3 : Int32) (t0 : Nat) (o4 o5 : Option aV) (M : aM) (h : w_Mo_reach_J23 post k0 v1 v2 v3 t0 M) : Gd d w 211 (pI post) (23, [some (aR 21 k0), some (aI v1), some (aI v2), some (aI v3), o4, o5], [aR 21 t0], M) := by
  unfold w_Mo_reach_J23 at h
  show Gd d w 211 _ (23, [some (aR 21 k0), some (aI v1), some (aI v2), some (aI v3), o4, o5], [aR 21 t0], M)
  refine gd_s (P := True ∧ True) (σ1 := (24, [some (aR 21 k0), some (aI v1), some (aI v2), some (aI v3), o4, o5], [aI ((0 : Int32)), aR 21 t0], M)) tc_211 rfl 1 (fun u => ⟨_, rfl⟩) ⟨trivial, trivial⟩ ?_
  exact g_Mo_reach_J24 hd hw k0 v1 v2 v3 t0 ((0 : Int32)) o4 o5 M h
/-- PolicyJudgeModel.reach(III)I -/
def w_Mo_reach (post : Int32 → aM → Prop) (k0 : Nat) (v1 : Int32) (v2 : Int32) (v3 : Int32) (M : aM) : Prop := w_Mo_isNode (fun x1 => ((x1 = ((0 : Int32))) → w_Mo_reach_J23 post k0 v1 v2 v3 k0 M) ∧ (¬ (x1 = ((0 : Int32))) → w_Mo_in (fun x2 => ((x2 = ((0 : Int32))) → w_Mo_reach_J23 post k0 v1 v2 v3 k0 M) ∧ (¬ (x2 = ((0 : Int32))) → w_Mo_reach_J24 post k0 v1 v2 v3 k0 ((1 : Int32)) M)) v3 ((0 : Int32)) ((5 : Int32)) M)) k0 v1 v2 M
theorem g_Mo_reach {d w : Nat} (hd : 4 ≤ d) (hw : 100 ≤ w) {post : Int32 → aM → Prop} {k0 : Nat} {v1 : Int32} {v2 : Int32} {v3 : Int32} {M : aM} (h : w_Mo_reach post k0 v1 v2 v3 M) : Gd d w 211 (pI post) (0, aEnt 211 [aR 21 k0, aI v1, aI v2, aI v3], [], M) := by
  unfold w_Mo_reach at h
  show Gd d w 211 _ (0, [some (aR 21 k0), some (aI v1), some (aI v2), some (aI v3), none, none], [], M)
  refine gd_s (P := True ∧ True ∧ True ∧ True ∧ True) (σ1 := (4, [some (aR 21 k0), some (aI v1), some (aI v2), some (aI v3), none, none], [aI v2, aI v1, aR 21 k0, aR 21 k0], M)) tc_211 rfl 4 (fun u => ⟨_, rfl⟩) ⟨trivial, trivial, trivial, trivial, trivial⟩ ?_
  refine gd_callN (ml := 3) (as := [aR 21 k0, aI v1, aI v2]) (rest := [aR 21 k0]) tc_211 rfl rfl rfl rfl rfl (by omega) (by omega) (Nat.le_of_ble_eq_true rfl) rfl (g_Mo_isNode (by omega) (by omega) h) (fun r9 M9 h => ?_)
  obtain ⟨x1, rfl, e9, h⟩ := h
  subst M9
  show Gd d w 211 _ (7, [some (aR 21 k0), some (aI v1), some (aI v2), some (aI v3), none, none], [aI x1, aR 21 k0], M)
  refine gd_br (c := x1 = ((0 : Int32))) (st1 := [aR 21 k0]) tc_211 rfl rfl (fun _ => rfl) ⟨fun hc => ?_, fun hc => ?_⟩
  · have h := h.1 hc
    exact g_Mo_reach_J23 hd hw k0 v1 v2 v3 k0 none none M h
  · have h := h.2 hc
    show Gd d w 211 _ (10, [some (aR 21 k0), some (aI v1), some (aI v2), some (aI v3), none, none], [aR 21 k0], M)
    refine gd_s (P := True ∧ True ∧ True ∧ True) (σ1 := (13, [some (aR 21 k0), some (aI v1), some (aI v2), some (aI v3), none, none], [aI ((5 : Int32)), aI ((0 : Int32)), aI v3, aR 21 k0], M)) tc_211 rfl 3 (fun u => ⟨_, rfl⟩) ⟨trivial, trivial, trivial, trivial⟩ ?_
    refine gd_callN (ml := 3) (as := [aI v3, aI ((0 : Int32)), aI ((5 : Int32))]) (rest := [aR 21 k0]) tc_211 rfl rfl rfl rfl rfl (by omega) (by omega) (Nat.le_of_ble_eq_true rfl) rfl (g_Mo_in (by omega) (by omega) h) (fun r9 M9 h => ?_)
    obtain ⟨x2, rfl, e9, h⟩ := h
    subst M9
    show Gd d w 211 _ (16, [some (aR 21 k0), some (aI v1), some (aI v2), some (aI v3), none, none], [aI x2, aR 21 k0], M)
    refine gd_br (c := x2 = ((0 : Int32))) (st1 := [aR 21 k0]) tc_211 rfl rfl (fun _ => rfl) ⟨fun hc => ?_, fun hc => ?_⟩
    · have h := h.1 hc
      exact g_Mo_reach_J23 hd hw k0 v1 v2 v3 k0 none none M h
    · have h := h.2 hc
      show Gd d w 211 _ (19, [some (aR 21 k0), some (aI v1), some (aI v2), some (aI v3), none, none], [aR 21 k0], M)
      refine gd_s (P := True ∧ True ∧ True) (σ1 := (24, [some (aR 21 k0), some (aI v1), some (aI v2), some (aI v3), none, none], [aI ((1 : Int32)), aR 21 k0], M)) tc_211 rfl 2 (fun u => ⟨_, rfl⟩) ⟨trivial, trivial, trivial⟩ ?_
      exact g_Mo_reach_J24 hd hw k0 v1 v2 v3 k0 ((1 : Int32)) none none M h
theorem tc_212 : tC 212 = c212 := rfl
def w_Mo_witness_J27 (post : Int32 → aM → Prop) (k0 : Nat) (v1 : Int32) (t0 : Nat) (s1 : Int32) (M : aM) : Prop := w_Mo_goes (fun x1 M1 => ((x1 = ((0 : Int32))) → post ((0 : Int32)) M1) ∧ (¬ (x1 = ((0 : Int32))) → (vp_in v1 (rK M1 (k0 + 42)).2) ∧ post (rI M1 (k0 + 42) v1.toNatClampNeg) M1)) t0 s1 M
theorem g_Mo_witness_J27 {d w : Nat} (hd : 1 ≤ d) (hw : 22 ≤ w) {post : Int32 → aM → Prop} (k0 : Nat) (v1 : Int32) (t0 : Nat) (s1 : Int32) (M : aM) (h : w_Mo_witness_J27 post k0 v1 t0 s1 M) : Gd d w 212 (pI post) (27, [some (aR 21 k0), some (aI v1)], [aI s1, aR 21 t0], M) := by
  unfold w_Mo_witness_J27 at h
  show Gd d w 212 _ (27, [some (aR 21 k0), some (aI v1)], [aI s1, aR 21 t0], M)
  refine gd_callN (ml := 2) (as := [aR 21 t0, aI s1]) (rest := []) tc_212 rfl rfl rfl rfl rfl (by omega) (by omega) (Nat.le_of_ble_eq_true rfl) rfl (g_Mo_goes (by omega) (by omega) h) (fun r9 M1 h => ?_)
  obtain ⟨x1, rfl, h⟩ := h
  show Gd d w 212 _ (30, [some (aR 21 k0), some (aI v1)], [aI x1], M1)
  refine gd_br (c := x1 = ((0 : Int32))) (st1 := []) tc_212 rfl rfl (fun _ => rfl) ⟨fun hc => ?_, fun hc => ?_⟩
  · have h := h.1 hc
    show Gd d w 212 _ (42, [some (aR 21 k0), some (aI v1)], [], M1)
    refine gd_s (P := True ∧ True) (σ1 := (43, [some (aR 21 k0), some (aI v1)], [aI ((0 : Int32))], M1)) tc_212 rfl 1 (fun u => ⟨_, rfl⟩) ⟨trivial, trivial⟩ ?_
    exact gd_ret tc_212 rfl rfl trivial (fun _ => rfl) ⟨_, rfl, h⟩
  · have h := h.2 hc
    show Gd d w 212 _ (33, [some (aR 21 k0), some (aI v1)], [], M1)
    obtain ⟨c0, h⟩ := h
    refine gd_s (P := True ∧ True ∧ True ∧ (vp_in v1 (rK M1 (k0 + 42)).2) ∧ True ∧ True) (σ1 := (43, [some (aR 21 k0), some (aI v1)], [aI (rI M1 (k0 + 42) v1.toNatClampNeg)], M1)) tc_212 rfl 5 (fun u => ⟨_, rfl⟩) ⟨trivial, trivial, trivial, c0, trivial, trivial⟩ ?_
    exact gd_ret tc_212 rfl rfl trivial (fun _ => rfl) ⟨_, rfl, h⟩
def w_Mo_witness_J26 (post : Int32 → aM → Prop) (k0 : Nat) (v1 : Int32) (t0 : Nat) (M : aM) : Prop := w_Mo_witness_J27 post k0 v1 t0 ((0 : Int32)) M
theorem g_Mo_witness_J26 {d w : Nat} (hd : 1 ≤ d) (hw : 22 ≤ w) {post : Int32 → aM → Prop} (k0 : Nat) (v1 : Int32) (t0 : Nat) (M : aM) (h : w_Mo_witness_J26 post k0 v1 t0 M) : Gd d w 212 (pI post) (26, [some (aR 21 k0), some (aI v1)], [aR 21 t0], M) := by
  unfold w_Mo_witness_J26 at h
  show Gd d w 212 _ (26, [some (aR 21 k0), some (aI v1)], [aR 21 t0], M)
  refine gd_s (P := True ∧ True) (σ1 := (27, [some (aR 21 k0), some (aI v1)], [aI ((0 : Int32)), aR 21 t0], M)) tc_212 rfl 1 (fun u => ⟨_, rfl⟩) ⟨trivial, trivial⟩ ?_
  exact g_Mo_witness_J27 hd hw k0 v1 t0 ((0 : Int32)) M h
/-- PolicyJudgeModel.witness(I)I -/
def w_Mo_witness (post : Int32 → aM → Prop) (k0 : Nat) (v1 : Int32) (M : aM) : Prop := (((rI M k0 54) = ((0 : Int32))) → w_Mo_witness_J26 post k0 v1 k0 M) ∧ (¬ ((rI M k0 54) = ((0 : Int32))) → w_Mo_in (fun x1 => ((x1 = ((0 : Int32))) → w_Mo_witness_J26 post k0 v1 k0 M) ∧ (¬ (x1 = ((0 : Int32))) → w_Mo_witness_J27 post k0 v1 k0 ((1 : Int32)) M)) v1 ((0 : Int32)) ((rI M k0 53) - ((1 : Int32))) M)
theorem g_Mo_witness {d w : Nat} (hd : 1 ≤ d) (hw : 22 ≤ w) {post : Int32 → aM → Prop} {k0 : Nat} {v1 : Int32} {M : aM} (h : w_Mo_witness post k0 v1 M) : Gd d w 212 (pI post) (0, aEnt 212 [aR 21 k0, aI v1], [], M) := by
  unfold w_Mo_witness at h
  show Gd d w 212 _ (0, [some (aR 21 k0), some (aI v1)], [], M)
  refine gd_s (P := True ∧ True ∧ True ∧ True) (σ1 := (5, [some (aR 21 k0), some (aI v1)], [aI (rI M k0 54), aR 21 k0], M)) tc_212 rfl 3 (fun u => ⟨_, rfl⟩) ⟨trivial, trivial, trivial, trivial⟩ ?_
  refine gd_br (c := (rI M k0 54) = ((0 : Int32))) (st1 := [aR 21 k0]) tc_212 rfl rfl (fun _ => rfl) ⟨fun hc => ?_, fun hc => ?_⟩
  · have h := h.1 hc
    exact g_Mo_witness_J26 hd hw k0 v1 k0 M h
  · have h := h.2 hc
    show Gd d w 212 _ (8, [some (aR 21 k0), some (aI v1)], [aR 21 k0], M)
    refine gd_s (P := True ∧ True ∧ True ∧ True ∧ True ∧ True ∧ True) (σ1 := (16, [some (aR 21 k0), some (aI v1)], [aI ((rI M k0 53) - ((1 : Int32))), aI ((0 : Int32)), aI v1, aR 21 k0], M)) tc_212 rfl 6 (fun u => ⟨_, rfl⟩) ⟨trivial, trivial, trivial, trivial, trivial, trivial, trivial⟩ ?_
    refine gd_callN (ml := 3) (as := [aI v1, aI ((0 : Int32)), aI ((rI M k0 53) - ((1 : Int32)))]) (rest := [aR 21 k0]) tc_212 rfl rfl rfl rfl rfl (by omega) (by omega) (Nat.le_of_ble_eq_true rfl) rfl (g_Mo_in (by omega) (by omega) h) (fun r9 M9 h => ?_)
    obtain ⟨x1, rfl, e9, h⟩ := h
    subst M9
    show Gd d w 212 _ (19, [some (aR 21 k0), some (aI v1)], [aI x1, aR 21 k0], M)
    refine gd_br (c := x1 = ((0 : Int32))) (st1 := [aR 21 k0]) tc_212 rfl rfl (fun _ => rfl) ⟨fun hc => ?_, fun hc => ?_⟩
    · have h := h.1 hc
      exact g_Mo_witness_J26 hd hw k0 v1 k0 M h
    · have h := h.2 hc
      show Gd d w 212 _ (22, [some (aR 21 k0), some (aI v1)], [aR 21 k0], M)
      refine gd_s (P := True ∧ True ∧ True) (σ1 := (27, [some (aR 21 k0), some (aI v1)], [aI ((1 : Int32)), aR 21 k0], M)) tc_212 rfl 2 (fun u => ⟨_, rfl⟩) ⟨trivial, trivial, trivial⟩ ?_
      exact g_Mo_witness_J27 hd hw k0 v1 k0 ((1 : Int32)) M h
theorem tc_215 : tC 215 = c215 := rfl
/-- PolicyJudgeModel.put(I)V -/
def w_Mo_put (post : aM → Prop) (k0 : Nat) (v1 : Int32) (M : aM) : Prop := (vp_in (rI M k0 60) (rK M (k0 + 47)).2) ∧ post (wI (wI M (k0 + 47) (rI M k0 60).toNatClampNeg v1.toInt8.toInt32.toInt8.toInt32) k0 60 ((rI (wI M (k0 + 47) (rI M k0 60).toNatClampNeg v1.toInt8.toInt32.toInt8.toInt32) k0 60) + ((1 : Int32))))
theorem g_Mo_put {d w : Nat} (hd : 0 ≤ d) (hw : 0 ≤ w) {post : aM → Prop} {k0 : Nat} {v1 : Int32} {M : aM} (h : w_Mo_put post k0 v1 M) : Gd d w 215 (pV post) (0, aEnt 215 [aR 21 k0, aI v1], [], M) := by
  unfold w_Mo_put at h
  show Gd d w 215 _ (0, [some (aR 21 k0), some (aI v1)], [], M)
  obtain ⟨c0, h⟩ := h
  refine gd_s (P := True ∧ True ∧ True ∧ True ∧ True ∧ True ∧ (vp_in (rI M k0 60) (rK M (k0 + 47)).2) ∧ True ∧ True ∧ True ∧ True ∧ True ∧ True ∧ True) (σ1 := (21, [some (aR 21 k0), some (aI v1)], [], wI (wI M (k0 + 47) (rI M k0 60).toNatClampNeg v1.toInt8.toInt32.toInt8.toInt32) k0 60 ((rI (wI M (k0 + 47) (rI M k0 60).toNatClampNeg v1.toInt8.toInt32.toInt8.toInt32) k0 60) + ((1 : Int32))))) tc_215 rfl 13 (fun u => ⟨_, rfl⟩) ⟨trivial, trivial, trivial, trivial, trivial, trivial, c0, trivial, trivial, trivial, trivial, trivial, trivial, trivial⟩ ?_
  exact gd_ret tc_215 rfl rfl trivial (fun _ => rfl) ⟨rfl, h⟩
theorem tc_214 : tC 214 = c214 := rfl
def w_Mo_say_L2 (post : aM → Prop) : Nat → Nat → Nat → Int32 → aM → Prop
  | 0, _, _, _, _ => False
  | n + 1, k0, k1, v2, M => (k1 < 59) ∧ (((Int32.ofNat (tStr.getD k1 []).length) ≤ v2) → post M) ∧ (¬ ((Int32.ofNat (tStr.getD k1 []).length) ≤ v2) → (k1 < 59 ∧ vp_in v2 (tStr.getD k1 []).length) ∧ w_Mo_put (fun M1 => w_Mo_say_L2 post n k0 k1 (v2 + (1 : Int32)) M1) k0 ((tStr.getD k1 []).getD v2.toNatClampNeg 0) M)
theorem g_Mo_say_L2 {d w : Nat} (hd : 6 ≤ d) (hw : 200 ≤ w) {post : aM → Prop} : ∀ (n : Nat) (k0 : Nat) (k1 : Nat) (v2 : Int32) (M : aM), w_Mo_say_L2 post n k0 k1 v2 M → Gd d w 214 (pV post) (2, [some (aR 21 k0), some (aR 1 k1), some (aI v2)], [], M) := by
  intro n
  induction n with
  | zero => intro k0 k1 v2 M h; exact h.elim
  | succ n ih =>
    intro k0 k1 v2 M h
    show Gd d w 214 _ (2, [some (aR 21 k0), some (aR 1 k1), some (aI v2)], [], M)
    refine gd_s (P := True ∧ True ∧ True) (σ1 := (4, [some (aR 21 k0), some (aR 1 k1), some (aI v2)], [aR 1 k1, aI v2], M)) tc_214 rfl 2 (fun u => ⟨_, rfl⟩) ⟨trivial, trivial, trivial⟩ ?_
    obtain ⟨c0, h⟩ := h
    refine gd_prim (P := k1 < 59) (σ1 := (7, [some (aR 21 k0), some (aR 1 k1), some (aI v2)], [aI (Int32.ofNat (tStr.getD k1 []).length), aI v2], M)) tc_214 rfl rfl rfl rfl c0 (by omega) (by omega) (Nat.le_of_ble_eq_true rfl) ?_
    show Gd d w 214 _ (7, [some (aR 21 k0), some (aR 1 k1), some (aI v2)], [aI (Int32.ofNat (tStr.getD k1 []).length), aI v2], M)
    refine gd_br (c := (Int32.ofNat (tStr.getD k1 []).length) ≤ v2) (st1 := []) tc_214 rfl rfl (fun _ => rfl) ⟨fun hc => ?_, fun hc => ?_⟩
    · have h := h.1 hc
      show Gd d w 214 _ (25, [some (aR 21 k0), some (aR 1 k1), some (aI v2)], [], M)
      exact gd_ret tc_214 rfl rfl trivial (fun _ => rfl) ⟨rfl, h⟩
    · have h := h.2 hc
      show Gd d w 214 _ (10, [some (aR 21 k0), some (aR 1 k1), some (aI v2)], [], M)
      refine gd_s (P := True ∧ True ∧ True ∧ True) (σ1 := (13, [some (aR 21 k0), some (aR 1 k1), some (aI v2)], [aI v2, aR 1 k1, aR 21 k0], M)) tc_214 rfl 3 (fun u => ⟨_, rfl⟩) ⟨trivial, trivial, trivial, trivial⟩ ?_
      obtain ⟨c0, h⟩ := h
      refine gd_prim (P := k1 < 59 ∧ vp_in v2 (tStr.getD k1 []).length) (σ1 := (16, [some (aR 21 k0), some (aR 1 k1), some (aI v2)], [aI ((tStr.getD k1 []).getD v2.toNatClampNeg 0), aR 21 k0], M)) tc_214 rfl rfl rfl rfl c0 (by omega) (by omega) (Nat.le_of_ble_eq_true rfl) ?_
      show Gd d w 214 _ (16, [some (aR 21 k0), some (aR 1 k1), some (aI v2)], [aI ((tStr.getD k1 []).getD v2.toNatClampNeg 0), aR 21 k0], M)
      refine gd_callN (ml := 2) (as := [aR 21 k0, aI ((tStr.getD k1 []).getD v2.toNatClampNeg 0)]) (rest := []) tc_214 rfl rfl rfl rfl rfl (by omega) (by omega) (Nat.le_of_ble_eq_true rfl) rfl (g_Mo_put (by omega) (by omega) h) (fun r9 M1 h => ?_)
      obtain ⟨rfl, h⟩ := h
      show Gd d w 214 _ (19, [some (aR 21 k0), some (aR 1 k1), some (aI v2)], [], M1)
      refine gd_s (P := True ∧ True ∧ True) (σ1 := (2, [some (aR 21 k0), some (aR 1 k1), some (aI (v2 + (1 : Int32)))], [], M1)) tc_214 rfl 2 (fun u => ⟨_, rfl⟩) ⟨trivial, trivial, trivial⟩ ?_
      exact ih k0 k1 (v2 + (1 : Int32)) M1 h
/-- PolicyJudgeModel.say(Ljava/lang/String;)V -/
def w_Mo_say (post : aM → Prop) (k0 : Nat) (k1 : Nat) (M : aM) : Prop := ∃ n9, w_Mo_say_L2 post n9 k0 k1 ((0 : Int32)) M
theorem g_Mo_say {d w : Nat} (hd : 6 ≤ d) (hw : 200 ≤ w) {post : aM → Prop} {k0 : Nat} {k1 : Nat} {M : aM} (h : w_Mo_say post k0 k1 M) : Gd d w 214 (pV post) (0, aEnt 214 [aR 21 k0, aR 1 k1], [], M) := by
  unfold w_Mo_say at h
  show Gd d w 214 _ (0, [some (aR 21 k0), some (aR 1 k1), none], [], M)
  refine gd_s (P := True ∧ True ∧ True) (σ1 := (2, [some (aR 21 k0), some (aR 1 k1), some (aI ((0 : Int32)))], [], M)) tc_214 rfl 2 (fun u => ⟨_, rfl⟩) ⟨trivial, trivial, trivial⟩ ?_
  obtain ⟨n9, h⟩ := h
  exact g_Mo_say_L2 hd hw n9 k0 k1 ((0 : Int32)) M h
theorem tc_216 : tC 216 = c216 := rfl
def w_Mo_sayName_L2 (post : aM → Prop) : Nat → Nat → Int32 → Int32 → aM → Prop
  | 0, _, _, _, _ => False
  | n + 1, k0, v1, v2, M => (vp_in v1 (rK M (k0 + 8)).2) ∧ ((((rI M (k0 + 8) v1.toNatClampNeg) ≤ v2) → post M) ∧ (¬ ((rI M (k0 + 8) v1.toNatClampNeg) ≤ v2) → (vp_in ((((12 : Int32)) * v1) + v2) (rK M (k0 + 9)).2) ∧ (w_Mo_put (fun M1 => w_Mo_sayName_L2 post n k0 v1 (v2 + (1 : Int32)) M1) k0 (rI M (k0 + 9) ((((12 : Int32)) * v1) + v2).toNatClampNeg) M)))
theorem g_Mo_sayName_L2 {d w : Nat} (hd : 1 ≤ d) (hw : 21 ≤ w) {post : aM → Prop} : ∀ (n : Nat) (k0 : Nat) (v1 : Int32) (v2 : Int32) (M : aM), w_Mo_sayName_L2 post n k0 v1 v2 M → Gd d w 216 (pV post) (2, [some (aR 21 k0), some (aI v1), some (aI v2)], [], M) := by
  intro n
  induction n with
  | zero => intro k0 v1 v2 M h; exact h.elim
  | succ n ih =>
    intro k0 v1 v2 M h
    show Gd d w 216 _ (2, [some (aR 21 k0), some (aI v1), some (aI v2)], [], M)
    obtain ⟨c0, h⟩ := h
    refine gd_s (P := True ∧ True ∧ True ∧ True ∧ (vp_in v1 (rK M (k0 + 8)).2) ∧ True) (σ1 := (9, [some (aR 21 k0), some (aI v1), some (aI v2)], [aI (rI M (k0 + 8) v1.toNatClampNeg), aI v2], M)) tc_216 rfl 5 (fun u => ⟨_, rfl⟩) ⟨trivial, trivial, trivial, trivial, c0, trivial⟩ ?_
    refine gd_br (c := (rI M (k0 + 8) v1.toNatClampNeg) ≤ v2) (st1 := []) tc_216 rfl rfl (fun _ => rfl) ⟨fun hc => ?_, fun hc => ?_⟩
    · have h := h.1 hc
      show Gd d w 216 _ (33, [some (aR 21 k0), some (aI v1), some (aI v2)], [], M)
      exact gd_ret tc_216 rfl rfl trivial (fun _ => rfl) ⟨rfl, h⟩
    · have h := h.2 hc
      show Gd d w 216 _ (12, [some (aR 21 k0), some (aI v1), some (aI v2)], [], M)
      obtain ⟨c0, h⟩ := h
      refine gd_s (P := True ∧ True ∧ True ∧ True ∧ True ∧ True ∧ True ∧ True ∧ (vp_in ((((12 : Int32)) * v1) + v2) (rK M (k0 + 9)).2) ∧ True) (σ1 := (24, [some (aR 21 k0), some (aI v1), some (aI v2)], [aI (rI M (k0 + 9) ((((12 : Int32)) * v1) + v2).toNatClampNeg), aR 21 k0], M)) tc_216 rfl 9 (fun u => ⟨_, rfl⟩) ⟨trivial, trivial, trivial, trivial, trivial, trivial, trivial, trivial, c0, trivial⟩ ?_
      refine gd_callN (ml := 2) (as := [aR 21 k0, aI (rI M (k0 + 9) ((((12 : Int32)) * v1) + v2).toNatClampNeg)]) (rest := []) tc_216 rfl rfl rfl rfl rfl (by omega) (by omega) (Nat.le_of_ble_eq_true rfl) rfl (g_Mo_put (by omega) (by omega) h) (fun r9 M1 h => ?_)
      obtain ⟨rfl, h⟩ := h
      show Gd d w 216 _ (27, [some (aR 21 k0), some (aI v1), some (aI v2)], [], M1)
      refine gd_s (P := True ∧ True ∧ True) (σ1 := (2, [some (aR 21 k0), some (aI v1), some (aI (v2 + (1 : Int32)))], [], M1)) tc_216 rfl 2 (fun u => ⟨_, rfl⟩) ⟨trivial, trivial, trivial⟩ ?_
      exact ih k0 v1 (v2 + (1 : Int32)) M1 h
/-- PolicyJudgeModel.sayName(I)V -/
def w_Mo_sayName (post : aM → Prop) (k0 : Nat) (v1 : Int32) (M : aM) : Prop := ∃ n9, w_Mo_sayName_L2 post n9 k0 v1 ((0 : Int32)) M
theorem g_Mo_sayName {d w : Nat} (hd : 1 ≤ d) (hw : 21 ≤ w) {post : aM → Prop} {k0 : Nat} {v1 : Int32} {M : aM} (h : w_Mo_sayName post k0 v1 M) : Gd d w 216 (pV post) (0, aEnt 216 [aR 21 k0, aI v1], [], M) := by
  unfold w_Mo_sayName at h
  show Gd d w 216 _ (0, [some (aR 21 k0), some (aI v1), none], [], M)
  refine gd_s (P := True ∧ True ∧ True) (σ1 := (2, [some (aR 21 k0), some (aI v1), some (aI ((0 : Int32)))], [], M)) tc_216 rfl 2 (fun u => ⟨_, rfl⟩) ⟨trivial, trivial, trivial⟩ ?_
  obtain ⟨n9, h⟩ := h
  exact g_Mo_sayName_L2 hd hw n9 k0 v1 ((0 : Int32)) M h
theorem tc_217 : tC 217 = c217 := rfl
def w_Mo_sayNumber_J37 (post : aM → Prop) (k0 : Nat) (v1 : Int32) (M : aM) : Prop := (¬ ((10 : Int32)) = 0) ∧ (w_Mo_put (fun M1 => post M1) k0 (((48 : Int32)) + (v1 - v1 / ((10 : Int32)) * ((10 : Int32)))) M)
theorem g_Mo_sayNumber_J37 {d w : Nat} (hd : 1 ≤ d) (hw : 21 ≤ w) {post : aM → Prop} (k0 : Nat) (v1 : Int32) (M : aM) (h : w_Mo_sayNumber_J37 post k0 v1 M) : Gd d w 217 (pV post) (37, [some (aR 21 k0), some (aI v1)], [], M) := by
  unfold w_Mo_sayNumber_J37 at h
  show Gd d w 217 _ (37, [some (aR 21 k0), some (aI v1)], [], M)
  obtain ⟨c0, h⟩ := h
  refine gd_s (P := True ∧ True ∧ True ∧ True ∧ (¬ ((10 : Int32)) = 0) ∧ True ∧ True) (σ1 := (45, [some (aR 21 k0), some (aI v1)], [aI (((48 : Int32)) + (v1 - v1 / ((10 : Int32)) * ((10 : Int32)))), aR 21 k0], M)) tc_217 rfl 6 (fun u => ⟨_, rfl⟩) ⟨trivial, trivial, trivial, trivial, c0, trivial, trivial⟩ ?_
  refine gd_callN (ml := 2) (as := [aR 21 k0, aI (((48 : Int32)) + (v1 - v1 / ((10 : Int32)) * ((10 : Int32))))]) (rest := []) tc_217 rfl rfl rfl rfl rfl (by omega) (by omega) (Nat.le_of_ble_eq_true rfl) rfl (g_Mo_put (by omega) (by omega) h) (fun r9 M1 h => ?_)
  obtain ⟨rfl, h⟩ := h
  show Gd d w 217 _ (48, [some (aR 21 k0), some (aI v1)], [], M1)
  exact gd_ret tc_217 rfl rfl trivial (fun _ => rfl) ⟨rfl, h⟩
def w_Mo_sayNumber_J17 (post : aM → Prop) (k0 : Nat) (v1 : Int32) (M : aM) : Prop := ((v1 ≤ ((9 : Int32))) → w_Mo_sayNumber_J37 post k0 v1 M) ∧ (¬ (v1 ≤ ((9 : Int32))) → (¬ ((10 : Int32)) = 0) ∧ (¬ ((10 : Int32)) = 0) ∧ (w_Mo_put (fun M1 => w_Mo_sayNumber_J37 post k0 v1 M1) k0 (((48 : Int32)) + ((v1 / ((10 : Int32))) - (v1 / ((10 : Int32))) / ((10 : Int32)) * ((10 : Int32)))) M))
theorem g_Mo_sayNumber_J17 {d w : Nat} (hd : 1 ≤ d) (hw : 21 ≤ w) {post : aM → Prop} (k0 : Nat) (v1 : Int32) (M : aM) (h : w_Mo_sayNumber_J17 post k0 v1 M) : Gd d w 217 (pV post) (17, [some (aR 21 k0), some (aI v1)], [], M) := by
  unfold w_Mo_sayNumber_J17 at h
  show Gd d w 217 _ (17, [some (aR 21 k0), some (aI v1)], [], M)
  refine gd_s (P := True ∧ True ∧ True) (σ1 := (20, [some (aR 21 k0), some (aI v1)], [aI ((9 : Int32)), aI v1], M)) tc_217 rfl 2 (fun u => ⟨_, rfl⟩) ⟨trivial, trivial, trivial⟩ ?_
  refine gd_br (c := v1 ≤ ((9 : Int32))) (st1 := []) tc_217 rfl rfl (fun _ => rfl) ⟨fun hc => ?_, fun hc => ?_⟩
  · have h := h.1 hc
    exact g_Mo_sayNumber_J37 hd hw k0 v1 M h
  · have h := h.2 hc
    show Gd d w 217 _ (23, [some (aR 21 k0), some (aI v1)], [], M)
    obtain ⟨c0, c1, h⟩ := h
    refine gd_s (P := True ∧ True ∧ True ∧ True ∧ (¬ ((10 : Int32)) = 0) ∧ True ∧ (¬ ((10 : Int32)) = 0) ∧ True ∧ True) (σ1 := (34, [some (aR 21 k0), some (aI v1)], [aI (((48 : Int32)) + ((v1 / ((10 : Int32))) - (v1 / ((10 : Int32))) / ((10 : Int32)) * ((10 : Int32)))), aR 21 k0], M)) tc_217 rfl 8 (fun u => ⟨_, rfl⟩) ⟨trivial, trivial, trivial, trivial, c0, trivial, c1, trivial, trivial⟩ ?_
    refine gd_callN (ml := 2) (as := [aR 21 k0, aI (((48 : Int32)) + ((v1 / ((10 : Int32))) - (v1 / ((10 : Int32))) / ((10 : Int32)) * ((10 : Int32))))]) (rest := []) tc_217 rfl rfl rfl rfl rfl (by omega) (by omega) (Nat.le_of_ble_eq_true rfl) rfl (g_Mo_put (by omega) (by omega) h) (fun r9 M1 h => ?_)
    obtain ⟨rfl, h⟩ := h
    exact g_Mo_sayNumber_J37 hd hw k0 v1 M1 h
/-- PolicyJudgeModel.sayNumber(I)V -/
def w_Mo_sayNumber (post : aM → Prop) (k0 : Nat) (v1 : Int32) (M : aM) : Prop := ((v1 ≤ ((99 : Int32))) → w_Mo_sayNumber_J17 post k0 v1 M) ∧ (¬ (v1 ≤ ((99 : Int32))) → (¬ ((100 : Int32)) = 0) ∧ (w_Mo_put (fun M1 => w_Mo_sayNumber_J17 post k0 v1 M1) k0 (((48 : Int32)) + (v1 / ((100 : Int32)))) M))
theorem g_Mo_sayNumber {d w : Nat} (hd : 1 ≤ d) (hw : 21 ≤ w) {post : aM → Prop} {k0 : Nat} {v1 : Int32} {M : aM} (h : w_Mo_sayNumber post k0 v1 M) : Gd d w 217 (pV post) (0, aEnt 217 [aR 21 k0, aI v1], [], M) := by
  unfold w_Mo_sayNumber at h
  show Gd d w 217 _ (0, [some (aR 21 k0), some (aI v1)], [], M)
  refine gd_s (P := True ∧ True ∧ True) (σ1 := (3, [some (aR 21 k0), some (aI v1)], [aI ((99 : Int32)), aI v1], M)) tc_217 rfl 2 (fun u => ⟨_, rfl⟩) ⟨trivial, trivial, trivial⟩ ?_
  refine gd_br (c := v1 ≤ ((99 : Int32))) (st1 := []) tc_217 rfl rfl (fun _ => rfl) ⟨fun hc => ?_, fun hc => ?_⟩
  · have h := h.1 hc
    exact g_Mo_sayNumber_J17 hd hw k0 v1 M h
  · have h := h.2 hc
    show Gd d w 217 _ (6, [some (aR 21 k0), some (aI v1)], [], M)
    obtain ⟨c0, h⟩ := h
    refine gd_s (P := True ∧ True ∧ True ∧ True ∧ (¬ ((100 : Int32)) = 0) ∧ True ∧ True) (σ1 := (14, [some (aR 21 k0), some (aI v1)], [aI (((48 : Int32)) + (v1 / ((100 : Int32)))), aR 21 k0], M)) tc_217 rfl 6 (fun u => ⟨_, rfl⟩) ⟨trivial, trivial, trivial, trivial, c0, trivial, trivial⟩ ?_
    refine gd_callN (ml := 2) (as := [aR 21 k0, aI (((48 : Int32)) + (v1 / ((100 : Int32))))]) (rest := []) tc_217 rfl rfl rfl rfl rfl (by omega) (by omega) (Nat.le_of_ble_eq_true rfl) rfl (g_Mo_put (by omega) (by omega) h) (fun r9 M1 h => ?_)
    obtain ⟨rfl, h⟩ := h
    exact g_Mo_sayNumber_J17 hd hw k0 v1 M1 h
theorem tc_219 : tC 219 = c219 := rfl
def w_Mo_depthOf_L15 (M : aM) (post : Int32 → Prop) : Nat → Nat → Int32 → Int32 → Int32 → Prop
  | 0, _, _, _, _ => False
  | n + 1, k0, v1, v3, v4 => ((v4 = ((-1 : Int32))) → post v3) ∧ (¬ (v4 = ((-1 : Int32))) → (vp_in ((((100 : Int32)) * v1) + v4) (rK M (k0 + 13)).2) ∧ (w_Mo_depthOf_L15 M post n k0 v1 (v3 + (1 : Int32)) (rI M (k0 + 13) ((((100 : Int32)) * v1) + v4).toNatClampNeg)))
theorem g_Mo_depthOf_L15 {d w : Nat} (hd : 0 ≤ d) (hw : 0 ≤ w) {M : aM} {post : Int32 → Prop} : ∀ (n : Nat) (k0 : Nat) (v1 : Int32) (v3 : Int32) (v4 : Int32) (o2 : Option aV), w_Mo_depthOf_L15 M post n k0 v1 v3 v4 → Gd d w 219 (pIn M post) (15, [some (aR 21 k0), some (aI v1), o2, some (aI v3), some (aI v4)], [], M) := by
  intro n
  induction n with
  | zero => intro k0 v1 v3 v4 o2 h; exact h.elim
  | succ n ih =>
    intro k0 v1 v3 v4 o2 h
    show Gd d w 219 _ (15, [some (aR 21 k0), some (aI v1), o2, some (aI v3), some (aI v4)], [], M)
    refine gd_s (P := True ∧ True ∧ True) (σ1 := (18, [some (aR 21 k0), some (aI v1), o2, some (aI v3), some (aI v4)], [aI ((-1 : Int32)), aI v4], M)) tc_219 rfl 2 (fun u => ⟨_, rfl⟩) ⟨trivial, trivial, trivial⟩ ?_
    refine gd_br (c := v4 = ((-1 : Int32))) (st1 := []) tc_219 rfl rfl (fun _ => rfl) ⟨fun hc => ?_, fun hc => ?_⟩
    · have h := h.1 hc
      show Gd d w 219 _ (41, [some (aR 21 k0), some (aI v1), o2, some (aI v3), some (aI v4)], [], M)
      refine gd_s (P := True ∧ True) (σ1 := (42, [some (aR 21 k0), some (aI v1), o2, some (aI v3), some (aI v4)], [aI v3], M)) tc_219 rfl 1 (fun u => ⟨_, rfl⟩) ⟨trivial, trivial⟩ ?_
      exact gd_ret tc_219 rfl rfl trivial (fun _ => rfl) ⟨_, rfl, rfl, h⟩
    · have h := h.2 hc
      show Gd d w 219 _ (21, [some (aR 21 k0), some (aI v1), o2, some (aI v3), some (aI v4)], [], M)
      obtain ⟨c0, h⟩ := h
      refine gd_s (P := True ∧ True ∧ True ∧ True ∧ True ∧ True ∧ True ∧ True ∧ (vp_in ((((100 : Int32)) * v1) + v4) (rK M (k0 + 13)).2) ∧ True ∧ True ∧ True) (σ1 := (15, [some (aR 21 k0), some (aI v1), o2, some (aI (v3 + (1 : Int32))), some (aI (rI M (k0 + 13) ((((100 : Int32)) * v1) + v4).toNatClampNeg))], [], M)) tc_219 rfl 11 (fun u => ⟨_, rfl⟩) ⟨trivial, trivial, trivial, trivial, trivial, trivial, trivial, trivial, c0, trivial, trivial, trivial⟩ ?_
      exact ih k0 v1 (v3 + (1 : Int32)) (rI M (k0 + 13) ((((100 : Int32)) * v1) + v4).toNatClampNeg) o2 h
/-- PolicyJudgeModel.depthOf(II)I -/
def w_Mo_depthOf (post : Int32 → Prop) (k0 : Nat) (v1 : Int32) (v2 : Int32) (M : aM) : Prop := (vp_in ((((100 : Int32)) * v1) + v2) (rK M (k0 + 13)).2) ∧ (∃ n9, w_Mo_depthOf_L15 M post n9 k0 v1 ((0 : Int32)) (rI M (k0 + 13) ((((100 : Int32)) * v1) + v2).toNatClampNeg))
theorem g_Mo_depthOf {d w : Nat} (hd : 0 ≤ d) (hw : 0 ≤ w) {post : Int32 → Prop} {k0 : Nat} {v1 : Int32} {v2 : Int32} {M : aM} (h : w_Mo_depthOf post k0 v1 v2 M) : Gd d w 219 (pIn M post) (0, aEnt 219 [aR 21 k0, aI v1, aI v2], [], M) := by
  unfold w_Mo_depthOf at h
  show Gd d w 219 _ (0, [some (aR 21 k0), some (aI v1), some (aI v2), none, none], [], M)
  obtain ⟨c0, h⟩ := h
  refine gd_s (P := True ∧ True ∧ True ∧ True ∧ True ∧ True ∧ True ∧ True ∧ True ∧ (vp_in ((((100 : Int32)) * v1) + v2) (rK M (k0 + 13)).2) ∧ True ∧ True) (σ1 := (15, [some (aR 21 k0), some (aI v1), some (aI v2), some (aI ((0 : Int32))), some (aI (rI M (k0 + 13) ((((100 : Int32)) * v1) + v2).toNatClampNeg))], [], M)) tc_219 rfl 11 (fun u => ⟨_, rfl⟩) ⟨trivial, trivial, trivial, trivial, trivial, trivial, trivial, trivial, trivial, c0, trivial, trivial⟩ ?_
  obtain ⟨n9, h⟩ := h
  exact g_Mo_depthOf_L15 hd hw n9 k0 v1 ((0 : Int32)) (rI M (k0 + 13) ((((100 : Int32)) * v1) + v2).toNatClampNeg) (some (aI v2)) h
theorem tc_220 : tC 220 = c220 := rfl
def w_Mo_blanks_L2 (post : aM → Prop) : Nat → Nat → Int32 → Int32 → aM → Prop
  | 0, _, _, _, _ => False
  | n + 1, k0, v1, v2, M => ((v1 ≤ v2) → post M) ∧ (¬ (v1 ≤ v2) → w_Mo_put (fun M1 => w_Mo_blanks_L2 post n k0 v1 (v2 + (1 : Int32)) M1) k0 ((32 : Int32)) M)
theorem g_Mo_blanks_L2 {d w : Nat} (hd : 1 ≤ d) (hw : 21 ≤ w) {post : aM → Prop} : ∀ (n : Nat) (k0 : Nat) (v1 : Int32) (v2 : Int32) (M : aM), w_Mo_blanks_L2 post n k0 v1 v2 M → Gd d w 220 (pV post) (2, [some (aR 21 k0), some (aI v1), some (aI v2)], [], M) := by
  intro n
  induction n with
  | zero => intro k0 v1 v2 M h; exact h.elim
  | succ n ih =>
    intro k0 v1 v2 M h
    show Gd d w 220 _ (2, [some (aR 21 k0), some (aI v1), some (aI v2)], [], M)
    refine gd_s (P := True ∧ True ∧ True) (σ1 := (4, [some (aR 21 k0), some (aI v1), some (aI v2)], [aI v1, aI v2], M)) tc_220 rfl 2 (fun u => ⟨_, rfl⟩) ⟨trivial, trivial, trivial⟩ ?_
    refine gd_br (c := v1 ≤ v2) (st1 := []) tc_220 rfl rfl (fun _ => rfl) ⟨fun hc => ?_, fun hc => ?_⟩
    · have h := h.1 hc
      show Gd d w 220 _ (19, [some (aR 21 k0), some (aI v1), some (aI v2)], [], M)
      exact gd_ret tc_220 rfl rfl trivial (fun _ => rfl) ⟨rfl, h⟩
    · have h := h.2 hc
      show Gd d w 220 _ (7, [some (aR 21 k0), some (aI v1), some (aI v2)], [], M)
      refine gd_s (P := True ∧ True ∧ True) (σ1 := (10, [some (aR 21 k0), some (aI v1), some (aI v2)], [aI ((32 : Int32)), aR 21 k0], M)) tc_220 rfl 2 (fun u => ⟨_, rfl⟩) ⟨trivial, trivial, trivial⟩ ?_
      refine gd_callN (ml := 2) (as := [aR 21 k0, aI ((32 : Int32))]) (rest := []) tc_220 rfl rfl rfl rfl rfl (by omega) (by omega) (Nat.le_of_ble_eq_true rfl) rfl (g_Mo_put (by omega) (by omega) h) (fun r9 M1 h => ?_)
      obtain ⟨rfl, h⟩ := h
      show Gd d w 220 _ (13, [some (aR 21 k0), some (aI v1), some (aI v2)], [], M1)
      refine gd_s (P := True ∧ True ∧ True) (σ1 := (2, [some (aR 21 k0), some (aI v1), some (aI (v2 + (1 : Int32)))], [], M1)) tc_220 rfl 2 (fun u => ⟨_, rfl⟩) ⟨trivial, trivial, trivial⟩ ?_
      exact ih k0 v1 (v2 + (1 : Int32)) M1 h
/-- PolicyJudgeModel.blanks(I)V -/
def w_Mo_blanks (post : aM → Prop) (k0 : Nat) (v1 : Int32) (M : aM) : Prop := ∃ n9, w_Mo_blanks_L2 post n9 k0 v1 ((0 : Int32)) M
theorem g_Mo_blanks {d w : Nat} (hd : 1 ≤ d) (hw : 21 ≤ w) {post : aM → Prop} {k0 : Nat} {v1 : Int32} {M : aM} (h : w_Mo_blanks post k0 v1 M) : Gd d w 220 (pV post) (0, aEnt 220 [aR 21 k0, aI v1], [], M) := by
  unfold w_Mo_blanks at h
  show Gd d w 220 _ (0, [some (aR 21 k0), some (aI v1), none], [], M)
  refine gd_s (P := True ∧ True ∧ True) (σ1 := (2, [some (aR 21 k0), some (aI v1), some (aI ((0 : Int32)))], [], M)) tc_220 rfl 2 (fun u => ⟨_, rfl⟩) ⟨trivial, trivial, trivial⟩ ?_
  obtain ⟨n9, h⟩ := h
  exact g_Mo_blanks_L2 hd hw n9 k0 v1 ((0 : Int32)) M h
theorem tc_218 : tC 218 = c218 := rfl
/-- PolicyJudgeModel.closeSet(II)V -/
def w_Mo_closeSet (post : aM → Prop) (k0 : Nat) (v1 : Int32) (v2 : Int32) (M : aM) : Prop := w_Mo_depthOf (fun x1 => w_Mo_blanks (fun M2 => w_Mo_put (fun M3 => w_Mo_put (fun M4 => post M4) k0 ((10 : Int32)) M3) k0 ((125 : Int32)) M2) k0 (((2 : Int32)) * x1) M) k0 v1 v2 M
theorem g_Mo_closeSet {d w : Nat} (hd : 2 ≤ d) (hw : 43 ≤ w) {post : aM → Prop} {k0 : Nat} {v1 : Int32} {v2 : Int32} {M : aM} (h : w_Mo_closeSet post k0 v1 v2 M) : Gd d w 218 (pV post) (0, aEnt 218 [aR 21 k0, aI v1, aI v2], [], M) := by
  unfold w_Mo_closeSet at h
  show Gd d w 218 _ (0, [some (aR 21 k0), some (aI v1), some (aI v2)], [], M)
  refine gd_s (P := True ∧ True ∧ True ∧ True ∧ True ∧ True) (σ1 := (5, [some (aR 21 k0), some (aI v1), some (aI v2)], [aI v2, aI v1, aR 21 k0, aI ((2 : Int32)), aR 21 k0], M)) tc_218 rfl 5 (fun u => ⟨_, rfl⟩) ⟨trivial, trivial, trivial, trivial, trivial, trivial⟩ ?_
  refine gd_callN (ml := 5) (as := [aR 21 k0, aI v1, aI v2]) (rest := [aI ((2 : Int32)), aR 21 k0]) tc_218 rfl rfl rfl rfl rfl (by omega) (by omega) (Nat.le_of_ble_eq_true rfl) rfl (g_Mo_depthOf (by omega) (by omega) h) (fun r9 M9 h => ?_)
  obtain ⟨x1, rfl, e9, h⟩ := h
  subst M9
  show Gd d w 218 _ (8, [some (aR 21 k0), some (aI v1), some (aI v2)], [aI x1, aI ((2 : Int32)), aR 21 k0], M)
  refine gd_s (P := True ∧ True) (σ1 := (9, [some (aR 21 k0), some (aI v1), some (aI v2)], [aI (((2 : Int32)) * x1), aR 21 k0], M)) tc_218 rfl 1 (fun u => ⟨_, rfl⟩) ⟨trivial, trivial⟩ ?_
  refine gd_callN (ml := 3) (as := [aR 21 k0, aI (((2 : Int32)) * x1)]) (rest := []) tc_218 rfl rfl rfl rfl rfl (by omega) (by omega) (Nat.le_of_ble_eq_true rfl) rfl (g_Mo_blanks (by omega) (by omega) h) (fun r9 M2 h => ?_)
  obtain ⟨rfl, h⟩ := h
  show Gd d w 218 _ (12, [some (aR 21 k0), some (aI v1), some (aI v2)], [], M2)
  refine gd_s (P := True ∧ True ∧ True) (σ1 := (15, [some (aR 21 k0), some (aI v1), some (aI v2)], [aI ((125 : Int32)), aR 21 k0], M2)) tc_218 rfl 2 (fun u => ⟨_, rfl⟩) ⟨trivial, trivial, trivial⟩ ?_
  refine gd_callN (ml := 2) (as := [aR 21 k0, aI ((125 : Int32))]) (rest := []) tc_218 rfl rfl rfl rfl rfl (by omega) (by omega) (Nat.le_of_ble_eq_true rfl) rfl (g_Mo_put (by omega) (by omega) h) (fun r9 M3 h => ?_)
  obtain ⟨rfl, h⟩ := h
  show Gd d w 218 _ (18, [some (aR 21 k0), some (aI v1), some (aI v2)], [], M3)
  refine gd_s (P := True ∧ True ∧ True) (σ1 := (21, [some (aR 21 k0), some (aI v1), some (aI v2)], [aI ((10 : Int32)), aR 21 k0], M3)) tc_218 rfl 2 (fun u => ⟨_, rfl⟩) ⟨trivial, trivial, trivial⟩ ?_
  refine gd_callN (ml := 2) (as := [aR 21 k0, aI ((10 : Int32))]) (rest := []) tc_218 rfl rfl rfl rfl rfl (by omega) (by omega) (Nat.le_of_ble_eq_true rfl) rfl (g_Mo_put (by omega) (by omega) h) (fun r9 M4 h => ?_)
  obtain ⟨rfl, h⟩ := h
  show Gd d w 218 _ (24, [some (aR 21 k0), some (aI v1), some (aI v2)], [], M4)
  exact gd_ret tc_218 rfl rfl trivial (fun _ => rfl) ⟨rfl, h⟩
theorem tc_222 : tC 222 = c222 := rfl
def w_Mo_sayWay_J58 (post : aM → Prop) (t0 : Nat) (t1 : Nat) (M : aM) : Prop := w_Mo_say (fun M1 => post M1) t0 t1 M
theorem g_Mo_sayWay_J58 {d w : Nat} (hd : 7 ≤ d) (hw : 222 ≤ w) {post : aM → Prop} (t0 : Nat) (t1 : Nat) (o0 o1 : Option aV) (M : aM) (h : w_Mo_sayWay_J58 post t0 t1 M) : Gd d w 222 (pV post) (58, [o0, o1], [aR 1 t1, aR 21 t0], M) := by
  unfold w_Mo_sayWay_J58 at h
  show Gd d w 222 _ (58, [o0, o1], [aR 1 t1, aR 21 t0], M)
  refine gd_callN (ml := 3) (as := [aR 21 t0, aR 1 t1]) (rest := []) tc_222 rfl rfl rfl rfl rfl (by omega) (by omega) (Nat.le_of_ble_eq_true rfl) rfl (g_Mo_say (by omega) (by omega) h) (fun r9 M1 h => ?_)
  obtain ⟨rfl, h⟩ := h
  show Gd d w 222 _ (61, [o0, o1], [], M1)
  exact gd_ret tc_222 rfl rfl trivial (fun _ => rfl) ⟨rfl, h⟩
/-- PolicyJudgeModel.sayWay(I)V -/
def w_Mo_sayWay (post : aM → Prop) (k0 : Nat) (v1 : Int32) (M : aM) : Prop := ((¬ v1 = ((0 : Int32))) → ((¬ v1 = ((1 : Int32))) → ((¬ v1 = ((2 : Int32))) → ((¬ v1 = ((3 : Int32))) → ((¬ v1 = ((4 : Int32))) → w_Mo_sayWay_J58 post k0 40 M) ∧ (¬ (¬ v1 = ((4 : Int32))) → w_Mo_sayWay_J58 post k0 39 M)) ∧ (¬ (¬ v1 = ((3 : Int32))) → w_Mo_sayWay_J58 post k0 38 M)) ∧ (¬ (¬ v1 = ((2 : Int32))) → w_Mo_sayWay_J58 post k0 37 M)) ∧ (¬ (¬ v1 = ((1 : Int32))) → w_Mo_sayWay_J58 post k0 36 M)) ∧ (¬ (¬ v1 = ((0 : Int32))) → w_Mo_sayWay_J58 post k0 35 M)
theorem g_Mo_sayWay {d w : Nat} (hd : 7 ≤ d) (hw : 222 ≤ w) {post : aM → Prop} {k0 : Nat} {v1 : Int32} {M : aM} (h : w_Mo_sayWay post k0 v1 M) : Gd d w 222 (pV post) (0, aEnt 222 [aR 21 k0, aI v1], [], M) := by
  unfold w_Mo_sayWay at h
  show Gd d w 222 _ (0, [some (aR 21 k0), some (aI v1)], [], M)
  refine gd_s (P := True ∧ True ∧ True) (σ1 := (2, [some (aR 21 k0), some (aI v1)], [aI v1, aR 21 k0], M)) tc_222 rfl 2 (fun u => ⟨_, rfl⟩) ⟨trivial, trivial, trivial⟩ ?_
  refine gd_br (c := ¬ v1 = ((0 : Int32))) (st1 := [aR 21 k0]) tc_222 rfl rfl (fun _ => rfl) ⟨fun hc => ?_, fun hc => ?_⟩
  · have h := h.1 hc
    show Gd d w 222 _ (11, [some (aR 21 k0), some (aI v1)], [aR 21 k0], M)
    refine gd_s (P := True ∧ True ∧ True) (σ1 := (13, [some (aR 21 k0), some (aI v1)], [aI ((1 : Int32)), aI v1, aR 21 k0], M)) tc_222 rfl 2 (fun u => ⟨_, rfl⟩) ⟨trivial, trivial, trivial⟩ ?_
    refine gd_br (c := ¬ v1 = ((1 : Int32))) (st1 := [aR 21 k0]) tc_222 rfl rfl (fun _ => rfl) ⟨fun hc => ?_, fun hc => ?_⟩
    · have h := h.1 hc
      show Gd d w 222 _ (22, [some (aR 21 k0), some (aI v1)], [aR 21 k0], M)
      refine gd_s (P := True ∧ True ∧ True) (σ1 := (24, [some (aR 21 k0), some (aI v1)], [aI ((2 : Int32)), aI v1, aR 21 k0], M)) tc_222 rfl 2 (fun u => ⟨_, rfl⟩) ⟨trivial, trivial, trivial⟩ ?_
      refine gd_br (c := ¬ v1 = ((2 : Int32))) (st1 := [aR 21 k0]) tc_222 rfl rfl (fun _ => rfl) ⟨fun hc => ?_, fun hc => ?_⟩
      · have h := h.1 hc
        show Gd d w 222 _ (33, [some (aR 21 k0), some (aI v1)], [aR 21 k0], M)
        refine gd_s (P := True ∧ True ∧ True) (σ1 := (35, [some (aR 21 k0), some (aI v1)], [aI ((3 : Int32)), aI v1, aR 21 k0], M)) tc_222 rfl 2 (fun u => ⟨_, rfl⟩) ⟨trivial, trivial, trivial⟩ ?_
        refine gd_br (c := ¬ v1 = ((3 : Int32))) (st1 := [aR 21 k0]) tc_222 rfl rfl (fun _ => rfl) ⟨fun hc => ?_, fun hc => ?_⟩
        · have h := h.1 hc
          show Gd d w 222 _ (44, [some (aR 21 k0), some (aI v1)], [aR 21 k0], M)
          refine gd_s (P := True ∧ True ∧ True) (σ1 := (46, [some (aR 21 k0), some (aI v1)], [aI ((4 : Int32)), aI v1, aR 21 k0], M)) tc_222 rfl 2 (fun u => ⟨_, rfl⟩) ⟨trivial, trivial, trivial⟩ ?_
          refine gd_br (c := ¬ v1 = ((4 : Int32))) (st1 := [aR 21 k0]) tc_222 rfl rfl (fun _ => rfl) ⟨fun hc => ?_, fun hc => ?_⟩
          · have h := h.1 hc
            show Gd d w 222 _ (55, [some (aR 21 k0), some (aI v1)], [aR 21 k0], M)
            refine gd_s (P := True ∧ True) (σ1 := (58, [some (aR 21 k0), some (aI v1)], [aR 1 40, aR 21 k0], M)) tc_222 rfl 1 (fun u => ⟨_, rfl⟩) ⟨trivial, trivial⟩ ?_
            exact g_Mo_sayWay_J58 hd hw k0 40 (some (aR 21 k0)) (some (aI v1)) M h
          · have h := h.2 hc
            show Gd d w 222 _ (49, [some (aR 21 k0), some (aI v1)], [aR 21 k0], M)
            refine gd_s (P := True ∧ True ∧ True) (σ1 := (58, [some (aR 21 k0), some (aI v1)], [aR 1 39, aR 21 k0], M)) tc_222 rfl 2 (fun u => ⟨_, rfl⟩) ⟨trivial, trivial, trivial⟩ ?_
            exact g_Mo_sayWay_J58 hd hw k0 39 (some (aR 21 k0)) (some (aI v1)) M h
        · have h := h.2 hc
          show Gd d w 222 _ (38, [some (aR 21 k0), some (aI v1)], [aR 21 k0], M)
          refine gd_s (P := True ∧ True ∧ True) (σ1 := (58, [some (aR 21 k0), some (aI v1)], [aR 1 38, aR 21 k0], M)) tc_222 rfl 2 (fun u => ⟨_, rfl⟩) ⟨trivial, trivial, trivial⟩ ?_
          exact g_Mo_sayWay_J58 hd hw k0 38 (some (aR 21 k0)) (some (aI v1)) M h
      · have h := h.2 hc
        show Gd d w 222 _ (27, [some (aR 21 k0), some (aI v1)], [aR 21 k0], M)
        refine gd_s (P := True ∧ True ∧ True) (σ1 := (58, [some (aR 21 k0), some (aI v1)], [aR 1 37, aR 21 k0], M)) tc_222 rfl 2 (fun u => ⟨_, rfl⟩) ⟨trivial, trivial, trivial⟩ ?_
        exact g_Mo_sayWay_J58 hd hw k0 37 (some (aR 21 k0)) (some (aI v1)) M h
    · have h := h.2 hc
      show Gd d w 222 _ (16, [some (aR 21 k0), some (aI v1)], [aR 21 k0], M)
      refine gd_s (P := True ∧ True ∧ True) (σ1 := (58, [some (aR 21 k0), some (aI v1)], [aR 1 36, aR 21 k0], M)) tc_222 rfl 2 (fun u => ⟨_, rfl⟩) ⟨trivial, trivial, trivial⟩ ?_
      exact g_Mo_sayWay_J58 hd hw k0 36 (some (aR 21 k0)) (some (aI v1)) M h
  · have h := h.2 hc
    show Gd d w 222 _ (5, [some (aR 21 k0), some (aI v1)], [aR 21 k0], M)
    refine gd_s (P := True ∧ True ∧ True) (σ1 := (58, [some (aR 21 k0), some (aI v1)], [aR 1 35, aR 21 k0], M)) tc_222 rfl 2 (fun u => ⟨_, rfl⟩) ⟨trivial, trivial, trivial⟩ ?_
    exact g_Mo_sayWay_J58 hd hw k0 35 (some (aR 21 k0)) (some (aI v1)) M h
theorem tc_225 : tC 225 = c225 := rfl
def w_Mo_sayTest_J96 (post : aM → Prop) (k0 : Nat) (v2 : Int32) (t0 : Nat) (t1 : Nat) (M : aM) : Prop := w_Mo_say (fun M1 => (vp_in v2 (rK M1 (k0 + 18)).2) ∧ (w_Mo_sayNumber (fun M2 => post M2) k0 (rI M1 (k0 + 18) v2.toNatClampNeg) M1)) t0 t1 M
theorem g_Mo_sayTest_J96 {d w : Nat} (hd : 7 ≤ d) (hw : 222 ≤ w) {post : aM → Prop} (k0 : Nat) (v2 : Int32) (t0 : Nat) (t1 : Nat) (o1 o3 o4 : Option aV) (M : aM) (h : w_Mo_sayTest_J96 post k0 v2 t0 t1 M) : Gd d w 225 (pV post) (96, [some (aR 21 k0), o1, some (aI v2), o3, o4], [aR 1 t1, aR 21 t0], M) := by
  unfold w_Mo_sayTest_J96 at h
  show Gd d w 225 _ (96, [some (aR 21 k0), o1, some (aI v2), o3, o4], [aR 1 t1, aR 21 t0], M)
  refine gd_callN (ml := 3) (as := [aR 21 t0, aR 1 t1]) (rest := []) tc_225 rfl rfl rfl rfl rfl (by omega) (by omega) (Nat.le_of_ble_eq_true rfl) rfl (g_Mo_say (by omega) (by omega) h) (fun r9 M1 h => ?_)
  obtain ⟨rfl, h⟩ := h
  show Gd d w 225 _ (99, [some (aR 21 k0), o1, some (aI v2), o3, o4], [], M1)
  obtain ⟨c0, h⟩ := h
  refine gd_s (P := True ∧ True ∧ True ∧ True ∧ (vp_in v2 (rK M1 (k0 + 18)).2) ∧ True) (σ1 := (106, [some (aR 21 k0), o1, some (aI v2), o3, o4], [aI (rI M1 (k0 + 18) v2.toNatClampNeg), aR 21 k0], M1)) tc_225 rfl 5 (fun u => ⟨_, rfl⟩) ⟨trivial, trivial, trivial, trivial, c0, trivial⟩ ?_
  refine gd_callN (ml := 2) (as := [aR 21 k0, aI (rI M1 (k0 + 18) v2.toNatClampNeg)]) (rest := []) tc_225 rfl rfl rfl rfl rfl (by omega) (by omega) (Nat.le_of_ble_eq_true rfl) rfl (g_Mo_sayNumber (by omega) (by omega) h) (fun r9 M2 h => ?_)
  obtain ⟨rfl, h⟩ := h
  show Gd d w 225 _ (109, [some (aR 21 k0), o1, some (aI v2), o3, o4], [], M2)
  refine gd_s (P := True ∧ True) (σ1 := (284, [some (aR 21 k0), o1, some (aI v2), o3, o4], [], M2)) tc_225 rfl 1 (fun u => ⟨_, rfl⟩) ⟨trivial, trivial⟩ ?_
  exact gd_ret tc_225 rfl rfl trivial (fun _ => rfl) ⟨rfl, h⟩
def w_Mo_sayTest_J172 (post : aM → Prop) (K140 : Nat → Int32 → Int32 → Int32 → aM → Prop) (k0 : Nat) (v2 : Int32) (v4 : Int32) (M : aM) : Prop := w_Mo_sayNumber (fun M1 => K140 k0 v2 ((1 : Int32)) (v4 + (1 : Int32)) M1) k0 v4 M
theorem g_Mo_sayTest_J172 {d w : Nat} (hd : 7 ≤ d) (hw : 222 ≤ w) {post : aM → Prop} {K140 : Nat → Int32 → Int32 → Int32 → aM → Prop} (hK140 : ∀ (k0 : Nat) (v2 : Int32) (v3 : Int32) (v4 : Int32) (o1 : Option aV) (M : aM), K140 k0 v2 v3 v4 M → Gd d w 225 (pV post) (140, [some (aR 21 k0), o1, some (aI v2), some (aI v3), some (aI v4)], [], M)) (k0 : Nat) (v2 : Int32) (v4 : Int32) (o1 o3 : Option aV) (M : aM) (h : w_Mo_sayTest_J172 post K140 k0 v2 v4 M) : Gd d w 225 (pV post) (172, [some (aR 21 k0), o1, some (aI v2), o3, some (aI v4)], [], M) := by
  unfold w_Mo_sayTest_J172 at h
  show Gd d w 225 _ (172, [some (aR 21 k0), o1, some (aI v2), o3, some (aI v4)], [], M)
  refine gd_s (P := True ∧ True ∧ True) (σ1 := (175, [some (aR 21 k0), o1, some (aI v2), o3, some (aI v4)], [aI v4, aR 21 k0], M)) tc_225 rfl 2 (fun u => ⟨_, rfl⟩) ⟨trivial, trivial, trivial⟩ ?_
  refine gd_callN (ml := 2) (as := [aR 21 k0, aI v4]) (rest := []) tc_225 rfl rfl rfl rfl rfl (by omega) (by omega) (Nat.le_of_ble_eq_true rfl) rfl (g_Mo_sayNumber (by omega) (by omega) h) (fun r9 M1 h => ?_)
  obtain ⟨rfl, h⟩ := h
  show Gd d w 225 _ (178, [some (aR 21 k0), o1, some (aI v2), o3, some (aI v4)], [], M1)
  refine gd_s (P := True ∧ True ∧ True ∧ True ∧ True) (σ1 := (140, [some (aR 21 k0), o1, some (aI v2), some (aI ((1 : Int32))), some (aI (v4 + (1 : Int32)))], [], M1)) tc_225 rfl 4 (fun u => ⟨_, rfl⟩) ⟨trivial, trivial, trivial, trivial, trivial⟩ ?_
  exact hK140 k0 v2 ((1 : Int32)) (v4 + (1 : Int32)) o1 M1 h
def w_Mo_sayTest_L140 (post : aM → Prop) : Nat → Nat → Int32 → Int32 → Int32 → aM → Prop
  | 0, _, _, _, _, _ => False
  | n + 1, k0, v2, v3, v4, M => ((((8 : Int32)) ≤ v4) → w_Mo_put (fun M1 => post M1) k0 ((125 : Int32)) M) ∧ (¬ (((8 : Int32)) ≤ v4) → w_Mo_maskOf (fun x2 => ((¬ ((x2 >>> (v4 &&& 31)) &&& ((1 : Int32))) = ((1 : Int32))) → w_Mo_sayTest_L140 post n k0 v2 v3 (v4 + (1 : Int32)) M) ∧ (¬ (¬ ((x2 >>> (v4 &&& 31)) &&& ((1 : Int32))) = ((1 : Int32))) → ((v3 = ((0 : Int32))) → w_Mo_sayTest_J172 post (w_Mo_sayTest_L140 post n) k0 v2 v4 M) ∧ (¬ (v3 = ((0 : Int32))) → w_Mo_say (fun M3 => w_Mo_sayTest_J172 post (w_Mo_sayTest_L140 post n) k0 v2 v4 M3) k0 49 M))) k0 v2 M)
theorem g_Mo_sayTest_L140 {d w : Nat} (hd : 7 ≤ d) (hw : 222 ≤ w) {post : aM → Prop} : ∀ (n : Nat) (k0 : Nat) (v2 : Int32) (v3 : Int32) (v4 : Int32) (o1 : Option aV) (M : aM), w_Mo_sayTest_L140 post n k0 v2 v3 v4 M → Gd d w 225 (pV post) (140, [some (aR 21 k0), o1, some (aI v2), some (aI v3), some (aI v4)], [], M) := by
  intro n
  induction n with
  | zero => intro k0 v2 v3 v4 o1 M h; exact h.elim
  | succ n ih =>
    intro k0 v2 v3 v4 o1 M h
    show Gd d w 225 _ (140, [some (aR 21 k0), o1, some (aI v2), some (aI v3), some (aI v4)], [], M)
    refine gd_s (P := True ∧ True ∧ True) (σ1 := (144, [some (aR 21 k0), o1, some (aI v2), some (aI v3), some (aI v4)], [aI ((8 : Int32)), aI v4], M)) tc_225 rfl 2 (fun u => ⟨_, rfl⟩) ⟨trivial, trivial, trivial⟩ ?_
    refine gd_br (c := ((8 : Int32)) ≤ v4) (st1 := []) tc_225 rfl rfl (fun _ => rfl) ⟨fun hc => ?_, fun hc => ?_⟩
    · have h := h.1 hc
      show Gd d w 225 _ (186, [some (aR 21 k0), o1, some (aI v2), some (aI v3), some (aI v4)], [], M)
      refine gd_s (P := True ∧ True ∧ True) (σ1 := (189, [some (aR 21 k0), o1, some (aI v2), some (aI v3), some (aI v4)], [aI ((125 : Int32)), aR 21 k0], M)) tc_225 rfl 2 (fun u => ⟨_, rfl⟩) ⟨trivial, trivial, trivial⟩ ?_
      refine gd_callN (ml := 2) (as := [aR 21 k0, aI ((125 : Int32))]) (rest := []) tc_225 rfl rfl rfl rfl rfl (by omega) (by omega) (Nat.le_of_ble_eq_true rfl) rfl (g_Mo_put (by omega) (by omega) h) (fun r9 M1 h => ?_)
      obtain ⟨rfl, h⟩ := h
      show Gd d w 225 _ (192, [some (aR 21 k0), o1, some (aI v2), some (aI v3), some (aI v4)], [], M1)
      refine gd_s (P := True ∧ True) (σ1 := (284, [some (aR 21 k0), o1, some (aI v2), some (aI v3), some (aI v4)], [], M1)) tc_225 rfl 1 (fun u => ⟨_, rfl⟩) ⟨trivial, trivial⟩ ?_
      exact gd_ret tc_225 rfl rfl trivial (fun _ => rfl) ⟨rfl, h⟩
    · have h := h.2 hc
      show Gd d w 225 _ (147, [some (aR 21 k0), o1, some (aI v2), some (aI v3), some (aI v4)], [], M)
      refine gd_s (P := True ∧ True ∧ True) (σ1 := (149, [some (aR 21 k0), o1, some (aI v2), some (aI v3), some (aI v4)], [aI v2, aR 21 k0], M)) tc_225 rfl 2 (fun u => ⟨_, rfl⟩) ⟨trivial, trivial, trivial⟩ ?_
      refine gd_callN (ml := 4) (as := [aR 21 k0, aI v2]) (rest := []) tc_225 rfl rfl rfl rfl rfl (by omega) (by omega) (Nat.le_of_ble_eq_true rfl) rfl (g_Mo_maskOf (by omega) (by omega) h) (fun r9 M9 h => ?_)
      obtain ⟨x2, rfl, e9, h⟩ := h
      subst M9
      show Gd d w 225 _ (152, [some (aR 21 k0), o1, some (aI v2), some (aI v3), some (aI v4)], [aI x2], M)
      refine gd_s (P := True ∧ True ∧ True ∧ True ∧ True ∧ True) (σ1 := (158, [some (aR 21 k0), o1, some (aI v2), some (aI v3), some (aI v4)], [aI ((1 : Int32)), aI ((x2 >>> (v4 &&& 31)) &&& ((1 : Int32)))], M)) tc_225 rfl 5 (fun u => ⟨_, rfl⟩) ⟨trivial, trivial, trivial, trivial, trivial, trivial⟩ ?_
      refine gd_br (c := ¬ ((x2 >>> (v4 &&& 31)) &&& ((1 : Int32))) = ((1 : Int32))) (st1 := []) tc_225 rfl rfl (fun _ => rfl) ⟨fun hc => ?_, fun hc => ?_⟩
      · have h := h.1 hc
        show Gd d w 225 _ (180, [some (aR 21 k0), o1, some (aI v2), some (aI v3), some (aI v4)], [], M)
        refine gd_s (P := True ∧ True ∧ True) (σ1 := (140, [some (aR 21 k0), o1, some (aI v2), some (aI v3), some (aI (v4 + (1 : Int32)))], [], M)) tc_225 rfl 2 (fun u => ⟨_, rfl⟩) ⟨trivial, trivial, trivial⟩ ?_
        exact ih k0 v2 v3 (v4 + (1 : Int32)) o1 M h
      · have h := h.2 hc
        show Gd d w 225 _ (161, [some (aR 21 k0), o1, some (aI v2), some (aI v3), some (aI v4)], [], M)
        refine gd_s (P := True ∧ True) (σ1 := (162, [some (aR 21 k0), o1, some (aI v2), some (aI v3), some (aI v4)], [aI v3], M)) tc_225 rfl 1 (fun u => ⟨_, rfl⟩) ⟨trivial, trivial⟩ ?_
        refine gd_br (c := v3 = ((0 : Int32))) (st1 := []) tc_225 rfl rfl (fun _ => rfl) ⟨fun hc => ?_, fun hc => ?_⟩
        · have h := h.1 hc
          exact g_Mo_sayTest_J172 hd hw ih k0 v2 v4 o1 (some (aI v3)) M h
        · have h := h.2 hc
          show Gd d w 225 _ (165, [some (aR 21 k0), o1, some (aI v2), some (aI v3), some (aI v4)], [], M)
          refine gd_s (P := True ∧ True ∧ True) (σ1 := (169, [some (aR 21 k0), o1, some (aI v2), some (aI v3), some (aI v4)], [aR 1 49, aR 21 k0], M)) tc_225 rfl 2 (fun u => ⟨_, rfl⟩) ⟨trivial, trivial, trivial⟩ ?_
          refine gd_callN (ml := 3) (as := [aR 21 k0, aR 1 49]) (rest := []) tc_225 rfl rfl rfl rfl rfl (by omega) (by omega) (Nat.le_of_ble_eq_true rfl) rfl (g_Mo_say (by omega) (by omega) h) (fun r9 M3 h => ?_)
          obtain ⟨rfl, h⟩ := h
          exact g_Mo_sayTest_J172 hd hw ih k0 v2 v4 o1 (some (aI v3)) M3 h
def w_Mo_sayTest_J132 (post : aM → Prop) (k0 : Nat) (v2 : Int32) (t0 : Nat) (t1 : Nat) (M : aM) : Prop := w_Mo_say (fun M1 => ∃ n9, w_Mo_sayTest_L140 post n9 k0 v2 ((0 : Int32)) ((0 : Int32)) M1) t0 t1 M
theorem g_Mo_sayTest_J132 {d w : Nat} (hd : 7 ≤ d) (hw : 222 ≤ w) {post : aM → Prop} (k0 : Nat) (v2 : Int32) (t0 : Nat) (t1 : Nat) (o1 o3 o4 : Option aV) (M : aM) (h : w_Mo_sayTest_J132 post k0 v2 t0 t1 M) : Gd d w 225 (pV post) (132, [some (aR 21 k0), o1, some (aI v2), o3, o4], [aR 1 t1, aR 21 t0], M) := by
  unfold w_Mo_sayTest_J132 at h
  show Gd d w 225 _ (132, [some (aR 21 k0), o1, some (aI v2), o3, o4], [aR 1 t1, aR 21 t0], M)
  refine gd_callN (ml := 3) (as := [aR 21 t0, aR 1 t1]) (rest := []) tc_225 rfl rfl rfl rfl rfl (by omega) (by omega) (Nat.le_of_ble_eq_true rfl) rfl (g_Mo_say (by omega) (by omega) h) (fun r9 M1 h => ?_)
  obtain ⟨rfl, h⟩ := h
  show Gd d w 225 _ (135, [some (aR 21 k0), o1, some (aI v2), o3, o4], [], M1)
  refine gd_s (P := True ∧ True ∧ True ∧ True ∧ True) (σ1 := (140, [some (aR 21 k0), o1, some (aI v2), some (aI ((0 : Int32))), some (aI ((0 : Int32)))], [], M1)) tc_225 rfl 4 (fun u => ⟨_, rfl⟩) ⟨trivial, trivial, trivial, trivial, trivial⟩ ?_
  obtain ⟨n9, h⟩ := h
  exact g_Mo_sayTest_L140 hd hw n9 k0 v2 ((0 : Int32)) ((0 : Int32)) o1 M1 h
def w_Mo_sayTest_J265 (post : aM → Prop) (k0 : Nat) (v2 : Int32) (t0 : Nat) (s1 : Int32) (M : aM) : Prop := w_Mo_put (fun M1 => w_Mo_put (fun M2 => (vp_in v2 (rK M2 (k0 + 18)).2) ∧ (w_Mo_sayNumber (fun M3 => post M3) k0 (rI M2 (k0 + 18) v2.toNatClampNeg) M2)) k0 ((32 : Int32)) M1) t0 s1 M
theorem g_Mo_sayTest_J265 {d w : Nat} (hd : 7 ≤ d) (hw : 222 ≤ w) {post : aM → Prop} (k0 : Nat) (v2 : Int32) (t0 : Nat) (s1 : Int32) (o1 o3 o4 : Option aV) (M : aM) (h : w_Mo_sayTest_J265 post k0 v2 t0 s1 M) : Gd d w 225 (pV post) (265, [some (aR 21 k0), o1, some (aI v2), o3, o4], [aI s1, aR 21 t0], M) := by
  unfold w_Mo_sayTest_J265 at h
  show Gd d w 225 _ (265, [some (aR 21 k0), o1, some (aI v2), o3, o4], [aI s1, aR 21 t0], M)
  refine gd_callN (ml := 2) (as := [aR 21 t0, aI s1]) (rest := []) tc_225 rfl rfl rfl rfl rfl (by omega) (by omega) (Nat.le_of_ble_eq_true rfl) rfl (g_Mo_put (by omega) (by omega) h) (fun r9 M1 h => ?_)
  obtain ⟨rfl, h⟩ := h
  show Gd d w 225 _ (268, [some (aR 21 k0), o1, some (aI v2), o3, o4], [], M1)
  refine gd_s (P := True ∧ True ∧ True) (σ1 := (271, [some (aR 21 k0), o1, some (aI v2), o3, o4], [aI ((32 : Int32)), aR 21 k0], M1)) tc_225 rfl 2 (fun u => ⟨_, rfl⟩) ⟨trivial, trivial, trivial⟩ ?_
  refine gd_callN (ml := 2) (as := [aR 21 k0, aI ((32 : Int32))]) (rest := []) tc_225 rfl rfl rfl rfl rfl (by omega) (by omega) (Nat.le_of_ble_eq_true rfl) rfl (g_Mo_put (by omega) (by omega) h) (fun r9 M2 h => ?_)
  obtain ⟨rfl, h⟩ := h
  show Gd d w 225 _ (274, [some (aR 21 k0), o1, some (aI v2), o3, o4], [], M2)
  obtain ⟨c0, h⟩ := h
  refine gd_s (P := True ∧ True ∧ True ∧ True ∧ (vp_in v2 (rK M2 (k0 + 18)).2) ∧ True) (σ1 := (281, [some (aR 21 k0), o1, some (aI v2), o3, o4], [aI (rI M2 (k0 + 18) v2.toNatClampNeg), aR 21 k0], M2)) tc_225 rfl 5 (fun u => ⟨_, rfl⟩) ⟨trivial, trivial, trivial, trivial, c0, trivial⟩ ?_
  refine gd_callN (ml := 2) (as := [aR 21 k0, aI (rI M2 (k0 + 18) v2.toNatClampNeg)]) (rest := []) tc_225 rfl rfl rfl rfl rfl (by omega) (by omega) (Nat.le_of_ble_eq_true rfl) rfl (g_Mo_sayNumber (by omega) (by omega) h) (fun r9 M3 h => ?_)
  obtain ⟨rfl, h⟩ := h
  show Gd d w 225 _ (284, [some (aR 21 k0), o1, some (aI v2), o3, o4], [], M3)
  exact gd_ret tc_225 rfl rfl trivial (fun _ => rfl) ⟨rfl, h⟩
/-- PolicyJudgeModel.sayTest(II)V -/
def w_Mo_sayTest (post : aM → Prop) (k0 : Nat) (v1 : Int32) (v2 : Int32) (M : aM) : Prop := (vp_in v2 (rK M (k0 + 17)).2) ∧ (w_Mo_nameOf (fun x1 => w_Mo_sayName (fun M2 => w_Mo_put (fun M3 => (vp_in v2 (rK M3 (k0 + 16)).2) ∧ ((((rI M3 (k0 + 16) v2.toNatClampNeg) = (3 : Int32)) → (vp_in v2 (rK M3 (k0 + 16)).2) ∧ (((¬ (rI M3 (k0 + 16) v2.toNatClampNeg) = ((3 : Int32))) → w_Mo_sayTest_J96 post k0 v2 k0 46 M3) ∧ (¬ (¬ (rI M3 (k0 + 16) v2.toNatClampNeg) = ((3 : Int32))) → w_Mo_sayTest_J96 post k0 v2 k0 45 M3))) ∧ (¬ ((rI M3 (k0 + 16) v2.toNatClampNeg) = (3 : Int32)) → (((rI M3 (k0 + 16) v2.toNatClampNeg) = (4 : Int32)) → (vp_in v2 (rK M3 (k0 + 16)).2) ∧ (((¬ (rI M3 (k0 + 16) v2.toNatClampNeg) = ((4 : Int32))) → w_Mo_sayTest_J132 post k0 v2 k0 48 M3) ∧ (¬ (¬ (rI M3 (k0 + 16) v2.toNatClampNeg) = ((4 : Int32))) → w_Mo_sayTest_J132 post k0 v2 k0 47 M3))) ∧ (¬ ((rI M3 (k0 + 16) v2.toNatClampNeg) = (4 : Int32)) → (((rI M3 (k0 + 16) v2.toNatClampNeg) = (5 : Int32)) → (vp_in v2 (rK M3 (k0 + 16)).2) ∧ (((¬ (rI M3 (k0 + 16) v2.toNatClampNeg) = ((4 : Int32))) → w_Mo_sayTest_J132 post k0 v2 k0 48 M3) ∧ (¬ (¬ (rI M3 (k0 + 16) v2.toNatClampNeg) = ((4 : Int32))) → w_Mo_sayTest_J132 post k0 v2 k0 47 M3))) ∧ (¬ ((rI M3 (k0 + 16) v2.toNatClampNeg) = (5 : Int32)) → (((rI M3 (k0 + 16) v2.toNatClampNeg) = (6 : Int32)) → (vp_in v2 (rK M3 (k0 + 16)).2) ∧ (((¬ (rI M3 (k0 + 16) v2.toNatClampNeg) = ((6 : Int32))) → (vp_in v2 (rK M3 (k0 + 16)).2) ∧ (((¬ (rI M3 (k0 + 16) v2.toNatClampNeg) = ((7 : Int32))) → w_Mo_sayTest_J265 post k0 v2 k0 ((62 : Int32)) M3) ∧ (¬ (¬ (rI M3 (k0 + 16) v2.toNatClampNeg) = ((7 : Int32))) → w_Mo_sayTest_J265 post k0 v2 k0 ((61 : Int32)) M3))) ∧ (¬ (¬ (rI M3 (k0 + 16) v2.toNatClampNeg) = ((6 : Int32))) → w_Mo_sayTest_J265 post k0 v2 k0 ((60 : Int32)) M3))) ∧ (¬ ((rI M3 (k0 + 16) v2.toNatClampNeg) = (6 : Int32)) → (((rI M3 (k0 + 16) v2.toNatClampNeg) = (7 : Int32)) → (vp_in v2 (rK M3 (k0 + 16)).2) ∧ (((¬ (rI M3 (k0 + 16) v2.toNatClampNeg) = ((6 : Int32))) → (vp_in v2 (rK M3 (k0 + 16)).2) ∧ (((¬ (rI M3 (k0 + 16) v2.toNatClampNeg) = ((7 : Int32))) → w_Mo_sayTest_J265 post k0 v2 k0 ((62 : Int32)) M3) ∧ (¬ (¬ (rI M3 (k0 + 16) v2.toNatClampNeg) = ((7 : Int32))) → w_Mo_sayTest_J265 post k0 v2 k0 ((61 : Int32)) M3))) ∧ (¬ (¬ (rI M3 (k0 + 16) v2.toNatClampNeg) = ((6 : Int32))) → w_Mo_sayTest_J265 post k0 v2 k0 ((60 : Int32)) M3))) ∧ (¬ ((rI M3 (k0 + 16) v2.toNatClampNeg) = (7 : Int32)) → (((rI M3 (k0 + 16) v2.toNatClampNeg) = (8 : Int32)) → (vp_in v2 (rK M3 (k0 + 16)).2) ∧ (((¬ (rI M3 (k0 + 16) v2.toNatClampNeg) = ((6 : Int32))) → (vp_in v2 (rK M3 (k0 + 16)).2) ∧ (((¬ (rI M3 (k0 + 16) v2.toNatClampNeg) = ((7 : Int32))) → w_Mo_sayTest_J265 post k0 v2 k0 ((62 : Int32)) M3) ∧ (¬ (¬ (rI M3 (k0 + 16) v2.toNatClampNeg) = ((7 : Int32))) → w_Mo_sayTest_J265 post k0 v2 k0 ((61 : Int32)) M3))) ∧ (¬ (¬ (rI M3 (k0 + 16) v2.toNatClampNeg) = ((6 : Int32))) → w_Mo_sayTest_J265 post k0 v2 k0 ((60 : Int32)) M3))) ∧ (¬ ((rI M3 (k0 + 16) v2.toNatClampNeg) = (8 : Int32)) → (((rI M3 (k0 + 16) v2.toNatClampNeg) = (9 : Int32)) → w_Mo_say (fun M4 => (vp_in v2 (rK M4 (k0 + 18)).2) ∧ (w_Mo_nameOf (fun x5 => w_Mo_sayName (fun M6 => post M6) k0 x5 M4) v1 ((0 : Int32)) (rI M4 (k0 + 18) v2.toNatClampNeg) M4)) k0 50 M3) ∧ (¬ ((rI M3 (k0 + 16) v2.toNatClampNeg) = (9 : Int32)) → (((rI M3 (k0 + 16) v2.toNatClampNeg) = (10 : Int32)) → (vp_in v2 (rK M3 (k0 + 16)).2) ∧ (((¬ (rI M3 (k0 + 16) v2.toNatClampNeg) = ((3 : Int32))) → w_Mo_sayTest_J96 post k0 v2 k0 46 M3) ∧ (¬ (¬ (rI M3 (k0 + 16) v2.toNatClampNeg) = ((3 : Int32))) → w_Mo_sayTest_J96 post k0 v2 k0 45 M3))) ∧ (¬ ((rI M3 (k0 + 16) v2.toNatClampNeg) = (10 : Int32)) → (((rI M3 (k0 + 16) v2.toNatClampNeg) = (11 : Int32)) → w_Mo_say (fun M7 => post M7) k0 51 M3) ∧ (¬ ((rI M3 (k0 + 16) v2.toNatClampNeg) = (11 : Int32)) → (vp_in v2 (rK M3 (k0 + 16)).2) ∧ (((¬ (rI M3 (k0 + 16) v2.toNatClampNeg) = ((6 : Int32))) → (vp_in v2 (rK M3 (k0 + 16)).2) ∧ (((¬ (rI M3 (k0 + 16) v2.toNatClampNeg) = ((7 : Int32))) → w_Mo_sayTest_J265 post k0 v2 k0 ((62 : Int32)) M3) ∧ (¬ (¬ (rI M3 (k0 + 16) v2.toNatClampNeg) = ((7 : Int32))) → w_Mo_sayTest_J265 post k0 v2 k0 ((61 : Int32)) M3))) ∧ (¬ (¬ (rI M3 (k0 + 16) v2.toNatClampNeg) = ((6 : Int32))) → w_Mo_sayTest_J265 post k0 v2 k0 ((60 : Int32)) M3))))))))))))) k0 ((32 : Int32)) M2) k0 x1 M) v1 ((0 : Int32)) (rI M (k0 + 17) v2.toNatClampNeg) M)
theorem g_Mo_sayTest {d w : Nat} (hd : 7 ≤ d) (hw : 222 ≤ w) {post : aM → Prop} {k0 : Nat} {v1 : Int32} {v2 : Int32} {M : aM} (h : w_Mo_sayTest post k0 v1 v2 M) : Gd d w 225 (pV post) (0, aEnt 225 [aR 21 k0, aI v1, aI v2], [], M) := by
  unfold w_Mo_sayTest at h
  show Gd d w 225 _ (0, [some (aR 21 k0), some (aI v1), some (aI v2), none, none], [], M)
  obtain ⟨c0, h⟩ := h
  refine gd_s (P := True ∧ True ∧ True ∧ True ∧ True ∧ True ∧ (vp_in v2 (rK M (k0 + 17)).2) ∧ True) (σ1 := (9, [some (aR 21 k0), some (aI v1), some (aI v2), none, none], [aI (rI M (k0 + 17) v2.toNatClampNeg), aI ((0 : Int32)), aI v1, aR 21 k0], M)) tc_225 rfl 7 (fun u => ⟨_, rfl⟩) ⟨trivial, trivial, trivial, trivial, trivial, trivial, c0, trivial⟩ ?_
  refine gd_callN (ml := 3) (as := [aI v1, aI ((0 : Int32)), aI (rI M (k0 + 17) v2.toNatClampNeg)]) (rest := [aR 21 k0]) tc_225 rfl rfl rfl rfl rfl (by omega) (by omega) (Nat.le_of_ble_eq_true rfl) rfl (g_Mo_nameOf (by omega) (by omega) h) (fun r9 M9 h => ?_)
  obtain ⟨x1, rfl, e9, h⟩ := h
  subst M9
  show Gd d w 225 _ (12, [some (aR 21 k0), some (aI v1), some (aI v2), none, none], [aI x1, aR 21 k0], M)
  refine gd_callN (ml := 3) (as := [aR 21 k0, aI x1]) (rest := []) tc_225 rfl rfl rfl rfl rfl (by omega) (by omega) (Nat.le_of_ble_eq_true rfl) rfl (g_Mo_sayName (by omega) (by omega) h) (fun r9 M2 h => ?_)
  obtain ⟨rfl, h⟩ := h
  show Gd d w 225 _ (15, [some (aR 21 k0), some (aI v1), some (aI v2), none, none], [], M2)
  refine gd_s (P := True ∧ True ∧ True) (σ1 := (18, [some (aR 21 k0), some (aI v1), some (aI v2), none, none], [aI ((32 : Int32)), aR 21 k0], M2)) tc_225 rfl 2 (fun u => ⟨_, rfl⟩) ⟨trivial, trivial, trivial⟩ ?_
  refine gd_callN (ml := 2) (as := [aR 21 k0, aI ((32 : Int32))]) (rest := []) tc_225 rfl rfl rfl rfl rfl (by omega) (by omega) (Nat.le_of_ble_eq_true rfl) rfl (g_Mo_put (by omega) (by omega) h) (fun r9 M3 h => ?_)
  obtain ⟨rfl, h⟩ := h
  show Gd d w 225 _ (21, [some (aR 21 k0), some (aI v1), some (aI v2), none, none], [], M3)
  obtain ⟨c0, h⟩ := h
  refine gd_s (P := True ∧ True ∧ True ∧ (vp_in v2 (rK M3 (k0 + 16)).2) ∧ True) (σ1 := (27, [some (aR 21 k0), some (aI v1), some (aI v2), none, none], [aI (rI M3 (k0 + 16) v2.toNatClampNeg)], M3)) tc_225 rfl 4 (fun u => ⟨_, rfl⟩) ⟨trivial, trivial, trivial, c0, trivial⟩ ?_
  refine gd_sw tc_225 rfl rfl (fun _ => rfl) ?_
  refine gd_case ⟨fun hc => ?_, fun hc => ?_⟩
  · have h := h.1 hc
    show Gd d w 225 _ (76, [some (aR 21 k0), some (aI v1), some (aI v2), none, none], [], M3)
    obtain ⟨c0, h⟩ := h
    refine gd_s (P := True ∧ True ∧ True ∧ True ∧ (vp_in v2 (rK M3 (k0 + 16)).2) ∧ True ∧ True) (σ1 := (84, [some (aR 21 k0), some (aI v1), some (aI v2), none, none], [aI ((3 : Int32)), aI (rI M3 (k0 + 16) v2.toNatClampNeg), aR 21 k0], M3)) tc_225 rfl 6 (fun u => ⟨_, rfl⟩) ⟨trivial, trivial, trivial, trivial, c0, trivial, trivial⟩ ?_
    refine gd_br (c := ¬ (rI M3 (k0 + 16) v2.toNatClampNeg) = ((3 : Int32))) (st1 := [aR 21 k0]) tc_225 rfl rfl (fun _ => rfl) ⟨fun hc => ?_, fun hc => ?_⟩
    · have h := h.1 hc
      show Gd d w 225 _ (93, [some (aR 21 k0), some (aI v1), some (aI v2), none, none], [aR 21 k0], M3)
      refine gd_s (P := True ∧ True) (σ1 := (96, [some (aR 21 k0), some (aI v1), some (aI v2), none, none], [aR 1 46, aR 21 k0], M3)) tc_225 rfl 1 (fun u => ⟨_, rfl⟩) ⟨trivial, trivial⟩ ?_
      exact g_Mo_sayTest_J96 hd hw k0 v2 k0 46 (some (aI v1)) none none M3 h
    · have h := h.2 hc
      show Gd d w 225 _ (87, [some (aR 21 k0), some (aI v1), some (aI v2), none, none], [aR 21 k0], M3)
      refine gd_s (P := True ∧ True ∧ True) (σ1 := (96, [some (aR 21 k0), some (aI v1), some (aI v2), none, none], [aR 1 45, aR 21 k0], M3)) tc_225 rfl 2 (fun u => ⟨_, rfl⟩) ⟨trivial, trivial, trivial⟩ ?_
      exact g_Mo_sayTest_J96 hd hw k0 v2 k0 45 (some (aI v1)) none none M3 h
  have h := h.2 hc
  refine gd_case ⟨fun hc => ?_, fun hc => ?_⟩
  · have h := h.1 hc
    show Gd d w 225 _ (112, [some (aR 21 k0), some (aI v1), some (aI v2), none, none], [], M3)
    obtain ⟨c0, h⟩ := h
    refine gd_s (P := True ∧ True ∧ True ∧ True ∧ (vp_in v2 (rK M3 (k0 + 16)).2) ∧ True ∧ True) (σ1 := (120, [some (aR 21 k0), some (aI v1), some (aI v2), none, none], [aI ((4 : Int32)), aI (rI M3 (k0 + 16) v2.toNatClampNeg), aR 21 k0], M3)) tc_225 rfl 6 (fun u => ⟨_, rfl⟩) ⟨trivial, trivial, trivial, trivial, c0, trivial, trivial⟩ ?_
    refine gd_br (c := ¬ (rI M3 (k0 + 16) v2.toNatClampNeg) = ((4 : Int32))) (st1 := [aR 21 k0]) tc_225 rfl rfl (fun _ => rfl) ⟨fun hc => ?_, fun hc => ?_⟩
    · have h := h.1 hc
      show Gd d w 225 _ (129, [some (aR 21 k0), some (aI v1), some (aI v2), none, none], [aR 21 k0], M3)
      refine gd_s (P := True ∧ True) (σ1 := (132, [some (aR 21 k0), some (aI v1), some (aI v2), none, none], [aR 1 48, aR 21 k0], M3)) tc_225 rfl 1 (fun u => ⟨_, rfl⟩) ⟨trivial, trivial⟩ ?_
      exact g_Mo_sayTest_J132 hd hw k0 v2 k0 48 (some (aI v1)) none none M3 h
    · have h := h.2 hc
      show Gd d w 225 _ (123, [some (aR 21 k0), some (aI v1), some (aI v2), none, none], [aR 21 k0], M3)
      refine gd_s (P := True ∧ True ∧ True) (σ1 := (132, [some (aR 21 k0), some (aI v1), some (aI v2), none, none], [aR 1 47, aR 21 k0], M3)) tc_225 rfl 2 (fun u => ⟨_, rfl⟩) ⟨trivial, trivial, trivial⟩ ?_
      exact g_Mo_sayTest_J132 hd hw k0 v2 k0 47 (some (aI v1)) none none M3 h
  have h := h.2 hc
  refine gd_case ⟨fun hc => ?_, fun hc => ?_⟩
  · have h := h.1 hc
    show Gd d w 225 _ (112, [some (aR 21 k0), some (aI v1), some (aI v2), none, none], [], M3)
    obtain ⟨c0, h⟩ := h
    refine gd_s (P := True ∧ True ∧ True ∧ True ∧ (vp_in v2 (rK M3 (k0 + 16)).2) ∧ True ∧ True) (σ1 := (120, [some (aR 21 k0), some (aI v1), some (aI v2), none, none], [aI ((4 : Int32)), aI (rI M3 (k0 + 16) v2.toNatClampNeg), aR 21 k0], M3)) tc_225 rfl 6 (fun u => ⟨_, rfl⟩) ⟨trivial, trivial, trivial, trivial, c0, trivial, trivial⟩ ?_
    refine gd_br (c := ¬ (rI M3 (k0 + 16) v2.toNatClampNeg) = ((4 : Int32))) (st1 := [aR 21 k0]) tc_225 rfl rfl (fun _ => rfl) ⟨fun hc => ?_, fun hc => ?_⟩
    · have h := h.1 hc
      show Gd d w 225 _ (129, [some (aR 21 k0), some (aI v1), some (aI v2), none, none], [aR 21 k0], M3)
      refine gd_s (P := True ∧ True) (σ1 := (132, [some (aR 21 k0), some (aI v1), some (aI v2), none, none], [aR 1 48, aR 21 k0], M3)) tc_225 rfl 1 (fun u => ⟨_, rfl⟩) ⟨trivial, trivial⟩ ?_
      exact g_Mo_sayTest_J132 hd hw k0 v2 k0 48 (some (aI v1)) none none M3 h
    · have h := h.2 hc
      show Gd d w 225 _ (123, [some (aR 21 k0), some (aI v1), some (aI v2), none, none], [aR 21 k0], M3)
      refine gd_s (P := True ∧ True ∧ True) (σ1 := (132, [some (aR 21 k0), some (aI v1), some (aI v2), none, none], [aR 1 47, aR 21 k0], M3)) tc_225 rfl 2 (fun u => ⟨_, rfl⟩) ⟨trivial, trivial, trivial⟩ ?_
      exact g_Mo_sayTest_J132 hd hw k0 v2 k0 47 (some (aI v1)) none none M3 h
  have h := h.2 hc
  refine gd_case ⟨fun hc => ?_, fun hc => ?_⟩
  · have h := h.1 hc
    show Gd d w 225 _ (230, [some (aR 21 k0), some (aI v1), some (aI v2), none, none], [], M3)
    obtain ⟨c0, h⟩ := h
    refine gd_s (P := True ∧ True ∧ True ∧ True ∧ (vp_in v2 (rK M3 (k0 + 16)).2) ∧ True ∧ True) (σ1 := (239, [some (aR 21 k0), some (aI v1), some (aI v2), none, none], [aI ((6 : Int32)), aI (rI M3 (k0 + 16) v2.toNatClampNeg), aR 21 k0], M3)) tc_225 rfl 6 (fun u => ⟨_, rfl⟩) ⟨trivial, trivial, trivial, trivial, c0, trivial, trivial⟩ ?_
    refine gd_br (c := ¬ (rI M3 (k0 + 16) v2.toNatClampNeg) = ((6 : Int32))) (st1 := [aR 21 k0]) tc_225 rfl rfl (fun _ => rfl) ⟨fun hc => ?_, fun hc => ?_⟩
    · have h := h.1 hc
      show Gd d w 225 _ (247, [some (aR 21 k0), some (aI v1), some (aI v2), none, none], [aR 21 k0], M3)
      obtain ⟨c0, h⟩ := h
      refine gd_s (P := True ∧ True ∧ True ∧ (vp_in v2 (rK M3 (k0 + 16)).2) ∧ True ∧ True) (σ1 := (255, [some (aR 21 k0), some (aI v1), some (aI v2), none, none], [aI ((7 : Int32)), aI (rI M3 (k0 + 16) v2.toNatClampNeg), aR 21 k0], M3)) tc_225 rfl 5 (fun u => ⟨_, rfl⟩) ⟨trivial, trivial, trivial, c0, trivial, trivial⟩ ?_
      refine gd_br (c := ¬ (rI M3 (k0 + 16) v2.toNatClampNeg) = ((7 : Int32))) (st1 := [aR 21 k0]) tc_225 rfl rfl (fun _ => rfl) ⟨fun hc => ?_, fun hc => ?_⟩
      · have h := h.1 hc
        show Gd d w 225 _ (263, [some (aR 21 k0), some (aI v1), some (aI v2), none, none], [aR 21 k0], M3)
        refine gd_s (P := True ∧ True) (σ1 := (265, [some (aR 21 k0), some (aI v1), some (aI v2), none, none], [aI ((62 : Int32)), aR 21 k0], M3)) tc_225 rfl 1 (fun u => ⟨_, rfl⟩) ⟨trivial, trivial⟩ ?_
        exact g_Mo_sayTest_J265 hd hw k0 v2 k0 ((62 : Int32)) (some (aI v1)) none none M3 h
      · have h := h.2 hc
        show Gd d w 225 _ (258, [some (aR 21 k0), some (aI v1), some (aI v2), none, none], [aR 21 k0], M3)
        refine gd_s (P := True ∧ True ∧ True) (σ1 := (265, [some (aR 21 k0), some (aI v1), some (aI v2), none, none], [aI ((61 : Int32)), aR 21 k0], M3)) tc_225 rfl 2 (fun u => ⟨_, rfl⟩) ⟨trivial, trivial, trivial⟩ ?_
        exact g_Mo_sayTest_J265 hd hw k0 v2 k0 ((61 : Int32)) (some (aI v1)) none none M3 h
    · have h := h.2 hc
      show Gd d w 225 _ (242, [some (aR 21 k0), some (aI v1), some (aI v2), none, none], [aR 21 k0], M3)
      refine gd_s (P := True ∧ True ∧ True) (σ1 := (265, [some (aR 21 k0), some (aI v1), some (aI v2), none, none], [aI ((60 : Int32)), aR 21 k0], M3)) tc_225 rfl 2 (fun u => ⟨_, rfl⟩) ⟨trivial, trivial, trivial⟩ ?_
      exact g_Mo_sayTest_J265 hd hw k0 v2 k0 ((60 : Int32)) (some (aI v1)) none none M3 h
  have h := h.2 hc
  refine gd_case ⟨fun hc => ?_, fun hc => ?_⟩
  · have h := h.1 hc
    show Gd d w 225 _ (230, [some (aR 21 k0), some (aI v1), some (aI v2), none, none], [], M3)
    obtain ⟨c0, h⟩ := h
    refine gd_s (P := True ∧ True ∧ True ∧ True ∧ (vp_in v2 (rK M3 (k0 + 16)).2) ∧ True ∧ True) (σ1 := (239, [some (aR 21 k0), some (aI v1), some (aI v2), none, none], [aI ((6 : Int32)), aI (rI M3 (k0 + 16) v2.toNatClampNeg), aR 21 k0], M3)) tc_225 rfl 6 (fun u => ⟨_, rfl⟩) ⟨trivial, trivial, trivial, trivial, c0, trivial, trivial⟩ ?_
    refine gd_br (c := ¬ (rI M3 (k0 + 16) v2.toNatClampNeg) = ((6 : Int32))) (st1 := [aR 21 k0]) tc_225 rfl rfl (fun _ => rfl) ⟨fun hc => ?_, fun hc => ?_⟩
    · have h := h.1 hc
      show Gd d w 225 _ (247, [some (aR 21 k0), some (aI v1), some (aI v2), none, none], [aR 21 k0], M3)
      obtain ⟨c0, h⟩ := h
      refine gd_s (P := True ∧ True ∧ True ∧ (vp_in v2 (rK M3 (k0 + 16)).2) ∧ True ∧ True) (σ1 := (255, [some (aR 21 k0), some (aI v1), some (aI v2), none, none], [aI ((7 : Int32)), aI (rI M3 (k0 + 16) v2.toNatClampNeg), aR 21 k0], M3)) tc_225 rfl 5 (fun u => ⟨_, rfl⟩) ⟨trivial, trivial, trivial, c0, trivial, trivial⟩ ?_
      refine gd_br (c := ¬ (rI M3 (k0 + 16) v2.toNatClampNeg) = ((7 : Int32))) (st1 := [aR 21 k0]) tc_225 rfl rfl (fun _ => rfl) ⟨fun hc => ?_, fun hc => ?_⟩
      · have h := h.1 hc
        show Gd d w 225 _ (263, [some (aR 21 k0), some (aI v1), some (aI v2), none, none], [aR 21 k0], M3)
        refine gd_s (P := True ∧ True) (σ1 := (265, [some (aR 21 k0), some (aI v1), some (aI v2), none, none], [aI ((62 : Int32)), aR 21 k0], M3)) tc_225 rfl 1 (fun u => ⟨_, rfl⟩) ⟨trivial, trivial⟩ ?_
        exact g_Mo_sayTest_J265 hd hw k0 v2 k0 ((62 : Int32)) (some (aI v1)) none none M3 h
      · have h := h.2 hc
        show Gd d w 225 _ (258, [some (aR 21 k0), some (aI v1), some (aI v2), none, none], [aR 21 k0], M3)
        refine gd_s (P := True ∧ True ∧ True) (σ1 := (265, [some (aR 21 k0), some (aI v1), some (aI v2), none, none], [aI ((61 : Int32)), aR 21 k0], M3)) tc_225 rfl 2 (fun u => ⟨_, rfl⟩) ⟨trivial, trivial, trivial⟩ ?_
        exact g_Mo_sayTest_J265 hd hw k0 v2 k0 ((61 : Int32)) (some (aI v1)) none none M3 h
    · have h := h.2 hc
      show Gd d w 225 _ (242, [some (aR 21 k0), some (aI v1), some (aI v2), none, none], [aR 21 k0], M3)
      refine gd_s (P := True ∧ True ∧ True) (σ1 := (265, [some (aR 21 k0), some (aI v1), some (aI v2), none, none], [aI ((60 : Int32)), aR 21 k0], M3)) tc_225 rfl 2 (fun u => ⟨_, rfl⟩) ⟨trivial, trivial, trivial⟩ ?_
      exact g_Mo_sayTest_J265 hd hw k0 v2 k0 ((60 : Int32)) (some (aI v1)) none none M3 h
  have h := h.2 hc
  refine gd_case ⟨fun hc => ?_, fun hc => ?_⟩
  · have h := h.1 hc
    show Gd d w 225 _ (230, [some (aR 21 k0), some (aI v1), some (aI v2), none, none], [], M3)
    obtain ⟨c0, h⟩ := h
    refine gd_s (P := True ∧ True ∧ True ∧ True ∧ (vp_in v2 (rK M3 (k0 + 16)).2) ∧ True ∧ True) (σ1 := (239, [some (aR 21 k0), some (aI v1), some (aI v2), none, none], [aI ((6 : Int32)), aI (rI M3 (k0 + 16) v2.toNatClampNeg), aR 21 k0], M3)) tc_225 rfl 6 (fun u => ⟨_, rfl⟩) ⟨trivial, trivial, trivial, trivial, c0, trivial, trivial⟩ ?_
    refine gd_br (c := ¬ (rI M3 (k0 + 16) v2.toNatClampNeg) = ((6 : Int32))) (st1 := [aR 21 k0]) tc_225 rfl rfl (fun _ => rfl) ⟨fun hc => ?_, fun hc => ?_⟩
    · have h := h.1 hc
      show Gd d w 225 _ (247, [some (aR 21 k0), some (aI v1), some (aI v2), none, none], [aR 21 k0], M3)
      obtain ⟨c0, h⟩ := h
      refine gd_s (P := True ∧ True ∧ True ∧ (vp_in v2 (rK M3 (k0 + 16)).2) ∧ True ∧ True) (σ1 := (255, [some (aR 21 k0), some (aI v1), some (aI v2), none, none], [aI ((7 : Int32)), aI (rI M3 (k0 + 16) v2.toNatClampNeg), aR 21 k0], M3)) tc_225 rfl 5 (fun u => ⟨_, rfl⟩) ⟨trivial, trivial, trivial, c0, trivial, trivial⟩ ?_
      refine gd_br (c := ¬ (rI M3 (k0 + 16) v2.toNatClampNeg) = ((7 : Int32))) (st1 := [aR 21 k0]) tc_225 rfl rfl (fun _ => rfl) ⟨fun hc => ?_, fun hc => ?_⟩
      · have h := h.1 hc
        show Gd d w 225 _ (263, [some (aR 21 k0), some (aI v1), some (aI v2), none, none], [aR 21 k0], M3)
        refine gd_s (P := True ∧ True) (σ1 := (265, [some (aR 21 k0), some (aI v1), some (aI v2), none, none], [aI ((62 : Int32)), aR 21 k0], M3)) tc_225 rfl 1 (fun u => ⟨_, rfl⟩) ⟨trivial, trivial⟩ ?_
        exact g_Mo_sayTest_J265 hd hw k0 v2 k0 ((62 : Int32)) (some (aI v1)) none none M3 h
      · have h := h.2 hc
        show Gd d w 225 _ (258, [some (aR 21 k0), some (aI v1), some (aI v2), none, none], [aR 21 k0], M3)
        refine gd_s (P := True ∧ True ∧ True) (σ1 := (265, [some (aR 21 k0), some (aI v1), some (aI v2), none, none], [aI ((61 : Int32)), aR 21 k0], M3)) tc_225 rfl 2 (fun u => ⟨_, rfl⟩) ⟨trivial, trivial, trivial⟩ ?_
        exact g_Mo_sayTest_J265 hd hw k0 v2 k0 ((61 : Int32)) (some (aI v1)) none none M3 h
    · have h := h.2 hc
      show Gd d w 225 _ (242, [some (aR 21 k0), some (aI v1), some (aI v2), none, none], [aR 21 k0], M3)
      refine gd_s (P := True ∧ True ∧ True) (σ1 := (265, [some (aR 21 k0), some (aI v1), some (aI v2), none, none], [aI ((60 : Int32)), aR 21 k0], M3)) tc_225 rfl 2 (fun u => ⟨_, rfl⟩) ⟨trivial, trivial, trivial⟩ ?_
      exact g_Mo_sayTest_J265 hd hw k0 v2 k0 ((60 : Int32)) (some (aI v1)) none none M3 h
  have h := h.2 hc
  refine gd_case ⟨fun hc => ?_, fun hc => ?_⟩
  · have h := h.1 hc
    show Gd d w 225 _ (195, [some (aR 21 k0), some (aI v1), some (aI v2), none, none], [], M3)
    refine gd_s (P := True ∧ True ∧ True) (σ1 := (199, [some (aR 21 k0), some (aI v1), some (aI v2), none, none], [aR 1 50, aR 21 k0], M3)) tc_225 rfl 2 (fun u => ⟨_, rfl⟩) ⟨trivial, trivial, trivial⟩ ?_
    refine gd_callN (ml := 3) (as := [aR 21 k0, aR 1 50]) (rest := []) tc_225 rfl rfl rfl rfl rfl (by omega) (by omega) (Nat.le_of_ble_eq_true rfl) rfl (g_Mo_say (by omega) (by omega) h) (fun r9 M4 h => ?_)
    obtain ⟨rfl, h⟩ := h
    show Gd d w 225 _ (202, [some (aR 21 k0), some (aI v1), some (aI v2), none, none], [], M4)
    obtain ⟨c0, h⟩ := h
    refine gd_s (P := True ∧ True ∧ True ∧ True ∧ True ∧ True ∧ (vp_in v2 (rK M4 (k0 + 18)).2) ∧ True) (σ1 := (211, [some (aR 21 k0), some (aI v1), some (aI v2), none, none], [aI (rI M4 (k0 + 18) v2.toNatClampNeg), aI ((0 : Int32)), aI v1, aR 21 k0], M4)) tc_225 rfl 7 (fun u => ⟨_, rfl⟩) ⟨trivial, trivial, trivial, trivial, trivial, trivial, c0, trivial⟩ ?_
    refine gd_callN (ml := 3) (as := [aI v1, aI ((0 : Int32)), aI (rI M4 (k0 + 18) v2.toNatClampNeg)]) (rest := [aR 21 k0]) tc_225 rfl rfl rfl rfl rfl (by omega) (by omega) (Nat.le_of_ble_eq_true rfl) rfl (g_Mo_nameOf (by omega) (by omega) h) (fun r9 M9 h => ?_)
    obtain ⟨x5, rfl, e9, h⟩ := h
    subst M9
    show Gd d w 225 _ (214, [some (aR 21 k0), some (aI v1), some (aI v2), none, none], [aI x5, aR 21 k0], M4)
    refine gd_callN (ml := 3) (as := [aR 21 k0, aI x5]) (rest := []) tc_225 rfl rfl rfl rfl rfl (by omega) (by omega) (Nat.le_of_ble_eq_true rfl) rfl (g_Mo_sayName (by omega) (by omega) h) (fun r9 M6 h => ?_)
    obtain ⟨rfl, h⟩ := h
    show Gd d w 225 _ (217, [some (aR 21 k0), some (aI v1), some (aI v2), none, none], [], M6)
    refine gd_s (P := True ∧ True) (σ1 := (284, [some (aR 21 k0), some (aI v1), some (aI v2), none, none], [], M6)) tc_225 rfl 1 (fun u => ⟨_, rfl⟩) ⟨trivial, trivial⟩ ?_
    exact gd_ret tc_225 rfl rfl trivial (fun _ => rfl) ⟨rfl, h⟩
  have h := h.2 hc
  refine gd_case ⟨fun hc => ?_, fun hc => ?_⟩
  · have h := h.1 hc
    show Gd d w 225 _ (76, [some (aR 21 k0), some (aI v1), some (aI v2), none, none], [], M3)
    obtain ⟨c0, h⟩ := h
    refine gd_s (P := True ∧ True ∧ True ∧ True ∧ (vp_in v2 (rK M3 (k0 + 16)).2) ∧ True ∧ True) (σ1 := (84, [some (aR 21 k0), some (aI v1), some (aI v2), none, none], [aI ((3 : Int32)), aI (rI M3 (k0 + 16) v2.toNatClampNeg), aR 21 k0], M3)) tc_225 rfl 6 (fun u => ⟨_, rfl⟩) ⟨trivial, trivial, trivial, trivial, c0, trivial, trivial⟩ ?_
    refine gd_br (c := ¬ (rI M3 (k0 + 16) v2.toNatClampNeg) = ((3 : Int32))) (st1 := [aR 21 k0]) tc_225 rfl rfl (fun _ => rfl) ⟨fun hc => ?_, fun hc => ?_⟩
    · have h := h.1 hc
      show Gd d w 225 _ (93, [some (aR 21 k0), some (aI v1), some (aI v2), none, none], [aR 21 k0], M3)
      refine gd_s (P := True ∧ True) (σ1 := (96, [some (aR 21 k0), some (aI v1), some (aI v2), none, none], [aR 1 46, aR 21 k0], M3)) tc_225 rfl 1 (fun u => ⟨_, rfl⟩) ⟨trivial, trivial⟩ ?_
      exact g_Mo_sayTest_J96 hd hw k0 v2 k0 46 (some (aI v1)) none none M3 h
    · have h := h.2 hc
      show Gd d w 225 _ (87, [some (aR 21 k0), some (aI v1), some (aI v2), none, none], [aR 21 k0], M3)
      refine gd_s (P := True ∧ True ∧ True) (σ1 := (96, [some (aR 21 k0), some (aI v1), some (aI v2), none, none], [aR 1 45, aR 21 k0], M3)) tc_225 rfl 2 (fun u => ⟨_, rfl⟩) ⟨trivial, trivial, trivial⟩ ?_
      exact g_Mo_sayTest_J96 hd hw k0 v2 k0 45 (some (aI v1)) none none M3 h
  have h := h.2 hc
  refine gd_case ⟨fun hc => ?_, fun hc => ?_⟩
  · have h := h.1 hc
    show Gd d w 225 _ (220, [some (aR 21 k0), some (aI v1), some (aI v2), none, none], [], M3)
    refine gd_s (P := True ∧ True ∧ True) (σ1 := (224, [some (aR 21 k0), some (aI v1), some (aI v2), none, none], [aR 1 51, aR 21 k0], M3)) tc_225 rfl 2 (fun u => ⟨_, rfl⟩) ⟨trivial, trivial, trivial⟩ ?_
    refine gd_callN (ml := 3) (as := [aR 21 k0, aR 1 51]) (rest := []) tc_225 rfl rfl rfl rfl rfl (by omega) (by omega) (Nat.le_of_ble_eq_true rfl) rfl (g_Mo_say (by omega) (by omega) h) (fun r9 M7 h => ?_)
    obtain ⟨rfl, h⟩ := h
    show Gd d w 225 _ (227, [some (aR 21 k0), some (aI v1), some (aI v2), none, none], [], M7)
    refine gd_s (P := True ∧ True) (σ1 := (284, [some (aR 21 k0), some (aI v1), some (aI v2), none, none], [], M7)) tc_225 rfl 1 (fun u => ⟨_, rfl⟩) ⟨trivial, trivial⟩ ?_
    exact gd_ret tc_225 rfl rfl trivial (fun _ => rfl) ⟨rfl, h⟩
  have h := h.2 hc
  show Gd d w 225 _ (230, [some (aR 21 k0), some (aI v1), some (aI v2), none, none], [], M3)
  obtain ⟨c0, h⟩ := h
  refine gd_s (P := True ∧ True ∧ True ∧ True ∧ (vp_in v2 (rK M3 (k0 + 16)).2) ∧ True ∧ True) (σ1 := (239, [some (aR 21 k0), some (aI v1), some (aI v2), none, none], [aI ((6 : Int32)), aI (rI M3 (k0 + 16) v2.toNatClampNeg), aR 21 k0], M3)) tc_225 rfl 6 (fun u => ⟨_, rfl⟩) ⟨trivial, trivial, trivial, trivial, c0, trivial, trivial⟩ ?_
  refine gd_br (c := ¬ (rI M3 (k0 + 16) v2.toNatClampNeg) = ((6 : Int32))) (st1 := [aR 21 k0]) tc_225 rfl rfl (fun _ => rfl) ⟨fun hc => ?_, fun hc => ?_⟩
  · have h := h.1 hc
    show Gd d w 225 _ (247, [some (aR 21 k0), some (aI v1), some (aI v2), none, none], [aR 21 k0], M3)
    obtain ⟨c0, h⟩ := h
    refine gd_s (P := True ∧ True ∧ True ∧ (vp_in v2 (rK M3 (k0 + 16)).2) ∧ True ∧ True) (σ1 := (255, [some (aR 21 k0), some (aI v1), some (aI v2), none, none], [aI ((7 : Int32)), aI (rI M3 (k0 + 16) v2.toNatClampNeg), aR 21 k0], M3)) tc_225 rfl 5 (fun u => ⟨_, rfl⟩) ⟨trivial, trivial, trivial, c0, trivial, trivial⟩ ?_
    refine gd_br (c := ¬ (rI M3 (k0 + 16) v2.toNatClampNeg) = ((7 : Int32))) (st1 := [aR 21 k0]) tc_225 rfl rfl (fun _ => rfl) ⟨fun hc => ?_, fun hc => ?_⟩
    · have h := h.1 hc
      show Gd d w 225 _ (263, [some (aR 21 k0), some (aI v1), some (aI v2), none, none], [aR 21 k0], M3)
      refine gd_s (P := True ∧ True) (σ1 := (265, [some (aR 21 k0), some (aI v1), some (aI v2), none, none], [aI ((62 : Int32)), aR 21 k0], M3)) tc_225 rfl 1 (fun u => ⟨_, rfl⟩) ⟨trivial, trivial⟩ ?_
      exact g_Mo_sayTest_J265 hd hw k0 v2 k0 ((62 : Int32)) (some (aI v1)) none none M3 h
    · have h := h.2 hc
      show Gd d w 225 _ (258, [some (aR 21 k0), some (aI v1), some (aI v2), none, none], [aR 21 k0], M3)
      refine gd_s (P := True ∧ True ∧ True) (σ1 := (265, [some (aR 21 k0), some (aI v1), some (aI v2), none, none], [aI ((61 : Int32)), aR 21 k0], M3)) tc_225 rfl 2 (fun u => ⟨_, rfl⟩) ⟨trivial, trivial, trivial⟩ ?_
      exact g_Mo_sayTest_J265 hd hw k0 v2 k0 ((61 : Int32)) (some (aI v1)) none none M3 h
  · have h := h.2 hc
    show Gd d w 225 _ (242, [some (aR 21 k0), some (aI v1), some (aI v2), none, none], [aR 21 k0], M3)
    refine gd_s (P := True ∧ True ∧ True) (σ1 := (265, [some (aR 21 k0), some (aI v1), some (aI v2), none, none], [aI ((60 : Int32)), aR 21 k0], M3)) tc_225 rfl 2 (fun u => ⟨_, rfl⟩) ⟨trivial, trivial, trivial⟩ ?_
    exact g_Mo_sayTest_J265 hd hw k0 v2 k0 ((60 : Int32)) (some (aI v1)) none none M3 h
theorem tc_226 : tC 226 = c226 := rfl
/-- PolicyJudgeModel.wantsBrackets(II)Z -/
def w_Mo_wantsBrackets (post : Int32 → Prop) (v0 : Int32) (v1 : Int32) (M : aM) : Prop := ((v1 = ((13 : Int32))) → (((1 : Int32)) = 0 ∨ ((1 : Int32)) = 1) ∧ post ((1 : Int32))) ∧ (¬ (v1 = ((13 : Int32))) → ((¬ v1 = ((14 : Int32))) → (((0 : Int32)) = 0 ∨ ((0 : Int32)) = 1) ∧ post ((0 : Int32))) ∧ (¬ (¬ v1 = ((14 : Int32))) → ((v0 = ((13 : Int32))) → (((0 : Int32)) = 0 ∨ ((0 : Int32)) = 1) ∧ post ((0 : Int32))) ∧ (¬ (v0 = ((13 : Int32))) → (((1 : Int32)) = 0 ∨ ((1 : Int32)) = 1) ∧ post ((1 : Int32)))))
theorem g_Mo_wantsBrackets {d w : Nat} (hd : 0 ≤ d) (hw : 0 ≤ w) {post : Int32 → Prop} {v0 : Int32} {v1 : Int32} {M : aM} (h : w_Mo_wantsBrackets post v0 v1 M) : Gd d w 226 (pIn M post) (0, aEnt 226 [aI v0, aI v1], [], M) := by
  unfold w_Mo_wantsBrackets at h
  show Gd d w 226 _ (0, [some (aI v0), some (aI v1)], [], M)
  refine gd_s (P := True ∧ True ∧ True) (σ1 := (3, [some (aI v0), some (aI v1)], [aI ((13 : Int32)), aI v1], M)) tc_226 rfl 2 (fun u => ⟨_, rfl⟩) ⟨trivial, trivial, trivial⟩ ?_
  refine gd_br (c := v1 = ((13 : Int32))) (st1 := []) tc_226 rfl rfl (fun _ => rfl) ⟨fun hc => ?_, fun hc => ?_⟩
  · have h := h.1 hc
    show Gd d w 226 _ (18, [some (aI v0), some (aI v1)], [], M)
    refine gd_s (P := True ∧ True ∧ True) (σ1 := (23, [some (aI v0), some (aI v1)], [aI ((1 : Int32))], M)) tc_226 rfl 2 (fun u => ⟨_, rfl⟩) ⟨trivial, trivial, trivial⟩ ?_
    exact gd_ret tc_226 rfl rfl h.1 (fun _ => rfl) ⟨_, rfl, rfl, h.2⟩
  · have h := h.2 hc
    show Gd d w 226 _ (6, [some (aI v0), some (aI v1)], [], M)
    refine gd_s (P := True ∧ True ∧ True) (σ1 := (9, [some (aI v0), some (aI v1)], [aI ((14 : Int32)), aI v1], M)) tc_226 rfl 2 (fun u => ⟨_, rfl⟩) ⟨trivial, trivial, trivial⟩ ?_
    refine gd_br (c := ¬ v1 = ((14 : Int32))) (st1 := []) tc_226 rfl rfl (fun _ => rfl) ⟨fun hc => ?_, fun hc => ?_⟩
    · have h := h.1 hc
      show Gd d w 226 _ (22, [some (aI v0), some (aI v1)], [], M)
      refine gd_s (P := True ∧ True) (σ1 := (23, [some (aI v0), some (aI v1)], [aI ((0 : Int32))], M)) tc_226 rfl 1 (fun u => ⟨_, rfl⟩) ⟨trivial, trivial⟩ ?_
      exact gd_ret tc_226 rfl rfl h.1 (fun _ => rfl) ⟨_, rfl, rfl, h.2⟩
    · have h := h.2 hc
      show Gd d w 226 _ (12, [some (aI v0), some (aI v1)], [], M)
      refine gd_s (P := True ∧ True ∧ True) (σ1 := (15, [some (aI v0), some (aI v1)], [aI ((13 : Int32)), aI v0], M)) tc_226 rfl 2 (fun u => ⟨_, rfl⟩) ⟨trivial, trivial, trivial⟩ ?_
      refine gd_br (c := v0 = ((13 : Int32))) (st1 := []) tc_226 rfl rfl (fun _ => rfl) ⟨fun hc => ?_, fun hc => ?_⟩
      · have h := h.1 hc
        show Gd d w 226 _ (22, [some (aI v0), some (aI v1)], [], M)
        refine gd_s (P := True ∧ True) (σ1 := (23, [some (aI v0), some (aI v1)], [aI ((0 : Int32))], M)) tc_226 rfl 1 (fun u => ⟨_, rfl⟩) ⟨trivial, trivial⟩ ?_
        exact gd_ret tc_226 rfl rfl h.1 (fun _ => rfl) ⟨_, rfl, rfl, h.2⟩
      · have h := h.2 hc
        show Gd d w 226 _ (18, [some (aI v0), some (aI v1)], [], M)
        refine gd_s (P := True ∧ True ∧ True) (σ1 := (23, [some (aI v0), some (aI v1)], [aI ((1 : Int32))], M)) tc_226 rfl 2 (fun u => ⟨_, rfl⟩) ⟨trivial, trivial, trivial⟩ ?_
        exact gd_ret tc_226 rfl rfl h.1 (fun _ => rfl) ⟨_, rfl, rfl, h.2⟩
theorem tc_224 : tC 224 = c224 := rfl
def w_Mo_sayExpression_J237 (post : aM → Prop) (K37 : Nat → Int32 → Int32 → Int32 → aM → Prop) (k0 : Nat) (v1 : Int32) (v3 : Int32) (v5 : Int32) (v7 : Int32) (v8 : Int32) (M : aM) : Prop := (vp_in ((((400 : Int32)) * v1) + v8) (rK M (k0 + 21)).2) ∧ (vp_in v5 (rK M (k0 + 50)).2) ∧ (vp_in v3 (rK M (k0 + 48)).2) ∧ (vp_in ((((400 : Int32)) * v1) + v8) (rK M (k0 + 16)).2) ∧ (w_Mo_wantsBrackets (fun x1 => (vp_in v3 (rK M (k0 + 49)).2 ∧ (x1 = 0 ∨ x1 = 1)) ∧ (vp_in ((((400 : Int32)) * v1) + v8) (rK M (k0 + 20)).2) ∧ (vp_in v3 (rK M (k0 + 50)).2) ∧ (K37 k0 v1 (v3 + (1 : Int32)) ((1 : Int32)) (wI (wI (wI (wI M (k0 + 50) v5.toNatClampNeg (rI M (k0 + 21) ((((400 : Int32)) * v1) + v8).toNatClampNeg)) (k0 + 48) v3.toNatClampNeg v8) (k0 + 49) v3.toNatClampNeg x1) (k0 + 50) v3.toNatClampNeg (rI (wI (wI (wI M (k0 + 50) v5.toNatClampNeg (rI M (k0 + 21) ((((400 : Int32)) * v1) + v8).toNatClampNeg)) (k0 + 48) v3.toNatClampNeg v8) (k0 + 49) v3.toNatClampNeg x1) (k0 + 20) ((((400 : Int32)) * v1) + v8).toNatClampNeg)))) v7 (rI (wI (wI M (k0 + 50) v5.toNatClampNeg (rI M (k0 + 21) ((((400 : Int32)) * v1) + v8).toNatClampNeg)) (k0 + 48) v3.toNatClampNeg v8) (k0 + 16) ((((400 : Int32)) * v1) + v8).toNatClampNeg) (wI (wI M (k0 + 50) v5.toNatClampNeg (rI M (k0 + 21) ((((400 : Int32)) * v1) + v8).toNatClampNeg)) (k0 + 48) v3.toNatClampNeg v8))
theorem g_Mo_sayExpression_J237 {d w : Nat} (hd : 8 ≤ d) (hw : 246 ≤ w) {post : aM → Prop} {K37 : Nat → Int32 → Int32 → Int32 → aM → Prop} (hK37 : ∀ (k0 : Nat) (v1 : Int32) (v3 : Int32) (v4 : Int32) (o2 o5 o6 o7 o8 o9 : Option aV) (M : aM), K37 k0 v1 v3 v4 M → Gd d w 224 (pV post) (37, [some (aR 21 k0), some (aI v1), o2, some (aI v3), some (aI v4), o5, o6, o7, o8, o9], [], M)) (k0 : Nat) (v1 : Int32) (v3 : Int32) (v5 : Int32) (v7 : Int32) (v8 : Int32) (o2 o4 o6 o9 : Option aV) (M : aM) (h : w_Mo_sayExpression_J237 post K37 k0 v1 v3 v5 v7 v8 M) : Gd d w 224 (pV post) (237, [some (aR 21 k0), some (aI v1), o2, some (aI v3), o4, some (aI v5), o6, some (aI v7), some (aI v8), o9], [], M) := by
  unfold w_Mo_sayExpression_J237 at h
  show Gd d w 224 _ (237, [some (aR 21 k0), some (aI v1), o2, some (aI v3), o4, some (aI v5), o6, some (aI v7), some (aI v8), o9], [], M)
  obtain ⟨c0, c1, c2, c3, h⟩ := h
  refine gd_s (P := True ∧ True ∧ True ∧ True ∧ True ∧ True ∧ True ∧ True ∧ True ∧ True ∧ (vp_in ((((400 : Int32)) * v1) + v8) (rK M (k0 + 21)).2) ∧ (vp_in v5 (rK M (k0 + 50)).2) ∧ True ∧ True ∧ True ∧ True ∧ (vp_in v3 (rK M (k0 + 48)).2) ∧ True ∧ True ∧ True ∧ True ∧ True ∧ True ∧ True ∧ (vp_in ((((400 : Int32)) * v1) + v8) (rK M (k0 + 16)).2) ∧ True ∧ True ∧ True ∧ True ∧ True ∧ True ∧ True) (σ1 := (289, [some (aR 21 k0), some (aI v1), o2, some (aI v3), o4, some (aI v5), o6, some (aI v7), some (aI v8), some (aI (rI (wI (wI M (k0 + 50) v5.toNatClampNeg (rI M (k0 + 21) ((((400 : Int32)) * v1) + v8).toNatClampNeg)) (k0 + 48) v3.toNatClampNeg v8) (k0 + 16) ((((400 : Int32)) * v1) + v8).toNatClampNeg))], [aI (rI (wI (wI M (k0 + 50) v5.toNatClampNeg (rI M (k0 + 21) ((((400 : Int32)) * v1) + v8).toNatClampNeg)) (k0 + 48) v3.toNatClampNeg v8) (k0 + 16) ((((400 : Int32)) * v1) + v8).toNatClampNeg), aI v7, aI v3, aR 5 (k0 + 49)], wI (wI M (k0 + 50) v5.toNatClampNeg (rI M (k0 + 21) ((((400 : Int32)) * v1) + v8).toNatClampNeg)) (k0 + 48) v3.toNatClampNeg v8)) tc_224 rfl 31 (fun u => ⟨_, rfl⟩) ⟨trivial, trivial, trivial, trivial, trivial, trivial, trivial, trivial, trivial, trivial, c0, c1, trivial, trivial, trivial, trivial, c2, trivial, trivial, trivial, trivial, trivial, trivial, trivial, c3, trivial, trivial, trivial, trivial, trivial, trivial, trivial⟩ ?_
  refine gd_callN (ml := 2) (as := [aI v7, aI (rI (wI (wI M (k0 + 50) v5.toNatClampNeg (rI M (k0 + 21) ((((400 : Int32)) * v1) + v8).toNatClampNeg)) (k0 + 48) v3.toNatClampNeg v8) (k0 + 16) ((((400 : Int32)) * v1) + v8).toNatClampNeg)]) (rest := [aI v3, aR 5 (k0 + 49)]) tc_224 rfl rfl rfl rfl rfl (by omega) (by omega) (Nat.le_of_ble_eq_true rfl) rfl (g_Mo_wantsBrackets (by omega) (by omega) h) (fun r9 M9 h => ?_)
  obtain ⟨x1, rfl, e9, h⟩ := h
  subst M9
  show Gd d w 224 _ (292, [some (aR 21 k0), some (aI v1), o2, some (aI v3), o4, some (aI v5), o6, some (aI v7), some (aI v8), some (aI (rI (wI (wI M (k0 + 50) v5.toNatClampNeg (rI M (k0 + 21) ((((400 : Int32)) * v1) + v8).toNatClampNeg)) (k0 + 48) v3.toNatClampNeg v8) (k0 + 16) ((((400 : Int32)) * v1) + v8).toNatClampNeg))], [aI x1, aI v3, aR 5 (k0 + 49)], wI (wI M (k0 + 50) v5.toNatClampNeg (rI M (k0 + 21) ((((400 : Int32)) * v1) + v8).toNatClampNeg)) (k0 + 48) v3.toNatClampNeg v8)
  obtain ⟨c0, c1, c2, h⟩ := h
  refine gd_s (P := (vp_in v3 (rK M (k0 + 49)).2 ∧ (x1 = 0 ∨ x1 = 1)) ∧ True ∧ True ∧ True ∧ True ∧ True ∧ True ∧ True ∧ True ∧ True ∧ True ∧ (vp_in ((((400 : Int32)) * v1) + v8) (rK M (k0 + 20)).2) ∧ (vp_in v3 (rK M (k0 + 50)).2) ∧ True ∧ True ∧ True ∧ True ∧ True) (σ1 := (37, [some (aR 21 k0), some (aI v1), o2, some (aI (v3 + (1 : Int32))), some (aI ((1 : Int32))), some (aI v5), o6, some (aI v7), some (aI v8), some (aI (rI (wI (wI M (k0 + 50) v5.toNatClampNeg (rI M (k0 + 21) ((((400 : Int32)) * v1) + v8).toNatClampNeg)) (k0 + 48) v3.toNatClampNeg v8) (k0 + 16) ((((400 : Int32)) * v1) + v8).toNatClampNeg))], [], wI (wI (wI (wI M (k0 + 50) v5.toNatClampNeg (rI M (k0 + 21) ((((400 : Int32)) * v1) + v8).toNatClampNeg)) (k0 + 48) v3.toNatClampNeg v8) (k0 + 49) v3.toNatClampNeg x1) (k0 + 50) v3.toNatClampNeg (rI (wI (wI (wI M (k0 + 50) v5.toNatClampNeg (rI M (k0 + 21) ((((400 : Int32)) * v1) + v8).toNatClampNeg)) (k0 + 48) v3.toNatClampNeg v8) (k0 + 49) v3.toNatClampNeg x1) (k0 + 20) ((((400 : Int32)) * v1) + v8).toNatClampNeg))) tc_224 rfl 17 (fun u => ⟨_, rfl⟩) ⟨c0, trivial, trivial, trivial, trivial, trivial, trivial, trivial, trivial, trivial, trivial, c1, c2, trivial, trivial, trivial, trivial, trivial⟩ ?_
  exact hK37 k0 v1 (v3 + (1 : Int32)) ((1 : Int32)) o2 (some (aI v5)) o6 (some (aI v7)) (some (aI v8)) (some (aI (rI (wI (wI M (k0 + 50) v5.toNatClampNeg (rI M (k0 + 21) ((((400 : Int32)) * v1) + v8).toNatClampNeg)) (k0 + 48) v3.toNatClampNeg v8) (k0 + 16) ((((400 : Int32)) * v1) + v8).toNatClampNeg))) (wI (wI (wI (wI M (k0 + 50) v5.toNatClampNeg (rI M (k0 + 21) ((((400 : Int32)) * v1) + v8).toNatClampNeg)) (k0 + 48) v3.toNatClampNeg v8) (k0 + 49) v3.toNatClampNeg x1) (k0 + 50) v3.toNatClampNeg (rI (wI (wI (wI M (k0 + 50) v5.toNatClampNeg (rI M (k0 + 21) ((((400 : Int32)) * v1) + v8).toNatClampNeg)) (k0 + 48) v3.toNatClampNeg v8) (k0 + 49) v3.toNatClampNeg x1) (k0 + 20) ((((400 : Int32)) * v1) + v8).toNatClampNeg)) h
def w_Mo_sayExpression_J234 (post : aM → Prop) (K37 : Nat → Int32 → Int32 → Int32 → aM → Prop) (k0 : Nat) (v1 : Int32) (v3 : Int32) (v5 : Int32) (v7 : Int32) (v8 : Int32) (t0 : Nat) (t1 : Nat) (M : aM) : Prop := w_Mo_say (fun M1 => w_Mo_sayExpression_J237 post K37 k0 v1 v3 v5 v7 v8 M1) t0 t1 M
theorem g_Mo_sayExpression_J234 {d w : Nat} (hd : 8 ≤ d) (hw : 246 ≤ w) {post : aM → Prop} {K37 : Nat → Int32 → Int32 → Int32 → aM → Prop} (hK37 : ∀ (k0 : Nat) (v1 : Int32) (v3 : Int32) (v4 : Int32) (o2 o5 o6 o7 o8 o9 : Option aV) (M : aM), K37 k0 v1 v3 v4 M → Gd d w 224 (pV post) (37, [some (aR 21 k0), some (aI v1), o2, some (aI v3), some (aI v4), o5, o6, o7, o8, o9], [], M)) (k0 : Nat) (v1 : Int32) (v3 : Int32) (v5 : Int32) (v7 : Int32) (v8 : Int32) (t0 : Nat) (t1 : Nat) (o2 o4 o6 o9 : Option aV) (M : aM) (h : w_Mo_sayExpression_J234 post K37 k0 v1 v3 v5 v7 v8 t0 t1 M) : Gd d w 224 (pV post) (234, [some (aR 21 k0), some (aI v1), o2, some (aI v3), o4, some (aI v5), o6, some (aI v7), some (aI v8), o9], [aR 1 t1, aR 21 t0], M) := by
  unfold w_Mo_sayExpression_J234 at h
  show Gd d w 224 _ (234, [some (aR 21 k0), some (aI v1), o2, some (aI v3), o4, some (aI v5), o6, some (aI v7), some (aI v8), o9], [aR 1 t1, aR 21 t0], M)
  refine gd_callN (ml := 3) (as := [aR 21 t0, aR 1 t1]) (rest := []) tc_224 rfl rfl rfl rfl rfl (by omega) (by omega) (Nat.le_of_ble_eq_true rfl) rfl (g_Mo_say (by omega) (by omega) h) (fun r9 M1 h => ?_)
  obtain ⟨rfl, h⟩ := h
  exact g_Mo_sayExpression_J237 hd hw hK37 k0 v1 v3 v5 v7 v8 o2 o4 o6 o9 M1 h
def w_Mo_sayExpression_J172 (post : aM → Prop) (K37 : Nat → Int32 → Int32 → Int32 → aM → Prop) (k0 : Nat) (v1 : Int32) (v3 : Int32) (v4 : Int32) (v5 : Int32) (v7 : Int32) (M : aM) : Prop := (vp_in v5 (rK M (k0 + 50)).2) ∧ (((¬ (rI M (k0 + 50) v5.toNatClampNeg) = ((-1 : Int32))) → ((¬ v4 = ((0 : Int32))) → w_Mo_sayExpression_J237 post K37 k0 v1 v3 v5 v7 (rI M (k0 + 50) v5.toNatClampNeg) M) ∧ (¬ (¬ v4 = ((0 : Int32))) → ((¬ v7 = ((13 : Int32))) → w_Mo_sayExpression_J234 post K37 k0 v1 v3 v5 v7 (rI M (k0 + 50) v5.toNatClampNeg) k0 54 M) ∧ (¬ (¬ v7 = ((13 : Int32))) → w_Mo_sayExpression_J234 post K37 k0 v1 v3 v5 v7 (rI M (k0 + 50) v5.toNatClampNeg) k0 53 M))) ∧ (¬ (¬ (rI M (k0 + 50) v5.toNatClampNeg) = ((-1 : Int32))) → (vp_in v5 (rK M (k0 + 49)).2) ∧ ((((rI M (k0 + 49) v5.toNatClampNeg) = ((0 : Int32))) → K37 k0 v1 (v3 + (-1 : Int32)) ((0 : Int32)) M) ∧ (¬ ((rI M (k0 + 49) v5.toNatClampNeg) = ((0 : Int32))) → w_Mo_put (fun M1 => K37 k0 v1 (v3 + (-1 : Int32)) ((0 : Int32)) M1) k0 ((41 : Int32)) M))))
theorem g_Mo_sayExpression_J172 {d w : Nat} (hd : 8 ≤ d) (hw : 246 ≤ w) {post : aM → Prop} {K37 : Nat → Int32 → Int32 → Int32 → aM → Prop} (hK37 : ∀ (k0 : Nat) (v1 : Int32) (v3 : Int32) (v4 : Int32) (o2 o5 o6 o7 o8 o9 : Option aV) (M : aM), K37 k0 v1 v3 v4 M → Gd d w 224 (pV post) (37, [some (aR 21 k0), some (aI v1), o2, some (aI v3), some (aI v4), o5, o6, o7, o8, o9], [], M)) (k0 : Nat) (v1 : Int32) (v3 : Int32) (v4 : Int32) (v5 : Int32) (v7 : Int32) (o2 o6 o8 o9 : Option aV) (M : aM) (h : w_Mo_sayExpression_J172 post K37 k0 v1 v3 v4 v5 v7 M) : Gd d w 224 (pV post) (172, [some (aR 21 k0), some (aI v1), o2, some (aI v3), some (aI v4), some (aI v5), o6, some (aI v7), o8, o9], [], M) := by
  unfold w_Mo_sayExpression_J172 at h
  show Gd d w 224 _ (172, [some (aR 21 k0), some (aI v1), o2, some (aI v3), some (aI v4), some (aI v5), o6, some (aI v7), o8, o9], [], M)
  obtain ⟨c0, h⟩ := h
  refine gd_s (P := True ∧ True ∧ True ∧ (vp_in v5 (rK M (k0 + 50)).2) ∧ True ∧ True ∧ True ∧ True) (σ1 := (184, [some (aR 21 k0), some (aI v1), o2, some (aI v3), some (aI v4), some (aI v5), o6, some (aI v7), some (aI (rI M (k0 + 50) v5.toNatClampNeg)), o9], [aI ((-1 : Int32)), aI (rI M (k0 + 50) v5.toNatClampNeg)], M)) tc_224 rfl 7 (fun u => ⟨_, rfl⟩) ⟨trivial, trivial, trivial, c0, trivial, trivial, trivial, trivial⟩ ?_
  refine gd_br (c := ¬ (rI M (k0 + 50) v5.toNatClampNeg) = ((-1 : Int32))) (st1 := []) tc_224 rfl rfl (fun _ => rfl) ⟨fun hc => ?_, fun hc => ?_⟩
  · have h := h.1 hc
    show Gd d w 224 _ (212, [some (aR 21 k0), some (aI v1), o2, some (aI v3), some (aI v4), some (aI v5), o6, some (aI v7), some (aI (rI M (k0 + 50) v5.toNatClampNeg)), o9], [], M)
    refine gd_s (P := True ∧ True) (σ1 := (214, [some (aR 21 k0), some (aI v1), o2, some (aI v3), some (aI v4), some (aI v5), o6, some (aI v7), some (aI (rI M (k0 + 50) v5.toNatClampNeg)), o9], [aI v4], M)) tc_224 rfl 1 (fun u => ⟨_, rfl⟩) ⟨trivial, trivial⟩ ?_
    refine gd_br (c := ¬ v4 = ((0 : Int32))) (st1 := []) tc_224 rfl rfl (fun _ => rfl) ⟨fun hc => ?_, fun hc => ?_⟩
    · have h := h.1 hc
      exact g_Mo_sayExpression_J237 hd hw hK37 k0 v1 v3 v5 v7 (rI M (k0 + 50) v5.toNatClampNeg) o2 (some (aI v4)) o6 o9 M h
    · have h := h.2 hc
      show Gd d w 224 _ (217, [some (aR 21 k0), some (aI v1), o2, some (aI v3), some (aI v4), some (aI v5), o6, some (aI v7), some (aI (rI M (k0 + 50) v5.toNatClampNeg)), o9], [], M)
      refine gd_s (P := True ∧ True ∧ True ∧ True) (σ1 := (222, [some (aR 21 k0), some (aI v1), o2, some (aI v3), some (aI v4), some (aI v5), o6, some (aI v7), some (aI (rI M (k0 + 50) v5.toNatClampNeg)), o9], [aI ((13 : Int32)), aI v7, aR 21 k0], M)) tc_224 rfl 3 (fun u => ⟨_, rfl⟩) ⟨trivial, trivial, trivial, trivial⟩ ?_
      refine gd_br (c := ¬ v7 = ((13 : Int32))) (st1 := [aR 21 k0]) tc_224 rfl rfl (fun _ => rfl) ⟨fun hc => ?_, fun hc => ?_⟩
      · have h := h.1 hc
        show Gd d w 224 _ (231, [some (aR 21 k0), some (aI v1), o2, some (aI v3), some (aI v4), some (aI v5), o6, some (aI v7), some (aI (rI M (k0 + 50) v5.toNatClampNeg)), o9], [aR 21 k0], M)
        refine gd_s (P := True ∧ True) (σ1 := (234, [some (aR 21 k0), some (aI v1), o2, some (aI v3), some (aI v4), some (aI v5), o6, some (aI v7), some (aI (rI M (k0 + 50) v5.toNatClampNeg)), o9], [aR 1 54, aR 21 k0], M)) tc_224 rfl 1 (fun u => ⟨_, rfl⟩) ⟨trivial, trivial⟩ ?_
        exact g_Mo_sayExpression_J234 hd hw hK37 k0 v1 v3 v5 v7 (rI M (k0 + 50) v5.toNatClampNeg) k0 54 o2 (some (aI v4)) o6 o9 M h
      · have h := h.2 hc
        show Gd d w 224 _ (225, [some (aR 21 k0), some (aI v1), o2, some (aI v3), some (aI v4), some (aI v5), o6, some (aI v7), some (aI (rI M (k0 + 50) v5.toNatClampNeg)), o9], [aR 21 k0], M)
        refine gd_s (P := True ∧ True ∧ True) (σ1 := (234, [some (aR 21 k0), some (aI v1), o2, some (aI v3), some (aI v4), some (aI v5), o6, some (aI v7), some (aI (rI M (k0 + 50) v5.toNatClampNeg)), o9], [aR 1 53, aR 21 k0], M)) tc_224 rfl 2 (fun u => ⟨_, rfl⟩) ⟨trivial, trivial, trivial⟩ ?_
        exact g_Mo_sayExpression_J234 hd hw hK37 k0 v1 v3 v5 v7 (rI M (k0 + 50) v5.toNatClampNeg) k0 53 o2 (some (aI v4)) o6 o9 M h
  · have h := h.2 hc
    show Gd d w 224 _ (187, [some (aR 21 k0), some (aI v1), o2, some (aI v3), some (aI v4), some (aI v5), o6, some (aI v7), some (aI (rI M (k0 + 50) v5.toNatClampNeg)), o9], [], M)
    obtain ⟨c0, h⟩ := h
    refine gd_s (P := True ∧ True ∧ True ∧ (vp_in v5 (rK M (k0 + 49)).2) ∧ True) (σ1 := (194, [some (aR 21 k0), some (aI v1), o2, some (aI v3), some (aI v4), some (aI v5), o6, some (aI v7), some (aI (rI M (k0 + 50) v5.toNatClampNeg)), o9], [aI (rI M (k0 + 49) v5.toNatClampNeg)], M)) tc_224 rfl 4 (fun u => ⟨_, rfl⟩) ⟨trivial, trivial, trivial, c0, trivial⟩ ?_
    refine gd_br (c := (rI M (k0 + 49) v5.toNatClampNeg) = ((0 : Int32))) (st1 := []) tc_224 rfl rfl (fun _ => rfl) ⟨fun hc => ?_, fun hc => ?_⟩
    · have h := h.1 hc
      show Gd d w 224 _ (203, [some (aR 21 k0), some (aI v1), o2, some (aI v3), some (aI v4), some (aI v5), o6, some (aI v7), some (aI (rI M (k0 + 50) v5.toNatClampNeg)), o9], [], M)
      refine gd_s (P := True ∧ True ∧ True ∧ True ∧ True ∧ True) (σ1 := (37, [some (aR 21 k0), some (aI v1), o2, some (aI (v3 + (-1 : Int32))), some (aI ((0 : Int32))), some (aI v5), o6, some (aI v7), some (aI (rI M (k0 + 50) v5.toNatClampNeg)), o9], [], M)) tc_224 rfl 5 (fun u => ⟨_, rfl⟩) ⟨trivial, trivial, trivial, trivial, trivial, trivial⟩ ?_
      exact hK37 k0 v1 (v3 + (-1 : Int32)) ((0 : Int32)) o2 (some (aI v5)) o6 (some (aI v7)) (some (aI (rI M (k0 + 50) v5.toNatClampNeg))) o9 M h
    · have h := h.2 hc
      show Gd d w 224 _ (197, [some (aR 21 k0), some (aI v1), o2, some (aI v3), some (aI v4), some (aI v5), o6, some (aI v7), some (aI (rI M (k0 + 50) v5.toNatClampNeg)), o9], [], M)
      refine gd_s (P := True ∧ True ∧ True) (σ1 := (200, [some (aR 21 k0), some (aI v1), o2, some (aI v3), some (aI v4), some (aI v5), o6, some (aI v7), some (aI (rI M (k0 + 50) v5.toNatClampNeg)), o9], [aI ((41 : Int32)), aR 21 k0], M)) tc_224 rfl 2 (fun u => ⟨_, rfl⟩) ⟨trivial, trivial, trivial⟩ ?_
      refine gd_callN (ml := 2) (as := [aR 21 k0, aI ((41 : Int32))]) (rest := []) tc_224 rfl rfl rfl rfl rfl (by omega) (by omega) (Nat.le_of_ble_eq_true rfl) rfl (g_Mo_put (by omega) (by omega) h) (fun r9 M1 h => ?_)
      obtain ⟨rfl, h⟩ := h
      show Gd d w 224 _ (203, [some (aR 21 k0), some (aI v1), o2, some (aI v3), some (aI v4), some (aI v5), o6, some (aI v7), some (aI (rI M (k0 + 50) v5.toNatClampNeg)), o9], [], M1)
      refine gd_s (P := True ∧ True ∧ True ∧ True ∧ True ∧ True) (σ1 := (37, [some (aR 21 k0), some (aI v1), o2, some (aI (v3 + (-1 : Int32))), some (aI ((0 : Int32))), some (aI v5), o6, some (aI v7), some (aI (rI M (k0 + 50) v5.toNatClampNeg)), o9], [], M1)) tc_224 rfl 5 (fun u => ⟨_, rfl⟩) ⟨trivial, trivial, trivial, trivial, trivial, trivial⟩ ?_
      exact hK37 k0 v1 (v3 + (-1 : Int32)) ((0 : Int32)) o2 (some (aI v5)) o6 (some (aI v7)) (some (aI (rI M (k0 + 50) v5.toNatClampNeg))) o9 M1 h
def w_Mo_sayExpression_J153 (post : aM → Prop) (K37 : Nat → Int32 → Int32 → Int32 → aM → Prop) (k0 : Nat) (v1 : Int32) (v3 : Int32) (v4 : Int32) (v5 : Int32) (v7 : Int32) (M : aM) : Prop := ((v4 = ((0 : Int32))) → w_Mo_sayExpression_J172 post K37 k0 v1 v3 v4 v5 v7 M) ∧ (¬ (v4 = ((0 : Int32))) → ((¬ v7 = ((12 : Int32))) → w_Mo_sayExpression_J172 post K37 k0 v1 v3 v4 v5 v7 M) ∧ (¬ (¬ v7 = ((12 : Int32))) → w_Mo_say (fun M1 => w_Mo_sayExpression_J172 post K37 k0 v1 v3 v4 v5 v7 M1) k0 52 M))
theorem g_Mo_sayExpression_J153 {d w : Nat} (hd : 8 ≤ d) (hw : 246 ≤ w) {post : aM → Prop} {K37 : Nat → Int32 → Int32 → Int32 → aM → Prop} (hK37 : ∀ (k0 : Nat) (v1 : Int32) (v3 : Int32) (v4 : Int32) (o2 o5 o6 o7 o8 o9 : Option aV) (M : aM), K37 k0 v1 v3 v4 M → Gd d w 224 (pV post) (37, [some (aR 21 k0), some (aI v1), o2, some (aI v3), some (aI v4), o5, o6, o7, o8, o9], [], M)) (k0 : Nat) (v1 : Int32) (v3 : Int32) (v4 : Int32) (v5 : Int32) (v7 : Int32) (o2 o6 o8 o9 : Option aV) (M : aM) (h : w_Mo_sayExpression_J153 post K37 k0 v1 v3 v4 v5 v7 M) : Gd d w 224 (pV post) (153, [some (aR 21 k0), some (aI v1), o2, some (aI v3), some (aI v4), some (aI v5), o6, some (aI v7), o8, o9], [], M) := by
  unfold w_Mo_sayExpression_J153 at h
  show Gd d w 224 _ (153, [some (aR 21 k0), some (aI v1), o2, some (aI v3), some (aI v4), some (aI v5), o6, some (aI v7), o8, o9], [], M)
  refine gd_s (P := True ∧ True) (σ1 := (155, [some (aR 21 k0), some (aI v1), o2, some (aI v3), some (aI v4), some (aI v5), o6, some (aI v7), o8, o9], [aI v4], M)) tc_224 rfl 1 (fun u => ⟨_, rfl⟩) ⟨trivial, trivial⟩ ?_
  refine gd_br (c := v4 = ((0 : Int32))) (st1 := []) tc_224 rfl rfl (fun _ => rfl) ⟨fun hc => ?_, fun hc => ?_⟩
  · have h := h.1 hc
    exact g_Mo_sayExpression_J172 hd hw hK37 k0 v1 v3 v4 v5 v7 o2 o6 o8 o9 M h
  · have h := h.2 hc
    show Gd d w 224 _ (158, [some (aR 21 k0), some (aI v1), o2, some (aI v3), some (aI v4), some (aI v5), o6, some (aI v7), o8, o9], [], M)
    refine gd_s (P := True ∧ True ∧ True) (σ1 := (162, [some (aR 21 k0), some (aI v1), o2, some (aI v3), some (aI v4), some (aI v5), o6, some (aI v7), o8, o9], [aI ((12 : Int32)), aI v7], M)) tc_224 rfl 2 (fun u => ⟨_, rfl⟩) ⟨trivial, trivial, trivial⟩ ?_
    refine gd_br (c := ¬ v7 = ((12 : Int32))) (st1 := []) tc_224 rfl rfl (fun _ => rfl) ⟨fun hc => ?_, fun hc => ?_⟩
    · have h := h.1 hc
      exact g_Mo_sayExpression_J172 hd hw hK37 k0 v1 v3 v4 v5 v7 o2 o6 o8 o9 M h
    · have h := h.2 hc
      show Gd d w 224 _ (165, [some (aR 21 k0), some (aI v1), o2, some (aI v3), some (aI v4), some (aI v5), o6, some (aI v7), o8, o9], [], M)
      refine gd_s (P := True ∧ True ∧ True) (σ1 := (169, [some (aR 21 k0), some (aI v1), o2, some (aI v3), some (aI v4), some (aI v5), o6, some (aI v7), o8, o9], [aR 1 52, aR 21 k0], M)) tc_224 rfl 2 (fun u => ⟨_, rfl⟩) ⟨trivial, trivial, trivial⟩ ?_
      refine gd_callN (ml := 3) (as := [aR 21 k0, aR 1 52]) (rest := []) tc_224 rfl rfl rfl rfl rfl (by omega) (by omega) (Nat.le_of_ble_eq_true rfl) rfl (g_Mo_say (by omega) (by omega) h) (fun r9 M1 h => ?_)
      obtain ⟨rfl, h⟩ := h
      exact g_Mo_sayExpression_J172 hd hw hK37 k0 v1 v3 v4 v5 v7 o2 o6 o8 o9 M1 h
def w_Mo_sayExpression_J110 (post : aM → Prop) (K37 : Nat → Int32 → Int32 → Int32 → aM → Prop) (k0 : Nat) (v1 : Int32) (v3 : Int32) (t0 : Nat) (t1 : Nat) (M : aM) : Prop := w_Mo_say (fun M1 => K37 k0 v1 (v3 + (-1 : Int32)) ((0 : Int32)) M1) t0 t1 M
theorem g_Mo_sayExpression_J110 {d w : Nat} (hd : 8 ≤ d) (hw : 246 ≤ w) {post : aM → Prop} {K37 : Nat → Int32 → Int32 → Int32 → aM → Prop} (hK37 : ∀ (k0 : Nat) (v1 : Int32) (v3 : Int32) (v4 : Int32) (o2 o5 o6 o7 o8 o9 : Option aV) (M : aM), K37 k0 v1 v3 v4 M → Gd d w 224 (pV post) (37, [some (aR 21 k0), some (aI v1), o2, some (aI v3), some (aI v4), o5, o6, o7, o8, o9], [], M)) (k0 : Nat) (v1 : Int32) (v3 : Int32) (t0 : Nat) (t1 : Nat) (o2 o4 o5 o6 o7 o8 o9 : Option aV) (M : aM) (h : w_Mo_sayExpression_J110 post K37 k0 v1 v3 t0 t1 M) : Gd d w 224 (pV post) (110, [some (aR 21 k0), some (aI v1), o2, some (aI v3), o4, o5, o6, o7, o8, o9], [aR 1 t1, aR 21 t0], M) := by
  unfold w_Mo_sayExpression_J110 at h
  show Gd d w 224 _ (110, [some (aR 21 k0), some (aI v1), o2, some (aI v3), o4, o5, o6, o7, o8, o9], [aR 1 t1, aR 21 t0], M)
  refine gd_callN (ml := 3) (as := [aR 21 t0, aR 1 t1]) (rest := []) tc_224 rfl rfl rfl rfl rfl (by omega) (by omega) (Nat.le_of_ble_eq_true rfl) rfl (g_Mo_say (by omega) (by omega) h) (fun r9 M1 h => ?_)
  obtain ⟨rfl, h⟩ := h
  show Gd d w 224 _ (113, [some (aR 21 k0), some (aI v1), o2, some (aI v3), o4, o5, o6, o7, o8, o9], [], M1)
  refine gd_s (P := True ∧ True ∧ True ∧ True ∧ True ∧ True ∧ True) (σ1 := (37, [some (aR 21 k0), some (aI v1), o2, some (aI (v3 + (-1 : Int32))), some (aI ((0 : Int32))), o5, o6, o7, o8, o9], [], M1)) tc_224 rfl 6 (fun u => ⟨_, rfl⟩) ⟨trivial, trivial, trivial, trivial, trivial, trivial, trivial⟩ ?_
  exact hK37 k0 v1 (v3 + (-1 : Int32)) ((0 : Int32)) o2 o5 o6 o7 o8 o9 M1 h
def w_Mo_sayExpression_L37 (post : aM → Prop) : Nat → Nat → Int32 → Int32 → Int32 → aM → Prop
  | 0, _, _, _, _, _ => False
  | n + 1, k0, v1, v3, v4, M => ((v3 ≤ ((0 : Int32))) → post M) ∧ (¬ (v3 ≤ ((0 : Int32))) → (vp_in (v3 - ((1 : Int32))) (rK M (k0 + 48)).2) ∧ (vp_in ((((400 : Int32)) * v1) + (rI M (k0 + 48) (v3 - ((1 : Int32))).toNatClampNeg)) (rK M (k0 + 16)).2) ∧ (((((12 : Int32)) ≤ (rI M (k0 + 16) ((((400 : Int32)) * v1) + (rI M (k0 + 48) (v3 - ((1 : Int32))).toNatClampNeg)).toNatClampNeg)) → ((v4 = ((0 : Int32))) → w_Mo_sayExpression_J153 post (w_Mo_sayExpression_L37 post n) k0 v1 v3 v4 (v3 - ((1 : Int32))) (rI M (k0 + 16) ((((400 : Int32)) * v1) + (rI M (k0 + 48) (v3 - ((1 : Int32))).toNatClampNeg)).toNatClampNeg) M) ∧ (¬ (v4 = ((0 : Int32))) → (vp_in (v3 - ((1 : Int32))) (rK M (k0 + 49)).2) ∧ ((((rI M (k0 + 49) (v3 - ((1 : Int32))).toNatClampNeg) = ((0 : Int32))) → w_Mo_sayExpression_J153 post (w_Mo_sayExpression_L37 post n) k0 v1 v3 v4 (v3 - ((1 : Int32))) (rI M (k0 + 16) ((((400 : Int32)) * v1) + (rI M (k0 + 48) (v3 - ((1 : Int32))).toNatClampNeg)).toNatClampNeg) M) ∧ (¬ ((rI M (k0 + 49) (v3 - ((1 : Int32))).toNatClampNeg) = ((0 : Int32))) → w_Mo_put (fun M1 => w_Mo_sayExpression_J153 post (w_Mo_sayExpression_L37 post n) k0 v1 v3 v4 (v3 - ((1 : Int32))) (rI M (k0 + 16) ((((400 : Int32)) * v1) + (rI M (k0 + 48) (v3 - ((1 : Int32))).toNatClampNeg)).toNatClampNeg) M1) k0 ((40 : Int32)) M)))) ∧ (¬ (((12 : Int32)) ≤ (rI M (k0 + 16) ((((400 : Int32)) * v1) + (rI M (k0 + 48) (v3 - ((1 : Int32))).toNatClampNeg)).toNatClampNeg)) → ((((2 : Int32)) < (rI M (k0 + 16) ((((400 : Int32)) * v1) + (rI M (k0 + 48) (v3 - ((1 : Int32))).toNatClampNeg)).toNatClampNeg)) → w_Mo_sayTest (fun M2 => w_Mo_sayExpression_L37 post n k0 v1 (v3 + (-1 : Int32)) ((0 : Int32)) M2) k0 v1 ((((400 : Int32)) * v1) + (rI M (k0 + 48) (v3 - ((1 : Int32))).toNatClampNeg)) M) ∧ (¬ (((2 : Int32)) < (rI M (k0 + 16) ((((400 : Int32)) * v1) + (rI M (k0 + 48) (v3 - ((1 : Int32))).toNatClampNeg)).toNatClampNeg)) → ((¬ (rI M (k0 + 16) ((((400 : Int32)) * v1) + (rI M (k0 + 48) (v3 - ((1 : Int32))).toNatClampNeg)).toNatClampNeg) = ((0 : Int32))) → ((¬ (rI M (k0 + 16) ((((400 : Int32)) * v1) + (rI M (k0 + 48) (v3 - ((1 : Int32))).toNatClampNeg)).toNatClampNeg) = ((1 : Int32))) → w_Mo_sayExpression_J110 post (w_Mo_sayExpression_L37 post n) k0 v1 v3 k0 44 M) ∧ (¬ (¬ (rI M (k0 + 16) ((((400 : Int32)) * v1) + (rI M (k0 + 48) (v3 - ((1 : Int32))).toNatClampNeg)).toNatClampNeg) = ((1 : Int32))) → w_Mo_sayExpression_J110 post (w_Mo_sayExpression_L37 post n) k0 v1 v3 k0 43 M)) ∧ (¬ (¬ (rI M (k0 + 16) ((((400 : Int32)) * v1) + (rI M (k0 + 48) (v3 - ((1 : Int32))).toNatClampNeg)).toNatClampNeg) = ((0 : Int32))) → w_Mo_sayExpression_J110 post (w_Mo_sayExpression_L37 post n) k0 v1 v3 k0 42 M)))))
theorem g_Mo_sayExpression_L37 {d w : Nat} (hd : 8 ≤ d) (hw : 246 ≤ w) {post : aM → Prop} : ∀ (n : Nat) (k0 : Nat) (v1 : Int32) (v3 : Int32) (v4 : Int32) (o2 o5 o6 o7 o8 o9 : Option aV) (M : aM), w_Mo_sayExpression_L37 post n k0 v1 v3 v4 M → Gd d w 224 (pV post) (37, [some (aR 21 k0), some (aI v1), o2, some (aI v3), some (aI v4), o5, o6, o7, o8, o9], [], M) := by
  intro n
  induction n with
  | zero => intro k0 v1 v3 v4 o2 o5 o6 o7 o8 o9 M h; exact h.elim
  | succ n ih =>
    intro k0 v1 v3 v4 o2 o5 o6 o7 o8 o9 M h
    show Gd d w 224 _ (37, [some (aR 21 k0), some (aI v1), o2, some (aI v3), some (aI v4), o5, o6, o7, o8, o9], [], M)
    refine gd_s (P := True ∧ True) (σ1 := (38, [some (aR 21 k0), some (aI v1), o2, some (aI v3), some (aI v4), o5, o6, o7, o8, o9], [aI v3], M)) tc_224 rfl 1 (fun u => ⟨_, rfl⟩) ⟨trivial, trivial⟩ ?_
    refine gd_br (c := v3 ≤ ((0 : Int32))) (st1 := []) tc_224 rfl rfl (fun _ => rfl) ⟨fun hc => ?_, fun hc => ?_⟩
    · have h := h.1 hc
      show Gd d w 224 _ (321, [some (aR 21 k0), some (aI v1), o2, some (aI v3), some (aI v4), o5, o6, o7, o8, o9], [], M)
      exact gd_ret tc_224 rfl rfl trivial (fun _ => rfl) ⟨rfl, h⟩
    · have h := h.2 hc
      show Gd d w 224 _ (41, [some (aR 21 k0), some (aI v1), o2, some (aI v3), some (aI v4), o5, o6, o7, o8, o9], [], M)
      obtain ⟨c0, c1, h⟩ := h
      refine gd_s (P := True ∧ True ∧ True ∧ True ∧ True ∧ True ∧ True ∧ True ∧ True ∧ True ∧ (vp_in (v3 - ((1 : Int32))) (rK M (k0 + 48)).2) ∧ True ∧ True ∧ True ∧ True ∧ True ∧ (vp_in ((((400 : Int32)) * v1) + (rI M (k0 + 48) (v3 - ((1 : Int32))).toNatClampNeg)) (rK M (k0 + 16)).2) ∧ True ∧ True ∧ True ∧ True) (σ1 := (74, [some (aR 21 k0), some (aI v1), o2, some (aI v3), some (aI v4), some (aI (v3 - ((1 : Int32)))), some (aI ((((400 : Int32)) * v1) + (rI M (k0 + 48) (v3 - ((1 : Int32))).toNatClampNeg))), some (aI (rI M (k0 + 16) ((((400 : Int32)) * v1) + (rI M (k0 + 48) (v3 - ((1 : Int32))).toNatClampNeg)).toNatClampNeg)), o8, o9], [aI ((12 : Int32)), aI (rI M (k0 + 16) ((((400 : Int32)) * v1) + (rI M (k0 + 48) (v3 - ((1 : Int32))).toNatClampNeg)).toNatClampNeg)], M)) tc_224 rfl 20 (fun u => ⟨_, rfl⟩) ⟨trivial, trivial, trivial, trivial, trivial, trivial, trivial, trivial, trivial, trivial, c0, trivial, trivial, trivial, trivial, trivial, c1, trivial, trivial, trivial, trivial⟩ ?_
      refine gd_br (c := ((12 : Int32)) ≤ (rI M (k0 + 16) ((((400 : Int32)) * v1) + (rI M (k0 + 48) (v3 - ((1 : Int32))).toNatClampNeg)).toNatClampNeg)) (st1 := []) tc_224 rfl rfl (fun _ => rfl) ⟨fun hc => ?_, fun hc => ?_⟩
      · have h := h.1 hc
        show Gd d w 224 _ (132, [some (aR 21 k0), some (aI v1), o2, some (aI v3), some (aI v4), some (aI (v3 - ((1 : Int32)))), some (aI ((((400 : Int32)) * v1) + (rI M (k0 + 48) (v3 - ((1 : Int32))).toNatClampNeg))), some (aI (rI M (k0 + 16) ((((400 : Int32)) * v1) + (rI M (k0 + 48) (v3 - ((1 : Int32))).toNatClampNeg)).toNatClampNeg)), o8, o9], [], M)
        refine gd_s (P := True ∧ True) (σ1 := (134, [some (aR 21 k0), some (aI v1), o2, some (aI v3), some (aI v4), some (aI (v3 - ((1 : Int32)))), some (aI ((((400 : Int32)) * v1) + (rI M (k0 + 48) (v3 - ((1 : Int32))).toNatClampNeg))), some (aI (rI M (k0 + 16) ((((400 : Int32)) * v1) + (rI M (k0 + 48) (v3 - ((1 : Int32))).toNatClampNeg)).toNatClampNeg)), o8, o9], [aI v4], M)) tc_224 rfl 1 (fun u => ⟨_, rfl⟩) ⟨trivial, trivial⟩ ?_
        refine gd_br (c := v4 = ((0 : Int32))) (st1 := []) tc_224 rfl rfl (fun _ => rfl) ⟨fun hc => ?_, fun hc => ?_⟩
        · have h := h.1 hc
          exact g_Mo_sayExpression_J153 hd hw ih k0 v1 v3 v4 (v3 - ((1 : Int32))) (rI M (k0 + 16) ((((400 : Int32)) * v1) + (rI M (k0 + 48) (v3 - ((1 : Int32))).toNatClampNeg)).toNatClampNeg) o2 (some (aI ((((400 : Int32)) * v1) + (rI M (k0 + 48) (v3 - ((1 : Int32))).toNatClampNeg)))) o8 o9 M h
        · have h := h.2 hc
          show Gd d w 224 _ (137, [some (aR 21 k0), some (aI v1), o2, some (aI v3), some (aI v4), some (aI (v3 - ((1 : Int32)))), some (aI ((((400 : Int32)) * v1) + (rI M (k0 + 48) (v3 - ((1 : Int32))).toNatClampNeg))), some (aI (rI M (k0 + 16) ((((400 : Int32)) * v1) + (rI M (k0 + 48) (v3 - ((1 : Int32))).toNatClampNeg)).toNatClampNeg)), o8, o9], [], M)
          obtain ⟨c0, h⟩ := h
          refine gd_s (P := True ∧ True ∧ True ∧ (vp_in (v3 - ((1 : Int32))) (rK M (k0 + 49)).2) ∧ True) (σ1 := (144, [some (aR 21 k0), some (aI v1), o2, some (aI v3), some (aI v4), some (aI (v3 - ((1 : Int32)))), some (aI ((((400 : Int32)) * v1) + (rI M (k0 + 48) (v3 - ((1 : Int32))).toNatClampNeg))), some (aI (rI M (k0 + 16) ((((400 : Int32)) * v1) + (rI M (k0 + 48) (v3 - ((1 : Int32))).toNatClampNeg)).toNatClampNeg)), o8, o9], [aI (rI M (k0 + 49) (v3 - ((1 : Int32))).toNatClampNeg)], M)) tc_224 rfl 4 (fun u => ⟨_, rfl⟩) ⟨trivial, trivial, trivial, c0, trivial⟩ ?_
          refine gd_br (c := (rI M (k0 + 49) (v3 - ((1 : Int32))).toNatClampNeg) = ((0 : Int32))) (st1 := []) tc_224 rfl rfl (fun _ => rfl) ⟨fun hc => ?_, fun hc => ?_⟩
          · have h := h.1 hc
            exact g_Mo_sayExpression_J153 hd hw ih k0 v1 v3 v4 (v3 - ((1 : Int32))) (rI M (k0 + 16) ((((400 : Int32)) * v1) + (rI M (k0 + 48) (v3 - ((1 : Int32))).toNatClampNeg)).toNatClampNeg) o2 (some (aI ((((400 : Int32)) * v1) + (rI M (k0 + 48) (v3 - ((1 : Int32))).toNatClampNeg)))) o8 o9 M h
          · have h := h.2 hc
            show Gd d w 224 _ (147, [some (aR 21 k0), some (aI v1), o2, some (aI v3), some (aI v4), some (aI (v3 - ((1 : Int32)))), some (aI ((((400 : Int32)) * v1) + (rI M (k0 + 48) (v3 - ((1 : Int32))).toNatClampNeg))), some (aI (rI M (k0 + 16) ((((400 : Int32)) * v1) + (rI M (k0 + 48) (v3 - ((1 : Int32))).toNatClampNeg)).toNatClampNeg)), o8, o9], [], M)
            refine gd_s (P := True ∧ True ∧ True) (σ1 := (150, [some (aR 21 k0), some (aI v1), o2, some (aI v3), some (aI v4), some (aI (v3 - ((1 : Int32)))), some (aI ((((400 : Int32)) * v1) + (rI M (k0 + 48) (v3 - ((1 : Int32))).toNatClampNeg))), some (aI (rI M (k0 + 16) ((((400 : Int32)) * v1) + (rI M (k0 + 48) (v3 - ((1 : Int32))).toNatClampNeg)).toNatClampNeg)), o8, o9], [aI ((40 : Int32)), aR 21 k0], M)) tc_224 rfl 2 (fun u => ⟨_, rfl⟩) ⟨trivial, trivial, trivial⟩ ?_
            refine gd_callN (ml := 2) (as := [aR 21 k0, aI ((40 : Int32))]) (rest := []) tc_224 rfl rfl rfl rfl rfl (by omega) (by omega) (Nat.le_of_ble_eq_true rfl) rfl (g_Mo_put (by omega) (by omega) h) (fun r9 M1 h => ?_)
            obtain ⟨rfl, h⟩ := h
            exact g_Mo_sayExpression_J153 hd hw ih k0 v1 v3 v4 (v3 - ((1 : Int32))) (rI M (k0 + 16) ((((400 : Int32)) * v1) + (rI M (k0 + 48) (v3 - ((1 : Int32))).toNatClampNeg)).toNatClampNeg) o2 (some (aI ((((400 : Int32)) * v1) + (rI M (k0 + 48) (v3 - ((1 : Int32))).toNatClampNeg)))) o8 o9 M1 h
      · have h := h.2 hc
        show Gd d w 224 _ (77, [some (aR 21 k0), some (aI v1), o2, some (aI v3), some (aI v4), some (aI (v3 - ((1 : Int32)))), some (aI ((((400 : Int32)) * v1) + (rI M (k0 + 48) (v3 - ((1 : Int32))).toNatClampNeg))), some (aI (rI M (k0 + 16) ((((400 : Int32)) * v1) + (rI M (k0 + 48) (v3 - ((1 : Int32))).toNatClampNeg)).toNatClampNeg)), o8, o9], [], M)
        refine gd_s (P := True ∧ True ∧ True) (σ1 := (80, [some (aR 21 k0), some (aI v1), o2, some (aI v3), some (aI v4), some (aI (v3 - ((1 : Int32)))), some (aI ((((400 : Int32)) * v1) + (rI M (k0 + 48) (v3 - ((1 : Int32))).toNatClampNeg))), some (aI (rI M (k0 + 16) ((((400 : Int32)) * v1) + (rI M (k0 + 48) (v3 - ((1 : Int32))).toNatClampNeg)).toNatClampNeg)), o8, o9], [aI ((2 : Int32)), aI (rI M (k0 + 16) ((((400 : Int32)) * v1) + (rI M (k0 + 48) (v3 - ((1 : Int32))).toNatClampNeg)).toNatClampNeg)], M)) tc_224 rfl 2 (fun u => ⟨_, rfl⟩) ⟨trivial, trivial, trivial⟩ ?_
        refine gd_br (c := ((2 : Int32)) < (rI M (k0 + 16) ((((400 : Int32)) * v1) + (rI M (k0 + 48) (v3 - ((1 : Int32))).toNatClampNeg)).toNatClampNeg)) (st1 := []) tc_224 rfl rfl (fun _ => rfl) ⟨fun hc => ?_, fun hc => ?_⟩
        · have h := h.1 hc
          show Gd d w 224 _ (116, [some (aR 21 k0), some (aI v1), o2, some (aI v3), some (aI v4), some (aI (v3 - ((1 : Int32)))), some (aI ((((400 : Int32)) * v1) + (rI M (k0 + 48) (v3 - ((1 : Int32))).toNatClampNeg))), some (aI (rI M (k0 + 16) ((((400 : Int32)) * v1) + (rI M (k0 + 48) (v3 - ((1 : Int32))).toNatClampNeg)).toNatClampNeg)), o8, o9], [], M)
          refine gd_s (P := True ∧ True ∧ True ∧ True) (σ1 := (120, [some (aR 21 k0), some (aI v1), o2, some (aI v3), some (aI v4), some (aI (v3 - ((1 : Int32)))), some (aI ((((400 : Int32)) * v1) + (rI M (k0 + 48) (v3 - ((1 : Int32))).toNatClampNeg))), some (aI (rI M (k0 + 16) ((((400 : Int32)) * v1) + (rI M (k0 + 48) (v3 - ((1 : Int32))).toNatClampNeg)).toNatClampNeg)), o8, o9], [aI ((((400 : Int32)) * v1) + (rI M (k0 + 48) (v3 - ((1 : Int32))).toNatClampNeg)), aI v1, aR 21 k0], M)) tc_224 rfl 3 (fun u => ⟨_, rfl⟩) ⟨trivial, trivial, trivial, trivial⟩ ?_
          refine gd_callN (ml := 5) (as := [aR 21 k0, aI v1, aI ((((400 : Int32)) * v1) + (rI M (k0 + 48) (v3 - ((1 : Int32))).toNatClampNeg))]) (rest := []) tc_224 rfl rfl rfl rfl rfl (by omega) (by omega) (Nat.le_of_ble_eq_true rfl) rfl (g_Mo_sayTest (by omega) (by omega) h) (fun r9 M2 h => ?_)
          obtain ⟨rfl, h⟩ := h
          show Gd d w 224 _ (123, [some (aR 21 k0), some (aI v1), o2, some (aI v3), some (aI v4), some (aI (v3 - ((1 : Int32)))), some (aI ((((400 : Int32)) * v1) + (rI M (k0 + 48) (v3 - ((1 : Int32))).toNatClampNeg))), some (aI (rI M (k0 + 16) ((((400 : Int32)) * v1) + (rI M (k0 + 48) (v3 - ((1 : Int32))).toNatClampNeg)).toNatClampNeg)), o8, o9], [], M2)
          refine gd_s (P := True ∧ True ∧ True ∧ True ∧ True ∧ True) (σ1 := (37, [some (aR 21 k0), some (aI v1), o2, some (aI (v3 + (-1 : Int32))), some (aI ((0 : Int32))), some (aI (v3 - ((1 : Int32)))), some (aI ((((400 : Int32)) * v1) + (rI M (k0 + 48) (v3 - ((1 : Int32))).toNatClampNeg))), some (aI (rI M (k0 + 16) ((((400 : Int32)) * v1) + (rI M (k0 + 48) (v3 - ((1 : Int32))).toNatClampNeg)).toNatClampNeg)), o8, o9], [], M2)) tc_224 rfl 5 (fun u => ⟨_, rfl⟩) ⟨trivial, trivial, trivial, trivial, trivial, trivial⟩ ?_
          exact ih k0 v1 (v3 + (-1 : Int32)) ((0 : Int32)) o2 (some (aI (v3 - ((1 : Int32))))) (some (aI ((((400 : Int32)) * v1) + (rI M (k0 + 48) (v3 - ((1 : Int32))).toNatClampNeg)))) (some (aI (rI M (k0 + 16) ((((400 : Int32)) * v1) + (rI M (k0 + 48) (v3 - ((1 : Int32))).toNatClampNeg)).toNatClampNeg))) o8 o9 M2 h
        · have h := h.2 hc
          show Gd d w 224 _ (83, [some (aR 21 k0), some (aI v1), o2, some (aI v3), some (aI v4), some (aI (v3 - ((1 : Int32)))), some (aI ((((400 : Int32)) * v1) + (rI M (k0 + 48) (v3 - ((1 : Int32))).toNatClampNeg))), some (aI (rI M (k0 + 16) ((((400 : Int32)) * v1) + (rI M (k0 + 48) (v3 - ((1 : Int32))).toNatClampNeg)).toNatClampNeg)), o8, o9], [], M)
          refine gd_s (P := True ∧ True ∧ True) (σ1 := (86, [some (aR 21 k0), some (aI v1), o2, some (aI v3), some (aI v4), some (aI (v3 - ((1 : Int32)))), some (aI ((((400 : Int32)) * v1) + (rI M (k0 + 48) (v3 - ((1 : Int32))).toNatClampNeg))), some (aI (rI M (k0 + 16) ((((400 : Int32)) * v1) + (rI M (k0 + 48) (v3 - ((1 : Int32))).toNatClampNeg)).toNatClampNeg)), o8, o9], [aI (rI M (k0 + 16) ((((400 : Int32)) * v1) + (rI M (k0 + 48) (v3 - ((1 : Int32))).toNatClampNeg)).toNatClampNeg), aR 21 k0], M)) tc_224 rfl 2 (fun u => ⟨_, rfl⟩) ⟨trivial, trivial, trivial⟩ ?_
          refine gd_br (c := ¬ (rI M (k0 + 16) ((((400 : Int32)) * v1) + (rI M (k0 + 48) (v3 - ((1 : Int32))).toNatClampNeg)).toNatClampNeg) = ((0 : Int32))) (st1 := [aR 21 k0]) tc_224 rfl rfl (fun _ => rfl) ⟨fun hc => ?_, fun hc => ?_⟩
          · have h := h.1 hc
            show Gd d w 224 _ (95, [some (aR 21 k0), some (aI v1), o2, some (aI v3), some (aI v4), some (aI (v3 - ((1 : Int32)))), some (aI ((((400 : Int32)) * v1) + (rI M (k0 + 48) (v3 - ((1 : Int32))).toNatClampNeg))), some (aI (rI M (k0 + 16) ((((400 : Int32)) * v1) + (rI M (k0 + 48) (v3 - ((1 : Int32))).toNatClampNeg)).toNatClampNeg)), o8, o9], [aR 21 k0], M)
            refine gd_s (P := True ∧ True ∧ True) (σ1 := (98, [some (aR 21 k0), some (aI v1), o2, some (aI v3), some (aI v4), some (aI (v3 - ((1 : Int32)))), some (aI ((((400 : Int32)) * v1) + (rI M (k0 + 48) (v3 - ((1 : Int32))).toNatClampNeg))), some (aI (rI M (k0 + 16) ((((400 : Int32)) * v1) + (rI M (k0 + 48) (v3 - ((1 : Int32))).toNatClampNeg)).toNatClampNeg)), o8, o9], [aI ((1 : Int32)), aI (rI M (k0 + 16) ((((400 : Int32)) * v1) + (rI M (k0 + 48) (v3 - ((1 : Int32))).toNatClampNeg)).toNatClampNeg), aR 21 k0], M)) tc_224 rfl 2 (fun u => ⟨_, rfl⟩) ⟨trivial, trivial, trivial⟩ ?_
            refine gd_br (c := ¬ (rI M (k0 + 16) ((((400 : Int32)) * v1) + (rI M (k0 + 48) (v3 - ((1 : Int32))).toNatClampNeg)).toNatClampNeg) = ((1 : Int32))) (st1 := [aR 21 k0]) tc_224 rfl rfl (fun _ => rfl) ⟨fun hc => ?_, fun hc => ?_⟩
            · have h := h.1 hc
              show Gd d w 224 _ (107, [some (aR 21 k0), some (aI v1), o2, some (aI v3), some (aI v4), some (aI (v3 - ((1 : Int32)))), some (aI ((((400 : Int32)) * v1) + (rI M (k0 + 48) (v3 - ((1 : Int32))).toNatClampNeg))), some (aI (rI M (k0 + 16) ((((400 : Int32)) * v1) + (rI M (k0 + 48) (v3 - ((1 : Int32))).toNatClampNeg)).toNatClampNeg)), o8, o9], [aR 21 k0], M)
              refine gd_s (P := True ∧ True) (σ1 := (110, [some (aR 21 k0), some (aI v1), o2, some (aI v3), some (aI v4), some (aI (v3 - ((1 : Int32)))), some (aI ((((400 : Int32)) * v1) + (rI M (k0 + 48) (v3 - ((1 : Int32))).toNatClampNeg))), some (aI (rI M (k0 + 16) ((((400 : Int32)) * v1) + (rI M (k0 + 48) (v3 - ((1 : Int32))).toNatClampNeg)).toNatClampNeg)), o8, o9], [aR 1 44, aR 21 k0], M)) tc_224 rfl 1 (fun u => ⟨_, rfl⟩) ⟨trivial, trivial⟩ ?_
              exact g_Mo_sayExpression_J110 hd hw ih k0 v1 v3 k0 44 o2 (some (aI v4)) (some (aI (v3 - ((1 : Int32))))) (some (aI ((((400 : Int32)) * v1) + (rI M (k0 + 48) (v3 - ((1 : Int32))).toNatClampNeg)))) (some (aI (rI M (k0 + 16) ((((400 : Int32)) * v1) + (rI M (k0 + 48) (v3 - ((1 : Int32))).toNatClampNeg)).toNatClampNeg))) o8 o9 M h
            · have h := h.2 hc
              show Gd d w 224 _ (101, [some (aR 21 k0), some (aI v1), o2, some (aI v3), some (aI v4), some (aI (v3 - ((1 : Int32)))), some (aI ((((400 : Int32)) * v1) + (rI M (k0 + 48) (v3 - ((1 : Int32))).toNatClampNeg))), some (aI (rI M (k0 + 16) ((((400 : Int32)) * v1) + (rI M (k0 + 48) (v3 - ((1 : Int32))).toNatClampNeg)).toNatClampNeg)), o8, o9], [aR 21 k0], M)
              refine gd_s (P := True ∧ True ∧ True) (σ1 := (110, [some (aR 21 k0), some (aI v1), o2, some (aI v3), some (aI v4), some (aI (v3 - ((1 : Int32)))), some (aI ((((400 : Int32)) * v1) + (rI M (k0 + 48) (v3 - ((1 : Int32))).toNatClampNeg))), some (aI (rI M (k0 + 16) ((((400 : Int32)) * v1) + (rI M (k0 + 48) (v3 - ((1 : Int32))).toNatClampNeg)).toNatClampNeg)), o8, o9], [aR 1 43, aR 21 k0], M)) tc_224 rfl 2 (fun u => ⟨_, rfl⟩) ⟨trivial, trivial, trivial⟩ ?_
              exact g_Mo_sayExpression_J110 hd hw ih k0 v1 v3 k0 43 o2 (some (aI v4)) (some (aI (v3 - ((1 : Int32))))) (some (aI ((((400 : Int32)) * v1) + (rI M (k0 + 48) (v3 - ((1 : Int32))).toNatClampNeg)))) (some (aI (rI M (k0 + 16) ((((400 : Int32)) * v1) + (rI M (k0 + 48) (v3 - ((1 : Int32))).toNatClampNeg)).toNatClampNeg))) o8 o9 M h
          · have h := h.2 hc
            show Gd d w 224 _ (89, [some (aR 21 k0), some (aI v1), o2, some (aI v3), some (aI v4), some (aI (v3 - ((1 : Int32)))), some (aI ((((400 : Int32)) * v1) + (rI M (k0 + 48) (v3 - ((1 : Int32))).toNatClampNeg))), some (aI (rI M (k0 + 16) ((((400 : Int32)) * v1) + (rI M (k0 + 48) (v3 - ((1 : Int32))).toNatClampNeg)).toNatClampNeg)), o8, o9], [aR 21 k0], M)
            refine gd_s (P := True ∧ True ∧ True) (σ1 := (110, [some (aR 21 k0), some (aI v1), o2, some (aI v3), some (aI v4), some (aI (v3 - ((1 : Int32)))), some (aI ((((400 : Int32)) * v1) + (rI M (k0 + 48) (v3 - ((1 : Int32))).toNatClampNeg))), some (aI (rI M (k0 + 16) ((((400 : Int32)) * v1) + (rI M (k0 + 48) (v3 - ((1 : Int32))).toNatClampNeg)).toNatClampNeg)), o8, o9], [aR 1 42, aR 21 k0], M)) tc_224 rfl 2 (fun u => ⟨_, rfl⟩) ⟨trivial, trivial, trivial⟩ ?_
            exact g_Mo_sayExpression_J110 hd hw ih k0 v1 v3 k0 42 o2 (some (aI v4)) (some (aI (v3 - ((1 : Int32))))) (some (aI ((((400 : Int32)) * v1) + (rI M (k0 + 48) (v3 - ((1 : Int32))).toNatClampNeg)))) (some (aI (rI M (k0 + 16) ((((400 : Int32)) * v1) + (rI M (k0 + 48) (v3 - ((1 : Int32))).toNatClampNeg)).toNatClampNeg))) o8 o9 M h
def w_Mo_sayExpression_J34 (post : aM → Prop) (k0 : Nat) (v1 : Int32) (v3 : Int32) (M : aM) : Prop := ∃ n9, w_Mo_sayExpression_L37 post n9 k0 v1 v3 ((1 : Int32)) M
theorem g_Mo_sayExpression_J34 {d w : Nat} (hd : 8 ≤ d) (hw : 246 ≤ w) {post : aM → Prop} (k0 : Nat) (v1 : Int32) (v3 : Int32) (o2 o4 o5 o6 o7 o8 o9 : Option aV) (M : aM) (h : w_Mo_sayExpression_J34 post k0 v1 v3 M) : Gd d w 224 (pV post) (34, [some (aR 21 k0), some (aI v1), o2, some (aI v3), o4, o5, o6, o7, o8, o9], [], M) := by
  unfold w_Mo_sayExpression_J34 at h
  show Gd d w 224 _ (34, [some (aR 21 k0), some (aI v1), o2, some (aI v3), o4, o5, o6, o7, o8, o9], [], M)
  refine gd_s (P := True ∧ True ∧ True) (σ1 := (37, [some (aR 21 k0), some (aI v1), o2, some (aI v3), some (aI ((1 : Int32))), o5, o6, o7, o8, o9], [], M)) tc_224 rfl 2 (fun u => ⟨_, rfl⟩) ⟨trivial, trivial, trivial⟩ ?_
  obtain ⟨n9, h⟩ := h
  exact g_Mo_sayExpression_L37 hd hw n9 k0 v1 v3 ((1 : Int32)) o2 o5 o6 o7 o8 o9 M h
def w_Mo_sayExpression_J16 (post : aM → Prop) (k0 : Nat) (v1 : Int32) (v2 : Int32) (v3 : Int32) (M : aM) : Prop := (vp_in ((((400 : Int32)) * v1) + v2) (rK M (k0 + 20)).2) ∧ (vp_in ((0 : Int32)) (rK M (k0 + 50)).2) ∧ (w_Mo_sayExpression_J34 post k0 v1 v3 (wI M (k0 + 50) ((0 : Int32)).toNatClampNeg (rI M (k0 + 20) ((((400 : Int32)) * v1) + v2).toNatClampNeg)))
theorem g_Mo_sayExpression_J16 {d w : Nat} (hd : 8 ≤ d) (hw : 246 ≤ w) {post : aM → Prop} (k0 : Nat) (v1 : Int32) (v2 : Int32) (v3 : Int32) (o4 o5 o6 o7 o8 o9 : Option aV) (M : aM) (h : w_Mo_sayExpression_J16 post k0 v1 v2 v3 M) : Gd d w 224 (pV post) (16, [some (aR 21 k0), some (aI v1), some (aI v2), some (aI v3), o4, o5, o6, o7, o8, o9], [], M) := by
  unfold w_Mo_sayExpression_J16 at h
  show Gd d w 224 _ (16, [some (aR 21 k0), some (aI v1), some (aI v2), some (aI v3), o4, o5, o6, o7, o8, o9], [], M)
  obtain ⟨c0, c1, h⟩ := h
  refine gd_s (P := True ∧ True ∧ True ∧ True ∧ True ∧ True ∧ True ∧ True ∧ True ∧ True ∧ (vp_in ((((400 : Int32)) * v1) + v2) (rK M (k0 + 20)).2) ∧ (vp_in ((0 : Int32)) (rK M (k0 + 50)).2) ∧ True) (σ1 := (34, [some (aR 21 k0), some (aI v1), some (aI v2), some (aI v3), o4, o5, o6, o7, o8, o9], [], wI M (k0 + 50) ((0 : Int32)).toNatClampNeg (rI M (k0 + 20) ((((400 : Int32)) * v1) + v2).toNatClampNeg))) tc_224 rfl 12 (fun u => ⟨_, rfl⟩) ⟨trivial, trivial, trivial, trivial, trivial, trivial, trivial, trivial, trivial, trivial, c0, c1, trivial⟩ ?_
  exact g_Mo_sayExpression_J34 hd hw k0 v1 v3 (some (aI v2)) o4 o5 o6 o7 o8 o9 (wI M (k0 + 50) ((0 : Int32)).toNatClampNeg (rI M (k0 + 20) ((((400 : Int32)) * v1) + v2).toNatClampNeg)) h
def w_Mo_sayExpression_J9 (post : aM → Prop) (k0 : Nat) (v1 : Int32) (v2 : Int32) (v3 : Int32) (M : aM) : Prop := (vp_in ((0 : Int32)) (rK M (k0 + 49)).2 ∧ (((0 : Int32)) = 0 ∨ ((0 : Int32)) = 1)) ∧ (w_Mo_sayExpression_J16 post k0 v1 v2 v3 (wI M (k0 + 49) ((0 : Int32)).toNatClampNeg ((0 : Int32))))
theorem g_Mo_sayExpression_J9 {d w : Nat} (hd : 8 ≤ d) (hw : 246 ≤ w) {post : aM → Prop} (k0 : Nat) (v1 : Int32) (v2 : Int32) (v3 : Int32) (o4 o5 o6 o7 o8 o9 : Option aV) (M : aM) (h : w_Mo_sayExpression_J9 post k0 v1 v2 v3 M) : Gd d w 224 (pV post) (9, [some (aR 21 k0), some (aI v1), some (aI v2), some (aI v3), o4, o5, o6, o7, o8, o9], [], M) := by
  unfold w_Mo_sayExpression_J9 at h
  show Gd d w 224 _ (9, [some (aR 21 k0), some (aI v1), some (aI v2), some (aI v3), o4, o5, o6, o7, o8, o9], [], M)
  obtain ⟨c0, h⟩ := h
  refine gd_s (P := True ∧ True ∧ True ∧ True ∧ (vp_in ((0 : Int32)) (rK M (k0 + 49)).2 ∧ (((0 : Int32)) = 0 ∨ ((0 : Int32)) = 1)) ∧ True) (σ1 := (16, [some (aR 21 k0), some (aI v1), some (aI v2), some (aI v3), o4, o5, o6, o7, o8, o9], [], wI M (k0 + 49) ((0 : Int32)).toNatClampNeg ((0 : Int32)))) tc_224 rfl 5 (fun u => ⟨_, rfl⟩) ⟨trivial, trivial, trivial, trivial, c0, trivial⟩ ?_
  exact g_Mo_sayExpression_J16 hd hw k0 v1 v2 v3 o4 o5 o6 o7 o8 o9 (wI M (k0 + 49) ((0 : Int32)).toNatClampNeg ((0 : Int32))) h
/-- PolicyJudgeModel.sayExpression(II)V -/
def w_Mo_sayExpression (post : aM → Prop) (k0 : Nat) (v1 : Int32) (v2 : Int32) (M : aM) : Prop := (vp_in ((0 : Int32)) (rK M (k0 + 48)).2) ∧ (w_Mo_sayExpression_J9 post k0 v1 v2 ((1 : Int32)) (wI M (k0 + 48) ((0 : Int32)).toNatClampNeg v2))
theorem g_Mo_sayExpression {d w : Nat} (hd : 8 ≤ d) (hw : 246 ≤ w) {post : aM → Prop} {k0 : Nat} {v1 : Int32} {v2 : Int32} {M : aM} (h : w_Mo_sayExpression post k0 v1 v2 M) : Gd d w 224 (pV post) (0, aEnt 224 [aR 21 k0, aI v1, aI v2], [], M) := by
  unfold w_Mo_sayExpression at h
  show Gd d w 224 _ (0, [some (aR 21 k0), some (aI v1), some (aI v2), none, none, none, none, none, none, none], [], M)
  obtain ⟨c0, h⟩ := h
  refine gd_s (P := True ∧ True ∧ True ∧ True ∧ True ∧ True ∧ (vp_in ((0 : Int32)) (rK M (k0 + 48)).2) ∧ True) (σ1 := (9, [some (aR 21 k0), some (aI v1), some (aI v2), some (aI ((1 : Int32))), none, none, none, none, none, none], [], wI M (k0 + 48) ((0 : Int32)).toNatClampNeg v2)) tc_224 rfl 7 (fun u => ⟨_, rfl⟩) ⟨trivial, trivial, trivial, trivial, trivial, trivial, c0, trivial⟩ ?_
  exact g_Mo_sayExpression_J9 hd hw k0 v1 v2 ((1 : Int32)) none none none none none none (wI M (k0 + 48) ((0 : Int32)).toNatClampNeg v2) h
theorem tc_223 : tC 223 = c223 := rfl
/-- PolicyJudgeModel.sayFor(II)V -/
def w_Mo_sayFor (post : aM → Prop) (k0 : Nat) (v1 : Int32) (v2 : Int32) (M : aM) : Prop := (vp_in ((((100 : Int32)) * v1) + v2) (rK M (k0 + 14)).2) ∧ ((((rI M (k0 + 14) ((((100 : Int32)) * v1) + v2).toNatClampNeg) = ((-1 : Int32))) → post M) ∧ (¬ ((rI M (k0 + 14) ((((100 : Int32)) * v1) + v2).toNatClampNeg) = ((-1 : Int32))) → w_Mo_say (fun M1 => w_Mo_sayExpression (fun M2 => post M2) k0 v1 (rI M (k0 + 14) ((((100 : Int32)) * v1) + v2).toNatClampNeg) M1) k0 41 M))
theorem g_Mo_sayFor {d w : Nat} (hd : 9 ≤ d) (hw : 275 ≤ w) {post : aM → Prop} {k0 : Nat} {v1 : Int32} {v2 : Int32} {M : aM} (h : w_Mo_sayFor post k0 v1 v2 M) : Gd d w 223 (pV post) (0, aEnt 223 [aR 21 k0, aI v1, aI v2], [], M) := by
  unfold w_Mo_sayFor at h
  show Gd d w 223 _ (0, [some (aR 21 k0), some (aI v1), some (aI v2), none], [], M)
  obtain ⟨c0, h⟩ := h
  refine gd_s (P := True ∧ True ∧ True ∧ True ∧ True ∧ True ∧ True ∧ (vp_in ((((100 : Int32)) * v1) + v2) (rK M (k0 + 14)).2) ∧ True ∧ True ∧ True ∧ True) (σ1 := (14, [some (aR 21 k0), some (aI v1), some (aI v2), some (aI (rI M (k0 + 14) ((((100 : Int32)) * v1) + v2).toNatClampNeg))], [aI ((-1 : Int32)), aI (rI M (k0 + 14) ((((100 : Int32)) * v1) + v2).toNatClampNeg)], M)) tc_223 rfl 11 (fun u => ⟨_, rfl⟩) ⟨trivial, trivial, trivial, trivial, trivial, trivial, trivial, c0, trivial, trivial, trivial, trivial⟩ ?_
  refine gd_br (c := (rI M (k0 + 14) ((((100 : Int32)) * v1) + v2).toNatClampNeg) = ((-1 : Int32))) (st1 := []) tc_223 rfl rfl (fun _ => rfl) ⟨fun hc => ?_, fun hc => ?_⟩
  · have h := h.1 hc
    show Gd d w 223 _ (30, [some (aR 21 k0), some (aI v1), some (aI v2), some (aI (rI M (k0 + 14) ((((100 : Int32)) * v1) + v2).toNatClampNeg))], [], M)
    exact gd_ret tc_223 rfl rfl trivial (fun _ => rfl) ⟨rfl, h⟩
  · have h := h.2 hc
    show Gd d w 223 _ (17, [some (aR 21 k0), some (aI v1), some (aI v2), some (aI (rI M (k0 + 14) ((((100 : Int32)) * v1) + v2).toNatClampNeg))], [], M)
    refine gd_s (P := True ∧ True ∧ True) (σ1 := (21, [some (aR 21 k0), some (aI v1), some (aI v2), some (aI (rI M (k0 + 14) ((((100 : Int32)) * v1) + v2).toNatClampNeg))], [aR 1 41, aR 21 k0], M)) tc_223 rfl 2 (fun u => ⟨_, rfl⟩) ⟨trivial, trivial, trivial⟩ ?_
    refine gd_callN (ml := 3) (as := [aR 21 k0, aR 1 41]) (rest := []) tc_223 rfl rfl rfl rfl rfl (by omega) (by omega) (Nat.le_of_ble_eq_true rfl) rfl (g_Mo_say (by omega) (by omega) h) (fun r9 M1 h => ?_)
    obtain ⟨rfl, h⟩ := h
    show Gd d w 223 _ (24, [some (aR 21 k0), some (aI v1), some (aI v2), some (aI (rI M (k0 + 14) ((((100 : Int32)) * v1) + v2).toNatClampNeg))], [], M1)
    refine gd_s (P := True ∧ True ∧ True ∧ True) (σ1 := (27, [some (aR 21 k0), some (aI v1), some (aI v2), some (aI (rI M (k0 + 14) ((((100 : Int32)) * v1) + v2).toNatClampNeg))], [aI (rI M (k0 + 14) ((((100 : Int32)) * v1) + v2).toNatClampNeg), aI v1, aR 21 k0], M1)) tc_223 rfl 3 (fun u => ⟨_, rfl⟩) ⟨trivial, trivial, trivial, trivial⟩ ?_
    refine gd_callN (ml := 10) (as := [aR 21 k0, aI v1, aI (rI M (k0 + 14) ((((100 : Int32)) * v1) + v2).toNatClampNeg)]) (rest := []) tc_223 rfl rfl rfl rfl rfl (by omega) (by omega) (Nat.le_of_ble_eq_true rfl) rfl (g_Mo_sayExpression (by omega) (by omega) h) (fun r9 M2 h => ?_)
    obtain ⟨rfl, h⟩ := h
    show Gd d w 223 _ (30, [some (aR 21 k0), some (aI v1), some (aI v2), some (aI (rI M (k0 + 14) ((((100 : Int32)) * v1) + v2).toNatClampNeg))], [], M2)
    exact gd_ret tc_223 rfl rfl trivial (fun _ => rfl) ⟨rfl, h⟩
theorem tc_221 : tC 221 = c221 := rfl
def w_Mo_sayNode_J285 (post : aM → Prop) (K243 : Nat → Int32 → Int32 → Int32 → Int32 → aM → Prop) (k0 : Nat) (v1 : Int32) (v2 : Int32) (v7 : Int32) (t0 : Nat) (t1 : Nat) (M : aM) : Prop := w_Mo_say (fun M1 => (vp_in v7 (rK M1 (k0 + 27)).2) ∧ (w_Mo_sayNumber (fun M2 => K243 k0 v1 v2 ((1 : Int32)) (v7 + (1 : Int32)) M2) k0 (rI M1 (k0 + 27) v7.toNatClampNeg) M1)) t0 t1 M
theorem g_Mo_sayNode_J285 {d w : Nat} (hd : 10 ≤ d) (hw : 298 ≤ w) {post : aM → Prop} {K243 : Nat → Int32 → Int32 → Int32 → Int32 → aM → Prop} (hK243 : ∀ (k0 : Nat) (v1 : Int32) (v2 : Int32) (v6 : Int32) (v7 : Int32) (o3 o4 o5 : Option aV) (M : aM), K243 k0 v1 v2 v6 v7 M → Gd d w 221 (pV post) (243, [some (aR 21 k0), some (aI v1), some (aI v2), o3, o4, o5, some (aI v6), some (aI v7)], [], M)) (k0 : Nat) (v1 : Int32) (v2 : Int32) (v7 : Int32) (t0 : Nat) (t1 : Nat) (o3 o4 o5 o6 : Option aV) (M : aM) (h : w_Mo_sayNode_J285 post K243 k0 v1 v2 v7 t0 t1 M) : Gd d w 221 (pV post) (285, [some (aR 21 k0), some (aI v1), some (aI v2), o3, o4, o5, o6, some (aI v7)], [aR 1 t1, aR 21 t0], M) := by
  unfold w_Mo_sayNode_J285 at h
  show Gd d w 221 _ (285, [some (aR 21 k0), some (aI v1), some (aI v2), o3, o4, o5, o6, some (aI v7)], [aR 1 t1, aR 21 t0], M)
  refine gd_callN (ml := 3) (as := [aR 21 t0, aR 1 t1]) (rest := []) tc_221 rfl rfl rfl rfl rfl (by omega) (by omega) (Nat.le_of_ble_eq_true rfl) rfl (g_Mo_say (by omega) (by omega) h) (fun r9 M1 h => ?_)
  obtain ⟨rfl, h⟩ := h
  show Gd d w 221 _ (288, [some (aR 21 k0), some (aI v1), some (aI v2), o3, o4, o5, o6, some (aI v7)], [], M1)
  obtain ⟨c0, h⟩ := h
  refine gd_s (P := True ∧ True ∧ True ∧ True ∧ (vp_in v7 (rK M1 (k0 + 27)).2) ∧ True) (σ1 := (296, [some (aR 21 k0), some (aI v1), some (aI v2), o3, o4, o5, o6, some (aI v7)], [aI (rI M1 (k0 + 27) v7.toNatClampNeg), aR 21 k0], M1)) tc_221 rfl 5 (fun u => ⟨_, rfl⟩) ⟨trivial, trivial, trivial, trivial, c0, trivial⟩ ?_
  refine gd_callN (ml := 2) (as := [aR 21 k0, aI (rI M1 (k0 + 27) v7.toNatClampNeg)]) (rest := []) tc_221 rfl rfl rfl rfl rfl (by omega) (by omega) (Nat.le_of_ble_eq_true rfl) rfl (g_Mo_sayNumber (by omega) (by omega) h) (fun r9 M2 h => ?_)
  obtain ⟨rfl, h⟩ := h
  show Gd d w 221 _ (299, [some (aR 21 k0), some (aI v1), some (aI v2), o3, o4, o5, o6, some (aI v7)], [], M2)
  refine gd_s (P := True ∧ True ∧ True ∧ True ∧ True) (σ1 := (243, [some (aR 21 k0), some (aI v1), some (aI v2), o3, o4, o5, some (aI ((1 : Int32))), some (aI (v7 + (1 : Int32)))], [], M2)) tc_221 rfl 4 (fun u => ⟨_, rfl⟩) ⟨trivial, trivial, trivial, trivial, trivial⟩ ?_
  exact hK243 k0 v1 v2 ((1 : Int32)) (v7 + (1 : Int32)) o3 o4 o5 M2 h
def w_Mo_sayNode_L243 (post : aM → Prop) : Nat → Nat → Int32 → Int32 → Int32 → Int32 → aM → Prop
  | 0, _, _, _, _, _, _ => False
  | n + 1, k0, v1, v2, v6, v7, M => (vp_in v1 (rK M (k0 + 24)).2) ∧ (((((((100 : Int32)) * v1) + (rI M (k0 + 24) v1.toNatClampNeg)) ≤ v7) → w_Mo_put (fun M1 => w_Mo_put (fun M2 => post M2) k0 ((10 : Int32)) M1) k0 ((59 : Int32)) M) ∧ (¬ (((((100 : Int32)) * v1) + (rI M (k0 + 24) v1.toNatClampNeg)) ≤ v7) → (vp_in v7 (rK M (k0 + 25)).2) ∧ (((¬ (rI M (k0 + 25) v7.toNatClampNeg) = v2) → w_Mo_sayNode_L243 post n k0 v1 v2 v6 (v7 + (1 : Int32)) M) ∧ (¬ (¬ (rI M (k0 + 25) v7.toNatClampNeg) = v2) → ((v6 = ((0 : Int32))) → w_Mo_sayNode_J285 post (w_Mo_sayNode_L243 post n) k0 v1 v2 v7 k0 58 M) ∧ (¬ (v6 = ((0 : Int32))) → w_Mo_sayNode_J285 post (w_Mo_sayNode_L243 post n) k0 v1 v2 v7 k0 49 M)))))
theorem g_Mo_sayNode_L243 {d w : Nat} (hd : 10 ≤ d) (hw : 298 ≤ w) {post : aM → Prop} : ∀ (n : Nat) (k0 : Nat) (v1 : Int32) (v2 : Int32) (v6 : Int32) (v7 : Int32) (o3 o4 o5 : Option aV) (M : aM), w_Mo_sayNode_L243 post n k0 v1 v2 v6 v7 M → Gd d w 221 (pV post) (243, [some (aR 21 k0), some (aI v1), some (aI v2), o3, o4, o5, some (aI v6), some (aI v7)], [], M) := by
  intro n
  induction n with
  | zero => intro k0 v1 v2 v6 v7 o3 o4 o5 M h; exact h.elim
  | succ n ih =>
    intro k0 v1 v2 v6 v7 o3 o4 o5 M h
    show Gd d w 221 _ (243, [some (aR 21 k0), some (aI v1), some (aI v2), o3, o4, o5, some (aI v6), some (aI v7)], [], M)
    obtain ⟨c0, h⟩ := h
    refine gd_s (P := True ∧ True ∧ True ∧ True ∧ True ∧ True ∧ True ∧ (vp_in v1 (rK M (k0 + 24)).2) ∧ True ∧ True) (σ1 := (256, [some (aR 21 k0), some (aI v1), some (aI v2), o3, o4, o5, some (aI v6), some (aI v7)], [aI ((((100 : Int32)) * v1) + (rI M (k0 + 24) v1.toNatClampNeg)), aI v7], M)) tc_221 rfl 9 (fun u => ⟨_, rfl⟩) ⟨trivial, trivial, trivial, trivial, trivial, trivial, trivial, c0, trivial, trivial⟩ ?_
    refine gd_br (c := ((((100 : Int32)) * v1) + (rI M (k0 + 24) v1.toNatClampNeg)) ≤ v7) (st1 := []) tc_221 rfl rfl (fun _ => rfl) ⟨fun hc => ?_, fun hc => ?_⟩
    · have h := h.1 hc
      show Gd d w 221 _ (308, [some (aR 21 k0), some (aI v1), some (aI v2), o3, o4, o5, some (aI v6), some (aI v7)], [], M)
      refine gd_s (P := True ∧ True ∧ True) (σ1 := (311, [some (aR 21 k0), some (aI v1), some (aI v2), o3, o4, o5, some (aI v6), some (aI v7)], [aI ((59 : Int32)), aR 21 k0], M)) tc_221 rfl 2 (fun u => ⟨_, rfl⟩) ⟨trivial, trivial, trivial⟩ ?_
      refine gd_callN (ml := 2) (as := [aR 21 k0, aI ((59 : Int32))]) (rest := []) tc_221 rfl rfl rfl rfl rfl (by omega) (by omega) (Nat.le_of_ble_eq_true rfl) rfl (g_Mo_put (by omega) (by omega) h) (fun r9 M1 h => ?_)
      obtain ⟨rfl, h⟩ := h
      show Gd d w 221 _ (314, [some (aR 21 k0), some (aI v1), some (aI v2), o3, o4, o5, some (aI v6), some (aI v7)], [], M1)
      refine gd_s (P := True ∧ True ∧ True) (σ1 := (317, [some (aR 21 k0), some (aI v1), some (aI v2), o3, o4, o5, some (aI v6), some (aI v7)], [aI ((10 : Int32)), aR 21 k0], M1)) tc_221 rfl 2 (fun u => ⟨_, rfl⟩) ⟨trivial, trivial, trivial⟩ ?_
      refine gd_callN (ml := 2) (as := [aR 21 k0, aI ((10 : Int32))]) (rest := []) tc_221 rfl rfl rfl rfl rfl (by omega) (by omega) (Nat.le_of_ble_eq_true rfl) rfl (g_Mo_put (by omega) (by omega) h) (fun r9 M2 h => ?_)
      obtain ⟨rfl, h⟩ := h
      show Gd d w 221 _ (320, [some (aR 21 k0), some (aI v1), some (aI v2), o3, o4, o5, some (aI v6), some (aI v7)], [], M2)
      exact gd_ret tc_221 rfl rfl trivial (fun _ => rfl) ⟨rfl, h⟩
    · have h := h.2 hc
      show Gd d w 221 _ (259, [some (aR 21 k0), some (aI v1), some (aI v2), o3, o4, o5, some (aI v6), some (aI v7)], [], M)
      obtain ⟨c0, h⟩ := h
      refine gd_s (P := True ∧ True ∧ True ∧ (vp_in v7 (rK M (k0 + 25)).2) ∧ True ∧ True) (σ1 := (267, [some (aR 21 k0), some (aI v1), some (aI v2), o3, o4, o5, some (aI v6), some (aI v7)], [aI v2, aI (rI M (k0 + 25) v7.toNatClampNeg)], M)) tc_221 rfl 5 (fun u => ⟨_, rfl⟩) ⟨trivial, trivial, trivial, c0, trivial, trivial⟩ ?_
      refine gd_br (c := ¬ (rI M (k0 + 25) v7.toNatClampNeg) = v2) (st1 := []) tc_221 rfl rfl (fun _ => rfl) ⟨fun hc => ?_, fun hc => ?_⟩
      · have h := h.1 hc
        show Gd d w 221 _ (302, [some (aR 21 k0), some (aI v1), some (aI v2), o3, o4, o5, some (aI v6), some (aI v7)], [], M)
        refine gd_s (P := True ∧ True ∧ True) (σ1 := (243, [some (aR 21 k0), some (aI v1), some (aI v2), o3, o4, o5, some (aI v6), some (aI (v7 + (1 : Int32)))], [], M)) tc_221 rfl 2 (fun u => ⟨_, rfl⟩) ⟨trivial, trivial, trivial⟩ ?_
        exact ih k0 v1 v2 v6 (v7 + (1 : Int32)) o3 o4 o5 M h
      · have h := h.2 hc
        show Gd d w 221 _ (270, [some (aR 21 k0), some (aI v1), some (aI v2), o3, o4, o5, some (aI v6), some (aI v7)], [], M)
        refine gd_s (P := True ∧ True ∧ True) (σ1 := (273, [some (aR 21 k0), some (aI v1), some (aI v2), o3, o4, o5, some (aI v6), some (aI v7)], [aI v6, aR 21 k0], M)) tc_221 rfl 2 (fun u => ⟨_, rfl⟩) ⟨trivial, trivial, trivial⟩ ?_
        refine gd_br (c := v6 = ((0 : Int32))) (st1 := [aR 21 k0]) tc_221 rfl rfl (fun _ => rfl) ⟨fun hc => ?_, fun hc => ?_⟩
        · have h := h.1 hc
          show Gd d w 221 _ (282, [some (aR 21 k0), some (aI v1), some (aI v2), o3, o4, o5, some (aI v6), some (aI v7)], [aR 21 k0], M)
          refine gd_s (P := True ∧ True) (σ1 := (285, [some (aR 21 k0), some (aI v1), some (aI v2), o3, o4, o5, some (aI v6), some (aI v7)], [aR 1 58, aR 21 k0], M)) tc_221 rfl 1 (fun u => ⟨_, rfl⟩) ⟨trivial, trivial⟩ ?_
          exact g_Mo_sayNode_J285 hd hw ih k0 v1 v2 v7 k0 58 o3 o4 o5 (some (aI v6)) M h
        · have h := h.2 hc
          show Gd d w 221 _ (276, [some (aR 21 k0), some (aI v1), some (aI v2), o3, o4, o5, some (aI v6), some (aI v7)], [aR 21 k0], M)
          refine gd_s (P := True ∧ True ∧ True) (σ1 := (285, [some (aR 21 k0), some (aI v1), some (aI v2), o3, o4, o5, some (aI v6), some (aI v7)], [aR 1 49, aR 21 k0], M)) tc_221 rfl 2 (fun u => ⟨_, rfl⟩) ⟨trivial, trivial, trivial⟩ ?_
          exact g_Mo_sayNode_J285 hd hw ih k0 v1 v2 v7 k0 49 o3 o4 o5 (some (aI v6)) M h
def w_Mo_sayNode_J228 (post : aM → Prop) (k0 : Nat) (v1 : Int32) (v2 : Int32) (M : aM) : Prop := w_Mo_sayFor (fun M1 => ∃ n9, w_Mo_sayNode_L243 post n9 k0 v1 v2 ((0 : Int32)) (((100 : Int32)) * v1) M1) k0 v1 v2 M
theorem g_Mo_sayNode_J228 {d w : Nat} (hd : 10 ≤ d) (hw : 298 ≤ w) {post : aM → Prop} (k0 : Nat) (v1 : Int32) (v2 : Int32) (o3 o4 o5 o6 o7 : Option aV) (M : aM) (h : w_Mo_sayNode_J228 post k0 v1 v2 M) : Gd d w 221 (pV post) (228, [some (aR 21 k0), some (aI v1), some (aI v2), o3, o4, o5, o6, o7], [], M) := by
  unfold w_Mo_sayNode_J228 at h
  show Gd d w 221 _ (228, [some (aR 21 k0), some (aI v1), some (aI v2), o3, o4, o5, o6, o7], [], M)
  refine gd_s (P := True ∧ True ∧ True ∧ True) (σ1 := (231, [some (aR 21 k0), some (aI v1), some (aI v2), o3, o4, o5, o6, o7], [aI v2, aI v1, aR 21 k0], M)) tc_221 rfl 3 (fun u => ⟨_, rfl⟩) ⟨trivial, trivial, trivial, trivial⟩ ?_
  refine gd_callN (ml := 4) (as := [aR 21 k0, aI v1, aI v2]) (rest := []) tc_221 rfl rfl rfl rfl rfl (by omega) (by omega) (Nat.le_of_ble_eq_true rfl) rfl (g_Mo_sayFor (by omega) (by omega) h) (fun r9 M1 h => ?_)
  obtain ⟨rfl, h⟩ := h
  show Gd d w 221 _ (234, [some (aR 21 k0), some (aI v1), some (aI v2), o3, o4, o5, o6, o7], [], M1)
  refine gd_s (P := True ∧ True ∧ True ∧ True ∧ True ∧ True ∧ True) (σ1 := (243, [some (aR 21 k0), some (aI v1), some (aI v2), o3, o4, o5, some (aI ((0 : Int32))), some (aI (((100 : Int32)) * v1))], [], M1)) tc_221 rfl 6 (fun u => ⟨_, rfl⟩) ⟨trivial, trivial, trivial, trivial, trivial, trivial, trivial⟩ ?_
  obtain ⟨n9, h⟩ := h
  exact g_Mo_sayNode_L243 hd hw n9 k0 v1 v2 ((0 : Int32)) (((100 : Int32)) * v1) o3 o4 o5 M1 h
def w_Mo_sayNode_J203 (post : aM → Prop) (k0 : Nat) (v1 : Int32) (v2 : Int32) (v5 : Int32) (t0 : Nat) (t1 : Nat) (M : aM) : Prop := w_Mo_say (fun M1 => (vp_in v5 (rK M1 (k0 + 8)).2) ∧ ((((rI M1 (k0 + 8) v5.toNatClampNeg) ≤ ((0 : Int32))) → w_Mo_sayNode_J228 post k0 v1 v2 M1) ∧ (¬ ((rI M1 (k0 + 8) v5.toNatClampNeg) ≤ ((0 : Int32))) → w_Mo_put (fun M2 => w_Mo_sayName (fun M3 => w_Mo_sayNode_J228 post k0 v1 v2 M3) k0 v5 M2) k0 ((32 : Int32)) M1))) t0 t1 M
theorem g_Mo_sayNode_J203 {d w : Nat} (hd : 10 ≤ d) (hw : 298 ≤ w) {post : aM → Prop} (k0 : Nat) (v1 : Int32) (v2 : Int32) (v5 : Int32) (t0 : Nat) (t1 : Nat) (o3 o4 o6 o7 : Option aV) (M : aM) (h : w_Mo_sayNode_J203 post k0 v1 v2 v5 t0 t1 M) : Gd d w 221 (pV post) (203, [some (aR 21 k0), some (aI v1), some (aI v2), o3, o4, some (aI v5), o6, o7], [aR 1 t1, aR 21 t0], M) := by
  unfold w_Mo_sayNode_J203 at h
  show Gd d w 221 _ (203, [some (aR 21 k0), some (aI v1), some (aI v2), o3, o4, some (aI v5), o6, o7], [aR 1 t1, aR 21 t0], M)
  refine gd_callN (ml := 3) (as := [aR 21 t0, aR 1 t1]) (rest := []) tc_221 rfl rfl rfl rfl rfl (by omega) (by omega) (Nat.le_of_ble_eq_true rfl) rfl (g_Mo_say (by omega) (by omega) h) (fun r9 M1 h => ?_)
  obtain ⟨rfl, h⟩ := h
  show Gd d w 221 _ (206, [some (aR 21 k0), some (aI v1), some (aI v2), o3, o4, some (aI v5), o6, o7], [], M1)
  obtain ⟨c0, h⟩ := h
  refine gd_s (P := True ∧ True ∧ True ∧ (vp_in v5 (rK M1 (k0 + 8)).2) ∧ True) (σ1 := (213, [some (aR 21 k0), some (aI v1), some (aI v2), o3, o4, some (aI v5), o6, o7], [aI (rI M1 (k0 + 8) v5.toNatClampNeg)], M1)) tc_221 rfl 4 (fun u => ⟨_, rfl⟩) ⟨trivial, trivial, trivial, c0, trivial⟩ ?_
  refine gd_br (c := (rI M1 (k0 + 8) v5.toNatClampNeg) ≤ ((0 : Int32))) (st1 := []) tc_221 rfl rfl (fun _ => rfl) ⟨fun hc => ?_, fun hc => ?_⟩
  · have h := h.1 hc
    exact g_Mo_sayNode_J228 hd hw k0 v1 v2 o3 o4 (some (aI v5)) o6 o7 M1 h
  · have h := h.2 hc
    show Gd d w 221 _ (216, [some (aR 21 k0), some (aI v1), some (aI v2), o3, o4, some (aI v5), o6, o7], [], M1)
    refine gd_s (P := True ∧ True ∧ True) (σ1 := (219, [some (aR 21 k0), some (aI v1), some (aI v2), o3, o4, some (aI v5), o6, o7], [aI ((32 : Int32)), aR 21 k0], M1)) tc_221 rfl 2 (fun u => ⟨_, rfl⟩) ⟨trivial, trivial, trivial⟩ ?_
    refine gd_callN (ml := 2) (as := [aR 21 k0, aI ((32 : Int32))]) (rest := []) tc_221 rfl rfl rfl rfl rfl (by omega) (by omega) (Nat.le_of_ble_eq_true rfl) rfl (g_Mo_put (by omega) (by omega) h) (fun r9 M2 h => ?_)
    obtain ⟨rfl, h⟩ := h
    show Gd d w 221 _ (222, [some (aR 21 k0), some (aI v1), some (aI v2), o3, o4, some (aI v5), o6, o7], [], M2)
    refine gd_s (P := True ∧ True ∧ True) (σ1 := (225, [some (aR 21 k0), some (aI v1), some (aI v2), o3, o4, some (aI v5), o6, o7], [aI v5, aR 21 k0], M2)) tc_221 rfl 2 (fun u => ⟨_, rfl⟩) ⟨trivial, trivial, trivial⟩ ?_
    refine gd_callN (ml := 3) (as := [aR 21 k0, aI v5]) (rest := []) tc_221 rfl rfl rfl rfl rfl (by omega) (by omega) (Nat.le_of_ble_eq_true rfl) rfl (g_Mo_sayName (by omega) (by omega) h) (fun r9 M3 h => ?_)
    obtain ⟨rfl, h⟩ := h
    exact g_Mo_sayNode_J228 hd hw k0 v1 v2 o3 o4 (some (aI v5)) o6 o7 M3 h
def w_Mo_sayNode_J151 (post : aM → Prop) (K95 : Nat → Int32 → Int32 → Int32 → Int32 → aM → Prop) (k0 : Nat) (v1 : Int32) (v2 : Int32) (v4 : Int32) (v6 : Int32) (t0 : Nat) (t1 : Nat) (M : aM) : Prop := w_Mo_say (fun M1 => (vp_in v6 (rK M1 (k0 + 27)).2) ∧ (w_Mo_sayNumber (fun M2 => w_Mo_put (fun M3 => w_Mo_put (fun M4 => K95 k0 v1 v2 v4 (v6 + (1 : Int32)) M4) k0 ((10 : Int32)) M3) k0 ((59 : Int32)) M2) k0 (rI M1 (k0 + 27) v6.toNatClampNeg) M1)) t0 t1 M
theorem g_Mo_sayNode_J151 {d w : Nat} (hd : 10 ≤ d) (hw : 298 ≤ w) {post : aM → Prop} {K95 : Nat → Int32 → Int32 → Int32 → Int32 → aM → Prop} (hK95 : ∀ (k0 : Nat) (v1 : Int32) (v2 : Int32) (v4 : Int32) (v6 : Int32) (o3 o5 o7 : Option aV) (M : aM), K95 k0 v1 v2 v4 v6 M → Gd d w 221 (pV post) (95, [some (aR 21 k0), some (aI v1), some (aI v2), o3, some (aI v4), o5, some (aI v6), o7], [], M)) (k0 : Nat) (v1 : Int32) (v2 : Int32) (v4 : Int32) (v6 : Int32) (t0 : Nat) (t1 : Nat) (o3 o5 o7 : Option aV) (M : aM) (h : w_Mo_sayNode_J151 post K95 k0 v1 v2 v4 v6 t0 t1 M) : Gd d w 221 (pV post) (151, [some (aR 21 k0), some (aI v1), some (aI v2), o3, some (aI v4), o5, some (aI v6), o7], [aR 1 t1, aR 21 t0], M) := by
  unfold w_Mo_sayNode_J151 at h
  show Gd d w 221 _ (151, [some (aR 21 k0), some (aI v1), some (aI v2), o3, some (aI v4), o5, some (aI v6), o7], [aR 1 t1, aR 21 t0], M)
  refine gd_callN (ml := 3) (as := [aR 21 t0, aR 1 t1]) (rest := []) tc_221 rfl rfl rfl rfl rfl (by omega) (by omega) (Nat.le_of_ble_eq_true rfl) rfl (g_Mo_say (by omega) (by omega) h) (fun r9 M1 h => ?_)
  obtain ⟨rfl, h⟩ := h
  show Gd d w 221 _ (154, [some (aR 21 k0), some (aI v1), some (aI v2), o3, some (aI v4), o5, some (aI v6), o7], [], M1)
  obtain ⟨c0, h⟩ := h
  refine gd_s (P := True ∧ True ∧ True ∧ True ∧ (vp_in v6 (rK M1 (k0 + 27)).2) ∧ True) (σ1 := (162, [some (aR 21 k0), some (aI v1), some (aI v2), o3, some (aI v4), o5, some (aI v6), o7], [aI (rI M1 (k0 + 27) v6.toNatClampNeg), aR 21 k0], M1)) tc_221 rfl 5 (fun u => ⟨_, rfl⟩) ⟨trivial, trivial, trivial, trivial, c0, trivial⟩ ?_
  refine gd_callN (ml := 2) (as := [aR 21 k0, aI (rI M1 (k0 + 27) v6.toNatClampNeg)]) (rest := []) tc_221 rfl rfl rfl rfl rfl (by omega) (by omega) (Nat.le_of_ble_eq_true rfl) rfl (g_Mo_sayNumber (by omega) (by omega) h) (fun r9 M2 h => ?_)
  obtain ⟨rfl, h⟩ := h
  show Gd d w 221 _ (165, [some (aR 21 k0), some (aI v1), some (aI v2), o3, some (aI v4), o5, some (aI v6), o7], [], M2)
  refine gd_s (P := True ∧ True ∧ True) (σ1 := (168, [some (aR 21 k0), some (aI v1), some (aI v2), o3, some (aI v4), o5, some (aI v6), o7], [aI ((59 : Int32)), aR 21 k0], M2)) tc_221 rfl 2 (fun u => ⟨_, rfl⟩) ⟨trivial, trivial, trivial⟩ ?_
  refine gd_callN (ml := 2) (as := [aR 21 k0, aI ((59 : Int32))]) (rest := []) tc_221 rfl rfl rfl rfl rfl (by omega) (by omega) (Nat.le_of_ble_eq_true rfl) rfl (g_Mo_put (by omega) (by omega) h) (fun r9 M3 h => ?_)
  obtain ⟨rfl, h⟩ := h
  show Gd d w 221 _ (171, [some (aR 21 k0), some (aI v1), some (aI v2), o3, some (aI v4), o5, some (aI v6), o7], [], M3)
  refine gd_s (P := True ∧ True ∧ True) (σ1 := (174, [some (aR 21 k0), some (aI v1), some (aI v2), o3, some (aI v4), o5, some (aI v6), o7], [aI ((10 : Int32)), aR 21 k0], M3)) tc_221 rfl 2 (fun u => ⟨_, rfl⟩) ⟨trivial, trivial, trivial⟩ ?_
  refine gd_callN (ml := 2) (as := [aR 21 k0, aI ((10 : Int32))]) (rest := []) tc_221 rfl rfl rfl rfl rfl (by omega) (by omega) (Nat.le_of_ble_eq_true rfl) rfl (g_Mo_put (by omega) (by omega) h) (fun r9 M4 h => ?_)
  obtain ⟨rfl, h⟩ := h
  show Gd d w 221 _ (177, [some (aR 21 k0), some (aI v1), some (aI v2), o3, some (aI v4), o5, some (aI v6), o7], [], M4)
  refine gd_s (P := True ∧ True ∧ True) (σ1 := (95, [some (aR 21 k0), some (aI v1), some (aI v2), o3, some (aI v4), o5, some (aI (v6 + (1 : Int32))), o7], [], M4)) tc_221 rfl 2 (fun u => ⟨_, rfl⟩) ⟨trivial, trivial, trivial⟩ ?_
  exact hK95 k0 v1 v2 v4 (v6 + (1 : Int32)) o3 o5 o7 M4 h
def w_Mo_sayNode_L95 (post : aM → Prop) : Nat → Nat → Int32 → Int32 → Int32 → Int32 → aM → Prop
  | 0, _, _, _, _, _, _ => False
  | n + 1, k0, v1, v2, v4, v6, M => (vp_in v1 (rK M (k0 + 24)).2) ∧ (((((((100 : Int32)) * v1) + (rI M (k0 + 24) v1.toNatClampNeg)) ≤ v6) → post M) ∧ (¬ (((((100 : Int32)) * v1) + (rI M (k0 + 24) v1.toNatClampNeg)) ≤ v6) → (vp_in v6 (rK M (k0 + 25)).2) ∧ (((¬ (rI M (k0 + 25) v6.toNatClampNeg) = v2) → w_Mo_sayNode_L95 post n k0 v1 v2 v4 (v6 + (1 : Int32)) M) ∧ (¬ (¬ (rI M (k0 + 25) v6.toNatClampNeg) = v2) → w_Mo_blanks (fun M1 => (vp_in v6 (rK M1 (k0 + 26)).2) ∧ (((¬ (rI M1 (k0 + 26) v6.toNatClampNeg) = ((1 : Int32))) → w_Mo_sayNode_J151 post (w_Mo_sayNode_L95 post n) k0 v1 v2 v4 v6 k0 57 M1) ∧ (¬ (¬ (rI M1 (k0 + 26) v6.toNatClampNeg) = ((1 : Int32))) → w_Mo_sayNode_J151 post (w_Mo_sayNode_L95 post n) k0 v1 v2 v4 v6 k0 56 M1))) k0 (v4 + ((2 : Int32))) M))))
theorem g_Mo_sayNode_L95 {d w : Nat} (hd : 10 ≤ d) (hw : 298 ≤ w) {post : aM → Prop} : ∀ (n : Nat) (k0 : Nat) (v1 : Int32) (v2 : Int32) (v4 : Int32) (v6 : Int32) (o3 o5 o7 : Option aV) (M : aM), w_Mo_sayNode_L95 post n k0 v1 v2 v4 v6 M → Gd d w 221 (pV post) (95, [some (aR 21 k0), some (aI v1), some (aI v2), o3, some (aI v4), o5, some (aI v6), o7], [], M) := by
  intro n
  induction n with
  | zero => intro k0 v1 v2 v4 v6 o3 o5 o7 M h; exact h.elim
  | succ n ih =>
    intro k0 v1 v2 v4 v6 o3 o5 o7 M h
    show Gd d w 221 _ (95, [some (aR 21 k0), some (aI v1), some (aI v2), o3, some (aI v4), o5, some (aI v6), o7], [], M)
    obtain ⟨c0, h⟩ := h
    refine gd_s (P := True ∧ True ∧ True ∧ True ∧ True ∧ True ∧ True ∧ (vp_in v1 (rK M (k0 + 24)).2) ∧ True ∧ True) (σ1 := (108, [some (aR 21 k0), some (aI v1), some (aI v2), o3, some (aI v4), o5, some (aI v6), o7], [aI ((((100 : Int32)) * v1) + (rI M (k0 + 24) v1.toNatClampNeg)), aI v6], M)) tc_221 rfl 9 (fun u => ⟨_, rfl⟩) ⟨trivial, trivial, trivial, trivial, trivial, trivial, trivial, c0, trivial, trivial⟩ ?_
    refine gd_br (c := ((((100 : Int32)) * v1) + (rI M (k0 + 24) v1.toNatClampNeg)) ≤ v6) (st1 := []) tc_221 rfl rfl (fun _ => rfl) ⟨fun hc => ?_, fun hc => ?_⟩
    · have h := h.1 hc
      show Gd d w 221 _ (183, [some (aR 21 k0), some (aI v1), some (aI v2), o3, some (aI v4), o5, some (aI v6), o7], [], M)
      exact gd_ret tc_221 rfl rfl trivial (fun _ => rfl) ⟨rfl, h⟩
    · have h := h.2 hc
      show Gd d w 221 _ (111, [some (aR 21 k0), some (aI v1), some (aI v2), o3, some (aI v4), o5, some (aI v6), o7], [], M)
      obtain ⟨c0, h⟩ := h
      refine gd_s (P := True ∧ True ∧ True ∧ (vp_in v6 (rK M (k0 + 25)).2) ∧ True ∧ True) (σ1 := (119, [some (aR 21 k0), some (aI v1), some (aI v2), o3, some (aI v4), o5, some (aI v6), o7], [aI v2, aI (rI M (k0 + 25) v6.toNatClampNeg)], M)) tc_221 rfl 5 (fun u => ⟨_, rfl⟩) ⟨trivial, trivial, trivial, c0, trivial, trivial⟩ ?_
      refine gd_br (c := ¬ (rI M (k0 + 25) v6.toNatClampNeg) = v2) (st1 := []) tc_221 rfl rfl (fun _ => rfl) ⟨fun hc => ?_, fun hc => ?_⟩
      · have h := h.1 hc
        show Gd d w 221 _ (177, [some (aR 21 k0), some (aI v1), some (aI v2), o3, some (aI v4), o5, some (aI v6), o7], [], M)
        refine gd_s (P := True ∧ True ∧ True) (σ1 := (95, [some (aR 21 k0), some (aI v1), some (aI v2), o3, some (aI v4), o5, some (aI (v6 + (1 : Int32))), o7], [], M)) tc_221 rfl 2 (fun u => ⟨_, rfl⟩) ⟨trivial, trivial, trivial⟩ ?_
        exact ih k0 v1 v2 v4 (v6 + (1 : Int32)) o3 o5 o7 M h
      · have h := h.2 hc
        show Gd d w 221 _ (122, [some (aR 21 k0), some (aI v1), some (aI v2), o3, some (aI v4), o5, some (aI v6), o7], [], M)
        refine gd_s (P := True ∧ True ∧ True ∧ True ∧ True) (σ1 := (127, [some (aR 21 k0), some (aI v1), some (aI v2), o3, some (aI v4), o5, some (aI v6), o7], [aI (v4 + ((2 : Int32))), aR 21 k0], M)) tc_221 rfl 4 (fun u => ⟨_, rfl⟩) ⟨trivial, trivial, trivial, trivial, trivial⟩ ?_
        refine gd_callN (ml := 3) (as := [aR 21 k0, aI (v4 + ((2 : Int32)))]) (rest := []) tc_221 rfl rfl rfl rfl rfl (by omega) (by omega) (Nat.le_of_ble_eq_true rfl) rfl (g_Mo_blanks (by omega) (by omega) h) (fun r9 M1 h => ?_)
        obtain ⟨rfl, h⟩ := h
        show Gd d w 221 _ (130, [some (aR 21 k0), some (aI v1), some (aI v2), o3, some (aI v4), o5, some (aI v6), o7], [], M1)
        obtain ⟨c0, h⟩ := h
        refine gd_s (P := True ∧ True ∧ True ∧ True ∧ (vp_in v6 (rK M1 (k0 + 26)).2) ∧ True ∧ True) (σ1 := (139, [some (aR 21 k0), some (aI v1), some (aI v2), o3, some (aI v4), o5, some (aI v6), o7], [aI ((1 : Int32)), aI (rI M1 (k0 + 26) v6.toNatClampNeg), aR 21 k0], M1)) tc_221 rfl 6 (fun u => ⟨_, rfl⟩) ⟨trivial, trivial, trivial, trivial, c0, trivial, trivial⟩ ?_
        refine gd_br (c := ¬ (rI M1 (k0 + 26) v6.toNatClampNeg) = ((1 : Int32))) (st1 := [aR 21 k0]) tc_221 rfl rfl (fun _ => rfl) ⟨fun hc => ?_, fun hc => ?_⟩
        · have h := h.1 hc
          show Gd d w 221 _ (148, [some (aR 21 k0), some (aI v1), some (aI v2), o3, some (aI v4), o5, some (aI v6), o7], [aR 21 k0], M1)
          refine gd_s (P := True ∧ True) (σ1 := (151, [some (aR 21 k0), some (aI v1), some (aI v2), o3, some (aI v4), o5, some (aI v6), o7], [aR 1 57, aR 21 k0], M1)) tc_221 rfl 1 (fun u => ⟨_, rfl⟩) ⟨trivial, trivial⟩ ?_
          exact g_Mo_sayNode_J151 hd hw ih k0 v1 v2 v4 v6 k0 57 o3 o5 o7 M1 h
        · have h := h.2 hc
          show Gd d w 221 _ (142, [some (aR 21 k0), some (aI v1), some (aI v2), o3, some (aI v4), o5, some (aI v6), o7], [aR 21 k0], M1)
          refine gd_s (P := True ∧ True ∧ True) (σ1 := (151, [some (aR 21 k0), some (aI v1), some (aI v2), o3, some (aI v4), o5, some (aI v6), o7], [aR 1 56, aR 21 k0], M1)) tc_221 rfl 2 (fun u => ⟨_, rfl⟩) ⟨trivial, trivial, trivial⟩ ?_
          exact g_Mo_sayNode_J151 hd hw ih k0 v1 v2 v4 v6 k0 56 o3 o5 o7 M1 h
/-- PolicyJudgeModel.sayNode(II)V -/
def w_Mo_sayNode (post : aM → Prop) (k0 : Nat) (v1 : Int32) (v2 : Int32) (M : aM) : Prop := w_Mo_depthOf (fun x1 => w_Mo_nameOf (fun x2 => w_Mo_blanks (fun M3 => (vp_in ((((100 : Int32)) * v1) + v2) (rK M3 (k0 + 11)).2) ∧ (((¬ (rI M3 (k0 + 11) ((((100 : Int32)) * v1) + v2).toNatClampNeg) = ((2 : Int32))) → (vp_in ((((100 : Int32)) * v1) + v2) (rK M3 (k0 + 11)).2) ∧ (((¬ (rI M3 (k0 + 11) ((((100 : Int32)) * v1) + v2).toNatClampNeg) = ((0 : Int32))) → w_Mo_sayNode_J203 post k0 v1 v2 x2 k0 26 M3) ∧ (¬ (¬ (rI M3 (k0 + 11) ((((100 : Int32)) * v1) + v2).toNatClampNeg) = ((0 : Int32))) → w_Mo_sayNode_J203 post k0 v1 v2 x2 k0 25 M3))) ∧ (¬ (¬ (rI M3 (k0 + 11) ((((100 : Int32)) * v1) + v2).toNatClampNeg) = ((2 : Int32))) → w_Mo_say (fun M4 => w_Mo_sayName (fun M5 => w_Mo_put (fun M6 => (vp_in ((((100 : Int32)) * v1) + v2) (rK M6 (k0 + 12)).2) ∧ (w_Mo_sayWay (fun M7 => w_Mo_sayFor (fun M8 => w_Mo_say (fun M9 => w_Mo_put (fun M10 => ∃ n9, w_Mo_sayNode_L95 post n9 k0 v1 v2 (((2 : Int32)) * x1) (((100 : Int32)) * v1) M10) k0 ((10 : Int32)) M9) k0 55 M8) k0 v1 v2 M7) k0 (rI M6 (k0 + 12) ((((100 : Int32)) * v1) + v2).toNatClampNeg) M6)) k0 ((32 : Int32)) M5) k0 x2 M4) k0 34 M3))) k0 (((2 : Int32)) * x1) M) v1 ((1 : Int32)) v2 M) k0 v1 v2 M
theorem g_Mo_sayNode {d w : Nat} (hd : 10 ≤ d) (hw : 298 ≤ w) {post : aM → Prop} {k0 : Nat} {v1 : Int32} {v2 : Int32} {M : aM} (h : w_Mo_sayNode post k0 v1 v2 M) : Gd d w 221 (pV post) (0, aEnt 221 [aR 21 k0, aI v1, aI v2], [], M) := by
  unfold w_Mo_sayNode at h
  show Gd d w 221 _ (0, [some (aR 21 k0), some (aI v1), some (aI v2), none, none, none, none, none], [], M)
  refine gd_s (P := True ∧ True ∧ True ∧ True ∧ True ∧ True ∧ True ∧ True ∧ True ∧ True ∧ True) (σ1 := (11, [some (aR 21 k0), some (aI v1), some (aI v2), some (aI ((((100 : Int32)) * v1) + v2)), none, none, none, none], [aI v2, aI v1, aR 21 k0, aI ((2 : Int32))], M)) tc_221 rfl 10 (fun u => ⟨_, rfl⟩) ⟨trivial, trivial, trivial, trivial, trivial, trivial, trivial, trivial, trivial, trivial, trivial⟩ ?_
  refine gd_callN (ml := 5) (as := [aR 21 k0, aI v1, aI v2]) (rest := [aI ((2 : Int32))]) tc_221 rfl rfl rfl rfl rfl (by omega) (by omega) (Nat.le_of_ble_eq_true rfl) rfl (g_Mo_depthOf (by omega) (by omega) h) (fun r9 M9 h => ?_)
  obtain ⟨x1, rfl, e9, h⟩ := h
  subst M9
  show Gd d w 221 _ (14, [some (aR 21 k0), some (aI v1), some (aI v2), some (aI ((((100 : Int32)) * v1) + v2)), none, none, none, none], [aI x1, aI ((2 : Int32))], M)
  refine gd_s (P := True ∧ True ∧ True ∧ True ∧ True ∧ True) (σ1 := (20, [some (aR 21 k0), some (aI v1), some (aI v2), some (aI ((((100 : Int32)) * v1) + v2)), some (aI (((2 : Int32)) * x1)), none, none, none], [aI v2, aI ((1 : Int32)), aI v1], M)) tc_221 rfl 5 (fun u => ⟨_, rfl⟩) ⟨trivial, trivial, trivial, trivial, trivial, trivial⟩ ?_
  refine gd_callN (ml := 3) (as := [aI v1, aI ((1 : Int32)), aI v2]) (rest := []) tc_221 rfl rfl rfl rfl rfl (by omega) (by omega) (Nat.le_of_ble_eq_true rfl) rfl (g_Mo_nameOf (by omega) (by omega) h) (fun r9 M9 h => ?_)
  obtain ⟨x2, rfl, e9, h⟩ := h
  subst M9
  show Gd d w 221 _ (23, [some (aR 21 k0), some (aI v1), some (aI v2), some (aI ((((100 : Int32)) * v1) + v2)), some (aI (((2 : Int32)) * x1)), none, none, none], [aI x2], M)
  refine gd_s (P := True ∧ True ∧ True ∧ True) (σ1 := (28, [some (aR 21 k0), some (aI v1), some (aI v2), some (aI ((((100 : Int32)) * v1) + v2)), some (aI (((2 : Int32)) * x1)), some (aI x2), none, none], [aI (((2 : Int32)) * x1), aR 21 k0], M)) tc_221 rfl 3 (fun u => ⟨_, rfl⟩) ⟨trivial, trivial, trivial, trivial⟩ ?_
  refine gd_callN (ml := 3) (as := [aR 21 k0, aI (((2 : Int32)) * x1)]) (rest := []) tc_221 rfl rfl rfl rfl rfl (by omega) (by omega) (Nat.le_of_ble_eq_true rfl) rfl (g_Mo_blanks (by omega) (by omega) h) (fun r9 M3 h => ?_)
  obtain ⟨rfl, h⟩ := h
  show Gd d w 221 _ (31, [some (aR 21 k0), some (aI v1), some (aI v2), some (aI ((((100 : Int32)) * v1) + v2)), some (aI (((2 : Int32)) * x1)), some (aI x2), none, none], [], M3)
  obtain ⟨c0, h⟩ := h
  refine gd_s (P := True ∧ True ∧ True ∧ (vp_in ((((100 : Int32)) * v1) + v2) (rK M3 (k0 + 11)).2) ∧ True ∧ True) (σ1 := (38, [some (aR 21 k0), some (aI v1), some (aI v2), some (aI ((((100 : Int32)) * v1) + v2)), some (aI (((2 : Int32)) * x1)), some (aI x2), none, none], [aI ((2 : Int32)), aI (rI M3 (k0 + 11) ((((100 : Int32)) * v1) + v2).toNatClampNeg)], M3)) tc_221 rfl 5 (fun u => ⟨_, rfl⟩) ⟨trivial, trivial, trivial, c0, trivial, trivial⟩ ?_
  refine gd_br (c := ¬ (rI M3 (k0 + 11) ((((100 : Int32)) * v1) + v2).toNatClampNeg) = ((2 : Int32))) (st1 := []) tc_221 rfl rfl (fun _ => rfl) ⟨fun hc => ?_, fun hc => ?_⟩
  · have h := h.1 hc
    show Gd d w 221 _ (184, [some (aR 21 k0), some (aI v1), some (aI v2), some (aI ((((100 : Int32)) * v1) + v2)), some (aI (((2 : Int32)) * x1)), some (aI x2), none, none], [], M3)
    obtain ⟨c0, h⟩ := h
    refine gd_s (P := True ∧ True ∧ True ∧ True ∧ (vp_in ((((100 : Int32)) * v1) + v2) (rK M3 (k0 + 11)).2) ∧ True) (σ1 := (191, [some (aR 21 k0), some (aI v1), some (aI v2), some (aI ((((100 : Int32)) * v1) + v2)), some (aI (((2 : Int32)) * x1)), some (aI x2), none, none], [aI (rI M3 (k0 + 11) ((((100 : Int32)) * v1) + v2).toNatClampNeg), aR 21 k0], M3)) tc_221 rfl 5 (fun u => ⟨_, rfl⟩) ⟨trivial, trivial, trivial, trivial, c0, trivial⟩ ?_
    refine gd_br (c := ¬ (rI M3 (k0 + 11) ((((100 : Int32)) * v1) + v2).toNatClampNeg) = ((0 : Int32))) (st1 := [aR 21 k0]) tc_221 rfl rfl (fun _ => rfl) ⟨fun hc => ?_, fun hc => ?_⟩
    · have h := h.1 hc
      show Gd d w 221 _ (200, [some (aR 21 k0), some (aI v1), some (aI v2), some (aI ((((100 : Int32)) * v1) + v2)), some (aI (((2 : Int32)) * x1)), some (aI x2), none, none], [aR 21 k0], M3)
      refine gd_s (P := True ∧ True) (σ1 := (203, [some (aR 21 k0), some (aI v1), some (aI v2), some (aI ((((100 : Int32)) * v1) + v2)), some (aI (((2 : Int32)) * x1)), some (aI x2), none, none], [aR 1 26, aR 21 k0], M3)) tc_221 rfl 1 (fun u => ⟨_, rfl⟩) ⟨trivial, trivial⟩ ?_
      exact g_Mo_sayNode_J203 hd hw k0 v1 v2 x2 k0 26 (some (aI ((((100 : Int32)) * v1) + v2))) (some (aI (((2 : Int32)) * x1))) none none M3 h
    · have h := h.2 hc
      show Gd d w 221 _ (194, [some (aR 21 k0), some (aI v1), some (aI v2), some (aI ((((100 : Int32)) * v1) + v2)), some (aI (((2 : Int32)) * x1)), some (aI x2), none, none], [aR 21 k0], M3)
      refine gd_s (P := True ∧ True ∧ True) (σ1 := (203, [some (aR 21 k0), some (aI v1), some (aI v2), some (aI ((((100 : Int32)) * v1) + v2)), some (aI (((2 : Int32)) * x1)), some (aI x2), none, none], [aR 1 25, aR 21 k0], M3)) tc_221 rfl 2 (fun u => ⟨_, rfl⟩) ⟨trivial, trivial, trivial⟩ ?_
      exact g_Mo_sayNode_J203 hd hw k0 v1 v2 x2 k0 25 (some (aI ((((100 : Int32)) * v1) + v2))) (some (aI (((2 : Int32)) * x1))) none none M3 h
  · have h := h.2 hc
    show Gd d w 221 _ (41, [some (aR 21 k0), some (aI v1), some (aI v2), some (aI ((((100 : Int32)) * v1) + v2)), some (aI (((2 : Int32)) * x1)), some (aI x2), none, none], [], M3)
    refine gd_s (P := True ∧ True ∧ True) (σ1 := (45, [some (aR 21 k0), some (aI v1), some (aI v2), some (aI ((((100 : Int32)) * v1) + v2)), some (aI (((2 : Int32)) * x1)), some (aI x2), none, none], [aR 1 34, aR 21 k0], M3)) tc_221 rfl 2 (fun u => ⟨_, rfl⟩) ⟨trivial, trivial, trivial⟩ ?_
    refine gd_callN (ml := 3) (as := [aR 21 k0, aR 1 34]) (rest := []) tc_221 rfl rfl rfl rfl rfl (by omega) (by omega) (Nat.le_of_ble_eq_true rfl) rfl (g_Mo_say (by omega) (by omega) h) (fun r9 M4 h => ?_)
    obtain ⟨rfl, h⟩ := h
    show Gd d w 221 _ (48, [some (aR 21 k0), some (aI v1), some (aI v2), some (aI ((((100 : Int32)) * v1) + v2)), some (aI (((2 : Int32)) * x1)), some (aI x2), none, none], [], M4)
    refine gd_s (P := True ∧ True ∧ True) (σ1 := (51, [some (aR 21 k0), some (aI v1), some (aI v2), some (aI ((((100 : Int32)) * v1) + v2)), some (aI (((2 : Int32)) * x1)), some (aI x2), none, none], [aI x2, aR 21 k0], M4)) tc_221 rfl 2 (fun u => ⟨_, rfl⟩) ⟨trivial, trivial, trivial⟩ ?_
    refine gd_callN (ml := 3) (as := [aR 21 k0, aI x2]) (rest := []) tc_221 rfl rfl rfl rfl rfl (by omega) (by omega) (Nat.le_of_ble_eq_true rfl) rfl (g_Mo_sayName (by omega) (by omega) h) (fun r9 M5 h => ?_)
    obtain ⟨rfl, h⟩ := h
    show Gd d w 221 _ (54, [some (aR 21 k0), some (aI v1), some (aI v2), some (aI ((((100 : Int32)) * v1) + v2)), some (aI (((2 : Int32)) * x1)), some (aI x2), none, none], [], M5)
    refine gd_s (P := True ∧ True ∧ True) (σ1 := (57, [some (aR 21 k0), some (aI v1), some (aI v2), some (aI ((((100 : Int32)) * v1) + v2)), some (aI (((2 : Int32)) * x1)), some (aI x2), none, none], [aI ((32 : Int32)), aR 21 k0], M5)) tc_221 rfl 2 (fun u => ⟨_, rfl⟩) ⟨trivial, trivial, trivial⟩ ?_
    refine gd_callN (ml := 2) (as := [aR 21 k0, aI ((32 : Int32))]) (rest := []) tc_221 rfl rfl rfl rfl rfl (by omega) (by omega) (Nat.le_of_ble_eq_true rfl) rfl (g_Mo_put (by omega) (by omega) h) (fun r9 M6 h => ?_)
    obtain ⟨rfl, h⟩ := h
    show Gd d w 221 _ (60, [some (aR 21 k0), some (aI v1), some (aI v2), some (aI ((((100 : Int32)) * v1) + v2)), some (aI (((2 : Int32)) * x1)), some (aI x2), none, none], [], M6)
    obtain ⟨c0, h⟩ := h
    refine gd_s (P := True ∧ True ∧ True ∧ True ∧ (vp_in ((((100 : Int32)) * v1) + v2) (rK M6 (k0 + 12)).2) ∧ True) (σ1 := (67, [some (aR 21 k0), some (aI v1), some (aI v2), some (aI ((((100 : Int32)) * v1) + v2)), some (aI (((2 : Int32)) * x1)), some (aI x2), none, none], [aI (rI M6 (k0 + 12) ((((100 : Int32)) * v1) + v2).toNatClampNeg), aR 21 k0], M6)) tc_221 rfl 5 (fun u => ⟨_, rfl⟩) ⟨trivial, trivial, trivial, trivial, c0, trivial⟩ ?_
    refine gd_callN (ml := 2) (as := [aR 21 k0, aI (rI M6 (k0 + 12) ((((100 : Int32)) * v1) + v2).toNatClampNeg)]) (rest := []) tc_221 rfl rfl rfl rfl rfl (by omega) (by omega) (Nat.le_of_ble_eq_true rfl) rfl (g_Mo_sayWay (by omega) (by omega) h) (fun r9 M7 h => ?_)
    obtain ⟨rfl, h⟩ := h
    show Gd d w 221 _ (70, [some (aR 21 k0), some (aI v1), some (aI v2), some (aI ((((100 : Int32)) * v1) + v2)), some (aI (((2 : Int32)) * x1)), some (aI x2), none, none], [], M7)
    refine gd_s (P := True ∧ True ∧ True ∧ True) (σ1 := (73, [some (aR 21 k0), some (aI v1), some (aI v2), some (aI ((((100 : Int32)) * v1) + v2)), some (aI (((2 : Int32)) * x1)), some (aI x2), none, none], [aI v2, aI v1, aR 21 k0], M7)) tc_221 rfl 3 (fun u => ⟨_, rfl⟩) ⟨trivial, trivial, trivial, trivial⟩ ?_
    refine gd_callN (ml := 4) (as := [aR 21 k0, aI v1, aI v2]) (rest := []) tc_221 rfl rfl rfl rfl rfl (by omega) (by omega) (Nat.le_of_ble_eq_true rfl) rfl (g_Mo_sayFor (by omega) (by omega) h) (fun r9 M8 h => ?_)
    obtain ⟨rfl, h⟩ := h
    show Gd d w 221 _ (76, [some (aR 21 k0), some (aI v1), some (aI v2), some (aI ((((100 : Int32)) * v1) + v2)), some (aI (((2 : Int32)) * x1)), some (aI x2), none, none], [], M8)
    refine gd_s (P := True ∧ True ∧ True) (σ1 := (80, [some (aR 21 k0), some (aI v1), some (aI v2), some (aI ((((100 : Int32)) * v1) + v2)), some (aI (((2 : Int32)) * x1)), some (aI x2), none, none], [aR 1 55, aR 21 k0], M8)) tc_221 rfl 2 (fun u => ⟨_, rfl⟩) ⟨trivial, trivial, trivial⟩ ?_
    refine gd_callN (ml := 3) (as := [aR 21 k0, aR 1 55]) (rest := []) tc_221 rfl rfl rfl rfl rfl (by omega) (by omega) (Nat.le_of_ble_eq_true rfl) rfl (g_Mo_say (by omega) (by omega) h) (fun r9 M9 h => ?_)
    obtain ⟨rfl, h⟩ := h
    show Gd d w 221 _ (83, [some (aR 21 k0), some (aI v1), some (aI v2), some (aI ((((100 : Int32)) * v1) + v2)), some (aI (((2 : Int32)) * x1)), some (aI x2), none, none], [], M9)
    refine gd_s (P := True ∧ True ∧ True) (σ1 := (86, [some (aR 21 k0), some (aI v1), some (aI v2), some (aI ((((100 : Int32)) * v1) + v2)), some (aI (((2 : Int32)) * x1)), some (aI x2), none, none], [aI ((10 : Int32)), aR 21 k0], M9)) tc_221 rfl 2 (fun u => ⟨_, rfl⟩) ⟨trivial, trivial, trivial⟩ ?_
    refine gd_callN (ml := 2) (as := [aR 21 k0, aI ((10 : Int32))]) (rest := []) tc_221 rfl rfl rfl rfl rfl (by omega) (by omega) (Nat.le_of_ble_eq_true rfl) rfl (g_Mo_put (by omega) (by omega) h) (fun r9 M10 h => ?_)
    obtain ⟨rfl, h⟩ := h
    show Gd d w 221 _ (89, [some (aR 21 k0), some (aI v1), some (aI v2), some (aI ((((100 : Int32)) * v1) + v2)), some (aI (((2 : Int32)) * x1)), some (aI x2), none, none], [], M10)
    refine gd_s (P := True ∧ True ∧ True ∧ True ∧ True) (σ1 := (95, [some (aR 21 k0), some (aI v1), some (aI v2), some (aI ((((100 : Int32)) * v1) + v2)), some (aI (((2 : Int32)) * x1)), some (aI x2), some (aI (((100 : Int32)) * v1)), none], [], M10)) tc_221 rfl 4 (fun u => ⟨_, rfl⟩) ⟨trivial, trivial, trivial, trivial, trivial⟩ ?_
    obtain ⟨n9, h⟩ := h
    exact g_Mo_sayNode_L95 hd hw n9 k0 v1 v2 (((2 : Int32)) * x1) (((100 : Int32)) * v1) (some (aI ((((100 : Int32)) * v1) + v2))) (some (aI x2)) none M10 h
theorem tc_213 : tC 213 = c213 := rfl
def w_Mo_print_L200 (post : Int32 → aM → Prop) (K163 : Nat → Int32 → Int32 → Int32 → aM → Prop) : Nat → Nat → Int32 → Int32 → Int32 → Int32 → aM → Prop
  | 0, _, _, _, _, _, _ => False
  | n + 1, k0, v1, v2, v3, v4, M => ((v2 = v4) → (vp_in v1 (rK M (k0 + 10)).2) ∧ ((((rI M (k0 + 10) v1.toNatClampNeg) ≤ v3) → K163 k0 v1 v2 (v3 + (1 : Int32)) M) ∧ (¬ ((rI M (k0 + 10) v1.toNatClampNeg) ≤ v3) → w_Mo_sayNode (fun M1 => (vp_in ((((100 : Int32)) * v1) + v3) (rK M1 (k0 + 11)).2) ∧ (((¬ (rI M1 (k0 + 11) ((((100 : Int32)) * v1) + v3).toNatClampNeg) = ((2 : Int32))) → K163 k0 v1 v4 (v3 + (1 : Int32)) M1) ∧ (¬ (¬ (rI M1 (k0 + 11) ((((100 : Int32)) * v1) + v3).toNatClampNeg) = ((2 : Int32))) → K163 k0 v1 v3 (v3 + (1 : Int32)) M1))) k0 v1 v3 M))) ∧ (¬ (v2 = v4) → w_Mo_closeSet (fun M2 => (vp_in ((((100 : Int32)) * v1) + v2) (rK M2 (k0 + 13)).2) ∧ (w_Mo_print_L200 post K163 n k0 v1 (rI M2 (k0 + 13) ((((100 : Int32)) * v1) + v2).toNatClampNeg) v3 v4 M2)) k0 v1 v2 M)
theorem g_Mo_print_L200 {d w : Nat} (hd : 11 ≤ d) (hw : 325 ≤ w) {post : Int32 → aM → Prop} {K163 : Nat → Int32 → Int32 → Int32 → aM → Prop} (hK163 : ∀ (k0 : Nat) (v1 : Int32) (v2 : Int32) (v3 : Int32) (o4 : Option aV) (M : aM), K163 k0 v1 v2 v3 M → Gd d w 213 (pI post) (163, [some (aR 21 k0), some (aI v1), some (aI v2), some (aI v3), o4], [], M)) : ∀ (n : Nat) (k0 : Nat) (v1 : Int32) (v2 : Int32) (v3 : Int32) (v4 : Int32) (M : aM), w_Mo_print_L200 post K163 n k0 v1 v2 v3 v4 M → Gd d w 213 (pI post) (200, [some (aR 21 k0), some (aI v1), some (aI v2), some (aI v3), some (aI v4)], [], M) := by
  intro n
  induction n with
  | zero => intro k0 v1 v2 v3 v4 M h; exact h.elim
  | succ n ih =>
    intro k0 v1 v2 v3 v4 M h
    show Gd d w 213 _ (200, [some (aR 21 k0), some (aI v1), some (aI v2), some (aI v3), some (aI v4)], [], M)
    refine gd_s (P := True ∧ True ∧ True) (σ1 := (203, [some (aR 21 k0), some (aI v1), some (aI v2), some (aI v3), some (aI v4)], [aI v4, aI v2], M)) tc_213 rfl 2 (fun u => ⟨_, rfl⟩) ⟨trivial, trivial, trivial⟩ ?_
    refine gd_br (c := v2 = v4) (st1 := []) tc_213 rfl rfl (fun _ => rfl) ⟨fun hc => ?_, fun hc => ?_⟩
    · have h := h.1 hc
      show Gd d w 213 _ (227, [some (aR 21 k0), some (aI v1), some (aI v2), some (aI v3), some (aI v4)], [], M)
      obtain ⟨c0, h⟩ := h
      refine gd_s (P := True ∧ True ∧ True ∧ True ∧ (vp_in v1 (rK M (k0 + 10)).2) ∧ True) (σ1 := (234, [some (aR 21 k0), some (aI v1), some (aI v2), some (aI v3), some (aI v4)], [aI (rI M (k0 + 10) v1.toNatClampNeg), aI v3], M)) tc_213 rfl 5 (fun u => ⟨_, rfl⟩) ⟨trivial, trivial, trivial, trivial, c0, trivial⟩ ?_
      refine gd_br (c := (rI M (k0 + 10) v1.toNatClampNeg) ≤ v3) (st1 := []) tc_213 rfl rfl (fun _ => rfl) ⟨fun hc => ?_, fun hc => ?_⟩
      · have h := h.1 hc
        show Gd d w 213 _ (265, [some (aR 21 k0), some (aI v1), some (aI v2), some (aI v3), some (aI v4)], [], M)
        refine gd_s (P := True ∧ True ∧ True) (σ1 := (163, [some (aR 21 k0), some (aI v1), some (aI v2), some (aI (v3 + (1 : Int32))), some (aI v4)], [], M)) tc_213 rfl 2 (fun u => ⟨_, rfl⟩) ⟨trivial, trivial, trivial⟩ ?_
        exact hK163 k0 v1 v2 (v3 + (1 : Int32)) (some (aI v4)) M h
      · have h := h.2 hc
        show Gd d w 213 _ (237, [some (aR 21 k0), some (aI v1), some (aI v2), some (aI v3), some (aI v4)], [], M)
        refine gd_s (P := True ∧ True ∧ True ∧ True) (σ1 := (240, [some (aR 21 k0), some (aI v1), some (aI v2), some (aI v3), some (aI v4)], [aI v3, aI v1, aR 21 k0], M)) tc_213 rfl 3 (fun u => ⟨_, rfl⟩) ⟨trivial, trivial, trivial, trivial⟩ ?_
        refine gd_callN (ml := 8) (as := [aR 21 k0, aI v1, aI v3]) (rest := []) tc_213 rfl rfl rfl rfl rfl (by omega) (by omega) (Nat.le_of_ble_eq_true rfl) rfl (g_Mo_sayNode (by omega) (by omega) h) (fun r9 M1 h => ?_)
        obtain ⟨rfl, h⟩ := h
        show Gd d w 213 _ (243, [some (aR 21 k0), some (aI v1), some (aI v2), some (aI v3), some (aI v4)], [], M1)
        obtain ⟨c0, h⟩ := h
        refine gd_s (P := True ∧ True ∧ True ∧ True ∧ True ∧ True ∧ True ∧ (vp_in ((((100 : Int32)) * v1) + v3) (rK M1 (k0 + 11)).2) ∧ True ∧ True) (σ1 := (255, [some (aR 21 k0), some (aI v1), some (aI v2), some (aI v3), some (aI v4)], [aI ((2 : Int32)), aI (rI M1 (k0 + 11) ((((100 : Int32)) * v1) + v3).toNatClampNeg)], M1)) tc_213 rfl 9 (fun u => ⟨_, rfl⟩) ⟨trivial, trivial, trivial, trivial, trivial, trivial, trivial, c0, trivial, trivial⟩ ?_
        refine gd_br (c := ¬ (rI M1 (k0 + 11) ((((100 : Int32)) * v1) + v3).toNatClampNeg) = ((2 : Int32))) (st1 := []) tc_213 rfl rfl (fun _ => rfl) ⟨fun hc => ?_, fun hc => ?_⟩
        · have h := h.1 hc
          show Gd d w 213 _ (262, [some (aR 21 k0), some (aI v1), some (aI v2), some (aI v3), some (aI v4)], [], M1)
          refine gd_s (P := True ∧ True ∧ True ∧ True ∧ True) (σ1 := (163, [some (aR 21 k0), some (aI v1), some (aI v4), some (aI (v3 + (1 : Int32))), some (aI v4)], [], M1)) tc_213 rfl 4 (fun u => ⟨_, rfl⟩) ⟨trivial, trivial, trivial, trivial, trivial⟩ ?_
          exact hK163 k0 v1 v4 (v3 + (1 : Int32)) (some (aI v4)) M1 h
        · have h := h.2 hc
          show Gd d w 213 _ (258, [some (aR 21 k0), some (aI v1), some (aI v2), some (aI v3), some (aI v4)], [], M1)
          refine gd_s (P := True ∧ True ∧ True ∧ True ∧ True ∧ True) (σ1 := (163, [some (aR 21 k0), some (aI v1), some (aI v3), some (aI (v3 + (1 : Int32))), some (aI v4)], [], M1)) tc_213 rfl 5 (fun u => ⟨_, rfl⟩) ⟨trivial, trivial, trivial, trivial, trivial, trivial⟩ ?_
          exact hK163 k0 v1 v3 (v3 + (1 : Int32)) (some (aI v4)) M1 h
    · have h := h.2 hc
      show Gd d w 213 _ (206, [some (aR 21 k0), some (aI v1), some (aI v2), some (aI v3), some (aI v4)], [], M)
      refine gd_s (P := True ∧ True ∧ True ∧ True) (σ1 := (209, [some (aR 21 k0), some (aI v1), some (aI v2), some (aI v3), some (aI v4)], [aI v2, aI v1, aR 21 k0], M)) tc_213 rfl 3 (fun u => ⟨_, rfl⟩) ⟨trivial, trivial, trivial, trivial⟩ ?_
      refine gd_callN (ml := 3) (as := [aR 21 k0, aI v1, aI v2]) (rest := []) tc_213 rfl rfl rfl rfl rfl (by omega) (by omega) (Nat.le_of_ble_eq_true rfl) rfl (g_Mo_closeSet (by omega) (by omega) h) (fun r9 M2 h => ?_)
      obtain ⟨rfl, h⟩ := h
      show Gd d w 213 _ (212, [some (aR 21 k0), some (aI v1), some (aI v2), some (aI v3), some (aI v4)], [], M2)
      obtain ⟨c0, h⟩ := h
      refine gd_s (P := True ∧ True ∧ True ∧ True ∧ True ∧ True ∧ True ∧ (vp_in ((((100 : Int32)) * v1) + v2) (rK M2 (k0 + 13)).2) ∧ True ∧ True ∧ True) (σ1 := (200, [some (aR 21 k0), some (aI v1), some (aI (rI M2 (k0 + 13) ((((100 : Int32)) * v1) + v2).toNatClampNeg)), some (aI v3), some (aI v4)], [], M2)) tc_213 rfl 10 (fun u => ⟨_, rfl⟩) ⟨trivial, trivial, trivial, trivial, trivial, trivial, trivial, c0, trivial, trivial, trivial⟩ ?_
      exact ih k0 v1 (rI M2 (k0 + 13) ((((100 : Int32)) * v1) + v2).toNatClampNeg) v3 v4 M2 h
def w_Mo_print_L163 (post : Int32 → aM → Prop) : Nat → Nat → Int32 → Int32 → Int32 → aM → Prop
  | 0, _, _, _, _, _ => False
  | n + 1, k0, v1, v2, v3, M => (vp_in v1 (rK M (k0 + 10)).2) ∧ ((((rI M (k0 + 10) v1.toNatClampNeg) < v3) → post (rI M k0 60) M) ∧ (¬ ((rI M (k0 + 10) v1.toNatClampNeg) < v3) → (vp_in v1 (rK M (k0 + 10)).2) ∧ ((((rI M (k0 + 10) v1.toNatClampNeg) ≤ v3) → ∃ n9, w_Mo_print_L200 post (w_Mo_print_L163 post n) n9 k0 v1 v2 v3 ((-1 : Int32)) M) ∧ (¬ ((rI M (k0 + 10) v1.toNatClampNeg) ≤ v3) → (vp_in ((((100 : Int32)) * v1) + v3) (rK M (k0 + 13)).2) ∧ (∃ n9, w_Mo_print_L200 post (w_Mo_print_L163 post n) n9 k0 v1 v2 v3 (rI M (k0 + 13) ((((100 : Int32)) * v1) + v3).toNatClampNeg) M)))))
theorem g_Mo_print_L163 {d w : Nat} (hd : 11 ≤ d) (hw : 325 ≤ w) {post : Int32 → aM → Prop} : ∀ (n : Nat) (k0 : Nat) (v1 : Int32) (v2 : Int32) (v3 : Int32) (o4 : Option aV) (M : aM), w_Mo_print_L163 post n k0 v1 v2 v3 M → Gd d w 213 (pI post) (163, [some (aR 21 k0), some (aI v1), some (aI v2), some (aI v3), o4], [], M) := by
  intro n
  induction n with
  | zero => intro k0 v1 v2 v3 o4 M h; exact h.elim
  | succ n ih =>
    intro k0 v1 v2 v3 o4 M h
    show Gd d w 213 _ (163, [some (aR 21 k0), some (aI v1), some (aI v2), some (aI v3), o4], [], M)
    obtain ⟨c0, h⟩ := h
    refine gd_s (P := True ∧ True ∧ True ∧ True ∧ (vp_in v1 (rK M (k0 + 10)).2) ∧ True) (σ1 := (170, [some (aR 21 k0), some (aI v1), some (aI v2), some (aI v3), o4], [aI (rI M (k0 + 10) v1.toNatClampNeg), aI v3], M)) tc_213 rfl 5 (fun u => ⟨_, rfl⟩) ⟨trivial, trivial, trivial, trivial, c0, trivial⟩ ?_
    refine gd_br (c := (rI M (k0 + 10) v1.toNatClampNeg) < v3) (st1 := []) tc_213 rfl rfl (fun _ => rfl) ⟨fun hc => ?_, fun hc => ?_⟩
    · have h := h.1 hc
      show Gd d w 213 _ (271, [some (aR 21 k0), some (aI v1), some (aI v2), some (aI v3), o4], [], M)
      refine gd_s (P := True ∧ True ∧ True) (σ1 := (275, [some (aR 21 k0), some (aI v1), some (aI v2), some (aI v3), o4], [aI (rI M k0 60)], M)) tc_213 rfl 2 (fun u => ⟨_, rfl⟩) ⟨trivial, trivial, trivial⟩ ?_
      exact gd_ret tc_213 rfl rfl trivial (fun _ => rfl) ⟨_, rfl, h⟩
    · have h := h.2 hc
      show Gd d w 213 _ (173, [some (aR 21 k0), some (aI v1), some (aI v2), some (aI v3), o4], [], M)
      obtain ⟨c0, h⟩ := h
      refine gd_s (P := True ∧ True ∧ True ∧ True ∧ (vp_in v1 (rK M (k0 + 10)).2) ∧ True) (σ1 := (180, [some (aR 21 k0), some (aI v1), some (aI v2), some (aI v3), o4], [aI (rI M (k0 + 10) v1.toNatClampNeg), aI v3], M)) tc_213 rfl 5 (fun u => ⟨_, rfl⟩) ⟨trivial, trivial, trivial, trivial, c0, trivial⟩ ?_
      refine gd_br (c := (rI M (k0 + 10) v1.toNatClampNeg) ≤ v3) (st1 := []) tc_213 rfl rfl (fun _ => rfl) ⟨fun hc => ?_, fun hc => ?_⟩
      · have h := h.1 hc
        show Gd d w 213 _ (197, [some (aR 21 k0), some (aI v1), some (aI v2), some (aI v3), o4], [], M)
        refine gd_s (P := True ∧ True ∧ True) (σ1 := (200, [some (aR 21 k0), some (aI v1), some (aI v2), some (aI v3), some (aI ((-1 : Int32)))], [], M)) tc_213 rfl 2 (fun u => ⟨_, rfl⟩) ⟨trivial, trivial, trivial⟩ ?_
        obtain ⟨n9, h⟩ := h
        exact g_Mo_print_L200 hd hw ih n9 k0 v1 v2 v3 ((-1 : Int32)) M h
      · have h := h.2 hc
        show Gd d w 213 _ (183, [some (aR 21 k0), some (aI v1), some (aI v2), some (aI v3), o4], [], M)
        obtain ⟨c0, h⟩ := h
        refine gd_s (P := True ∧ True ∧ True ∧ True ∧ True ∧ True ∧ True ∧ (vp_in ((((100 : Int32)) * v1) + v3) (rK M (k0 + 13)).2) ∧ True ∧ True ∧ True) (σ1 := (200, [some (aR 21 k0), some (aI v1), some (aI v2), some (aI v3), some (aI (rI M (k0 + 13) ((((100 : Int32)) * v1) + v3).toNatClampNeg))], [], M)) tc_213 rfl 10 (fun u => ⟨_, rfl⟩) ⟨trivial, trivial, trivial, trivial, trivial, trivial, trivial, c0, trivial, trivial, trivial⟩ ?_
        obtain ⟨n9, h⟩ := h
        exact g_Mo_print_L200 hd hw ih n9 k0 v1 v2 v3 (rI M (k0 + 13) ((((100 : Int32)) * v1) + v3).toNatClampNeg) M h
def w_Mo_print_J144 (post : Int32 → aM → Prop) (K45 : Nat → Int32 → Int32 → aM → Prop) (k0 : Nat) (v1 : Int32) (v2 : Int32) (t0 : Nat) (t1 : Nat) (M : aM) : Prop := w_Mo_say (fun M1 => w_Mo_put (fun M2 => K45 k0 v1 (v2 + (1 : Int32)) M2) k0 ((10 : Int32)) M1) t0 t1 M
theorem g_Mo_print_J144 {d w : Nat} (hd : 11 ≤ d) (hw : 325 ≤ w) {post : Int32 → aM → Prop} {K45 : Nat → Int32 → Int32 → aM → Prop} (hK45 : ∀ (k0 : Nat) (v1 : Int32) (v2 : Int32) (o3 o4 : Option aV) (M : aM), K45 k0 v1 v2 M → Gd d w 213 (pI post) (45, [some (aR 21 k0), some (aI v1), some (aI v2), o3, o4], [], M)) (k0 : Nat) (v1 : Int32) (v2 : Int32) (t0 : Nat) (t1 : Nat) (o3 o4 : Option aV) (M : aM) (h : w_Mo_print_J144 post K45 k0 v1 v2 t0 t1 M) : Gd d w 213 (pI post) (144, [some (aR 21 k0), some (aI v1), some (aI v2), o3, o4], [aR 1 t1, aR 21 t0], M) := by
  unfold w_Mo_print_J144 at h
  show Gd d w 213 _ (144, [some (aR 21 k0), some (aI v1), some (aI v2), o3, o4], [aR 1 t1, aR 21 t0], M)
  refine gd_callN (ml := 3) (as := [aR 21 t0, aR 1 t1]) (rest := []) tc_213 rfl rfl rfl rfl rfl (by omega) (by omega) (Nat.le_of_ble_eq_true rfl) rfl (g_Mo_say (by omega) (by omega) h) (fun r9 M1 h => ?_)
  obtain ⟨rfl, h⟩ := h
  show Gd d w 213 _ (147, [some (aR 21 k0), some (aI v1), some (aI v2), o3, o4], [], M1)
  refine gd_s (P := True ∧ True ∧ True) (σ1 := (150, [some (aR 21 k0), some (aI v1), some (aI v2), o3, o4], [aI ((10 : Int32)), aR 21 k0], M1)) tc_213 rfl 2 (fun u => ⟨_, rfl⟩) ⟨trivial, trivial, trivial⟩ ?_
  refine gd_callN (ml := 2) (as := [aR 21 k0, aI ((10 : Int32))]) (rest := []) tc_213 rfl rfl rfl rfl rfl (by omega) (by omega) (Nat.le_of_ble_eq_true rfl) rfl (g_Mo_put (by omega) (by omega) h) (fun r9 M2 h => ?_)
  obtain ⟨rfl, h⟩ := h
  show Gd d w 213 _ (153, [some (aR 21 k0), some (aI v1), some (aI v2), o3, o4], [], M2)
  refine gd_s (P := True ∧ True ∧ True) (σ1 := (45, [some (aR 21 k0), some (aI v1), some (aI (v2 + (1 : Int32))), o3, o4], [], M2)) tc_213 rfl 2 (fun u => ⟨_, rfl⟩) ⟨trivial, trivial, trivial⟩ ?_
  exact hK45 k0 v1 (v2 + (1 : Int32)) o3 o4 M2 h
def w_Mo_print_L45 (post : Int32 → aM → Prop) : Nat → Nat → Int32 → Int32 → aM → Prop
  | 0, _, _, _, _ => False
  | n + 1, k0, v1, v2, M => (vp_in v1 (rK M (k0 + 3)).2) ∧ ((((rI M (k0 + 3) v1.toNatClampNeg) ≤ v2) → ∃ n9, w_Mo_print_L163 post n9 k0 v1 ((-1 : Int32)) ((0 : Int32)) M) ∧ (¬ ((rI M (k0 + 3) v1.toNatClampNeg) ≤ v2) → w_Mo_say (fun M1 => w_Mo_nameOf (fun x2 => w_Mo_sayName (fun M3 => w_Mo_put (fun M4 => (vp_in ((((8 : Int32)) * v1) + v2) (rK M4 (k0 + 4)).2) ∧ (w_Mo_sayNumber (fun M5 => (vp_in ((((8 : Int32)) * v1) + v2) (rK M5 (k0 + 5)).2) ∧ ((((rI M5 (k0 + 5) ((((8 : Int32)) * v1) + v2).toNatClampNeg) = ((0 : Int32))) → (vp_in ((((8 : Int32)) * v1) + v2) (rK M5 (k0 + 6)).2) ∧ ((((rI M5 (k0 + 6) ((((8 : Int32)) * v1) + v2).toNatClampNeg) = ((0 : Int32))) → w_Mo_print_J144 post (w_Mo_print_L45 post n) k0 v1 v2 k0 33 M5) ∧ (¬ ((rI M5 (k0 + 6) ((((8 : Int32)) * v1) + v2).toNatClampNeg) = ((0 : Int32))) → w_Mo_print_J144 post (w_Mo_print_L45 post n) k0 v1 v2 k0 32 M5))) ∧ (¬ ((rI M5 (k0 + 5) ((((8 : Int32)) * v1) + v2).toNatClampNeg) = ((0 : Int32))) → (vp_in ((((8 : Int32)) * v1) + v2) (rK M5 (k0 + 6)).2) ∧ ((((rI M5 (k0 + 6) ((((8 : Int32)) * v1) + v2).toNatClampNeg) = ((0 : Int32))) → w_Mo_print_J144 post (w_Mo_print_L45 post n) k0 v1 v2 k0 31 M5) ∧ (¬ ((rI M5 (k0 + 6) ((((8 : Int32)) * v1) + v2).toNatClampNeg) = ((0 : Int32))) → w_Mo_print_J144 post (w_Mo_print_L45 post n) k0 v1 v2 k0 30 M5))))) k0 (rI M4 (k0 + 4) ((((8 : Int32)) * v1) + v2).toNatClampNeg) M4)) k0 ((32 : Int32)) M3) k0 x2 M1) v1 ((0 : Int32)) v2 M1) k0 29 M))
theorem g_Mo_print_L45 {d w : Nat} (hd : 11 ≤ d) (hw : 325 ≤ w) {post : Int32 → aM → Prop} : ∀ (n : Nat) (k0 : Nat) (v1 : Int32) (v2 : Int32) (o3 o4 : Option aV) (M : aM), w_Mo_print_L45 post n k0 v1 v2 M → Gd d w 213 (pI post) (45, [some (aR 21 k0), some (aI v1), some (aI v2), o3, o4], [], M) := by
  intro n
  induction n with
  | zero => intro k0 v1 v2 o3 o4 M h; exact h.elim
  | succ n ih =>
    intro k0 v1 v2 o3 o4 M h
    show Gd d w 213 _ (45, [some (aR 21 k0), some (aI v1), some (aI v2), o3, o4], [], M)
    obtain ⟨c0, h⟩ := h
    refine gd_s (P := True ∧ True ∧ True ∧ True ∧ (vp_in v1 (rK M (k0 + 3)).2) ∧ True) (σ1 := (52, [some (aR 21 k0), some (aI v1), some (aI v2), o3, o4], [aI (rI M (k0 + 3) v1.toNatClampNeg), aI v2], M)) tc_213 rfl 5 (fun u => ⟨_, rfl⟩) ⟨trivial, trivial, trivial, trivial, c0, trivial⟩ ?_
    refine gd_br (c := (rI M (k0 + 3) v1.toNatClampNeg) ≤ v2) (st1 := []) tc_213 rfl rfl (fun _ => rfl) ⟨fun hc => ?_, fun hc => ?_⟩
    · have h := h.1 hc
      show Gd d w 213 _ (159, [some (aR 21 k0), some (aI v1), some (aI v2), o3, o4], [], M)
      refine gd_s (P := True ∧ True ∧ True ∧ True ∧ True) (σ1 := (163, [some (aR 21 k0), some (aI v1), some (aI ((-1 : Int32))), some (aI ((0 : Int32))), o4], [], M)) tc_213 rfl 4 (fun u => ⟨_, rfl⟩) ⟨trivial, trivial, trivial, trivial, trivial⟩ ?_
      obtain ⟨n9, h⟩ := h
      exact g_Mo_print_L163 hd hw n9 k0 v1 ((-1 : Int32)) ((0 : Int32)) o4 M h
    · have h := h.2 hc
      show Gd d w 213 _ (55, [some (aR 21 k0), some (aI v1), some (aI v2), o3, o4], [], M)
      refine gd_s (P := True ∧ True ∧ True ∧ True ∧ True ∧ True ∧ True ∧ True ∧ True) (σ1 := (66, [some (aR 21 k0), some (aI v1), some (aI v2), some (aI ((((8 : Int32)) * v1) + v2)), o4], [aR 1 29, aR 21 k0], M)) tc_213 rfl 8 (fun u => ⟨_, rfl⟩) ⟨trivial, trivial, trivial, trivial, trivial, trivial, trivial, trivial, trivial⟩ ?_
      refine gd_callN (ml := 3) (as := [aR 21 k0, aR 1 29]) (rest := []) tc_213 rfl rfl rfl rfl rfl (by omega) (by omega) (Nat.le_of_ble_eq_true rfl) rfl (g_Mo_say (by omega) (by omega) h) (fun r9 M1 h => ?_)
      obtain ⟨rfl, h⟩ := h
      show Gd d w 213 _ (69, [some (aR 21 k0), some (aI v1), some (aI v2), some (aI ((((8 : Int32)) * v1) + v2)), o4], [], M1)
      refine gd_s (P := True ∧ True ∧ True ∧ True ∧ True) (σ1 := (73, [some (aR 21 k0), some (aI v1), some (aI v2), some (aI ((((8 : Int32)) * v1) + v2)), o4], [aI v2, aI ((0 : Int32)), aI v1, aR 21 k0], M1)) tc_213 rfl 4 (fun u => ⟨_, rfl⟩) ⟨trivial, trivial, trivial, trivial, trivial⟩ ?_
      refine gd_callN (ml := 3) (as := [aI v1, aI ((0 : Int32)), aI v2]) (rest := [aR 21 k0]) tc_213 rfl rfl rfl rfl rfl (by omega) (by omega) (Nat.le_of_ble_eq_true rfl) rfl (g_Mo_nameOf (by omega) (by omega) h) (fun r9 M9 h => ?_)
      obtain ⟨x2, rfl, e9, h⟩ := h
      subst M9
      show Gd d w 213 _ (76, [some (aR 21 k0), some (aI v1), some (aI v2), some (aI ((((8 : Int32)) * v1) + v2)), o4], [aI x2, aR 21 k0], M1)
      refine gd_callN (ml := 3) (as := [aR 21 k0, aI x2]) (rest := []) tc_213 rfl rfl rfl rfl rfl (by omega) (by omega) (Nat.le_of_ble_eq_true rfl) rfl (g_Mo_sayName (by omega) (by omega) h) (fun r9 M3 h => ?_)
      obtain ⟨rfl, h⟩ := h
      show Gd d w 213 _ (79, [some (aR 21 k0), some (aI v1), some (aI v2), some (aI ((((8 : Int32)) * v1) + v2)), o4], [], M3)
      refine gd_s (P := True ∧ True ∧ True) (σ1 := (82, [some (aR 21 k0), some (aI v1), some (aI v2), some (aI ((((8 : Int32)) * v1) + v2)), o4], [aI ((32 : Int32)), aR 21 k0], M3)) tc_213 rfl 2 (fun u => ⟨_, rfl⟩) ⟨trivial, trivial, trivial⟩ ?_
      refine gd_callN (ml := 2) (as := [aR 21 k0, aI ((32 : Int32))]) (rest := []) tc_213 rfl rfl rfl rfl rfl (by omega) (by omega) (Nat.le_of_ble_eq_true rfl) rfl (g_Mo_put (by omega) (by omega) h) (fun r9 M4 h => ?_)
      obtain ⟨rfl, h⟩ := h
      show Gd d w 213 _ (85, [some (aR 21 k0), some (aI v1), some (aI v2), some (aI ((((8 : Int32)) * v1) + v2)), o4], [], M4)
      obtain ⟨c0, h⟩ := h
      refine gd_s (P := True ∧ True ∧ True ∧ True ∧ (vp_in ((((8 : Int32)) * v1) + v2) (rK M4 (k0 + 4)).2) ∧ True) (σ1 := (92, [some (aR 21 k0), some (aI v1), some (aI v2), some (aI ((((8 : Int32)) * v1) + v2)), o4], [aI (rI M4 (k0 + 4) ((((8 : Int32)) * v1) + v2).toNatClampNeg), aR 21 k0], M4)) tc_213 rfl 5 (fun u => ⟨_, rfl⟩) ⟨trivial, trivial, trivial, trivial, c0, trivial⟩ ?_
      refine gd_callN (ml := 2) (as := [aR 21 k0, aI (rI M4 (k0 + 4) ((((8 : Int32)) * v1) + v2).toNatClampNeg)]) (rest := []) tc_213 rfl rfl rfl rfl rfl (by omega) (by omega) (Nat.le_of_ble_eq_true rfl) rfl (g_Mo_sayNumber (by omega) (by omega) h) (fun r9 M5 h => ?_)
      obtain ⟨rfl, h⟩ := h
      show Gd d w 213 _ (95, [some (aR 21 k0), some (aI v1), some (aI v2), some (aI ((((8 : Int32)) * v1) + v2)), o4], [], M5)
      obtain ⟨c0, h⟩ := h
      refine gd_s (P := True ∧ True ∧ True ∧ True ∧ (vp_in ((((8 : Int32)) * v1) + v2) (rK M5 (k0 + 5)).2) ∧ True) (σ1 := (102, [some (aR 21 k0), some (aI v1), some (aI v2), some (aI ((((8 : Int32)) * v1) + v2)), o4], [aI (rI M5 (k0 + 5) ((((8 : Int32)) * v1) + v2).toNatClampNeg), aR 21 k0], M5)) tc_213 rfl 5 (fun u => ⟨_, rfl⟩) ⟨trivial, trivial, trivial, trivial, c0, trivial⟩ ?_
      refine gd_br (c := (rI M5 (k0 + 5) ((((8 : Int32)) * v1) + v2).toNatClampNeg) = ((0 : Int32))) (st1 := [aR 21 k0]) tc_213 rfl rfl (fun _ => rfl) ⟨fun hc => ?_, fun hc => ?_⟩
      · have h := h.1 hc
        show Gd d w 213 _ (126, [some (aR 21 k0), some (aI v1), some (aI v2), some (aI ((((8 : Int32)) * v1) + v2)), o4], [aR 21 k0], M5)
        obtain ⟨c0, h⟩ := h
        refine gd_s (P := True ∧ True ∧ True ∧ (vp_in ((((8 : Int32)) * v1) + v2) (rK M5 (k0 + 6)).2) ∧ True) (σ1 := (132, [some (aR 21 k0), some (aI v1), some (aI v2), some (aI ((((8 : Int32)) * v1) + v2)), o4], [aI (rI M5 (k0 + 6) ((((8 : Int32)) * v1) + v2).toNatClampNeg), aR 21 k0], M5)) tc_213 rfl 4 (fun u => ⟨_, rfl⟩) ⟨trivial, trivial, trivial, c0, trivial⟩ ?_
        refine gd_br (c := (rI M5 (k0 + 6) ((((8 : Int32)) * v1) + v2).toNatClampNeg) = ((0 : Int32))) (st1 := [aR 21 k0]) tc_213 rfl rfl (fun _ => rfl) ⟨fun hc => ?_, fun hc => ?_⟩
        · have h := h.1 hc
          show Gd d w 213 _ (141, [some (aR 21 k0), some (aI v1), some (aI v2), some (aI ((((8 : Int32)) * v1) + v2)), o4], [aR 21 k0], M5)
          refine gd_s (P := True ∧ True) (σ1 := (144, [some (aR 21 k0), some (aI v1), some (aI v2), some (aI ((((8 : Int32)) * v1) + v2)), o4], [aR 1 33, aR 21 k0], M5)) tc_213 rfl 1 (fun u => ⟨_, rfl⟩) ⟨trivial, trivial⟩ ?_
          exact g_Mo_print_J144 hd hw ih k0 v1 v2 k0 33 (some (aI ((((8 : Int32)) * v1) + v2))) o4 M5 h
        · have h := h.2 hc
          show Gd d w 213 _ (135, [some (aR 21 k0), some (aI v1), some (aI v2), some (aI ((((8 : Int32)) * v1) + v2)), o4], [aR 21 k0], M5)
          refine gd_s (P := True ∧ True ∧ True) (σ1 := (144, [some (aR 21 k0), some (aI v1), some (aI v2), some (aI ((((8 : Int32)) * v1) + v2)), o4], [aR 1 32, aR 21 k0], M5)) tc_213 rfl 2 (fun u => ⟨_, rfl⟩) ⟨trivial, trivial, trivial⟩ ?_
          exact g_Mo_print_J144 hd hw ih k0 v1 v2 k0 32 (some (aI ((((8 : Int32)) * v1) + v2))) o4 M5 h
      · have h := h.2 hc
        show Gd d w 213 _ (105, [some (aR 21 k0), some (aI v1), some (aI v2), some (aI ((((8 : Int32)) * v1) + v2)), o4], [aR 21 k0], M5)
        obtain ⟨c0, h⟩ := h
        refine gd_s (P := True ∧ True ∧ True ∧ (vp_in ((((8 : Int32)) * v1) + v2) (rK M5 (k0 + 6)).2) ∧ True) (σ1 := (111, [some (aR 21 k0), some (aI v1), some (aI v2), some (aI ((((8 : Int32)) * v1) + v2)), o4], [aI (rI M5 (k0 + 6) ((((8 : Int32)) * v1) + v2).toNatClampNeg), aR 21 k0], M5)) tc_213 rfl 4 (fun u => ⟨_, rfl⟩) ⟨trivial, trivial, trivial, c0, trivial⟩ ?_
        refine gd_br (c := (rI M5 (k0 + 6) ((((8 : Int32)) * v1) + v2).toNatClampNeg) = ((0 : Int32))) (st1 := [aR 21 k0]) tc_213 rfl rfl (fun _ => rfl) ⟨fun hc => ?_, fun hc => ?_⟩
        · have h := h.1 hc
          show Gd d w 213 _ (120, [some (aR 21 k0), some (aI v1), some (aI v2), some (aI ((((8 : Int32)) * v1) + v2)), o4], [aR 21 k0], M5)
          refine gd_s (P := True ∧ True ∧ True) (σ1 := (144, [some (aR 21 k0), some (aI v1), some (aI v2), some (aI ((((8 : Int32)) * v1) + v2)), o4], [aR 1 31, aR 21 k0], M5)) tc_213 rfl 2 (fun u => ⟨_, rfl⟩) ⟨trivial, trivial, trivial⟩ ?_
          exact g_Mo_print_J144 hd hw ih k0 v1 v2 k0 31 (some (aI ((((8 : Int32)) * v1) + v2))) o4 M5 h
        · have h := h.2 hc
          show Gd d w 213 _ (114, [some (aR 21 k0), some (aI v1), some (aI v2), some (aI ((((8 : Int32)) * v1) + v2)), o4], [aR 21 k0], M5)
          refine gd_s (P := True ∧ True ∧ True) (σ1 := (144, [some (aR 21 k0), some (aI v1), some (aI v2), some (aI ((((8 : Int32)) * v1) + v2)), o4], [aR 1 30, aR 21 k0], M5)) tc_213 rfl 2 (fun u => ⟨_, rfl⟩) ⟨trivial, trivial, trivial⟩ ?_
          exact g_Mo_print_J144 hd hw ih k0 v1 v2 k0 30 (some (aI ((((8 : Int32)) * v1) + v2))) o4 M5 h
def w_Mo_print_J26 (post : Int32 → aM → Prop) (k0 : Nat) (v1 : Int32) (t0 : Nat) (s1 : Int32) (M : aM) : Prop := (((rI (wI M t0 0 s1) k0 0) ≤ ((0 : Int32))) → ∃ n9, w_Mo_print_L45 post n9 k0 v1 ((0 : Int32)) (wI (wI M t0 0 s1) k0 60 ((0 : Int32)))) ∧ (¬ ((rI (wI M t0 0 s1) k0 0) ≤ ((0 : Int32))) → post ((0 : Int32)) (wI M t0 0 s1))
theorem g_Mo_print_J26 {d w : Nat} (hd : 11 ≤ d) (hw : 325 ≤ w) {post : Int32 → aM → Prop} (k0 : Nat) (v1 : Int32) (t0 : Nat) (s1 : Int32) (o2 o3 o4 : Option aV) (M : aM) (h : w_Mo_print_J26 post k0 v1 t0 s1 M) : Gd d w 213 (pI post) (26, [some (aR 21 k0), some (aI v1), o2, o3, o4], [aI s1, aR 21 t0], M) := by
  unfold w_Mo_print_J26 at h
  show Gd d w 213 _ (26, [some (aR 21 k0), some (aI v1), o2, o3, o4], [aI s1, aR 21 t0], M)
  refine gd_s (P := True ∧ True ∧ True ∧ True) (σ1 := (33, [some (aR 21 k0), some (aI v1), o2, o3, o4], [aI (rI (wI M t0 0 s1) k0 0)], wI M t0 0 s1)) tc_213 rfl 3 (fun u => ⟨_, rfl⟩) ⟨trivial, trivial, trivial, trivial⟩ ?_
  refine gd_br (c := (rI (wI M t0 0 s1) k0 0) ≤ ((0 : Int32))) (st1 := []) tc_213 rfl rfl (fun _ => rfl) ⟨fun hc => ?_, fun hc => ?_⟩
  · have h := h.1 hc
    show Gd d w 213 _ (38, [some (aR 21 k0), some (aI v1), o2, o3, o4], [], wI M t0 0 s1)
    refine gd_s (P := True ∧ True ∧ True ∧ True ∧ True ∧ True) (σ1 := (45, [some (aR 21 k0), some (aI v1), some (aI ((0 : Int32))), o3, o4], [], wI (wI M t0 0 s1) k0 60 ((0 : Int32)))) tc_213 rfl 5 (fun u => ⟨_, rfl⟩) ⟨trivial, trivial, trivial, trivial, trivial, trivial⟩ ?_
    obtain ⟨n9, h⟩ := h
    exact g_Mo_print_L45 hd hw n9 k0 v1 ((0 : Int32)) o3 o4 (wI (wI M t0 0 s1) k0 60 ((0 : Int32))) h
  · have h := h.2 hc
    show Gd d w 213 _ (36, [some (aR 21 k0), some (aI v1), o2, o3, o4], [], wI M t0 0 s1)
    refine gd_s (P := True ∧ True) (σ1 := (37, [some (aR 21 k0), some (aI v1), o2, o3, o4], [aI ((0 : Int32))], wI M t0 0 s1)) tc_213 rfl 1 (fun u => ⟨_, rfl⟩) ⟨trivial, trivial⟩ ?_
    exact gd_ret tc_213 rfl rfl trivial (fun _ => rfl) ⟨_, rfl, h⟩
/-- PolicyJudgeModel.print(I)I -/
def w_Mo_print (post : Int32 → aM → Prop) (k0 : Nat) (v1 : Int32) (M : aM) : Prop := w_Mo_isText (fun x1 => ((¬ x1 = ((0 : Int32))) → (vp_in v1 (rK M (k0 + 2)).2) ∧ (((¬ (rI M (k0 + 2) v1.toNatClampNeg) = ((0 : Int32))) → w_Mo_print_J26 post k0 v1 k0 ((0 : Int32)) M) ∧ (¬ (¬ (rI M (k0 + 2) v1.toNatClampNeg) = ((0 : Int32))) → w_Mo_print_J26 post k0 v1 k0 ((2 : Int32)) M))) ∧ (¬ (¬ x1 = ((0 : Int32))) → w_Mo_print_J26 post k0 v1 k0 ((1 : Int32)) M)) v1 M
theorem g_Mo_print {d w : Nat} (hd : 11 ≤ d) (hw : 325 ≤ w) {post : Int32 → aM → Prop} {k0 : Nat} {v1 : Int32} {M : aM} (h : w_Mo_print post k0 v1 M) : Gd d w 213 (pI post) (0, aEnt 213 [aR 21 k0, aI v1], [], M) := by
  unfold w_Mo_print at h
  show Gd d w 213 _ (0, [some (aR 21 k0), some (aI v1), none, none, none], [], M)
  refine gd_s (P := True ∧ True ∧ True) (σ1 := (2, [some (aR 21 k0), some (aI v1), none, none, none], [aI v1, aR 21 k0], M)) tc_213 rfl 2 (fun u => ⟨_, rfl⟩) ⟨trivial, trivial, trivial⟩ ?_
  refine gd_callN (ml := 1) (as := [aI v1]) (rest := [aR 21 k0]) tc_213 rfl rfl rfl rfl rfl (by omega) (by omega) (Nat.le_of_ble_eq_true rfl) rfl (g_Mo_isText (by omega) (by omega) h) (fun r9 M9 h => ?_)
  obtain ⟨x1, rfl, e9, h⟩ := h
  subst M9
  show Gd d w 213 _ (5, [some (aR 21 k0), some (aI v1), none, none, none], [aI x1, aR 21 k0], M)
  refine gd_br (c := ¬ x1 = ((0 : Int32))) (st1 := [aR 21 k0]) tc_213 rfl rfl (fun _ => rfl) ⟨fun hc => ?_, fun hc => ?_⟩
  · have h := h.1 hc
    show Gd d w 213 _ (12, [some (aR 21 k0), some (aI v1), none, none, none], [aR 21 k0], M)
    obtain ⟨c0, h⟩ := h
    refine gd_s (P := True ∧ True ∧ True ∧ (vp_in v1 (rK M (k0 + 2)).2) ∧ True) (σ1 := (18, [some (aR 21 k0), some (aI v1), none, none, none], [aI (rI M (k0 + 2) v1.toNatClampNeg), aR 21 k0], M)) tc_213 rfl 4 (fun u => ⟨_, rfl⟩) ⟨trivial, trivial, trivial, c0, trivial⟩ ?_
    refine gd_br (c := ¬ (rI M (k0 + 2) v1.toNatClampNeg) = ((0 : Int32))) (st1 := [aR 21 k0]) tc_213 rfl rfl (fun _ => rfl) ⟨fun hc => ?_, fun hc => ?_⟩
    · have h := h.1 hc
      show Gd d w 213 _ (25, [some (aR 21 k0), some (aI v1), none, none, none], [aR 21 k0], M)
      refine gd_s (P := True ∧ True) (σ1 := (26, [some (aR 21 k0), some (aI v1), none, none, none], [aI ((0 : Int32)), aR 21 k0], M)) tc_213 rfl 1 (fun u => ⟨_, rfl⟩) ⟨trivial, trivial⟩ ?_
      exact g_Mo_print_J26 hd hw k0 v1 k0 ((0 : Int32)) none none none M h
    · have h := h.2 hc
      show Gd d w 213 _ (21, [some (aR 21 k0), some (aI v1), none, none, none], [aR 21 k0], M)
      refine gd_s (P := True ∧ True ∧ True) (σ1 := (26, [some (aR 21 k0), some (aI v1), none, none, none], [aI ((2 : Int32)), aR 21 k0], M)) tc_213 rfl 2 (fun u => ⟨_, rfl⟩) ⟨trivial, trivial, trivial⟩ ?_
      exact g_Mo_print_J26 hd hw k0 v1 k0 ((2 : Int32)) none none none M h
  · have h := h.2 hc
    show Gd d w 213 _ (8, [some (aR 21 k0), some (aI v1), none, none, none], [aR 21 k0], M)
    refine gd_s (P := True ∧ True ∧ True) (σ1 := (26, [some (aR 21 k0), some (aI v1), none, none, none], [aI ((1 : Int32)), aR 21 k0], M)) tc_213 rfl 2 (fun u => ⟨_, rfl⟩) ⟨trivial, trivial, trivial⟩ ?_
    exact g_Mo_print_J26 hd hw k0 v1 k0 ((1 : Int32)) none none none M h
theorem tc_227 : tC 227 = c227 := rfl
/-- PolicyJudgeModel.out(I)I -/
def w_Mo_out (post : Int32 → aM → Prop) (k0 : Nat) (v1 : Int32) (M : aM) : Prop := w_Mo_in (fun x1 => w_Mo_goes (fun x2 M2 => ((x2 = ((0 : Int32))) → post ((0 : Int32)) M2) ∧ (¬ (x2 = ((0 : Int32))) → (vp_in v1 (rK M2 (k0 + 47)).2) ∧ post ((rI M2 (k0 + 47) v1.toNatClampNeg) &&& ((255 : Int32))) M2)) k0 x1 M) v1 ((0 : Int32)) ((rI M k0 60) - ((1 : Int32))) M
theorem g_Mo_out {d w : Nat} (hd : 1 ≤ d) (hw : 22 ≤ w) {post : Int32 → aM → Prop} {k0 : Nat} {v1 : Int32} {M : aM} (h : w_Mo_out post k0 v1 M) : Gd d w 227 (pI post) (0, aEnt 227 [aR 21 k0, aI v1], [], M) := by
  unfold w_Mo_out at h
  show Gd d w 227 _ (0, [some (aR 21 k0), some (aI v1)], [], M)
  refine gd_s (P := True ∧ True ∧ True ∧ True ∧ True ∧ True ∧ True ∧ True) (σ1 := (9, [some (aR 21 k0), some (aI v1)], [aI ((rI M k0 60) - ((1 : Int32))), aI ((0 : Int32)), aI v1, aR 21 k0], M)) tc_227 rfl 7 (fun u => ⟨_, rfl⟩) ⟨trivial, trivial, trivial, trivial, trivial, trivial, trivial, trivial⟩ ?_
  refine gd_callN (ml := 3) (as := [aI v1, aI ((0 : Int32)), aI ((rI M k0 60) - ((1 : Int32)))]) (rest := [aR 21 k0]) tc_227 rfl rfl rfl rfl rfl (by omega) (by omega) (Nat.le_of_ble_eq_true rfl) rfl (g_Mo_in (by omega) (by omega) h) (fun r9 M9 h => ?_)
  obtain ⟨x1, rfl, e9, h⟩ := h
  subst M9
  show Gd d w 227 _ (12, [some (aR 21 k0), some (aI v1)], [aI x1, aR 21 k0], M)
  refine gd_callN (ml := 2) (as := [aR 21 k0, aI x1]) (rest := []) tc_227 rfl rfl rfl rfl rfl (by omega) (by omega) (Nat.le_of_ble_eq_true rfl) rfl (g_Mo_goes (by omega) (by omega) h) (fun r9 M2 h => ?_)
  obtain ⟨x2, rfl, h⟩ := h
  show Gd d w 227 _ (15, [some (aR 21 k0), some (aI v1)], [aI x2], M2)
  refine gd_br (c := x2 = ((0 : Int32))) (st1 := []) tc_227 rfl rfl (fun _ => rfl) ⟨fun hc => ?_, fun hc => ?_⟩
  · have h := h.1 hc
    show Gd d w 227 _ (31, [some (aR 21 k0), some (aI v1)], [], M2)
    refine gd_s (P := True ∧ True) (σ1 := (32, [some (aR 21 k0), some (aI v1)], [aI ((0 : Int32))], M2)) tc_227 rfl 1 (fun u => ⟨_, rfl⟩) ⟨trivial, trivial⟩ ?_
    exact gd_ret tc_227 rfl rfl trivial (fun _ => rfl) ⟨_, rfl, h⟩
  · have h := h.2 hc
    show Gd d w 227 _ (18, [some (aR 21 k0), some (aI v1)], [], M2)
    obtain ⟨c0, h⟩ := h
    refine gd_s (P := True ∧ True ∧ True ∧ (vp_in v1 (rK M2 (k0 + 47)).2) ∧ True ∧ True ∧ True ∧ True) (σ1 := (32, [some (aR 21 k0), some (aI v1)], [aI ((rI M2 (k0 + 47) v1.toNatClampNeg) &&& ((255 : Int32)))], M2)) tc_227 rfl 7 (fun u => ⟨_, rfl⟩) ⟨trivial, trivial, trivial, c0, trivial, trivial, trivial, trivial⟩ ?_
    exact gd_ret tc_227 rfl rfl trivial (fun _ => rfl) ⟨_, rfl, h⟩
theorem tc_228 : tC 228 = c228 := rfl
def w_Mo_again_L34 (post : Int32 → aM → Prop) : Nat → Nat → Int32 → aM → Prop
  | 0, _, _, _ => False
  | n + 1, k0, v1, M => (((rI M k0 60) ≤ v1) → post (rI M k0 2) M) ∧ (¬ ((rI M k0 60) ≤ v1) → (vp_in v1 (rK M (k0 + 47)).2) ∧ (vp_in v1 (rK M (k0 + 1)).2) ∧ (w_Mo_again_L34 post n k0 (v1 + (1 : Int32)) (wI M (k0 + 1) v1.toNatClampNeg (rI M (k0 + 47) v1.toNatClampNeg).toInt8.toInt32)))
theorem g_Mo_again_L34 {d w : Nat} (hd : 1 ≤ d) (hw : 21 ≤ w) {post : Int32 → aM → Prop} : ∀ (n : Nat) (k0 : Nat) (v1 : Int32) (M : aM), w_Mo_again_L34 post n k0 v1 M → Gd d w 228 (pI post) (34, [some (aR 21 k0), some (aI v1)], [], M) := by
  intro n
  induction n with
  | zero => intro k0 v1 M h; exact h.elim
  | succ n ih =>
    intro k0 v1 M h
    show Gd d w 228 _ (34, [some (aR 21 k0), some (aI v1)], [], M)
    refine gd_s (P := True ∧ True ∧ True ∧ True) (σ1 := (39, [some (aR 21 k0), some (aI v1)], [aI (rI M k0 60), aI v1], M)) tc_228 rfl 3 (fun u => ⟨_, rfl⟩) ⟨trivial, trivial, trivial, trivial⟩ ?_
    refine gd_br (c := (rI M k0 60) ≤ v1) (st1 := []) tc_228 rfl rfl (fun _ => rfl) ⟨fun hc => ?_, fun hc => ?_⟩
    · have h := h.1 hc
      show Gd d w 228 _ (60, [some (aR 21 k0), some (aI v1)], [], M)
      refine gd_s (P := True ∧ True ∧ True) (σ1 := (64, [some (aR 21 k0), some (aI v1)], [aI (rI M k0 2)], M)) tc_228 rfl 2 (fun u => ⟨_, rfl⟩) ⟨trivial, trivial, trivial⟩ ?_
      exact gd_ret tc_228 rfl rfl trivial (fun _ => rfl) ⟨_, rfl, h⟩
    · have h := h.2 hc
      show Gd d w 228 _ (42, [some (aR 21 k0), some (aI v1)], [], M)
      obtain ⟨c0, c1, h⟩ := h
      refine gd_s (P := True ∧ True ∧ True ∧ True ∧ True ∧ True ∧ (vp_in v1 (rK M (k0 + 47)).2) ∧ (vp_in v1 (rK M (k0 + 1)).2) ∧ True ∧ True ∧ True) (σ1 := (34, [some (aR 21 k0), some (aI (v1 + (1 : Int32)))], [], wI M (k0 + 1) v1.toNatClampNeg (rI M (k0 + 47) v1.toNatClampNeg).toInt8.toInt32)) tc_228 rfl 10 (fun u => ⟨_, rfl⟩) ⟨trivial, trivial, trivial, trivial, trivial, trivial, c0, c1, trivial, trivial, trivial⟩ ?_
      exact ih k0 (v1 + (1 : Int32)) (wI M (k0 + 1) v1.toNatClampNeg (rI M (k0 + 47) v1.toNatClampNeg).toInt8.toInt32) h
def w_Mo_again_J16 (post : Int32 → aM → Prop) (k0 : Nat) (t0 : Nat) (s1 : Int32) (M : aM) : Prop := w_Mo_goes (fun x1 M1 => ((¬ x1 = ((0 : Int32))) → ∃ n9, w_Mo_again_L34 post n9 k0 ((0 : Int32)) (wI M1 k0 2 (rI M1 k0 60))) ∧ (¬ (¬ x1 = ((0 : Int32))) → post ((0 : Int32)) M1)) t0 s1 M
theorem g_Mo_again_J16 {d w : Nat} (hd : 1 ≤ d) (hw : 21 ≤ w) {post : Int32 → aM → Prop} (k0 : Nat) (t0 : Nat) (s1 : Int32) (o1 : Option aV) (M : aM) (h : w_Mo_again_J16 post k0 t0 s1 M) : Gd d w 228 (pI post) (16, [some (aR 21 k0), o1], [aI s1, aR 21 t0], M) := by
  unfold w_Mo_again_J16 at h
  show Gd d w 228 _ (16, [some (aR 21 k0), o1], [aI s1, aR 21 t0], M)
  refine gd_callN (ml := 2) (as := [aR 21 t0, aI s1]) (rest := []) tc_228 rfl rfl rfl rfl rfl (by omega) (by omega) (Nat.le_of_ble_eq_true rfl) rfl (g_Mo_goes (by omega) (by omega) h) (fun r9 M1 h => ?_)
  obtain ⟨x1, rfl, h⟩ := h
  show Gd d w 228 _ (19, [some (aR 21 k0), o1], [aI x1], M1)
  refine gd_br (c := ¬ x1 = ((0 : Int32))) (st1 := []) tc_228 rfl rfl (fun _ => rfl) ⟨fun hc => ?_, fun hc => ?_⟩
  · have h := h.1 hc
    show Gd d w 228 _ (24, [some (aR 21 k0), o1], [], M1)
    refine gd_s (P := True ∧ True ∧ True ∧ True ∧ True ∧ True ∧ True) (σ1 := (34, [some (aR 21 k0), some (aI ((0 : Int32)))], [], wI M1 k0 2 (rI M1 k0 60))) tc_228 rfl 6 (fun u => ⟨_, rfl⟩) ⟨trivial, trivial, trivial, trivial, trivial, trivial, trivial⟩ ?_
    obtain ⟨n9, h⟩ := h
    exact g_Mo_again_L34 hd hw n9 k0 ((0 : Int32)) (wI M1 k0 2 (rI M1 k0 60)) h
  · have h := h.2 hc
    show Gd d w 228 _ (22, [some (aR 21 k0), o1], [], M1)
    refine gd_s (P := True ∧ True) (σ1 := (23, [some (aR 21 k0), o1], [aI ((0 : Int32))], M1)) tc_228 rfl 1 (fun u => ⟨_, rfl⟩) ⟨trivial, trivial⟩ ?_
    exact gd_ret tc_228 rfl rfl trivial (fun _ => rfl) ⟨_, rfl, h⟩
/-- PolicyJudgeModel.again()I -/
def w_Mo_again (post : Int32 → aM → Prop) (k0 : Nat) (M : aM) : Prop := ((((6000 : Int32)) < (rI M k0 60)) → w_Mo_again_J16 post k0 k0 ((0 : Int32)) M) ∧ (¬ (((6000 : Int32)) < (rI M k0 60)) → w_Mo_again_J16 post k0 k0 ((1 : Int32)) M)
theorem g_Mo_again {d w : Nat} (hd : 1 ≤ d) (hw : 21 ≤ w) {post : Int32 → aM → Prop} {k0 : Nat} {M : aM} (h : w_Mo_again post k0 M) : Gd d w 228 (pI post) (0, aEnt 228 [aR 21 k0], [], M) := by
  unfold w_Mo_again at h
  show Gd d w 228 _ (0, [some (aR 21 k0), none], [], M)
  refine gd_s (P := True ∧ True ∧ True ∧ True ∧ True) (σ1 := (8, [some (aR 21 k0), none], [aI ((6000 : Int32)), aI (rI M k0 60), aR 21 k0], M)) tc_228 rfl 4 (fun u => ⟨_, rfl⟩) ⟨trivial, trivial, trivial, trivial, trivial⟩ ?_
  refine gd_br (c := ((6000 : Int32)) < (rI M k0 60)) (st1 := [aR 21 k0]) tc_228 rfl rfl (fun _ => rfl) ⟨fun hc => ?_, fun hc => ?_⟩
  · have h := h.1 hc
    show Gd d w 228 _ (15, [some (aR 21 k0), none], [aR 21 k0], M)
    refine gd_s (P := True ∧ True) (σ1 := (16, [some (aR 21 k0), none], [aI ((0 : Int32)), aR 21 k0], M)) tc_228 rfl 1 (fun u => ⟨_, rfl⟩) ⟨trivial, trivial⟩ ?_
    exact g_Mo_again_J16 hd hw k0 k0 ((0 : Int32)) none M h
  · have h := h.2 hc
    show Gd d w 228 _ (11, [some (aR 21 k0), none], [aR 21 k0], M)
    refine gd_s (P := True ∧ True ∧ True) (σ1 := (16, [some (aR 21 k0), none], [aI ((1 : Int32)), aR 21 k0], M)) tc_228 rfl 2 (fun u => ⟨_, rfl⟩) ⟨trivial, trivial, trivial⟩ ?_
    exact g_Mo_again_J16 hd hw k0 k0 ((1 : Int32)) none M h
