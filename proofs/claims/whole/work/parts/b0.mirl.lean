set_option maxRecDepth 100000
/-! Mirror of the law's loop. -/
theorem tc_249 : tC 249 = c249 := rfl
def w_La_law_J136 (post : Int32 → aM → Prop) (K23 : Nat → Nat → Nat → Int32 → aM → Prop) (k1 : Nat) (k2 : Nat) (k3 : Nat) (v4 : Int32) (M : aM) : Prop := (vp_in (v4 + ((1 : Int32))) (rK M 0).2) ∧ (vp_in (v4 + ((2 : Int32))) (rK M 0).2) ∧ (vp_in (v4 + ((3 : Int32))) (rK M 0).2) ∧ (vp_in (v4 + ((4 : Int32))) (rK M 0).2) ∧ (vp_in (v4 + ((5 : Int32))) (rK M 0).2) ∧ (0 < aN M ∧ w_La_feed (fun x1 M1 => (vp_in (v4 + ((1 : Int32))) (rK M1 0).2) ∧ (vp_in (v4 + ((2 : Int32))) (rK M1 0).2) ∧ (vp_in (v4 + ((3 : Int32))) (rK M1 0).2) ∧ (vp_in (v4 + ((4 : Int32))) (rK M1 0).2) ∧ (vp_in (v4 + ((5 : Int32))) (rK M1 0).2) ∧ (w_Mo_feed (fun x2 M2 => w_Mo_thrown (fun x3 => ((x3 = x1) → ((¬ x1 = ((0 : Int32))) → K23 k1 k2 k3 (v4 + (6 : Int32)) M2) ∧ (¬ (¬ x1 = ((0 : Int32))) → (vp_in ((0 : Int32)) (rK M2 k3).2) ∧ ((((lg_cmp (rJ M2 k3 ((0 : Int32)).toNatClampNeg) x2.toInt64) = ((0 : Int32))) → K23 k1 k2 k3 (v4 + (6 : Int32)) M2) ∧ (¬ ((lg_cmp (rJ M2 k3 ((0 : Int32)).toNatClampNeg) x2.toInt64) = ((0 : Int32))) → (((0 : Int32)) = 0 ∨ ((0 : Int32)) = 1) ∧ post ((0 : Int32)) M2)))) ∧ (¬ (x3 = x1) → (((0 : Int32)) = 0 ∨ ((0 : Int32)) = 1) ∧ post ((0 : Int32)) M2)) k2 M2) k2 (rI M1 0 (v4 + ((1 : Int32))).toNatClampNeg) (rI M1 0 (v4 + ((2 : Int32))).toNatClampNeg) (rI M1 0 (v4 + ((3 : Int32))).toNatClampNeg) (rI M1 0 (v4 + ((4 : Int32))).toNatClampNeg) (rI M1 0 (v4 + ((5 : Int32))).toNatClampNeg) M1)) k1 (rI M 0 (v4 + ((1 : Int32))).toNatClampNeg) (rI M 0 (v4 + ((2 : Int32))).toNatClampNeg) (rI M 0 (v4 + ((3 : Int32))).toNatClampNeg) (rI M 0 (v4 + ((4 : Int32))).toNatClampNeg) (rI M 0 (v4 + ((5 : Int32))).toNatClampNeg) k3 M)
theorem g_La_law_J136 {d w : Nat} (hd : 159 ≤ d) (hw : 4253 ≤ w) {post : Int32 → aM → Prop} {K23 : Nat → Nat → Nat → Int32 → aM → Prop} (hK23 : ∀ (k1 : Nat) (k2 : Nat) (k3 : Nat) (v4 : Int32) (o5 o6 : Option aV) (M : aM), K23 k1 k2 k3 v4 M → Gd d w 249 (pI post) (23, [some (aR 2 0), some (aR 10 k1), some (aR 21 k2), some (aR 6 k3), some (aI v4), o5, o6], [], M)) (k1 : Nat) (k2 : Nat) (k3 : Nat) (v4 : Int32) (o5 o6 : Option aV) (M : aM) (h : w_La_law_J136 post K23 k1 k2 k3 v4 M) : Gd d w 249 (pI post) (136, [some (aR 2 0), some (aR 10 k1), some (aR 21 k2), some (aR 6 k3), some (aI v4), o5, o6], [], M) := by
  unfold w_La_law_J136 at h
  show Gd d w 249 _ (136, [some (aR 2 0), some (aR 10 k1), some (aR 21 k2), some (aR 6 k3), some (aI v4), o5, o6], [], M)
  obtain ⟨c0, c1, c2, c3, c4, h⟩ := h
  refine gd_s (P := True ∧ True ∧ True ∧ True ∧ True ∧ (vp_in (v4 + ((1 : Int32))) (rK M 0).2) ∧ True ∧ True ∧ True ∧ True ∧ (vp_in (v4 + ((2 : Int32))) (rK M 0).2) ∧ True ∧ True ∧ True ∧ True ∧ (vp_in (v4 + ((3 : Int32))) (rK M 0).2) ∧ True ∧ True ∧ True ∧ True ∧ (vp_in (v4 + ((4 : Int32))) (rK M 0).2) ∧ True ∧ True ∧ True ∧ True ∧ (vp_in (v4 + ((5 : Int32))) (rK M 0).2) ∧ True ∧ True) (σ1 := (168, [some (aR 2 0), some (aR 10 k1), some (aR 21 k2), some (aR 6 k3), some (aI v4), o5, o6], [aR 6 k3, aI (rI M 0 (v4 + ((5 : Int32))).toNatClampNeg), aI (rI M 0 (v4 + ((4 : Int32))).toNatClampNeg), aI (rI M 0 (v4 + ((3 : Int32))).toNatClampNeg), aI (rI M 0 (v4 + ((2 : Int32))).toNatClampNeg), aI (rI M 0 (v4 + ((1 : Int32))).toNatClampNeg), aR 10 k1], M)) tc_249 rfl 27 (fun u => ⟨_, rfl⟩) ⟨trivial, trivial, trivial, trivial, trivial, c0, trivial, trivial, trivial, trivial, c1, trivial, trivial, trivial, trivial, c2, trivial, trivial, trivial, trivial, c3, trivial, trivial, trivial, trivial, c4, trivial, trivial⟩ ?_
  obtain ⟨hN, h⟩ := h
  refine gd_callN (ml := 8) (as := [aR 10 k1, aI (rI M 0 (v4 + ((1 : Int32))).toNatClampNeg), aI (rI M 0 (v4 + ((2 : Int32))).toNatClampNeg), aI (rI M 0 (v4 + ((3 : Int32))).toNatClampNeg), aI (rI M 0 (v4 + ((4 : Int32))).toNatClampNeg), aI (rI M 0 (v4 + ((5 : Int32))).toNatClampNeg), aR 6 k3]) (rest := []) tc_249 rfl rfl rfl rfl rfl (by omega) (by omega) (Nat.le_of_ble_eq_true rfl) rfl (g_La_feed (by omega) (by omega) hN h) (fun r9 M1 h => ?_)
  obtain ⟨x1, rfl, h⟩ := h
  show Gd d w 249 _ (171, [some (aR 2 0), some (aR 10 k1), some (aR 21 k2), some (aR 6 k3), some (aI v4), o5, o6], [aI x1], M1)
  obtain ⟨c0, c1, c2, c3, c4, h⟩ := h
  refine gd_s (P := True ∧ True ∧ True ∧ True ∧ True ∧ True ∧ (vp_in (v4 + ((1 : Int32))) (rK M1 0).2) ∧ True ∧ True ∧ True ∧ True ∧ (vp_in (v4 + ((2 : Int32))) (rK M1 0).2) ∧ True ∧ True ∧ True ∧ True ∧ (vp_in (v4 + ((3 : Int32))) (rK M1 0).2) ∧ True ∧ True ∧ True ∧ True ∧ (vp_in (v4 + ((4 : Int32))) (rK M1 0).2) ∧ True ∧ True ∧ True ∧ True ∧ (vp_in (v4 + ((5 : Int32))) (rK M1 0).2) ∧ True) (σ1 := (204, [some (aR 2 0), some (aR 10 k1), some (aR 21 k2), some (aR 6 k3), some (aI v4), some (aI x1), o6], [aI (rI M1 0 (v4 + ((5 : Int32))).toNatClampNeg), aI (rI M1 0 (v4 + ((4 : Int32))).toNatClampNeg), aI (rI M1 0 (v4 + ((3 : Int32))).toNatClampNeg), aI (rI M1 0 (v4 + ((2 : Int32))).toNatClampNeg), aI (rI M1 0 (v4 + ((1 : Int32))).toNatClampNeg), aR 21 k2], M1)) tc_249 rfl 27 (fun u => ⟨_, rfl⟩) ⟨trivial, trivial, trivial, trivial, trivial, trivial, c0, trivial, trivial, trivial, trivial, c1, trivial, trivial, trivial, trivial, c2, trivial, trivial, trivial, trivial, c3, trivial, trivial, trivial, trivial, c4, trivial⟩ ?_
  refine gd_callN (ml := 8) (as := [aR 21 k2, aI (rI M1 0 (v4 + ((1 : Int32))).toNatClampNeg), aI (rI M1 0 (v4 + ((2 : Int32))).toNatClampNeg), aI (rI M1 0 (v4 + ((3 : Int32))).toNatClampNeg), aI (rI M1 0 (v4 + ((4 : Int32))).toNatClampNeg), aI (rI M1 0 (v4 + ((5 : Int32))).toNatClampNeg)]) (rest := []) tc_249 rfl rfl rfl rfl rfl (by omega) (by omega) (Nat.le_of_ble_eq_true rfl) rfl (g_Mo_feed (by omega) (by omega) h) (fun r9 M2 h => ?_)
  obtain ⟨x2, rfl, h⟩ := h
  show Gd d w 249 _ (207, [some (aR 2 0), some (aR 10 k1), some (aR 21 k2), some (aR 6 k3), some (aI v4), some (aI x1), o6], [aI x2], M2)
  refine gd_s (P := True ∧ True ∧ True) (σ1 := (210, [some (aR 2 0), some (aR 10 k1), some (aR 21 k2), some (aR 6 k3), some (aI v4), some (aI x1), some (aI x2)], [aR 21 k2], M2)) tc_249 rfl 2 (fun u => ⟨_, rfl⟩) ⟨trivial, trivial, trivial⟩ ?_
  refine gd_callN (ml := 1) (as := [aR 21 k2]) (rest := []) tc_249 rfl rfl rfl rfl rfl (by omega) (by omega) (Nat.le_of_ble_eq_true rfl) rfl (g_Mo_thrown (by omega) (by omega) h) (fun r9 M9 h => ?_)
  obtain ⟨x3, rfl, e9, h⟩ := h
  subst M9
  show Gd d w 249 _ (213, [some (aR 2 0), some (aR 10 k1), some (aR 21 k2), some (aR 6 k3), some (aI v4), some (aI x1), some (aI x2)], [aI x3], M2)
  refine gd_s (P := True ∧ True) (σ1 := (215, [some (aR 2 0), some (aR 10 k1), some (aR 21 k2), some (aR 6 k3), some (aI v4), some (aI x1), some (aI x2)], [aI x1, aI x3], M2)) tc_249 rfl 1 (fun u => ⟨_, rfl⟩) ⟨trivial, trivial⟩ ?_
  refine gd_br (c := x3 = x1) (st1 := []) tc_249 rfl rfl (fun _ => rfl) ⟨fun hc => ?_, fun hc => ?_⟩
  · have h := h.1 hc
    show Gd d w 249 _ (220, [some (aR 2 0), some (aR 10 k1), some (aR 21 k2), some (aR 6 k3), some (aI v4), some (aI x1), some (aI x2)], [], M2)
    refine gd_s (P := True ∧ True) (σ1 := (222, [some (aR 2 0), some (aR 10 k1), some (aR 21 k2), some (aR 6 k3), some (aI v4), some (aI x1), some (aI x2)], [aI x1], M2)) tc_249 rfl 1 (fun u => ⟨_, rfl⟩) ⟨trivial, trivial⟩ ?_
    refine gd_br (c := ¬ x1 = ((0 : Int32))) (st1 := []) tc_249 rfl rfl (fun _ => rfl) ⟨fun hc => ?_, fun hc => ?_⟩
    · have h := h.1 hc
      show Gd d w 249 _ (237, [some (aR 2 0), some (aR 10 k1), some (aR 21 k2), some (aR 6 k3), some (aI v4), some (aI x1), some (aI x2)], [], M2)
      refine gd_s (P := True ∧ True ∧ True ∧ True) (σ1 := (23, [some (aR 2 0), some (aR 10 k1), some (aR 21 k2), some (aR 6 k3), some (aI (v4 + (6 : Int32))), some (aI x1), some (aI x2)], [], M2)) tc_249 rfl 3 (fun u => ⟨_, rfl⟩) ⟨trivial, trivial, trivial, trivial⟩ ?_
      exact hK23 k1 k2 k3 (v4 + (6 : Int32)) (some (aI x1)) (some (aI x2)) M2 h
    · have h := h.2 hc
      show Gd d w 249 _ (225, [some (aR 2 0), some (aR 10 k1), some (aR 21 k2), some (aR 6 k3), some (aI v4), some (aI x1), some (aI x2)], [], M2)
      obtain ⟨c0, h⟩ := h
      refine gd_s (P := True ∧ True ∧ (vp_in ((0 : Int32)) (rK M2 k3).2) ∧ True ∧ True ∧ True ∧ True) (σ1 := (232, [some (aR 2 0), some (aR 10 k1), some (aR 21 k2), some (aR 6 k3), some (aI v4), some (aI x1), some (aI x2)], [aI (lg_cmp (rJ M2 k3 ((0 : Int32)).toNatClampNeg) x2.toInt64)], M2)) tc_249 rfl 6 (fun u => ⟨_, rfl⟩) ⟨trivial, trivial, c0, trivial, trivial, trivial, trivial⟩ ?_
      refine gd_br (c := (lg_cmp (rJ M2 k3 ((0 : Int32)).toNatClampNeg) x2.toInt64) = ((0 : Int32))) (st1 := []) tc_249 rfl rfl (fun _ => rfl) ⟨fun hc => ?_, fun hc => ?_⟩
      · have h := h.1 hc
        show Gd d w 249 _ (237, [some (aR 2 0), some (aR 10 k1), some (aR 21 k2), some (aR 6 k3), some (aI v4), some (aI x1), some (aI x2)], [], M2)
        refine gd_s (P := True ∧ True ∧ True ∧ True) (σ1 := (23, [some (aR 2 0), some (aR 10 k1), some (aR 21 k2), some (aR 6 k3), some (aI (v4 + (6 : Int32))), some (aI x1), some (aI x2)], [], M2)) tc_249 rfl 3 (fun u => ⟨_, rfl⟩) ⟨trivial, trivial, trivial, trivial⟩ ?_
        exact hK23 k1 k2 k3 (v4 + (6 : Int32)) (some (aI x1)) (some (aI x2)) M2 h
      · have h := h.2 hc
        show Gd d w 249 _ (235, [some (aR 2 0), some (aR 10 k1), some (aR 21 k2), some (aR 6 k3), some (aI v4), some (aI x1), some (aI x2)], [], M2)
        refine gd_s (P := True ∧ True) (σ1 := (236, [some (aR 2 0), some (aR 10 k1), some (aR 21 k2), some (aR 6 k3), some (aI v4), some (aI x1), some (aI x2)], [aI ((0 : Int32))], M2)) tc_249 rfl 1 (fun u => ⟨_, rfl⟩) ⟨trivial, trivial⟩ ?_
        exact gd_ret tc_249 rfl rfl h.1 (fun _ => rfl) ⟨_, rfl, h.2⟩
  · have h := h.2 hc
    show Gd d w 249 _ (218, [some (aR 2 0), some (aR 10 k1), some (aR 21 k2), some (aR 6 k3), some (aI v4), some (aI x1), some (aI x2)], [], M2)
    refine gd_s (P := True ∧ True) (σ1 := (219, [some (aR 2 0), some (aR 10 k1), some (aR 21 k2), some (aR 6 k3), some (aI v4), some (aI x1), some (aI x2)], [aI ((0 : Int32))], M2)) tc_249 rfl 1 (fun u => ⟨_, rfl⟩) ⟨trivial, trivial⟩ ?_
    exact gd_ret tc_249 rfl rfl h.1 (fun _ => rfl) ⟨_, rfl, h.2⟩
def w_La_law_J240 (post : Int32 → aM → Prop) (K23 : Nat → Nat → Nat → Int32 → aM → Prop) (k1 : Nat) (k2 : Nat) (k3 : Nat) (v4 : Int32) (M : aM) : Prop := (vp_in (v4 + ((1 : Int32))) (rK M 0).2) ∧ (0 < aN M ∧ w_La_end (fun x1 M1 => (vp_in (v4 + ((1 : Int32))) (rK M1 0).2) ∧ (w_Mo_end (fun M2 => w_Mo_thrown (fun x3 => ((x3 = x1) → K23 k1 k2 k3 (v4 + (6 : Int32)) M2) ∧ (¬ (x3 = x1) → (((0 : Int32)) = 0 ∨ ((0 : Int32)) = 1) ∧ post ((0 : Int32)) M2)) k2 M2) k2 (rI M1 0 (v4 + ((1 : Int32))).toNatClampNeg) M1)) k1 (rI M 0 (v4 + ((1 : Int32))).toNatClampNeg) M)
theorem g_La_law_J240 {d w : Nat} (hd : 159 ≤ d) (hw : 4253 ≤ w) {post : Int32 → aM → Prop} {K23 : Nat → Nat → Nat → Int32 → aM → Prop} (hK23 : ∀ (k1 : Nat) (k2 : Nat) (k3 : Nat) (v4 : Int32) (o5 o6 : Option aV) (M : aM), K23 k1 k2 k3 v4 M → Gd d w 249 (pI post) (23, [some (aR 2 0), some (aR 10 k1), some (aR 21 k2), some (aR 6 k3), some (aI v4), o5, o6], [], M)) (k1 : Nat) (k2 : Nat) (k3 : Nat) (v4 : Int32) (o5 o6 : Option aV) (M : aM) (h : w_La_law_J240 post K23 k1 k2 k3 v4 M) : Gd d w 249 (pI post) (240, [some (aR 2 0), some (aR 10 k1), some (aR 21 k2), some (aR 6 k3), some (aI v4), o5, o6], [], M) := by
  unfold w_La_law_J240 at h
  show Gd d w 249 _ (240, [some (aR 2 0), some (aR 10 k1), some (aR 21 k2), some (aR 6 k3), some (aI v4), o5, o6], [], M)
  obtain ⟨c0, h⟩ := h
  refine gd_s (P := True ∧ True ∧ True ∧ True ∧ True ∧ (vp_in (v4 + ((1 : Int32))) (rK M 0).2) ∧ True) (σ1 := (247, [some (aR 2 0), some (aR 10 k1), some (aR 21 k2), some (aR 6 k3), some (aI v4), o5, o6], [aI (rI M 0 (v4 + ((1 : Int32))).toNatClampNeg), aR 10 k1], M)) tc_249 rfl 6 (fun u => ⟨_, rfl⟩) ⟨trivial, trivial, trivial, trivial, trivial, c0, trivial⟩ ?_
  obtain ⟨hN, h⟩ := h
  refine gd_callN (ml := 3) (as := [aR 10 k1, aI (rI M 0 (v4 + ((1 : Int32))).toNatClampNeg)]) (rest := []) tc_249 rfl rfl rfl rfl rfl (by omega) (by omega) (Nat.le_of_ble_eq_true rfl) rfl (g_La_end (by omega) (by omega) hN h) (fun r9 M1 h => ?_)
  obtain ⟨x1, rfl, h⟩ := h
  show Gd d w 249 _ (250, [some (aR 2 0), some (aR 10 k1), some (aR 21 k2), some (aR 6 k3), some (aI v4), o5, o6], [aI x1], M1)
  obtain ⟨c0, h⟩ := h
  refine gd_s (P := True ∧ True ∧ True ∧ True ∧ True ∧ True ∧ (vp_in (v4 + ((1 : Int32))) (rK M1 0).2) ∧ True) (σ1 := (259, [some (aR 2 0), some (aR 10 k1), some (aR 21 k2), some (aR 6 k3), some (aI v4), some (aI x1), o6], [aI (rI M1 0 (v4 + ((1 : Int32))).toNatClampNeg), aR 21 k2], M1)) tc_249 rfl 7 (fun u => ⟨_, rfl⟩) ⟨trivial, trivial, trivial, trivial, trivial, trivial, c0, trivial⟩ ?_
  refine gd_callN (ml := 2) (as := [aR 21 k2, aI (rI M1 0 (v4 + ((1 : Int32))).toNatClampNeg)]) (rest := []) tc_249 rfl rfl rfl rfl rfl (by omega) (by omega) (Nat.le_of_ble_eq_true rfl) rfl (g_Mo_end (by omega) (by omega) h) (fun r9 M2 h => ?_)
  obtain ⟨rfl, h⟩ := h
  show Gd d w 249 _ (262, [some (aR 2 0), some (aR 10 k1), some (aR 21 k2), some (aR 6 k3), some (aI v4), some (aI x1), o6], [], M2)
  refine gd_s (P := True ∧ True) (σ1 := (263, [some (aR 2 0), some (aR 10 k1), some (aR 21 k2), some (aR 6 k3), some (aI v4), some (aI x1), o6], [aR 21 k2], M2)) tc_249 rfl 1 (fun u => ⟨_, rfl⟩) ⟨trivial, trivial⟩ ?_
  refine gd_callN (ml := 1) (as := [aR 21 k2]) (rest := []) tc_249 rfl rfl rfl rfl rfl (by omega) (by omega) (Nat.le_of_ble_eq_true rfl) rfl (g_Mo_thrown (by omega) (by omega) h) (fun r9 M9 h => ?_)
  obtain ⟨x3, rfl, e9, h⟩ := h
  subst M9
  show Gd d w 249 _ (266, [some (aR 2 0), some (aR 10 k1), some (aR 21 k2), some (aR 6 k3), some (aI v4), some (aI x1), o6], [aI x3], M2)
  refine gd_s (P := True ∧ True) (σ1 := (268, [some (aR 2 0), some (aR 10 k1), some (aR 21 k2), some (aR 6 k3), some (aI v4), some (aI x1), o6], [aI x1, aI x3], M2)) tc_249 rfl 1 (fun u => ⟨_, rfl⟩) ⟨trivial, trivial⟩ ?_
  refine gd_br (c := x3 = x1) (st1 := []) tc_249 rfl rfl (fun _ => rfl) ⟨fun hc => ?_, fun hc => ?_⟩
  · have h := h.1 hc
    show Gd d w 249 _ (273, [some (aR 2 0), some (aR 10 k1), some (aR 21 k2), some (aR 6 k3), some (aI v4), some (aI x1), o6], [], M2)
    refine gd_s (P := True ∧ True ∧ True ∧ True) (σ1 := (23, [some (aR 2 0), some (aR 10 k1), some (aR 21 k2), some (aR 6 k3), some (aI (v4 + (6 : Int32))), some (aI x1), o6], [], M2)) tc_249 rfl 3 (fun u => ⟨_, rfl⟩) ⟨trivial, trivial, trivial, trivial⟩ ?_
    exact hK23 k1 k2 k3 (v4 + (6 : Int32)) (some (aI x1)) o6 M2 h
  · have h := h.2 hc
    show Gd d w 249 _ (271, [some (aR 2 0), some (aR 10 k1), some (aR 21 k2), some (aR 6 k3), some (aI v4), some (aI x1), o6], [], M2)
    refine gd_s (P := True ∧ True) (σ1 := (272, [some (aR 2 0), some (aR 10 k1), some (aR 21 k2), some (aR 6 k3), some (aI v4), some (aI x1), o6], [aI ((0 : Int32))], M2)) tc_249 rfl 1 (fun u => ⟨_, rfl⟩) ⟨trivial, trivial⟩ ?_
    exact gd_ret tc_249 rfl rfl h.1 (fun _ => rfl) ⟨_, rfl, h.2⟩
def w_La_law_J276 (post : Int32 → aM → Prop) (K23 : Nat → Nat → Nat → Int32 → aM → Prop) (k1 : Nat) (k2 : Nat) (k3 : Nat) (v4 : Int32) (M : aM) : Prop := (vp_in (v4 + ((1 : Int32))) (rK M 0).2) ∧ (0 < aN M ∧ w_La_load (fun x1 M1 => (vp_in (v4 + ((1 : Int32))) (rK M1 0).2) ∧ (w_Mo_load (fun x2 M2 => w_Mo_thrown (fun x3 => ((x3 = x1) → ((¬ x1 = ((0 : Int32))) → K23 k1 k2 k3 (v4 + (6 : Int32)) M2) ∧ (¬ (¬ x1 = ((0 : Int32))) → (vp_in ((0 : Int32)) (rK M2 k3).2) ∧ ((((lg_cmp (rJ M2 k3 ((0 : Int32)).toNatClampNeg) x2.toInt64) = ((0 : Int32))) → K23 k1 k2 k3 (v4 + (6 : Int32)) M2) ∧ (¬ ((lg_cmp (rJ M2 k3 ((0 : Int32)).toNatClampNeg) x2.toInt64) = ((0 : Int32))) → (((0 : Int32)) = 0 ∨ ((0 : Int32)) = 1) ∧ post ((0 : Int32)) M2)))) ∧ (¬ (x3 = x1) → (((0 : Int32)) = 0 ∨ ((0 : Int32)) = 1) ∧ post ((0 : Int32)) M2)) k2 M2) k2 (rI M1 0 (v4 + ((1 : Int32))).toNatClampNeg) M1)) k1 (rI M 0 (v4 + ((1 : Int32))).toNatClampNeg) k3 M)
theorem g_La_law_J276 {d w : Nat} (hd : 159 ≤ d) (hw : 4253 ≤ w) {post : Int32 → aM → Prop} {K23 : Nat → Nat → Nat → Int32 → aM → Prop} (hK23 : ∀ (k1 : Nat) (k2 : Nat) (k3 : Nat) (v4 : Int32) (o5 o6 : Option aV) (M : aM), K23 k1 k2 k3 v4 M → Gd d w 249 (pI post) (23, [some (aR 2 0), some (aR 10 k1), some (aR 21 k2), some (aR 6 k3), some (aI v4), o5, o6], [], M)) (k1 : Nat) (k2 : Nat) (k3 : Nat) (v4 : Int32) (o5 o6 : Option aV) (M : aM) (h : w_La_law_J276 post K23 k1 k2 k3 v4 M) : Gd d w 249 (pI post) (276, [some (aR 2 0), some (aR 10 k1), some (aR 21 k2), some (aR 6 k3), some (aI v4), o5, o6], [], M) := by
  unfold w_La_law_J276 at h
  show Gd d w 249 _ (276, [some (aR 2 0), some (aR 10 k1), some (aR 21 k2), some (aR 6 k3), some (aI v4), o5, o6], [], M)
  obtain ⟨c0, h⟩ := h
  refine gd_s (P := True ∧ True ∧ True ∧ True ∧ True ∧ (vp_in (v4 + ((1 : Int32))) (rK M 0).2) ∧ True ∧ True) (σ1 := (284, [some (aR 2 0), some (aR 10 k1), some (aR 21 k2), some (aR 6 k3), some (aI v4), o5, o6], [aR 6 k3, aI (rI M 0 (v4 + ((1 : Int32))).toNatClampNeg), aR 10 k1], M)) tc_249 rfl 7 (fun u => ⟨_, rfl⟩) ⟨trivial, trivial, trivial, trivial, trivial, c0, trivial, trivial⟩ ?_
  obtain ⟨hN, h⟩ := h
  refine gd_callN (ml := 4) (as := [aR 10 k1, aI (rI M 0 (v4 + ((1 : Int32))).toNatClampNeg), aR 6 k3]) (rest := []) tc_249 rfl rfl rfl rfl rfl (by omega) (by omega) (Nat.le_of_ble_eq_true rfl) rfl (g_La_load (by omega) (by omega) hN h) (fun r9 M1 h => ?_)
  obtain ⟨x1, rfl, h⟩ := h
  show Gd d w 249 _ (287, [some (aR 2 0), some (aR 10 k1), some (aR 21 k2), some (aR 6 k3), some (aI v4), o5, o6], [aI x1], M1)
  obtain ⟨c0, h⟩ := h
  refine gd_s (P := True ∧ True ∧ True ∧ True ∧ True ∧ True ∧ (vp_in (v4 + ((1 : Int32))) (rK M1 0).2) ∧ True) (σ1 := (296, [some (aR 2 0), some (aR 10 k1), some (aR 21 k2), some (aR 6 k3), some (aI v4), some (aI x1), o6], [aI (rI M1 0 (v4 + ((1 : Int32))).toNatClampNeg), aR 21 k2], M1)) tc_249 rfl 7 (fun u => ⟨_, rfl⟩) ⟨trivial, trivial, trivial, trivial, trivial, trivial, c0, trivial⟩ ?_
  refine gd_callN (ml := 2) (as := [aR 21 k2, aI (rI M1 0 (v4 + ((1 : Int32))).toNatClampNeg)]) (rest := []) tc_249 rfl rfl rfl rfl rfl (by omega) (by omega) (Nat.le_of_ble_eq_true rfl) rfl (g_Mo_load (by omega) (by omega) h) (fun r9 M2 h => ?_)
  obtain ⟨x2, rfl, h⟩ := h
  show Gd d w 249 _ (299, [some (aR 2 0), some (aR 10 k1), some (aR 21 k2), some (aR 6 k3), some (aI v4), some (aI x1), o6], [aI x2], M2)
  refine gd_s (P := True ∧ True ∧ True) (σ1 := (302, [some (aR 2 0), some (aR 10 k1), some (aR 21 k2), some (aR 6 k3), some (aI v4), some (aI x1), some (aI x2)], [aR 21 k2], M2)) tc_249 rfl 2 (fun u => ⟨_, rfl⟩) ⟨trivial, trivial, trivial⟩ ?_
  refine gd_callN (ml := 1) (as := [aR 21 k2]) (rest := []) tc_249 rfl rfl rfl rfl rfl (by omega) (by omega) (Nat.le_of_ble_eq_true rfl) rfl (g_Mo_thrown (by omega) (by omega) h) (fun r9 M9 h => ?_)
  obtain ⟨x3, rfl, e9, h⟩ := h
  subst M9
  show Gd d w 249 _ (305, [some (aR 2 0), some (aR 10 k1), some (aR 21 k2), some (aR 6 k3), some (aI v4), some (aI x1), some (aI x2)], [aI x3], M2)
  refine gd_s (P := True ∧ True) (σ1 := (307, [some (aR 2 0), some (aR 10 k1), some (aR 21 k2), some (aR 6 k3), some (aI v4), some (aI x1), some (aI x2)], [aI x1, aI x3], M2)) tc_249 rfl 1 (fun u => ⟨_, rfl⟩) ⟨trivial, trivial⟩ ?_
  refine gd_br (c := x3 = x1) (st1 := []) tc_249 rfl rfl (fun _ => rfl) ⟨fun hc => ?_, fun hc => ?_⟩
  · have h := h.1 hc
    show Gd d w 249 _ (312, [some (aR 2 0), some (aR 10 k1), some (aR 21 k2), some (aR 6 k3), some (aI v4), some (aI x1), some (aI x2)], [], M2)
    refine gd_s (P := True ∧ True) (σ1 := (314, [some (aR 2 0), some (aR 10 k1), some (aR 21 k2), some (aR 6 k3), some (aI v4), some (aI x1), some (aI x2)], [aI x1], M2)) tc_249 rfl 1 (fun u => ⟨_, rfl⟩) ⟨trivial, trivial⟩ ?_
    refine gd_br (c := ¬ x1 = ((0 : Int32))) (st1 := []) tc_249 rfl rfl (fun _ => rfl) ⟨fun hc => ?_, fun hc => ?_⟩
    · have h := h.1 hc
      show Gd d w 249 _ (329, [some (aR 2 0), some (aR 10 k1), some (aR 21 k2), some (aR 6 k3), some (aI v4), some (aI x1), some (aI x2)], [], M2)
      refine gd_s (P := True ∧ True ∧ True ∧ True) (σ1 := (23, [some (aR 2 0), some (aR 10 k1), some (aR 21 k2), some (aR 6 k3), some (aI (v4 + (6 : Int32))), some (aI x1), some (aI x2)], [], M2)) tc_249 rfl 3 (fun u => ⟨_, rfl⟩) ⟨trivial, trivial, trivial, trivial⟩ ?_
      exact hK23 k1 k2 k3 (v4 + (6 : Int32)) (some (aI x1)) (some (aI x2)) M2 h
    · have h := h.2 hc
      show Gd d w 249 _ (317, [some (aR 2 0), some (aR 10 k1), some (aR 21 k2), some (aR 6 k3), some (aI v4), some (aI x1), some (aI x2)], [], M2)
      obtain ⟨c0, h⟩ := h
      refine gd_s (P := True ∧ True ∧ (vp_in ((0 : Int32)) (rK M2 k3).2) ∧ True ∧ True ∧ True ∧ True) (σ1 := (324, [some (aR 2 0), some (aR 10 k1), some (aR 21 k2), some (aR 6 k3), some (aI v4), some (aI x1), some (aI x2)], [aI (lg_cmp (rJ M2 k3 ((0 : Int32)).toNatClampNeg) x2.toInt64)], M2)) tc_249 rfl 6 (fun u => ⟨_, rfl⟩) ⟨trivial, trivial, c0, trivial, trivial, trivial, trivial⟩ ?_
      refine gd_br (c := (lg_cmp (rJ M2 k3 ((0 : Int32)).toNatClampNeg) x2.toInt64) = ((0 : Int32))) (st1 := []) tc_249 rfl rfl (fun _ => rfl) ⟨fun hc => ?_, fun hc => ?_⟩
      · have h := h.1 hc
        show Gd d w 249 _ (329, [some (aR 2 0), some (aR 10 k1), some (aR 21 k2), some (aR 6 k3), some (aI v4), some (aI x1), some (aI x2)], [], M2)
        refine gd_s (P := True ∧ True ∧ True ∧ True) (σ1 := (23, [some (aR 2 0), some (aR 10 k1), some (aR 21 k2), some (aR 6 k3), some (aI (v4 + (6 : Int32))), some (aI x1), some (aI x2)], [], M2)) tc_249 rfl 3 (fun u => ⟨_, rfl⟩) ⟨trivial, trivial, trivial, trivial⟩ ?_
        exact hK23 k1 k2 k3 (v4 + (6 : Int32)) (some (aI x1)) (some (aI x2)) M2 h
      · have h := h.2 hc
        show Gd d w 249 _ (327, [some (aR 2 0), some (aR 10 k1), some (aR 21 k2), some (aR 6 k3), some (aI v4), some (aI x1), some (aI x2)], [], M2)
        refine gd_s (P := True ∧ True) (σ1 := (328, [some (aR 2 0), some (aR 10 k1), some (aR 21 k2), some (aR 6 k3), some (aI v4), some (aI x1), some (aI x2)], [aI ((0 : Int32))], M2)) tc_249 rfl 1 (fun u => ⟨_, rfl⟩) ⟨trivial, trivial⟩ ?_
        exact gd_ret tc_249 rfl rfl h.1 (fun _ => rfl) ⟨_, rfl, h.2⟩
  · have h := h.2 hc
    show Gd d w 249 _ (310, [some (aR 2 0), some (aR 10 k1), some (aR 21 k2), some (aR 6 k3), some (aI v4), some (aI x1), some (aI x2)], [], M2)
    refine gd_s (P := True ∧ True) (σ1 := (311, [some (aR 2 0), some (aR 10 k1), some (aR 21 k2), some (aR 6 k3), some (aI v4), some (aI x1), some (aI x2)], [aI ((0 : Int32))], M2)) tc_249 rfl 1 (fun u => ⟨_, rfl⟩) ⟨trivial, trivial⟩ ?_
    exact gd_ret tc_249 rfl rfl h.1 (fun _ => rfl) ⟨_, rfl, h.2⟩
def w_La_law_J332 (post : Int32 → aM → Prop) (K23 : Nat → Nat → Nat → Int32 → aM → Prop) (k1 : Nat) (k2 : Nat) (k3 : Nat) (v4 : Int32) (M : aM) : Prop := w_J_fault (fun x1 => w_Mo_fault (fun x2 => ((x1 = x2) → K23 k1 k2 k3 (v4 + (6 : Int32)) M) ∧ (¬ (x1 = x2) → (((0 : Int32)) = 0 ∨ ((0 : Int32)) = 1) ∧ post ((0 : Int32)) M)) k2 M) k1 M
theorem g_La_law_J332 {d w : Nat} (hd : 159 ≤ d) (hw : 4253 ≤ w) {post : Int32 → aM → Prop} {K23 : Nat → Nat → Nat → Int32 → aM → Prop} (hK23 : ∀ (k1 : Nat) (k2 : Nat) (k3 : Nat) (v4 : Int32) (o5 o6 : Option aV) (M : aM), K23 k1 k2 k3 v4 M → Gd d w 249 (pI post) (23, [some (aR 2 0), some (aR 10 k1), some (aR 21 k2), some (aR 6 k3), some (aI v4), o5, o6], [], M)) (k1 : Nat) (k2 : Nat) (k3 : Nat) (v4 : Int32) (o5 o6 : Option aV) (M : aM) (h : w_La_law_J332 post K23 k1 k2 k3 v4 M) : Gd d w 249 (pI post) (332, [some (aR 2 0), some (aR 10 k1), some (aR 21 k2), some (aR 6 k3), some (aI v4), o5, o6], [], M) := by
  unfold w_La_law_J332 at h
  show Gd d w 249 _ (332, [some (aR 2 0), some (aR 10 k1), some (aR 21 k2), some (aR 6 k3), some (aI v4), o5, o6], [], M)
  refine gd_s (P := True ∧ True) (σ1 := (333, [some (aR 2 0), some (aR 10 k1), some (aR 21 k2), some (aR 6 k3), some (aI v4), o5, o6], [aR 10 k1], M)) tc_249 rfl 1 (fun u => ⟨_, rfl⟩) ⟨trivial, trivial⟩ ?_
  refine gd_callN (ml := 1) (as := [aR 10 k1]) (rest := []) tc_249 rfl rfl rfl rfl rfl (by omega) (by omega) (Nat.le_of_ble_eq_true rfl) rfl (g_J_fault (by omega) (by omega) h) (fun r9 M9 h => ?_)
  obtain ⟨x1, rfl, e9, h⟩ := h
  subst M9
  show Gd d w 249 _ (336, [some (aR 2 0), some (aR 10 k1), some (aR 21 k2), some (aR 6 k3), some (aI v4), o5, o6], [aI x1], M)
  refine gd_s (P := True ∧ True) (σ1 := (337, [some (aR 2 0), some (aR 10 k1), some (aR 21 k2), some (aR 6 k3), some (aI v4), o5, o6], [aR 21 k2, aI x1], M)) tc_249 rfl 1 (fun u => ⟨_, rfl⟩) ⟨trivial, trivial⟩ ?_
  refine gd_callN (ml := 1) (as := [aR 21 k2]) (rest := [aI x1]) tc_249 rfl rfl rfl rfl rfl (by omega) (by omega) (Nat.le_of_ble_eq_true rfl) rfl (g_Mo_fault (by omega) (by omega) h) (fun r9 M9 h => ?_)
  obtain ⟨x2, rfl, e9, h⟩ := h
  subst M9
  show Gd d w 249 _ (340, [some (aR 2 0), some (aR 10 k1), some (aR 21 k2), some (aR 6 k3), some (aI v4), o5, o6], [aI x2, aI x1], M)
  refine gd_br (c := x1 = x2) (st1 := []) tc_249 rfl rfl (fun _ => rfl) ⟨fun hc => ?_, fun hc => ?_⟩
  · have h := h.1 hc
    show Gd d w 249 _ (1409, [some (aR 2 0), some (aR 10 k1), some (aR 21 k2), some (aR 6 k3), some (aI v4), o5, o6], [], M)
    refine gd_s (P := True ∧ True ∧ True) (σ1 := (23, [some (aR 2 0), some (aR 10 k1), some (aR 21 k2), some (aR 6 k3), some (aI (v4 + (6 : Int32))), o5, o6], [], M)) tc_249 rfl 2 (fun u => ⟨_, rfl⟩) ⟨trivial, trivial, trivial⟩ ?_
    exact hK23 k1 k2 k3 (v4 + (6 : Int32)) o5 o6 M h
  · have h := h.2 hc
    show Gd d w 249 _ (343, [some (aR 2 0), some (aR 10 k1), some (aR 21 k2), some (aR 6 k3), some (aI v4), o5, o6], [], M)
    refine gd_s (P := True ∧ True) (σ1 := (344, [some (aR 2 0), some (aR 10 k1), some (aR 21 k2), some (aR 6 k3), some (aI v4), o5, o6], [aI ((0 : Int32))], M)) tc_249 rfl 1 (fun u => ⟨_, rfl⟩) ⟨trivial, trivial⟩ ?_
    exact gd_ret tc_249 rfl rfl h.1 (fun _ => rfl) ⟨_, rfl, h.2⟩
def w_La_law_J345 (post : Int32 → aM → Prop) (K23 : Nat → Nat → Nat → Int32 → aM → Prop) (k1 : Nat) (k2 : Nat) (k3 : Nat) (v4 : Int32) (M : aM) : Prop := (vp_in (v4 + ((1 : Int32))) (rK M 0).2) ∧ (vp_in (v4 + ((2 : Int32))) (rK M 0).2) ∧ (0 < aN M ∧ w_La_count (fun x1 M1 => (vp_in (v4 + ((1 : Int32))) (rK M1 0).2) ∧ (vp_in (v4 + ((2 : Int32))) (rK M1 0).2) ∧ (w_Mo_count (fun x2 M2 => w_Mo_thrown (fun x3 => ((x3 = x1) → ((¬ x1 = ((0 : Int32))) → K23 k1 k2 k3 (v4 + (6 : Int32)) M2) ∧ (¬ (¬ x1 = ((0 : Int32))) → (vp_in ((0 : Int32)) (rK M2 k3).2) ∧ ((((lg_cmp (rJ M2 k3 ((0 : Int32)).toNatClampNeg) x2.toInt64) = ((0 : Int32))) → K23 k1 k2 k3 (v4 + (6 : Int32)) M2) ∧ (¬ ((lg_cmp (rJ M2 k3 ((0 : Int32)).toNatClampNeg) x2.toInt64) = ((0 : Int32))) → (((0 : Int32)) = 0 ∨ ((0 : Int32)) = 1) ∧ post ((0 : Int32)) M2)))) ∧ (¬ (x3 = x1) → (((0 : Int32)) = 0 ∨ ((0 : Int32)) = 1) ∧ post ((0 : Int32)) M2)) k2 M2) k2 (rI M1 0 (v4 + ((1 : Int32))).toNatClampNeg) (rI M1 0 (v4 + ((2 : Int32))).toNatClampNeg) M1)) k1 (rI M 0 (v4 + ((1 : Int32))).toNatClampNeg) (rI M 0 (v4 + ((2 : Int32))).toNatClampNeg) k3 M)
theorem g_La_law_J345 {d w : Nat} (hd : 159 ≤ d) (hw : 4253 ≤ w) {post : Int32 → aM → Prop} {K23 : Nat → Nat → Nat → Int32 → aM → Prop} (hK23 : ∀ (k1 : Nat) (k2 : Nat) (k3 : Nat) (v4 : Int32) (o5 o6 : Option aV) (M : aM), K23 k1 k2 k3 v4 M → Gd d w 249 (pI post) (23, [some (aR 2 0), some (aR 10 k1), some (aR 21 k2), some (aR 6 k3), some (aI v4), o5, o6], [], M)) (k1 : Nat) (k2 : Nat) (k3 : Nat) (v4 : Int32) (o5 o6 : Option aV) (M : aM) (h : w_La_law_J345 post K23 k1 k2 k3 v4 M) : Gd d w 249 (pI post) (345, [some (aR 2 0), some (aR 10 k1), some (aR 21 k2), some (aR 6 k3), some (aI v4), o5, o6], [], M) := by
  unfold w_La_law_J345 at h
  show Gd d w 249 _ (345, [some (aR 2 0), some (aR 10 k1), some (aR 21 k2), some (aR 6 k3), some (aI v4), o5, o6], [], M)
  obtain ⟨c0, c1, h⟩ := h
  refine gd_s (P := True ∧ True ∧ True ∧ True ∧ True ∧ (vp_in (v4 + ((1 : Int32))) (rK M 0).2) ∧ True ∧ True ∧ True ∧ True ∧ (vp_in (v4 + ((2 : Int32))) (rK M 0).2) ∧ True ∧ True) (σ1 := (359, [some (aR 2 0), some (aR 10 k1), some (aR 21 k2), some (aR 6 k3), some (aI v4), o5, o6], [aR 6 k3, aI (rI M 0 (v4 + ((2 : Int32))).toNatClampNeg), aI (rI M 0 (v4 + ((1 : Int32))).toNatClampNeg), aR 10 k1], M)) tc_249 rfl 12 (fun u => ⟨_, rfl⟩) ⟨trivial, trivial, trivial, trivial, trivial, c0, trivial, trivial, trivial, trivial, c1, trivial, trivial⟩ ?_
  obtain ⟨hN, h⟩ := h
  refine gd_callN (ml := 5) (as := [aR 10 k1, aI (rI M 0 (v4 + ((1 : Int32))).toNatClampNeg), aI (rI M 0 (v4 + ((2 : Int32))).toNatClampNeg), aR 6 k3]) (rest := []) tc_249 rfl rfl rfl rfl rfl (by omega) (by omega) (Nat.le_of_ble_eq_true rfl) rfl (g_La_count (by omega) (by omega) hN h) (fun r9 M1 h => ?_)
  obtain ⟨x1, rfl, h⟩ := h
  show Gd d w 249 _ (362, [some (aR 2 0), some (aR 10 k1), some (aR 21 k2), some (aR 6 k3), some (aI v4), o5, o6], [aI x1], M1)
  obtain ⟨c0, c1, h⟩ := h
  refine gd_s (P := True ∧ True ∧ True ∧ True ∧ True ∧ True ∧ (vp_in (v4 + ((1 : Int32))) (rK M1 0).2) ∧ True ∧ True ∧ True ∧ True ∧ (vp_in (v4 + ((2 : Int32))) (rK M1 0).2) ∧ True) (σ1 := (377, [some (aR 2 0), some (aR 10 k1), some (aR 21 k2), some (aR 6 k3), some (aI v4), some (aI x1), o6], [aI (rI M1 0 (v4 + ((2 : Int32))).toNatClampNeg), aI (rI M1 0 (v4 + ((1 : Int32))).toNatClampNeg), aR 21 k2], M1)) tc_249 rfl 12 (fun u => ⟨_, rfl⟩) ⟨trivial, trivial, trivial, trivial, trivial, trivial, c0, trivial, trivial, trivial, trivial, c1, trivial⟩ ?_
  refine gd_callN (ml := 3) (as := [aR 21 k2, aI (rI M1 0 (v4 + ((1 : Int32))).toNatClampNeg), aI (rI M1 0 (v4 + ((2 : Int32))).toNatClampNeg)]) (rest := []) tc_249 rfl rfl rfl rfl rfl (by omega) (by omega) (Nat.le_of_ble_eq_true rfl) rfl (g_Mo_count (by omega) (by omega) h) (fun r9 M2 h => ?_)
  obtain ⟨x2, rfl, h⟩ := h
  show Gd d w 249 _ (380, [some (aR 2 0), some (aR 10 k1), some (aR 21 k2), some (aR 6 k3), some (aI v4), some (aI x1), o6], [aI x2], M2)
  refine gd_s (P := True ∧ True ∧ True) (σ1 := (383, [some (aR 2 0), some (aR 10 k1), some (aR 21 k2), some (aR 6 k3), some (aI v4), some (aI x1), some (aI x2)], [aR 21 k2], M2)) tc_249 rfl 2 (fun u => ⟨_, rfl⟩) ⟨trivial, trivial, trivial⟩ ?_
  refine gd_callN (ml := 1) (as := [aR 21 k2]) (rest := []) tc_249 rfl rfl rfl rfl rfl (by omega) (by omega) (Nat.le_of_ble_eq_true rfl) rfl (g_Mo_thrown (by omega) (by omega) h) (fun r9 M9 h => ?_)
  obtain ⟨x3, rfl, e9, h⟩ := h
  subst M9
  show Gd d w 249 _ (386, [some (aR 2 0), some (aR 10 k1), some (aR 21 k2), some (aR 6 k3), some (aI v4), some (aI x1), some (aI x2)], [aI x3], M2)
  refine gd_s (P := True ∧ True) (σ1 := (388, [some (aR 2 0), some (aR 10 k1), some (aR 21 k2), some (aR 6 k3), some (aI v4), some (aI x1), some (aI x2)], [aI x1, aI x3], M2)) tc_249 rfl 1 (fun u => ⟨_, rfl⟩) ⟨trivial, trivial⟩ ?_
  refine gd_br (c := x3 = x1) (st1 := []) tc_249 rfl rfl (fun _ => rfl) ⟨fun hc => ?_, fun hc => ?_⟩
  · have h := h.1 hc
    show Gd d w 249 _ (393, [some (aR 2 0), some (aR 10 k1), some (aR 21 k2), some (aR 6 k3), some (aI v4), some (aI x1), some (aI x2)], [], M2)
    refine gd_s (P := True ∧ True) (σ1 := (395, [some (aR 2 0), some (aR 10 k1), some (aR 21 k2), some (aR 6 k3), some (aI v4), some (aI x1), some (aI x2)], [aI x1], M2)) tc_249 rfl 1 (fun u => ⟨_, rfl⟩) ⟨trivial, trivial⟩ ?_
    refine gd_br (c := ¬ x1 = ((0 : Int32))) (st1 := []) tc_249 rfl rfl (fun _ => rfl) ⟨fun hc => ?_, fun hc => ?_⟩
    · have h := h.1 hc
      show Gd d w 249 _ (410, [some (aR 2 0), some (aR 10 k1), some (aR 21 k2), some (aR 6 k3), some (aI v4), some (aI x1), some (aI x2)], [], M2)
      refine gd_s (P := True ∧ True ∧ True ∧ True) (σ1 := (23, [some (aR 2 0), some (aR 10 k1), some (aR 21 k2), some (aR 6 k3), some (aI (v4 + (6 : Int32))), some (aI x1), some (aI x2)], [], M2)) tc_249 rfl 3 (fun u => ⟨_, rfl⟩) ⟨trivial, trivial, trivial, trivial⟩ ?_
      exact hK23 k1 k2 k3 (v4 + (6 : Int32)) (some (aI x1)) (some (aI x2)) M2 h
    · have h := h.2 hc
      show Gd d w 249 _ (398, [some (aR 2 0), some (aR 10 k1), some (aR 21 k2), some (aR 6 k3), some (aI v4), some (aI x1), some (aI x2)], [], M2)
      obtain ⟨c0, h⟩ := h
      refine gd_s (P := True ∧ True ∧ (vp_in ((0 : Int32)) (rK M2 k3).2) ∧ True ∧ True ∧ True ∧ True) (σ1 := (405, [some (aR 2 0), some (aR 10 k1), some (aR 21 k2), some (aR 6 k3), some (aI v4), some (aI x1), some (aI x2)], [aI (lg_cmp (rJ M2 k3 ((0 : Int32)).toNatClampNeg) x2.toInt64)], M2)) tc_249 rfl 6 (fun u => ⟨_, rfl⟩) ⟨trivial, trivial, c0, trivial, trivial, trivial, trivial⟩ ?_
      refine gd_br (c := (lg_cmp (rJ M2 k3 ((0 : Int32)).toNatClampNeg) x2.toInt64) = ((0 : Int32))) (st1 := []) tc_249 rfl rfl (fun _ => rfl) ⟨fun hc => ?_, fun hc => ?_⟩
      · have h := h.1 hc
        show Gd d w 249 _ (410, [some (aR 2 0), some (aR 10 k1), some (aR 21 k2), some (aR 6 k3), some (aI v4), some (aI x1), some (aI x2)], [], M2)
        refine gd_s (P := True ∧ True ∧ True ∧ True) (σ1 := (23, [some (aR 2 0), some (aR 10 k1), some (aR 21 k2), some (aR 6 k3), some (aI (v4 + (6 : Int32))), some (aI x1), some (aI x2)], [], M2)) tc_249 rfl 3 (fun u => ⟨_, rfl⟩) ⟨trivial, trivial, trivial, trivial⟩ ?_
        exact hK23 k1 k2 k3 (v4 + (6 : Int32)) (some (aI x1)) (some (aI x2)) M2 h
      · have h := h.2 hc
        show Gd d w 249 _ (408, [some (aR 2 0), some (aR 10 k1), some (aR 21 k2), some (aR 6 k3), some (aI v4), some (aI x1), some (aI x2)], [], M2)
        refine gd_s (P := True ∧ True) (σ1 := (409, [some (aR 2 0), some (aR 10 k1), some (aR 21 k2), some (aR 6 k3), some (aI v4), some (aI x1), some (aI x2)], [aI ((0 : Int32))], M2)) tc_249 rfl 1 (fun u => ⟨_, rfl⟩) ⟨trivial, trivial⟩ ?_
        exact gd_ret tc_249 rfl rfl h.1 (fun _ => rfl) ⟨_, rfl, h.2⟩
  · have h := h.2 hc
    show Gd d w 249 _ (391, [some (aR 2 0), some (aR 10 k1), some (aR 21 k2), some (aR 6 k3), some (aI v4), some (aI x1), some (aI x2)], [], M2)
    refine gd_s (P := True ∧ True) (σ1 := (392, [some (aR 2 0), some (aR 10 k1), some (aR 21 k2), some (aR 6 k3), some (aI v4), some (aI x1), some (aI x2)], [aI ((0 : Int32))], M2)) tc_249 rfl 1 (fun u => ⟨_, rfl⟩) ⟨trivial, trivial⟩ ?_
    exact gd_ret tc_249 rfl rfl h.1 (fun _ => rfl) ⟨_, rfl, h.2⟩
def w_La_law_J413 (post : Int32 → aM → Prop) (K23 : Nat → Nat → Nat → Int32 → aM → Prop) (k1 : Nat) (k2 : Nat) (k3 : Nat) (v4 : Int32) (M : aM) : Prop := (vp_in (v4 + ((1 : Int32))) (rK M 0).2) ∧ (vp_in (v4 + ((2 : Int32))) (rK M 0).2) ∧ (vp_in (v4 + ((3 : Int32))) (rK M 0).2) ∧ (0 < aN M ∧ w_La_node (fun x1 M1 => (vp_in (v4 + ((1 : Int32))) (rK M1 0).2) ∧ (vp_in (v4 + ((2 : Int32))) (rK M1 0).2) ∧ (vp_in (v4 + ((3 : Int32))) (rK M1 0).2) ∧ (w_Mo_node (fun x2 M2 => w_Mo_thrown (fun x3 => ((x3 = x1) → ((¬ x1 = ((0 : Int32))) → K23 k1 k2 k3 (v4 + (6 : Int32)) M2) ∧ (¬ (¬ x1 = ((0 : Int32))) → (vp_in ((0 : Int32)) (rK M2 k3).2) ∧ ((((lg_cmp (rJ M2 k3 ((0 : Int32)).toNatClampNeg) x2.toInt64) = ((0 : Int32))) → K23 k1 k2 k3 (v4 + (6 : Int32)) M2) ∧ (¬ ((lg_cmp (rJ M2 k3 ((0 : Int32)).toNatClampNeg) x2.toInt64) = ((0 : Int32))) → (((0 : Int32)) = 0 ∨ ((0 : Int32)) = 1) ∧ post ((0 : Int32)) M2)))) ∧ (¬ (x3 = x1) → (((0 : Int32)) = 0 ∨ ((0 : Int32)) = 1) ∧ post ((0 : Int32)) M2)) k2 M2) k2 (rI M1 0 (v4 + ((1 : Int32))).toNatClampNeg) (rI M1 0 (v4 + ((2 : Int32))).toNatClampNeg) (rI M1 0 (v4 + ((3 : Int32))).toNatClampNeg) M1)) k1 (rI M 0 (v4 + ((1 : Int32))).toNatClampNeg) (rI M 0 (v4 + ((2 : Int32))).toNatClampNeg) (rI M 0 (v4 + ((3 : Int32))).toNatClampNeg) k3 M)
theorem g_La_law_J413 {d w : Nat} (hd : 159 ≤ d) (hw : 4253 ≤ w) {post : Int32 → aM → Prop} {K23 : Nat → Nat → Nat → Int32 → aM → Prop} (hK23 : ∀ (k1 : Nat) (k2 : Nat) (k3 : Nat) (v4 : Int32) (o5 o6 : Option aV) (M : aM), K23 k1 k2 k3 v4 M → Gd d w 249 (pI post) (23, [some (aR 2 0), some (aR 10 k1), some (aR 21 k2), some (aR 6 k3), some (aI v4), o5, o6], [], M)) (k1 : Nat) (k2 : Nat) (k3 : Nat) (v4 : Int32) (o5 o6 : Option aV) (M : aM) (h : w_La_law_J413 post K23 k1 k2 k3 v4 M) : Gd d w 249 (pI post) (413, [some (aR 2 0), some (aR 10 k1), some (aR 21 k2), some (aR 6 k3), some (aI v4), o5, o6], [], M) := by
  unfold w_La_law_J413 at h
  show Gd d w 249 _ (413, [some (aR 2 0), some (aR 10 k1), some (aR 21 k2), some (aR 6 k3), some (aI v4), o5, o6], [], M)
  obtain ⟨c0, c1, c2, h⟩ := h
  refine gd_s (P := True ∧ True ∧ True ∧ True ∧ True ∧ (vp_in (v4 + ((1 : Int32))) (rK M 0).2) ∧ True ∧ True ∧ True ∧ True ∧ (vp_in (v4 + ((2 : Int32))) (rK M 0).2) ∧ True ∧ True ∧ True ∧ True ∧ (vp_in (v4 + ((3 : Int32))) (rK M 0).2) ∧ True ∧ True) (σ1 := (433, [some (aR 2 0), some (aR 10 k1), some (aR 21 k2), some (aR 6 k3), some (aI v4), o5, o6], [aR 6 k3, aI (rI M 0 (v4 + ((3 : Int32))).toNatClampNeg), aI (rI M 0 (v4 + ((2 : Int32))).toNatClampNeg), aI (rI M 0 (v4 + ((1 : Int32))).toNatClampNeg), aR 10 k1], M)) tc_249 rfl 17 (fun u => ⟨_, rfl⟩) ⟨trivial, trivial, trivial, trivial, trivial, c0, trivial, trivial, trivial, trivial, c1, trivial, trivial, trivial, trivial, c2, trivial, trivial⟩ ?_
  obtain ⟨hN, h⟩ := h
  refine gd_callN (ml := 6) (as := [aR 10 k1, aI (rI M 0 (v4 + ((1 : Int32))).toNatClampNeg), aI (rI M 0 (v4 + ((2 : Int32))).toNatClampNeg), aI (rI M 0 (v4 + ((3 : Int32))).toNatClampNeg), aR 6 k3]) (rest := []) tc_249 rfl rfl rfl rfl rfl (by omega) (by omega) (Nat.le_of_ble_eq_true rfl) rfl (g_La_node (by omega) (by omega) hN h) (fun r9 M1 h => ?_)
  obtain ⟨x1, rfl, h⟩ := h
  show Gd d w 249 _ (436, [some (aR 2 0), some (aR 10 k1), some (aR 21 k2), some (aR 6 k3), some (aI v4), o5, o6], [aI x1], M1)
  obtain ⟨c0, c1, c2, h⟩ := h
  refine gd_s (P := True ∧ True ∧ True ∧ True ∧ True ∧ True ∧ (vp_in (v4 + ((1 : Int32))) (rK M1 0).2) ∧ True ∧ True ∧ True ∧ True ∧ (vp_in (v4 + ((2 : Int32))) (rK M1 0).2) ∧ True ∧ True ∧ True ∧ True ∧ (vp_in (v4 + ((3 : Int32))) (rK M1 0).2) ∧ True) (σ1 := (457, [some (aR 2 0), some (aR 10 k1), some (aR 21 k2), some (aR 6 k3), some (aI v4), some (aI x1), o6], [aI (rI M1 0 (v4 + ((3 : Int32))).toNatClampNeg), aI (rI M1 0 (v4 + ((2 : Int32))).toNatClampNeg), aI (rI M1 0 (v4 + ((1 : Int32))).toNatClampNeg), aR 21 k2], M1)) tc_249 rfl 17 (fun u => ⟨_, rfl⟩) ⟨trivial, trivial, trivial, trivial, trivial, trivial, c0, trivial, trivial, trivial, trivial, c1, trivial, trivial, trivial, trivial, c2, trivial⟩ ?_
  refine gd_callN (ml := 7) (as := [aR 21 k2, aI (rI M1 0 (v4 + ((1 : Int32))).toNatClampNeg), aI (rI M1 0 (v4 + ((2 : Int32))).toNatClampNeg), aI (rI M1 0 (v4 + ((3 : Int32))).toNatClampNeg)]) (rest := []) tc_249 rfl rfl rfl rfl rfl (by omega) (by omega) (Nat.le_of_ble_eq_true rfl) rfl (g_Mo_node (by omega) (by omega) h) (fun r9 M2 h => ?_)
  obtain ⟨x2, rfl, h⟩ := h
  show Gd d w 249 _ (460, [some (aR 2 0), some (aR 10 k1), some (aR 21 k2), some (aR 6 k3), some (aI v4), some (aI x1), o6], [aI x2], M2)
  refine gd_s (P := True ∧ True ∧ True) (σ1 := (463, [some (aR 2 0), some (aR 10 k1), some (aR 21 k2), some (aR 6 k3), some (aI v4), some (aI x1), some (aI x2)], [aR 21 k2], M2)) tc_249 rfl 2 (fun u => ⟨_, rfl⟩) ⟨trivial, trivial, trivial⟩ ?_
  refine gd_callN (ml := 1) (as := [aR 21 k2]) (rest := []) tc_249 rfl rfl rfl rfl rfl (by omega) (by omega) (Nat.le_of_ble_eq_true rfl) rfl (g_Mo_thrown (by omega) (by omega) h) (fun r9 M9 h => ?_)
  obtain ⟨x3, rfl, e9, h⟩ := h
  subst M9
  show Gd d w 249 _ (466, [some (aR 2 0), some (aR 10 k1), some (aR 21 k2), some (aR 6 k3), some (aI v4), some (aI x1), some (aI x2)], [aI x3], M2)
  refine gd_s (P := True ∧ True) (σ1 := (468, [some (aR 2 0), some (aR 10 k1), some (aR 21 k2), some (aR 6 k3), some (aI v4), some (aI x1), some (aI x2)], [aI x1, aI x3], M2)) tc_249 rfl 1 (fun u => ⟨_, rfl⟩) ⟨trivial, trivial⟩ ?_
  refine gd_br (c := x3 = x1) (st1 := []) tc_249 rfl rfl (fun _ => rfl) ⟨fun hc => ?_, fun hc => ?_⟩
  · have h := h.1 hc
    show Gd d w 249 _ (473, [some (aR 2 0), some (aR 10 k1), some (aR 21 k2), some (aR 6 k3), some (aI v4), some (aI x1), some (aI x2)], [], M2)
    refine gd_s (P := True ∧ True) (σ1 := (475, [some (aR 2 0), some (aR 10 k1), some (aR 21 k2), some (aR 6 k3), some (aI v4), some (aI x1), some (aI x2)], [aI x1], M2)) tc_249 rfl 1 (fun u => ⟨_, rfl⟩) ⟨trivial, trivial⟩ ?_
    refine gd_br (c := ¬ x1 = ((0 : Int32))) (st1 := []) tc_249 rfl rfl (fun _ => rfl) ⟨fun hc => ?_, fun hc => ?_⟩
    · have h := h.1 hc
      show Gd d w 249 _ (490, [some (aR 2 0), some (aR 10 k1), some (aR 21 k2), some (aR 6 k3), some (aI v4), some (aI x1), some (aI x2)], [], M2)
      refine gd_s (P := True ∧ True ∧ True ∧ True) (σ1 := (23, [some (aR 2 0), some (aR 10 k1), some (aR 21 k2), some (aR 6 k3), some (aI (v4 + (6 : Int32))), some (aI x1), some (aI x2)], [], M2)) tc_249 rfl 3 (fun u => ⟨_, rfl⟩) ⟨trivial, trivial, trivial, trivial⟩ ?_
      exact hK23 k1 k2 k3 (v4 + (6 : Int32)) (some (aI x1)) (some (aI x2)) M2 h
    · have h := h.2 hc
      show Gd d w 249 _ (478, [some (aR 2 0), some (aR 10 k1), some (aR 21 k2), some (aR 6 k3), some (aI v4), some (aI x1), some (aI x2)], [], M2)
      obtain ⟨c0, h⟩ := h
      refine gd_s (P := True ∧ True ∧ (vp_in ((0 : Int32)) (rK M2 k3).2) ∧ True ∧ True ∧ True ∧ True) (σ1 := (485, [some (aR 2 0), some (aR 10 k1), some (aR 21 k2), some (aR 6 k3), some (aI v4), some (aI x1), some (aI x2)], [aI (lg_cmp (rJ M2 k3 ((0 : Int32)).toNatClampNeg) x2.toInt64)], M2)) tc_249 rfl 6 (fun u => ⟨_, rfl⟩) ⟨trivial, trivial, c0, trivial, trivial, trivial, trivial⟩ ?_
      refine gd_br (c := (lg_cmp (rJ M2 k3 ((0 : Int32)).toNatClampNeg) x2.toInt64) = ((0 : Int32))) (st1 := []) tc_249 rfl rfl (fun _ => rfl) ⟨fun hc => ?_, fun hc => ?_⟩
      · have h := h.1 hc
        show Gd d w 249 _ (490, [some (aR 2 0), some (aR 10 k1), some (aR 21 k2), some (aR 6 k3), some (aI v4), some (aI x1), some (aI x2)], [], M2)
        refine gd_s (P := True ∧ True ∧ True ∧ True) (σ1 := (23, [some (aR 2 0), some (aR 10 k1), some (aR 21 k2), some (aR 6 k3), some (aI (v4 + (6 : Int32))), some (aI x1), some (aI x2)], [], M2)) tc_249 rfl 3 (fun u => ⟨_, rfl⟩) ⟨trivial, trivial, trivial, trivial⟩ ?_
        exact hK23 k1 k2 k3 (v4 + (6 : Int32)) (some (aI x1)) (some (aI x2)) M2 h
      · have h := h.2 hc
        show Gd d w 249 _ (488, [some (aR 2 0), some (aR 10 k1), some (aR 21 k2), some (aR 6 k3), some (aI v4), some (aI x1), some (aI x2)], [], M2)
        refine gd_s (P := True ∧ True) (σ1 := (489, [some (aR 2 0), some (aR 10 k1), some (aR 21 k2), some (aR 6 k3), some (aI v4), some (aI x1), some (aI x2)], [aI ((0 : Int32))], M2)) tc_249 rfl 1 (fun u => ⟨_, rfl⟩) ⟨trivial, trivial⟩ ?_
        exact gd_ret tc_249 rfl rfl h.1 (fun _ => rfl) ⟨_, rfl, h.2⟩
  · have h := h.2 hc
    show Gd d w 249 _ (471, [some (aR 2 0), some (aR 10 k1), some (aR 21 k2), some (aR 6 k3), some (aI v4), some (aI x1), some (aI x2)], [], M2)
    refine gd_s (P := True ∧ True) (σ1 := (472, [some (aR 2 0), some (aR 10 k1), some (aR 21 k2), some (aR 6 k3), some (aI v4), some (aI x1), some (aI x2)], [aI ((0 : Int32))], M2)) tc_249 rfl 1 (fun u => ⟨_, rfl⟩) ⟨trivial, trivial⟩ ?_
    exact gd_ret tc_249 rfl rfl h.1 (fun _ => rfl) ⟨_, rfl, h.2⟩
def w_La_law_J493 (post : Int32 → aM → Prop) (K23 : Nat → Nat → Nat → Int32 → aM → Prop) (k1 : Nat) (k2 : Nat) (k3 : Nat) (v4 : Int32) (M : aM) : Prop := (vp_in (v4 + ((1 : Int32))) (rK M 0).2) ∧ (vp_in (v4 + ((2 : Int32))) (rK M 0).2) ∧ (vp_in (v4 + ((3 : Int32))) (rK M 0).2) ∧ (vp_in (v4 + ((4 : Int32))) (rK M 0).2) ∧ (0 < aN M ∧ w_La_name (fun x1 M1 => (vp_in (v4 + ((1 : Int32))) (rK M1 0).2) ∧ (vp_in (v4 + ((2 : Int32))) (rK M1 0).2) ∧ (vp_in (v4 + ((3 : Int32))) (rK M1 0).2) ∧ (vp_in (v4 + ((4 : Int32))) (rK M1 0).2) ∧ (w_Mo_name (fun x2 M2 => w_Mo_thrown (fun x3 => ((x3 = x1) → ((¬ x1 = ((0 : Int32))) → K23 k1 k2 k3 (v4 + (6 : Int32)) M2) ∧ (¬ (¬ x1 = ((0 : Int32))) → (vp_in ((0 : Int32)) (rK M2 k3).2) ∧ ((((lg_cmp (rJ M2 k3 ((0 : Int32)).toNatClampNeg) x2.toInt64) = ((0 : Int32))) → K23 k1 k2 k3 (v4 + (6 : Int32)) M2) ∧ (¬ ((lg_cmp (rJ M2 k3 ((0 : Int32)).toNatClampNeg) x2.toInt64) = ((0 : Int32))) → (((0 : Int32)) = 0 ∨ ((0 : Int32)) = 1) ∧ post ((0 : Int32)) M2)))) ∧ (¬ (x3 = x1) → (((0 : Int32)) = 0 ∨ ((0 : Int32)) = 1) ∧ post ((0 : Int32)) M2)) k2 M2) k2 (rI M1 0 (v4 + ((1 : Int32))).toNatClampNeg) (rI M1 0 (v4 + ((2 : Int32))).toNatClampNeg) (rI M1 0 (v4 + ((3 : Int32))).toNatClampNeg) (rI M1 0 (v4 + ((4 : Int32))).toNatClampNeg) M1)) k1 (rI M 0 (v4 + ((1 : Int32))).toNatClampNeg) (rI M 0 (v4 + ((2 : Int32))).toNatClampNeg) (rI M 0 (v4 + ((3 : Int32))).toNatClampNeg) (rI M 0 (v4 + ((4 : Int32))).toNatClampNeg) k3 M)
theorem g_La_law_J493 {d w : Nat} (hd : 159 ≤ d) (hw : 4253 ≤ w) {post : Int32 → aM → Prop} {K23 : Nat → Nat → Nat → Int32 → aM → Prop} (hK23 : ∀ (k1 : Nat) (k2 : Nat) (k3 : Nat) (v4 : Int32) (o5 o6 : Option aV) (M : aM), K23 k1 k2 k3 v4 M → Gd d w 249 (pI post) (23, [some (aR 2 0), some (aR 10 k1), some (aR 21 k2), some (aR 6 k3), some (aI v4), o5, o6], [], M)) (k1 : Nat) (k2 : Nat) (k3 : Nat) (v4 : Int32) (o5 o6 : Option aV) (M : aM) (h : w_La_law_J493 post K23 k1 k2 k3 v4 M) : Gd d w 249 (pI post) (493, [some (aR 2 0), some (aR 10 k1), some (aR 21 k2), some (aR 6 k3), some (aI v4), o5, o6], [], M) := by
  unfold w_La_law_J493 at h
  show Gd d w 249 _ (493, [some (aR 2 0), some (aR 10 k1), some (aR 21 k2), some (aR 6 k3), some (aI v4), o5, o6], [], M)
  obtain ⟨c0, c1, c2, c3, h⟩ := h
  refine gd_s (P := True ∧ True ∧ True ∧ True ∧ True ∧ (vp_in (v4 + ((1 : Int32))) (rK M 0).2) ∧ True ∧ True ∧ True ∧ True ∧ (vp_in (v4 + ((2 : Int32))) (rK M 0).2) ∧ True ∧ True ∧ True ∧ True ∧ (vp_in (v4 + ((3 : Int32))) (rK M 0).2) ∧ True ∧ True ∧ True ∧ True ∧ (vp_in (v4 + ((4 : Int32))) (rK M 0).2) ∧ True ∧ True) (σ1 := (519, [some (aR 2 0), some (aR 10 k1), some (aR 21 k2), some (aR 6 k3), some (aI v4), o5, o6], [aR 6 k3, aI (rI M 0 (v4 + ((4 : Int32))).toNatClampNeg), aI (rI M 0 (v4 + ((3 : Int32))).toNatClampNeg), aI (rI M 0 (v4 + ((2 : Int32))).toNatClampNeg), aI (rI M 0 (v4 + ((1 : Int32))).toNatClampNeg), aR 10 k1], M)) tc_249 rfl 22 (fun u => ⟨_, rfl⟩) ⟨trivial, trivial, trivial, trivial, trivial, c0, trivial, trivial, trivial, trivial, c1, trivial, trivial, trivial, trivial, c2, trivial, trivial, trivial, trivial, c3, trivial, trivial⟩ ?_
  obtain ⟨hN, h⟩ := h
  refine gd_callN (ml := 7) (as := [aR 10 k1, aI (rI M 0 (v4 + ((1 : Int32))).toNatClampNeg), aI (rI M 0 (v4 + ((2 : Int32))).toNatClampNeg), aI (rI M 0 (v4 + ((3 : Int32))).toNatClampNeg), aI (rI M 0 (v4 + ((4 : Int32))).toNatClampNeg), aR 6 k3]) (rest := []) tc_249 rfl rfl rfl rfl rfl (by omega) (by omega) (Nat.le_of_ble_eq_true rfl) rfl (g_La_name (by omega) (by omega) hN h) (fun r9 M1 h => ?_)
  obtain ⟨x1, rfl, h⟩ := h
  show Gd d w 249 _ (522, [some (aR 2 0), some (aR 10 k1), some (aR 21 k2), some (aR 6 k3), some (aI v4), o5, o6], [aI x1], M1)
  obtain ⟨c0, c1, c2, c3, h⟩ := h
  refine gd_s (P := True ∧ True ∧ True ∧ True ∧ True ∧ True ∧ (vp_in (v4 + ((1 : Int32))) (rK M1 0).2) ∧ True ∧ True ∧ True ∧ True ∧ (vp_in (v4 + ((2 : Int32))) (rK M1 0).2) ∧ True ∧ True ∧ True ∧ True ∧ (vp_in (v4 + ((3 : Int32))) (rK M1 0).2) ∧ True ∧ True ∧ True ∧ True ∧ (vp_in (v4 + ((4 : Int32))) (rK M1 0).2) ∧ True) (σ1 := (549, [some (aR 2 0), some (aR 10 k1), some (aR 21 k2), some (aR 6 k3), some (aI v4), some (aI x1), o6], [aI (rI M1 0 (v4 + ((4 : Int32))).toNatClampNeg), aI (rI M1 0 (v4 + ((3 : Int32))).toNatClampNeg), aI (rI M1 0 (v4 + ((2 : Int32))).toNatClampNeg), aI (rI M1 0 (v4 + ((1 : Int32))).toNatClampNeg), aR 21 k2], M1)) tc_249 rfl 22 (fun u => ⟨_, rfl⟩) ⟨trivial, trivial, trivial, trivial, trivial, trivial, c0, trivial, trivial, trivial, trivial, c1, trivial, trivial, trivial, trivial, c2, trivial, trivial, trivial, trivial, c3, trivial⟩ ?_
  refine gd_callN (ml := 7) (as := [aR 21 k2, aI (rI M1 0 (v4 + ((1 : Int32))).toNatClampNeg), aI (rI M1 0 (v4 + ((2 : Int32))).toNatClampNeg), aI (rI M1 0 (v4 + ((3 : Int32))).toNatClampNeg), aI (rI M1 0 (v4 + ((4 : Int32))).toNatClampNeg)]) (rest := []) tc_249 rfl rfl rfl rfl rfl (by omega) (by omega) (Nat.le_of_ble_eq_true rfl) rfl (g_Mo_name (by omega) (by omega) h) (fun r9 M2 h => ?_)
  obtain ⟨x2, rfl, h⟩ := h
  show Gd d w 249 _ (552, [some (aR 2 0), some (aR 10 k1), some (aR 21 k2), some (aR 6 k3), some (aI v4), some (aI x1), o6], [aI x2], M2)
  refine gd_s (P := True ∧ True ∧ True) (σ1 := (555, [some (aR 2 0), some (aR 10 k1), some (aR 21 k2), some (aR 6 k3), some (aI v4), some (aI x1), some (aI x2)], [aR 21 k2], M2)) tc_249 rfl 2 (fun u => ⟨_, rfl⟩) ⟨trivial, trivial, trivial⟩ ?_
  refine gd_callN (ml := 1) (as := [aR 21 k2]) (rest := []) tc_249 rfl rfl rfl rfl rfl (by omega) (by omega) (Nat.le_of_ble_eq_true rfl) rfl (g_Mo_thrown (by omega) (by omega) h) (fun r9 M9 h => ?_)
  obtain ⟨x3, rfl, e9, h⟩ := h
  subst M9
  show Gd d w 249 _ (558, [some (aR 2 0), some (aR 10 k1), some (aR 21 k2), some (aR 6 k3), some (aI v4), some (aI x1), some (aI x2)], [aI x3], M2)
  refine gd_s (P := True ∧ True) (σ1 := (560, [some (aR 2 0), some (aR 10 k1), some (aR 21 k2), some (aR 6 k3), some (aI v4), some (aI x1), some (aI x2)], [aI x1, aI x3], M2)) tc_249 rfl 1 (fun u => ⟨_, rfl⟩) ⟨trivial, trivial⟩ ?_
  refine gd_br (c := x3 = x1) (st1 := []) tc_249 rfl rfl (fun _ => rfl) ⟨fun hc => ?_, fun hc => ?_⟩
  · have h := h.1 hc
    show Gd d w 249 _ (565, [some (aR 2 0), some (aR 10 k1), some (aR 21 k2), some (aR 6 k3), some (aI v4), some (aI x1), some (aI x2)], [], M2)
    refine gd_s (P := True ∧ True) (σ1 := (567, [some (aR 2 0), some (aR 10 k1), some (aR 21 k2), some (aR 6 k3), some (aI v4), some (aI x1), some (aI x2)], [aI x1], M2)) tc_249 rfl 1 (fun u => ⟨_, rfl⟩) ⟨trivial, trivial⟩ ?_
    refine gd_br (c := ¬ x1 = ((0 : Int32))) (st1 := []) tc_249 rfl rfl (fun _ => rfl) ⟨fun hc => ?_, fun hc => ?_⟩
    · have h := h.1 hc
      show Gd d w 249 _ (582, [some (aR 2 0), some (aR 10 k1), some (aR 21 k2), some (aR 6 k3), some (aI v4), some (aI x1), some (aI x2)], [], M2)
      refine gd_s (P := True ∧ True ∧ True ∧ True) (σ1 := (23, [some (aR 2 0), some (aR 10 k1), some (aR 21 k2), some (aR 6 k3), some (aI (v4 + (6 : Int32))), some (aI x1), some (aI x2)], [], M2)) tc_249 rfl 3 (fun u => ⟨_, rfl⟩) ⟨trivial, trivial, trivial, trivial⟩ ?_
      exact hK23 k1 k2 k3 (v4 + (6 : Int32)) (some (aI x1)) (some (aI x2)) M2 h
    · have h := h.2 hc
      show Gd d w 249 _ (570, [some (aR 2 0), some (aR 10 k1), some (aR 21 k2), some (aR 6 k3), some (aI v4), some (aI x1), some (aI x2)], [], M2)
      obtain ⟨c0, h⟩ := h
      refine gd_s (P := True ∧ True ∧ (vp_in ((0 : Int32)) (rK M2 k3).2) ∧ True ∧ True ∧ True ∧ True) (σ1 := (577, [some (aR 2 0), some (aR 10 k1), some (aR 21 k2), some (aR 6 k3), some (aI v4), some (aI x1), some (aI x2)], [aI (lg_cmp (rJ M2 k3 ((0 : Int32)).toNatClampNeg) x2.toInt64)], M2)) tc_249 rfl 6 (fun u => ⟨_, rfl⟩) ⟨trivial, trivial, c0, trivial, trivial, trivial, trivial⟩ ?_
      refine gd_br (c := (lg_cmp (rJ M2 k3 ((0 : Int32)).toNatClampNeg) x2.toInt64) = ((0 : Int32))) (st1 := []) tc_249 rfl rfl (fun _ => rfl) ⟨fun hc => ?_, fun hc => ?_⟩
      · have h := h.1 hc
        show Gd d w 249 _ (582, [some (aR 2 0), some (aR 10 k1), some (aR 21 k2), some (aR 6 k3), some (aI v4), some (aI x1), some (aI x2)], [], M2)
        refine gd_s (P := True ∧ True ∧ True ∧ True) (σ1 := (23, [some (aR 2 0), some (aR 10 k1), some (aR 21 k2), some (aR 6 k3), some (aI (v4 + (6 : Int32))), some (aI x1), some (aI x2)], [], M2)) tc_249 rfl 3 (fun u => ⟨_, rfl⟩) ⟨trivial, trivial, trivial, trivial⟩ ?_
        exact hK23 k1 k2 k3 (v4 + (6 : Int32)) (some (aI x1)) (some (aI x2)) M2 h
      · have h := h.2 hc
        show Gd d w 249 _ (580, [some (aR 2 0), some (aR 10 k1), some (aR 21 k2), some (aR 6 k3), some (aI v4), some (aI x1), some (aI x2)], [], M2)
        refine gd_s (P := True ∧ True) (σ1 := (581, [some (aR 2 0), some (aR 10 k1), some (aR 21 k2), some (aR 6 k3), some (aI v4), some (aI x1), some (aI x2)], [aI ((0 : Int32))], M2)) tc_249 rfl 1 (fun u => ⟨_, rfl⟩) ⟨trivial, trivial⟩ ?_
        exact gd_ret tc_249 rfl rfl h.1 (fun _ => rfl) ⟨_, rfl, h.2⟩
  · have h := h.2 hc
    show Gd d w 249 _ (563, [some (aR 2 0), some (aR 10 k1), some (aR 21 k2), some (aR 6 k3), some (aI v4), some (aI x1), some (aI x2)], [], M2)
    refine gd_s (P := True ∧ True) (σ1 := (564, [some (aR 2 0), some (aR 10 k1), some (aR 21 k2), some (aR 6 k3), some (aI v4), some (aI x1), some (aI x2)], [aI ((0 : Int32))], M2)) tc_249 rfl 1 (fun u => ⟨_, rfl⟩) ⟨trivial, trivial⟩ ?_
    exact gd_ret tc_249 rfl rfl h.1 (fun _ => rfl) ⟨_, rfl, h.2⟩
def w_La_law_J585 (post : Int32 → aM → Prop) (K23 : Nat → Nat → Nat → Int32 → aM → Prop) (k1 : Nat) (k2 : Nat) (k3 : Nat) (v4 : Int32) (M : aM) : Prop := (vp_in (v4 + ((1 : Int32))) (rK M 0).2) ∧ (vp_in (v4 + ((2 : Int32))) (rK M 0).2) ∧ (vp_in (v4 + ((3 : Int32))) (rK M 0).2) ∧ (0 < aN M ∧ w_La_attribute (fun x1 M1 => (vp_in (v4 + ((1 : Int32))) (rK M1 0).2) ∧ (vp_in (v4 + ((2 : Int32))) (rK M1 0).2) ∧ (vp_in (v4 + ((3 : Int32))) (rK M1 0).2) ∧ (w_Mo_attribute (fun x2 M2 => w_Mo_thrown (fun x3 => ((x3 = x1) → ((¬ x1 = ((0 : Int32))) → K23 k1 k2 k3 (v4 + (6 : Int32)) M2) ∧ (¬ (¬ x1 = ((0 : Int32))) → (vp_in ((0 : Int32)) (rK M2 k3).2) ∧ ((((lg_cmp (rJ M2 k3 ((0 : Int32)).toNatClampNeg) x2.toInt64) = ((0 : Int32))) → K23 k1 k2 k3 (v4 + (6 : Int32)) M2) ∧ (¬ ((lg_cmp (rJ M2 k3 ((0 : Int32)).toNatClampNeg) x2.toInt64) = ((0 : Int32))) → (((0 : Int32)) = 0 ∨ ((0 : Int32)) = 1) ∧ post ((0 : Int32)) M2)))) ∧ (¬ (x3 = x1) → (((0 : Int32)) = 0 ∨ ((0 : Int32)) = 1) ∧ post ((0 : Int32)) M2)) k2 M2) k2 (rI M1 0 (v4 + ((1 : Int32))).toNatClampNeg) (rI M1 0 (v4 + ((2 : Int32))).toNatClampNeg) (rI M1 0 (v4 + ((3 : Int32))).toNatClampNeg) M1)) k1 (rI M 0 (v4 + ((1 : Int32))).toNatClampNeg) (rI M 0 (v4 + ((2 : Int32))).toNatClampNeg) (rI M 0 (v4 + ((3 : Int32))).toNatClampNeg) k3 M)
theorem g_La_law_J585 {d w : Nat} (hd : 159 ≤ d) (hw : 4253 ≤ w) {post : Int32 → aM → Prop} {K23 : Nat → Nat → Nat → Int32 → aM → Prop} (hK23 : ∀ (k1 : Nat) (k2 : Nat) (k3 : Nat) (v4 : Int32) (o5 o6 : Option aV) (M : aM), K23 k1 k2 k3 v4 M → Gd d w 249 (pI post) (23, [some (aR 2 0), some (aR 10 k1), some (aR 21 k2), some (aR 6 k3), some (aI v4), o5, o6], [], M)) (k1 : Nat) (k2 : Nat) (k3 : Nat) (v4 : Int32) (o5 o6 : Option aV) (M : aM) (h : w_La_law_J585 post K23 k1 k2 k3 v4 M) : Gd d w 249 (pI post) (585, [some (aR 2 0), some (aR 10 k1), some (aR 21 k2), some (aR 6 k3), some (aI v4), o5, o6], [], M) := by
  unfold w_La_law_J585 at h
  show Gd d w 249 _ (585, [some (aR 2 0), some (aR 10 k1), some (aR 21 k2), some (aR 6 k3), some (aI v4), o5, o6], [], M)
  obtain ⟨c0, c1, c2, h⟩ := h
  refine gd_s (P := True ∧ True ∧ True ∧ True ∧ True ∧ (vp_in (v4 + ((1 : Int32))) (rK M 0).2) ∧ True ∧ True ∧ True ∧ True ∧ (vp_in (v4 + ((2 : Int32))) (rK M 0).2) ∧ True ∧ True ∧ True ∧ True ∧ (vp_in (v4 + ((3 : Int32))) (rK M 0).2) ∧ True ∧ True) (σ1 := (605, [some (aR 2 0), some (aR 10 k1), some (aR 21 k2), some (aR 6 k3), some (aI v4), o5, o6], [aR 6 k3, aI (rI M 0 (v4 + ((3 : Int32))).toNatClampNeg), aI (rI M 0 (v4 + ((2 : Int32))).toNatClampNeg), aI (rI M 0 (v4 + ((1 : Int32))).toNatClampNeg), aR 10 k1], M)) tc_249 rfl 17 (fun u => ⟨_, rfl⟩) ⟨trivial, trivial, trivial, trivial, trivial, c0, trivial, trivial, trivial, trivial, c1, trivial, trivial, trivial, trivial, c2, trivial, trivial⟩ ?_
  obtain ⟨hN, h⟩ := h
  refine gd_callN (ml := 6) (as := [aR 10 k1, aI (rI M 0 (v4 + ((1 : Int32))).toNatClampNeg), aI (rI M 0 (v4 + ((2 : Int32))).toNatClampNeg), aI (rI M 0 (v4 + ((3 : Int32))).toNatClampNeg), aR 6 k3]) (rest := []) tc_249 rfl rfl rfl rfl rfl (by omega) (by omega) (Nat.le_of_ble_eq_true rfl) rfl (g_La_attribute (by omega) (by omega) hN h) (fun r9 M1 h => ?_)
  obtain ⟨x1, rfl, h⟩ := h
  show Gd d w 249 _ (608, [some (aR 2 0), some (aR 10 k1), some (aR 21 k2), some (aR 6 k3), some (aI v4), o5, o6], [aI x1], M1)
  obtain ⟨c0, c1, c2, h⟩ := h
  refine gd_s (P := True ∧ True ∧ True ∧ True ∧ True ∧ True ∧ (vp_in (v4 + ((1 : Int32))) (rK M1 0).2) ∧ True ∧ True ∧ True ∧ True ∧ (vp_in (v4 + ((2 : Int32))) (rK M1 0).2) ∧ True ∧ True ∧ True ∧ True ∧ (vp_in (v4 + ((3 : Int32))) (rK M1 0).2) ∧ True) (σ1 := (629, [some (aR 2 0), some (aR 10 k1), some (aR 21 k2), some (aR 6 k3), some (aI v4), some (aI x1), o6], [aI (rI M1 0 (v4 + ((3 : Int32))).toNatClampNeg), aI (rI M1 0 (v4 + ((2 : Int32))).toNatClampNeg), aI (rI M1 0 (v4 + ((1 : Int32))).toNatClampNeg), aR 21 k2], M1)) tc_249 rfl 17 (fun u => ⟨_, rfl⟩) ⟨trivial, trivial, trivial, trivial, trivial, trivial, c0, trivial, trivial, trivial, trivial, c1, trivial, trivial, trivial, trivial, c2, trivial⟩ ?_
  refine gd_callN (ml := 5) (as := [aR 21 k2, aI (rI M1 0 (v4 + ((1 : Int32))).toNatClampNeg), aI (rI M1 0 (v4 + ((2 : Int32))).toNatClampNeg), aI (rI M1 0 (v4 + ((3 : Int32))).toNatClampNeg)]) (rest := []) tc_249 rfl rfl rfl rfl rfl (by omega) (by omega) (Nat.le_of_ble_eq_true rfl) rfl (g_Mo_attribute (by omega) (by omega) h) (fun r9 M2 h => ?_)
  obtain ⟨x2, rfl, h⟩ := h
  show Gd d w 249 _ (632, [some (aR 2 0), some (aR 10 k1), some (aR 21 k2), some (aR 6 k3), some (aI v4), some (aI x1), o6], [aI x2], M2)
  refine gd_s (P := True ∧ True ∧ True) (σ1 := (635, [some (aR 2 0), some (aR 10 k1), some (aR 21 k2), some (aR 6 k3), some (aI v4), some (aI x1), some (aI x2)], [aR 21 k2], M2)) tc_249 rfl 2 (fun u => ⟨_, rfl⟩) ⟨trivial, trivial, trivial⟩ ?_
  refine gd_callN (ml := 1) (as := [aR 21 k2]) (rest := []) tc_249 rfl rfl rfl rfl rfl (by omega) (by omega) (Nat.le_of_ble_eq_true rfl) rfl (g_Mo_thrown (by omega) (by omega) h) (fun r9 M9 h => ?_)
  obtain ⟨x3, rfl, e9, h⟩ := h
  subst M9
  show Gd d w 249 _ (638, [some (aR 2 0), some (aR 10 k1), some (aR 21 k2), some (aR 6 k3), some (aI v4), some (aI x1), some (aI x2)], [aI x3], M2)
  refine gd_s (P := True ∧ True) (σ1 := (640, [some (aR 2 0), some (aR 10 k1), some (aR 21 k2), some (aR 6 k3), some (aI v4), some (aI x1), some (aI x2)], [aI x1, aI x3], M2)) tc_249 rfl 1 (fun u => ⟨_, rfl⟩) ⟨trivial, trivial⟩ ?_
  refine gd_br (c := x3 = x1) (st1 := []) tc_249 rfl rfl (fun _ => rfl) ⟨fun hc => ?_, fun hc => ?_⟩
  · have h := h.1 hc
    show Gd d w 249 _ (645, [some (aR 2 0), some (aR 10 k1), some (aR 21 k2), some (aR 6 k3), some (aI v4), some (aI x1), some (aI x2)], [], M2)
    refine gd_s (P := True ∧ True) (σ1 := (647, [some (aR 2 0), some (aR 10 k1), some (aR 21 k2), some (aR 6 k3), some (aI v4), some (aI x1), some (aI x2)], [aI x1], M2)) tc_249 rfl 1 (fun u => ⟨_, rfl⟩) ⟨trivial, trivial⟩ ?_
    refine gd_br (c := ¬ x1 = ((0 : Int32))) (st1 := []) tc_249 rfl rfl (fun _ => rfl) ⟨fun hc => ?_, fun hc => ?_⟩
    · have h := h.1 hc
      show Gd d w 249 _ (662, [some (aR 2 0), some (aR 10 k1), some (aR 21 k2), some (aR 6 k3), some (aI v4), some (aI x1), some (aI x2)], [], M2)
      refine gd_s (P := True ∧ True ∧ True ∧ True) (σ1 := (23, [some (aR 2 0), some (aR 10 k1), some (aR 21 k2), some (aR 6 k3), some (aI (v4 + (6 : Int32))), some (aI x1), some (aI x2)], [], M2)) tc_249 rfl 3 (fun u => ⟨_, rfl⟩) ⟨trivial, trivial, trivial, trivial⟩ ?_
      exact hK23 k1 k2 k3 (v4 + (6 : Int32)) (some (aI x1)) (some (aI x2)) M2 h
    · have h := h.2 hc
      show Gd d w 249 _ (650, [some (aR 2 0), some (aR 10 k1), some (aR 21 k2), some (aR 6 k3), some (aI v4), some (aI x1), some (aI x2)], [], M2)
      obtain ⟨c0, h⟩ := h
      refine gd_s (P := True ∧ True ∧ (vp_in ((0 : Int32)) (rK M2 k3).2) ∧ True ∧ True ∧ True ∧ True) (σ1 := (657, [some (aR 2 0), some (aR 10 k1), some (aR 21 k2), some (aR 6 k3), some (aI v4), some (aI x1), some (aI x2)], [aI (lg_cmp (rJ M2 k3 ((0 : Int32)).toNatClampNeg) x2.toInt64)], M2)) tc_249 rfl 6 (fun u => ⟨_, rfl⟩) ⟨trivial, trivial, c0, trivial, trivial, trivial, trivial⟩ ?_
      refine gd_br (c := (lg_cmp (rJ M2 k3 ((0 : Int32)).toNatClampNeg) x2.toInt64) = ((0 : Int32))) (st1 := []) tc_249 rfl rfl (fun _ => rfl) ⟨fun hc => ?_, fun hc => ?_⟩
      · have h := h.1 hc
        show Gd d w 249 _ (662, [some (aR 2 0), some (aR 10 k1), some (aR 21 k2), some (aR 6 k3), some (aI v4), some (aI x1), some (aI x2)], [], M2)
        refine gd_s (P := True ∧ True ∧ True ∧ True) (σ1 := (23, [some (aR 2 0), some (aR 10 k1), some (aR 21 k2), some (aR 6 k3), some (aI (v4 + (6 : Int32))), some (aI x1), some (aI x2)], [], M2)) tc_249 rfl 3 (fun u => ⟨_, rfl⟩) ⟨trivial, trivial, trivial, trivial⟩ ?_
        exact hK23 k1 k2 k3 (v4 + (6 : Int32)) (some (aI x1)) (some (aI x2)) M2 h
      · have h := h.2 hc
        show Gd d w 249 _ (660, [some (aR 2 0), some (aR 10 k1), some (aR 21 k2), some (aR 6 k3), some (aI v4), some (aI x1), some (aI x2)], [], M2)
        refine gd_s (P := True ∧ True) (σ1 := (661, [some (aR 2 0), some (aR 10 k1), some (aR 21 k2), some (aR 6 k3), some (aI v4), some (aI x1), some (aI x2)], [aI ((0 : Int32))], M2)) tc_249 rfl 1 (fun u => ⟨_, rfl⟩) ⟨trivial, trivial⟩ ?_
        exact gd_ret tc_249 rfl rfl h.1 (fun _ => rfl) ⟨_, rfl, h.2⟩
  · have h := h.2 hc
    show Gd d w 249 _ (643, [some (aR 2 0), some (aR 10 k1), some (aR 21 k2), some (aR 6 k3), some (aI v4), some (aI x1), some (aI x2)], [], M2)
    refine gd_s (P := True ∧ True) (σ1 := (644, [some (aR 2 0), some (aR 10 k1), some (aR 21 k2), some (aR 6 k3), some (aI v4), some (aI x1), some (aI x2)], [aI ((0 : Int32))], M2)) tc_249 rfl 1 (fun u => ⟨_, rfl⟩) ⟨trivial, trivial⟩ ?_
    exact gd_ret tc_249 rfl rfl h.1 (fun _ => rfl) ⟨_, rfl, h.2⟩
def w_La_law_J665 (post : Int32 → aM → Prop) (K23 : Nat → Nat → Nat → Int32 → aM → Prop) (k1 : Nat) (k2 : Nat) (k3 : Nat) (v4 : Int32) (M : aM) : Prop := (vp_in (v4 + ((1 : Int32))) (rK M 0).2) ∧ (vp_in (v4 + ((2 : Int32))) (rK M 0).2) ∧ (vp_in (v4 + ((3 : Int32))) (rK M 0).2) ∧ (0 < aN M ∧ w_La_bag (fun x1 M1 => (vp_in (v4 + ((1 : Int32))) (rK M1 0).2) ∧ (vp_in (v4 + ((2 : Int32))) (rK M1 0).2) ∧ (vp_in (v4 + ((3 : Int32))) (rK M1 0).2) ∧ (w_Mo_bag (fun x2 M2 => w_Mo_thrown (fun x3 => ((x3 = x1) → ((¬ x1 = ((0 : Int32))) → K23 k1 k2 k3 (v4 + (6 : Int32)) M2) ∧ (¬ (¬ x1 = ((0 : Int32))) → (vp_in ((0 : Int32)) (rK M2 k3).2) ∧ ((((lg_cmp (rJ M2 k3 ((0 : Int32)).toNatClampNeg) x2.toInt64) = ((0 : Int32))) → K23 k1 k2 k3 (v4 + (6 : Int32)) M2) ∧ (¬ ((lg_cmp (rJ M2 k3 ((0 : Int32)).toNatClampNeg) x2.toInt64) = ((0 : Int32))) → (((0 : Int32)) = 0 ∨ ((0 : Int32)) = 1) ∧ post ((0 : Int32)) M2)))) ∧ (¬ (x3 = x1) → (((0 : Int32)) = 0 ∨ ((0 : Int32)) = 1) ∧ post ((0 : Int32)) M2)) k2 M2) k2 (rI M1 0 (v4 + ((1 : Int32))).toNatClampNeg) (rI M1 0 (v4 + ((2 : Int32))).toNatClampNeg) (rI M1 0 (v4 + ((3 : Int32))).toNatClampNeg) M1)) k1 (rI M 0 (v4 + ((1 : Int32))).toNatClampNeg) (rI M 0 (v4 + ((2 : Int32))).toNatClampNeg) (rI M 0 (v4 + ((3 : Int32))).toNatClampNeg) k3 M)
theorem g_La_law_J665 {d w : Nat} (hd : 159 ≤ d) (hw : 4253 ≤ w) {post : Int32 → aM → Prop} {K23 : Nat → Nat → Nat → Int32 → aM → Prop} (hK23 : ∀ (k1 : Nat) (k2 : Nat) (k3 : Nat) (v4 : Int32) (o5 o6 : Option aV) (M : aM), K23 k1 k2 k3 v4 M → Gd d w 249 (pI post) (23, [some (aR 2 0), some (aR 10 k1), some (aR 21 k2), some (aR 6 k3), some (aI v4), o5, o6], [], M)) (k1 : Nat) (k2 : Nat) (k3 : Nat) (v4 : Int32) (o5 o6 : Option aV) (M : aM) (h : w_La_law_J665 post K23 k1 k2 k3 v4 M) : Gd d w 249 (pI post) (665, [some (aR 2 0), some (aR 10 k1), some (aR 21 k2), some (aR 6 k3), some (aI v4), o5, o6], [], M) := by
  unfold w_La_law_J665 at h
  show Gd d w 249 _ (665, [some (aR 2 0), some (aR 10 k1), some (aR 21 k2), some (aR 6 k3), some (aI v4), o5, o6], [], M)
  obtain ⟨c0, c1, c2, h⟩ := h
  refine gd_s (P := True ∧ True ∧ True ∧ True ∧ True ∧ (vp_in (v4 + ((1 : Int32))) (rK M 0).2) ∧ True ∧ True ∧ True ∧ True ∧ (vp_in (v4 + ((2 : Int32))) (rK M 0).2) ∧ True ∧ True ∧ True ∧ True ∧ (vp_in (v4 + ((3 : Int32))) (rK M 0).2) ∧ True ∧ True) (σ1 := (685, [some (aR 2 0), some (aR 10 k1), some (aR 21 k2), some (aR 6 k3), some (aI v4), o5, o6], [aR 6 k3, aI (rI M 0 (v4 + ((3 : Int32))).toNatClampNeg), aI (rI M 0 (v4 + ((2 : Int32))).toNatClampNeg), aI (rI M 0 (v4 + ((1 : Int32))).toNatClampNeg), aR 10 k1], M)) tc_249 rfl 17 (fun u => ⟨_, rfl⟩) ⟨trivial, trivial, trivial, trivial, trivial, c0, trivial, trivial, trivial, trivial, c1, trivial, trivial, trivial, trivial, c2, trivial, trivial⟩ ?_
  obtain ⟨hN, h⟩ := h
  refine gd_callN (ml := 6) (as := [aR 10 k1, aI (rI M 0 (v4 + ((1 : Int32))).toNatClampNeg), aI (rI M 0 (v4 + ((2 : Int32))).toNatClampNeg), aI (rI M 0 (v4 + ((3 : Int32))).toNatClampNeg), aR 6 k3]) (rest := []) tc_249 rfl rfl rfl rfl rfl (by omega) (by omega) (Nat.le_of_ble_eq_true rfl) rfl (g_La_bag (by omega) (by omega) hN h) (fun r9 M1 h => ?_)
  obtain ⟨x1, rfl, h⟩ := h
  show Gd d w 249 _ (688, [some (aR 2 0), some (aR 10 k1), some (aR 21 k2), some (aR 6 k3), some (aI v4), o5, o6], [aI x1], M1)
  obtain ⟨c0, c1, c2, h⟩ := h
  refine gd_s (P := True ∧ True ∧ True ∧ True ∧ True ∧ True ∧ (vp_in (v4 + ((1 : Int32))) (rK M1 0).2) ∧ True ∧ True ∧ True ∧ True ∧ (vp_in (v4 + ((2 : Int32))) (rK M1 0).2) ∧ True ∧ True ∧ True ∧ True ∧ (vp_in (v4 + ((3 : Int32))) (rK M1 0).2) ∧ True) (σ1 := (709, [some (aR 2 0), some (aR 10 k1), some (aR 21 k2), some (aR 6 k3), some (aI v4), some (aI x1), o6], [aI (rI M1 0 (v4 + ((3 : Int32))).toNatClampNeg), aI (rI M1 0 (v4 + ((2 : Int32))).toNatClampNeg), aI (rI M1 0 (v4 + ((1 : Int32))).toNatClampNeg), aR 21 k2], M1)) tc_249 rfl 17 (fun u => ⟨_, rfl⟩) ⟨trivial, trivial, trivial, trivial, trivial, trivial, c0, trivial, trivial, trivial, trivial, c1, trivial, trivial, trivial, trivial, c2, trivial⟩ ?_
  refine gd_callN (ml := 6) (as := [aR 21 k2, aI (rI M1 0 (v4 + ((1 : Int32))).toNatClampNeg), aI (rI M1 0 (v4 + ((2 : Int32))).toNatClampNeg), aI (rI M1 0 (v4 + ((3 : Int32))).toNatClampNeg)]) (rest := []) tc_249 rfl rfl rfl rfl rfl (by omega) (by omega) (Nat.le_of_ble_eq_true rfl) rfl (g_Mo_bag (by omega) (by omega) h) (fun r9 M2 h => ?_)
  obtain ⟨x2, rfl, h⟩ := h
  show Gd d w 249 _ (712, [some (aR 2 0), some (aR 10 k1), some (aR 21 k2), some (aR 6 k3), some (aI v4), some (aI x1), o6], [aI x2], M2)
  refine gd_s (P := True ∧ True ∧ True) (σ1 := (715, [some (aR 2 0), some (aR 10 k1), some (aR 21 k2), some (aR 6 k3), some (aI v4), some (aI x1), some (aI x2)], [aR 21 k2], M2)) tc_249 rfl 2 (fun u => ⟨_, rfl⟩) ⟨trivial, trivial, trivial⟩ ?_
  refine gd_callN (ml := 1) (as := [aR 21 k2]) (rest := []) tc_249 rfl rfl rfl rfl rfl (by omega) (by omega) (Nat.le_of_ble_eq_true rfl) rfl (g_Mo_thrown (by omega) (by omega) h) (fun r9 M9 h => ?_)
  obtain ⟨x3, rfl, e9, h⟩ := h
  subst M9
  show Gd d w 249 _ (718, [some (aR 2 0), some (aR 10 k1), some (aR 21 k2), some (aR 6 k3), some (aI v4), some (aI x1), some (aI x2)], [aI x3], M2)
  refine gd_s (P := True ∧ True) (σ1 := (720, [some (aR 2 0), some (aR 10 k1), some (aR 21 k2), some (aR 6 k3), some (aI v4), some (aI x1), some (aI x2)], [aI x1, aI x3], M2)) tc_249 rfl 1 (fun u => ⟨_, rfl⟩) ⟨trivial, trivial⟩ ?_
  refine gd_br (c := x3 = x1) (st1 := []) tc_249 rfl rfl (fun _ => rfl) ⟨fun hc => ?_, fun hc => ?_⟩
  · have h := h.1 hc
    show Gd d w 249 _ (725, [some (aR 2 0), some (aR 10 k1), some (aR 21 k2), some (aR 6 k3), some (aI v4), some (aI x1), some (aI x2)], [], M2)
    refine gd_s (P := True ∧ True) (σ1 := (727, [some (aR 2 0), some (aR 10 k1), some (aR 21 k2), some (aR 6 k3), some (aI v4), some (aI x1), some (aI x2)], [aI x1], M2)) tc_249 rfl 1 (fun u => ⟨_, rfl⟩) ⟨trivial, trivial⟩ ?_
    refine gd_br (c := ¬ x1 = ((0 : Int32))) (st1 := []) tc_249 rfl rfl (fun _ => rfl) ⟨fun hc => ?_, fun hc => ?_⟩
    · have h := h.1 hc
      show Gd d w 249 _ (742, [some (aR 2 0), some (aR 10 k1), some (aR 21 k2), some (aR 6 k3), some (aI v4), some (aI x1), some (aI x2)], [], M2)
      refine gd_s (P := True ∧ True ∧ True ∧ True) (σ1 := (23, [some (aR 2 0), some (aR 10 k1), some (aR 21 k2), some (aR 6 k3), some (aI (v4 + (6 : Int32))), some (aI x1), some (aI x2)], [], M2)) tc_249 rfl 3 (fun u => ⟨_, rfl⟩) ⟨trivial, trivial, trivial, trivial⟩ ?_
      exact hK23 k1 k2 k3 (v4 + (6 : Int32)) (some (aI x1)) (some (aI x2)) M2 h
    · have h := h.2 hc
      show Gd d w 249 _ (730, [some (aR 2 0), some (aR 10 k1), some (aR 21 k2), some (aR 6 k3), some (aI v4), some (aI x1), some (aI x2)], [], M2)
      obtain ⟨c0, h⟩ := h
      refine gd_s (P := True ∧ True ∧ (vp_in ((0 : Int32)) (rK M2 k3).2) ∧ True ∧ True ∧ True ∧ True) (σ1 := (737, [some (aR 2 0), some (aR 10 k1), some (aR 21 k2), some (aR 6 k3), some (aI v4), some (aI x1), some (aI x2)], [aI (lg_cmp (rJ M2 k3 ((0 : Int32)).toNatClampNeg) x2.toInt64)], M2)) tc_249 rfl 6 (fun u => ⟨_, rfl⟩) ⟨trivial, trivial, c0, trivial, trivial, trivial, trivial⟩ ?_
      refine gd_br (c := (lg_cmp (rJ M2 k3 ((0 : Int32)).toNatClampNeg) x2.toInt64) = ((0 : Int32))) (st1 := []) tc_249 rfl rfl (fun _ => rfl) ⟨fun hc => ?_, fun hc => ?_⟩
      · have h := h.1 hc
        show Gd d w 249 _ (742, [some (aR 2 0), some (aR 10 k1), some (aR 21 k2), some (aR 6 k3), some (aI v4), some (aI x1), some (aI x2)], [], M2)
        refine gd_s (P := True ∧ True ∧ True ∧ True) (σ1 := (23, [some (aR 2 0), some (aR 10 k1), some (aR 21 k2), some (aR 6 k3), some (aI (v4 + (6 : Int32))), some (aI x1), some (aI x2)], [], M2)) tc_249 rfl 3 (fun u => ⟨_, rfl⟩) ⟨trivial, trivial, trivial, trivial⟩ ?_
        exact hK23 k1 k2 k3 (v4 + (6 : Int32)) (some (aI x1)) (some (aI x2)) M2 h
      · have h := h.2 hc
        show Gd d w 249 _ (740, [some (aR 2 0), some (aR 10 k1), some (aR 21 k2), some (aR 6 k3), some (aI v4), some (aI x1), some (aI x2)], [], M2)
        refine gd_s (P := True ∧ True) (σ1 := (741, [some (aR 2 0), some (aR 10 k1), some (aR 21 k2), some (aR 6 k3), some (aI v4), some (aI x1), some (aI x2)], [aI ((0 : Int32))], M2)) tc_249 rfl 1 (fun u => ⟨_, rfl⟩) ⟨trivial, trivial⟩ ?_
        exact gd_ret tc_249 rfl rfl h.1 (fun _ => rfl) ⟨_, rfl, h.2⟩
  · have h := h.2 hc
    show Gd d w 249 _ (723, [some (aR 2 0), some (aR 10 k1), some (aR 21 k2), some (aR 6 k3), some (aI v4), some (aI x1), some (aI x2)], [], M2)
    refine gd_s (P := True ∧ True) (σ1 := (724, [some (aR 2 0), some (aR 10 k1), some (aR 21 k2), some (aR 6 k3), some (aI v4), some (aI x1), some (aI x2)], [aI ((0 : Int32))], M2)) tc_249 rfl 1 (fun u => ⟨_, rfl⟩) ⟨trivial, trivial⟩ ?_
    exact gd_ret tc_249 rfl rfl h.1 (fun _ => rfl) ⟨_, rfl, h.2⟩
def w_La_law_J745 (post : Int32 → aM → Prop) (K23 : Nat → Nat → Nat → Int32 → aM → Prop) (k1 : Nat) (k2 : Nat) (k3 : Nat) (v4 : Int32) (M : aM) : Prop := (vp_in (v4 + ((1 : Int32))) (rK M 0).2) ∧ (0 < aN M ∧ w_La_decide (fun x1 M1 => (vp_in (v4 + ((1 : Int32))) (rK M1 0).2) ∧ (w_Mo_decide (fun x2 M2 => w_Mo_thrown (fun x3 => ((x3 = x1) → ((¬ x1 = ((0 : Int32))) → K23 k1 k2 k3 (v4 + (6 : Int32)) M2) ∧ (¬ (¬ x1 = ((0 : Int32))) → (vp_in ((0 : Int32)) (rK M2 k3).2) ∧ ((((lg_cmp (rJ M2 k3 ((0 : Int32)).toNatClampNeg) x2.toInt64) = ((0 : Int32))) → K23 k1 k2 k3 (v4 + (6 : Int32)) M2) ∧ (¬ ((lg_cmp (rJ M2 k3 ((0 : Int32)).toNatClampNeg) x2.toInt64) = ((0 : Int32))) → (((0 : Int32)) = 0 ∨ ((0 : Int32)) = 1) ∧ post ((0 : Int32)) M2)))) ∧ (¬ (x3 = x1) → (((0 : Int32)) = 0 ∨ ((0 : Int32)) = 1) ∧ post ((0 : Int32)) M2)) k2 M2) k2 (rI M1 0 (v4 + ((1 : Int32))).toNatClampNeg) M1)) k1 (rI M 0 (v4 + ((1 : Int32))).toNatClampNeg) k3 M)
theorem g_La_law_J745 {d w : Nat} (hd : 159 ≤ d) (hw : 4253 ≤ w) {post : Int32 → aM → Prop} {K23 : Nat → Nat → Nat → Int32 → aM → Prop} (hK23 : ∀ (k1 : Nat) (k2 : Nat) (k3 : Nat) (v4 : Int32) (o5 o6 : Option aV) (M : aM), K23 k1 k2 k3 v4 M → Gd d w 249 (pI post) (23, [some (aR 2 0), some (aR 10 k1), some (aR 21 k2), some (aR 6 k3), some (aI v4), o5, o6], [], M)) (k1 : Nat) (k2 : Nat) (k3 : Nat) (v4 : Int32) (o5 o6 : Option aV) (M : aM) (h : w_La_law_J745 post K23 k1 k2 k3 v4 M) : Gd d w 249 (pI post) (745, [some (aR 2 0), some (aR 10 k1), some (aR 21 k2), some (aR 6 k3), some (aI v4), o5, o6], [], M) := by
  unfold w_La_law_J745 at h
  show Gd d w 249 _ (745, [some (aR 2 0), some (aR 10 k1), some (aR 21 k2), some (aR 6 k3), some (aI v4), o5, o6], [], M)
  obtain ⟨c0, h⟩ := h
  refine gd_s (P := True ∧ True ∧ True ∧ True ∧ True ∧ (vp_in (v4 + ((1 : Int32))) (rK M 0).2) ∧ True ∧ True) (σ1 := (753, [some (aR 2 0), some (aR 10 k1), some (aR 21 k2), some (aR 6 k3), some (aI v4), o5, o6], [aR 6 k3, aI (rI M 0 (v4 + ((1 : Int32))).toNatClampNeg), aR 10 k1], M)) tc_249 rfl 7 (fun u => ⟨_, rfl⟩) ⟨trivial, trivial, trivial, trivial, trivial, c0, trivial, trivial⟩ ?_
  obtain ⟨hN, h⟩ := h
  refine gd_callN (ml := 4) (as := [aR 10 k1, aI (rI M 0 (v4 + ((1 : Int32))).toNatClampNeg), aR 6 k3]) (rest := []) tc_249 rfl rfl rfl rfl rfl (by omega) (by omega) (Nat.le_of_ble_eq_true rfl) rfl (g_La_decide (by omega) (by omega) hN h) (fun r9 M1 h => ?_)
  obtain ⟨x1, rfl, h⟩ := h
  show Gd d w 249 _ (756, [some (aR 2 0), some (aR 10 k1), some (aR 21 k2), some (aR 6 k3), some (aI v4), o5, o6], [aI x1], M1)
  obtain ⟨c0, h⟩ := h
  refine gd_s (P := True ∧ True ∧ True ∧ True ∧ True ∧ True ∧ (vp_in (v4 + ((1 : Int32))) (rK M1 0).2) ∧ True) (σ1 := (765, [some (aR 2 0), some (aR 10 k1), some (aR 21 k2), some (aR 6 k3), some (aI v4), some (aI x1), o6], [aI (rI M1 0 (v4 + ((1 : Int32))).toNatClampNeg), aR 21 k2], M1)) tc_249 rfl 7 (fun u => ⟨_, rfl⟩) ⟨trivial, trivial, trivial, trivial, trivial, trivial, c0, trivial⟩ ?_
  refine gd_callN (ml := 2) (as := [aR 21 k2, aI (rI M1 0 (v4 + ((1 : Int32))).toNatClampNeg)]) (rest := []) tc_249 rfl rfl rfl rfl rfl (by omega) (by omega) (Nat.le_of_ble_eq_true rfl) rfl (g_Mo_decide (by omega) (by omega) h) (fun r9 M2 h => ?_)
  obtain ⟨x2, rfl, h⟩ := h
  show Gd d w 249 _ (768, [some (aR 2 0), some (aR 10 k1), some (aR 21 k2), some (aR 6 k3), some (aI v4), some (aI x1), o6], [aI x2], M2)
  refine gd_s (P := True ∧ True ∧ True) (σ1 := (771, [some (aR 2 0), some (aR 10 k1), some (aR 21 k2), some (aR 6 k3), some (aI v4), some (aI x1), some (aI x2)], [aR 21 k2], M2)) tc_249 rfl 2 (fun u => ⟨_, rfl⟩) ⟨trivial, trivial, trivial⟩ ?_
  refine gd_callN (ml := 1) (as := [aR 21 k2]) (rest := []) tc_249 rfl rfl rfl rfl rfl (by omega) (by omega) (Nat.le_of_ble_eq_true rfl) rfl (g_Mo_thrown (by omega) (by omega) h) (fun r9 M9 h => ?_)
  obtain ⟨x3, rfl, e9, h⟩ := h
  subst M9
  show Gd d w 249 _ (774, [some (aR 2 0), some (aR 10 k1), some (aR 21 k2), some (aR 6 k3), some (aI v4), some (aI x1), some (aI x2)], [aI x3], M2)
  refine gd_s (P := True ∧ True) (σ1 := (776, [some (aR 2 0), some (aR 10 k1), some (aR 21 k2), some (aR 6 k3), some (aI v4), some (aI x1), some (aI x2)], [aI x1, aI x3], M2)) tc_249 rfl 1 (fun u => ⟨_, rfl⟩) ⟨trivial, trivial⟩ ?_
  refine gd_br (c := x3 = x1) (st1 := []) tc_249 rfl rfl (fun _ => rfl) ⟨fun hc => ?_, fun hc => ?_⟩
  · have h := h.1 hc
    show Gd d w 249 _ (781, [some (aR 2 0), some (aR 10 k1), some (aR 21 k2), some (aR 6 k3), some (aI v4), some (aI x1), some (aI x2)], [], M2)
    refine gd_s (P := True ∧ True) (σ1 := (783, [some (aR 2 0), some (aR 10 k1), some (aR 21 k2), some (aR 6 k3), some (aI v4), some (aI x1), some (aI x2)], [aI x1], M2)) tc_249 rfl 1 (fun u => ⟨_, rfl⟩) ⟨trivial, trivial⟩ ?_
    refine gd_br (c := ¬ x1 = ((0 : Int32))) (st1 := []) tc_249 rfl rfl (fun _ => rfl) ⟨fun hc => ?_, fun hc => ?_⟩
    · have h := h.1 hc
      show Gd d w 249 _ (798, [some (aR 2 0), some (aR 10 k1), some (aR 21 k2), some (aR 6 k3), some (aI v4), some (aI x1), some (aI x2)], [], M2)
      refine gd_s (P := True ∧ True ∧ True ∧ True) (σ1 := (23, [some (aR 2 0), some (aR 10 k1), some (aR 21 k2), some (aR 6 k3), some (aI (v4 + (6 : Int32))), some (aI x1), some (aI x2)], [], M2)) tc_249 rfl 3 (fun u => ⟨_, rfl⟩) ⟨trivial, trivial, trivial, trivial⟩ ?_
      exact hK23 k1 k2 k3 (v4 + (6 : Int32)) (some (aI x1)) (some (aI x2)) M2 h
    · have h := h.2 hc
      show Gd d w 249 _ (786, [some (aR 2 0), some (aR 10 k1), some (aR 21 k2), some (aR 6 k3), some (aI v4), some (aI x1), some (aI x2)], [], M2)
      obtain ⟨c0, h⟩ := h
      refine gd_s (P := True ∧ True ∧ (vp_in ((0 : Int32)) (rK M2 k3).2) ∧ True ∧ True ∧ True ∧ True) (σ1 := (793, [some (aR 2 0), some (aR 10 k1), some (aR 21 k2), some (aR 6 k3), some (aI v4), some (aI x1), some (aI x2)], [aI (lg_cmp (rJ M2 k3 ((0 : Int32)).toNatClampNeg) x2.toInt64)], M2)) tc_249 rfl 6 (fun u => ⟨_, rfl⟩) ⟨trivial, trivial, c0, trivial, trivial, trivial, trivial⟩ ?_
      refine gd_br (c := (lg_cmp (rJ M2 k3 ((0 : Int32)).toNatClampNeg) x2.toInt64) = ((0 : Int32))) (st1 := []) tc_249 rfl rfl (fun _ => rfl) ⟨fun hc => ?_, fun hc => ?_⟩
      · have h := h.1 hc
        show Gd d w 249 _ (798, [some (aR 2 0), some (aR 10 k1), some (aR 21 k2), some (aR 6 k3), some (aI v4), some (aI x1), some (aI x2)], [], M2)
        refine gd_s (P := True ∧ True ∧ True ∧ True) (σ1 := (23, [some (aR 2 0), some (aR 10 k1), some (aR 21 k2), some (aR 6 k3), some (aI (v4 + (6 : Int32))), some (aI x1), some (aI x2)], [], M2)) tc_249 rfl 3 (fun u => ⟨_, rfl⟩) ⟨trivial, trivial, trivial, trivial⟩ ?_
        exact hK23 k1 k2 k3 (v4 + (6 : Int32)) (some (aI x1)) (some (aI x2)) M2 h
      · have h := h.2 hc
        show Gd d w 249 _ (796, [some (aR 2 0), some (aR 10 k1), some (aR 21 k2), some (aR 6 k3), some (aI v4), some (aI x1), some (aI x2)], [], M2)
        refine gd_s (P := True ∧ True) (σ1 := (797, [some (aR 2 0), some (aR 10 k1), some (aR 21 k2), some (aR 6 k3), some (aI v4), some (aI x1), some (aI x2)], [aI ((0 : Int32))], M2)) tc_249 rfl 1 (fun u => ⟨_, rfl⟩) ⟨trivial, trivial⟩ ?_
        exact gd_ret tc_249 rfl rfl h.1 (fun _ => rfl) ⟨_, rfl, h.2⟩
  · have h := h.2 hc
    show Gd d w 249 _ (779, [some (aR 2 0), some (aR 10 k1), some (aR 21 k2), some (aR 6 k3), some (aI v4), some (aI x1), some (aI x2)], [], M2)
    refine gd_s (P := True ∧ True) (σ1 := (780, [some (aR 2 0), some (aR 10 k1), some (aR 21 k2), some (aR 6 k3), some (aI v4), some (aI x1), some (aI x2)], [aI ((0 : Int32))], M2)) tc_249 rfl 1 (fun u => ⟨_, rfl⟩) ⟨trivial, trivial⟩ ?_
    exact gd_ret tc_249 rfl rfl h.1 (fun _ => rfl) ⟨_, rfl, h.2⟩
def w_La_law_J801 (post : Int32 → aM → Prop) (K23 : Nat → Nat → Nat → Int32 → aM → Prop) (k1 : Nat) (k2 : Nat) (k3 : Nat) (v4 : Int32) (M : aM) : Prop := (vp_in (v4 + ((1 : Int32))) (rK M 0).2) ∧ (vp_in (v4 + ((2 : Int32))) (rK M 0).2) ∧ (0 < aN M ∧ w_La_decided (fun x1 M1 => (vp_in (v4 + ((1 : Int32))) (rK M1 0).2) ∧ (vp_in (v4 + ((2 : Int32))) (rK M1 0).2) ∧ (w_Mo_decided (fun x2 M2 => w_Mo_thrown (fun x3 => ((x3 = x1) → ((¬ x1 = ((0 : Int32))) → K23 k1 k2 k3 (v4 + (6 : Int32)) M2) ∧ (¬ (¬ x1 = ((0 : Int32))) → (vp_in ((0 : Int32)) (rK M2 k3).2) ∧ ((((lg_cmp (rJ M2 k3 ((0 : Int32)).toNatClampNeg) x2.toInt64) = ((0 : Int32))) → K23 k1 k2 k3 (v4 + (6 : Int32)) M2) ∧ (¬ ((lg_cmp (rJ M2 k3 ((0 : Int32)).toNatClampNeg) x2.toInt64) = ((0 : Int32))) → (((0 : Int32)) = 0 ∨ ((0 : Int32)) = 1) ∧ post ((0 : Int32)) M2)))) ∧ (¬ (x3 = x1) → (((0 : Int32)) = 0 ∨ ((0 : Int32)) = 1) ∧ post ((0 : Int32)) M2)) k2 M2) k2 (rI M1 0 (v4 + ((1 : Int32))).toNatClampNeg) (rI M1 0 (v4 + ((2 : Int32))).toNatClampNeg) M1)) k1 (rI M 0 (v4 + ((1 : Int32))).toNatClampNeg) (rI M 0 (v4 + ((2 : Int32))).toNatClampNeg) k3 M)
theorem g_La_law_J801 {d w : Nat} (hd : 159 ≤ d) (hw : 4253 ≤ w) {post : Int32 → aM → Prop} {K23 : Nat → Nat → Nat → Int32 → aM → Prop} (hK23 : ∀ (k1 : Nat) (k2 : Nat) (k3 : Nat) (v4 : Int32) (o5 o6 : Option aV) (M : aM), K23 k1 k2 k3 v4 M → Gd d w 249 (pI post) (23, [some (aR 2 0), some (aR 10 k1), some (aR 21 k2), some (aR 6 k3), some (aI v4), o5, o6], [], M)) (k1 : Nat) (k2 : Nat) (k3 : Nat) (v4 : Int32) (o5 o6 : Option aV) (M : aM) (h : w_La_law_J801 post K23 k1 k2 k3 v4 M) : Gd d w 249 (pI post) (801, [some (aR 2 0), some (aR 10 k1), some (aR 21 k2), some (aR 6 k3), some (aI v4), o5, o6], [], M) := by
  unfold w_La_law_J801 at h
  show Gd d w 249 _ (801, [some (aR 2 0), some (aR 10 k1), some (aR 21 k2), some (aR 6 k3), some (aI v4), o5, o6], [], M)
  obtain ⟨c0, c1, h⟩ := h
  refine gd_s (P := True ∧ True ∧ True ∧ True ∧ True ∧ (vp_in (v4 + ((1 : Int32))) (rK M 0).2) ∧ True ∧ True ∧ True ∧ True ∧ (vp_in (v4 + ((2 : Int32))) (rK M 0).2) ∧ True ∧ True) (σ1 := (815, [some (aR 2 0), some (aR 10 k1), some (aR 21 k2), some (aR 6 k3), some (aI v4), o5, o6], [aR 6 k3, aI (rI M 0 (v4 + ((2 : Int32))).toNatClampNeg), aI (rI M 0 (v4 + ((1 : Int32))).toNatClampNeg), aR 10 k1], M)) tc_249 rfl 12 (fun u => ⟨_, rfl⟩) ⟨trivial, trivial, trivial, trivial, trivial, c0, trivial, trivial, trivial, trivial, c1, trivial, trivial⟩ ?_
  obtain ⟨hN, h⟩ := h
  refine gd_callN (ml := 5) (as := [aR 10 k1, aI (rI M 0 (v4 + ((1 : Int32))).toNatClampNeg), aI (rI M 0 (v4 + ((2 : Int32))).toNatClampNeg), aR 6 k3]) (rest := []) tc_249 rfl rfl rfl rfl rfl (by omega) (by omega) (Nat.le_of_ble_eq_true rfl) rfl (g_La_decided (by omega) (by omega) hN h) (fun r9 M1 h => ?_)
  obtain ⟨x1, rfl, h⟩ := h
  show Gd d w 249 _ (818, [some (aR 2 0), some (aR 10 k1), some (aR 21 k2), some (aR 6 k3), some (aI v4), o5, o6], [aI x1], M1)
  obtain ⟨c0, c1, h⟩ := h
  refine gd_s (P := True ∧ True ∧ True ∧ True ∧ True ∧ True ∧ (vp_in (v4 + ((1 : Int32))) (rK M1 0).2) ∧ True ∧ True ∧ True ∧ True ∧ (vp_in (v4 + ((2 : Int32))) (rK M1 0).2) ∧ True) (σ1 := (833, [some (aR 2 0), some (aR 10 k1), some (aR 21 k2), some (aR 6 k3), some (aI v4), some (aI x1), o6], [aI (rI M1 0 (v4 + ((2 : Int32))).toNatClampNeg), aI (rI M1 0 (v4 + ((1 : Int32))).toNatClampNeg), aR 21 k2], M1)) tc_249 rfl 12 (fun u => ⟨_, rfl⟩) ⟨trivial, trivial, trivial, trivial, trivial, trivial, c0, trivial, trivial, trivial, trivial, c1, trivial⟩ ?_
  refine gd_callN (ml := 3) (as := [aR 21 k2, aI (rI M1 0 (v4 + ((1 : Int32))).toNatClampNeg), aI (rI M1 0 (v4 + ((2 : Int32))).toNatClampNeg)]) (rest := []) tc_249 rfl rfl rfl rfl rfl (by omega) (by omega) (Nat.le_of_ble_eq_true rfl) rfl (g_Mo_decided (by omega) (by omega) h) (fun r9 M2 h => ?_)
  obtain ⟨x2, rfl, h⟩ := h
  show Gd d w 249 _ (836, [some (aR 2 0), some (aR 10 k1), some (aR 21 k2), some (aR 6 k3), some (aI v4), some (aI x1), o6], [aI x2], M2)
  refine gd_s (P := True ∧ True ∧ True) (σ1 := (839, [some (aR 2 0), some (aR 10 k1), some (aR 21 k2), some (aR 6 k3), some (aI v4), some (aI x1), some (aI x2)], [aR 21 k2], M2)) tc_249 rfl 2 (fun u => ⟨_, rfl⟩) ⟨trivial, trivial, trivial⟩ ?_
  refine gd_callN (ml := 1) (as := [aR 21 k2]) (rest := []) tc_249 rfl rfl rfl rfl rfl (by omega) (by omega) (Nat.le_of_ble_eq_true rfl) rfl (g_Mo_thrown (by omega) (by omega) h) (fun r9 M9 h => ?_)
  obtain ⟨x3, rfl, e9, h⟩ := h
  subst M9
  show Gd d w 249 _ (842, [some (aR 2 0), some (aR 10 k1), some (aR 21 k2), some (aR 6 k3), some (aI v4), some (aI x1), some (aI x2)], [aI x3], M2)
  refine gd_s (P := True ∧ True) (σ1 := (844, [some (aR 2 0), some (aR 10 k1), some (aR 21 k2), some (aR 6 k3), some (aI v4), some (aI x1), some (aI x2)], [aI x1, aI x3], M2)) tc_249 rfl 1 (fun u => ⟨_, rfl⟩) ⟨trivial, trivial⟩ ?_
  refine gd_br (c := x3 = x1) (st1 := []) tc_249 rfl rfl (fun _ => rfl) ⟨fun hc => ?_, fun hc => ?_⟩
  · have h := h.1 hc
    show Gd d w 249 _ (849, [some (aR 2 0), some (aR 10 k1), some (aR 21 k2), some (aR 6 k3), some (aI v4), some (aI x1), some (aI x2)], [], M2)
    refine gd_s (P := True ∧ True) (σ1 := (851, [some (aR 2 0), some (aR 10 k1), some (aR 21 k2), some (aR 6 k3), some (aI v4), some (aI x1), some (aI x2)], [aI x1], M2)) tc_249 rfl 1 (fun u => ⟨_, rfl⟩) ⟨trivial, trivial⟩ ?_
    refine gd_br (c := ¬ x1 = ((0 : Int32))) (st1 := []) tc_249 rfl rfl (fun _ => rfl) ⟨fun hc => ?_, fun hc => ?_⟩
    · have h := h.1 hc
      show Gd d w 249 _ (866, [some (aR 2 0), some (aR 10 k1), some (aR 21 k2), some (aR 6 k3), some (aI v4), some (aI x1), some (aI x2)], [], M2)
      refine gd_s (P := True ∧ True ∧ True ∧ True) (σ1 := (23, [some (aR 2 0), some (aR 10 k1), some (aR 21 k2), some (aR 6 k3), some (aI (v4 + (6 : Int32))), some (aI x1), some (aI x2)], [], M2)) tc_249 rfl 3 (fun u => ⟨_, rfl⟩) ⟨trivial, trivial, trivial, trivial⟩ ?_
      exact hK23 k1 k2 k3 (v4 + (6 : Int32)) (some (aI x1)) (some (aI x2)) M2 h
    · have h := h.2 hc
      show Gd d w 249 _ (854, [some (aR 2 0), some (aR 10 k1), some (aR 21 k2), some (aR 6 k3), some (aI v4), some (aI x1), some (aI x2)], [], M2)
      obtain ⟨c0, h⟩ := h
      refine gd_s (P := True ∧ True ∧ (vp_in ((0 : Int32)) (rK M2 k3).2) ∧ True ∧ True ∧ True ∧ True) (σ1 := (861, [some (aR 2 0), some (aR 10 k1), some (aR 21 k2), some (aR 6 k3), some (aI v4), some (aI x1), some (aI x2)], [aI (lg_cmp (rJ M2 k3 ((0 : Int32)).toNatClampNeg) x2.toInt64)], M2)) tc_249 rfl 6 (fun u => ⟨_, rfl⟩) ⟨trivial, trivial, c0, trivial, trivial, trivial, trivial⟩ ?_
      refine gd_br (c := (lg_cmp (rJ M2 k3 ((0 : Int32)).toNatClampNeg) x2.toInt64) = ((0 : Int32))) (st1 := []) tc_249 rfl rfl (fun _ => rfl) ⟨fun hc => ?_, fun hc => ?_⟩
      · have h := h.1 hc
        show Gd d w 249 _ (866, [some (aR 2 0), some (aR 10 k1), some (aR 21 k2), some (aR 6 k3), some (aI v4), some (aI x1), some (aI x2)], [], M2)
        refine gd_s (P := True ∧ True ∧ True ∧ True) (σ1 := (23, [some (aR 2 0), some (aR 10 k1), some (aR 21 k2), some (aR 6 k3), some (aI (v4 + (6 : Int32))), some (aI x1), some (aI x2)], [], M2)) tc_249 rfl 3 (fun u => ⟨_, rfl⟩) ⟨trivial, trivial, trivial, trivial⟩ ?_
        exact hK23 k1 k2 k3 (v4 + (6 : Int32)) (some (aI x1)) (some (aI x2)) M2 h
      · have h := h.2 hc
        show Gd d w 249 _ (864, [some (aR 2 0), some (aR 10 k1), some (aR 21 k2), some (aR 6 k3), some (aI v4), some (aI x1), some (aI x2)], [], M2)
        refine gd_s (P := True ∧ True) (σ1 := (865, [some (aR 2 0), some (aR 10 k1), some (aR 21 k2), some (aR 6 k3), some (aI v4), some (aI x1), some (aI x2)], [aI ((0 : Int32))], M2)) tc_249 rfl 1 (fun u => ⟨_, rfl⟩) ⟨trivial, trivial⟩ ?_
        exact gd_ret tc_249 rfl rfl h.1 (fun _ => rfl) ⟨_, rfl, h.2⟩
  · have h := h.2 hc
    show Gd d w 249 _ (847, [some (aR 2 0), some (aR 10 k1), some (aR 21 k2), some (aR 6 k3), some (aI v4), some (aI x1), some (aI x2)], [], M2)
    refine gd_s (P := True ∧ True) (σ1 := (848, [some (aR 2 0), some (aR 10 k1), some (aR 21 k2), some (aR 6 k3), some (aI v4), some (aI x1), some (aI x2)], [aI ((0 : Int32))], M2)) tc_249 rfl 1 (fun u => ⟨_, rfl⟩) ⟨trivial, trivial⟩ ?_
    exact gd_ret tc_249 rfl rfl h.1 (fun _ => rfl) ⟨_, rfl, h.2⟩
def w_La_law_J869 (post : Int32 → aM → Prop) (K23 : Nat → Nat → Nat → Int32 → aM → Prop) (k1 : Nat) (k2 : Nat) (k3 : Nat) (v4 : Int32) (M : aM) : Prop := (vp_in (v4 + ((1 : Int32))) (rK M 0).2) ∧ (vp_in (v4 + ((2 : Int32))) (rK M 0).2) ∧ (0 < aN M ∧ w_La_truth (fun x1 M1 => (vp_in (v4 + ((1 : Int32))) (rK M1 0).2) ∧ (vp_in (v4 + ((2 : Int32))) (rK M1 0).2) ∧ (w_Mo_truth (fun x2 M2 => w_Mo_thrown (fun x3 => ((x3 = x1) → ((¬ x1 = ((0 : Int32))) → K23 k1 k2 k3 (v4 + (6 : Int32)) M2) ∧ (¬ (¬ x1 = ((0 : Int32))) → (vp_in ((0 : Int32)) (rK M2 k3).2) ∧ ((((lg_cmp (rJ M2 k3 ((0 : Int32)).toNatClampNeg) x2.toInt64) = ((0 : Int32))) → K23 k1 k2 k3 (v4 + (6 : Int32)) M2) ∧ (¬ ((lg_cmp (rJ M2 k3 ((0 : Int32)).toNatClampNeg) x2.toInt64) = ((0 : Int32))) → (((0 : Int32)) = 0 ∨ ((0 : Int32)) = 1) ∧ post ((0 : Int32)) M2)))) ∧ (¬ (x3 = x1) → (((0 : Int32)) = 0 ∨ ((0 : Int32)) = 1) ∧ post ((0 : Int32)) M2)) k2 M2) k2 (rI M1 0 (v4 + ((1 : Int32))).toNatClampNeg) (rI M1 0 (v4 + ((2 : Int32))).toNatClampNeg) M1)) k1 (rI M 0 (v4 + ((1 : Int32))).toNatClampNeg) (rI M 0 (v4 + ((2 : Int32))).toNatClampNeg) k3 M)
theorem g_La_law_J869 {d w : Nat} (hd : 159 ≤ d) (hw : 4253 ≤ w) {post : Int32 → aM → Prop} {K23 : Nat → Nat → Nat → Int32 → aM → Prop} (hK23 : ∀ (k1 : Nat) (k2 : Nat) (k3 : Nat) (v4 : Int32) (o5 o6 : Option aV) (M : aM), K23 k1 k2 k3 v4 M → Gd d w 249 (pI post) (23, [some (aR 2 0), some (aR 10 k1), some (aR 21 k2), some (aR 6 k3), some (aI v4), o5, o6], [], M)) (k1 : Nat) (k2 : Nat) (k3 : Nat) (v4 : Int32) (o5 o6 : Option aV) (M : aM) (h : w_La_law_J869 post K23 k1 k2 k3 v4 M) : Gd d w 249 (pI post) (869, [some (aR 2 0), some (aR 10 k1), some (aR 21 k2), some (aR 6 k3), some (aI v4), o5, o6], [], M) := by
  unfold w_La_law_J869 at h
  show Gd d w 249 _ (869, [some (aR 2 0), some (aR 10 k1), some (aR 21 k2), some (aR 6 k3), some (aI v4), o5, o6], [], M)
  obtain ⟨c0, c1, h⟩ := h
  refine gd_s (P := True ∧ True ∧ True ∧ True ∧ True ∧ (vp_in (v4 + ((1 : Int32))) (rK M 0).2) ∧ True ∧ True ∧ True ∧ True ∧ (vp_in (v4 + ((2 : Int32))) (rK M 0).2) ∧ True ∧ True) (σ1 := (883, [some (aR 2 0), some (aR 10 k1), some (aR 21 k2), some (aR 6 k3), some (aI v4), o5, o6], [aR 6 k3, aI (rI M 0 (v4 + ((2 : Int32))).toNatClampNeg), aI (rI M 0 (v4 + ((1 : Int32))).toNatClampNeg), aR 10 k1], M)) tc_249 rfl 12 (fun u => ⟨_, rfl⟩) ⟨trivial, trivial, trivial, trivial, trivial, c0, trivial, trivial, trivial, trivial, c1, trivial, trivial⟩ ?_
  obtain ⟨hN, h⟩ := h
  refine gd_callN (ml := 5) (as := [aR 10 k1, aI (rI M 0 (v4 + ((1 : Int32))).toNatClampNeg), aI (rI M 0 (v4 + ((2 : Int32))).toNatClampNeg), aR 6 k3]) (rest := []) tc_249 rfl rfl rfl rfl rfl (by omega) (by omega) (Nat.le_of_ble_eq_true rfl) rfl (g_La_truth (by omega) (by omega) hN h) (fun r9 M1 h => ?_)
  obtain ⟨x1, rfl, h⟩ := h
  show Gd d w 249 _ (886, [some (aR 2 0), some (aR 10 k1), some (aR 21 k2), some (aR 6 k3), some (aI v4), o5, o6], [aI x1], M1)
  obtain ⟨c0, c1, h⟩ := h
  refine gd_s (P := True ∧ True ∧ True ∧ True ∧ True ∧ True ∧ (vp_in (v4 + ((1 : Int32))) (rK M1 0).2) ∧ True ∧ True ∧ True ∧ True ∧ (vp_in (v4 + ((2 : Int32))) (rK M1 0).2) ∧ True) (σ1 := (901, [some (aR 2 0), some (aR 10 k1), some (aR 21 k2), some (aR 6 k3), some (aI v4), some (aI x1), o6], [aI (rI M1 0 (v4 + ((2 : Int32))).toNatClampNeg), aI (rI M1 0 (v4 + ((1 : Int32))).toNatClampNeg), aR 21 k2], M1)) tc_249 rfl 12 (fun u => ⟨_, rfl⟩) ⟨trivial, trivial, trivial, trivial, trivial, trivial, c0, trivial, trivial, trivial, trivial, c1, trivial⟩ ?_
  refine gd_callN (ml := 3) (as := [aR 21 k2, aI (rI M1 0 (v4 + ((1 : Int32))).toNatClampNeg), aI (rI M1 0 (v4 + ((2 : Int32))).toNatClampNeg)]) (rest := []) tc_249 rfl rfl rfl rfl rfl (by omega) (by omega) (Nat.le_of_ble_eq_true rfl) rfl (g_Mo_truth (by omega) (by omega) h) (fun r9 M2 h => ?_)
  obtain ⟨x2, rfl, h⟩ := h
  show Gd d w 249 _ (904, [some (aR 2 0), some (aR 10 k1), some (aR 21 k2), some (aR 6 k3), some (aI v4), some (aI x1), o6], [aI x2], M2)
  refine gd_s (P := True ∧ True ∧ True) (σ1 := (907, [some (aR 2 0), some (aR 10 k1), some (aR 21 k2), some (aR 6 k3), some (aI v4), some (aI x1), some (aI x2)], [aR 21 k2], M2)) tc_249 rfl 2 (fun u => ⟨_, rfl⟩) ⟨trivial, trivial, trivial⟩ ?_
  refine gd_callN (ml := 1) (as := [aR 21 k2]) (rest := []) tc_249 rfl rfl rfl rfl rfl (by omega) (by omega) (Nat.le_of_ble_eq_true rfl) rfl (g_Mo_thrown (by omega) (by omega) h) (fun r9 M9 h => ?_)
  obtain ⟨x3, rfl, e9, h⟩ := h
  subst M9
  show Gd d w 249 _ (910, [some (aR 2 0), some (aR 10 k1), some (aR 21 k2), some (aR 6 k3), some (aI v4), some (aI x1), some (aI x2)], [aI x3], M2)
  refine gd_s (P := True ∧ True) (σ1 := (912, [some (aR 2 0), some (aR 10 k1), some (aR 21 k2), some (aR 6 k3), some (aI v4), some (aI x1), some (aI x2)], [aI x1, aI x3], M2)) tc_249 rfl 1 (fun u => ⟨_, rfl⟩) ⟨trivial, trivial⟩ ?_
  refine gd_br (c := x3 = x1) (st1 := []) tc_249 rfl rfl (fun _ => rfl) ⟨fun hc => ?_, fun hc => ?_⟩
  · have h := h.1 hc
    show Gd d w 249 _ (917, [some (aR 2 0), some (aR 10 k1), some (aR 21 k2), some (aR 6 k3), some (aI v4), some (aI x1), some (aI x2)], [], M2)
    refine gd_s (P := True ∧ True) (σ1 := (919, [some (aR 2 0), some (aR 10 k1), some (aR 21 k2), some (aR 6 k3), some (aI v4), some (aI x1), some (aI x2)], [aI x1], M2)) tc_249 rfl 1 (fun u => ⟨_, rfl⟩) ⟨trivial, trivial⟩ ?_
    refine gd_br (c := ¬ x1 = ((0 : Int32))) (st1 := []) tc_249 rfl rfl (fun _ => rfl) ⟨fun hc => ?_, fun hc => ?_⟩
    · have h := h.1 hc
      show Gd d w 249 _ (934, [some (aR 2 0), some (aR 10 k1), some (aR 21 k2), some (aR 6 k3), some (aI v4), some (aI x1), some (aI x2)], [], M2)
      refine gd_s (P := True ∧ True ∧ True ∧ True) (σ1 := (23, [some (aR 2 0), some (aR 10 k1), some (aR 21 k2), some (aR 6 k3), some (aI (v4 + (6 : Int32))), some (aI x1), some (aI x2)], [], M2)) tc_249 rfl 3 (fun u => ⟨_, rfl⟩) ⟨trivial, trivial, trivial, trivial⟩ ?_
      exact hK23 k1 k2 k3 (v4 + (6 : Int32)) (some (aI x1)) (some (aI x2)) M2 h
    · have h := h.2 hc
      show Gd d w 249 _ (922, [some (aR 2 0), some (aR 10 k1), some (aR 21 k2), some (aR 6 k3), some (aI v4), some (aI x1), some (aI x2)], [], M2)
      obtain ⟨c0, h⟩ := h
      refine gd_s (P := True ∧ True ∧ (vp_in ((0 : Int32)) (rK M2 k3).2) ∧ True ∧ True ∧ True ∧ True) (σ1 := (929, [some (aR 2 0), some (aR 10 k1), some (aR 21 k2), some (aR 6 k3), some (aI v4), some (aI x1), some (aI x2)], [aI (lg_cmp (rJ M2 k3 ((0 : Int32)).toNatClampNeg) x2.toInt64)], M2)) tc_249 rfl 6 (fun u => ⟨_, rfl⟩) ⟨trivial, trivial, c0, trivial, trivial, trivial, trivial⟩ ?_
      refine gd_br (c := (lg_cmp (rJ M2 k3 ((0 : Int32)).toNatClampNeg) x2.toInt64) = ((0 : Int32))) (st1 := []) tc_249 rfl rfl (fun _ => rfl) ⟨fun hc => ?_, fun hc => ?_⟩
      · have h := h.1 hc
        show Gd d w 249 _ (934, [some (aR 2 0), some (aR 10 k1), some (aR 21 k2), some (aR 6 k3), some (aI v4), some (aI x1), some (aI x2)], [], M2)
        refine gd_s (P := True ∧ True ∧ True ∧ True) (σ1 := (23, [some (aR 2 0), some (aR 10 k1), some (aR 21 k2), some (aR 6 k3), some (aI (v4 + (6 : Int32))), some (aI x1), some (aI x2)], [], M2)) tc_249 rfl 3 (fun u => ⟨_, rfl⟩) ⟨trivial, trivial, trivial, trivial⟩ ?_
        exact hK23 k1 k2 k3 (v4 + (6 : Int32)) (some (aI x1)) (some (aI x2)) M2 h
      · have h := h.2 hc
        show Gd d w 249 _ (932, [some (aR 2 0), some (aR 10 k1), some (aR 21 k2), some (aR 6 k3), some (aI v4), some (aI x1), some (aI x2)], [], M2)
        refine gd_s (P := True ∧ True) (σ1 := (933, [some (aR 2 0), some (aR 10 k1), some (aR 21 k2), some (aR 6 k3), some (aI v4), some (aI x1), some (aI x2)], [aI ((0 : Int32))], M2)) tc_249 rfl 1 (fun u => ⟨_, rfl⟩) ⟨trivial, trivial⟩ ?_
        exact gd_ret tc_249 rfl rfl h.1 (fun _ => rfl) ⟨_, rfl, h.2⟩
  · have h := h.2 hc
    show Gd d w 249 _ (915, [some (aR 2 0), some (aR 10 k1), some (aR 21 k2), some (aR 6 k3), some (aI v4), some (aI x1), some (aI x2)], [], M2)
    refine gd_s (P := True ∧ True) (σ1 := (916, [some (aR 2 0), some (aR 10 k1), some (aR 21 k2), some (aR 6 k3), some (aI v4), some (aI x1), some (aI x2)], [aI ((0 : Int32))], M2)) tc_249 rfl 1 (fun u => ⟨_, rfl⟩) ⟨trivial, trivial⟩ ?_
    exact gd_ret tc_249 rfl rfl h.1 (fun _ => rfl) ⟨_, rfl, h.2⟩
def w_La_law_J937 (post : Int32 → aM → Prop) (K23 : Nat → Nat → Nat → Int32 → aM → Prop) (k1 : Nat) (k2 : Nat) (k3 : Nat) (v4 : Int32) (M : aM) : Prop := (vp_in (v4 + ((1 : Int32))) (rK M 0).2) ∧ (vp_in (v4 + ((2 : Int32))) (rK M 0).2) ∧ (0 < aN M ∧ w_La_duty (fun x1 M1 => (vp_in (v4 + ((1 : Int32))) (rK M1 0).2) ∧ (vp_in (v4 + ((2 : Int32))) (rK M1 0).2) ∧ (w_Mo_duty (fun x2 M2 => w_Mo_thrown (fun x3 => ((x3 = x1) → ((¬ x1 = ((0 : Int32))) → K23 k1 k2 k3 (v4 + (6 : Int32)) M2) ∧ (¬ (¬ x1 = ((0 : Int32))) → (vp_in ((0 : Int32)) (rK M2 k3).2) ∧ ((((lg_cmp (rJ M2 k3 ((0 : Int32)).toNatClampNeg) x2.toInt64) = ((0 : Int32))) → K23 k1 k2 k3 (v4 + (6 : Int32)) M2) ∧ (¬ ((lg_cmp (rJ M2 k3 ((0 : Int32)).toNatClampNeg) x2.toInt64) = ((0 : Int32))) → (((0 : Int32)) = 0 ∨ ((0 : Int32)) = 1) ∧ post ((0 : Int32)) M2)))) ∧ (¬ (x3 = x1) → (((0 : Int32)) = 0 ∨ ((0 : Int32)) = 1) ∧ post ((0 : Int32)) M2)) k2 M2) k2 (rI M1 0 (v4 + ((1 : Int32))).toNatClampNeg) (rI M1 0 (v4 + ((2 : Int32))).toNatClampNeg) M1)) k1 (rI M 0 (v4 + ((1 : Int32))).toNatClampNeg) (rI M 0 (v4 + ((2 : Int32))).toNatClampNeg) k3 M)
theorem g_La_law_J937 {d w : Nat} (hd : 159 ≤ d) (hw : 4253 ≤ w) {post : Int32 → aM → Prop} {K23 : Nat → Nat → Nat → Int32 → aM → Prop} (hK23 : ∀ (k1 : Nat) (k2 : Nat) (k3 : Nat) (v4 : Int32) (o5 o6 : Option aV) (M : aM), K23 k1 k2 k3 v4 M → Gd d w 249 (pI post) (23, [some (aR 2 0), some (aR 10 k1), some (aR 21 k2), some (aR 6 k3), some (aI v4), o5, o6], [], M)) (k1 : Nat) (k2 : Nat) (k3 : Nat) (v4 : Int32) (o5 o6 : Option aV) (M : aM) (h : w_La_law_J937 post K23 k1 k2 k3 v4 M) : Gd d w 249 (pI post) (937, [some (aR 2 0), some (aR 10 k1), some (aR 21 k2), some (aR 6 k3), some (aI v4), o5, o6], [], M) := by
  unfold w_La_law_J937 at h
  show Gd d w 249 _ (937, [some (aR 2 0), some (aR 10 k1), some (aR 21 k2), some (aR 6 k3), some (aI v4), o5, o6], [], M)
  obtain ⟨c0, c1, h⟩ := h
  refine gd_s (P := True ∧ True ∧ True ∧ True ∧ True ∧ (vp_in (v4 + ((1 : Int32))) (rK M 0).2) ∧ True ∧ True ∧ True ∧ True ∧ (vp_in (v4 + ((2 : Int32))) (rK M 0).2) ∧ True ∧ True) (σ1 := (951, [some (aR 2 0), some (aR 10 k1), some (aR 21 k2), some (aR 6 k3), some (aI v4), o5, o6], [aR 6 k3, aI (rI M 0 (v4 + ((2 : Int32))).toNatClampNeg), aI (rI M 0 (v4 + ((1 : Int32))).toNatClampNeg), aR 10 k1], M)) tc_249 rfl 12 (fun u => ⟨_, rfl⟩) ⟨trivial, trivial, trivial, trivial, trivial, c0, trivial, trivial, trivial, trivial, c1, trivial, trivial⟩ ?_
  obtain ⟨hN, h⟩ := h
  refine gd_callN (ml := 5) (as := [aR 10 k1, aI (rI M 0 (v4 + ((1 : Int32))).toNatClampNeg), aI (rI M 0 (v4 + ((2 : Int32))).toNatClampNeg), aR 6 k3]) (rest := []) tc_249 rfl rfl rfl rfl rfl (by omega) (by omega) (Nat.le_of_ble_eq_true rfl) rfl (g_La_duty (by omega) (by omega) hN h) (fun r9 M1 h => ?_)
  obtain ⟨x1, rfl, h⟩ := h
  show Gd d w 249 _ (954, [some (aR 2 0), some (aR 10 k1), some (aR 21 k2), some (aR 6 k3), some (aI v4), o5, o6], [aI x1], M1)
  obtain ⟨c0, c1, h⟩ := h
  refine gd_s (P := True ∧ True ∧ True ∧ True ∧ True ∧ True ∧ (vp_in (v4 + ((1 : Int32))) (rK M1 0).2) ∧ True ∧ True ∧ True ∧ True ∧ (vp_in (v4 + ((2 : Int32))) (rK M1 0).2) ∧ True) (σ1 := (969, [some (aR 2 0), some (aR 10 k1), some (aR 21 k2), some (aR 6 k3), some (aI v4), some (aI x1), o6], [aI (rI M1 0 (v4 + ((2 : Int32))).toNatClampNeg), aI (rI M1 0 (v4 + ((1 : Int32))).toNatClampNeg), aR 21 k2], M1)) tc_249 rfl 12 (fun u => ⟨_, rfl⟩) ⟨trivial, trivial, trivial, trivial, trivial, trivial, c0, trivial, trivial, trivial, trivial, c1, trivial⟩ ?_
  refine gd_callN (ml := 3) (as := [aR 21 k2, aI (rI M1 0 (v4 + ((1 : Int32))).toNatClampNeg), aI (rI M1 0 (v4 + ((2 : Int32))).toNatClampNeg)]) (rest := []) tc_249 rfl rfl rfl rfl rfl (by omega) (by omega) (Nat.le_of_ble_eq_true rfl) rfl (g_Mo_duty (by omega) (by omega) h) (fun r9 M2 h => ?_)
  obtain ⟨x2, rfl, h⟩ := h
  show Gd d w 249 _ (972, [some (aR 2 0), some (aR 10 k1), some (aR 21 k2), some (aR 6 k3), some (aI v4), some (aI x1), o6], [aI x2], M2)
  refine gd_s (P := True ∧ True ∧ True) (σ1 := (975, [some (aR 2 0), some (aR 10 k1), some (aR 21 k2), some (aR 6 k3), some (aI v4), some (aI x1), some (aI x2)], [aR 21 k2], M2)) tc_249 rfl 2 (fun u => ⟨_, rfl⟩) ⟨trivial, trivial, trivial⟩ ?_
  refine gd_callN (ml := 1) (as := [aR 21 k2]) (rest := []) tc_249 rfl rfl rfl rfl rfl (by omega) (by omega) (Nat.le_of_ble_eq_true rfl) rfl (g_Mo_thrown (by omega) (by omega) h) (fun r9 M9 h => ?_)
  obtain ⟨x3, rfl, e9, h⟩ := h
  subst M9
  show Gd d w 249 _ (978, [some (aR 2 0), some (aR 10 k1), some (aR 21 k2), some (aR 6 k3), some (aI v4), some (aI x1), some (aI x2)], [aI x3], M2)
  refine gd_s (P := True ∧ True) (σ1 := (980, [some (aR 2 0), some (aR 10 k1), some (aR 21 k2), some (aR 6 k3), some (aI v4), some (aI x1), some (aI x2)], [aI x1, aI x3], M2)) tc_249 rfl 1 (fun u => ⟨_, rfl⟩) ⟨trivial, trivial⟩ ?_
  refine gd_br (c := x3 = x1) (st1 := []) tc_249 rfl rfl (fun _ => rfl) ⟨fun hc => ?_, fun hc => ?_⟩
  · have h := h.1 hc
    show Gd d w 249 _ (985, [some (aR 2 0), some (aR 10 k1), some (aR 21 k2), some (aR 6 k3), some (aI v4), some (aI x1), some (aI x2)], [], M2)
    refine gd_s (P := True ∧ True) (σ1 := (987, [some (aR 2 0), some (aR 10 k1), some (aR 21 k2), some (aR 6 k3), some (aI v4), some (aI x1), some (aI x2)], [aI x1], M2)) tc_249 rfl 1 (fun u => ⟨_, rfl⟩) ⟨trivial, trivial⟩ ?_
    refine gd_br (c := ¬ x1 = ((0 : Int32))) (st1 := []) tc_249 rfl rfl (fun _ => rfl) ⟨fun hc => ?_, fun hc => ?_⟩
    · have h := h.1 hc
      show Gd d w 249 _ (1002, [some (aR 2 0), some (aR 10 k1), some (aR 21 k2), some (aR 6 k3), some (aI v4), some (aI x1), some (aI x2)], [], M2)
      refine gd_s (P := True ∧ True ∧ True ∧ True) (σ1 := (23, [some (aR 2 0), some (aR 10 k1), some (aR 21 k2), some (aR 6 k3), some (aI (v4 + (6 : Int32))), some (aI x1), some (aI x2)], [], M2)) tc_249 rfl 3 (fun u => ⟨_, rfl⟩) ⟨trivial, trivial, trivial, trivial⟩ ?_
      exact hK23 k1 k2 k3 (v4 + (6 : Int32)) (some (aI x1)) (some (aI x2)) M2 h
    · have h := h.2 hc
      show Gd d w 249 _ (990, [some (aR 2 0), some (aR 10 k1), some (aR 21 k2), some (aR 6 k3), some (aI v4), some (aI x1), some (aI x2)], [], M2)
      obtain ⟨c0, h⟩ := h
      refine gd_s (P := True ∧ True ∧ (vp_in ((0 : Int32)) (rK M2 k3).2) ∧ True ∧ True ∧ True ∧ True) (σ1 := (997, [some (aR 2 0), some (aR 10 k1), some (aR 21 k2), some (aR 6 k3), some (aI v4), some (aI x1), some (aI x2)], [aI (lg_cmp (rJ M2 k3 ((0 : Int32)).toNatClampNeg) x2.toInt64)], M2)) tc_249 rfl 6 (fun u => ⟨_, rfl⟩) ⟨trivial, trivial, c0, trivial, trivial, trivial, trivial⟩ ?_
      refine gd_br (c := (lg_cmp (rJ M2 k3 ((0 : Int32)).toNatClampNeg) x2.toInt64) = ((0 : Int32))) (st1 := []) tc_249 rfl rfl (fun _ => rfl) ⟨fun hc => ?_, fun hc => ?_⟩
      · have h := h.1 hc
        show Gd d w 249 _ (1002, [some (aR 2 0), some (aR 10 k1), some (aR 21 k2), some (aR 6 k3), some (aI v4), some (aI x1), some (aI x2)], [], M2)
        refine gd_s (P := True ∧ True ∧ True ∧ True) (σ1 := (23, [some (aR 2 0), some (aR 10 k1), some (aR 21 k2), some (aR 6 k3), some (aI (v4 + (6 : Int32))), some (aI x1), some (aI x2)], [], M2)) tc_249 rfl 3 (fun u => ⟨_, rfl⟩) ⟨trivial, trivial, trivial, trivial⟩ ?_
        exact hK23 k1 k2 k3 (v4 + (6 : Int32)) (some (aI x1)) (some (aI x2)) M2 h
      · have h := h.2 hc
        show Gd d w 249 _ (1000, [some (aR 2 0), some (aR 10 k1), some (aR 21 k2), some (aR 6 k3), some (aI v4), some (aI x1), some (aI x2)], [], M2)
        refine gd_s (P := True ∧ True) (σ1 := (1001, [some (aR 2 0), some (aR 10 k1), some (aR 21 k2), some (aR 6 k3), some (aI v4), some (aI x1), some (aI x2)], [aI ((0 : Int32))], M2)) tc_249 rfl 1 (fun u => ⟨_, rfl⟩) ⟨trivial, trivial⟩ ?_
        exact gd_ret tc_249 rfl rfl h.1 (fun _ => rfl) ⟨_, rfl, h.2⟩
  · have h := h.2 hc
    show Gd d w 249 _ (983, [some (aR 2 0), some (aR 10 k1), some (aR 21 k2), some (aR 6 k3), some (aI v4), some (aI x1), some (aI x2)], [], M2)
    refine gd_s (P := True ∧ True) (σ1 := (984, [some (aR 2 0), some (aR 10 k1), some (aR 21 k2), some (aR 6 k3), some (aI v4), some (aI x1), some (aI x2)], [aI ((0 : Int32))], M2)) tc_249 rfl 1 (fun u => ⟨_, rfl⟩) ⟨trivial, trivial⟩ ?_
    exact gd_ret tc_249 rfl rfl h.1 (fun _ => rfl) ⟨_, rfl, h.2⟩
def w_La_law_J1005 (post : Int32 → aM → Prop) (K23 : Nat → Nat → Nat → Int32 → aM → Prop) (k1 : Nat) (k2 : Nat) (k3 : Nat) (v4 : Int32) (M : aM) : Prop := 0 < aN M ∧ w_La_same (fun x1 M1 => w_Mo_same (fun x2 M2 => w_Mo_thrown (fun x3 => ((x3 = x1) → ((¬ x1 = ((0 : Int32))) → K23 k1 k2 k3 (v4 + (6 : Int32)) M2) ∧ (¬ (¬ x1 = ((0 : Int32))) → (vp_in ((0 : Int32)) (rK M2 k3).2) ∧ ((((lg_cmp (rJ M2 k3 ((0 : Int32)).toNatClampNeg) x2.toInt64) = ((0 : Int32))) → K23 k1 k2 k3 (v4 + (6 : Int32)) M2) ∧ (¬ ((lg_cmp (rJ M2 k3 ((0 : Int32)).toNatClampNeg) x2.toInt64) = ((0 : Int32))) → (((0 : Int32)) = 0 ∨ ((0 : Int32)) = 1) ∧ post ((0 : Int32)) M2)))) ∧ (¬ (x3 = x1) → (((0 : Int32)) = 0 ∨ ((0 : Int32)) = 1) ∧ post ((0 : Int32)) M2)) k2 M2) k2 M1) k1 k3 M
theorem g_La_law_J1005 {d w : Nat} (hd : 159 ≤ d) (hw : 4253 ≤ w) {post : Int32 → aM → Prop} {K23 : Nat → Nat → Nat → Int32 → aM → Prop} (hK23 : ∀ (k1 : Nat) (k2 : Nat) (k3 : Nat) (v4 : Int32) (o5 o6 : Option aV) (M : aM), K23 k1 k2 k3 v4 M → Gd d w 249 (pI post) (23, [some (aR 2 0), some (aR 10 k1), some (aR 21 k2), some (aR 6 k3), some (aI v4), o5, o6], [], M)) (k1 : Nat) (k2 : Nat) (k3 : Nat) (v4 : Int32) (o5 o6 : Option aV) (M : aM) (h : w_La_law_J1005 post K23 k1 k2 k3 v4 M) : Gd d w 249 (pI post) (1005, [some (aR 2 0), some (aR 10 k1), some (aR 21 k2), some (aR 6 k3), some (aI v4), o5, o6], [], M) := by
  unfold w_La_law_J1005 at h
  show Gd d w 249 _ (1005, [some (aR 2 0), some (aR 10 k1), some (aR 21 k2), some (aR 6 k3), some (aI v4), o5, o6], [], M)
  refine gd_s (P := True ∧ True ∧ True) (σ1 := (1007, [some (aR 2 0), some (aR 10 k1), some (aR 21 k2), some (aR 6 k3), some (aI v4), o5, o6], [aR 6 k3, aR 10 k1], M)) tc_249 rfl 2 (fun u => ⟨_, rfl⟩) ⟨trivial, trivial, trivial⟩ ?_
  obtain ⟨hN, h⟩ := h
  refine gd_callN (ml := 3) (as := [aR 10 k1, aR 6 k3]) (rest := []) tc_249 rfl rfl rfl rfl rfl (by omega) (by omega) (Nat.le_of_ble_eq_true rfl) rfl (g_La_same (by omega) (by omega) hN h) (fun r9 M1 h => ?_)
  obtain ⟨x1, rfl, h⟩ := h
  show Gd d w 249 _ (1010, [some (aR 2 0), some (aR 10 k1), some (aR 21 k2), some (aR 6 k3), some (aI v4), o5, o6], [aI x1], M1)
  refine gd_s (P := True ∧ True ∧ True) (σ1 := (1013, [some (aR 2 0), some (aR 10 k1), some (aR 21 k2), some (aR 6 k3), some (aI v4), some (aI x1), o6], [aR 21 k2], M1)) tc_249 rfl 2 (fun u => ⟨_, rfl⟩) ⟨trivial, trivial, trivial⟩ ?_
  refine gd_callN (ml := 4) (as := [aR 21 k2]) (rest := []) tc_249 rfl rfl rfl rfl rfl (by omega) (by omega) (Nat.le_of_ble_eq_true rfl) rfl (g_Mo_same (by omega) (by omega) h) (fun r9 M2 h => ?_)
  obtain ⟨x2, rfl, h⟩ := h
  show Gd d w 249 _ (1016, [some (aR 2 0), some (aR 10 k1), some (aR 21 k2), some (aR 6 k3), some (aI v4), some (aI x1), o6], [aI x2], M2)
  refine gd_s (P := True ∧ True ∧ True) (σ1 := (1019, [some (aR 2 0), some (aR 10 k1), some (aR 21 k2), some (aR 6 k3), some (aI v4), some (aI x1), some (aI x2)], [aR 21 k2], M2)) tc_249 rfl 2 (fun u => ⟨_, rfl⟩) ⟨trivial, trivial, trivial⟩ ?_
  refine gd_callN (ml := 1) (as := [aR 21 k2]) (rest := []) tc_249 rfl rfl rfl rfl rfl (by omega) (by omega) (Nat.le_of_ble_eq_true rfl) rfl (g_Mo_thrown (by omega) (by omega) h) (fun r9 M9 h => ?_)
  obtain ⟨x3, rfl, e9, h⟩ := h
  subst M9
  show Gd d w 249 _ (1022, [some (aR 2 0), some (aR 10 k1), some (aR 21 k2), some (aR 6 k3), some (aI v4), some (aI x1), some (aI x2)], [aI x3], M2)
  refine gd_s (P := True ∧ True) (σ1 := (1024, [some (aR 2 0), some (aR 10 k1), some (aR 21 k2), some (aR 6 k3), some (aI v4), some (aI x1), some (aI x2)], [aI x1, aI x3], M2)) tc_249 rfl 1 (fun u => ⟨_, rfl⟩) ⟨trivial, trivial⟩ ?_
  refine gd_br (c := x3 = x1) (st1 := []) tc_249 rfl rfl (fun _ => rfl) ⟨fun hc => ?_, fun hc => ?_⟩
  · have h := h.1 hc
    show Gd d w 249 _ (1029, [some (aR 2 0), some (aR 10 k1), some (aR 21 k2), some (aR 6 k3), some (aI v4), some (aI x1), some (aI x2)], [], M2)
    refine gd_s (P := True ∧ True) (σ1 := (1031, [some (aR 2 0), some (aR 10 k1), some (aR 21 k2), some (aR 6 k3), some (aI v4), some (aI x1), some (aI x2)], [aI x1], M2)) tc_249 rfl 1 (fun u => ⟨_, rfl⟩) ⟨trivial, trivial⟩ ?_
    refine gd_br (c := ¬ x1 = ((0 : Int32))) (st1 := []) tc_249 rfl rfl (fun _ => rfl) ⟨fun hc => ?_, fun hc => ?_⟩
    · have h := h.1 hc
      show Gd d w 249 _ (1046, [some (aR 2 0), some (aR 10 k1), some (aR 21 k2), some (aR 6 k3), some (aI v4), some (aI x1), some (aI x2)], [], M2)
      refine gd_s (P := True ∧ True ∧ True ∧ True) (σ1 := (23, [some (aR 2 0), some (aR 10 k1), some (aR 21 k2), some (aR 6 k3), some (aI (v4 + (6 : Int32))), some (aI x1), some (aI x2)], [], M2)) tc_249 rfl 3 (fun u => ⟨_, rfl⟩) ⟨trivial, trivial, trivial, trivial⟩ ?_
      exact hK23 k1 k2 k3 (v4 + (6 : Int32)) (some (aI x1)) (some (aI x2)) M2 h
    · have h := h.2 hc
      show Gd d w 249 _ (1034, [some (aR 2 0), some (aR 10 k1), some (aR 21 k2), some (aR 6 k3), some (aI v4), some (aI x1), some (aI x2)], [], M2)
      obtain ⟨c0, h⟩ := h
      refine gd_s (P := True ∧ True ∧ (vp_in ((0 : Int32)) (rK M2 k3).2) ∧ True ∧ True ∧ True ∧ True) (σ1 := (1041, [some (aR 2 0), some (aR 10 k1), some (aR 21 k2), some (aR 6 k3), some (aI v4), some (aI x1), some (aI x2)], [aI (lg_cmp (rJ M2 k3 ((0 : Int32)).toNatClampNeg) x2.toInt64)], M2)) tc_249 rfl 6 (fun u => ⟨_, rfl⟩) ⟨trivial, trivial, c0, trivial, trivial, trivial, trivial⟩ ?_
      refine gd_br (c := (lg_cmp (rJ M2 k3 ((0 : Int32)).toNatClampNeg) x2.toInt64) = ((0 : Int32))) (st1 := []) tc_249 rfl rfl (fun _ => rfl) ⟨fun hc => ?_, fun hc => ?_⟩
      · have h := h.1 hc
        show Gd d w 249 _ (1046, [some (aR 2 0), some (aR 10 k1), some (aR 21 k2), some (aR 6 k3), some (aI v4), some (aI x1), some (aI x2)], [], M2)
        refine gd_s (P := True ∧ True ∧ True ∧ True) (σ1 := (23, [some (aR 2 0), some (aR 10 k1), some (aR 21 k2), some (aR 6 k3), some (aI (v4 + (6 : Int32))), some (aI x1), some (aI x2)], [], M2)) tc_249 rfl 3 (fun u => ⟨_, rfl⟩) ⟨trivial, trivial, trivial, trivial⟩ ?_
        exact hK23 k1 k2 k3 (v4 + (6 : Int32)) (some (aI x1)) (some (aI x2)) M2 h
      · have h := h.2 hc
        show Gd d w 249 _ (1044, [some (aR 2 0), some (aR 10 k1), some (aR 21 k2), some (aR 6 k3), some (aI v4), some (aI x1), some (aI x2)], [], M2)
        refine gd_s (P := True ∧ True) (σ1 := (1045, [some (aR 2 0), some (aR 10 k1), some (aR 21 k2), some (aR 6 k3), some (aI v4), some (aI x1), some (aI x2)], [aI ((0 : Int32))], M2)) tc_249 rfl 1 (fun u => ⟨_, rfl⟩) ⟨trivial, trivial⟩ ?_
        exact gd_ret tc_249 rfl rfl h.1 (fun _ => rfl) ⟨_, rfl, h.2⟩
  · have h := h.2 hc
    show Gd d w 249 _ (1027, [some (aR 2 0), some (aR 10 k1), some (aR 21 k2), some (aR 6 k3), some (aI v4), some (aI x1), some (aI x2)], [], M2)
    refine gd_s (P := True ∧ True) (σ1 := (1028, [some (aR 2 0), some (aR 10 k1), some (aR 21 k2), some (aR 6 k3), some (aI v4), some (aI x1), some (aI x2)], [aI ((0 : Int32))], M2)) tc_249 rfl 1 (fun u => ⟨_, rfl⟩) ⟨trivial, trivial⟩ ?_
    exact gd_ret tc_249 rfl rfl h.1 (fun _ => rfl) ⟨_, rfl, h.2⟩
def w_La_law_J1049 (post : Int32 → aM → Prop) (K23 : Nat → Nat → Nat → Int32 → aM → Prop) (k1 : Nat) (k2 : Nat) (k3 : Nat) (v4 : Int32) (M : aM) : Prop := (vp_in (v4 + ((1 : Int32))) (rK M 0).2) ∧ (vp_in (v4 + ((2 : Int32))) (rK M 0).2) ∧ (0 < aN M ∧ w_La_differ (fun x1 M1 => (vp_in (v4 + ((1 : Int32))) (rK M1 0).2) ∧ (vp_in (v4 + ((2 : Int32))) (rK M1 0).2) ∧ (w_Mo_differ (fun x2 M2 => w_Mo_thrown (fun x3 => ((x3 = x1) → ((¬ x1 = ((0 : Int32))) → K23 k1 k2 k3 (v4 + (6 : Int32)) M2) ∧ (¬ (¬ x1 = ((0 : Int32))) → (vp_in ((0 : Int32)) (rK M2 k3).2) ∧ ((((lg_cmp (rJ M2 k3 ((0 : Int32)).toNatClampNeg) x2.toInt64) = ((0 : Int32))) → K23 k1 k2 k3 (v4 + (6 : Int32)) M2) ∧ (¬ ((lg_cmp (rJ M2 k3 ((0 : Int32)).toNatClampNeg) x2.toInt64) = ((0 : Int32))) → (((0 : Int32)) = 0 ∨ ((0 : Int32)) = 1) ∧ post ((0 : Int32)) M2)))) ∧ (¬ (x3 = x1) → (((0 : Int32)) = 0 ∨ ((0 : Int32)) = 1) ∧ post ((0 : Int32)) M2)) k2 M2) k2 (rI M1 0 (v4 + ((1 : Int32))).toNatClampNeg) (rI M1 0 (v4 + ((2 : Int32))).toNatClampNeg) M1)) k1 (rI M 0 (v4 + ((1 : Int32))).toNatClampNeg) (rI M 0 (v4 + ((2 : Int32))).toNatClampNeg) k3 M)
theorem g_La_law_J1049 {d w : Nat} (hd : 159 ≤ d) (hw : 4253 ≤ w) {post : Int32 → aM → Prop} {K23 : Nat → Nat → Nat → Int32 → aM → Prop} (hK23 : ∀ (k1 : Nat) (k2 : Nat) (k3 : Nat) (v4 : Int32) (o5 o6 : Option aV) (M : aM), K23 k1 k2 k3 v4 M → Gd d w 249 (pI post) (23, [some (aR 2 0), some (aR 10 k1), some (aR 21 k2), some (aR 6 k3), some (aI v4), o5, o6], [], M)) (k1 : Nat) (k2 : Nat) (k3 : Nat) (v4 : Int32) (o5 o6 : Option aV) (M : aM) (h : w_La_law_J1049 post K23 k1 k2 k3 v4 M) : Gd d w 249 (pI post) (1049, [some (aR 2 0), some (aR 10 k1), some (aR 21 k2), some (aR 6 k3), some (aI v4), o5, o6], [], M) := by
  unfold w_La_law_J1049 at h
  show Gd d w 249 _ (1049, [some (aR 2 0), some (aR 10 k1), some (aR 21 k2), some (aR 6 k3), some (aI v4), o5, o6], [], M)
  obtain ⟨c0, c1, h⟩ := h
  refine gd_s (P := True ∧ True ∧ True ∧ True ∧ True ∧ (vp_in (v4 + ((1 : Int32))) (rK M 0).2) ∧ True ∧ True ∧ True ∧ True ∧ (vp_in (v4 + ((2 : Int32))) (rK M 0).2) ∧ True ∧ True) (σ1 := (1063, [some (aR 2 0), some (aR 10 k1), some (aR 21 k2), some (aR 6 k3), some (aI v4), o5, o6], [aR 6 k3, aI (rI M 0 (v4 + ((2 : Int32))).toNatClampNeg), aI (rI M 0 (v4 + ((1 : Int32))).toNatClampNeg), aR 10 k1], M)) tc_249 rfl 12 (fun u => ⟨_, rfl⟩) ⟨trivial, trivial, trivial, trivial, trivial, c0, trivial, trivial, trivial, trivial, c1, trivial, trivial⟩ ?_
  obtain ⟨hN, h⟩ := h
  refine gd_callN (ml := 5) (as := [aR 10 k1, aI (rI M 0 (v4 + ((1 : Int32))).toNatClampNeg), aI (rI M 0 (v4 + ((2 : Int32))).toNatClampNeg), aR 6 k3]) (rest := []) tc_249 rfl rfl rfl rfl rfl (by omega) (by omega) (Nat.le_of_ble_eq_true rfl) rfl (g_La_differ (by omega) (by omega) hN h) (fun r9 M1 h => ?_)
  obtain ⟨x1, rfl, h⟩ := h
  show Gd d w 249 _ (1066, [some (aR 2 0), some (aR 10 k1), some (aR 21 k2), some (aR 6 k3), some (aI v4), o5, o6], [aI x1], M1)
  obtain ⟨c0, c1, h⟩ := h
  refine gd_s (P := True ∧ True ∧ True ∧ True ∧ True ∧ True ∧ (vp_in (v4 + ((1 : Int32))) (rK M1 0).2) ∧ True ∧ True ∧ True ∧ True ∧ (vp_in (v4 + ((2 : Int32))) (rK M1 0).2) ∧ True) (σ1 := (1081, [some (aR 2 0), some (aR 10 k1), some (aR 21 k2), some (aR 6 k3), some (aI v4), some (aI x1), o6], [aI (rI M1 0 (v4 + ((2 : Int32))).toNatClampNeg), aI (rI M1 0 (v4 + ((1 : Int32))).toNatClampNeg), aR 21 k2], M1)) tc_249 rfl 12 (fun u => ⟨_, rfl⟩) ⟨trivial, trivial, trivial, trivial, trivial, trivial, c0, trivial, trivial, trivial, trivial, c1, trivial⟩ ?_
  refine gd_callN (ml := 3) (as := [aR 21 k2, aI (rI M1 0 (v4 + ((1 : Int32))).toNatClampNeg), aI (rI M1 0 (v4 + ((2 : Int32))).toNatClampNeg)]) (rest := []) tc_249 rfl rfl rfl rfl rfl (by omega) (by omega) (Nat.le_of_ble_eq_true rfl) rfl (g_Mo_differ (by omega) (by omega) h) (fun r9 M2 h => ?_)
  obtain ⟨x2, rfl, h⟩ := h
  show Gd d w 249 _ (1084, [some (aR 2 0), some (aR 10 k1), some (aR 21 k2), some (aR 6 k3), some (aI v4), some (aI x1), o6], [aI x2], M2)
  refine gd_s (P := True ∧ True ∧ True) (σ1 := (1087, [some (aR 2 0), some (aR 10 k1), some (aR 21 k2), some (aR 6 k3), some (aI v4), some (aI x1), some (aI x2)], [aR 21 k2], M2)) tc_249 rfl 2 (fun u => ⟨_, rfl⟩) ⟨trivial, trivial, trivial⟩ ?_
  refine gd_callN (ml := 1) (as := [aR 21 k2]) (rest := []) tc_249 rfl rfl rfl rfl rfl (by omega) (by omega) (Nat.le_of_ble_eq_true rfl) rfl (g_Mo_thrown (by omega) (by omega) h) (fun r9 M9 h => ?_)
  obtain ⟨x3, rfl, e9, h⟩ := h
  subst M9
  show Gd d w 249 _ (1090, [some (aR 2 0), some (aR 10 k1), some (aR 21 k2), some (aR 6 k3), some (aI v4), some (aI x1), some (aI x2)], [aI x3], M2)
  refine gd_s (P := True ∧ True) (σ1 := (1092, [some (aR 2 0), some (aR 10 k1), some (aR 21 k2), some (aR 6 k3), some (aI v4), some (aI x1), some (aI x2)], [aI x1, aI x3], M2)) tc_249 rfl 1 (fun u => ⟨_, rfl⟩) ⟨trivial, trivial⟩ ?_
  refine gd_br (c := x3 = x1) (st1 := []) tc_249 rfl rfl (fun _ => rfl) ⟨fun hc => ?_, fun hc => ?_⟩
  · have h := h.1 hc
    show Gd d w 249 _ (1097, [some (aR 2 0), some (aR 10 k1), some (aR 21 k2), some (aR 6 k3), some (aI v4), some (aI x1), some (aI x2)], [], M2)
    refine gd_s (P := True ∧ True) (σ1 := (1099, [some (aR 2 0), some (aR 10 k1), some (aR 21 k2), some (aR 6 k3), some (aI v4), some (aI x1), some (aI x2)], [aI x1], M2)) tc_249 rfl 1 (fun u => ⟨_, rfl⟩) ⟨trivial, trivial⟩ ?_
    refine gd_br (c := ¬ x1 = ((0 : Int32))) (st1 := []) tc_249 rfl rfl (fun _ => rfl) ⟨fun hc => ?_, fun hc => ?_⟩
    · have h := h.1 hc
      show Gd d w 249 _ (1114, [some (aR 2 0), some (aR 10 k1), some (aR 21 k2), some (aR 6 k3), some (aI v4), some (aI x1), some (aI x2)], [], M2)
      refine gd_s (P := True ∧ True ∧ True ∧ True) (σ1 := (23, [some (aR 2 0), some (aR 10 k1), some (aR 21 k2), some (aR 6 k3), some (aI (v4 + (6 : Int32))), some (aI x1), some (aI x2)], [], M2)) tc_249 rfl 3 (fun u => ⟨_, rfl⟩) ⟨trivial, trivial, trivial, trivial⟩ ?_
      exact hK23 k1 k2 k3 (v4 + (6 : Int32)) (some (aI x1)) (some (aI x2)) M2 h
    · have h := h.2 hc
      show Gd d w 249 _ (1102, [some (aR 2 0), some (aR 10 k1), some (aR 21 k2), some (aR 6 k3), some (aI v4), some (aI x1), some (aI x2)], [], M2)
      obtain ⟨c0, h⟩ := h
      refine gd_s (P := True ∧ True ∧ (vp_in ((0 : Int32)) (rK M2 k3).2) ∧ True ∧ True ∧ True ∧ True) (σ1 := (1109, [some (aR 2 0), some (aR 10 k1), some (aR 21 k2), some (aR 6 k3), some (aI v4), some (aI x1), some (aI x2)], [aI (lg_cmp (rJ M2 k3 ((0 : Int32)).toNatClampNeg) x2.toInt64)], M2)) tc_249 rfl 6 (fun u => ⟨_, rfl⟩) ⟨trivial, trivial, c0, trivial, trivial, trivial, trivial⟩ ?_
      refine gd_br (c := (lg_cmp (rJ M2 k3 ((0 : Int32)).toNatClampNeg) x2.toInt64) = ((0 : Int32))) (st1 := []) tc_249 rfl rfl (fun _ => rfl) ⟨fun hc => ?_, fun hc => ?_⟩
      · have h := h.1 hc
        show Gd d w 249 _ (1114, [some (aR 2 0), some (aR 10 k1), some (aR 21 k2), some (aR 6 k3), some (aI v4), some (aI x1), some (aI x2)], [], M2)
        refine gd_s (P := True ∧ True ∧ True ∧ True) (σ1 := (23, [some (aR 2 0), some (aR 10 k1), some (aR 21 k2), some (aR 6 k3), some (aI (v4 + (6 : Int32))), some (aI x1), some (aI x2)], [], M2)) tc_249 rfl 3 (fun u => ⟨_, rfl⟩) ⟨trivial, trivial, trivial, trivial⟩ ?_
        exact hK23 k1 k2 k3 (v4 + (6 : Int32)) (some (aI x1)) (some (aI x2)) M2 h
      · have h := h.2 hc
        show Gd d w 249 _ (1112, [some (aR 2 0), some (aR 10 k1), some (aR 21 k2), some (aR 6 k3), some (aI v4), some (aI x1), some (aI x2)], [], M2)
        refine gd_s (P := True ∧ True) (σ1 := (1113, [some (aR 2 0), some (aR 10 k1), some (aR 21 k2), some (aR 6 k3), some (aI v4), some (aI x1), some (aI x2)], [aI ((0 : Int32))], M2)) tc_249 rfl 1 (fun u => ⟨_, rfl⟩) ⟨trivial, trivial⟩ ?_
        exact gd_ret tc_249 rfl rfl h.1 (fun _ => rfl) ⟨_, rfl, h.2⟩
  · have h := h.2 hc
    show Gd d w 249 _ (1095, [some (aR 2 0), some (aR 10 k1), some (aR 21 k2), some (aR 6 k3), some (aI v4), some (aI x1), some (aI x2)], [], M2)
    refine gd_s (P := True ∧ True) (σ1 := (1096, [some (aR 2 0), some (aR 10 k1), some (aR 21 k2), some (aR 6 k3), some (aI v4), some (aI x1), some (aI x2)], [aI ((0 : Int32))], M2)) tc_249 rfl 1 (fun u => ⟨_, rfl⟩) ⟨trivial, trivial⟩ ?_
    exact gd_ret tc_249 rfl rfl h.1 (fun _ => rfl) ⟨_, rfl, h.2⟩
def w_La_law_J1117 (post : Int32 → aM → Prop) (K23 : Nat → Nat → Nat → Int32 → aM → Prop) (k1 : Nat) (k2 : Nat) (k3 : Nat) (v4 : Int32) (M : aM) : Prop := (vp_in (v4 + ((1 : Int32))) (rK M 0).2) ∧ (vp_in (v4 + ((2 : Int32))) (rK M 0).2) ∧ (vp_in (v4 + ((3 : Int32))) (rK M 0).2) ∧ (0 < aN M ∧ w_La_reach (fun x1 M1 => (vp_in (v4 + ((1 : Int32))) (rK M1 0).2) ∧ (vp_in (v4 + ((2 : Int32))) (rK M1 0).2) ∧ (vp_in (v4 + ((3 : Int32))) (rK M1 0).2) ∧ (w_Mo_reach (fun x2 M2 => w_Mo_thrown (fun x3 => ((x3 = x1) → ((¬ x1 = ((0 : Int32))) → K23 k1 k2 k3 (v4 + (6 : Int32)) M2) ∧ (¬ (¬ x1 = ((0 : Int32))) → (vp_in ((0 : Int32)) (rK M2 k3).2) ∧ ((((lg_cmp (rJ M2 k3 ((0 : Int32)).toNatClampNeg) x2.toInt64) = ((0 : Int32))) → K23 k1 k2 k3 (v4 + (6 : Int32)) M2) ∧ (¬ ((lg_cmp (rJ M2 k3 ((0 : Int32)).toNatClampNeg) x2.toInt64) = ((0 : Int32))) → (((0 : Int32)) = 0 ∨ ((0 : Int32)) = 1) ∧ post ((0 : Int32)) M2)))) ∧ (¬ (x3 = x1) → (((0 : Int32)) = 0 ∨ ((0 : Int32)) = 1) ∧ post ((0 : Int32)) M2)) k2 M2) k2 (rI M1 0 (v4 + ((1 : Int32))).toNatClampNeg) (rI M1 0 (v4 + ((2 : Int32))).toNatClampNeg) (rI M1 0 (v4 + ((3 : Int32))).toNatClampNeg) M1)) k1 (rI M 0 (v4 + ((1 : Int32))).toNatClampNeg) (rI M 0 (v4 + ((2 : Int32))).toNatClampNeg) (rI M 0 (v4 + ((3 : Int32))).toNatClampNeg) k3 M)
theorem g_La_law_J1117 {d w : Nat} (hd : 159 ≤ d) (hw : 4253 ≤ w) {post : Int32 → aM → Prop} {K23 : Nat → Nat → Nat → Int32 → aM → Prop} (hK23 : ∀ (k1 : Nat) (k2 : Nat) (k3 : Nat) (v4 : Int32) (o5 o6 : Option aV) (M : aM), K23 k1 k2 k3 v4 M → Gd d w 249 (pI post) (23, [some (aR 2 0), some (aR 10 k1), some (aR 21 k2), some (aR 6 k3), some (aI v4), o5, o6], [], M)) (k1 : Nat) (k2 : Nat) (k3 : Nat) (v4 : Int32) (o5 o6 : Option aV) (M : aM) (h : w_La_law_J1117 post K23 k1 k2 k3 v4 M) : Gd d w 249 (pI post) (1117, [some (aR 2 0), some (aR 10 k1), some (aR 21 k2), some (aR 6 k3), some (aI v4), o5, o6], [], M) := by
  unfold w_La_law_J1117 at h
  show Gd d w 249 _ (1117, [some (aR 2 0), some (aR 10 k1), some (aR 21 k2), some (aR 6 k3), some (aI v4), o5, o6], [], M)
  obtain ⟨c0, c1, c2, h⟩ := h
  refine gd_s (P := True ∧ True ∧ True ∧ True ∧ True ∧ (vp_in (v4 + ((1 : Int32))) (rK M 0).2) ∧ True ∧ True ∧ True ∧ True ∧ (vp_in (v4 + ((2 : Int32))) (rK M 0).2) ∧ True ∧ True ∧ True ∧ True ∧ (vp_in (v4 + ((3 : Int32))) (rK M 0).2) ∧ True ∧ True) (σ1 := (1137, [some (aR 2 0), some (aR 10 k1), some (aR 21 k2), some (aR 6 k3), some (aI v4), o5, o6], [aR 6 k3, aI (rI M 0 (v4 + ((3 : Int32))).toNatClampNeg), aI (rI M 0 (v4 + ((2 : Int32))).toNatClampNeg), aI (rI M 0 (v4 + ((1 : Int32))).toNatClampNeg), aR 10 k1], M)) tc_249 rfl 17 (fun u => ⟨_, rfl⟩) ⟨trivial, trivial, trivial, trivial, trivial, c0, trivial, trivial, trivial, trivial, c1, trivial, trivial, trivial, trivial, c2, trivial, trivial⟩ ?_
  obtain ⟨hN, h⟩ := h
  refine gd_callN (ml := 6) (as := [aR 10 k1, aI (rI M 0 (v4 + ((1 : Int32))).toNatClampNeg), aI (rI M 0 (v4 + ((2 : Int32))).toNatClampNeg), aI (rI M 0 (v4 + ((3 : Int32))).toNatClampNeg), aR 6 k3]) (rest := []) tc_249 rfl rfl rfl rfl rfl (by omega) (by omega) (Nat.le_of_ble_eq_true rfl) rfl (g_La_reach (by omega) (by omega) hN h) (fun r9 M1 h => ?_)
  obtain ⟨x1, rfl, h⟩ := h
  show Gd d w 249 _ (1140, [some (aR 2 0), some (aR 10 k1), some (aR 21 k2), some (aR 6 k3), some (aI v4), o5, o6], [aI x1], M1)
  obtain ⟨c0, c1, c2, h⟩ := h
  refine gd_s (P := True ∧ True ∧ True ∧ True ∧ True ∧ True ∧ (vp_in (v4 + ((1 : Int32))) (rK M1 0).2) ∧ True ∧ True ∧ True ∧ True ∧ (vp_in (v4 + ((2 : Int32))) (rK M1 0).2) ∧ True ∧ True ∧ True ∧ True ∧ (vp_in (v4 + ((3 : Int32))) (rK M1 0).2) ∧ True) (σ1 := (1161, [some (aR 2 0), some (aR 10 k1), some (aR 21 k2), some (aR 6 k3), some (aI v4), some (aI x1), o6], [aI (rI M1 0 (v4 + ((3 : Int32))).toNatClampNeg), aI (rI M1 0 (v4 + ((2 : Int32))).toNatClampNeg), aI (rI M1 0 (v4 + ((1 : Int32))).toNatClampNeg), aR 21 k2], M1)) tc_249 rfl 17 (fun u => ⟨_, rfl⟩) ⟨trivial, trivial, trivial, trivial, trivial, trivial, c0, trivial, trivial, trivial, trivial, c1, trivial, trivial, trivial, trivial, c2, trivial⟩ ?_
  refine gd_callN (ml := 6) (as := [aR 21 k2, aI (rI M1 0 (v4 + ((1 : Int32))).toNatClampNeg), aI (rI M1 0 (v4 + ((2 : Int32))).toNatClampNeg), aI (rI M1 0 (v4 + ((3 : Int32))).toNatClampNeg)]) (rest := []) tc_249 rfl rfl rfl rfl rfl (by omega) (by omega) (Nat.le_of_ble_eq_true rfl) rfl (g_Mo_reach (by omega) (by omega) h) (fun r9 M2 h => ?_)
  obtain ⟨x2, rfl, h⟩ := h
  show Gd d w 249 _ (1164, [some (aR 2 0), some (aR 10 k1), some (aR 21 k2), some (aR 6 k3), some (aI v4), some (aI x1), o6], [aI x2], M2)
  refine gd_s (P := True ∧ True ∧ True) (σ1 := (1167, [some (aR 2 0), some (aR 10 k1), some (aR 21 k2), some (aR 6 k3), some (aI v4), some (aI x1), some (aI x2)], [aR 21 k2], M2)) tc_249 rfl 2 (fun u => ⟨_, rfl⟩) ⟨trivial, trivial, trivial⟩ ?_
  refine gd_callN (ml := 1) (as := [aR 21 k2]) (rest := []) tc_249 rfl rfl rfl rfl rfl (by omega) (by omega) (Nat.le_of_ble_eq_true rfl) rfl (g_Mo_thrown (by omega) (by omega) h) (fun r9 M9 h => ?_)
  obtain ⟨x3, rfl, e9, h⟩ := h
  subst M9
  show Gd d w 249 _ (1170, [some (aR 2 0), some (aR 10 k1), some (aR 21 k2), some (aR 6 k3), some (aI v4), some (aI x1), some (aI x2)], [aI x3], M2)
  refine gd_s (P := True ∧ True) (σ1 := (1172, [some (aR 2 0), some (aR 10 k1), some (aR 21 k2), some (aR 6 k3), some (aI v4), some (aI x1), some (aI x2)], [aI x1, aI x3], M2)) tc_249 rfl 1 (fun u => ⟨_, rfl⟩) ⟨trivial, trivial⟩ ?_
  refine gd_br (c := x3 = x1) (st1 := []) tc_249 rfl rfl (fun _ => rfl) ⟨fun hc => ?_, fun hc => ?_⟩
  · have h := h.1 hc
    show Gd d w 249 _ (1177, [some (aR 2 0), some (aR 10 k1), some (aR 21 k2), some (aR 6 k3), some (aI v4), some (aI x1), some (aI x2)], [], M2)
    refine gd_s (P := True ∧ True) (σ1 := (1179, [some (aR 2 0), some (aR 10 k1), some (aR 21 k2), some (aR 6 k3), some (aI v4), some (aI x1), some (aI x2)], [aI x1], M2)) tc_249 rfl 1 (fun u => ⟨_, rfl⟩) ⟨trivial, trivial⟩ ?_
    refine gd_br (c := ¬ x1 = ((0 : Int32))) (st1 := []) tc_249 rfl rfl (fun _ => rfl) ⟨fun hc => ?_, fun hc => ?_⟩
    · have h := h.1 hc
      show Gd d w 249 _ (1194, [some (aR 2 0), some (aR 10 k1), some (aR 21 k2), some (aR 6 k3), some (aI v4), some (aI x1), some (aI x2)], [], M2)
      refine gd_s (P := True ∧ True ∧ True ∧ True) (σ1 := (23, [some (aR 2 0), some (aR 10 k1), some (aR 21 k2), some (aR 6 k3), some (aI (v4 + (6 : Int32))), some (aI x1), some (aI x2)], [], M2)) tc_249 rfl 3 (fun u => ⟨_, rfl⟩) ⟨trivial, trivial, trivial, trivial⟩ ?_
      exact hK23 k1 k2 k3 (v4 + (6 : Int32)) (some (aI x1)) (some (aI x2)) M2 h
    · have h := h.2 hc
      show Gd d w 249 _ (1182, [some (aR 2 0), some (aR 10 k1), some (aR 21 k2), some (aR 6 k3), some (aI v4), some (aI x1), some (aI x2)], [], M2)
      obtain ⟨c0, h⟩ := h
      refine gd_s (P := True ∧ True ∧ (vp_in ((0 : Int32)) (rK M2 k3).2) ∧ True ∧ True ∧ True ∧ True) (σ1 := (1189, [some (aR 2 0), some (aR 10 k1), some (aR 21 k2), some (aR 6 k3), some (aI v4), some (aI x1), some (aI x2)], [aI (lg_cmp (rJ M2 k3 ((0 : Int32)).toNatClampNeg) x2.toInt64)], M2)) tc_249 rfl 6 (fun u => ⟨_, rfl⟩) ⟨trivial, trivial, c0, trivial, trivial, trivial, trivial⟩ ?_
      refine gd_br (c := (lg_cmp (rJ M2 k3 ((0 : Int32)).toNatClampNeg) x2.toInt64) = ((0 : Int32))) (st1 := []) tc_249 rfl rfl (fun _ => rfl) ⟨fun hc => ?_, fun hc => ?_⟩
      · have h := h.1 hc
        show Gd d w 249 _ (1194, [some (aR 2 0), some (aR 10 k1), some (aR 21 k2), some (aR 6 k3), some (aI v4), some (aI x1), some (aI x2)], [], M2)
        refine gd_s (P := True ∧ True ∧ True ∧ True) (σ1 := (23, [some (aR 2 0), some (aR 10 k1), some (aR 21 k2), some (aR 6 k3), some (aI (v4 + (6 : Int32))), some (aI x1), some (aI x2)], [], M2)) tc_249 rfl 3 (fun u => ⟨_, rfl⟩) ⟨trivial, trivial, trivial, trivial⟩ ?_
        exact hK23 k1 k2 k3 (v4 + (6 : Int32)) (some (aI x1)) (some (aI x2)) M2 h
      · have h := h.2 hc
        show Gd d w 249 _ (1192, [some (aR 2 0), some (aR 10 k1), some (aR 21 k2), some (aR 6 k3), some (aI v4), some (aI x1), some (aI x2)], [], M2)
        refine gd_s (P := True ∧ True) (σ1 := (1193, [some (aR 2 0), some (aR 10 k1), some (aR 21 k2), some (aR 6 k3), some (aI v4), some (aI x1), some (aI x2)], [aI ((0 : Int32))], M2)) tc_249 rfl 1 (fun u => ⟨_, rfl⟩) ⟨trivial, trivial⟩ ?_
        exact gd_ret tc_249 rfl rfl h.1 (fun _ => rfl) ⟨_, rfl, h.2⟩
  · have h := h.2 hc
    show Gd d w 249 _ (1175, [some (aR 2 0), some (aR 10 k1), some (aR 21 k2), some (aR 6 k3), some (aI v4), some (aI x1), some (aI x2)], [], M2)
    refine gd_s (P := True ∧ True) (σ1 := (1176, [some (aR 2 0), some (aR 10 k1), some (aR 21 k2), some (aR 6 k3), some (aI v4), some (aI x1), some (aI x2)], [aI ((0 : Int32))], M2)) tc_249 rfl 1 (fun u => ⟨_, rfl⟩) ⟨trivial, trivial⟩ ?_
    exact gd_ret tc_249 rfl rfl h.1 (fun _ => rfl) ⟨_, rfl, h.2⟩
def w_La_law_J1197 (post : Int32 → aM → Prop) (K23 : Nat → Nat → Nat → Int32 → aM → Prop) (k1 : Nat) (k2 : Nat) (k3 : Nat) (v4 : Int32) (M : aM) : Prop := (vp_in (v4 + ((1 : Int32))) (rK M 0).2) ∧ (0 < aN M ∧ w_La_witness (fun x1 M1 => (vp_in (v4 + ((1 : Int32))) (rK M1 0).2) ∧ (w_Mo_witness (fun x2 M2 => w_Mo_thrown (fun x3 => ((x3 = x1) → ((¬ x1 = ((0 : Int32))) → K23 k1 k2 k3 (v4 + (6 : Int32)) M2) ∧ (¬ (¬ x1 = ((0 : Int32))) → (vp_in ((0 : Int32)) (rK M2 k3).2) ∧ ((((lg_cmp (rJ M2 k3 ((0 : Int32)).toNatClampNeg) x2.toInt64) = ((0 : Int32))) → K23 k1 k2 k3 (v4 + (6 : Int32)) M2) ∧ (¬ ((lg_cmp (rJ M2 k3 ((0 : Int32)).toNatClampNeg) x2.toInt64) = ((0 : Int32))) → (((0 : Int32)) = 0 ∨ ((0 : Int32)) = 1) ∧ post ((0 : Int32)) M2)))) ∧ (¬ (x3 = x1) → (((0 : Int32)) = 0 ∨ ((0 : Int32)) = 1) ∧ post ((0 : Int32)) M2)) k2 M2) k2 (rI M1 0 (v4 + ((1 : Int32))).toNatClampNeg) M1)) k1 (rI M 0 (v4 + ((1 : Int32))).toNatClampNeg) k3 M)
theorem g_La_law_J1197 {d w : Nat} (hd : 159 ≤ d) (hw : 4253 ≤ w) {post : Int32 → aM → Prop} {K23 : Nat → Nat → Nat → Int32 → aM → Prop} (hK23 : ∀ (k1 : Nat) (k2 : Nat) (k3 : Nat) (v4 : Int32) (o5 o6 : Option aV) (M : aM), K23 k1 k2 k3 v4 M → Gd d w 249 (pI post) (23, [some (aR 2 0), some (aR 10 k1), some (aR 21 k2), some (aR 6 k3), some (aI v4), o5, o6], [], M)) (k1 : Nat) (k2 : Nat) (k3 : Nat) (v4 : Int32) (o5 o6 : Option aV) (M : aM) (h : w_La_law_J1197 post K23 k1 k2 k3 v4 M) : Gd d w 249 (pI post) (1197, [some (aR 2 0), some (aR 10 k1), some (aR 21 k2), some (aR 6 k3), some (aI v4), o5, o6], [], M) := by
  unfold w_La_law_J1197 at h
  show Gd d w 249 _ (1197, [some (aR 2 0), some (aR 10 k1), some (aR 21 k2), some (aR 6 k3), some (aI v4), o5, o6], [], M)
  obtain ⟨c0, h⟩ := h
  refine gd_s (P := True ∧ True ∧ True ∧ True ∧ True ∧ (vp_in (v4 + ((1 : Int32))) (rK M 0).2) ∧ True ∧ True) (σ1 := (1205, [some (aR 2 0), some (aR 10 k1), some (aR 21 k2), some (aR 6 k3), some (aI v4), o5, o6], [aR 6 k3, aI (rI M 0 (v4 + ((1 : Int32))).toNatClampNeg), aR 10 k1], M)) tc_249 rfl 7 (fun u => ⟨_, rfl⟩) ⟨trivial, trivial, trivial, trivial, trivial, c0, trivial, trivial⟩ ?_
  obtain ⟨hN, h⟩ := h
  refine gd_callN (ml := 4) (as := [aR 10 k1, aI (rI M 0 (v4 + ((1 : Int32))).toNatClampNeg), aR 6 k3]) (rest := []) tc_249 rfl rfl rfl rfl rfl (by omega) (by omega) (Nat.le_of_ble_eq_true rfl) rfl (g_La_witness (by omega) (by omega) hN h) (fun r9 M1 h => ?_)
  obtain ⟨x1, rfl, h⟩ := h
  show Gd d w 249 _ (1208, [some (aR 2 0), some (aR 10 k1), some (aR 21 k2), some (aR 6 k3), some (aI v4), o5, o6], [aI x1], M1)
  obtain ⟨c0, h⟩ := h
  refine gd_s (P := True ∧ True ∧ True ∧ True ∧ True ∧ True ∧ (vp_in (v4 + ((1 : Int32))) (rK M1 0).2) ∧ True) (σ1 := (1217, [some (aR 2 0), some (aR 10 k1), some (aR 21 k2), some (aR 6 k3), some (aI v4), some (aI x1), o6], [aI (rI M1 0 (v4 + ((1 : Int32))).toNatClampNeg), aR 21 k2], M1)) tc_249 rfl 7 (fun u => ⟨_, rfl⟩) ⟨trivial, trivial, trivial, trivial, trivial, trivial, c0, trivial⟩ ?_
  refine gd_callN (ml := 2) (as := [aR 21 k2, aI (rI M1 0 (v4 + ((1 : Int32))).toNatClampNeg)]) (rest := []) tc_249 rfl rfl rfl rfl rfl (by omega) (by omega) (Nat.le_of_ble_eq_true rfl) rfl (g_Mo_witness (by omega) (by omega) h) (fun r9 M2 h => ?_)
  obtain ⟨x2, rfl, h⟩ := h
  show Gd d w 249 _ (1220, [some (aR 2 0), some (aR 10 k1), some (aR 21 k2), some (aR 6 k3), some (aI v4), some (aI x1), o6], [aI x2], M2)
  refine gd_s (P := True ∧ True ∧ True) (σ1 := (1223, [some (aR 2 0), some (aR 10 k1), some (aR 21 k2), some (aR 6 k3), some (aI v4), some (aI x1), some (aI x2)], [aR 21 k2], M2)) tc_249 rfl 2 (fun u => ⟨_, rfl⟩) ⟨trivial, trivial, trivial⟩ ?_
  refine gd_callN (ml := 1) (as := [aR 21 k2]) (rest := []) tc_249 rfl rfl rfl rfl rfl (by omega) (by omega) (Nat.le_of_ble_eq_true rfl) rfl (g_Mo_thrown (by omega) (by omega) h) (fun r9 M9 h => ?_)
  obtain ⟨x3, rfl, e9, h⟩ := h
  subst M9
  show Gd d w 249 _ (1226, [some (aR 2 0), some (aR 10 k1), some (aR 21 k2), some (aR 6 k3), some (aI v4), some (aI x1), some (aI x2)], [aI x3], M2)
  refine gd_s (P := True ∧ True) (σ1 := (1228, [some (aR 2 0), some (aR 10 k1), some (aR 21 k2), some (aR 6 k3), some (aI v4), some (aI x1), some (aI x2)], [aI x1, aI x3], M2)) tc_249 rfl 1 (fun u => ⟨_, rfl⟩) ⟨trivial, trivial⟩ ?_
  refine gd_br (c := x3 = x1) (st1 := []) tc_249 rfl rfl (fun _ => rfl) ⟨fun hc => ?_, fun hc => ?_⟩
  · have h := h.1 hc
    show Gd d w 249 _ (1233, [some (aR 2 0), some (aR 10 k1), some (aR 21 k2), some (aR 6 k3), some (aI v4), some (aI x1), some (aI x2)], [], M2)
    refine gd_s (P := True ∧ True) (σ1 := (1235, [some (aR 2 0), some (aR 10 k1), some (aR 21 k2), some (aR 6 k3), some (aI v4), some (aI x1), some (aI x2)], [aI x1], M2)) tc_249 rfl 1 (fun u => ⟨_, rfl⟩) ⟨trivial, trivial⟩ ?_
    refine gd_br (c := ¬ x1 = ((0 : Int32))) (st1 := []) tc_249 rfl rfl (fun _ => rfl) ⟨fun hc => ?_, fun hc => ?_⟩
    · have h := h.1 hc
      show Gd d w 249 _ (1250, [some (aR 2 0), some (aR 10 k1), some (aR 21 k2), some (aR 6 k3), some (aI v4), some (aI x1), some (aI x2)], [], M2)
      refine gd_s (P := True ∧ True ∧ True ∧ True) (σ1 := (23, [some (aR 2 0), some (aR 10 k1), some (aR 21 k2), some (aR 6 k3), some (aI (v4 + (6 : Int32))), some (aI x1), some (aI x2)], [], M2)) tc_249 rfl 3 (fun u => ⟨_, rfl⟩) ⟨trivial, trivial, trivial, trivial⟩ ?_
      exact hK23 k1 k2 k3 (v4 + (6 : Int32)) (some (aI x1)) (some (aI x2)) M2 h
    · have h := h.2 hc
      show Gd d w 249 _ (1238, [some (aR 2 0), some (aR 10 k1), some (aR 21 k2), some (aR 6 k3), some (aI v4), some (aI x1), some (aI x2)], [], M2)
      obtain ⟨c0, h⟩ := h
      refine gd_s (P := True ∧ True ∧ (vp_in ((0 : Int32)) (rK M2 k3).2) ∧ True ∧ True ∧ True ∧ True) (σ1 := (1245, [some (aR 2 0), some (aR 10 k1), some (aR 21 k2), some (aR 6 k3), some (aI v4), some (aI x1), some (aI x2)], [aI (lg_cmp (rJ M2 k3 ((0 : Int32)).toNatClampNeg) x2.toInt64)], M2)) tc_249 rfl 6 (fun u => ⟨_, rfl⟩) ⟨trivial, trivial, c0, trivial, trivial, trivial, trivial⟩ ?_
      refine gd_br (c := (lg_cmp (rJ M2 k3 ((0 : Int32)).toNatClampNeg) x2.toInt64) = ((0 : Int32))) (st1 := []) tc_249 rfl rfl (fun _ => rfl) ⟨fun hc => ?_, fun hc => ?_⟩
      · have h := h.1 hc
        show Gd d w 249 _ (1250, [some (aR 2 0), some (aR 10 k1), some (aR 21 k2), some (aR 6 k3), some (aI v4), some (aI x1), some (aI x2)], [], M2)
        refine gd_s (P := True ∧ True ∧ True ∧ True) (σ1 := (23, [some (aR 2 0), some (aR 10 k1), some (aR 21 k2), some (aR 6 k3), some (aI (v4 + (6 : Int32))), some (aI x1), some (aI x2)], [], M2)) tc_249 rfl 3 (fun u => ⟨_, rfl⟩) ⟨trivial, trivial, trivial, trivial⟩ ?_
        exact hK23 k1 k2 k3 (v4 + (6 : Int32)) (some (aI x1)) (some (aI x2)) M2 h
      · have h := h.2 hc
        show Gd d w 249 _ (1248, [some (aR 2 0), some (aR 10 k1), some (aR 21 k2), some (aR 6 k3), some (aI v4), some (aI x1), some (aI x2)], [], M2)
        refine gd_s (P := True ∧ True) (σ1 := (1249, [some (aR 2 0), some (aR 10 k1), some (aR 21 k2), some (aR 6 k3), some (aI v4), some (aI x1), some (aI x2)], [aI ((0 : Int32))], M2)) tc_249 rfl 1 (fun u => ⟨_, rfl⟩) ⟨trivial, trivial⟩ ?_
        exact gd_ret tc_249 rfl rfl h.1 (fun _ => rfl) ⟨_, rfl, h.2⟩
  · have h := h.2 hc
    show Gd d w 249 _ (1231, [some (aR 2 0), some (aR 10 k1), some (aR 21 k2), some (aR 6 k3), some (aI v4), some (aI x1), some (aI x2)], [], M2)
    refine gd_s (P := True ∧ True) (σ1 := (1232, [some (aR 2 0), some (aR 10 k1), some (aR 21 k2), some (aR 6 k3), some (aI v4), some (aI x1), some (aI x2)], [aI ((0 : Int32))], M2)) tc_249 rfl 1 (fun u => ⟨_, rfl⟩) ⟨trivial, trivial⟩ ?_
    exact gd_ret tc_249 rfl rfl h.1 (fun _ => rfl) ⟨_, rfl, h.2⟩
def w_La_law_J1253 (post : Int32 → aM → Prop) (K23 : Nat → Nat → Nat → Int32 → aM → Prop) (k1 : Nat) (k2 : Nat) (k3 : Nat) (v4 : Int32) (M : aM) : Prop := (vp_in (v4 + ((1 : Int32))) (rK M 0).2) ∧ (0 < aN M ∧ w_La_print (fun x1 M1 => (vp_in (v4 + ((1 : Int32))) (rK M1 0).2) ∧ (w_Mo_print (fun x2 M2 => w_Mo_thrown (fun x3 => ((x3 = x1) → ((¬ x1 = ((0 : Int32))) → K23 k1 k2 k3 (v4 + (6 : Int32)) M2) ∧ (¬ (¬ x1 = ((0 : Int32))) → (vp_in ((0 : Int32)) (rK M2 k3).2) ∧ ((((lg_cmp (rJ M2 k3 ((0 : Int32)).toNatClampNeg) x2.toInt64) = ((0 : Int32))) → K23 k1 k2 k3 (v4 + (6 : Int32)) M2) ∧ (¬ ((lg_cmp (rJ M2 k3 ((0 : Int32)).toNatClampNeg) x2.toInt64) = ((0 : Int32))) → (((0 : Int32)) = 0 ∨ ((0 : Int32)) = 1) ∧ post ((0 : Int32)) M2)))) ∧ (¬ (x3 = x1) → (((0 : Int32)) = 0 ∨ ((0 : Int32)) = 1) ∧ post ((0 : Int32)) M2)) k2 M2) k2 (rI M1 0 (v4 + ((1 : Int32))).toNatClampNeg) M1)) k1 (rI M 0 (v4 + ((1 : Int32))).toNatClampNeg) k3 M)
theorem g_La_law_J1253 {d w : Nat} (hd : 159 ≤ d) (hw : 4253 ≤ w) {post : Int32 → aM → Prop} {K23 : Nat → Nat → Nat → Int32 → aM → Prop} (hK23 : ∀ (k1 : Nat) (k2 : Nat) (k3 : Nat) (v4 : Int32) (o5 o6 : Option aV) (M : aM), K23 k1 k2 k3 v4 M → Gd d w 249 (pI post) (23, [some (aR 2 0), some (aR 10 k1), some (aR 21 k2), some (aR 6 k3), some (aI v4), o5, o6], [], M)) (k1 : Nat) (k2 : Nat) (k3 : Nat) (v4 : Int32) (o5 o6 : Option aV) (M : aM) (h : w_La_law_J1253 post K23 k1 k2 k3 v4 M) : Gd d w 249 (pI post) (1253, [some (aR 2 0), some (aR 10 k1), some (aR 21 k2), some (aR 6 k3), some (aI v4), o5, o6], [], M) := by
  unfold w_La_law_J1253 at h
  show Gd d w 249 _ (1253, [some (aR 2 0), some (aR 10 k1), some (aR 21 k2), some (aR 6 k3), some (aI v4), o5, o6], [], M)
  obtain ⟨c0, h⟩ := h
  refine gd_s (P := True ∧ True ∧ True ∧ True ∧ True ∧ (vp_in (v4 + ((1 : Int32))) (rK M 0).2) ∧ True ∧ True) (σ1 := (1261, [some (aR 2 0), some (aR 10 k1), some (aR 21 k2), some (aR 6 k3), some (aI v4), o5, o6], [aR 6 k3, aI (rI M 0 (v4 + ((1 : Int32))).toNatClampNeg), aR 10 k1], M)) tc_249 rfl 7 (fun u => ⟨_, rfl⟩) ⟨trivial, trivial, trivial, trivial, trivial, c0, trivial, trivial⟩ ?_
  obtain ⟨hN, h⟩ := h
  refine gd_callN (ml := 4) (as := [aR 10 k1, aI (rI M 0 (v4 + ((1 : Int32))).toNatClampNeg), aR 6 k3]) (rest := []) tc_249 rfl rfl rfl rfl rfl (by omega) (by omega) (Nat.le_of_ble_eq_true rfl) rfl (g_La_print (by omega) (by omega) hN h) (fun r9 M1 h => ?_)
  obtain ⟨x1, rfl, h⟩ := h
  show Gd d w 249 _ (1264, [some (aR 2 0), some (aR 10 k1), some (aR 21 k2), some (aR 6 k3), some (aI v4), o5, o6], [aI x1], M1)
  obtain ⟨c0, h⟩ := h
  refine gd_s (P := True ∧ True ∧ True ∧ True ∧ True ∧ True ∧ (vp_in (v4 + ((1 : Int32))) (rK M1 0).2) ∧ True) (σ1 := (1273, [some (aR 2 0), some (aR 10 k1), some (aR 21 k2), some (aR 6 k3), some (aI v4), some (aI x1), o6], [aI (rI M1 0 (v4 + ((1 : Int32))).toNatClampNeg), aR 21 k2], M1)) tc_249 rfl 7 (fun u => ⟨_, rfl⟩) ⟨trivial, trivial, trivial, trivial, trivial, trivial, c0, trivial⟩ ?_
  refine gd_callN (ml := 5) (as := [aR 21 k2, aI (rI M1 0 (v4 + ((1 : Int32))).toNatClampNeg)]) (rest := []) tc_249 rfl rfl rfl rfl rfl (by omega) (by omega) (Nat.le_of_ble_eq_true rfl) rfl (g_Mo_print (by omega) (by omega) h) (fun r9 M2 h => ?_)
  obtain ⟨x2, rfl, h⟩ := h
  show Gd d w 249 _ (1276, [some (aR 2 0), some (aR 10 k1), some (aR 21 k2), some (aR 6 k3), some (aI v4), some (aI x1), o6], [aI x2], M2)
  refine gd_s (P := True ∧ True ∧ True) (σ1 := (1279, [some (aR 2 0), some (aR 10 k1), some (aR 21 k2), some (aR 6 k3), some (aI v4), some (aI x1), some (aI x2)], [aR 21 k2], M2)) tc_249 rfl 2 (fun u => ⟨_, rfl⟩) ⟨trivial, trivial, trivial⟩ ?_
  refine gd_callN (ml := 1) (as := [aR 21 k2]) (rest := []) tc_249 rfl rfl rfl rfl rfl (by omega) (by omega) (Nat.le_of_ble_eq_true rfl) rfl (g_Mo_thrown (by omega) (by omega) h) (fun r9 M9 h => ?_)
  obtain ⟨x3, rfl, e9, h⟩ := h
  subst M9
  show Gd d w 249 _ (1282, [some (aR 2 0), some (aR 10 k1), some (aR 21 k2), some (aR 6 k3), some (aI v4), some (aI x1), some (aI x2)], [aI x3], M2)
  refine gd_s (P := True ∧ True) (σ1 := (1284, [some (aR 2 0), some (aR 10 k1), some (aR 21 k2), some (aR 6 k3), some (aI v4), some (aI x1), some (aI x2)], [aI x1, aI x3], M2)) tc_249 rfl 1 (fun u => ⟨_, rfl⟩) ⟨trivial, trivial⟩ ?_
  refine gd_br (c := x3 = x1) (st1 := []) tc_249 rfl rfl (fun _ => rfl) ⟨fun hc => ?_, fun hc => ?_⟩
  · have h := h.1 hc
    show Gd d w 249 _ (1289, [some (aR 2 0), some (aR 10 k1), some (aR 21 k2), some (aR 6 k3), some (aI v4), some (aI x1), some (aI x2)], [], M2)
    refine gd_s (P := True ∧ True) (σ1 := (1291, [some (aR 2 0), some (aR 10 k1), some (aR 21 k2), some (aR 6 k3), some (aI v4), some (aI x1), some (aI x2)], [aI x1], M2)) tc_249 rfl 1 (fun u => ⟨_, rfl⟩) ⟨trivial, trivial⟩ ?_
    refine gd_br (c := ¬ x1 = ((0 : Int32))) (st1 := []) tc_249 rfl rfl (fun _ => rfl) ⟨fun hc => ?_, fun hc => ?_⟩
    · have h := h.1 hc
      show Gd d w 249 _ (1306, [some (aR 2 0), some (aR 10 k1), some (aR 21 k2), some (aR 6 k3), some (aI v4), some (aI x1), some (aI x2)], [], M2)
      refine gd_s (P := True ∧ True ∧ True ∧ True) (σ1 := (23, [some (aR 2 0), some (aR 10 k1), some (aR 21 k2), some (aR 6 k3), some (aI (v4 + (6 : Int32))), some (aI x1), some (aI x2)], [], M2)) tc_249 rfl 3 (fun u => ⟨_, rfl⟩) ⟨trivial, trivial, trivial, trivial⟩ ?_
      exact hK23 k1 k2 k3 (v4 + (6 : Int32)) (some (aI x1)) (some (aI x2)) M2 h
    · have h := h.2 hc
      show Gd d w 249 _ (1294, [some (aR 2 0), some (aR 10 k1), some (aR 21 k2), some (aR 6 k3), some (aI v4), some (aI x1), some (aI x2)], [], M2)
      obtain ⟨c0, h⟩ := h
      refine gd_s (P := True ∧ True ∧ (vp_in ((0 : Int32)) (rK M2 k3).2) ∧ True ∧ True ∧ True ∧ True) (σ1 := (1301, [some (aR 2 0), some (aR 10 k1), some (aR 21 k2), some (aR 6 k3), some (aI v4), some (aI x1), some (aI x2)], [aI (lg_cmp (rJ M2 k3 ((0 : Int32)).toNatClampNeg) x2.toInt64)], M2)) tc_249 rfl 6 (fun u => ⟨_, rfl⟩) ⟨trivial, trivial, c0, trivial, trivial, trivial, trivial⟩ ?_
      refine gd_br (c := (lg_cmp (rJ M2 k3 ((0 : Int32)).toNatClampNeg) x2.toInt64) = ((0 : Int32))) (st1 := []) tc_249 rfl rfl (fun _ => rfl) ⟨fun hc => ?_, fun hc => ?_⟩
      · have h := h.1 hc
        show Gd d w 249 _ (1306, [some (aR 2 0), some (aR 10 k1), some (aR 21 k2), some (aR 6 k3), some (aI v4), some (aI x1), some (aI x2)], [], M2)
        refine gd_s (P := True ∧ True ∧ True ∧ True) (σ1 := (23, [some (aR 2 0), some (aR 10 k1), some (aR 21 k2), some (aR 6 k3), some (aI (v4 + (6 : Int32))), some (aI x1), some (aI x2)], [], M2)) tc_249 rfl 3 (fun u => ⟨_, rfl⟩) ⟨trivial, trivial, trivial, trivial⟩ ?_
        exact hK23 k1 k2 k3 (v4 + (6 : Int32)) (some (aI x1)) (some (aI x2)) M2 h
      · have h := h.2 hc
        show Gd d w 249 _ (1304, [some (aR 2 0), some (aR 10 k1), some (aR 21 k2), some (aR 6 k3), some (aI v4), some (aI x1), some (aI x2)], [], M2)
        refine gd_s (P := True ∧ True) (σ1 := (1305, [some (aR 2 0), some (aR 10 k1), some (aR 21 k2), some (aR 6 k3), some (aI v4), some (aI x1), some (aI x2)], [aI ((0 : Int32))], M2)) tc_249 rfl 1 (fun u => ⟨_, rfl⟩) ⟨trivial, trivial⟩ ?_
        exact gd_ret tc_249 rfl rfl h.1 (fun _ => rfl) ⟨_, rfl, h.2⟩
  · have h := h.2 hc
    show Gd d w 249 _ (1287, [some (aR 2 0), some (aR 10 k1), some (aR 21 k2), some (aR 6 k3), some (aI v4), some (aI x1), some (aI x2)], [], M2)
    refine gd_s (P := True ∧ True) (σ1 := (1288, [some (aR 2 0), some (aR 10 k1), some (aR 21 k2), some (aR 6 k3), some (aI v4), some (aI x1), some (aI x2)], [aI ((0 : Int32))], M2)) tc_249 rfl 1 (fun u => ⟨_, rfl⟩) ⟨trivial, trivial⟩ ?_
    exact gd_ret tc_249 rfl rfl h.1 (fun _ => rfl) ⟨_, rfl, h.2⟩
def w_La_law_J1309 (post : Int32 → aM → Prop) (K23 : Nat → Nat → Nat → Int32 → aM → Prop) (k1 : Nat) (k2 : Nat) (k3 : Nat) (v4 : Int32) (M : aM) : Prop := (vp_in (v4 + ((1 : Int32))) (rK M 0).2) ∧ (0 < aN M ∧ w_La_out (fun x1 M1 => (vp_in (v4 + ((1 : Int32))) (rK M1 0).2) ∧ (w_Mo_out (fun x2 M2 => w_Mo_thrown (fun x3 => ((x3 = x1) → ((¬ x1 = ((0 : Int32))) → K23 k1 k2 k3 (v4 + (6 : Int32)) M2) ∧ (¬ (¬ x1 = ((0 : Int32))) → (vp_in ((0 : Int32)) (rK M2 k3).2) ∧ ((((lg_cmp (rJ M2 k3 ((0 : Int32)).toNatClampNeg) x2.toInt64) = ((0 : Int32))) → K23 k1 k2 k3 (v4 + (6 : Int32)) M2) ∧ (¬ ((lg_cmp (rJ M2 k3 ((0 : Int32)).toNatClampNeg) x2.toInt64) = ((0 : Int32))) → (((0 : Int32)) = 0 ∨ ((0 : Int32)) = 1) ∧ post ((0 : Int32)) M2)))) ∧ (¬ (x3 = x1) → (((0 : Int32)) = 0 ∨ ((0 : Int32)) = 1) ∧ post ((0 : Int32)) M2)) k2 M2) k2 (rI M1 0 (v4 + ((1 : Int32))).toNatClampNeg) M1)) k1 (rI M 0 (v4 + ((1 : Int32))).toNatClampNeg) k3 M)
theorem g_La_law_J1309 {d w : Nat} (hd : 159 ≤ d) (hw : 4253 ≤ w) {post : Int32 → aM → Prop} {K23 : Nat → Nat → Nat → Int32 → aM → Prop} (hK23 : ∀ (k1 : Nat) (k2 : Nat) (k3 : Nat) (v4 : Int32) (o5 o6 : Option aV) (M : aM), K23 k1 k2 k3 v4 M → Gd d w 249 (pI post) (23, [some (aR 2 0), some (aR 10 k1), some (aR 21 k2), some (aR 6 k3), some (aI v4), o5, o6], [], M)) (k1 : Nat) (k2 : Nat) (k3 : Nat) (v4 : Int32) (o5 o6 : Option aV) (M : aM) (h : w_La_law_J1309 post K23 k1 k2 k3 v4 M) : Gd d w 249 (pI post) (1309, [some (aR 2 0), some (aR 10 k1), some (aR 21 k2), some (aR 6 k3), some (aI v4), o5, o6], [], M) := by
  unfold w_La_law_J1309 at h
  show Gd d w 249 _ (1309, [some (aR 2 0), some (aR 10 k1), some (aR 21 k2), some (aR 6 k3), some (aI v4), o5, o6], [], M)
  obtain ⟨c0, h⟩ := h
  refine gd_s (P := True ∧ True ∧ True ∧ True ∧ True ∧ (vp_in (v4 + ((1 : Int32))) (rK M 0).2) ∧ True ∧ True) (σ1 := (1317, [some (aR 2 0), some (aR 10 k1), some (aR 21 k2), some (aR 6 k3), some (aI v4), o5, o6], [aR 6 k3, aI (rI M 0 (v4 + ((1 : Int32))).toNatClampNeg), aR 10 k1], M)) tc_249 rfl 7 (fun u => ⟨_, rfl⟩) ⟨trivial, trivial, trivial, trivial, trivial, c0, trivial, trivial⟩ ?_
  obtain ⟨hN, h⟩ := h
  refine gd_callN (ml := 4) (as := [aR 10 k1, aI (rI M 0 (v4 + ((1 : Int32))).toNatClampNeg), aR 6 k3]) (rest := []) tc_249 rfl rfl rfl rfl rfl (by omega) (by omega) (Nat.le_of_ble_eq_true rfl) rfl (g_La_out (by omega) (by omega) hN h) (fun r9 M1 h => ?_)
  obtain ⟨x1, rfl, h⟩ := h
  show Gd d w 249 _ (1320, [some (aR 2 0), some (aR 10 k1), some (aR 21 k2), some (aR 6 k3), some (aI v4), o5, o6], [aI x1], M1)
  obtain ⟨c0, h⟩ := h
  refine gd_s (P := True ∧ True ∧ True ∧ True ∧ True ∧ True ∧ (vp_in (v4 + ((1 : Int32))) (rK M1 0).2) ∧ True) (σ1 := (1329, [some (aR 2 0), some (aR 10 k1), some (aR 21 k2), some (aR 6 k3), some (aI v4), some (aI x1), o6], [aI (rI M1 0 (v4 + ((1 : Int32))).toNatClampNeg), aR 21 k2], M1)) tc_249 rfl 7 (fun u => ⟨_, rfl⟩) ⟨trivial, trivial, trivial, trivial, trivial, trivial, c0, trivial⟩ ?_
  refine gd_callN (ml := 2) (as := [aR 21 k2, aI (rI M1 0 (v4 + ((1 : Int32))).toNatClampNeg)]) (rest := []) tc_249 rfl rfl rfl rfl rfl (by omega) (by omega) (Nat.le_of_ble_eq_true rfl) rfl (g_Mo_out (by omega) (by omega) h) (fun r9 M2 h => ?_)
  obtain ⟨x2, rfl, h⟩ := h
  show Gd d w 249 _ (1332, [some (aR 2 0), some (aR 10 k1), some (aR 21 k2), some (aR 6 k3), some (aI v4), some (aI x1), o6], [aI x2], M2)
  refine gd_s (P := True ∧ True ∧ True) (σ1 := (1335, [some (aR 2 0), some (aR 10 k1), some (aR 21 k2), some (aR 6 k3), some (aI v4), some (aI x1), some (aI x2)], [aR 21 k2], M2)) tc_249 rfl 2 (fun u => ⟨_, rfl⟩) ⟨trivial, trivial, trivial⟩ ?_
  refine gd_callN (ml := 1) (as := [aR 21 k2]) (rest := []) tc_249 rfl rfl rfl rfl rfl (by omega) (by omega) (Nat.le_of_ble_eq_true rfl) rfl (g_Mo_thrown (by omega) (by omega) h) (fun r9 M9 h => ?_)
  obtain ⟨x3, rfl, e9, h⟩ := h
  subst M9
  show Gd d w 249 _ (1338, [some (aR 2 0), some (aR 10 k1), some (aR 21 k2), some (aR 6 k3), some (aI v4), some (aI x1), some (aI x2)], [aI x3], M2)
  refine gd_s (P := True ∧ True) (σ1 := (1340, [some (aR 2 0), some (aR 10 k1), some (aR 21 k2), some (aR 6 k3), some (aI v4), some (aI x1), some (aI x2)], [aI x1, aI x3], M2)) tc_249 rfl 1 (fun u => ⟨_, rfl⟩) ⟨trivial, trivial⟩ ?_
  refine gd_br (c := x3 = x1) (st1 := []) tc_249 rfl rfl (fun _ => rfl) ⟨fun hc => ?_, fun hc => ?_⟩
  · have h := h.1 hc
    show Gd d w 249 _ (1345, [some (aR 2 0), some (aR 10 k1), some (aR 21 k2), some (aR 6 k3), some (aI v4), some (aI x1), some (aI x2)], [], M2)
    refine gd_s (P := True ∧ True) (σ1 := (1347, [some (aR 2 0), some (aR 10 k1), some (aR 21 k2), some (aR 6 k3), some (aI v4), some (aI x1), some (aI x2)], [aI x1], M2)) tc_249 rfl 1 (fun u => ⟨_, rfl⟩) ⟨trivial, trivial⟩ ?_
    refine gd_br (c := ¬ x1 = ((0 : Int32))) (st1 := []) tc_249 rfl rfl (fun _ => rfl) ⟨fun hc => ?_, fun hc => ?_⟩
    · have h := h.1 hc
      show Gd d w 249 _ (1362, [some (aR 2 0), some (aR 10 k1), some (aR 21 k2), some (aR 6 k3), some (aI v4), some (aI x1), some (aI x2)], [], M2)
      refine gd_s (P := True ∧ True ∧ True ∧ True) (σ1 := (23, [some (aR 2 0), some (aR 10 k1), some (aR 21 k2), some (aR 6 k3), some (aI (v4 + (6 : Int32))), some (aI x1), some (aI x2)], [], M2)) tc_249 rfl 3 (fun u => ⟨_, rfl⟩) ⟨trivial, trivial, trivial, trivial⟩ ?_
      exact hK23 k1 k2 k3 (v4 + (6 : Int32)) (some (aI x1)) (some (aI x2)) M2 h
    · have h := h.2 hc
      show Gd d w 249 _ (1350, [some (aR 2 0), some (aR 10 k1), some (aR 21 k2), some (aR 6 k3), some (aI v4), some (aI x1), some (aI x2)], [], M2)
      obtain ⟨c0, h⟩ := h
      refine gd_s (P := True ∧ True ∧ (vp_in ((0 : Int32)) (rK M2 k3).2) ∧ True ∧ True ∧ True ∧ True) (σ1 := (1357, [some (aR 2 0), some (aR 10 k1), some (aR 21 k2), some (aR 6 k3), some (aI v4), some (aI x1), some (aI x2)], [aI (lg_cmp (rJ M2 k3 ((0 : Int32)).toNatClampNeg) x2.toInt64)], M2)) tc_249 rfl 6 (fun u => ⟨_, rfl⟩) ⟨trivial, trivial, c0, trivial, trivial, trivial, trivial⟩ ?_
      refine gd_br (c := (lg_cmp (rJ M2 k3 ((0 : Int32)).toNatClampNeg) x2.toInt64) = ((0 : Int32))) (st1 := []) tc_249 rfl rfl (fun _ => rfl) ⟨fun hc => ?_, fun hc => ?_⟩
      · have h := h.1 hc
        show Gd d w 249 _ (1362, [some (aR 2 0), some (aR 10 k1), some (aR 21 k2), some (aR 6 k3), some (aI v4), some (aI x1), some (aI x2)], [], M2)
        refine gd_s (P := True ∧ True ∧ True ∧ True) (σ1 := (23, [some (aR 2 0), some (aR 10 k1), some (aR 21 k2), some (aR 6 k3), some (aI (v4 + (6 : Int32))), some (aI x1), some (aI x2)], [], M2)) tc_249 rfl 3 (fun u => ⟨_, rfl⟩) ⟨trivial, trivial, trivial, trivial⟩ ?_
        exact hK23 k1 k2 k3 (v4 + (6 : Int32)) (some (aI x1)) (some (aI x2)) M2 h
      · have h := h.2 hc
        show Gd d w 249 _ (1360, [some (aR 2 0), some (aR 10 k1), some (aR 21 k2), some (aR 6 k3), some (aI v4), some (aI x1), some (aI x2)], [], M2)
        refine gd_s (P := True ∧ True) (σ1 := (1361, [some (aR 2 0), some (aR 10 k1), some (aR 21 k2), some (aR 6 k3), some (aI v4), some (aI x1), some (aI x2)], [aI ((0 : Int32))], M2)) tc_249 rfl 1 (fun u => ⟨_, rfl⟩) ⟨trivial, trivial⟩ ?_
        exact gd_ret tc_249 rfl rfl h.1 (fun _ => rfl) ⟨_, rfl, h.2⟩
  · have h := h.2 hc
    show Gd d w 249 _ (1343, [some (aR 2 0), some (aR 10 k1), some (aR 21 k2), some (aR 6 k3), some (aI v4), some (aI x1), some (aI x2)], [], M2)
    refine gd_s (P := True ∧ True) (σ1 := (1344, [some (aR 2 0), some (aR 10 k1), some (aR 21 k2), some (aR 6 k3), some (aI v4), some (aI x1), some (aI x2)], [aI ((0 : Int32))], M2)) tc_249 rfl 1 (fun u => ⟨_, rfl⟩) ⟨trivial, trivial⟩ ?_
    exact gd_ret tc_249 rfl rfl h.1 (fun _ => rfl) ⟨_, rfl, h.2⟩
def w_La_law_J1365 (post : Int32 → aM → Prop) (K23 : Nat → Nat → Nat → Int32 → aM → Prop) (k1 : Nat) (k2 : Nat) (k3 : Nat) (v4 : Int32) (M : aM) : Prop := 0 < aN M ∧ w_La_again (fun x1 M1 => w_Mo_again (fun x2 M2 => w_Mo_thrown (fun x3 => ((x3 = x1) → ((¬ x1 = ((0 : Int32))) → K23 k1 k2 k3 (v4 + (6 : Int32)) M2) ∧ (¬ (¬ x1 = ((0 : Int32))) → (vp_in ((0 : Int32)) (rK M2 k3).2) ∧ ((((lg_cmp (rJ M2 k3 ((0 : Int32)).toNatClampNeg) x2.toInt64) = ((0 : Int32))) → K23 k1 k2 k3 (v4 + (6 : Int32)) M2) ∧ (¬ ((lg_cmp (rJ M2 k3 ((0 : Int32)).toNatClampNeg) x2.toInt64) = ((0 : Int32))) → (((0 : Int32)) = 0 ∨ ((0 : Int32)) = 1) ∧ post ((0 : Int32)) M2)))) ∧ (¬ (x3 = x1) → (((0 : Int32)) = 0 ∨ ((0 : Int32)) = 1) ∧ post ((0 : Int32)) M2)) k2 M2) k2 M1) k1 k3 M
theorem g_La_law_J1365 {d w : Nat} (hd : 159 ≤ d) (hw : 4253 ≤ w) {post : Int32 → aM → Prop} {K23 : Nat → Nat → Nat → Int32 → aM → Prop} (hK23 : ∀ (k1 : Nat) (k2 : Nat) (k3 : Nat) (v4 : Int32) (o5 o6 : Option aV) (M : aM), K23 k1 k2 k3 v4 M → Gd d w 249 (pI post) (23, [some (aR 2 0), some (aR 10 k1), some (aR 21 k2), some (aR 6 k3), some (aI v4), o5, o6], [], M)) (k1 : Nat) (k2 : Nat) (k3 : Nat) (v4 : Int32) (o5 o6 : Option aV) (M : aM) (h : w_La_law_J1365 post K23 k1 k2 k3 v4 M) : Gd d w 249 (pI post) (1365, [some (aR 2 0), some (aR 10 k1), some (aR 21 k2), some (aR 6 k3), some (aI v4), o5, o6], [], M) := by
  unfold w_La_law_J1365 at h
  show Gd d w 249 _ (1365, [some (aR 2 0), some (aR 10 k1), some (aR 21 k2), some (aR 6 k3), some (aI v4), o5, o6], [], M)
  refine gd_s (P := True ∧ True ∧ True) (σ1 := (1367, [some (aR 2 0), some (aR 10 k1), some (aR 21 k2), some (aR 6 k3), some (aI v4), o5, o6], [aR 6 k3, aR 10 k1], M)) tc_249 rfl 2 (fun u => ⟨_, rfl⟩) ⟨trivial, trivial, trivial⟩ ?_
  obtain ⟨hN, h⟩ := h
  refine gd_callN (ml := 3) (as := [aR 10 k1, aR 6 k3]) (rest := []) tc_249 rfl rfl rfl rfl rfl (by omega) (by omega) (Nat.le_of_ble_eq_true rfl) rfl (g_La_again (by omega) (by omega) hN h) (fun r9 M1 h => ?_)
  obtain ⟨x1, rfl, h⟩ := h
  show Gd d w 249 _ (1370, [some (aR 2 0), some (aR 10 k1), some (aR 21 k2), some (aR 6 k3), some (aI v4), o5, o6], [aI x1], M1)
  refine gd_s (P := True ∧ True ∧ True) (σ1 := (1373, [some (aR 2 0), some (aR 10 k1), some (aR 21 k2), some (aR 6 k3), some (aI v4), some (aI x1), o6], [aR 21 k2], M1)) tc_249 rfl 2 (fun u => ⟨_, rfl⟩) ⟨trivial, trivial, trivial⟩ ?_
  refine gd_callN (ml := 2) (as := [aR 21 k2]) (rest := []) tc_249 rfl rfl rfl rfl rfl (by omega) (by omega) (Nat.le_of_ble_eq_true rfl) rfl (g_Mo_again (by omega) (by omega) h) (fun r9 M2 h => ?_)
  obtain ⟨x2, rfl, h⟩ := h
  show Gd d w 249 _ (1376, [some (aR 2 0), some (aR 10 k1), some (aR 21 k2), some (aR 6 k3), some (aI v4), some (aI x1), o6], [aI x2], M2)
  refine gd_s (P := True ∧ True ∧ True) (σ1 := (1379, [some (aR 2 0), some (aR 10 k1), some (aR 21 k2), some (aR 6 k3), some (aI v4), some (aI x1), some (aI x2)], [aR 21 k2], M2)) tc_249 rfl 2 (fun u => ⟨_, rfl⟩) ⟨trivial, trivial, trivial⟩ ?_
  refine gd_callN (ml := 1) (as := [aR 21 k2]) (rest := []) tc_249 rfl rfl rfl rfl rfl (by omega) (by omega) (Nat.le_of_ble_eq_true rfl) rfl (g_Mo_thrown (by omega) (by omega) h) (fun r9 M9 h => ?_)
  obtain ⟨x3, rfl, e9, h⟩ := h
  subst M9
  show Gd d w 249 _ (1382, [some (aR 2 0), some (aR 10 k1), some (aR 21 k2), some (aR 6 k3), some (aI v4), some (aI x1), some (aI x2)], [aI x3], M2)
  refine gd_s (P := True ∧ True) (σ1 := (1384, [some (aR 2 0), some (aR 10 k1), some (aR 21 k2), some (aR 6 k3), some (aI v4), some (aI x1), some (aI x2)], [aI x1, aI x3], M2)) tc_249 rfl 1 (fun u => ⟨_, rfl⟩) ⟨trivial, trivial⟩ ?_
  refine gd_br (c := x3 = x1) (st1 := []) tc_249 rfl rfl (fun _ => rfl) ⟨fun hc => ?_, fun hc => ?_⟩
  · have h := h.1 hc
    show Gd d w 249 _ (1389, [some (aR 2 0), some (aR 10 k1), some (aR 21 k2), some (aR 6 k3), some (aI v4), some (aI x1), some (aI x2)], [], M2)
    refine gd_s (P := True ∧ True) (σ1 := (1391, [some (aR 2 0), some (aR 10 k1), some (aR 21 k2), some (aR 6 k3), some (aI v4), some (aI x1), some (aI x2)], [aI x1], M2)) tc_249 rfl 1 (fun u => ⟨_, rfl⟩) ⟨trivial, trivial⟩ ?_
    refine gd_br (c := ¬ x1 = ((0 : Int32))) (st1 := []) tc_249 rfl rfl (fun _ => rfl) ⟨fun hc => ?_, fun hc => ?_⟩
    · have h := h.1 hc
      show Gd d w 249 _ (1406, [some (aR 2 0), some (aR 10 k1), some (aR 21 k2), some (aR 6 k3), some (aI v4), some (aI x1), some (aI x2)], [], M2)
      refine gd_s (P := True ∧ True ∧ True ∧ True) (σ1 := (23, [some (aR 2 0), some (aR 10 k1), some (aR 21 k2), some (aR 6 k3), some (aI (v4 + (6 : Int32))), some (aI x1), some (aI x2)], [], M2)) tc_249 rfl 3 (fun u => ⟨_, rfl⟩) ⟨trivial, trivial, trivial, trivial⟩ ?_
      exact hK23 k1 k2 k3 (v4 + (6 : Int32)) (some (aI x1)) (some (aI x2)) M2 h
    · have h := h.2 hc
      show Gd d w 249 _ (1394, [some (aR 2 0), some (aR 10 k1), some (aR 21 k2), some (aR 6 k3), some (aI v4), some (aI x1), some (aI x2)], [], M2)
      obtain ⟨c0, h⟩ := h
      refine gd_s (P := True ∧ True ∧ (vp_in ((0 : Int32)) (rK M2 k3).2) ∧ True ∧ True ∧ True ∧ True) (σ1 := (1401, [some (aR 2 0), some (aR 10 k1), some (aR 21 k2), some (aR 6 k3), some (aI v4), some (aI x1), some (aI x2)], [aI (lg_cmp (rJ M2 k3 ((0 : Int32)).toNatClampNeg) x2.toInt64)], M2)) tc_249 rfl 6 (fun u => ⟨_, rfl⟩) ⟨trivial, trivial, c0, trivial, trivial, trivial, trivial⟩ ?_
      refine gd_br (c := (lg_cmp (rJ M2 k3 ((0 : Int32)).toNatClampNeg) x2.toInt64) = ((0 : Int32))) (st1 := []) tc_249 rfl rfl (fun _ => rfl) ⟨fun hc => ?_, fun hc => ?_⟩
      · have h := h.1 hc
        show Gd d w 249 _ (1406, [some (aR 2 0), some (aR 10 k1), some (aR 21 k2), some (aR 6 k3), some (aI v4), some (aI x1), some (aI x2)], [], M2)
        refine gd_s (P := True ∧ True ∧ True ∧ True) (σ1 := (23, [some (aR 2 0), some (aR 10 k1), some (aR 21 k2), some (aR 6 k3), some (aI (v4 + (6 : Int32))), some (aI x1), some (aI x2)], [], M2)) tc_249 rfl 3 (fun u => ⟨_, rfl⟩) ⟨trivial, trivial, trivial, trivial⟩ ?_
        exact hK23 k1 k2 k3 (v4 + (6 : Int32)) (some (aI x1)) (some (aI x2)) M2 h
      · have h := h.2 hc
        show Gd d w 249 _ (1404, [some (aR 2 0), some (aR 10 k1), some (aR 21 k2), some (aR 6 k3), some (aI v4), some (aI x1), some (aI x2)], [], M2)
        refine gd_s (P := True ∧ True) (σ1 := (1405, [some (aR 2 0), some (aR 10 k1), some (aR 21 k2), some (aR 6 k3), some (aI v4), some (aI x1), some (aI x2)], [aI ((0 : Int32))], M2)) tc_249 rfl 1 (fun u => ⟨_, rfl⟩) ⟨trivial, trivial⟩ ?_
        exact gd_ret tc_249 rfl rfl h.1 (fun _ => rfl) ⟨_, rfl, h.2⟩
  · have h := h.2 hc
    show Gd d w 249 _ (1387, [some (aR 2 0), some (aR 10 k1), some (aR 21 k2), some (aR 6 k3), some (aI v4), some (aI x1), some (aI x2)], [], M2)
    refine gd_s (P := True ∧ True) (σ1 := (1388, [some (aR 2 0), some (aR 10 k1), some (aR 21 k2), some (aR 6 k3), some (aI v4), some (aI x1), some (aI x2)], [aI ((0 : Int32))], M2)) tc_249 rfl 1 (fun u => ⟨_, rfl⟩) ⟨trivial, trivial⟩ ?_
    exact gd_ret tc_249 rfl rfl h.1 (fun _ => rfl) ⟨_, rfl, h.2⟩
def w_La_law_L23 (post : Int32 → aM → Prop) : Nat → Nat → Nat → Nat → Int32 → aM → Prop
  | 0, _, _, _, _, _ => False
  | n + 1, k1, k2, k3, v4, M => ((((Int32.ofNat (rK M 0).2) - ((6 : Int32))) < v4) → (((1 : Int32)) = 0 ∨ ((1 : Int32)) = 1) ∧ post ((1 : Int32)) M) ∧ (¬ (((Int32.ofNat (rK M 0).2) - ((6 : Int32))) < v4) → (vp_in v4 (rK M 0).2) ∧ (((((rI M 0 v4.toNatClampNeg) &&& ((31 : Int32))) = (0 : Int32)) → w_La_law_J136 post (w_La_law_L23 post n) k1 k2 k3 v4 M) ∧ (¬ (((rI M 0 v4.toNatClampNeg) &&& ((31 : Int32))) = (0 : Int32)) → ((((rI M 0 v4.toNatClampNeg) &&& ((31 : Int32))) = (1 : Int32)) → w_La_law_J240 post (w_La_law_L23 post n) k1 k2 k3 v4 M) ∧ (¬ (((rI M 0 v4.toNatClampNeg) &&& ((31 : Int32))) = (1 : Int32)) → ((((rI M 0 v4.toNatClampNeg) &&& ((31 : Int32))) = (2 : Int32)) → w_La_law_J276 post (w_La_law_L23 post n) k1 k2 k3 v4 M) ∧ (¬ (((rI M 0 v4.toNatClampNeg) &&& ((31 : Int32))) = (2 : Int32)) → ((((rI M 0 v4.toNatClampNeg) &&& ((31 : Int32))) = (3 : Int32)) → w_La_law_J332 post (w_La_law_L23 post n) k1 k2 k3 v4 M) ∧ (¬ (((rI M 0 v4.toNatClampNeg) &&& ((31 : Int32))) = (3 : Int32)) → ((((rI M 0 v4.toNatClampNeg) &&& ((31 : Int32))) = (4 : Int32)) → w_La_law_J345 post (w_La_law_L23 post n) k1 k2 k3 v4 M) ∧ (¬ (((rI M 0 v4.toNatClampNeg) &&& ((31 : Int32))) = (4 : Int32)) → ((((rI M 0 v4.toNatClampNeg) &&& ((31 : Int32))) = (5 : Int32)) → w_La_law_J413 post (w_La_law_L23 post n) k1 k2 k3 v4 M) ∧ (¬ (((rI M 0 v4.toNatClampNeg) &&& ((31 : Int32))) = (5 : Int32)) → ((((rI M 0 v4.toNatClampNeg) &&& ((31 : Int32))) = (6 : Int32)) → w_La_law_J493 post (w_La_law_L23 post n) k1 k2 k3 v4 M) ∧ (¬ (((rI M 0 v4.toNatClampNeg) &&& ((31 : Int32))) = (6 : Int32)) → ((((rI M 0 v4.toNatClampNeg) &&& ((31 : Int32))) = (7 : Int32)) → w_La_law_J585 post (w_La_law_L23 post n) k1 k2 k3 v4 M) ∧ (¬ (((rI M 0 v4.toNatClampNeg) &&& ((31 : Int32))) = (7 : Int32)) → ((((rI M 0 v4.toNatClampNeg) &&& ((31 : Int32))) = (8 : Int32)) → w_La_law_J665 post (w_La_law_L23 post n) k1 k2 k3 v4 M) ∧ (¬ (((rI M 0 v4.toNatClampNeg) &&& ((31 : Int32))) = (8 : Int32)) → ((((rI M 0 v4.toNatClampNeg) &&& ((31 : Int32))) = (9 : Int32)) → w_La_law_J745 post (w_La_law_L23 post n) k1 k2 k3 v4 M) ∧ (¬ (((rI M 0 v4.toNatClampNeg) &&& ((31 : Int32))) = (9 : Int32)) → ((((rI M 0 v4.toNatClampNeg) &&& ((31 : Int32))) = (10 : Int32)) → w_La_law_J801 post (w_La_law_L23 post n) k1 k2 k3 v4 M) ∧ (¬ (((rI M 0 v4.toNatClampNeg) &&& ((31 : Int32))) = (10 : Int32)) → ((((rI M 0 v4.toNatClampNeg) &&& ((31 : Int32))) = (11 : Int32)) → w_La_law_J869 post (w_La_law_L23 post n) k1 k2 k3 v4 M) ∧ (¬ (((rI M 0 v4.toNatClampNeg) &&& ((31 : Int32))) = (11 : Int32)) → ((((rI M 0 v4.toNatClampNeg) &&& ((31 : Int32))) = (12 : Int32)) → w_La_law_J937 post (w_La_law_L23 post n) k1 k2 k3 v4 M) ∧ (¬ (((rI M 0 v4.toNatClampNeg) &&& ((31 : Int32))) = (12 : Int32)) → ((((rI M 0 v4.toNatClampNeg) &&& ((31 : Int32))) = (13 : Int32)) → w_La_law_J1005 post (w_La_law_L23 post n) k1 k2 k3 v4 M) ∧ (¬ (((rI M 0 v4.toNatClampNeg) &&& ((31 : Int32))) = (13 : Int32)) → ((((rI M 0 v4.toNatClampNeg) &&& ((31 : Int32))) = (14 : Int32)) → w_La_law_J1049 post (w_La_law_L23 post n) k1 k2 k3 v4 M) ∧ (¬ (((rI M 0 v4.toNatClampNeg) &&& ((31 : Int32))) = (14 : Int32)) → ((((rI M 0 v4.toNatClampNeg) &&& ((31 : Int32))) = (15 : Int32)) → w_La_law_J1117 post (w_La_law_L23 post n) k1 k2 k3 v4 M) ∧ (¬ (((rI M 0 v4.toNatClampNeg) &&& ((31 : Int32))) = (15 : Int32)) → ((((rI M 0 v4.toNatClampNeg) &&& ((31 : Int32))) = (16 : Int32)) → w_La_law_J1197 post (w_La_law_L23 post n) k1 k2 k3 v4 M) ∧ (¬ (((rI M 0 v4.toNatClampNeg) &&& ((31 : Int32))) = (16 : Int32)) → ((((rI M 0 v4.toNatClampNeg) &&& ((31 : Int32))) = (17 : Int32)) → w_La_law_J1253 post (w_La_law_L23 post n) k1 k2 k3 v4 M) ∧ (¬ (((rI M 0 v4.toNatClampNeg) &&& ((31 : Int32))) = (17 : Int32)) → ((((rI M 0 v4.toNatClampNeg) &&& ((31 : Int32))) = (18 : Int32)) → w_La_law_J1309 post (w_La_law_L23 post n) k1 k2 k3 v4 M) ∧ (¬ (((rI M 0 v4.toNatClampNeg) &&& ((31 : Int32))) = (18 : Int32)) → ((((rI M 0 v4.toNatClampNeg) &&& ((31 : Int32))) = (19 : Int32)) → w_La_law_J1365 post (w_La_law_L23 post n) k1 k2 k3 v4 M) ∧ (¬ (((rI M 0 v4.toNatClampNeg) &&& ((31 : Int32))) = (19 : Int32)) → w_La_law_L23 post n k1 k2 k3 (v4 + (6 : Int32)) M))))))))))))))))))))))
theorem g_La_law_L23 {d w : Nat} (hd : 159 ≤ d) (hw : 4253 ≤ w) {post : Int32 → aM → Prop} : ∀ (n : Nat) (k1 : Nat) (k2 : Nat) (k3 : Nat) (v4 : Int32) (o5 o6 : Option aV) (M : aM), w_La_law_L23 post n k1 k2 k3 v4 M → Gd d w 249 (pI post) (23, [some (aR 2 0), some (aR 10 k1), some (aR 21 k2), some (aR 6 k3), some (aI v4), o5, o6], [], M) := by
  intro n
  induction n with
  | zero => intro k1 k2 k3 v4 o5 o6 M h; exact h.elim
  | succ n ih =>
    intro k1 k2 k3 v4 o5 o6 M h
    show Gd d w 249 _ (23, [some (aR 2 0), some (aR 10 k1), some (aR 21 k2), some (aR 6 k3), some (aI v4), o5, o6], [], M)
    refine gd_s (P := True ∧ True ∧ True ∧ True ∧ True ∧ True) (σ1 := (30, [some (aR 2 0), some (aR 10 k1), some (aR 21 k2), some (aR 6 k3), some (aI v4), o5, o6], [aI ((Int32.ofNat (rK M 0).2) - ((6 : Int32))), aI v4], M)) tc_249 rfl 5 (fun u => ⟨_, rfl⟩) ⟨trivial, trivial, trivial, trivial, trivial, trivial⟩ ?_
    refine gd_br (c := ((Int32.ofNat (rK M 0).2) - ((6 : Int32))) < v4) (st1 := []) tc_249 rfl rfl (fun _ => rfl) ⟨fun hc => ?_, fun hc => ?_⟩
    · have h := h.1 hc
      show Gd d w 249 _ (1415, [some (aR 2 0), some (aR 10 k1), some (aR 21 k2), some (aR 6 k3), some (aI v4), o5, o6], [], M)
      refine gd_s (P := True ∧ True) (σ1 := (1416, [some (aR 2 0), some (aR 10 k1), some (aR 21 k2), some (aR 6 k3), some (aI v4), o5, o6], [aI ((1 : Int32))], M)) tc_249 rfl 1 (fun u => ⟨_, rfl⟩) ⟨trivial, trivial⟩ ?_
      exact gd_ret tc_249 rfl rfl h.1 (fun _ => rfl) ⟨_, rfl, h.2⟩
    · have h := h.2 hc
      show Gd d w 249 _ (33, [some (aR 2 0), some (aR 10 k1), some (aR 21 k2), some (aR 6 k3), some (aI v4), o5, o6], [], M)
      obtain ⟨c0, h⟩ := h
      refine gd_s (P := True ∧ True ∧ (vp_in v4 (rK M 0).2) ∧ True ∧ True ∧ True) (σ1 := (40, [some (aR 2 0), some (aR 10 k1), some (aR 21 k2), some (aR 6 k3), some (aI v4), o5, o6], [aI ((rI M 0 v4.toNatClampNeg) &&& ((31 : Int32)))], M)) tc_249 rfl 5 (fun u => ⟨_, rfl⟩) ⟨trivial, trivial, c0, trivial, trivial, trivial⟩ ?_
      refine gd_sw tc_249 rfl rfl (fun _ => rfl) ?_
      refine gd_case ⟨fun hc => ?_, fun hc => ?_⟩
      · have h := h.1 hc
        exact g_La_law_J136 hd hw ih k1 k2 k3 v4 o5 o6 M h
      have h := h.2 hc
      refine gd_case ⟨fun hc => ?_, fun hc => ?_⟩
      · have h := h.1 hc
        exact g_La_law_J240 hd hw ih k1 k2 k3 v4 o5 o6 M h
      have h := h.2 hc
      refine gd_case ⟨fun hc => ?_, fun hc => ?_⟩
      · have h := h.1 hc
        exact g_La_law_J276 hd hw ih k1 k2 k3 v4 o5 o6 M h
      have h := h.2 hc
      refine gd_case ⟨fun hc => ?_, fun hc => ?_⟩
      · have h := h.1 hc
        exact g_La_law_J332 hd hw ih k1 k2 k3 v4 o5 o6 M h
      have h := h.2 hc
      refine gd_case ⟨fun hc => ?_, fun hc => ?_⟩
      · have h := h.1 hc
        exact g_La_law_J345 hd hw ih k1 k2 k3 v4 o5 o6 M h
      have h := h.2 hc
      refine gd_case ⟨fun hc => ?_, fun hc => ?_⟩
      · have h := h.1 hc
        exact g_La_law_J413 hd hw ih k1 k2 k3 v4 o5 o6 M h
      have h := h.2 hc
      refine gd_case ⟨fun hc => ?_, fun hc => ?_⟩
      · have h := h.1 hc
        exact g_La_law_J493 hd hw ih k1 k2 k3 v4 o5 o6 M h
      have h := h.2 hc
      refine gd_case ⟨fun hc => ?_, fun hc => ?_⟩
      · have h := h.1 hc
        exact g_La_law_J585 hd hw ih k1 k2 k3 v4 o5 o6 M h
      have h := h.2 hc
      refine gd_case ⟨fun hc => ?_, fun hc => ?_⟩
      · have h := h.1 hc
        exact g_La_law_J665 hd hw ih k1 k2 k3 v4 o5 o6 M h
      have h := h.2 hc
      refine gd_case ⟨fun hc => ?_, fun hc => ?_⟩
      · have h := h.1 hc
        exact g_La_law_J745 hd hw ih k1 k2 k3 v4 o5 o6 M h
      have h := h.2 hc
      refine gd_case ⟨fun hc => ?_, fun hc => ?_⟩
      · have h := h.1 hc
        exact g_La_law_J801 hd hw ih k1 k2 k3 v4 o5 o6 M h
      have h := h.2 hc
      refine gd_case ⟨fun hc => ?_, fun hc => ?_⟩
      · have h := h.1 hc
        exact g_La_law_J869 hd hw ih k1 k2 k3 v4 o5 o6 M h
      have h := h.2 hc
      refine gd_case ⟨fun hc => ?_, fun hc => ?_⟩
      · have h := h.1 hc
        exact g_La_law_J937 hd hw ih k1 k2 k3 v4 o5 o6 M h
      have h := h.2 hc
      refine gd_case ⟨fun hc => ?_, fun hc => ?_⟩
      · have h := h.1 hc
        exact g_La_law_J1005 hd hw ih k1 k2 k3 v4 o5 o6 M h
      have h := h.2 hc
      refine gd_case ⟨fun hc => ?_, fun hc => ?_⟩
      · have h := h.1 hc
        exact g_La_law_J1049 hd hw ih k1 k2 k3 v4 o5 o6 M h
      have h := h.2 hc
      refine gd_case ⟨fun hc => ?_, fun hc => ?_⟩
      · have h := h.1 hc
        exact g_La_law_J1117 hd hw ih k1 k2 k3 v4 o5 o6 M h
      have h := h.2 hc
      refine gd_case ⟨fun hc => ?_, fun hc => ?_⟩
      · have h := h.1 hc
        exact g_La_law_J1197 hd hw ih k1 k2 k3 v4 o5 o6 M h
      have h := h.2 hc
      refine gd_case ⟨fun hc => ?_, fun hc => ?_⟩
      · have h := h.1 hc
        exact g_La_law_J1253 hd hw ih k1 k2 k3 v4 o5 o6 M h
      have h := h.2 hc
      refine gd_case ⟨fun hc => ?_, fun hc => ?_⟩
      · have h := h.1 hc
        exact g_La_law_J1309 hd hw ih k1 k2 k3 v4 o5 o6 M h
      have h := h.2 hc
      refine gd_case ⟨fun hc => ?_, fun hc => ?_⟩
      · have h := h.1 hc
        exact g_La_law_J1365 hd hw ih k1 k2 k3 v4 o5 o6 M h
      have h := h.2 hc
      show Gd d w 249 _ (1409, [some (aR 2 0), some (aR 10 k1), some (aR 21 k2), some (aR 6 k3), some (aI v4), o5, o6], [], M)
      refine gd_s (P := True ∧ True ∧ True) (σ1 := (23, [some (aR 2 0), some (aR 10 k1), some (aR 21 k2), some (aR 6 k3), some (aI (v4 + (6 : Int32))), o5, o6], [], M)) tc_249 rfl 2 (fun u => ⟨_, rfl⟩) ⟨trivial, trivial, trivial⟩ ?_
      exact ih k1 k2 k3 (v4 + (6 : Int32)) o5 o6 M h
