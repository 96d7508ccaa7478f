set_option maxRecDepth 100000
/-! Mirrors of the methods that may throw. -/
theorem tc_2 : tC 2 = c2 := rfl
/-- PolicyJudge.feed(IIIII)I -/
def w_J_feed (post : Int32 → aM → Prop) (ex : Nat → Prop) (k0 : Nat) (v1 : Int32) (v2 : Int32) (v3 : Int32) (v4 : Int32) (v5 : Int32) (M : aM) : Prop := (((rI M ((k0 + 1) + 1) 1) ≤ ((5980 : Int32))) → w_Tp_append (fun M1 => w_Tp_append (fun M2 => w_Tp_append (fun M3 => w_Tp_append (fun M4 => w_Tp_append (fun M5 => post (rI M5 ((k0 + 1) + 1) 1) M5) ((k0 + 1) + 1) v5 M4) ((k0 + 1) + 1) v4 M3) ((k0 + 1) + 1) v3 M2) ((k0 + 1) + 1) v2 M1) ((k0 + 1) + 1) v1 M) ∧ (¬ ((rI M ((k0 + 1) + 1) 1) ≤ ((5980 : Int32))) → ex 2)
theorem g_J_feed {d w : Nat} (hd : 6 ≤ d) (hw : 100 ≤ w) {post : Int32 → aM → Prop} {ex : Nat → Prop} {k0 : Nat} {v1 : Int32} {v2 : Int32} {v3 : Int32} {v4 : Int32} {v5 : Int32} {M : aM} (hN : 0 < aN M) (h : w_J_feed post ex k0 v1 v2 v3 v4 v5 M) : GxW d w 2 (pI post) ex (0, aEnt 2 [aR 10 k0, aI v1, aI v2, aI v3, aI v4, aI v5], [], M) := by
  unfold w_J_feed at h
  show GxW d w 2 _ _ (0, [some (aR 10 k0), some (aI v1), some (aI v2), some (aI v3), some (aI v4), some (aI v5), none], [], M)
  refine gxw_s (P := True ∧ True ∧ True ∧ True ∧ True ∧ True ∧ True ∧ True) (pc1 := 17) (L1 := [some (aR 10 k0), some (aI v1), some (aI v2), some (aI v3), some (aI v4), some (aI v5), some (aR 12 ((k0 + 1) + 1))]) (st1 := [aI ((5980 : Int32)), aI (rI M ((k0 + 1) + 1) 1)]) tc_2 rfl 7 rfl ⟨trivial, trivial, trivial, trivial, trivial, trivial, trivial, trivial⟩ ?_
  refine gxw_br (c := (rI M ((k0 + 1) + 1) 1) ≤ ((5980 : Int32))) (st1 := []) tc_2 rfl rfl (fun _ => rfl) ⟨fun hc => ?_, fun hc => ?_⟩
  · have h := h.1 hc
    refine gxw_d ?_
    show Gd d w 2 _ (30, [some (aR 10 k0), some (aI v1), some (aI v2), some (aI v3), some (aI v4), some (aI v5), some (aR 12 ((k0 + 1) + 1))], [], M)
    refine gd_s (P := True ∧ True ∧ True) (σ1 := (33, [some (aR 10 k0), some (aI v1), some (aI v2), some (aI v3), some (aI v4), some (aI v5), some (aR 12 ((k0 + 1) + 1))], [aI v1, aR 12 ((k0 + 1) + 1)], M)) tc_2 rfl 2 (fun u => ⟨_, rfl⟩) ⟨trivial, trivial, trivial⟩ ?_
    refine gd_callN (ml := 3) (as := [aR 12 ((k0 + 1) + 1), aI v1]) (rest := []) tc_2 rfl rfl rfl rfl rfl (by omega) (by omega) (Nat.le_of_ble_eq_true rfl) rfl (g_Tp_append (by omega) (by omega) h) (fun r9 M1 h => ?_)
    obtain ⟨rfl, h⟩ := h
    show Gd d w 2 _ (36, [some (aR 10 k0), some (aI v1), some (aI v2), some (aI v3), some (aI v4), some (aI v5), some (aR 12 ((k0 + 1) + 1))], [], M1)
    refine gd_s (P := True ∧ True ∧ True) (σ1 := (39, [some (aR 10 k0), some (aI v1), some (aI v2), some (aI v3), some (aI v4), some (aI v5), some (aR 12 ((k0 + 1) + 1))], [aI v2, aR 12 ((k0 + 1) + 1)], M1)) tc_2 rfl 2 (fun u => ⟨_, rfl⟩) ⟨trivial, trivial, trivial⟩ ?_
    refine gd_callN (ml := 3) (as := [aR 12 ((k0 + 1) + 1), aI v2]) (rest := []) tc_2 rfl rfl rfl rfl rfl (by omega) (by omega) (Nat.le_of_ble_eq_true rfl) rfl (g_Tp_append (by omega) (by omega) h) (fun r9 M2 h => ?_)
    obtain ⟨rfl, h⟩ := h
    show Gd d w 2 _ (42, [some (aR 10 k0), some (aI v1), some (aI v2), some (aI v3), some (aI v4), some (aI v5), some (aR 12 ((k0 + 1) + 1))], [], M2)
    refine gd_s (P := True ∧ True ∧ True) (σ1 := (45, [some (aR 10 k0), some (aI v1), some (aI v2), some (aI v3), some (aI v4), some (aI v5), some (aR 12 ((k0 + 1) + 1))], [aI v3, aR 12 ((k0 + 1) + 1)], M2)) tc_2 rfl 2 (fun u => ⟨_, rfl⟩) ⟨trivial, trivial, trivial⟩ ?_
    refine gd_callN (ml := 3) (as := [aR 12 ((k0 + 1) + 1), aI v3]) (rest := []) tc_2 rfl rfl rfl rfl rfl (by omega) (by omega) (Nat.le_of_ble_eq_true rfl) rfl (g_Tp_append (by omega) (by omega) h) (fun r9 M3 h => ?_)
    obtain ⟨rfl, h⟩ := h
    show Gd d w 2 _ (48, [some (aR 10 k0), some (aI v1), some (aI v2), some (aI v3), some (aI v4), some (aI v5), some (aR 12 ((k0 + 1) + 1))], [], M3)
    refine gd_s (P := True ∧ True ∧ True) (σ1 := (52, [some (aR 10 k0), some (aI v1), some (aI v2), some (aI v3), some (aI v4), some (aI v5), some (aR 12 ((k0 + 1) + 1))], [aI v4, aR 12 ((k0 + 1) + 1)], M3)) tc_2 rfl 2 (fun u => ⟨_, rfl⟩) ⟨trivial, trivial, trivial⟩ ?_
    refine gd_callN (ml := 3) (as := [aR 12 ((k0 + 1) + 1), aI v4]) (rest := []) tc_2 rfl rfl rfl rfl rfl (by omega) (by omega) (Nat.le_of_ble_eq_true rfl) rfl (g_Tp_append (by omega) (by omega) h) (fun r9 M4 h => ?_)
    obtain ⟨rfl, h⟩ := h
    show Gd d w 2 _ (55, [some (aR 10 k0), some (aI v1), some (aI v2), some (aI v3), some (aI v4), some (aI v5), some (aR 12 ((k0 + 1) + 1))], [], M4)
    refine gd_s (P := True ∧ True ∧ True) (σ1 := (59, [some (aR 10 k0), some (aI v1), some (aI v2), some (aI v3), some (aI v4), some (aI v5), some (aR 12 ((k0 + 1) + 1))], [aI v5, aR 12 ((k0 + 1) + 1)], M4)) tc_2 rfl 2 (fun u => ⟨_, rfl⟩) ⟨trivial, trivial, trivial⟩ ?_
    refine gd_callN (ml := 3) (as := [aR 12 ((k0 + 1) + 1), aI v5]) (rest := []) tc_2 rfl rfl rfl rfl rfl (by omega) (by omega) (Nat.le_of_ble_eq_true rfl) rfl (g_Tp_append (by omega) (by omega) h) (fun r9 M5 h => ?_)
    obtain ⟨rfl, h⟩ := h
    show Gd d w 2 _ (62, [some (aR 10 k0), some (aI v1), some (aI v2), some (aI v3), some (aI v4), some (aI v5), some (aR 12 ((k0 + 1) + 1))], [], M5)
    refine gd_s (P := True ∧ True ∧ True) (σ1 := (67, [some (aR 10 k0), some (aI v1), some (aI v2), some (aI v3), some (aI v4), some (aI v5), some (aR 12 ((k0 + 1) + 1))], [aI (rI M5 ((k0 + 1) + 1) 1)], M5)) tc_2 rfl 2 (fun u => ⟨_, rfl⟩) ⟨trivial, trivial, trivial⟩ ?_
    exact gd_ret tc_2 rfl rfl trivial (fun _ => rfl) ⟨_, rfl, h⟩
  · have h := h.2 hc
    show GxW d w 2 _ _ (20, [some (aR 10 k0), some (aI v1), some (aI v2), some (aI v3), some (aI v4), some (aI v5), some (aR 12 ((k0 + 1) + 1))], [], M)
    exact gxw_thr (x := 2) tc_2 rfl (by omega) (by omega) (Nat.le_of_ble_eq_true rfl) hN h
theorem tc_3 : tC 3 = c3 := rfl
/-- PolicyJudge.end(I)V -/
def w_J_end (post : aM → Prop) (ex : Nat → Prop) (k0 : Nat) (v1 : Int32) (M : aM) : Prop := ((v1 < ((0 : Int32))) → ex 1) ∧ (¬ (v1 < ((0 : Int32))) → ((v1 ≤ (rI M ((k0 + 1) + 1) 1)) → post (wI M ((k0 + 1) + 1) 1 v1)) ∧ (¬ (v1 ≤ (rI M ((k0 + 1) + 1) 1)) → ex 1))
theorem g_J_end {d w : Nat} (hd : 6 ≤ d) (hw : 100 ≤ w) {post : aM → Prop} {ex : Nat → Prop} {k0 : Nat} {v1 : Int32} {M : aM} (hN : 0 < aN M) (h : w_J_end post ex k0 v1 M) : GxW d w 3 (pV post) ex (0, aEnt 3 [aR 10 k0, aI v1], [], M) := by
  unfold w_J_end at h
  show GxW d w 3 _ _ (0, [some (aR 10 k0), some (aI v1)], [], M)
  refine gxw_s (P := True ∧ True) (pc1 := 1) (L1 := [some (aR 10 k0), some (aI v1)]) (st1 := [aI v1]) tc_3 rfl 1 rfl ⟨trivial, trivial⟩ ?_
  refine gxw_br (c := v1 < ((0 : Int32))) (st1 := []) tc_3 rfl rfl (fun _ => rfl) ⟨fun hc => ?_, fun hc => ?_⟩
  · have h := h.1 hc
    show GxW d w 3 _ _ (18, [some (aR 10 k0), some (aI v1)], [], M)
    exact gxw_thr (x := 1) tc_3 rfl (by omega) (by omega) (Nat.le_of_ble_eq_true rfl) hN h
  · have h := h.2 hc
    show GxW d w 3 _ _ (4, [some (aR 10 k0), some (aI v1)], [], M)
    refine gxw_s (P := True ∧ True ∧ True ∧ True ∧ True ∧ True) (pc1 := 15) (L1 := [some (aR 10 k0), some (aI v1)]) (st1 := [aI (rI M ((k0 + 1) + 1) 1), aI v1]) tc_3 rfl 5 rfl ⟨trivial, trivial, trivial, trivial, trivial, trivial⟩ ?_
    refine gxw_br (c := v1 ≤ (rI M ((k0 + 1) + 1) 1)) (st1 := []) tc_3 rfl rfl (fun _ => rfl) ⟨fun hc => ?_, fun hc => ?_⟩
    · have h := h.1 hc
      refine gxw_d ?_
      show Gd d w 3 _ (28, [some (aR 10 k0), some (aI v1)], [], M)
      refine gd_s (P := True ∧ True ∧ True ∧ True ∧ True ∧ True) (σ1 := (39, [some (aR 10 k0), some (aI v1)], [], wI M ((k0 + 1) + 1) 1 v1)) tc_3 rfl 5 (fun u => ⟨_, rfl⟩) ⟨trivial, trivial, trivial, trivial, trivial, trivial⟩ ?_
      exact gd_ret tc_3 rfl rfl trivial (fun _ => rfl) ⟨rfl, h⟩
    · have h := h.2 hc
      show GxW d w 3 _ _ (18, [some (aR 10 k0), some (aI v1)], [], M)
      exact gxw_thr (x := 1) tc_3 rfl (by omega) (by omega) (Nat.le_of_ble_eq_true rfl) hN h
theorem tc_5 : tC 5 = c5 := rfl
/-- PolicyJudge.checkText(I)V -/
def w_J_checkText (post : Prop) (ex : Nat → Prop) (v0 : Int32) (M : aM) : Prop := ((v0 < ((0 : Int32))) → ex 0) ∧ (¬ (v0 < ((0 : Int32))) → ((v0 < ((2 : Int32))) → post) ∧ (¬ (v0 < ((2 : Int32))) → ex 0))
theorem g_J_checkText {d w : Nat} (hd : 6 ≤ d) (hw : 100 ≤ w) {post : Prop} {ex : Nat → Prop} {v0 : Int32} {M : aM} (hN : 0 < aN M) (h : w_J_checkText post ex v0 M) : GxN d w 5 (qV post) ex (0, aEnt 5 [aI v0], [], M) := by
  unfold w_J_checkText at h
  show GxN d w 5 _ _ (0, [some (aI v0)], [], M)
  refine gxn_s (P := True ∧ True) (pc1 := 1) (L1 := [some (aI v0)]) (st1 := [aI v0]) tc_5 rfl 1 rfl ⟨trivial, trivial⟩ ?_
  refine gxn_br (c := v0 < ((0 : Int32))) (st1 := []) tc_5 rfl rfl (fun _ => rfl) ⟨fun hc => ?_, fun hc => ?_⟩
  · have h := h.1 hc
    show GxN d w 5 _ _ (9, [some (aI v0)], [], M)
    exact gxn_thr (x := 0) tc_5 rfl (by omega) (by omega) (Nat.le_of_ble_eq_true rfl) hN h
  · have h := h.2 hc
    show GxN d w 5 _ _ (4, [some (aI v0)], [], M)
    refine gxn_s (P := True ∧ True ∧ True) (pc1 := 6) (L1 := [some (aI v0)]) (st1 := [aI ((2 : Int32)), aI v0]) tc_5 rfl 2 rfl ⟨trivial, trivial, trivial⟩ ?_
    refine gxn_br (c := v0 < ((2 : Int32))) (st1 := []) tc_5 rfl rfl (fun _ => rfl) ⟨fun hc => ?_, fun hc => ?_⟩
    · have h := h.1 hc
      show GxN d w 5 _ _ (20, [some (aI v0)], [], M)
      exact gxn_ret tc_5 rfl rfl trivial (fun _ => rfl) ⟨rfl, h⟩
    · have h := h.2 hc
      show GxN d w 5 _ _ (9, [some (aI v0)], [], M)
      exact gxn_thr (x := 0) tc_5 rfl (by omega) (by omega) (Nat.le_of_ble_eq_true rfl) hN h
theorem tc_4 : tC 4 = c4 := rfl
/-- PolicyJudge.load(I)I -/
def w_J_load (post : Int32 → aM → Prop) (ex : Nat → Prop) (k0 : Nat) (v1 : Int32) (M : aM) : Prop := w_J_checkText (w_Rd_begin (fun M2 => w_Rd_readPolicy (fun M3 => (((rI M3 (k0 + 1) 1) = ((0 : Int32))) → (vp_in v1 (rK M3 (k0 + 46)).2) ∧ (w_Rd_exchange (fun y4 M4 => (vp_in v1 (rK M4 (k0 + 46)).2) ∧ (w_Sv_forget (fun M5 => (vp_in v1 (rK M5 (k0 + 46)).2) ∧ post (rI M5 ((rR M5 (k0 + 46) v1.toNatClampNeg) + 9) 0) M5) (k0 + 119) (wR M4 (k0 + 46) v1.toNatClampNeg y4))) (k0 + 1) (rR M3 (k0 + 46) v1.toNatClampNeg) M3)) ∧ (¬ ((rI M3 (k0 + 1) 1) = ((0 : Int32))) → post (((-1 : Int32)) - (rI M3 (k0 + 1) 2)) M3)) (k0 + 1) M2) (k0 + 1) M) ex v1 M
theorem g_J_load {d w : Nat} (hd : 126 ≤ d) (hw : 3502 ≤ w) {post : Int32 → aM → Prop} {ex : Nat → Prop} {k0 : Nat} {v1 : Int32} {M : aM} (hN : 0 < aN M) (h : w_J_load post ex k0 v1 M) : GxW d w 4 (pI post) ex (0, aEnt 4 [aR 10 k0, aI v1], [], M) := by
  unfold w_J_load at h
  show GxW d w 4 _ _ (0, [some (aR 10 k0), some (aI v1)], [], M)
  refine gxw_s (P := True ∧ True) (pc1 := 1) (L1 := [some (aR 10 k0), some (aI v1)]) (st1 := [aI v1]) tc_4 rfl 1 rfl ⟨trivial, trivial⟩ ?_
  refine gxw_call (ml := 1) (as := [aI v1]) (rest := []) tc_4 rfl rfl rfl rfl rfl (by omega) (by omega) (Nat.le_of_ble_eq_true rfl) rfl (by decide +kernel) (g_J_checkText (by omega) (by omega) hN h) (fun r9 h => ?_)
  obtain ⟨rfl, h⟩ := h
  refine gxw_d ?_
  show Gd d w 4 _ (4, [some (aR 10 k0), some (aI v1)], [], M)
  refine gd_s (P := True ∧ True ∧ True) (σ1 := (8, [some (aR 10 k0), some (aI v1)], [aR 11 (k0 + 1)], M)) tc_4 rfl 2 (fun u => ⟨_, rfl⟩) ⟨trivial, trivial, trivial⟩ ?_
  refine gd_callN (ml := 1) (as := [aR 11 (k0 + 1)]) (rest := []) tc_4 rfl rfl rfl rfl rfl (by omega) (by omega) (Nat.le_of_ble_eq_true rfl) rfl (g_Rd_begin (by omega) (by omega) h) (fun r9 M2 h => ?_)
  obtain ⟨rfl, h⟩ := h
  show Gd d w 4 _ (11, [some (aR 10 k0), some (aI v1)], [], M2)
  refine gd_s (P := True ∧ True ∧ True) (σ1 := (15, [some (aR 10 k0), some (aI v1)], [aR 11 (k0 + 1)], M2)) tc_4 rfl 2 (fun u => ⟨_, rfl⟩) ⟨trivial, trivial, trivial⟩ ?_
  refine gd_callN (ml := 2) (as := [aR 11 (k0 + 1)]) (rest := []) tc_4 rfl rfl rfl rfl rfl (by omega) (by omega) (Nat.le_of_ble_eq_true rfl) rfl (g_Rd_readPolicy (by omega) (by omega) h) (fun r9 M3 h => ?_)
  obtain ⟨rfl, h⟩ := h
  show Gd d w 4 _ (18, [some (aR 10 k0), some (aI v1)], [], M3)
  refine gd_s (P := True ∧ True ∧ True ∧ True) (σ1 := (25, [some (aR 10 k0), some (aI v1)], [aI (rI M3 (k0 + 1) 1)], M3)) tc_4 rfl 3 (fun u => ⟨_, rfl⟩) ⟨trivial, trivial, trivial, trivial⟩ ?_
  refine gd_br (c := (rI M3 (k0 + 1) 1) = ((0 : Int32))) (st1 := []) tc_4 rfl rfl (fun _ => rfl) ⟨fun hc => ?_, fun hc => ?_⟩
  · have h := h.1 hc
    show Gd d w 4 _ (38, [some (aR 10 k0), some (aI v1)], [], M3)
    obtain ⟨c0, h⟩ := h
    refine gd_s (P := True ∧ True ∧ True ∧ True ∧ True ∧ True ∧ True ∧ True ∧ (vp_in v1 (rK M3 (k0 + 46)).2) ∧ True) (σ1 := (53, [some (aR 10 k0), some (aI v1)], [aR 13 (rR M3 (k0 + 46) v1.toNatClampNeg), aR 11 (k0 + 1), aI v1, aR 103 (k0 + 46)], M3)) tc_4 rfl 9 (fun u => ⟨_, rfl⟩) ⟨trivial, trivial, trivial, trivial, trivial, trivial, trivial, trivial, c0, trivial⟩ ?_
    refine gd_callN (ml := 3) (as := [aR 11 (k0 + 1), aR 13 (rR M3 (k0 + 46) v1.toNatClampNeg)]) (rest := [aI v1, aR 103 (k0 + 46)]) tc_4 rfl rfl rfl rfl rfl (by omega) (by omega) (Nat.le_of_ble_eq_true rfl) rfl (g_Rd_exchange (by omega) (by omega) h) (fun r9 M4 h => ?_)
    obtain ⟨y4, rfl, h⟩ := h
    show Gd d w 4 _ (56, [some (aR 10 k0), some (aI v1)], [aR 13 y4, aI v1, aR 103 (k0 + 46)], M4)
    obtain ⟨c0, h⟩ := h
    refine gd_s (P := (vp_in v1 (rK M4 (k0 + 46)).2) ∧ True ∧ True ∧ True) (σ1 := (61, [some (aR 10 k0), some (aI v1)], [aR 19 (k0 + 119)], wR M4 (k0 + 46) v1.toNatClampNeg y4)) tc_4 rfl 3 (fun u => ⟨_, rfl⟩) ⟨c0, trivial, trivial, trivial⟩ ?_
    refine gd_callN (ml := 1) (as := [aR 19 (k0 + 119)]) (rest := []) tc_4 rfl rfl rfl rfl rfl (by omega) (by omega) (Nat.le_of_ble_eq_true rfl) rfl (g_Sv_forget (by omega) (by omega) h) (fun r9 M5 h => ?_)
    obtain ⟨rfl, h⟩ := h
    show Gd d w 4 _ (64, [some (aR 10 k0), some (aI v1)], [], M5)
    obtain ⟨c0, h⟩ := h
    refine gd_s (P := True ∧ True ∧ True ∧ (vp_in v1 (rK M5 (k0 + 46)).2) ∧ True ∧ True ∧ True) (σ1 := (76, [some (aR 10 k0), some (aI v1)], [aI (rI M5 ((rR M5 (k0 + 46) v1.toNatClampNeg) + 9) 0)], M5)) tc_4 rfl 6 (fun u => ⟨_, rfl⟩) ⟨trivial, trivial, trivial, c0, trivial, trivial, trivial⟩ ?_
    exact gd_ret tc_4 rfl rfl trivial (fun _ => rfl) ⟨_, rfl, h⟩
  · have h := h.2 hc
    show Gd d w 4 _ (28, [some (aR 10 k0), some (aI v1)], [], M3)
    refine gd_s (P := True ∧ True ∧ True ∧ True ∧ True ∧ True) (σ1 := (37, [some (aR 10 k0), some (aI v1)], [aI (((-1 : Int32)) - (rI M3 (k0 + 1) 2))], M3)) tc_4 rfl 5 (fun u => ⟨_, rfl⟩) ⟨trivial, trivial, trivial, trivial, trivial, trivial⟩ ?_
    exact gd_ret tc_4 rfl rfl trivial (fun _ => rfl) ⟨_, rfl, h⟩
theorem tc_7 : tC 7 = c7 := rfl
/-- PolicyJudge.checkIndex(II)V -/
def w_J_checkIndex (post : Prop) (ex : Nat → Prop) (v0 : Int32) (v1 : Int32) (M : aM) : Prop := ((v0 < ((0 : Int32))) → ex 0) ∧ (¬ (v0 < ((0 : Int32))) → ((v0 < v1) → post) ∧ (¬ (v0 < v1) → ex 0))
theorem g_J_checkIndex {d w : Nat} (hd : 6 ≤ d) (hw : 100 ≤ w) {post : Prop} {ex : Nat → Prop} {v0 : Int32} {v1 : Int32} {M : aM} (hN : 0 < aN M) (h : w_J_checkIndex post ex v0 v1 M) : GxN d w 7 (qV post) ex (0, aEnt 7 [aI v0, aI v1], [], M) := by
  unfold w_J_checkIndex at h
  show GxN d w 7 _ _ (0, [some (aI v0), some (aI v1)], [], M)
  refine gxn_s (P := True ∧ True) (pc1 := 1) (L1 := [some (aI v0), some (aI v1)]) (st1 := [aI v0]) tc_7 rfl 1 rfl ⟨trivial, trivial⟩ ?_
  refine gxn_br (c := v0 < ((0 : Int32))) (st1 := []) tc_7 rfl rfl (fun _ => rfl) ⟨fun hc => ?_, fun hc => ?_⟩
  · have h := h.1 hc
    show GxN d w 7 _ _ (9, [some (aI v0), some (aI v1)], [], M)
    exact gxn_thr (x := 0) tc_7 rfl (by omega) (by omega) (Nat.le_of_ble_eq_true rfl) hN h
  · have h := h.2 hc
    show GxN d w 7 _ _ (4, [some (aI v0), some (aI v1)], [], M)
    refine gxn_s (P := True ∧ True ∧ True) (pc1 := 6) (L1 := [some (aI v0), some (aI v1)]) (st1 := [aI v1, aI v0]) tc_7 rfl 2 rfl ⟨trivial, trivial, trivial⟩ ?_
    refine gxn_br (c := v0 < v1) (st1 := []) tc_7 rfl rfl (fun _ => rfl) ⟨fun hc => ?_, fun hc => ?_⟩
    · have h := h.1 hc
      show GxN d w 7 _ _ (20, [some (aI v0), some (aI v1)], [], M)
      exact gxn_ret tc_7 rfl rfl trivial (fun _ => rfl) ⟨rfl, h⟩
    · have h := h.2 hc
      show GxN d w 7 _ _ (9, [some (aI v0), some (aI v1)], [], M)
      exact gxn_thr (x := 0) tc_7 rfl (by omega) (by omega) (Nat.le_of_ble_eq_true rfl) hN h
theorem tc_6 : tC 6 = c6 := rfl
/-- PolicyJudge.count(II)I -/
def w_J_count (post : Int32 → aM → Prop) (ex : Nat → Prop) (k0 : Nat) (v1 : Int32) (v2 : Int32) (M : aM) : Prop := w_J_checkText (w_J_checkIndex ((vp_in v1 (rK M (k0 + 46)).2) ∧ (((¬ (rI M (rR M (k0 + 46) v1.toNatClampNeg) 0) = ((0 : Int32))) → ((v2 = (0 : Int32)) → post (rI M ((rR M (k0 + 46) v1.toNatClampNeg) + 1) 0) M) ∧ (¬ (v2 = (0 : Int32)) → ((v2 = (1 : Int32)) → post (rI M ((rR M (k0 + 46) v1.toNatClampNeg) + 9) 0) M) ∧ (¬ (v2 = (1 : Int32)) → ((v2 = (2 : Int32)) → post (rI M ((rR M (k0 + 46) v1.toNatClampNeg) + 24) 0) M) ∧ (¬ (v2 = (2 : Int32)) → post (rI M ((rR M (k0 + 46) v1.toNatClampNeg) + 9) 10) M)))) ∧ (¬ (¬ (rI M (rR M (k0 + 46) v1.toNatClampNeg) 0) = ((0 : Int32))) → post ((0 : Int32)) M))) ex v2 ((4 : Int32)) M) ex v1 M
theorem g_J_count {d w : Nat} (hd : 7 ≤ d) (hw : 121 ≤ w) {post : Int32 → aM → Prop} {ex : Nat → Prop} {k0 : Nat} {v1 : Int32} {v2 : Int32} {M : aM} (hN : 0 < aN M) (h : w_J_count post ex k0 v1 v2 M) : GxW d w 6 (pI post) ex (0, aEnt 6 [aR 10 k0, aI v1, aI v2], [], M) := by
  unfold w_J_count at h
  show GxW d w 6 _ _ (0, [some (aR 10 k0), some (aI v1), some (aI v2), none], [], M)
  refine gxw_s (P := True ∧ True) (pc1 := 1) (L1 := [some (aR 10 k0), some (aI v1), some (aI v2), none]) (st1 := [aI v1]) tc_6 rfl 1 rfl ⟨trivial, trivial⟩ ?_
  refine gxw_call (ml := 1) (as := [aI v1]) (rest := []) tc_6 rfl rfl rfl rfl rfl (by omega) (by omega) (Nat.le_of_ble_eq_true rfl) rfl (by decide +kernel) (g_J_checkText (by omega) (by omega) hN h) (fun r9 h => ?_)
  obtain ⟨rfl, h⟩ := h
  show GxW d w 6 _ _ (4, [some (aR 10 k0), some (aI v1), some (aI v2), none], [], M)
  refine gxw_s (P := True ∧ True ∧ True) (pc1 := 6) (L1 := [some (aR 10 k0), some (aI v1), some (aI v2), none]) (st1 := [aI ((4 : Int32)), aI v2]) tc_6 rfl 2 rfl ⟨trivial, trivial, trivial⟩ ?_
  refine gxw_call (ml := 2) (as := [aI v2, aI ((4 : Int32))]) (rest := []) tc_6 rfl rfl rfl rfl rfl (by omega) (by omega) (Nat.le_of_ble_eq_true rfl) rfl (by decide +kernel) (g_J_checkIndex (by omega) (by omega) hN h) (fun r9 h => ?_)
  obtain ⟨rfl, h⟩ := h
  refine gxw_d ?_
  show Gd d w 6 _ (9, [some (aR 10 k0), some (aI v1), some (aI v2), none], [], M)
  obtain ⟨c0, h⟩ := h
  refine gd_s (P := True ∧ True ∧ True ∧ (vp_in v1 (rK M (k0 + 46)).2) ∧ True ∧ True ∧ True ∧ True) (σ1 := (20, [some (aR 10 k0), some (aI v1), some (aI v2), some (aR 13 (rR M (k0 + 46) v1.toNatClampNeg))], [aI (rI M (rR M (k0 + 46) v1.toNatClampNeg) 0)], M)) tc_6 rfl 7 (fun u => ⟨_, rfl⟩) ⟨trivial, trivial, trivial, c0, trivial, trivial, trivial, trivial⟩ ?_
  refine gd_br (c := ¬ (rI M (rR M (k0 + 46) v1.toNatClampNeg) 0) = ((0 : Int32))) (st1 := []) tc_6 rfl rfl (fun _ => rfl) ⟨fun hc => ?_, fun hc => ?_⟩
  · have h := h.1 hc
    show Gd d w 6 _ (25, [some (aR 10 k0), some (aI v1), some (aI v2), some (aR 13 (rR M (k0 + 46) v1.toNatClampNeg))], [], M)
    refine gd_s (P := True ∧ True) (σ1 := (26, [some (aR 10 k0), some (aI v1), some (aI v2), some (aR 13 (rR M (k0 + 46) v1.toNatClampNeg))], [aI v2], M)) tc_6 rfl 1 (fun u => ⟨_, rfl⟩) ⟨trivial, trivial⟩ ?_
    refine gd_sw tc_6 rfl rfl (fun _ => rfl) ?_
    refine gd_case ⟨fun hc => ?_, fun hc => ?_⟩
    · have h := h.1 hc
      show Gd d w 6 _ (52, [some (aR 10 k0), some (aI v1), some (aI v2), some (aR 13 (rR M (k0 + 46) v1.toNatClampNeg))], [], M)
      refine gd_s (P := True ∧ True ∧ True ∧ True) (σ1 := (59, [some (aR 10 k0), some (aI v1), some (aI v2), some (aR 13 (rR M (k0 + 46) v1.toNatClampNeg))], [aI (rI M ((rR M (k0 + 46) v1.toNatClampNeg) + 1) 0)], M)) tc_6 rfl 3 (fun u => ⟨_, rfl⟩) ⟨trivial, trivial, trivial, trivial⟩ ?_
      exact gd_ret tc_6 rfl rfl trivial (fun _ => rfl) ⟨_, rfl, h⟩
    have h := h.2 hc
    refine gd_case ⟨fun hc => ?_, fun hc => ?_⟩
    · have h := h.1 hc
      show Gd d w 6 _ (60, [some (aR 10 k0), some (aI v1), some (aI v2), some (aR 13 (rR M (k0 + 46) v1.toNatClampNeg))], [], M)
      refine gd_s (P := True ∧ True ∧ True ∧ True) (σ1 := (67, [some (aR 10 k0), some (aI v1), some (aI v2), some (aR 13 (rR M (k0 + 46) v1.toNatClampNeg))], [aI (rI M ((rR M (k0 + 46) v1.toNatClampNeg) + 9) 0)], M)) tc_6 rfl 3 (fun u => ⟨_, rfl⟩) ⟨trivial, trivial, trivial, trivial⟩ ?_
      exact gd_ret tc_6 rfl rfl trivial (fun _ => rfl) ⟨_, rfl, h⟩
    have h := h.2 hc
    refine gd_case ⟨fun hc => ?_, fun hc => ?_⟩
    · have h := h.1 hc
      show Gd d w 6 _ (68, [some (aR 10 k0), some (aI v1), some (aI v2), some (aR 13 (rR M (k0 + 46) v1.toNatClampNeg))], [], M)
      refine gd_s (P := True ∧ True ∧ True ∧ True) (σ1 := (75, [some (aR 10 k0), some (aI v1), some (aI v2), some (aR 13 (rR M (k0 + 46) v1.toNatClampNeg))], [aI (rI M ((rR M (k0 + 46) v1.toNatClampNeg) + 24) 0)], M)) tc_6 rfl 3 (fun u => ⟨_, rfl⟩) ⟨trivial, trivial, trivial, trivial⟩ ?_
      exact gd_ret tc_6 rfl rfl trivial (fun _ => rfl) ⟨_, rfl, h⟩
    have h := h.2 hc
    show Gd d w 6 _ (76, [some (aR 10 k0), some (aI v1), some (aI v2), some (aR 13 (rR M (k0 + 46) v1.toNatClampNeg))], [], M)
    refine gd_s (P := True ∧ True ∧ True ∧ True) (σ1 := (83, [some (aR 10 k0), some (aI v1), some (aI v2), some (aR 13 (rR M (k0 + 46) v1.toNatClampNeg))], [aI (rI M ((rR M (k0 + 46) v1.toNatClampNeg) + 9) 10)], M)) tc_6 rfl 3 (fun u => ⟨_, rfl⟩) ⟨trivial, trivial, trivial, trivial⟩ ?_
    exact gd_ret tc_6 rfl rfl trivial (fun _ => rfl) ⟨_, rfl, h⟩
  · have h := h.2 hc
    show Gd d w 6 _ (23, [some (aR 10 k0), some (aI v1), some (aI v2), some (aR 13 (rR M (k0 + 46) v1.toNatClampNeg))], [], M)
    refine gd_s (P := True ∧ True) (σ1 := (24, [some (aR 10 k0), some (aI v1), some (aI v2), some (aR 13 (rR M (k0 + 46) v1.toNatClampNeg))], [aI ((0 : Int32))], M)) tc_6 rfl 1 (fun u => ⟨_, rfl⟩) ⟨trivial, trivial⟩ ?_
    exact gd_ret tc_6 rfl rfl trivial (fun _ => rfl) ⟨_, rfl, h⟩
theorem tc_9 : tC 9 = c9 := rfl
/-- PolicyJudge.presentText(I)LPolicyJudge$Text; -/
def w_J_presentText (post : Nat → Prop) (ex : Nat → Prop) (k0 : Nat) (v1 : Int32) (M : aM) : Prop := w_J_checkText ((vp_in v1 (rK M (k0 + 46)).2) ∧ (((¬ (rI M (rR M (k0 + 46) v1.toNatClampNeg) 0) = ((0 : Int32))) → (vp_in v1 (rK M (k0 + 46)).2) ∧ post (rR M (k0 + 46) v1.toNatClampNeg)) ∧ (¬ (¬ (rI M (rR M (k0 + 46) v1.toNatClampNeg) 0) = ((0 : Int32))) → ex 0))) ex v1 M
theorem g_J_presentText {d w : Nat} (hd : 7 ≤ d) (hw : 120 ≤ w) {post : Nat → Prop} {ex : Nat → Prop} {k0 : Nat} {v1 : Int32} {M : aM} (hN : 0 < aN M) (h : w_J_presentText post ex k0 v1 M) : GxN d w 9 (qR 13 post) ex (0, aEnt 9 [aR 10 k0, aI v1], [], M) := by
  unfold w_J_presentText at h
  show GxN d w 9 _ _ (0, [some (aR 10 k0), some (aI v1)], [], M)
  refine gxn_s (P := True ∧ True) (pc1 := 1) (L1 := [some (aR 10 k0), some (aI v1)]) (st1 := [aI v1]) tc_9 rfl 1 rfl ⟨trivial, trivial⟩ ?_
  refine gxn_call (ml := 1) (as := [aI v1]) (rest := []) tc_9 rfl rfl rfl rfl rfl (by omega) (by omega) (Nat.le_of_ble_eq_true rfl) rfl (by decide +kernel) (g_J_checkText (by omega) (by omega) hN h) (fun r9 h => ?_)
  obtain ⟨rfl, h⟩ := h
  show GxN d w 9 _ _ (4, [some (aR 10 k0), some (aI v1)], [], M)
  obtain ⟨c0, h⟩ := h
  refine gxn_s (P := True ∧ True ∧ True ∧ (vp_in v1 (rK M (k0 + 46)).2) ∧ True ∧ True) (pc1 := 13) (L1 := [some (aR 10 k0), some (aI v1)]) (st1 := [aI (rI M (rR M (k0 + 46) v1.toNatClampNeg) 0)]) tc_9 rfl 5 rfl ⟨trivial, trivial, trivial, c0, trivial, trivial⟩ ?_
  refine gxn_br (c := ¬ (rI M (rR M (k0 + 46) v1.toNatClampNeg) 0) = ((0 : Int32))) (st1 := []) tc_9 rfl rfl (fun _ => rfl) ⟨fun hc => ?_, fun hc => ?_⟩
  · have h := h.1 hc
    show GxN d w 9 _ _ (27, [some (aR 10 k0), some (aI v1)], [], M)
    obtain ⟨c0, h⟩ := h
    refine gxn_s (P := True ∧ True ∧ True ∧ (vp_in v1 (rK M (k0 + 46)).2) ∧ True) (pc1 := 33) (L1 := [some (aR 10 k0), some (aI v1)]) (st1 := [aR 13 (rR M (k0 + 46) v1.toNatClampNeg)]) tc_9 rfl 4 rfl ⟨trivial, trivial, trivial, c0, trivial⟩ ?_
    exact gxn_ret tc_9 rfl rfl trivial (fun _ => rfl) ⟨_, rfl, h⟩
  · have h := h.2 hc
    show GxN d w 9 _ _ (16, [some (aR 10 k0), some (aI v1)], [], M)
    exact gxn_thr (x := 0) tc_9 rfl (by omega) (by omega) (Nat.le_of_ble_eq_true rfl) hN h
theorem tc_8 : tC 8 = c8 := rfl
/-- PolicyJudge.node(III)I -/
def w_J_node (post : Int32 → aM → Prop) (ex : Nat → Prop) (k0 : Nat) (v1 : Int32) (v2 : Int32) (v3 : Int32) (M : aM) : Prop := w_J_presentText (fun y1 => w_J_checkIndex (w_J_checkIndex (((v3 = (0 : Int32)) → (vp_in v2 (rK M ((y1 + 9) + 4)).2) ∧ post (rI M ((y1 + 9) + 4) v2.toNatClampNeg) M) ∧ (¬ (v3 = (0 : Int32)) → ((v3 = (1 : Int32)) → (vp_in v2 (rK M ((y1 + 9) + 5)).2) ∧ post (rI M ((y1 + 9) + 5) v2.toNatClampNeg) M) ∧ (¬ (v3 = (1 : Int32)) → ((v3 = (2 : Int32)) → (vp_in v2 (rK M ((y1 + 9) + 6)).2) ∧ post (rI M ((y1 + 9) + 6) v2.toNatClampNeg) M) ∧ (¬ (v3 = (2 : Int32)) → ((v3 = (3 : Int32)) → (vp_in v2 (rK M ((y1 + 9) + 9)).2) ∧ post (rI M ((y1 + 9) + 9) v2.toNatClampNeg) M) ∧ (¬ (v3 = (3 : Int32)) → ((v3 = (4 : Int32)) → (vp_in v2 (rK M ((y1 + 9) + 8)).2) ∧ post (rI M ((y1 + 9) + 8) v2.toNatClampNeg) M) ∧ (¬ (v3 = (4 : Int32)) → (vp_in v2 (rK M ((y1 + 9) + 7)).2) ∧ (((¬ (rI M ((y1 + 9) + 7) v2.toNatClampNeg) = ((-1 : Int32))) → post ((1 : Int32)) M) ∧ (¬ (¬ (rI M ((y1 + 9) + 7) v2.toNatClampNeg) = ((-1 : Int32))) → post ((0 : Int32)) M)))))))) ex v3 ((6 : Int32)) M) ex v2 (rI M (y1 + 9) 0) M) ex k0 v1 M
theorem g_J_node {d w : Nat} (hd : 8 ≤ d) (hw : 141 ≤ w) {post : Int32 → aM → Prop} {ex : Nat → Prop} {k0 : Nat} {v1 : Int32} {v2 : Int32} {v3 : Int32} {M : aM} (hN : 0 < aN M) (h : w_J_node post ex k0 v1 v2 v3 M) : GxW d w 8 (pI post) ex (0, aEnt 8 [aR 10 k0, aI v1, aI v2, aI v3], [], M) := by
  unfold w_J_node at h
  show GxW d w 8 _ _ (0, [some (aR 10 k0), some (aI v1), some (aI v2), some (aI v3), none], [], M)
  refine gxw_s (P := True ∧ True ∧ True) (pc1 := 2) (L1 := [some (aR 10 k0), some (aI v1), some (aI v2), some (aI v3), none]) (st1 := [aI v1, aR 10 k0]) tc_8 rfl 2 rfl ⟨trivial, trivial, trivial⟩ ?_
  refine gxw_call (ml := 2) (as := [aR 10 k0, aI v1]) (rest := []) tc_8 rfl rfl rfl rfl rfl (by omega) (by omega) (Nat.le_of_ble_eq_true rfl) rfl (by decide +kernel) (g_J_presentText (by omega) (by omega) hN h) (fun r9 h => ?_)
  obtain ⟨y1, rfl, h⟩ := h
  show GxW d w 8 _ _ (5, [some (aR 10 k0), some (aI v1), some (aI v2), some (aI v3), none], [aR 13 y1], M)
  refine gxw_s (P := True ∧ True ∧ True ∧ True ∧ True ∧ True) (pc1 := 16) (L1 := [some (aR 10 k0), some (aI v1), some (aI v2), some (aI v3), some (aR 16 (y1 + 9))]) (st1 := [aI (rI M (y1 + 9) 0), aI v2]) tc_8 rfl 5 rfl ⟨trivial, trivial, trivial, trivial, trivial, trivial⟩ ?_
  refine gxw_call (ml := 2) (as := [aI v2, aI (rI M (y1 + 9) 0)]) (rest := []) tc_8 rfl rfl rfl rfl rfl (by omega) (by omega) (Nat.le_of_ble_eq_true rfl) rfl (by decide +kernel) (g_J_checkIndex (by omega) (by omega) hN h) (fun r9 h => ?_)
  obtain ⟨rfl, h⟩ := h
  show GxW d w 8 _ _ (19, [some (aR 10 k0), some (aI v1), some (aI v2), some (aI v3), some (aR 16 (y1 + 9))], [], M)
  refine gxw_s (P := True ∧ True ∧ True) (pc1 := 22) (L1 := [some (aR 10 k0), some (aI v1), some (aI v2), some (aI v3), some (aR 16 (y1 + 9))]) (st1 := [aI ((6 : Int32)), aI v3]) tc_8 rfl 2 rfl ⟨trivial, trivial, trivial⟩ ?_
  refine gxw_call (ml := 2) (as := [aI v3, aI ((6 : Int32))]) (rest := []) tc_8 rfl rfl rfl rfl rfl (by omega) (by omega) (Nat.le_of_ble_eq_true rfl) rfl (by decide +kernel) (g_J_checkIndex (by omega) (by omega) hN h) (fun r9 h => ?_)
  obtain ⟨rfl, h⟩ := h
  refine gxw_d ?_
  show Gd d w 8 _ (25, [some (aR 10 k0), some (aI v1), some (aI v2), some (aI v3), some (aR 16 (y1 + 9))], [], M)
  refine gd_s (P := True ∧ True) (σ1 := (26, [some (aR 10 k0), some (aI v1), some (aI v2), some (aI v3), some (aR 16 (y1 + 9))], [aI v3], M)) tc_8 rfl 1 (fun u => ⟨_, rfl⟩) ⟨trivial, trivial⟩ ?_
  refine gd_sw tc_8 rfl rfl (fun _ => rfl) ?_
  refine gd_case ⟨fun hc => ?_, fun hc => ?_⟩
  · have h := h.1 hc
    show Gd d w 8 _ (60, [some (aR 10 k0), some (aI v1), some (aI v2), some (aI v3), some (aR 16 (y1 + 9))], [], M)
    obtain ⟨c0, h⟩ := h
    refine gd_s (P := True ∧ True ∧ True ∧ (vp_in v2 (rK M ((y1 + 9) + 4)).2) ∧ True) (σ1 := (67, [some (aR 10 k0), some (aI v1), some (aI v2), some (aI v3), some (aR 16 (y1 + 9))], [aI (rI M ((y1 + 9) + 4) v2.toNatClampNeg)], M)) tc_8 rfl 4 (fun u => ⟨_, rfl⟩) ⟨trivial, trivial, trivial, c0, trivial⟩ ?_
    exact gd_ret tc_8 rfl rfl trivial (fun _ => rfl) ⟨_, rfl, h⟩
  have h := h.2 hc
  refine gd_case ⟨fun hc => ?_, fun hc => ?_⟩
  · have h := h.1 hc
    show Gd d w 8 _ (68, [some (aR 10 k0), some (aI v1), some (aI v2), some (aI v3), some (aR 16 (y1 + 9))], [], M)
    obtain ⟨c0, h⟩ := h
    refine gd_s (P := True ∧ True ∧ True ∧ (vp_in v2 (rK M ((y1 + 9) + 5)).2) ∧ True) (σ1 := (75, [some (aR 10 k0), some (aI v1), some (aI v2), some (aI v3), some (aR 16 (y1 + 9))], [aI (rI M ((y1 + 9) + 5) v2.toNatClampNeg)], M)) tc_8 rfl 4 (fun u => ⟨_, rfl⟩) ⟨trivial, trivial, trivial, c0, trivial⟩ ?_
    exact gd_ret tc_8 rfl rfl trivial (fun _ => rfl) ⟨_, rfl, h⟩
  have h := h.2 hc
  refine gd_case ⟨fun hc => ?_, fun hc => ?_⟩
  · have h := h.1 hc
    show Gd d w 8 _ (76, [some (aR 10 k0), some (aI v1), some (aI v2), some (aI v3), some (aR 16 (y1 + 9))], [], M)
    obtain ⟨c0, h⟩ := h
    refine gd_s (P := True ∧ True ∧ True ∧ (vp_in v2 (rK M ((y1 + 9) + 6)).2) ∧ True) (σ1 := (83, [some (aR 10 k0), some (aI v1), some (aI v2), some (aI v3), some (aR 16 (y1 + 9))], [aI (rI M ((y1 + 9) + 6) v2.toNatClampNeg)], M)) tc_8 rfl 4 (fun u => ⟨_, rfl⟩) ⟨trivial, trivial, trivial, c0, trivial⟩ ?_
    exact gd_ret tc_8 rfl rfl trivial (fun _ => rfl) ⟨_, rfl, h⟩
  have h := h.2 hc
  refine gd_case ⟨fun hc => ?_, fun hc => ?_⟩
  · have h := h.1 hc
    show Gd d w 8 _ (84, [some (aR 10 k0), some (aI v1), some (aI v2), some (aI v3), some (aR 16 (y1 + 9))], [], M)
    obtain ⟨c0, h⟩ := h
    refine gd_s (P := True ∧ True ∧ True ∧ (vp_in v2 (rK M ((y1 + 9) + 9)).2) ∧ True) (σ1 := (91, [some (aR 10 k0), some (aI v1), some (aI v2), some (aI v3), some (aR 16 (y1 + 9))], [aI (rI M ((y1 + 9) + 9) v2.toNatClampNeg)], M)) tc_8 rfl 4 (fun u => ⟨_, rfl⟩) ⟨trivial, trivial, trivial, c0, trivial⟩ ?_
    exact gd_ret tc_8 rfl rfl trivial (fun _ => rfl) ⟨_, rfl, h⟩
  have h := h.2 hc
  refine gd_case ⟨fun hc => ?_, fun hc => ?_⟩
  · have h := h.1 hc
    show Gd d w 8 _ (92, [some (aR 10 k0), some (aI v1), some (aI v2), some (aI v3), some (aR 16 (y1 + 9))], [], M)
    obtain ⟨c0, h⟩ := h
    refine gd_s (P := True ∧ True ∧ True ∧ (vp_in v2 (rK M ((y1 + 9) + 8)).2) ∧ True) (σ1 := (99, [some (aR 10 k0), some (aI v1), some (aI v2), some (aI v3), some (aR 16 (y1 + 9))], [aI (rI M ((y1 + 9) + 8) v2.toNatClampNeg)], M)) tc_8 rfl 4 (fun u => ⟨_, rfl⟩) ⟨trivial, trivial, trivial, c0, trivial⟩ ?_
    exact gd_ret tc_8 rfl rfl trivial (fun _ => rfl) ⟨_, rfl, h⟩
  have h := h.2 hc
  show Gd d w 8 _ (100, [some (aR 10 k0), some (aI v1), some (aI v2), some (aI v3), some (aR 16 (y1 + 9))], [], M)
  obtain ⟨c0, h⟩ := h
  refine gd_s (P := True ∧ True ∧ True ∧ (vp_in v2 (rK M ((y1 + 9) + 7)).2) ∧ True ∧ True) (σ1 := (108, [some (aR 10 k0), some (aI v1), some (aI v2), some (aI v3), some (aR 16 (y1 + 9))], [aI ((-1 : Int32)), aI (rI M ((y1 + 9) + 7) v2.toNatClampNeg)], M)) tc_8 rfl 5 (fun u => ⟨_, rfl⟩) ⟨trivial, trivial, trivial, c0, trivial, trivial⟩ ?_
  refine gd_br (c := ¬ (rI M ((y1 + 9) + 7) v2.toNatClampNeg) = ((-1 : Int32))) (st1 := []) tc_8 rfl rfl (fun _ => rfl) ⟨fun hc => ?_, fun hc => ?_⟩
  · have h := h.1 hc
    show Gd d w 8 _ (115, [some (aR 10 k0), some (aI v1), some (aI v2), some (aI v3), some (aR 16 (y1 + 9))], [], M)
    refine gd_s (P := True ∧ True) (σ1 := (116, [some (aR 10 k0), some (aI v1), some (aI v2), some (aI v3), some (aR 16 (y1 + 9))], [aI ((1 : Int32))], M)) tc_8 rfl 1 (fun u => ⟨_, rfl⟩) ⟨trivial, trivial⟩ ?_
    exact gd_ret tc_8 rfl rfl trivial (fun _ => rfl) ⟨_, rfl, h⟩
  · have h := h.2 hc
    show Gd d w 8 _ (111, [some (aR 10 k0), some (aI v1), some (aI v2), some (aI v3), some (aR 16 (y1 + 9))], [], M)
    refine gd_s (P := True ∧ True ∧ True) (σ1 := (116, [some (aR 10 k0), some (aI v1), some (aI v2), some (aI v3), some (aR 16 (y1 + 9))], [aI ((0 : Int32))], M)) tc_8 rfl 2 (fun u => ⟨_, rfl⟩) ⟨trivial, trivial, trivial⟩ ?_
    exact gd_ret tc_8 rfl rfl trivial (fun _ => rfl) ⟨_, rfl, h⟩
theorem tc_10 : tC 10 = c10 := rfl
/-- PolicyJudge.name(IIII)I -/
def w_J_name (post : Int32 → aM → Prop) (ex : Nat → Prop) (k0 : Nat) (v1 : Int32) (v2 : Int32) (v3 : Int32) (v4 : Int32) (M : aM) : Prop := w_J_presentText (fun y1 => w_J_checkIndex (((¬ v2 = ((0 : Int32))) → w_J_checkIndex (((¬ v2 = ((0 : Int32))) → ((¬ v4 = ((-1 : Int32))) → (vp_in v3 (rK M (((y1 + 9) + 1) + 1)).2) ∧ (w_J_checkIndex (w_Nm_letter (fun x5 => post x5 M) ((y1 + 9) + 1) v3 v4 M) ex v4 (rI M (((y1 + 9) + 1) + 1) v3.toNatClampNeg) M)) ∧ (¬ (¬ v4 = ((-1 : Int32))) → (vp_in v3 (rK M (((y1 + 9) + 1) + 1)).2) ∧ post (rI M (((y1 + 9) + 1) + 1) v3.toNatClampNeg) M)) ∧ (¬ (¬ v2 = ((0 : Int32))) → ((¬ v4 = ((-1 : Int32))) → (vp_in v3 (rK M (((y1 + 1) + 1) + 1)).2) ∧ (w_J_checkIndex (w_Nm_letter (fun x7 => post x7 M) ((y1 + 1) + 1) v3 v4 M) ex v4 (rI M (((y1 + 1) + 1) + 1) v3.toNatClampNeg) M)) ∧ (¬ (¬ v4 = ((-1 : Int32))) → (vp_in v3 (rK M (((y1 + 1) + 1) + 1)).2) ∧ post (rI M (((y1 + 1) + 1) + 1) v3.toNatClampNeg) M))) ex v3 (rI M (y1 + 9) 0) M) ∧ (¬ (¬ v2 = ((0 : Int32))) → w_J_checkIndex (((¬ v2 = ((0 : Int32))) → ((¬ v4 = ((-1 : Int32))) → (vp_in v3 (rK M (((y1 + 9) + 1) + 1)).2) ∧ (w_J_checkIndex (w_Nm_letter (fun x10 => post x10 M) ((y1 + 9) + 1) v3 v4 M) ex v4 (rI M (((y1 + 9) + 1) + 1) v3.toNatClampNeg) M)) ∧ (¬ (¬ v4 = ((-1 : Int32))) → (vp_in v3 (rK M (((y1 + 9) + 1) + 1)).2) ∧ post (rI M (((y1 + 9) + 1) + 1) v3.toNatClampNeg) M)) ∧ (¬ (¬ v2 = ((0 : Int32))) → ((¬ v4 = ((-1 : Int32))) → (vp_in v3 (rK M (((y1 + 1) + 1) + 1)).2) ∧ (w_J_checkIndex (w_Nm_letter (fun x12 => post x12 M) ((y1 + 1) + 1) v3 v4 M) ex v4 (rI M (((y1 + 1) + 1) + 1) v3.toNatClampNeg) M)) ∧ (¬ (¬ v4 = ((-1 : Int32))) → (vp_in v3 (rK M (((y1 + 1) + 1) + 1)).2) ∧ post (rI M (((y1 + 1) + 1) + 1) v3.toNatClampNeg) M))) ex v3 (rI M (y1 + 1) 0) M)) ex v2 ((2 : Int32)) M) ex k0 v1 M
theorem g_J_name {d w : Nat} (hd : 8 ≤ d) (hw : 141 ≤ w) {post : Int32 → aM → Prop} {ex : Nat → Prop} {k0 : Nat} {v1 : Int32} {v2 : Int32} {v3 : Int32} {v4 : Int32} {M : aM} (hN : 0 < aN M) (h : w_J_name post ex k0 v1 v2 v3 v4 M) : GxW d w 10 (pI post) ex (0, aEnt 10 [aR 10 k0, aI v1, aI v2, aI v3, aI v4], [], M) := by
  unfold w_J_name at h
  show GxW d w 10 _ _ (0, [some (aR 10 k0), some (aI v1), some (aI v2), some (aI v3), some (aI v4), none, none], [], M)
  refine gxw_s (P := True ∧ True ∧ True) (pc1 := 2) (L1 := [some (aR 10 k0), some (aI v1), some (aI v2), some (aI v3), some (aI v4), none, none]) (st1 := [aI v1, aR 10 k0]) tc_10 rfl 2 rfl ⟨trivial, trivial, trivial⟩ ?_
  refine gxw_call (ml := 2) (as := [aR 10 k0, aI v1]) (rest := []) tc_10 rfl rfl rfl rfl rfl (by omega) (by omega) (Nat.le_of_ble_eq_true rfl) rfl (by decide +kernel) (g_J_presentText (by omega) (by omega) hN h) (fun r9 h => ?_)
  obtain ⟨y1, rfl, h⟩ := h
  show GxW d w 10 _ _ (5, [some (aR 10 k0), some (aI v1), some (aI v2), some (aI v3), some (aI v4), none, none], [aR 13 y1], M)
  refine gxw_s (P := True ∧ True ∧ True ∧ True) (pc1 := 9) (L1 := [some (aR 10 k0), some (aI v1), some (aI v2), some (aI v3), some (aI v4), some (aR 13 y1), none]) (st1 := [aI ((2 : Int32)), aI v2]) tc_10 rfl 3 rfl ⟨trivial, trivial, trivial, trivial⟩ ?_
  refine gxw_call (ml := 2) (as := [aI v2, aI ((2 : Int32))]) (rest := []) tc_10 rfl rfl rfl rfl rfl (by omega) (by omega) (Nat.le_of_ble_eq_true rfl) rfl (by decide +kernel) (g_J_checkIndex (by omega) (by omega) hN h) (fun r9 h => ?_)
  obtain ⟨rfl, h⟩ := h
  show GxW d w 10 _ _ (12, [some (aR 10 k0), some (aI v1), some (aI v2), some (aI v3), some (aI v4), some (aR 13 y1), none], [], M)
  refine gxw_s (P := True ∧ True ∧ True) (pc1 := 14) (L1 := [some (aR 10 k0), some (aI v1), some (aI v2), some (aI v3), some (aI v4), some (aR 13 y1), none]) (st1 := [aI v2, aI v3]) tc_10 rfl 2 rfl ⟨trivial, trivial, trivial⟩ ?_
  refine gxw_br (c := ¬ v2 = ((0 : Int32))) (st1 := [aI v3]) tc_10 rfl rfl (fun _ => rfl) ⟨fun hc => ?_, fun hc => ?_⟩
  · have h := h.1 hc
    show GxW d w 10 _ _ (28, [some (aR 10 k0), some (aI v1), some (aI v2), some (aI v3), some (aI v4), some (aR 13 y1), none], [aI v3], M)
    refine gxw_s (P := True ∧ True ∧ True ∧ True) (pc1 := 36) (L1 := [some (aR 10 k0), some (aI v1), some (aI v2), some (aI v3), some (aI v4), some (aR 13 y1), none]) (st1 := [aI (rI M (y1 + 9) 0), aI v3]) tc_10 rfl 3 rfl ⟨trivial, trivial, trivial, trivial⟩ ?_
    refine gxw_call (ml := 2) (as := [aI v3, aI (rI M (y1 + 9) 0)]) (rest := []) tc_10 rfl rfl rfl rfl rfl (by omega) (by omega) (Nat.le_of_ble_eq_true rfl) rfl (by decide +kernel) (g_J_checkIndex (by omega) (by omega) hN h) (fun r9 h => ?_)
    obtain ⟨rfl, h⟩ := h
    show GxW d w 10 _ _ (39, [some (aR 10 k0), some (aI v1), some (aI v2), some (aI v3), some (aI v4), some (aR 13 y1), none], [], M)
    refine gxw_s (P := True ∧ True) (pc1 := 40) (L1 := [some (aR 10 k0), some (aI v1), some (aI v2), some (aI v3), some (aI v4), some (aR 13 y1), none]) (st1 := [aI v2]) tc_10 rfl 1 rfl ⟨trivial, trivial⟩ ?_
    refine gxw_br (c := ¬ v2 = ((0 : Int32))) (st1 := []) tc_10 rfl rfl (fun _ => rfl) ⟨fun hc => ?_, fun hc => ?_⟩
    · have h := h.1 hc
      show GxW d w 10 _ _ (54, [some (aR 10 k0), some (aI v1), some (aI v2), some (aI v3), some (aI v4), some (aR 13 y1), none], [], M)
      refine gxw_s (P := True ∧ True ∧ True ∧ True ∧ True ∧ True ∧ True) (pc1 := 67) (L1 := [some (aR 10 k0), some (aI v1), some (aI v2), some (aI v3), some (aI v4), some (aR 13 y1), some (aR 15 ((y1 + 9) + 1))]) (st1 := [aI ((-1 : Int32)), aI v4]) tc_10 rfl 6 rfl ⟨trivial, trivial, trivial, trivial, trivial, trivial, trivial⟩ ?_
      refine gxw_br (c := ¬ v4 = ((-1 : Int32))) (st1 := []) tc_10 rfl rfl (fun _ => rfl) ⟨fun hc => ?_, fun hc => ?_⟩
      · have h := h.1 hc
        show GxW d w 10 _ _ (78, [some (aR 10 k0), some (aI v1), some (aI v2), some (aI v3), some (aI v4), some (aR 13 y1), some (aR 15 ((y1 + 9) + 1))], [], M)
        obtain ⟨c0, h⟩ := h
        refine gxw_s (P := True ∧ True ∧ True ∧ True ∧ (vp_in v3 (rK M (((y1 + 9) + 1) + 1)).2) ∧ True) (pc1 := 87) (L1 := [some (aR 10 k0), some (aI v1), some (aI v2), some (aI v3), some (aI v4), some (aR 13 y1), some (aR 15 ((y1 + 9) + 1))]) (st1 := [aI (rI M (((y1 + 9) + 1) + 1) v3.toNatClampNeg), aI v4]) tc_10 rfl 5 rfl ⟨trivial, trivial, trivial, trivial, c0, trivial⟩ ?_
        refine gxw_call (ml := 2) (as := [aI v4, aI (rI M (((y1 + 9) + 1) + 1) v3.toNatClampNeg)]) (rest := []) tc_10 rfl rfl rfl rfl rfl (by omega) (by omega) (Nat.le_of_ble_eq_true rfl) rfl (by decide +kernel) (g_J_checkIndex (by omega) (by omega) hN h) (fun r9 h => ?_)
        obtain ⟨rfl, h⟩ := h
        refine gxw_d ?_
        show Gd d w 10 _ (90, [some (aR 10 k0), some (aI v1), some (aI v2), some (aI v3), some (aI v4), some (aR 13 y1), some (aR 15 ((y1 + 9) + 1))], [], M)
        refine gd_s (P := True ∧ True ∧ True ∧ True) (σ1 := (95, [some (aR 10 k0), some (aI v1), some (aI v2), some (aI v3), some (aI v4), some (aR 13 y1), some (aR 15 ((y1 + 9) + 1))], [aI v4, aI v3, aR 15 ((y1 + 9) + 1)], M)) tc_10 rfl 3 (fun u => ⟨_, rfl⟩) ⟨trivial, trivial, trivial, trivial⟩ ?_
        refine gd_callN (ml := 3) (as := [aR 15 ((y1 + 9) + 1), aI v3, aI v4]) (rest := []) tc_10 rfl rfl rfl rfl rfl (by omega) (by omega) (Nat.le_of_ble_eq_true rfl) rfl (g_Nm_letter (by omega) (by omega) h) (fun r9 M9 h => ?_)
        obtain ⟨x5, rfl, e9, h⟩ := h
        subst M9
        show Gd d w 10 _ (98, [some (aR 10 k0), some (aI v1), some (aI v2), some (aI v3), some (aI v4), some (aR 13 y1), some (aR 15 ((y1 + 9) + 1))], [aI x5], M)
        exact gd_ret tc_10 rfl rfl trivial (fun _ => rfl) ⟨_, rfl, h⟩
      · have h := h.2 hc
        refine gxw_d ?_
        show Gd d w 10 _ (70, [some (aR 10 k0), some (aI v1), some (aI v2), some (aI v3), some (aI v4), some (aR 13 y1), some (aR 15 ((y1 + 9) + 1))], [], M)
        obtain ⟨c0, h⟩ := h
        refine gd_s (P := True ∧ True ∧ True ∧ (vp_in v3 (rK M (((y1 + 9) + 1) + 1)).2) ∧ True) (σ1 := (77, [some (aR 10 k0), some (aI v1), some (aI v2), some (aI v3), some (aI v4), some (aR 13 y1), some (aR 15 ((y1 + 9) + 1))], [aI (rI M (((y1 + 9) + 1) + 1) v3.toNatClampNeg)], M)) tc_10 rfl 4 (fun u => ⟨_, rfl⟩) ⟨trivial, trivial, trivial, c0, trivial⟩ ?_
        exact gd_ret tc_10 rfl rfl trivial (fun _ => rfl) ⟨_, rfl, h⟩
    · have h := h.2 hc
      show GxW d w 10 _ _ (43, [some (aR 10 k0), some (aI v1), some (aI v2), some (aI v3), some (aI v4), some (aR 13 y1), none], [], M)
      refine gxw_s (P := True ∧ True ∧ True ∧ True ∧ True ∧ True ∧ True ∧ True) (pc1 := 67) (L1 := [some (aR 10 k0), some (aI v1), some (aI v2), some (aI v3), some (aI v4), some (aR 13 y1), some (aR 15 ((y1 + 1) + 1))]) (st1 := [aI ((-1 : Int32)), aI v4]) tc_10 rfl 7 rfl ⟨trivial, trivial, trivial, trivial, trivial, trivial, trivial, trivial⟩ ?_
      refine gxw_br (c := ¬ v4 = ((-1 : Int32))) (st1 := []) tc_10 rfl rfl (fun _ => rfl) ⟨fun hc => ?_, fun hc => ?_⟩
      · have h := h.1 hc
        show GxW d w 10 _ _ (78, [some (aR 10 k0), some (aI v1), some (aI v2), some (aI v3), some (aI v4), some (aR 13 y1), some (aR 15 ((y1 + 1) + 1))], [], M)
        obtain ⟨c0, h⟩ := h
        refine gxw_s (P := True ∧ True ∧ True ∧ True ∧ (vp_in v3 (rK M (((y1 + 1) + 1) + 1)).2) ∧ True) (pc1 := 87) (L1 := [some (aR 10 k0), some (aI v1), some (aI v2), some (aI v3), some (aI v4), some (aR 13 y1), some (aR 15 ((y1 + 1) + 1))]) (st1 := [aI (rI M (((y1 + 1) + 1) + 1) v3.toNatClampNeg), aI v4]) tc_10 rfl 5 rfl ⟨trivial, trivial, trivial, trivial, c0, trivial⟩ ?_
        refine gxw_call (ml := 2) (as := [aI v4, aI (rI M (((y1 + 1) + 1) + 1) v3.toNatClampNeg)]) (rest := []) tc_10 rfl rfl rfl rfl rfl (by omega) (by omega) (Nat.le_of_ble_eq_true rfl) rfl (by decide +kernel) (g_J_checkIndex (by omega) (by omega) hN h) (fun r9 h => ?_)
        obtain ⟨rfl, h⟩ := h
        refine gxw_d ?_
        show Gd d w 10 _ (90, [some (aR 10 k0), some (aI v1), some (aI v2), some (aI v3), some (aI v4), some (aR 13 y1), some (aR 15 ((y1 + 1) + 1))], [], M)
        refine gd_s (P := True ∧ True ∧ True ∧ True) (σ1 := (95, [some (aR 10 k0), some (aI v1), some (aI v2), some (aI v3), some (aI v4), some (aR 13 y1), some (aR 15 ((y1 + 1) + 1))], [aI v4, aI v3, aR 15 ((y1 + 1) + 1)], M)) tc_10 rfl 3 (fun u => ⟨_, rfl⟩) ⟨trivial, trivial, trivial, trivial⟩ ?_
        refine gd_callN (ml := 3) (as := [aR 15 ((y1 + 1) + 1), aI v3, aI v4]) (rest := []) tc_10 rfl rfl rfl rfl rfl (by omega) (by omega) (Nat.le_of_ble_eq_true rfl) rfl (g_Nm_letter (by omega) (by omega) h) (fun r9 M9 h => ?_)
        obtain ⟨x7, rfl, e9, h⟩ := h
        subst M9
        show Gd d w 10 _ (98, [some (aR 10 k0), some (aI v1), some (aI v2), some (aI v3), some (aI v4), some (aR 13 y1), some (aR 15 ((y1 + 1) + 1))], [aI x7], M)
        exact gd_ret tc_10 rfl rfl trivial (fun _ => rfl) ⟨_, rfl, h⟩
      · have h := h.2 hc
        refine gxw_d ?_
        show Gd d w 10 _ (70, [some (aR 10 k0), some (aI v1), some (aI v2), some (aI v3), some (aI v4), some (aR 13 y1), some (aR 15 ((y1 + 1) + 1))], [], M)
        obtain ⟨c0, h⟩ := h
        refine gd_s (P := True ∧ True ∧ True ∧ (vp_in v3 (rK M (((y1 + 1) + 1) + 1)).2) ∧ True) (σ1 := (77, [some (aR 10 k0), some (aI v1), some (aI v2), some (aI v3), some (aI v4), some (aR 13 y1), some (aR 15 ((y1 + 1) + 1))], [aI (rI M (((y1 + 1) + 1) + 1) v3.toNatClampNeg)], M)) tc_10 rfl 4 (fun u => ⟨_, rfl⟩) ⟨trivial, trivial, trivial, c0, trivial⟩ ?_
        exact gd_ret tc_10 rfl rfl trivial (fun _ => rfl) ⟨_, rfl, h⟩
  · have h := h.2 hc
    show GxW d w 10 _ _ (17, [some (aR 10 k0), some (aI v1), some (aI v2), some (aI v3), some (aI v4), some (aR 13 y1), none], [aI v3], M)
    refine gxw_s (P := True ∧ True ∧ True ∧ True ∧ True) (pc1 := 36) (L1 := [some (aR 10 k0), some (aI v1), some (aI v2), some (aI v3), some (aI v4), some (aR 13 y1), none]) (st1 := [aI (rI M (y1 + 1) 0), aI v3]) tc_10 rfl 4 rfl ⟨trivial, trivial, trivial, trivial, trivial⟩ ?_
    refine gxw_call (ml := 2) (as := [aI v3, aI (rI M (y1 + 1) 0)]) (rest := []) tc_10 rfl rfl rfl rfl rfl (by omega) (by omega) (Nat.le_of_ble_eq_true rfl) rfl (by decide +kernel) (g_J_checkIndex (by omega) (by omega) hN h) (fun r9 h => ?_)
    obtain ⟨rfl, h⟩ := h
    show GxW d w 10 _ _ (39, [some (aR 10 k0), some (aI v1), some (aI v2), some (aI v3), some (aI v4), some (aR 13 y1), none], [], M)
    refine gxw_s (P := True ∧ True) (pc1 := 40) (L1 := [some (aR 10 k0), some (aI v1), some (aI v2), some (aI v3), some (aI v4), some (aR 13 y1), none]) (st1 := [aI v2]) tc_10 rfl 1 rfl ⟨trivial, trivial⟩ ?_
    refine gxw_br (c := ¬ v2 = ((0 : Int32))) (st1 := []) tc_10 rfl rfl (fun _ => rfl) ⟨fun hc => ?_, fun hc => ?_⟩
    · have h := h.1 hc
      show GxW d w 10 _ _ (54, [some (aR 10 k0), some (aI v1), some (aI v2), some (aI v3), some (aI v4), some (aR 13 y1), none], [], M)
      refine gxw_s (P := True ∧ True ∧ True ∧ True ∧ True ∧ True ∧ True) (pc1 := 67) (L1 := [some (aR 10 k0), some (aI v1), some (aI v2), some (aI v3), some (aI v4), some (aR 13 y1), some (aR 15 ((y1 + 9) + 1))]) (st1 := [aI ((-1 : Int32)), aI v4]) tc_10 rfl 6 rfl ⟨trivial, trivial, trivial, trivial, trivial, trivial, trivial⟩ ?_
      refine gxw_br (c := ¬ v4 = ((-1 : Int32))) (st1 := []) tc_10 rfl rfl (fun _ => rfl) ⟨fun hc => ?_, fun hc => ?_⟩
      · have h := h.1 hc
        show GxW d w 10 _ _ (78, [some (aR 10 k0), some (aI v1), some (aI v2), some (aI v3), some (aI v4), some (aR 13 y1), some (aR 15 ((y1 + 9) + 1))], [], M)
        obtain ⟨c0, h⟩ := h
        refine gxw_s (P := True ∧ True ∧ True ∧ True ∧ (vp_in v3 (rK M (((y1 + 9) + 1) + 1)).2) ∧ True) (pc1 := 87) (L1 := [some (aR 10 k0), some (aI v1), some (aI v2), some (aI v3), some (aI v4), some (aR 13 y1), some (aR 15 ((y1 + 9) + 1))]) (st1 := [aI (rI M (((y1 + 9) + 1) + 1) v3.toNatClampNeg), aI v4]) tc_10 rfl 5 rfl ⟨trivial, trivial, trivial, trivial, c0, trivial⟩ ?_
        refine gxw_call (ml := 2) (as := [aI v4, aI (rI M (((y1 + 9) + 1) + 1) v3.toNatClampNeg)]) (rest := []) tc_10 rfl rfl rfl rfl rfl (by omega) (by omega) (Nat.le_of_ble_eq_true rfl) rfl (by decide +kernel) (g_J_checkIndex (by omega) (by omega) hN h) (fun r9 h => ?_)
        obtain ⟨rfl, h⟩ := h
        refine gxw_d ?_
        show Gd d w 10 _ (90, [some (aR 10 k0), some (aI v1), some (aI v2), some (aI v3), some (aI v4), some (aR 13 y1), some (aR 15 ((y1 + 9) + 1))], [], M)
        refine gd_s (P := True ∧ True ∧ True ∧ True) (σ1 := (95, [some (aR 10 k0), some (aI v1), some (aI v2), some (aI v3), some (aI v4), some (aR 13 y1), some (aR 15 ((y1 + 9) + 1))], [aI v4, aI v3, aR 15 ((y1 + 9) + 1)], M)) tc_10 rfl 3 (fun u => ⟨_, rfl⟩) ⟨trivial, trivial, trivial, trivial⟩ ?_
        refine gd_callN (ml := 3) (as := [aR 15 ((y1 + 9) + 1), aI v3, aI v4]) (rest := []) tc_10 rfl rfl rfl rfl rfl (by omega) (by omega) (Nat.le_of_ble_eq_true rfl) rfl (g_Nm_letter (by omega) (by omega) h) (fun r9 M9 h => ?_)
        obtain ⟨x10, rfl, e9, h⟩ := h
        subst M9
        show Gd d w 10 _ (98, [some (aR 10 k0), some (aI v1), some (aI v2), some (aI v3), some (aI v4), some (aR 13 y1), some (aR 15 ((y1 + 9) + 1))], [aI x10], M)
        exact gd_ret tc_10 rfl rfl trivial (fun _ => rfl) ⟨_, rfl, h⟩
      · have h := h.2 hc
        refine gxw_d ?_
        show Gd d w 10 _ (70, [some (aR 10 k0), some (aI v1), some (aI v2), some (aI v3), some (aI v4), some (aR 13 y1), some (aR 15 ((y1 + 9) + 1))], [], M)
        obtain ⟨c0, h⟩ := h
        refine gd_s (P := True ∧ True ∧ True ∧ (vp_in v3 (rK M (((y1 + 9) + 1) + 1)).2) ∧ True) (σ1 := (77, [some (aR 10 k0), some (aI v1), some (aI v2), some (aI v3), some (aI v4), some (aR 13 y1), some (aR 15 ((y1 + 9) + 1))], [aI (rI M (((y1 + 9) + 1) + 1) v3.toNatClampNeg)], M)) tc_10 rfl 4 (fun u => ⟨_, rfl⟩) ⟨trivial, trivial, trivial, c0, trivial⟩ ?_
        exact gd_ret tc_10 rfl rfl trivial (fun _ => rfl) ⟨_, rfl, h⟩
    · have h := h.2 hc
      show GxW d w 10 _ _ (43, [some (aR 10 k0), some (aI v1), some (aI v2), some (aI v3), some (aI v4), some (aR 13 y1), none], [], M)
      refine gxw_s (P := True ∧ True ∧ True ∧ True ∧ True ∧ True ∧ True ∧ True) (pc1 := 67) (L1 := [some (aR 10 k0), some (aI v1), some (aI v2), some (aI v3), some (aI v4), some (aR 13 y1), some (aR 15 ((y1 + 1) + 1))]) (st1 := [aI ((-1 : Int32)), aI v4]) tc_10 rfl 7 rfl ⟨trivial, trivial, trivial, trivial, trivial, trivial, trivial, trivial⟩ ?_
      refine gxw_br (c := ¬ v4 = ((-1 : Int32))) (st1 := []) tc_10 rfl rfl (fun _ => rfl) ⟨fun hc => ?_, fun hc => ?_⟩
      · have h := h.1 hc
        show GxW d w 10 _ _ (78, [some (aR 10 k0), some (aI v1), some (aI v2), some (aI v3), some (aI v4), some (aR 13 y1), some (aR 15 ((y1 + 1) + 1))], [], M)
        obtain ⟨c0, h⟩ := h
        refine gxw_s (P := True ∧ True ∧ True ∧ True ∧ (vp_in v3 (rK M (((y1 + 1) + 1) + 1)).2) ∧ True) (pc1 := 87) (L1 := [some (aR 10 k0), some (aI v1), some (aI v2), some (aI v3), some (aI v4), some (aR 13 y1), some (aR 15 ((y1 + 1) + 1))]) (st1 := [aI (rI M (((y1 + 1) + 1) + 1) v3.toNatClampNeg), aI v4]) tc_10 rfl 5 rfl ⟨trivial, trivial, trivial, trivial, c0, trivial⟩ ?_
        refine gxw_call (ml := 2) (as := [aI v4, aI (rI M (((y1 + 1) + 1) + 1) v3.toNatClampNeg)]) (rest := []) tc_10 rfl rfl rfl rfl rfl (by omega) (by omega) (Nat.le_of_ble_eq_true rfl) rfl (by decide +kernel) (g_J_checkIndex (by omega) (by omega) hN h) (fun r9 h => ?_)
        obtain ⟨rfl, h⟩ := h
        refine gxw_d ?_
        show Gd d w 10 _ (90, [some (aR 10 k0), some (aI v1), some (aI v2), some (aI v3), some (aI v4), some (aR 13 y1), some (aR 15 ((y1 + 1) + 1))], [], M)
        refine gd_s (P := True ∧ True ∧ True ∧ True) (σ1 := (95, [some (aR 10 k0), some (aI v1), some (aI v2), some (aI v3), some (aI v4), some (aR 13 y1), some (aR 15 ((y1 + 1) + 1))], [aI v4, aI v3, aR 15 ((y1 + 1) + 1)], M)) tc_10 rfl 3 (fun u => ⟨_, rfl⟩) ⟨trivial, trivial, trivial, trivial⟩ ?_
        refine gd_callN (ml := 3) (as := [aR 15 ((y1 + 1) + 1), aI v3, aI v4]) (rest := []) tc_10 rfl rfl rfl rfl rfl (by omega) (by omega) (Nat.le_of_ble_eq_true rfl) rfl (g_Nm_letter (by omega) (by omega) h) (fun r9 M9 h => ?_)
        obtain ⟨x12, rfl, e9, h⟩ := h
        subst M9
        show Gd d w 10 _ (98, [some (aR 10 k0), some (aI v1), some (aI v2), some (aI v3), some (aI v4), some (aR 13 y1), some (aR 15 ((y1 + 1) + 1))], [aI x12], M)
        exact gd_ret tc_10 rfl rfl trivial (fun _ => rfl) ⟨_, rfl, h⟩
      · have h := h.2 hc
        refine gxw_d ?_
        show Gd d w 10 _ (70, [some (aR 10 k0), some (aI v1), some (aI v2), some (aI v3), some (aI v4), some (aR 13 y1), some (aR 15 ((y1 + 1) + 1))], [], M)
        obtain ⟨c0, h⟩ := h
        refine gd_s (P := True ∧ True ∧ True ∧ (vp_in v3 (rK M (((y1 + 1) + 1) + 1)).2) ∧ True) (σ1 := (77, [some (aR 10 k0), some (aI v1), some (aI v2), some (aI v3), some (aI v4), some (aR 13 y1), some (aR 15 ((y1 + 1) + 1))], [aI (rI M (((y1 + 1) + 1) + 1) v3.toNatClampNeg)], M)) tc_10 rfl 4 (fun u => ⟨_, rfl⟩) ⟨trivial, trivial, trivial, c0, trivial⟩ ?_
        exact gd_ret tc_10 rfl rfl trivial (fun _ => rfl) ⟨_, rfl, h⟩
theorem tc_11 : tC 11 = c11 := rfl
/-- PolicyJudge.attribute(III)I -/
def w_J_attribute (post : Int32 → aM → Prop) (ex : Nat → Prop) (k0 : Nat) (v1 : Int32) (v2 : Int32) (v3 : Int32) (M : aM) : Prop := w_J_presentText (fun y1 => w_J_checkIndex (w_J_checkIndex (((v3 = (0 : Int32)) → (vp_in v2 (rK M ((y1 + 1) + 4)).2) ∧ post (rI M ((y1 + 1) + 4) v2.toNatClampNeg) M) ∧ (¬ (v3 = (0 : Int32)) → ((v3 = (1 : Int32)) → (vp_in v2 (rK M ((y1 + 1) + 5)).2) ∧ ((((rI M ((y1 + 1) + 5) v2.toNatClampNeg) = ((0 : Int32))) → post ((0 : Int32)) M) ∧ (¬ ((rI M ((y1 + 1) + 5) v2.toNatClampNeg) = ((0 : Int32))) → post ((1 : Int32)) M))) ∧ (¬ (v3 = (1 : Int32)) → ((v3 = (2 : Int32)) → (vp_in v2 (rK M ((y1 + 1) + 6)).2) ∧ ((((rI M ((y1 + 1) + 6) v2.toNatClampNeg) = ((0 : Int32))) → post ((0 : Int32)) M) ∧ (¬ ((rI M ((y1 + 1) + 6) v2.toNatClampNeg) = ((0 : Int32))) → post ((1 : Int32)) M))) ∧ (¬ (v3 = (2 : Int32)) → (vp_in v2 (rK M ((y1 + 1) + 7)).2) ∧ post (rI M ((y1 + 1) + 7) v2.toNatClampNeg) M)))) ex v3 ((4 : Int32)) M) ex v2 (rI M (y1 + 1) 0) M) ex k0 v1 M
theorem g_J_attribute {d w : Nat} (hd : 8 ≤ d) (hw : 141 ≤ w) {post : Int32 → aM → Prop} {ex : Nat → Prop} {k0 : Nat} {v1 : Int32} {v2 : Int32} {v3 : Int32} {M : aM} (hN : 0 < aN M) (h : w_J_attribute post ex k0 v1 v2 v3 M) : GxW d w 11 (pI post) ex (0, aEnt 11 [aR 10 k0, aI v1, aI v2, aI v3], [], M) := by
  unfold w_J_attribute at h
  show GxW d w 11 _ _ (0, [some (aR 10 k0), some (aI v1), some (aI v2), some (aI v3), none], [], M)
  refine gxw_s (P := True ∧ True ∧ True) (pc1 := 2) (L1 := [some (aR 10 k0), some (aI v1), some (aI v2), some (aI v3), none]) (st1 := [aI v1, aR 10 k0]) tc_11 rfl 2 rfl ⟨trivial, trivial, trivial⟩ ?_
  refine gxw_call (ml := 2) (as := [aR 10 k0, aI v1]) (rest := []) tc_11 rfl rfl rfl rfl rfl (by omega) (by omega) (Nat.le_of_ble_eq_true rfl) rfl (by decide +kernel) (g_J_presentText (by omega) (by omega) hN h) (fun r9 h => ?_)
  obtain ⟨y1, rfl, h⟩ := h
  show GxW d w 11 _ _ (5, [some (aR 10 k0), some (aI v1), some (aI v2), some (aI v3), none], [aR 13 y1], M)
  refine gxw_s (P := True ∧ True ∧ True ∧ True ∧ True ∧ True) (pc1 := 16) (L1 := [some (aR 10 k0), some (aI v1), some (aI v2), some (aI v3), some (aR 14 (y1 + 1))]) (st1 := [aI (rI M (y1 + 1) 0), aI v2]) tc_11 rfl 5 rfl ⟨trivial, trivial, trivial, trivial, trivial, trivial⟩ ?_
  refine gxw_call (ml := 2) (as := [aI v2, aI (rI M (y1 + 1) 0)]) (rest := []) tc_11 rfl rfl rfl rfl rfl (by omega) (by omega) (Nat.le_of_ble_eq_true rfl) rfl (by decide +kernel) (g_J_checkIndex (by omega) (by omega) hN h) (fun r9 h => ?_)
  obtain ⟨rfl, h⟩ := h
  show GxW d w 11 _ _ (19, [some (aR 10 k0), some (aI v1), some (aI v2), some (aI v3), some (aR 14 (y1 + 1))], [], M)
  refine gxw_s (P := True ∧ True ∧ True) (pc1 := 21) (L1 := [some (aR 10 k0), some (aI v1), some (aI v2), some (aI v3), some (aR 14 (y1 + 1))]) (st1 := [aI ((4 : Int32)), aI v3]) tc_11 rfl 2 rfl ⟨trivial, trivial, trivial⟩ ?_
  refine gxw_call (ml := 2) (as := [aI v3, aI ((4 : Int32))]) (rest := []) tc_11 rfl rfl rfl rfl rfl (by omega) (by omega) (Nat.le_of_ble_eq_true rfl) rfl (by decide +kernel) (g_J_checkIndex (by omega) (by omega) hN h) (fun r9 h => ?_)
  obtain ⟨rfl, h⟩ := h
  refine gxw_d ?_
  show Gd d w 11 _ (24, [some (aR 10 k0), some (aI v1), some (aI v2), some (aI v3), some (aR 14 (y1 + 1))], [], M)
  refine gd_s (P := True ∧ True) (σ1 := (25, [some (aR 10 k0), some (aI v1), some (aI v2), some (aI v3), some (aR 14 (y1 + 1))], [aI v3], M)) tc_11 rfl 1 (fun u => ⟨_, rfl⟩) ⟨trivial, trivial⟩ ?_
  refine gd_sw tc_11 rfl rfl (fun _ => rfl) ?_
  refine gd_case ⟨fun hc => ?_, fun hc => ?_⟩
  · have h := h.1 hc
    show Gd d w 11 _ (52, [some (aR 10 k0), some (aI v1), some (aI v2), some (aI v3), some (aR 14 (y1 + 1))], [], M)
    obtain ⟨c0, h⟩ := h
    refine gd_s (P := True ∧ True ∧ True ∧ (vp_in v2 (rK M ((y1 + 1) + 4)).2) ∧ True) (σ1 := (59, [some (aR 10 k0), some (aI v1), some (aI v2), some (aI v3), some (aR 14 (y1 + 1))], [aI (rI M ((y1 + 1) + 4) v2.toNatClampNeg)], M)) tc_11 rfl 4 (fun u => ⟨_, rfl⟩) ⟨trivial, trivial, trivial, c0, trivial⟩ ?_
    exact gd_ret tc_11 rfl rfl trivial (fun _ => rfl) ⟨_, rfl, h⟩
  have h := h.2 hc
  refine gd_case ⟨fun hc => ?_, fun hc => ?_⟩
  · have h := h.1 hc
    show Gd d w 11 _ (60, [some (aR 10 k0), some (aI v1), some (aI v2), some (aI v3), some (aR 14 (y1 + 1))], [], M)
    obtain ⟨c0, h⟩ := h
    refine gd_s (P := True ∧ True ∧ True ∧ (vp_in v2 (rK M ((y1 + 1) + 5)).2) ∧ True) (σ1 := (67, [some (aR 10 k0), some (aI v1), some (aI v2), some (aI v3), some (aR 14 (y1 + 1))], [aI (rI M ((y1 + 1) + 5) v2.toNatClampNeg)], M)) tc_11 rfl 4 (fun u => ⟨_, rfl⟩) ⟨trivial, trivial, trivial, c0, trivial⟩ ?_
    refine gd_br (c := (rI M ((y1 + 1) + 5) v2.toNatClampNeg) = ((0 : Int32))) (st1 := []) tc_11 rfl rfl (fun _ => rfl) ⟨fun hc => ?_, fun hc => ?_⟩
    · have h := h.1 hc
      show Gd d w 11 _ (74, [some (aR 10 k0), some (aI v1), some (aI v2), some (aI v3), some (aR 14 (y1 + 1))], [], M)
      refine gd_s (P := True ∧ True) (σ1 := (75, [some (aR 10 k0), some (aI v1), some (aI v2), some (aI v3), some (aR 14 (y1 + 1))], [aI ((0 : Int32))], M)) tc_11 rfl 1 (fun u => ⟨_, rfl⟩) ⟨trivial, trivial⟩ ?_
      exact gd_ret tc_11 rfl rfl trivial (fun _ => rfl) ⟨_, rfl, h⟩
    · have h := h.2 hc
      show Gd d w 11 _ (70, [some (aR 10 k0), some (aI v1), some (aI v2), some (aI v3), some (aR 14 (y1 + 1))], [], M)
      refine gd_s (P := True ∧ True ∧ True) (σ1 := (75, [some (aR 10 k0), some (aI v1), some (aI v2), some (aI v3), some (aR 14 (y1 + 1))], [aI ((1 : Int32))], M)) tc_11 rfl 2 (fun u => ⟨_, rfl⟩) ⟨trivial, trivial, trivial⟩ ?_
      exact gd_ret tc_11 rfl rfl trivial (fun _ => rfl) ⟨_, rfl, h⟩
  have h := h.2 hc
  refine gd_case ⟨fun hc => ?_, fun hc => ?_⟩
  · have h := h.1 hc
    show Gd d w 11 _ (76, [some (aR 10 k0), some (aI v1), some (aI v2), some (aI v3), some (aR 14 (y1 + 1))], [], M)
    obtain ⟨c0, h⟩ := h
    refine gd_s (P := True ∧ True ∧ True ∧ (vp_in v2 (rK M ((y1 + 1) + 6)).2) ∧ True) (σ1 := (83, [some (aR 10 k0), some (aI v1), some (aI v2), some (aI v3), some (aR 14 (y1 + 1))], [aI (rI M ((y1 + 1) + 6) v2.toNatClampNeg)], M)) tc_11 rfl 4 (fun u => ⟨_, rfl⟩) ⟨trivial, trivial, trivial, c0, trivial⟩ ?_
    refine gd_br (c := (rI M ((y1 + 1) + 6) v2.toNatClampNeg) = ((0 : Int32))) (st1 := []) tc_11 rfl rfl (fun _ => rfl) ⟨fun hc => ?_, fun hc => ?_⟩
    · have h := h.1 hc
      show Gd d w 11 _ (90, [some (aR 10 k0), some (aI v1), some (aI v2), some (aI v3), some (aR 14 (y1 + 1))], [], M)
      refine gd_s (P := True ∧ True) (σ1 := (91, [some (aR 10 k0), some (aI v1), some (aI v2), some (aI v3), some (aR 14 (y1 + 1))], [aI ((0 : Int32))], M)) tc_11 rfl 1 (fun u => ⟨_, rfl⟩) ⟨trivial, trivial⟩ ?_
      exact gd_ret tc_11 rfl rfl trivial (fun _ => rfl) ⟨_, rfl, h⟩
    · have h := h.2 hc
      show Gd d w 11 _ (86, [some (aR 10 k0), some (aI v1), some (aI v2), some (aI v3), some (aR 14 (y1 + 1))], [], M)
      refine gd_s (P := True ∧ True ∧ True) (σ1 := (91, [some (aR 10 k0), some (aI v1), some (aI v2), some (aI v3), some (aR 14 (y1 + 1))], [aI ((1 : Int32))], M)) tc_11 rfl 2 (fun u => ⟨_, rfl⟩) ⟨trivial, trivial, trivial⟩ ?_
      exact gd_ret tc_11 rfl rfl trivial (fun _ => rfl) ⟨_, rfl, h⟩
  have h := h.2 hc
  show Gd d w 11 _ (92, [some (aR 10 k0), some (aI v1), some (aI v2), some (aI v3), some (aR 14 (y1 + 1))], [], M)
  obtain ⟨c0, h⟩ := h
  refine gd_s (P := True ∧ True ∧ True ∧ (vp_in v2 (rK M ((y1 + 1) + 7)).2) ∧ True) (σ1 := (99, [some (aR 10 k0), some (aI v1), some (aI v2), some (aI v3), some (aR 14 (y1 + 1))], [aI (rI M ((y1 + 1) + 7) v2.toNatClampNeg)], M)) tc_11 rfl 4 (fun u => ⟨_, rfl⟩) ⟨trivial, trivial, trivial, c0, trivial⟩ ?_
  exact gd_ret tc_11 rfl rfl trivial (fun _ => rfl) ⟨_, rfl, h⟩
theorem tc_12 : tC 12 = c12 := rfl
/-- PolicyJudge.bag(III)I -/
def w_J_bag (post : Int32 → aM → Prop) (ex : Nat → Prop) (k0 : Nat) (v1 : Int32) (v2 : Int32) (v3 : Int32) (M : aM) : Prop := w_J_presentText (fun y1 => w_J_checkIndex (w_At_allows (fun x3 => ((¬ x3 = ((0 : Int32))) → (vp_in v2 (rK M ((y1 + 1) + 7)).2) ∧ (vp_in v2 (rK M ((y1 + 1) + 7)).2) ∧ post (rI M ((y1 + 1) + 7) v2.toNatClampNeg) (wI M ((y1 + 1) + 7) v2.toNatClampNeg v3)) ∧ (¬ (¬ x3 = ((0 : Int32))) → ex 1)) (y1 + 1) v2 v3 M) ex v2 (rI M (y1 + 1) 0) M) ex k0 v1 M
theorem g_J_bag {d w : Nat} (hd : 8 ≤ d) (hw : 141 ≤ w) {post : Int32 → aM → Prop} {ex : Nat → Prop} {k0 : Nat} {v1 : Int32} {v2 : Int32} {v3 : Int32} {M : aM} (hN : 0 < aN M) (h : w_J_bag post ex k0 v1 v2 v3 M) : GxW d w 12 (pI post) ex (0, aEnt 12 [aR 10 k0, aI v1, aI v2, aI v3], [], M) := by
  unfold w_J_bag at h
  show GxW d w 12 _ _ (0, [some (aR 10 k0), some (aI v1), some (aI v2), some (aI v3), none, none], [], M)
  refine gxw_s (P := True ∧ True ∧ True) (pc1 := 2) (L1 := [some (aR 10 k0), some (aI v1), some (aI v2), some (aI v3), none, none]) (st1 := [aI v1, aR 10 k0]) tc_12 rfl 2 rfl ⟨trivial, trivial, trivial⟩ ?_
  refine gxw_call (ml := 2) (as := [aR 10 k0, aI v1]) (rest := []) tc_12 rfl rfl rfl rfl rfl (by omega) (by omega) (Nat.le_of_ble_eq_true rfl) rfl (by decide +kernel) (g_J_presentText (by omega) (by omega) hN h) (fun r9 h => ?_)
  obtain ⟨y1, rfl, h⟩ := h
  show GxW d w 12 _ _ (5, [some (aR 10 k0), some (aI v1), some (aI v2), some (aI v3), none, none], [aR 13 y1], M)
  refine gxw_s (P := True ∧ True ∧ True ∧ True ∧ True ∧ True) (pc1 := 16) (L1 := [some (aR 10 k0), some (aI v1), some (aI v2), some (aI v3), some (aR 14 (y1 + 1)), none]) (st1 := [aI (rI M (y1 + 1) 0), aI v2]) tc_12 rfl 5 rfl ⟨trivial, trivial, trivial, trivial, trivial, trivial⟩ ?_
  refine gxw_call (ml := 2) (as := [aI v2, aI (rI M (y1 + 1) 0)]) (rest := []) tc_12 rfl rfl rfl rfl rfl (by omega) (by omega) (Nat.le_of_ble_eq_true rfl) rfl (by decide +kernel) (g_J_checkIndex (by omega) (by omega) hN h) (fun r9 h => ?_)
  obtain ⟨rfl, h⟩ := h
  show GxW d w 12 _ _ (19, [some (aR 10 k0), some (aI v1), some (aI v2), some (aI v3), some (aR 14 (y1 + 1)), none], [], M)
  refine gxw_s (P := True ∧ True ∧ True ∧ True) (pc1 := 23) (L1 := [some (aR 10 k0), some (aI v1), some (aI v2), some (aI v3), some (aR 14 (y1 + 1)), none]) (st1 := [aI v3, aI v2, aR 14 (y1 + 1)]) tc_12 rfl 3 rfl ⟨trivial, trivial, trivial, trivial⟩ ?_
  refine gxw_callP (ml := 3) (as := [aR 14 (y1 + 1), aI v2, aI v3]) (rest := []) tc_12 rfl rfl rfl rfl rfl (by omega) (by omega) (Nat.le_of_ble_eq_true rfl) rfl (fun f d w u σ r M1 u1 h => nw_flag f d w _ u σ r M1 u1 h (by decide)) (g_At_allows (by omega) (by omega) h) (fun x3 h => ?_)
  show GxW d w 12 _ _ (26, [some (aR 10 k0), some (aI v1), some (aI v2), some (aI v3), some (aR 14 (y1 + 1)), none], [aI x3], M)
  refine gxw_br (c := ¬ x3 = ((0 : Int32))) (st1 := []) tc_12 rfl rfl (fun _ => rfl) ⟨fun hc => ?_, fun hc => ?_⟩
  · have h := h.1 hc
    refine gxw_d ?_
    show Gd d w 12 _ (39, [some (aR 10 k0), some (aI v1), some (aI v2), some (aI v3), some (aR 14 (y1 + 1)), none], [], M)
    obtain ⟨c0, c1, h⟩ := h
    refine gd_s (P := True ∧ True ∧ True ∧ (vp_in v2 (rK M ((y1 + 1) + 7)).2) ∧ True ∧ True ∧ True ∧ True ∧ True ∧ (vp_in v2 (rK M ((y1 + 1) + 7)).2) ∧ True ∧ True) (σ1 := (58, [some (aR 10 k0), some (aI v1), some (aI v2), some (aI v3), some (aR 14 (y1 + 1)), some (aI (rI M ((y1 + 1) + 7) v2.toNatClampNeg))], [aI (rI M ((y1 + 1) + 7) v2.toNatClampNeg)], wI M ((y1 + 1) + 7) v2.toNatClampNeg v3)) tc_12 rfl 11 (fun u => ⟨_, rfl⟩) ⟨trivial, trivial, trivial, c0, trivial, trivial, trivial, trivial, trivial, c1, trivial, trivial⟩ ?_
    exact gd_ret tc_12 rfl rfl trivial (fun _ => rfl) ⟨_, rfl, h⟩
  · have h := h.2 hc
    show GxW d w 12 _ _ (29, [some (aR 10 k0), some (aI v1), some (aI v2), some (aI v3), some (aR 14 (y1 + 1)), none], [], M)
    exact gxw_thr (x := 1) tc_12 rfl (by omega) (by omega) (Nat.le_of_ble_eq_true rfl) hN h
theorem tc_14 : tC 14 = c14 := rfl
/-- PolicyJudge.neededText(I)LPolicyJudge$Text; -/
def w_J_neededText (post : Nat → Prop) (ex : Nat → Prop) (k0 : Nat) (v1 : Int32) (M : aM) : Prop := w_J_checkText ((vp_in v1 (rK M (k0 + 46)).2) ∧ (((¬ (rI M (rR M (k0 + 46) v1.toNatClampNeg) 0) = ((0 : Int32))) → (vp_in v1 (rK M (k0 + 46)).2) ∧ post (rR M (k0 + 46) v1.toNatClampNeg)) ∧ (¬ (¬ (rI M (rR M (k0 + 46) v1.toNatClampNeg) 0) = ((0 : Int32))) → ex 2))) ex v1 M
theorem g_J_neededText {d w : Nat} (hd : 7 ≤ d) (hw : 120 ≤ w) {post : Nat → Prop} {ex : Nat → Prop} {k0 : Nat} {v1 : Int32} {M : aM} (hN : 0 < aN M) (h : w_J_neededText post ex k0 v1 M) : GxN d w 14 (qR 13 post) ex (0, aEnt 14 [aR 10 k0, aI v1], [], M) := by
  unfold w_J_neededText at h
  show GxN d w 14 _ _ (0, [some (aR 10 k0), some (aI v1)], [], M)
  refine gxn_s (P := True ∧ True) (pc1 := 1) (L1 := [some (aR 10 k0), some (aI v1)]) (st1 := [aI v1]) tc_14 rfl 1 rfl ⟨trivial, trivial⟩ ?_
  refine gxn_call (ml := 1) (as := [aI v1]) (rest := []) tc_14 rfl rfl rfl rfl rfl (by omega) (by omega) (Nat.le_of_ble_eq_true rfl) rfl (by decide +kernel) (g_J_checkText (by omega) (by omega) hN h) (fun r9 h => ?_)
  obtain ⟨rfl, h⟩ := h
  show GxN d w 14 _ _ (4, [some (aR 10 k0), some (aI v1)], [], M)
  obtain ⟨c0, h⟩ := h
  refine gxn_s (P := True ∧ True ∧ True ∧ (vp_in v1 (rK M (k0 + 46)).2) ∧ True ∧ True) (pc1 := 13) (L1 := [some (aR 10 k0), some (aI v1)]) (st1 := [aI (rI M (rR M (k0 + 46) v1.toNatClampNeg) 0)]) tc_14 rfl 5 rfl ⟨trivial, trivial, trivial, c0, trivial, trivial⟩ ?_
  refine gxn_br (c := ¬ (rI M (rR M (k0 + 46) v1.toNatClampNeg) 0) = ((0 : Int32))) (st1 := []) tc_14 rfl rfl (fun _ => rfl) ⟨fun hc => ?_, fun hc => ?_⟩
  · have h := h.1 hc
    show GxN d w 14 _ _ (27, [some (aR 10 k0), some (aI v1)], [], M)
    obtain ⟨c0, h⟩ := h
    refine gxn_s (P := True ∧ True ∧ True ∧ (vp_in v1 (rK M (k0 + 46)).2) ∧ True) (pc1 := 33) (L1 := [some (aR 10 k0), some (aI v1)]) (st1 := [aR 13 (rR M (k0 + 46) v1.toNatClampNeg)]) tc_14 rfl 4 rfl ⟨trivial, trivial, trivial, c0, trivial⟩ ?_
    exact gxn_ret tc_14 rfl rfl trivial (fun _ => rfl) ⟨_, rfl, h⟩
  · have h := h.2 hc
    show GxN d w 14 _ _ (16, [some (aR 10 k0), some (aI v1)], [], M)
    exact gxn_thr (x := 2) tc_14 rfl (by omega) (by omega) (Nat.le_of_ble_eq_true rfl) hN h
theorem tc_13 : tC 13 = c13 := rfl
/-- PolicyJudge.decide(I)I -/
def w_J_decide (post : Int32 → aM → Prop) (ex : Nat → Prop) (k0 : Nat) (v1 : Int32) (M : aM) : Prop := w_J_neededText (fun y1 => w_Vd_judge (fun M2 => w_Vd_collectDuties (fun M3 => (((1 : Int32)) = 0 ∨ ((1 : Int32)) = 1) ∧ (vp_in ((0 : Int32)) (rK M3 ((y1 + 31) + 2)).2) ∧ post (rI (wI M3 y1 1 ((1 : Int32))) ((y1 + 31) + 2) ((0 : Int32)).toNatClampNeg) (wI M3 y1 1 ((1 : Int32)))) (y1 + 31) (y1 + 9) M2) (y1 + 31) y1 ((y1 + 1) + 7) ((0 : Int32)) M) ex k0 v1 M
theorem g_J_decide {d w : Nat} (hd : 104 ≤ d) (hw : 3001 ≤ w) {post : Int32 → aM → Prop} {ex : Nat → Prop} {k0 : Nat} {v1 : Int32} {M : aM} (hN : 0 < aN M) (h : w_J_decide post ex k0 v1 M) : GxW d w 13 (pI post) ex (0, aEnt 13 [aR 10 k0, aI v1], [], M) := by
  unfold w_J_decide at h
  show GxW d w 13 _ _ (0, [some (aR 10 k0), some (aI v1), none], [], M)
  refine gxw_s (P := True ∧ True ∧ True) (pc1 := 2) (L1 := [some (aR 10 k0), some (aI v1), none]) (st1 := [aI v1, aR 10 k0]) tc_13 rfl 2 rfl ⟨trivial, trivial, trivial⟩ ?_
  refine gxw_call (ml := 2) (as := [aR 10 k0, aI v1]) (rest := []) tc_13 rfl rfl rfl rfl rfl (by omega) (by omega) (Nat.le_of_ble_eq_true rfl) rfl (by decide +kernel) (g_J_neededText (by omega) (by omega) hN h) (fun r9 h => ?_)
  obtain ⟨y1, rfl, h⟩ := h
  refine gxw_d ?_
  show Gd d w 13 _ (5, [some (aR 10 k0), some (aI v1), none], [aR 13 y1], M)
  refine gd_s (P := True ∧ True ∧ True ∧ True ∧ True ∧ True ∧ True ∧ True ∧ True) (σ1 := (19, [some (aR 10 k0), some (aI v1), some (aR 13 y1)], [aI ((0 : Int32)), aR 4 ((y1 + 1) + 7), aR 13 y1, aR 18 (y1 + 31)], M)) tc_13 rfl 8 (fun u => ⟨_, rfl⟩) ⟨trivial, trivial, trivial, trivial, trivial, trivial, trivial, trivial, trivial⟩ ?_
  refine gd_callN (ml := 9) (as := [aR 18 (y1 + 31), aR 13 y1, aR 4 ((y1 + 1) + 7), aI ((0 : Int32))]) (rest := []) tc_13 rfl rfl rfl rfl rfl (by omega) (by omega) (Nat.le_of_ble_eq_true rfl) rfl (g_Vd_judge (by omega) (by omega) h) (fun r9 M2 h => ?_)
  obtain ⟨rfl, h⟩ := h
  show Gd d w 13 _ (22, [some (aR 10 k0), some (aI v1), some (aR 13 y1)], [], M2)
  refine gd_s (P := True ∧ True ∧ True ∧ True ∧ True) (σ1 := (30, [some (aR 10 k0), some (aI v1), some (aR 13 y1)], [aR 16 (y1 + 9), aR 18 (y1 + 31)], M2)) tc_13 rfl 4 (fun u => ⟨_, rfl⟩) ⟨trivial, trivial, trivial, trivial, trivial⟩ ?_
  refine gd_callN (ml := 2) (as := [aR 18 (y1 + 31), aR 16 (y1 + 9)]) (rest := []) tc_13 rfl rfl rfl rfl rfl (by omega) (by omega) (Nat.le_of_ble_eq_true rfl) rfl (g_Vd_collectDuties (by omega) (by omega) h) (fun r9 M3 h => ?_)
  obtain ⟨rfl, h⟩ := h
  show Gd d w 13 _ (33, [some (aR 10 k0), some (aI v1), some (aR 13 y1)], [], M3)
  obtain ⟨c0, c1, h⟩ := h
  refine gd_s (P := True ∧ True ∧ (((1 : Int32)) = 0 ∨ ((1 : Int32)) = 1) ∧ True ∧ True ∧ True ∧ True ∧ (vp_in ((0 : Int32)) (rK M3 ((y1 + 31) + 2)).2) ∧ True) (σ1 := (47, [some (aR 10 k0), some (aI v1), some (aR 13 y1)], [aI (rI (wI M3 y1 1 ((1 : Int32))) ((y1 + 31) + 2) ((0 : Int32)).toNatClampNeg)], wI M3 y1 1 ((1 : Int32)))) tc_13 rfl 8 (fun u => ⟨_, rfl⟩) ⟨trivial, trivial, c0, trivial, trivial, trivial, trivial, c1, trivial⟩ ?_
  exact gd_ret tc_13 rfl rfl trivial (fun _ => rfl) ⟨_, rfl, h⟩
theorem tc_16 : tC 16 = c16 := rfl
/-- PolicyJudge.judgedText(I)LPolicyJudge$Text; -/
def w_J_judgedText (post : Nat → Prop) (ex : Nat → Prop) (k0 : Nat) (v1 : Int32) (M : aM) : Prop := w_J_presentText (fun y1 => ((¬ (rI M y1 1) = ((0 : Int32))) → post y1) ∧ (¬ (¬ (rI M y1 1) = ((0 : Int32))) → ex 0)) ex k0 v1 M
theorem g_J_judgedText {d w : Nat} (hd : 8 ≤ d) (hw : 141 ≤ w) {post : Nat → Prop} {ex : Nat → Prop} {k0 : Nat} {v1 : Int32} {M : aM} (hN : 0 < aN M) (h : w_J_judgedText post ex k0 v1 M) : GxN d w 16 (qR 13 post) ex (0, aEnt 16 [aR 10 k0, aI v1], [], M) := by
  unfold w_J_judgedText at h
  show GxN d w 16 _ _ (0, [some (aR 10 k0), some (aI v1), none], [], M)
  refine gxn_s (P := True ∧ True ∧ True) (pc1 := 2) (L1 := [some (aR 10 k0), some (aI v1), none]) (st1 := [aI v1, aR 10 k0]) tc_16 rfl 2 rfl ⟨trivial, trivial, trivial⟩ ?_
  refine gxn_call (ml := 2) (as := [aR 10 k0, aI v1]) (rest := []) tc_16 rfl rfl rfl rfl rfl (by omega) (by omega) (Nat.le_of_ble_eq_true rfl) rfl (by decide +kernel) (g_J_presentText (by omega) (by omega) hN h) (fun r9 h => ?_)
  obtain ⟨y1, rfl, h⟩ := h
  show GxN d w 16 _ _ (5, [some (aR 10 k0), some (aI v1), none], [aR 13 y1], M)
  refine gxn_s (P := True ∧ True ∧ True ∧ True) (pc1 := 10) (L1 := [some (aR 10 k0), some (aI v1), some (aR 13 y1)]) (st1 := [aI (rI M y1 1)]) tc_16 rfl 3 rfl ⟨trivial, trivial, trivial, trivial⟩ ?_
  refine gxn_br (c := ¬ (rI M y1 1) = ((0 : Int32))) (st1 := []) tc_16 rfl rfl (fun _ => rfl) ⟨fun hc => ?_, fun hc => ?_⟩
  · have h := h.1 hc
    show GxN d w 16 _ _ (24, [some (aR 10 k0), some (aI v1), some (aR 13 y1)], [], M)
    refine gxn_s (P := True ∧ True) (pc1 := 25) (L1 := [some (aR 10 k0), some (aI v1), some (aR 13 y1)]) (st1 := [aR 13 y1]) tc_16 rfl 1 rfl ⟨trivial, trivial⟩ ?_
    exact gxn_ret tc_16 rfl rfl trivial (fun _ => rfl) ⟨_, rfl, h⟩
  · have h := h.2 hc
    show GxN d w 16 _ _ (13, [some (aR 10 k0), some (aI v1), some (aR 13 y1)], [], M)
    exact gxn_thr (x := 0) tc_16 rfl (by omega) (by omega) (Nat.le_of_ble_eq_true rfl) hN h
theorem tc_15 : tC 15 = c15 := rfl
/-- PolicyJudge.decided(II)I -/
def w_J_decided (post : Int32 → aM → Prop) (ex : Nat → Prop) (k0 : Nat) (v1 : Int32) (v2 : Int32) (M : aM) : Prop := w_J_judgedText (fun y1 => w_J_checkIndex ((vp_in v2 (rK M ((y1 + 31) + 2)).2) ∧ post (rI M ((y1 + 31) + 2) v2.toNatClampNeg) M) ex v2 (rI M (y1 + 9) 0) M) ex k0 v1 M
theorem g_J_decided {d w : Nat} (hd : 9 ≤ d) (hw : 163 ≤ w) {post : Int32 → aM → Prop} {ex : Nat → Prop} {k0 : Nat} {v1 : Int32} {v2 : Int32} {M : aM} (hN : 0 < aN M) (h : w_J_decided post ex k0 v1 v2 M) : GxW d w 15 (pI post) ex (0, aEnt 15 [aR 10 k0, aI v1, aI v2], [], M) := by
  unfold w_J_decided at h
  show GxW d w 15 _ _ (0, [some (aR 10 k0), some (aI v1), some (aI v2), none], [], M)
  refine gxw_s (P := True ∧ True ∧ True) (pc1 := 2) (L1 := [some (aR 10 k0), some (aI v1), some (aI v2), none]) (st1 := [aI v1, aR 10 k0]) tc_15 rfl 2 rfl ⟨trivial, trivial, trivial⟩ ?_
  refine gxw_call (ml := 3) (as := [aR 10 k0, aI v1]) (rest := []) tc_15 rfl rfl rfl rfl rfl (by omega) (by omega) (Nat.le_of_ble_eq_true rfl) rfl (by decide +kernel) (g_J_judgedText (by omega) (by omega) hN h) (fun r9 h => ?_)
  obtain ⟨y1, rfl, h⟩ := h
  show GxW d w 15 _ _ (5, [some (aR 10 k0), some (aI v1), some (aI v2), none], [aR 13 y1], M)
  refine gxw_s (P := True ∧ True ∧ True ∧ True ∧ True ∧ True) (pc1 := 14) (L1 := [some (aR 10 k0), some (aI v1), some (aI v2), some (aR 13 y1)]) (st1 := [aI (rI M (y1 + 9) 0), aI v2]) tc_15 rfl 5 rfl ⟨trivial, trivial, trivial, trivial, trivial, trivial⟩ ?_
  refine gxw_call (ml := 2) (as := [aI v2, aI (rI M (y1 + 9) 0)]) (rest := []) tc_15 rfl rfl rfl rfl rfl (by omega) (by omega) (Nat.le_of_ble_eq_true rfl) rfl (by decide +kernel) (g_J_checkIndex (by omega) (by omega) hN h) (fun r9 h => ?_)
  obtain ⟨rfl, h⟩ := h
  refine gxw_d ?_
  show Gd d w 15 _ (17, [some (aR 10 k0), some (aI v1), some (aI v2), some (aR 13 y1)], [], M)
  obtain ⟨c0, h⟩ := h
  refine gd_s (P := True ∧ True ∧ True ∧ True ∧ (vp_in v2 (rK M ((y1 + 31) + 2)).2) ∧ True) (σ1 := (26, [some (aR 10 k0), some (aI v1), some (aI v2), some (aR 13 y1)], [aI (rI M ((y1 + 31) + 2) v2.toNatClampNeg)], M)) tc_15 rfl 5 (fun u => ⟨_, rfl⟩) ⟨trivial, trivial, trivial, trivial, c0, trivial⟩ ?_
  exact gd_ret tc_15 rfl rfl trivial (fun _ => rfl) ⟨_, rfl, h⟩
theorem tc_17 : tC 17 = c17 := rfl
/-- PolicyJudge.truth(II)I -/
def w_J_truth (post : Int32 → aM → Prop) (ex : Nat → Prop) (k0 : Nat) (v1 : Int32) (v2 : Int32) (M : aM) : Prop := w_J_judgedText (fun y1 => w_J_checkIndex ((vp_in v2 (rK M ((y1 + 31) + 1)).2) ∧ post (rI M ((y1 + 31) + 1) v2.toNatClampNeg) M) ex v2 (rI M (y1 + 9) 0) M) ex k0 v1 M
theorem g_J_truth {d w : Nat} (hd : 9 ≤ d) (hw : 163 ≤ w) {post : Int32 → aM → Prop} {ex : Nat → Prop} {k0 : Nat} {v1 : Int32} {v2 : Int32} {M : aM} (hN : 0 < aN M) (h : w_J_truth post ex k0 v1 v2 M) : GxW d w 17 (pI post) ex (0, aEnt 17 [aR 10 k0, aI v1, aI v2], [], M) := by
  unfold w_J_truth at h
  show GxW d w 17 _ _ (0, [some (aR 10 k0), some (aI v1), some (aI v2), none], [], M)
  refine gxw_s (P := True ∧ True ∧ True) (pc1 := 2) (L1 := [some (aR 10 k0), some (aI v1), some (aI v2), none]) (st1 := [aI v1, aR 10 k0]) tc_17 rfl 2 rfl ⟨trivial, trivial, trivial⟩ ?_
  refine gxw_call (ml := 3) (as := [aR 10 k0, aI v1]) (rest := []) tc_17 rfl rfl rfl rfl rfl (by omega) (by omega) (Nat.le_of_ble_eq_true rfl) rfl (by decide +kernel) (g_J_judgedText (by omega) (by omega) hN h) (fun r9 h => ?_)
  obtain ⟨y1, rfl, h⟩ := h
  show GxW d w 17 _ _ (5, [some (aR 10 k0), some (aI v1), some (aI v2), none], [aR 13 y1], M)
  refine gxw_s (P := True ∧ True ∧ True ∧ True ∧ True ∧ True) (pc1 := 14) (L1 := [some (aR 10 k0), some (aI v1), some (aI v2), some (aR 13 y1)]) (st1 := [aI (rI M (y1 + 9) 0), aI v2]) tc_17 rfl 5 rfl ⟨trivial, trivial, trivial, trivial, trivial, trivial⟩ ?_
  refine gxw_call (ml := 2) (as := [aI v2, aI (rI M (y1 + 9) 0)]) (rest := []) tc_17 rfl rfl rfl rfl rfl (by omega) (by omega) (Nat.le_of_ble_eq_true rfl) rfl (by decide +kernel) (g_J_checkIndex (by omega) (by omega) hN h) (fun r9 h => ?_)
  obtain ⟨rfl, h⟩ := h
  refine gxw_d ?_
  show Gd d w 17 _ (17, [some (aR 10 k0), some (aI v1), some (aI v2), some (aR 13 y1)], [], M)
  obtain ⟨c0, h⟩ := h
  refine gd_s (P := True ∧ True ∧ True ∧ True ∧ (vp_in v2 (rK M ((y1 + 31) + 1)).2) ∧ True) (σ1 := (26, [some (aR 10 k0), some (aI v1), some (aI v2), some (aR 13 y1)], [aI (rI M ((y1 + 31) + 1) v2.toNatClampNeg)], M)) tc_17 rfl 5 (fun u => ⟨_, rfl⟩) ⟨trivial, trivial, trivial, trivial, c0, trivial⟩ ?_
  exact gd_ret tc_17 rfl rfl trivial (fun _ => rfl) ⟨_, rfl, h⟩
theorem tc_18 : tC 18 = c18 := rfl
/-- PolicyJudge.duty(II)I -/
def w_J_duty (post : Int32 → aM → Prop) (ex : Nat → Prop) (k0 : Nat) (v1 : Int32) (v2 : Int32) (M : aM) : Prop := w_J_judgedText (fun y1 => ((¬ v2 = ((-1 : Int32))) → w_J_checkIndex ((vp_in v2 (rK M ((y1 + 31) + 4)).2) ∧ post (rI M ((y1 + 31) + 4) v2.toNatClampNeg) M) ex v2 (rI M (y1 + 31) 4) M) ∧ (¬ (¬ v2 = ((-1 : Int32))) → post (rI M (y1 + 31) 4) M)) ex k0 v1 M
theorem g_J_duty {d w : Nat} (hd : 9 ≤ d) (hw : 163 ≤ w) {post : Int32 → aM → Prop} {ex : Nat → Prop} {k0 : Nat} {v1 : Int32} {v2 : Int32} {M : aM} (hN : 0 < aN M) (h : w_J_duty post ex k0 v1 v2 M) : GxW d w 18 (pI post) ex (0, aEnt 18 [aR 10 k0, aI v1, aI v2], [], M) := by
  unfold w_J_duty at h
  show GxW d w 18 _ _ (0, [some (aR 10 k0), some (aI v1), some (aI v2), none], [], M)
  refine gxw_s (P := True ∧ True ∧ True) (pc1 := 2) (L1 := [some (aR 10 k0), some (aI v1), some (aI v2), none]) (st1 := [aI v1, aR 10 k0]) tc_18 rfl 2 rfl ⟨trivial, trivial, trivial⟩ ?_
  refine gxw_call (ml := 3) (as := [aR 10 k0, aI v1]) (rest := []) tc_18 rfl rfl rfl rfl rfl (by omega) (by omega) (Nat.le_of_ble_eq_true rfl) rfl (by decide +kernel) (g_J_judgedText (by omega) (by omega) hN h) (fun r9 h => ?_)
  obtain ⟨y1, rfl, h⟩ := h
  show GxW d w 18 _ _ (5, [some (aR 10 k0), some (aI v1), some (aI v2), none], [aR 13 y1], M)
  refine gxw_s (P := True ∧ True ∧ True ∧ True ∧ True) (pc1 := 11) (L1 := [some (aR 10 k0), some (aI v1), some (aI v2), some (aR 18 (y1 + 31))]) (st1 := [aI ((-1 : Int32)), aI v2]) tc_18 rfl 4 rfl ⟨trivial, trivial, trivial, trivial, trivial⟩ ?_
  refine gxw_br (c := ¬ v2 = ((-1 : Int32))) (st1 := []) tc_18 rfl rfl (fun _ => rfl) ⟨fun hc => ?_, fun hc => ?_⟩
  · have h := h.1 hc
    show GxW d w 18 _ _ (19, [some (aR 10 k0), some (aI v1), some (aI v2), some (aR 18 (y1 + 31))], [], M)
    refine gxw_s (P := True ∧ True ∧ True ∧ True) (pc1 := 24) (L1 := [some (aR 10 k0), some (aI v1), some (aI v2), some (aR 18 (y1 + 31))]) (st1 := [aI (rI M (y1 + 31) 4), aI v2]) tc_18 rfl 3 rfl ⟨trivial, trivial, trivial, trivial⟩ ?_
    refine gxw_call (ml := 2) (as := [aI v2, aI (rI M (y1 + 31) 4)]) (rest := []) tc_18 rfl rfl rfl rfl rfl (by omega) (by omega) (Nat.le_of_ble_eq_true rfl) rfl (by decide +kernel) (g_J_checkIndex (by omega) (by omega) hN h) (fun r9 h => ?_)
    obtain ⟨rfl, h⟩ := h
    refine gxw_d ?_
    show Gd d w 18 _ (27, [some (aR 10 k0), some (aI v1), some (aI v2), some (aR 18 (y1 + 31))], [], M)
    obtain ⟨c0, h⟩ := h
    refine gd_s (P := True ∧ True ∧ True ∧ (vp_in v2 (rK M ((y1 + 31) + 4)).2) ∧ True) (σ1 := (33, [some (aR 10 k0), some (aI v1), some (aI v2), some (aR 18 (y1 + 31))], [aI (rI M ((y1 + 31) + 4) v2.toNatClampNeg)], M)) tc_18 rfl 4 (fun u => ⟨_, rfl⟩) ⟨trivial, trivial, trivial, c0, trivial⟩ ?_
    exact gd_ret tc_18 rfl rfl trivial (fun _ => rfl) ⟨_, rfl, h⟩
  · have h := h.2 hc
    refine gxw_d ?_
    show Gd d w 18 _ (14, [some (aR 10 k0), some (aI v1), some (aI v2), some (aR 18 (y1 + 31))], [], M)
    refine gd_s (P := True ∧ True ∧ True) (σ1 := (18, [some (aR 10 k0), some (aI v1), some (aI v2), some (aR 18 (y1 + 31))], [aI (rI M (y1 + 31) 4)], M)) tc_18 rfl 2 (fun u => ⟨_, rfl⟩) ⟨trivial, trivial, trivial⟩ ?_
    exact gd_ret tc_18 rfl rfl trivial (fun _ => rfl) ⟨_, rfl, h⟩
theorem tc_19 : tC 19 = c19 := rfl
/-- PolicyJudge.same()I -/
def w_J_same (post : Int32 → aM → Prop) (ex : Nat → Prop) (k0 : Nat) (M : aM) : Prop := (vp_in ((0 : Int32)) (rK M (k0 + 46)).2) ∧ ((((rI M (rR M (k0 + 46) ((0 : Int32)).toNatClampNeg) 0) = ((0 : Int32))) → ex 2) ∧ (¬ ((rI M (rR M (k0 + 46) ((0 : Int32)).toNatClampNeg) 0) = ((0 : Int32))) → (vp_in ((1 : Int32)) (rK M (k0 + 46)).2) ∧ (((¬ (rI M (rR M (k0 + 46) ((1 : Int32)).toNatClampNeg) 0) = ((0 : Int32))) → (vp_in ((0 : Int32)) (rK M (k0 + 46)).2) ∧ (vp_in ((1 : Int32)) (rK M (k0 + 46)).2) ∧ (w_Sv_pair (fun x1 M1 => ((¬ x1 = ((0 : Int32))) → (vp_in ((0 : Int32)) (rK M1 (k0 + 46)).2) ∧ (w_At_requests (fun x2 => ((x2 ≤ ((4096 : Int32))) → (vp_in ((0 : Int32)) (rK M1 (k0 + 46)).2) ∧ (vp_in ((1 : Int32)) (rK M1 (k0 + 46)).2) ∧ (w_Sv_compare (fun x3 M3 => ((x3 = ((0 : Int32))) → post ((0 : Int32)) M3) ∧ (¬ (x3 = ((0 : Int32))) → post ((1 : Int32)) M3)) (k0 + 119) (rR M1 (k0 + 46) ((0 : Int32)).toNatClampNeg) (rR M1 (k0 + 46) ((1 : Int32)).toNatClampNeg) M1)) ∧ (¬ (x2 ≤ ((4096 : Int32))) → post ((-3 : Int32)) M1)) ((rR M1 (k0 + 46) ((0 : Int32)).toNatClampNeg) + 1) M1)) ∧ (¬ (¬ x1 = ((0 : Int32))) → post ((-2 : Int32)) M1)) (k0 + 119) ((rR M (k0 + 46) ((0 : Int32)).toNatClampNeg) + 1) ((rR M (k0 + 46) ((1 : Int32)).toNatClampNeg) + 1) M)) ∧ (¬ (¬ (rI M (rR M (k0 + 46) ((1 : Int32)).toNatClampNeg) 0) = ((0 : Int32))) → ex 2))))
theorem g_J_same {d w : Nat} (hd : 105 ≤ d) (hw : 3027 ≤ w) {post : Int32 → aM → Prop} {ex : Nat → Prop} {k0 : Nat} {M : aM} (hN : 0 < aN M) (h : w_J_same post ex k0 M) : GxW d w 19 (pI post) ex (0, aEnt 19 [aR 10 k0], [], M) := by
  unfold w_J_same at h
  show GxW d w 19 _ _ (0, [some (aR 10 k0)], [], M)
  obtain ⟨c0, h⟩ := h
  refine gxw_s (P := True ∧ True ∧ True ∧ (vp_in ((0 : Int32)) (rK M (k0 + 46)).2) ∧ True ∧ True) (pc1 := 9) (L1 := [some (aR 10 k0)]) (st1 := [aI (rI M (rR M (k0 + 46) ((0 : Int32)).toNatClampNeg) 0)]) tc_19 rfl 5 rfl ⟨trivial, trivial, trivial, c0, trivial, trivial⟩ ?_
  refine gxw_br (c := (rI M (rR M (k0 + 46) ((0 : Int32)).toNatClampNeg) 0) = ((0 : Int32))) (st1 := []) tc_19 rfl rfl (fun _ => rfl) ⟨fun hc => ?_, fun hc => ?_⟩
  · have h := h.1 hc
    show GxW d w 19 _ _ (24, [some (aR 10 k0)], [], M)
    exact gxw_thr (x := 2) tc_19 rfl (by omega) (by omega) (Nat.le_of_ble_eq_true rfl) hN h
  · have h := h.2 hc
    show GxW d w 19 _ _ (12, [some (aR 10 k0)], [], M)
    obtain ⟨c0, h⟩ := h
    refine gxw_s (P := True ∧ True ∧ True ∧ (vp_in ((1 : Int32)) (rK M (k0 + 46)).2) ∧ True ∧ True) (pc1 := 21) (L1 := [some (aR 10 k0)]) (st1 := [aI (rI M (rR M (k0 + 46) ((1 : Int32)).toNatClampNeg) 0)]) tc_19 rfl 5 rfl ⟨trivial, trivial, trivial, c0, trivial, trivial⟩ ?_
    refine gxw_br (c := ¬ (rI M (rR M (k0 + 46) ((1 : Int32)).toNatClampNeg) 0) = ((0 : Int32))) (st1 := []) tc_19 rfl rfl (fun _ => rfl) ⟨fun hc => ?_, fun hc => ?_⟩
    · have h := h.1 hc
      refine gxw_d ?_
      show Gd d w 19 _ (34, [some (aR 10 k0)], [], M)
      obtain ⟨c0, c1, h⟩ := h
      refine gd_s (P := True ∧ True ∧ True ∧ True ∧ True ∧ (vp_in ((0 : Int32)) (rK M (k0 + 46)).2) ∧ True ∧ True ∧ True ∧ True ∧ (vp_in ((1 : Int32)) (rK M (k0 + 46)).2) ∧ True ∧ True) (σ1 := (56, [some (aR 10 k0)], [aR 14 ((rR M (k0 + 46) ((1 : Int32)).toNatClampNeg) + 1), aR 14 ((rR M (k0 + 46) ((0 : Int32)).toNatClampNeg) + 1), aR 19 (k0 + 119)], M)) tc_19 rfl 12 (fun u => ⟨_, rfl⟩) ⟨trivial, trivial, trivial, trivial, trivial, c0, trivial, trivial, trivial, trivial, c1, trivial, trivial⟩ ?_
      refine gd_callN (ml := 5) (as := [aR 19 (k0 + 119), aR 14 ((rR M (k0 + 46) ((0 : Int32)).toNatClampNeg) + 1), aR 14 ((rR M (k0 + 46) ((1 : Int32)).toNatClampNeg) + 1)]) (rest := []) tc_19 rfl rfl rfl rfl rfl (by omega) (by omega) (Nat.le_of_ble_eq_true rfl) rfl (g_Sv_pair (by omega) (by omega) h) (fun r9 M1 h => ?_)
      obtain ⟨x1, rfl, h⟩ := h
      show Gd d w 19 _ (59, [some (aR 10 k0)], [aI x1], M1)
      refine gd_br (c := ¬ x1 = ((0 : Int32))) (st1 := []) tc_19 rfl rfl (fun _ => rfl) ⟨fun hc => ?_, fun hc => ?_⟩
      · have h := h.1 hc
        show Gd d w 19 _ (65, [some (aR 10 k0)], [], M1)
        obtain ⟨c0, h⟩ := h
        refine gd_s (P := True ∧ True ∧ True ∧ (vp_in ((0 : Int32)) (rK M1 (k0 + 46)).2) ∧ True ∧ True) (σ1 := (74, [some (aR 10 k0)], [aR 14 ((rR M1 (k0 + 46) ((0 : Int32)).toNatClampNeg) + 1)], M1)) tc_19 rfl 5 (fun u => ⟨_, rfl⟩) ⟨trivial, trivial, trivial, c0, trivial, trivial⟩ ?_
        refine gd_callN (ml := 3) (as := [aR 14 ((rR M1 (k0 + 46) ((0 : Int32)).toNatClampNeg) + 1)]) (rest := []) tc_19 rfl rfl rfl rfl rfl (by omega) (by omega) (Nat.le_of_ble_eq_true rfl) rfl (g_At_requests (by omega) (by omega) h) (fun r9 M9 h => ?_)
        obtain ⟨x2, rfl, e9, h⟩ := h
        subst M9
        show Gd d w 19 _ (77, [some (aR 10 k0)], [aI x2], M1)
        refine gd_s (P := True ∧ True) (σ1 := (80, [some (aR 10 k0)], [aI ((4096 : Int32)), aI x2], M1)) tc_19 rfl 1 (fun u => ⟨_, rfl⟩) ⟨trivial, trivial⟩ ?_
        refine gd_br (c := x2 ≤ ((4096 : Int32))) (st1 := []) tc_19 rfl rfl (fun _ => rfl) ⟨fun hc => ?_, fun hc => ?_⟩
        · have h := h.1 hc
          show Gd d w 19 _ (86, [some (aR 10 k0)], [], M1)
          obtain ⟨c0, c1, h⟩ := h
          refine gd_s (P := True ∧ True ∧ True ∧ True ∧ True ∧ (vp_in ((0 : Int32)) (rK M1 (k0 + 46)).2) ∧ True ∧ True ∧ True ∧ (vp_in ((1 : Int32)) (rK M1 (k0 + 46)).2) ∧ True) (σ1 := (102, [some (aR 10 k0)], [aR 13 (rR M1 (k0 + 46) ((1 : Int32)).toNatClampNeg), aR 13 (rR M1 (k0 + 46) ((0 : Int32)).toNatClampNeg), aR 19 (k0 + 119)], M1)) tc_19 rfl 10 (fun u => ⟨_, rfl⟩) ⟨trivial, trivial, trivial, trivial, trivial, c0, trivial, trivial, trivial, c1, trivial⟩ ?_
          refine gd_callN (ml := 7) (as := [aR 19 (k0 + 119), aR 13 (rR M1 (k0 + 46) ((0 : Int32)).toNatClampNeg), aR 13 (rR M1 (k0 + 46) ((1 : Int32)).toNatClampNeg)]) (rest := []) tc_19 rfl rfl rfl rfl rfl (by omega) (by omega) (Nat.le_of_ble_eq_true rfl) rfl (g_Sv_compare (by omega) (by omega) h) (fun r9 M3 h => ?_)
          obtain ⟨x3, rfl, h⟩ := h
          show Gd d w 19 _ (105, [some (aR 10 k0)], [aI x3], M3)
          refine gd_br (c := x3 = ((0 : Int32))) (st1 := []) tc_19 rfl rfl (fun _ => rfl) ⟨fun hc => ?_, fun hc => ?_⟩
          · have h := h.1 hc
            show Gd d w 19 _ (112, [some (aR 10 k0)], [], M3)
            refine gd_s (P := True ∧ True) (σ1 := (113, [some (aR 10 k0)], [aI ((0 : Int32))], M3)) tc_19 rfl 1 (fun u => ⟨_, rfl⟩) ⟨trivial, trivial⟩ ?_
            exact gd_ret tc_19 rfl rfl trivial (fun _ => rfl) ⟨_, rfl, h⟩
          · have h := h.2 hc
            show Gd d w 19 _ (108, [some (aR 10 k0)], [], M3)
            refine gd_s (P := True ∧ True ∧ True) (σ1 := (113, [some (aR 10 k0)], [aI ((1 : Int32))], M3)) tc_19 rfl 2 (fun u => ⟨_, rfl⟩) ⟨trivial, trivial, trivial⟩ ?_
            exact gd_ret tc_19 rfl rfl trivial (fun _ => rfl) ⟨_, rfl, h⟩
        · have h := h.2 hc
          show Gd d w 19 _ (83, [some (aR 10 k0)], [], M1)
          refine gd_s (P := True ∧ True) (σ1 := (85, [some (aR 10 k0)], [aI ((-3 : Int32))], M1)) tc_19 rfl 1 (fun u => ⟨_, rfl⟩) ⟨trivial, trivial⟩ ?_
          exact gd_ret tc_19 rfl rfl trivial (fun _ => rfl) ⟨_, rfl, h⟩
      · have h := h.2 hc
        show Gd d w 19 _ (62, [some (aR 10 k0)], [], M1)
        refine gd_s (P := True ∧ True) (σ1 := (64, [some (aR 10 k0)], [aI ((-2 : Int32))], M1)) tc_19 rfl 1 (fun u => ⟨_, rfl⟩) ⟨trivial, trivial⟩ ?_
        exact gd_ret tc_19 rfl rfl trivial (fun _ => rfl) ⟨_, rfl, h⟩
    · have h := h.2 hc
      show GxW d w 19 _ _ (24, [some (aR 10 k0)], [], M)
      exact gxw_thr (x := 2) tc_19 rfl (by omega) (by omega) (Nat.le_of_ble_eq_true rfl) hN h
theorem tc_20 : tC 20 = c20 := rfl
/-- PolicyJudge.differ(II)I -/
def w_J_differ (post : Int32 → aM → Prop) (ex : Nat → Prop) (k0 : Nat) (v1 : Int32) (v2 : Int32) (M : aM) : Prop := w_J_checkIndex (w_J_checkIndex (((¬ (rI M (k0 + 119) 0) = ((0 : Int32))) → (vp_in ((v1 * ((6 : Int32))) + v2) (rK M ((k0 + 119) + 1)).2) ∧ post (rI M ((k0 + 119) + 1) ((v1 * ((6 : Int32))) + v2).toNatClampNeg) M) ∧ (¬ (¬ (rI M (k0 + 119) 0) = ((0 : Int32))) → ex 2)) ex v2 ((6 : Int32)) M) ex v1 ((6 : Int32)) M
theorem g_J_differ {d w : Nat} (hd : 7 ≤ d) (hw : 121 ≤ w) {post : Int32 → aM → Prop} {ex : Nat → Prop} {k0 : Nat} {v1 : Int32} {v2 : Int32} {M : aM} (hN : 0 < aN M) (h : w_J_differ post ex k0 v1 v2 M) : GxW d w 20 (pI post) ex (0, aEnt 20 [aR 10 k0, aI v1, aI v2], [], M) := by
  unfold w_J_differ at h
  show GxW d w 20 _ _ (0, [some (aR 10 k0), some (aI v1), some (aI v2)], [], M)
  refine gxw_s (P := True ∧ True ∧ True) (pc1 := 3) (L1 := [some (aR 10 k0), some (aI v1), some (aI v2)]) (st1 := [aI ((6 : Int32)), aI v1]) tc_20 rfl 2 rfl ⟨trivial, trivial, trivial⟩ ?_
  refine gxw_call (ml := 2) (as := [aI v1, aI ((6 : Int32))]) (rest := []) tc_20 rfl rfl rfl rfl rfl (by omega) (by omega) (Nat.le_of_ble_eq_true rfl) rfl (by decide +kernel) (g_J_checkIndex (by omega) (by omega) hN h) (fun r9 h => ?_)
  obtain ⟨rfl, h⟩ := h
  show GxW d w 20 _ _ (6, [some (aR 10 k0), some (aI v1), some (aI v2)], [], M)
  refine gxw_s (P := True ∧ True ∧ True) (pc1 := 9) (L1 := [some (aR 10 k0), some (aI v1), some (aI v2)]) (st1 := [aI ((6 : Int32)), aI v2]) tc_20 rfl 2 rfl ⟨trivial, trivial, trivial⟩ ?_
  refine gxw_call (ml := 2) (as := [aI v2, aI ((6 : Int32))]) (rest := []) tc_20 rfl rfl rfl rfl rfl (by omega) (by omega) (Nat.le_of_ble_eq_true rfl) rfl (by decide +kernel) (g_J_checkIndex (by omega) (by omega) hN h) (fun r9 h => ?_)
  obtain ⟨rfl, h⟩ := h
  show GxW d w 20 _ _ (12, [some (aR 10 k0), some (aI v1), some (aI v2)], [], M)
  refine gxw_s (P := True ∧ True ∧ True ∧ True) (pc1 := 19) (L1 := [some (aR 10 k0), some (aI v1), some (aI v2)]) (st1 := [aI (rI M (k0 + 119) 0)]) tc_20 rfl 3 rfl ⟨trivial, trivial, trivial, trivial⟩ ?_
  refine gxw_br (c := ¬ (rI M (k0 + 119) 0) = ((0 : Int32))) (st1 := []) tc_20 rfl rfl (fun _ => rfl) ⟨fun hc => ?_, fun hc => ?_⟩
  · have h := h.1 hc
    refine gxw_d ?_
    show Gd d w 20 _ (32, [some (aR 10 k0), some (aI v1), some (aI v2)], [], M)
    obtain ⟨c0, h⟩ := h
    refine gd_s (P := True ∧ True ∧ True ∧ True ∧ True ∧ True ∧ True ∧ True ∧ (vp_in ((v1 * ((6 : Int32))) + v2) (rK M ((k0 + 119) + 1)).2) ∧ True) (σ1 := (46, [some (aR 10 k0), some (aI v1), some (aI v2)], [aI (rI M ((k0 + 119) + 1) ((v1 * ((6 : Int32))) + v2).toNatClampNeg)], M)) tc_20 rfl 9 (fun u => ⟨_, rfl⟩) ⟨trivial, trivial, trivial, trivial, trivial, trivial, trivial, trivial, c0, trivial⟩ ?_
    exact gd_ret tc_20 rfl rfl trivial (fun _ => rfl) ⟨_, rfl, h⟩
  · have h := h.2 hc
    show GxW d w 20 _ _ (22, [some (aR 10 k0), some (aI v1), some (aI v2)], [], M)
    exact gxw_thr (x := 2) tc_20 rfl (by omega) (by omega) (Nat.le_of_ble_eq_true rfl) hN h
theorem tc_21 : tC 21 = c21 := rfl
/-- PolicyJudge.reach(III)I -/
def w_J_reach (post : Int32 → aM → Prop) (ex : Nat → Prop) (k0 : Nat) (v1 : Int32) (v2 : Int32) (v3 : Int32) (M : aM) : Prop := w_J_presentText (fun y1 => w_J_checkIndex (w_J_checkIndex (w_At_requests (fun x4 => ((x4 ≤ ((4096 : Int32))) → w_Sv_search (fun x5 M5 => ((x5 = ((0 : Int32))) → post ((0 : Int32)) M5) ∧ (¬ (x5 = ((0 : Int32))) → post ((1 : Int32)) M5)) (k0 + 119) y1 v2 v3 M) ∧ (¬ (x4 ≤ ((4096 : Int32))) → post ((-3 : Int32)) M)) (y1 + 1) M) ex v3 ((6 : Int32)) M) ex v2 (rI M (y1 + 9) 0) M) ex k0 v1 M
theorem g_J_reach {d w : Nat} (hd : 105 ≤ d) (hw : 3026 ≤ w) {post : Int32 → aM → Prop} {ex : Nat → Prop} {k0 : Nat} {v1 : Int32} {v2 : Int32} {v3 : Int32} {M : aM} (hN : 0 < aN M) (h : w_J_reach post ex k0 v1 v2 v3 M) : GxW d w 21 (pI post) ex (0, aEnt 21 [aR 10 k0, aI v1, aI v2, aI v3], [], M) := by
  unfold w_J_reach at h
  show GxW d w 21 _ _ (0, [some (aR 10 k0), some (aI v1), some (aI v2), some (aI v3), none], [], M)
  refine gxw_s (P := True ∧ True ∧ True) (pc1 := 2) (L1 := [some (aR 10 k0), some (aI v1), some (aI v2), some (aI v3), none]) (st1 := [aI v1, aR 10 k0]) tc_21 rfl 2 rfl ⟨trivial, trivial, trivial⟩ ?_
  refine gxw_call (ml := 2) (as := [aR 10 k0, aI v1]) (rest := []) tc_21 rfl rfl rfl rfl rfl (by omega) (by omega) (Nat.le_of_ble_eq_true rfl) rfl (by decide +kernel) (g_J_presentText (by omega) (by omega) hN h) (fun r9 h => ?_)
  obtain ⟨y1, rfl, h⟩ := h
  show GxW d w 21 _ _ (5, [some (aR 10 k0), some (aI v1), some (aI v2), some (aI v3), none], [aR 13 y1], M)
  refine gxw_s (P := True ∧ True ∧ True ∧ True ∧ True ∧ True) (pc1 := 16) (L1 := [some (aR 10 k0), some (aI v1), some (aI v2), some (aI v3), some (aR 13 y1)]) (st1 := [aI (rI M (y1 + 9) 0), aI v2]) tc_21 rfl 5 rfl ⟨trivial, trivial, trivial, trivial, trivial, trivial⟩ ?_
  refine gxw_call (ml := 2) (as := [aI v2, aI (rI M (y1 + 9) 0)]) (rest := []) tc_21 rfl rfl rfl rfl rfl (by omega) (by omega) (Nat.le_of_ble_eq_true rfl) rfl (by decide +kernel) (g_J_checkIndex (by omega) (by omega) hN h) (fun r9 h => ?_)
  obtain ⟨rfl, h⟩ := h
  show GxW d w 21 _ _ (19, [some (aR 10 k0), some (aI v1), some (aI v2), some (aI v3), some (aR 13 y1)], [], M)
  refine gxw_s (P := True ∧ True ∧ True) (pc1 := 22) (L1 := [some (aR 10 k0), some (aI v1), some (aI v2), some (aI v3), some (aR 13 y1)]) (st1 := [aI ((6 : Int32)), aI v3]) tc_21 rfl 2 rfl ⟨trivial, trivial, trivial⟩ ?_
  refine gxw_call (ml := 2) (as := [aI v3, aI ((6 : Int32))]) (rest := []) tc_21 rfl rfl rfl rfl rfl (by omega) (by omega) (Nat.le_of_ble_eq_true rfl) rfl (by decide +kernel) (g_J_checkIndex (by omega) (by omega) hN h) (fun r9 h => ?_)
  obtain ⟨rfl, h⟩ := h
  refine gxw_d ?_
  show Gd d w 21 _ (25, [some (aR 10 k0), some (aI v1), some (aI v2), some (aI v3), some (aR 13 y1)], [], M)
  refine gd_s (P := True ∧ True ∧ True) (σ1 := (30, [some (aR 10 k0), some (aI v1), some (aI v2), some (aI v3), some (aR 13 y1)], [aR 14 (y1 + 1)], M)) tc_21 rfl 2 (fun u => ⟨_, rfl⟩) ⟨trivial, trivial, trivial⟩ ?_
  refine gd_callN (ml := 3) (as := [aR 14 (y1 + 1)]) (rest := []) tc_21 rfl rfl rfl rfl rfl (by omega) (by omega) (Nat.le_of_ble_eq_true rfl) rfl (g_At_requests (by omega) (by omega) h) (fun r9 M9 h => ?_)
  obtain ⟨x4, rfl, e9, h⟩ := h
  subst M9
  show Gd d w 21 _ (33, [some (aR 10 k0), some (aI v1), some (aI v2), some (aI v3), some (aR 13 y1)], [aI x4], M)
  refine gd_s (P := True ∧ True) (σ1 := (36, [some (aR 10 k0), some (aI v1), some (aI v2), some (aI v3), some (aR 13 y1)], [aI ((4096 : Int32)), aI x4], M)) tc_21 rfl 1 (fun u => ⟨_, rfl⟩) ⟨trivial, trivial⟩ ?_
  refine gd_br (c := x4 ≤ ((4096 : Int32))) (st1 := []) tc_21 rfl rfl (fun _ => rfl) ⟨fun hc => ?_, fun hc => ?_⟩
  · have h := h.1 hc
    show Gd d w 21 _ (42, [some (aR 10 k0), some (aI v1), some (aI v2), some (aI v3), some (aR 13 y1)], [], M)
    refine gd_s (P := True ∧ True ∧ True ∧ True ∧ True ∧ True) (σ1 := (50, [some (aR 10 k0), some (aI v1), some (aI v2), some (aI v3), some (aR 13 y1)], [aI v3, aI v2, aR 13 y1, aR 19 (k0 + 119)], M)) tc_21 rfl 5 (fun u => ⟨_, rfl⟩) ⟨trivial, trivial, trivial, trivial, trivial, trivial⟩ ?_
    refine gd_callN (ml := 6) (as := [aR 19 (k0 + 119), aR 13 y1, aI v2, aI v3]) (rest := []) tc_21 rfl rfl rfl rfl rfl (by omega) (by omega) (Nat.le_of_ble_eq_true rfl) rfl (g_Sv_search (by omega) (by omega) h) (fun r9 M5 h => ?_)
    obtain ⟨x5, rfl, h⟩ := h
    show Gd d w 21 _ (53, [some (aR 10 k0), some (aI v1), some (aI v2), some (aI v3), some (aR 13 y1)], [aI x5], M5)
    refine gd_br (c := x5 = ((0 : Int32))) (st1 := []) tc_21 rfl rfl (fun _ => rfl) ⟨fun hc => ?_, fun hc => ?_⟩
    · have h := h.1 hc
      show Gd d w 21 _ (60, [some (aR 10 k0), some (aI v1), some (aI v2), some (aI v3), some (aR 13 y1)], [], M5)
      refine gd_s (P := True ∧ True) (σ1 := (61, [some (aR 10 k0), some (aI v1), some (aI v2), some (aI v3), some (aR 13 y1)], [aI ((0 : Int32))], M5)) tc_21 rfl 1 (fun u => ⟨_, rfl⟩) ⟨trivial, trivial⟩ ?_
      exact gd_ret tc_21 rfl rfl trivial (fun _ => rfl) ⟨_, rfl, h⟩
    · have h := h.2 hc
      show Gd d w 21 _ (56, [some (aR 10 k0), some (aI v1), some (aI v2), some (aI v3), some (aR 13 y1)], [], M5)
      refine gd_s (P := True ∧ True ∧ True) (σ1 := (61, [some (aR 10 k0), some (aI v1), some (aI v2), some (aI v3), some (aR 13 y1)], [aI ((1 : Int32))], M5)) tc_21 rfl 2 (fun u => ⟨_, rfl⟩) ⟨trivial, trivial, trivial⟩ ?_
      exact gd_ret tc_21 rfl rfl trivial (fun _ => rfl) ⟨_, rfl, h⟩
  · have h := h.2 hc
    show Gd d w 21 _ (39, [some (aR 10 k0), some (aI v1), some (aI v2), some (aI v3), some (aR 13 y1)], [], M)
    refine gd_s (P := True ∧ True) (σ1 := (41, [some (aR 10 k0), some (aI v1), some (aI v2), some (aI v3), some (aR 13 y1)], [aI ((-3 : Int32))], M)) tc_21 rfl 1 (fun u => ⟨_, rfl⟩) ⟨trivial, trivial⟩ ?_
    exact gd_ret tc_21 rfl rfl trivial (fun _ => rfl) ⟨_, rfl, h⟩
theorem tc_22 : tC 22 = c22 := rfl
/-- PolicyJudge.witness(I)I -/
def w_J_witness (post : Int32 → aM → Prop) (ex : Nat → Prop) (k0 : Nat) (v1 : Int32) (M : aM) : Prop := w_J_checkIndex ((vp_in v1 (rK M ((k0 + 119) + 2)).2) ∧ post (rI M ((k0 + 119) + 2) v1.toNatClampNeg) M) ex v1 (rI M (k0 + 119) 2) M
theorem g_J_witness {d w : Nat} (hd : 7 ≤ d) (hw : 121 ≤ w) {post : Int32 → aM → Prop} {ex : Nat → Prop} {k0 : Nat} {v1 : Int32} {M : aM} (hN : 0 < aN M) (h : w_J_witness post ex k0 v1 M) : GxW d w 22 (pI post) ex (0, aEnt 22 [aR 10 k0, aI v1], [], M) := by
  unfold w_J_witness at h
  show GxW d w 22 _ _ (0, [some (aR 10 k0), some (aI v1)], [], M)
  refine gxw_s (P := True ∧ True ∧ True ∧ True ∧ True) (pc1 := 8) (L1 := [some (aR 10 k0), some (aI v1)]) (st1 := [aI (rI M (k0 + 119) 2), aI v1]) tc_22 rfl 4 rfl ⟨trivial, trivial, trivial, trivial, trivial⟩ ?_
  refine gxw_call (ml := 2) (as := [aI v1, aI (rI M (k0 + 119) 2)]) (rest := []) tc_22 rfl rfl rfl rfl rfl (by omega) (by omega) (Nat.le_of_ble_eq_true rfl) rfl (by decide +kernel) (g_J_checkIndex (by omega) (by omega) hN h) (fun r9 h => ?_)
  obtain ⟨rfl, h⟩ := h
  refine gxw_d ?_
  show Gd d w 22 _ (11, [some (aR 10 k0), some (aI v1)], [], M)
  obtain ⟨c0, h⟩ := h
  refine gd_s (P := True ∧ True ∧ True ∧ True ∧ (vp_in v1 (rK M ((k0 + 119) + 2)).2) ∧ True) (σ1 := (20, [some (aR 10 k0), some (aI v1)], [aI (rI M ((k0 + 119) + 2) v1.toNatClampNeg)], M)) tc_22 rfl 5 (fun u => ⟨_, rfl⟩) ⟨trivial, trivial, trivial, trivial, c0, trivial⟩ ?_
  exact gd_ret tc_22 rfl rfl trivial (fun _ => rfl) ⟨_, rfl, h⟩
theorem tc_23 : tC 23 = c23 := rfl
/-- PolicyJudge.print(I)I -/
def w_J_print (post : Int32 → aM → Prop) (ex : Nat → Prop) (k0 : Nat) (v1 : Int32) (M : aM) : Prop := w_J_neededText (fun y1 => w_Pr_write (fun M2 => post (rI M2 (k0 + 130) 1) M2) (k0 + 130) y1 M) ex k0 v1 M
theorem g_J_print {d w : Nat} (hd : 157 ≤ d) (hw : 4209 ≤ w) {post : Int32 → aM → Prop} {ex : Nat → Prop} {k0 : Nat} {v1 : Int32} {M : aM} (hN : 0 < aN M) (h : w_J_print post ex k0 v1 M) : GxW d w 23 (pI post) ex (0, aEnt 23 [aR 10 k0, aI v1], [], M) := by
  unfold w_J_print at h
  show GxW d w 23 _ _ (0, [some (aR 10 k0), some (aI v1)], [], M)
  refine gxw_s (P := True ∧ True ∧ True ∧ True ∧ True) (pc1 := 6) (L1 := [some (aR 10 k0), some (aI v1)]) (st1 := [aI v1, aR 10 k0, aR 20 (k0 + 130)]) tc_23 rfl 4 rfl ⟨trivial, trivial, trivial, trivial, trivial⟩ ?_
  refine gxw_call (ml := 2) (as := [aR 10 k0, aI v1]) (rest := [aR 20 (k0 + 130)]) tc_23 rfl rfl rfl rfl rfl (by omega) (by omega) (Nat.le_of_ble_eq_true rfl) rfl (by decide +kernel) (g_J_neededText (by omega) (by omega) hN h) (fun r9 h => ?_)
  obtain ⟨y1, rfl, h⟩ := h
  refine gxw_d ?_
  show Gd d w 23 _ (9, [some (aR 10 k0), some (aI v1)], [aR 13 y1, aR 20 (k0 + 130)], M)
  refine gd_callN (ml := 3) (as := [aR 20 (k0 + 130), aR 13 y1]) (rest := []) tc_23 rfl rfl rfl rfl rfl (by omega) (by omega) (Nat.le_of_ble_eq_true rfl) rfl (g_Pr_write (by omega) (by omega) h) (fun r9 M2 h => ?_)
  obtain ⟨rfl, h⟩ := h
  show Gd d w 23 _ (12, [some (aR 10 k0), some (aI v1)], [], M2)
  refine gd_s (P := True ∧ True ∧ True ∧ True) (σ1 := (19, [some (aR 10 k0), some (aI v1)], [aI (rI M2 (k0 + 130) 1)], M2)) tc_23 rfl 3 (fun u => ⟨_, rfl⟩) ⟨trivial, trivial, trivial, trivial⟩ ?_
  exact gd_ret tc_23 rfl rfl trivial (fun _ => rfl) ⟨_, rfl, h⟩
theorem tc_24 : tC 24 = c24 := rfl
/-- PolicyJudge.out(I)I -/
def w_J_out (post : Int32 → aM → Prop) (ex : Nat → Prop) (k0 : Nat) (v1 : Int32) (M : aM) : Prop := w_J_checkIndex ((vp_in v1 (rK M ((k0 + 130) + 1)).2) ∧ post (rI M ((k0 + 130) + 1) v1.toNatClampNeg) M) ex v1 (rI M (k0 + 130) 1) M
theorem g_J_out {d w : Nat} (hd : 7 ≤ d) (hw : 121 ≤ w) {post : Int32 → aM → Prop} {ex : Nat → Prop} {k0 : Nat} {v1 : Int32} {M : aM} (hN : 0 < aN M) (h : w_J_out post ex k0 v1 M) : GxW d w 24 (pI post) ex (0, aEnt 24 [aR 10 k0, aI v1], [], M) := by
  unfold w_J_out at h
  show GxW d w 24 _ _ (0, [some (aR 10 k0), some (aI v1)], [], M)
  refine gxw_s (P := True ∧ True ∧ True ∧ True ∧ True) (pc1 := 8) (L1 := [some (aR 10 k0), some (aI v1)]) (st1 := [aI (rI M (k0 + 130) 1), aI v1]) tc_24 rfl 4 rfl ⟨trivial, trivial, trivial, trivial, trivial⟩ ?_
  refine gxw_call (ml := 2) (as := [aI v1, aI (rI M (k0 + 130) 1)]) (rest := []) tc_24 rfl rfl rfl rfl rfl (by omega) (by omega) (Nat.le_of_ble_eq_true rfl) rfl (by decide +kernel) (g_J_checkIndex (by omega) (by omega) hN h) (fun r9 h => ?_)
  obtain ⟨rfl, h⟩ := h
  refine gxw_d ?_
  show Gd d w 24 _ (11, [some (aR 10 k0), some (aI v1)], [], M)
  obtain ⟨c0, h⟩ := h
  refine gd_s (P := True ∧ True ∧ True ∧ True ∧ (vp_in v1 (rK M ((k0 + 130) + 1)).2) ∧ True) (σ1 := (20, [some (aR 10 k0), some (aI v1)], [aI (rI M ((k0 + 130) + 1) v1.toNatClampNeg)], M)) tc_24 rfl 5 (fun u => ⟨_, rfl⟩) ⟨trivial, trivial, trivial, trivial, c0, trivial⟩ ?_
  exact gd_ret tc_24 rfl rfl trivial (fun _ => rfl) ⟨_, rfl, h⟩
theorem tc_25 : tC 25 = c25 := rfl
/-- PolicyJudge.again()I -/
def w_J_again (post : Int32 → aM → Prop) (ex : Nat → Prop) (k0 : Nat) (M : aM) : Prop := (((rI M (k0 + 130) 1) ≤ ((6000 : Int32))) → w_Tp_replace (fun M1 => post (rI M1 (k0 + 130) 1) M1) ((k0 + 1) + 1) ((k0 + 130) + 1) (rI M (k0 + 130) 1) M) ∧ (¬ ((rI M (k0 + 130) 1) ≤ ((6000 : Int32))) → ex 2)
theorem g_J_again {d w : Nat} (hd : 7 ≤ d) (hw : 222 ≤ w) {post : Int32 → aM → Prop} {ex : Nat → Prop} {k0 : Nat} {M : aM} (hN : 0 < aN M) (h : w_J_again post ex k0 M) : GxW d w 25 (pI post) ex (0, aEnt 25 [aR 10 k0], [], M) := by
  unfold w_J_again at h
  show GxW d w 25 _ _ (0, [some (aR 10 k0)], [], M)
  refine gxw_s (P := True ∧ True ∧ True ∧ True ∧ True) (pc1 := 10) (L1 := [some (aR 10 k0)]) (st1 := [aI ((6000 : Int32)), aI (rI M (k0 + 130) 1)]) tc_25 rfl 4 rfl ⟨trivial, trivial, trivial, trivial, trivial⟩ ?_
  refine gxw_br (c := (rI M (k0 + 130) 1) ≤ ((6000 : Int32))) (st1 := []) tc_25 rfl rfl (fun _ => rfl) ⟨fun hc => ?_, fun hc => ?_⟩
  · have h := h.1 hc
    refine gxw_d ?_
    show Gd d w 25 _ (23, [some (aR 10 k0)], [], M)
    refine gd_s (P := True ∧ True ∧ True ∧ True ∧ True ∧ True ∧ True ∧ True ∧ True ∧ True) (σ1 := (44, [some (aR 10 k0)], [aI (rI M (k0 + 130) 1), aR 4 ((k0 + 130) + 1), aR 12 ((k0 + 1) + 1)], M)) tc_25 rfl 9 (fun u => ⟨_, rfl⟩) ⟨trivial, trivial, trivial, trivial, trivial, trivial, trivial, trivial, trivial, trivial⟩ ?_
    refine gd_callN (ml := 3) (as := [aR 12 ((k0 + 1) + 1), aR 4 ((k0 + 130) + 1), aI (rI M (k0 + 130) 1)]) (rest := []) tc_25 rfl rfl rfl rfl rfl (by omega) (by omega) (Nat.le_of_ble_eq_true rfl) rfl (g_Tp_replace (by omega) (by omega) h) (fun r9 M1 h => ?_)
    obtain ⟨rfl, h⟩ := h
    show Gd d w 25 _ (47, [some (aR 10 k0)], [], M1)
    refine gd_s (P := True ∧ True ∧ True ∧ True) (σ1 := (54, [some (aR 10 k0)], [aI (rI M1 (k0 + 130) 1)], M1)) tc_25 rfl 3 (fun u => ⟨_, rfl⟩) ⟨trivial, trivial, trivial, trivial⟩ ?_
    exact gd_ret tc_25 rfl rfl trivial (fun _ => rfl) ⟨_, rfl, h⟩
  · have h := h.2 hc
    show GxW d w 25 _ _ (13, [some (aR 10 k0)], [], M)
    exact gxw_thr (x := 2) tc_25 rfl (by omega) (by omega) (Nat.le_of_ble_eq_true rfl) hN h
