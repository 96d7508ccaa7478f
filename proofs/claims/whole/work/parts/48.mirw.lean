set_option maxRecDepth 100000
/-! Mirrors of the law's wrappers. -/
theorem tc_230 : tC 230 = c230 := rfl
/-- PolicyJudgeLaw.feed(LPolicyJudge;IIIII[J)I -/
def w_La_feed (post : Int32 → aM → Prop) (k0 : Nat) (v1 : Int32) (v2 : Int32) (v3 : Int32) (v4 : Int32) (v5 : Int32) (k6 : Nat) (M : aM) : Prop := w_J_feed (fun x1 M1 => (vp_in ((0 : Int32)) (rK M1 k6).2) ∧ post ((0 : Int32)) (wJ M1 k6 ((0 : Int32)).toNatClampNeg x1.toInt64)) (fun e9 => (e9 = 2 ∧ post ((1 : Int32)) (aNew M 3 2 6))) k0 v1 v2 v3 v4 v5 M
theorem g_La_feed {d w : Nat} (hd : 7 ≤ d) (hw : 126 ≤ w) {post : Int32 → aM → Prop} {k0 : Nat} {v1 : Int32} {v2 : Int32} {v3 : Int32} {v4 : Int32} {v5 : Int32} {k6 : Nat} {M : aM} (hN : 0 < aN M) (h : w_La_feed post k0 v1 v2 v3 v4 v5 k6 M) : Gd d w 230 (pI post) (0, aEnt 230 [aR 10 k0, aI v1, aI v2, aI v3, aI v4, aI v5, aR 6 k6], [], M) := by
  unfold w_La_feed at h
  show Gd d w 230 _ (0, [some (aR 10 k0), some (aI v1), some (aI v2), some (aI v3), some (aI v4), some (aI v5), some (aR 6 k6), none], [], M)
  refine gd_s (P := True ∧ True ∧ True ∧ True ∧ True ∧ True ∧ True ∧ True ∧ True) (σ1 := (11, [some (aR 10 k0), some (aI v1), some (aI v2), some (aI v3), some (aI v4), some (aI v5), some (aR 6 k6), none], [aI v5, aI v4, aI v3, aI v2, aI v1, aR 10 k0, aI ((0 : Int32)), aR 6 k6], M)) tc_230 rfl 8 (fun u => ⟨_, rfl⟩) ⟨trivial, trivial, trivial, trivial, trivial, trivial, trivial, trivial, trivial⟩ ?_
  refine gd_callX (ml := 7) (as := [aR 10 k0, aI v1, aI v2, aI v3, aI v4, aI v5]) (rest := [aI ((0 : Int32)), aR 6 k6]) tc_230 rfl rfl rfl rfl rfl (by omega) (by omega) (Nat.le_of_ble_eq_true rfl) rfl (g_J_feed (by omega) (by omega) hN h) (fun r9 M1 h => ?_) (fun e9 h => ?_)
  · obtain ⟨x1, rfl, h⟩ := h
    show Gd d w 230 _ (14, [some (aR 10 k0), some (aI v1), some (aI v2), some (aI v3), some (aI v4), some (aI v5), some (aR 6 k6), none], [aI x1, aI ((0 : Int32)), aR 6 k6], M1)
    obtain ⟨c0, h⟩ := h
    refine gd_s (P := True ∧ (vp_in ((0 : Int32)) (rK M1 k6).2) ∧ True ∧ True ∧ True) (σ1 := (24, [some (aR 10 k0), some (aI v1), some (aI v2), some (aI v3), some (aI v4), some (aI v5), some (aR 6 k6), none], [aI ((0 : Int32))], wJ M1 k6 ((0 : Int32)).toNatClampNeg x1.toInt64)) tc_230 rfl 4 (fun u => ⟨_, rfl⟩) ⟨trivial, c0, trivial, trivial, trivial⟩ ?_
    exact gd_ret tc_230 rfl rfl trivial (fun _ => rfl) ⟨_, rfl, h⟩
  · obtain ⟨rfl, h⟩ := h
    refine ⟨19, rfl, ?_⟩
    show Gd d w 230 _ (19, [some (aR 10 k0), some (aI v1), some (aI v2), some (aI v3), some (aI v4), some (aI v5), some (aR 6 k6), none], [aR 3 (aN M)], aNew M 3 2 6)
    refine gd_s (P := True ∧ True ∧ True) (σ1 := (22, [some (aR 10 k0), some (aI v1), some (aI v2), some (aI v3), some (aI v4), some (aI v5), some (aR 6 k6), some (aR 3 (aN M))], [aI ((1 : Int32))], aNew M 3 2 6)) tc_230 rfl 2 (fun u => ⟨_, rfl⟩) ⟨trivial, trivial, trivial⟩ ?_
    exact gd_ret tc_230 rfl rfl trivial (fun _ => rfl) ⟨_, rfl, h⟩
theorem tc_231 : tC 231 = c231 := rfl
/-- PolicyJudgeLaw.end(LPolicyJudge;I)I -/
def w_La_end (post : Int32 → aM → Prop) (k0 : Nat) (v1 : Int32) (M : aM) : Prop := w_J_end (fun M1 => post ((0 : Int32)) M1) (fun e9 => (e9 = 1 ∧ post ((1 : Int32)) (aNew M 3 1 6))) k0 v1 M
theorem g_La_end {d w : Nat} (hd : 7 ≤ d) (hw : 121 ≤ w) {post : Int32 → aM → Prop} {k0 : Nat} {v1 : Int32} {M : aM} (hN : 0 < aN M) (h : w_La_end post k0 v1 M) : Gd d w 231 (pI post) (0, aEnt 231 [aR 10 k0, aI v1], [], M) := by
  unfold w_La_end at h
  show Gd d w 231 _ (0, [some (aR 10 k0), some (aI v1), none], [], M)
  refine gd_s (P := True ∧ True ∧ True) (σ1 := (2, [some (aR 10 k0), some (aI v1), none], [aI v1, aR 10 k0], M)) tc_231 rfl 2 (fun u => ⟨_, rfl⟩) ⟨trivial, trivial, trivial⟩ ?_
  refine gd_callX (ml := 2) (as := [aR 10 k0, aI v1]) (rest := []) tc_231 rfl rfl rfl rfl rfl (by omega) (by omega) (Nat.le_of_ble_eq_true rfl) rfl (g_J_end (by omega) (by omega) hN h) (fun r9 M1 h => ?_) (fun e9 h => ?_)
  · obtain ⟨rfl, h⟩ := h
    show Gd d w 231 _ (5, [some (aR 10 k0), some (aI v1), none], [], M1)
    refine gd_s (P := True ∧ True ∧ True) (σ1 := (12, [some (aR 10 k0), some (aI v1), none], [aI ((0 : Int32))], M1)) tc_231 rfl 2 (fun u => ⟨_, rfl⟩) ⟨trivial, trivial, trivial⟩ ?_
    exact gd_ret tc_231 rfl rfl trivial (fun _ => rfl) ⟨_, rfl, h⟩
  · obtain ⟨rfl, h⟩ := h
    refine ⟨8, rfl, ?_⟩
    show Gd d w 231 _ (8, [some (aR 10 k0), some (aI v1), none], [aR 3 (aN M)], aNew M 3 1 6)
    refine gd_s (P := True ∧ True ∧ True) (σ1 := (10, [some (aR 10 k0), some (aI v1), some (aR 3 (aN M))], [aI ((1 : Int32))], aNew M 3 1 6)) tc_231 rfl 2 (fun u => ⟨_, rfl⟩) ⟨trivial, trivial, trivial⟩ ?_
    exact gd_ret tc_231 rfl rfl trivial (fun _ => rfl) ⟨_, rfl, h⟩
theorem tc_232 : tC 232 = c232 := rfl
/-- PolicyJudgeLaw.load(LPolicyJudge;I[J)I -/
def w_La_load (post : Int32 → aM → Prop) (k0 : Nat) (v1 : Int32) (k2 : Nat) (M : aM) : Prop := w_J_load (fun x1 M1 => (vp_in ((0 : Int32)) (rK M1 k2).2) ∧ post ((0 : Int32)) (wJ M1 k2 ((0 : Int32)).toNatClampNeg x1.toInt64)) (fun e9 => (e9 = 0 ∧ post ((1 : Int32)) (aNew M 3 0 6))) k0 v1 M
theorem g_La_load {d w : Nat} (hd : 127 ≤ d) (hw : 3523 ≤ w) {post : Int32 → aM → Prop} {k0 : Nat} {v1 : Int32} {k2 : Nat} {M : aM} (hN : 0 < aN M) (h : w_La_load post k0 v1 k2 M) : Gd d w 232 (pI post) (0, aEnt 232 [aR 10 k0, aI v1, aR 6 k2], [], M) := by
  unfold w_La_load at h
  show Gd d w 232 _ (0, [some (aR 10 k0), some (aI v1), some (aR 6 k2), none], [], M)
  refine gd_s (P := True ∧ True ∧ True ∧ True ∧ True) (σ1 := (4, [some (aR 10 k0), some (aI v1), some (aR 6 k2), none], [aI v1, aR 10 k0, aI ((0 : Int32)), aR 6 k2], M)) tc_232 rfl 4 (fun u => ⟨_, rfl⟩) ⟨trivial, trivial, trivial, trivial, trivial⟩ ?_
  refine gd_callX (ml := 2) (as := [aR 10 k0, aI v1]) (rest := [aI ((0 : Int32)), aR 6 k2]) tc_232 rfl rfl rfl rfl rfl (by omega) (by omega) (Nat.le_of_ble_eq_true rfl) rfl (g_J_load (by omega) (by omega) hN h) (fun r9 M1 h => ?_) (fun e9 h => ?_)
  · obtain ⟨x1, rfl, h⟩ := h
    show Gd d w 232 _ (7, [some (aR 10 k0), some (aI v1), some (aR 6 k2), none], [aI x1, aI ((0 : Int32)), aR 6 k2], M1)
    obtain ⟨c0, h⟩ := h
    refine gd_s (P := True ∧ (vp_in ((0 : Int32)) (rK M1 k2).2) ∧ True ∧ True ∧ True) (σ1 := (16, [some (aR 10 k0), some (aI v1), some (aR 6 k2), none], [aI ((0 : Int32))], wJ M1 k2 ((0 : Int32)).toNatClampNeg x1.toInt64)) tc_232 rfl 4 (fun u => ⟨_, rfl⟩) ⟨trivial, c0, trivial, trivial, trivial⟩ ?_
    exact gd_ret tc_232 rfl rfl trivial (fun _ => rfl) ⟨_, rfl, h⟩
  · obtain ⟨rfl, h⟩ := h
    refine ⟨12, rfl, ?_⟩
    show Gd d w 232 _ (12, [some (aR 10 k0), some (aI v1), some (aR 6 k2), none], [aR 3 (aN M)], aNew M 3 0 6)
    refine gd_s (P := True ∧ True ∧ True) (σ1 := (14, [some (aR 10 k0), some (aI v1), some (aR 6 k2), some (aR 3 (aN M))], [aI ((1 : Int32))], aNew M 3 0 6)) tc_232 rfl 2 (fun u => ⟨_, rfl⟩) ⟨trivial, trivial, trivial⟩ ?_
    exact gd_ret tc_232 rfl rfl trivial (fun _ => rfl) ⟨_, rfl, h⟩
theorem tc_233 : tC 233 = c233 := rfl
/-- PolicyJudgeLaw.count(LPolicyJudge;II[J)I -/
def w_La_count (post : Int32 → aM → Prop) (k0 : Nat) (v1 : Int32) (v2 : Int32) (k3 : Nat) (M : aM) : Prop := w_J_count (fun x1 M1 => (vp_in ((0 : Int32)) (rK M1 k3).2) ∧ post ((0 : Int32)) (wJ M1 k3 ((0 : Int32)).toNatClampNeg x1.toInt64)) (fun e9 => (e9 = 0 ∧ post ((1 : Int32)) (aNew M 3 0 6))) k0 v1 v2 M
theorem g_La_count {d w : Nat} (hd : 8 ≤ d) (hw : 144 ≤ w) {post : Int32 → aM → Prop} {k0 : Nat} {v1 : Int32} {v2 : Int32} {k3 : Nat} {M : aM} (hN : 0 < aN M) (h : w_La_count post k0 v1 v2 k3 M) : Gd d w 233 (pI post) (0, aEnt 233 [aR 10 k0, aI v1, aI v2, aR 6 k3], [], M) := by
  unfold w_La_count at h
  show Gd d w 233 _ (0, [some (aR 10 k0), some (aI v1), some (aI v2), some (aR 6 k3), none], [], M)
  refine gd_s (P := True ∧ True ∧ True ∧ True ∧ True ∧ True) (σ1 := (5, [some (aR 10 k0), some (aI v1), some (aI v2), some (aR 6 k3), none], [aI v2, aI v1, aR 10 k0, aI ((0 : Int32)), aR 6 k3], M)) tc_233 rfl 5 (fun u => ⟨_, rfl⟩) ⟨trivial, trivial, trivial, trivial, trivial, trivial⟩ ?_
  refine gd_callX (ml := 4) (as := [aR 10 k0, aI v1, aI v2]) (rest := [aI ((0 : Int32)), aR 6 k3]) tc_233 rfl rfl rfl rfl rfl (by omega) (by omega) (Nat.le_of_ble_eq_true rfl) rfl (g_J_count (by omega) (by omega) hN h) (fun r9 M1 h => ?_) (fun e9 h => ?_)
  · obtain ⟨x1, rfl, h⟩ := h
    show Gd d w 233 _ (8, [some (aR 10 k0), some (aI v1), some (aI v2), some (aR 6 k3), none], [aI x1, aI ((0 : Int32)), aR 6 k3], M1)
    obtain ⟨c0, h⟩ := h
    refine gd_s (P := True ∧ (vp_in ((0 : Int32)) (rK M1 k3).2) ∧ True ∧ True ∧ True) (σ1 := (18, [some (aR 10 k0), some (aI v1), some (aI v2), some (aR 6 k3), none], [aI ((0 : Int32))], wJ M1 k3 ((0 : Int32)).toNatClampNeg x1.toInt64)) tc_233 rfl 4 (fun u => ⟨_, rfl⟩) ⟨trivial, c0, trivial, trivial, trivial⟩ ?_
    exact gd_ret tc_233 rfl rfl trivial (fun _ => rfl) ⟨_, rfl, h⟩
  · obtain ⟨rfl, h⟩ := h
    refine ⟨13, rfl, ?_⟩
    show Gd d w 233 _ (13, [some (aR 10 k0), some (aI v1), some (aI v2), some (aR 6 k3), none], [aR 3 (aN M)], aNew M 3 0 6)
    refine gd_s (P := True ∧ True ∧ True) (σ1 := (16, [some (aR 10 k0), some (aI v1), some (aI v2), some (aR 6 k3), some (aR 3 (aN M))], [aI ((1 : Int32))], aNew M 3 0 6)) tc_233 rfl 2 (fun u => ⟨_, rfl⟩) ⟨trivial, trivial, trivial⟩ ?_
    exact gd_ret tc_233 rfl rfl trivial (fun _ => rfl) ⟨_, rfl, h⟩
theorem tc_234 : tC 234 = c234 := rfl
/-- PolicyJudgeLaw.node(LPolicyJudge;III[J)I -/
def w_La_node (post : Int32 → aM → Prop) (k0 : Nat) (v1 : Int32) (v2 : Int32) (v3 : Int32) (k4 : Nat) (M : aM) : Prop := w_J_node (fun x1 M1 => (vp_in ((0 : Int32)) (rK M1 k4).2) ∧ post ((0 : Int32)) (wJ M1 k4 ((0 : Int32)).toNatClampNeg x1.toInt64)) (fun e9 => (e9 = 0 ∧ post ((1 : Int32)) (aNew M 3 0 6))) k0 v1 v2 v3 M
theorem g_La_node {d w : Nat} (hd : 9 ≤ d) (hw : 165 ≤ w) {post : Int32 → aM → Prop} {k0 : Nat} {v1 : Int32} {v2 : Int32} {v3 : Int32} {k4 : Nat} {M : aM} (hN : 0 < aN M) (h : w_La_node post k0 v1 v2 v3 k4 M) : Gd d w 234 (pI post) (0, aEnt 234 [aR 10 k0, aI v1, aI v2, aI v3, aR 6 k4], [], M) := by
  unfold w_La_node at h
  show Gd d w 234 _ (0, [some (aR 10 k0), some (aI v1), some (aI v2), some (aI v3), some (aR 6 k4), none], [], M)
  refine gd_s (P := True ∧ True ∧ True ∧ True ∧ True ∧ True ∧ True) (σ1 := (7, [some (aR 10 k0), some (aI v1), some (aI v2), some (aI v3), some (aR 6 k4), none], [aI v3, aI v2, aI v1, aR 10 k0, aI ((0 : Int32)), aR 6 k4], M)) tc_234 rfl 6 (fun u => ⟨_, rfl⟩) ⟨trivial, trivial, trivial, trivial, trivial, trivial, trivial⟩ ?_
  refine gd_callX (ml := 5) (as := [aR 10 k0, aI v1, aI v2, aI v3]) (rest := [aI ((0 : Int32)), aR 6 k4]) tc_234 rfl rfl rfl rfl rfl (by omega) (by omega) (Nat.le_of_ble_eq_true rfl) rfl (g_J_node (by omega) (by omega) hN h) (fun r9 M1 h => ?_) (fun e9 h => ?_)
  · obtain ⟨x1, rfl, h⟩ := h
    show Gd d w 234 _ (10, [some (aR 10 k0), some (aI v1), some (aI v2), some (aI v3), some (aR 6 k4), none], [aI x1, aI ((0 : Int32)), aR 6 k4], M1)
    obtain ⟨c0, h⟩ := h
    refine gd_s (P := True ∧ (vp_in ((0 : Int32)) (rK M1 k4).2) ∧ True ∧ True ∧ True) (σ1 := (20, [some (aR 10 k0), some (aI v1), some (aI v2), some (aI v3), some (aR 6 k4), none], [aI ((0 : Int32))], wJ M1 k4 ((0 : Int32)).toNatClampNeg x1.toInt64)) tc_234 rfl 4 (fun u => ⟨_, rfl⟩) ⟨trivial, c0, trivial, trivial, trivial⟩ ?_
    exact gd_ret tc_234 rfl rfl trivial (fun _ => rfl) ⟨_, rfl, h⟩
  · obtain ⟨rfl, h⟩ := h
    refine ⟨15, rfl, ?_⟩
    show Gd d w 234 _ (15, [some (aR 10 k0), some (aI v1), some (aI v2), some (aI v3), some (aR 6 k4), none], [aR 3 (aN M)], aNew M 3 0 6)
    refine gd_s (P := True ∧ True ∧ True) (σ1 := (18, [some (aR 10 k0), some (aI v1), some (aI v2), some (aI v3), some (aR 6 k4), some (aR 3 (aN M))], [aI ((1 : Int32))], aNew M 3 0 6)) tc_234 rfl 2 (fun u => ⟨_, rfl⟩) ⟨trivial, trivial, trivial⟩ ?_
    exact gd_ret tc_234 rfl rfl trivial (fun _ => rfl) ⟨_, rfl, h⟩
theorem tc_235 : tC 235 = c235 := rfl
/-- PolicyJudgeLaw.name(LPolicyJudge;IIII[J)I -/
def w_La_name (post : Int32 → aM → Prop) (k0 : Nat) (v1 : Int32) (v2 : Int32) (v3 : Int32) (v4 : Int32) (k5 : Nat) (M : aM) : Prop := w_J_name (fun x1 M1 => (vp_in ((0 : Int32)) (rK M1 k5).2) ∧ post ((0 : Int32)) (wJ M1 k5 ((0 : Int32)).toNatClampNeg x1.toInt64)) (fun e9 => (e9 = 0 ∧ post ((1 : Int32)) (aNew M 3 0 6))) k0 v1 v2 v3 v4 M
theorem g_La_name {d w : Nat} (hd : 9 ≤ d) (hw : 167 ≤ w) {post : Int32 → aM → Prop} {k0 : Nat} {v1 : Int32} {v2 : Int32} {v3 : Int32} {v4 : Int32} {k5 : Nat} {M : aM} (hN : 0 < aN M) (h : w_La_name post k0 v1 v2 v3 v4 k5 M) : Gd d w 235 (pI post) (0, aEnt 235 [aR 10 k0, aI v1, aI v2, aI v3, aI v4, aR 6 k5], [], M) := by
  unfold w_La_name at h
  show Gd d w 235 _ (0, [some (aR 10 k0), some (aI v1), some (aI v2), some (aI v3), some (aI v4), some (aR 6 k5), none], [], M)
  refine gd_s (P := True ∧ True ∧ True ∧ True ∧ True ∧ True ∧ True ∧ True) (σ1 := (9, [some (aR 10 k0), some (aI v1), some (aI v2), some (aI v3), some (aI v4), some (aR 6 k5), none], [aI v4, aI v3, aI v2, aI v1, aR 10 k0, aI ((0 : Int32)), aR 6 k5], M)) tc_235 rfl 7 (fun u => ⟨_, rfl⟩) ⟨trivial, trivial, trivial, trivial, trivial, trivial, trivial, trivial⟩ ?_
  refine gd_callX (ml := 7) (as := [aR 10 k0, aI v1, aI v2, aI v3, aI v4]) (rest := [aI ((0 : Int32)), aR 6 k5]) tc_235 rfl rfl rfl rfl rfl (by omega) (by omega) (Nat.le_of_ble_eq_true rfl) rfl (g_J_name (by omega) (by omega) hN h) (fun r9 M1 h => ?_) (fun e9 h => ?_)
  · obtain ⟨x1, rfl, h⟩ := h
    show Gd d w 235 _ (12, [some (aR 10 k0), some (aI v1), some (aI v2), some (aI v3), some (aI v4), some (aR 6 k5), none], [aI x1, aI ((0 : Int32)), aR 6 k5], M1)
    obtain ⟨c0, h⟩ := h
    refine gd_s (P := True ∧ (vp_in ((0 : Int32)) (rK M1 k5).2) ∧ True ∧ True ∧ True) (σ1 := (22, [some (aR 10 k0), some (aI v1), some (aI v2), some (aI v3), some (aI v4), some (aR 6 k5), none], [aI ((0 : Int32))], wJ M1 k5 ((0 : Int32)).toNatClampNeg x1.toInt64)) tc_235 rfl 4 (fun u => ⟨_, rfl⟩) ⟨trivial, c0, trivial, trivial, trivial⟩ ?_
    exact gd_ret tc_235 rfl rfl trivial (fun _ => rfl) ⟨_, rfl, h⟩
  · obtain ⟨rfl, h⟩ := h
    refine ⟨17, rfl, ?_⟩
    show Gd d w 235 _ (17, [some (aR 10 k0), some (aI v1), some (aI v2), some (aI v3), some (aI v4), some (aR 6 k5), none], [aR 3 (aN M)], aNew M 3 0 6)
    refine gd_s (P := True ∧ True ∧ True) (σ1 := (20, [some (aR 10 k0), some (aI v1), some (aI v2), some (aI v3), some (aI v4), some (aR 6 k5), some (aR 3 (aN M))], [aI ((1 : Int32))], aNew M 3 0 6)) tc_235 rfl 2 (fun u => ⟨_, rfl⟩) ⟨trivial, trivial, trivial⟩ ?_
    exact gd_ret tc_235 rfl rfl trivial (fun _ => rfl) ⟨_, rfl, h⟩
theorem tc_236 : tC 236 = c236 := rfl
/-- PolicyJudgeLaw.attribute(LPolicyJudge;III[J)I -/
def w_La_attribute (post : Int32 → aM → Prop) (k0 : Nat) (v1 : Int32) (v2 : Int32) (v3 : Int32) (k4 : Nat) (M : aM) : Prop := w_J_attribute (fun x1 M1 => (vp_in ((0 : Int32)) (rK M1 k4).2) ∧ post ((0 : Int32)) (wJ M1 k4 ((0 : Int32)).toNatClampNeg x1.toInt64)) (fun e9 => (e9 = 0 ∧ post ((1 : Int32)) (aNew M 3 0 6))) k0 v1 v2 v3 M
theorem g_La_attribute {d w : Nat} (hd : 9 ≤ d) (hw : 165 ≤ w) {post : Int32 → aM → Prop} {k0 : Nat} {v1 : Int32} {v2 : Int32} {v3 : Int32} {k4 : Nat} {M : aM} (hN : 0 < aN M) (h : w_La_attribute post k0 v1 v2 v3 k4 M) : Gd d w 236 (pI post) (0, aEnt 236 [aR 10 k0, aI v1, aI v2, aI v3, aR 6 k4], [], M) := by
  unfold w_La_attribute at h
  show Gd d w 236 _ (0, [some (aR 10 k0), some (aI v1), some (aI v2), some (aI v3), some (aR 6 k4), none], [], M)
  refine gd_s (P := True ∧ True ∧ True ∧ True ∧ True ∧ True ∧ True) (σ1 := (7, [some (aR 10 k0), some (aI v1), some (aI v2), some (aI v3), some (aR 6 k4), none], [aI v3, aI v2, aI v1, aR 10 k0, aI ((0 : Int32)), aR 6 k4], M)) tc_236 rfl 6 (fun u => ⟨_, rfl⟩) ⟨trivial, trivial, trivial, trivial, trivial, trivial, trivial⟩ ?_
  refine gd_callX (ml := 5) (as := [aR 10 k0, aI v1, aI v2, aI v3]) (rest := [aI ((0 : Int32)), aR 6 k4]) tc_236 rfl rfl rfl rfl rfl (by omega) (by omega) (Nat.le_of_ble_eq_true rfl) rfl (g_J_attribute (by omega) (by omega) hN h) (fun r9 M1 h => ?_) (fun e9 h => ?_)
  · obtain ⟨x1, rfl, h⟩ := h
    show Gd d w 236 _ (10, [some (aR 10 k0), some (aI v1), some (aI v2), some (aI v3), some (aR 6 k4), none], [aI x1, aI ((0 : Int32)), aR 6 k4], M1)
    obtain ⟨c0, h⟩ := h
    refine gd_s (P := True ∧ (vp_in ((0 : Int32)) (rK M1 k4).2) ∧ True ∧ True ∧ True) (σ1 := (20, [some (aR 10 k0), some (aI v1), some (aI v2), some (aI v3), some (aR 6 k4), none], [aI ((0 : Int32))], wJ M1 k4 ((0 : Int32)).toNatClampNeg x1.toInt64)) tc_236 rfl 4 (fun u => ⟨_, rfl⟩) ⟨trivial, c0, trivial, trivial, trivial⟩ ?_
    exact gd_ret tc_236 rfl rfl trivial (fun _ => rfl) ⟨_, rfl, h⟩
  · obtain ⟨rfl, h⟩ := h
    refine ⟨15, rfl, ?_⟩
    show Gd d w 236 _ (15, [some (aR 10 k0), some (aI v1), some (aI v2), some (aI v3), some (aR 6 k4), none], [aR 3 (aN M)], aNew M 3 0 6)
    refine gd_s (P := True ∧ True ∧ True) (σ1 := (18, [some (aR 10 k0), some (aI v1), some (aI v2), some (aI v3), some (aR 6 k4), some (aR 3 (aN M))], [aI ((1 : Int32))], aNew M 3 0 6)) tc_236 rfl 2 (fun u => ⟨_, rfl⟩) ⟨trivial, trivial, trivial⟩ ?_
    exact gd_ret tc_236 rfl rfl trivial (fun _ => rfl) ⟨_, rfl, h⟩
theorem tc_237 : tC 237 = c237 := rfl
/-- PolicyJudgeLaw.bag(LPolicyJudge;III[J)I -/
def w_La_bag (post : Int32 → aM → Prop) (k0 : Nat) (v1 : Int32) (v2 : Int32) (v3 : Int32) (k4 : Nat) (M : aM) : Prop := w_J_bag (fun x1 M1 => (vp_in ((0 : Int32)) (rK M1 k4).2) ∧ post ((0 : Int32)) (wJ M1 k4 ((0 : Int32)).toNatClampNeg x1.toInt64)) (fun e9 => (e9 = 0 ∧ post ((1 : Int32)) (aNew M 3 0 6)) ∨ (e9 = 1 ∧ post ((2 : Int32)) (aNew M 3 1 6))) k0 v1 v2 v3 M
theorem g_La_bag {d w : Nat} (hd : 9 ≤ d) (hw : 166 ≤ w) {post : Int32 → aM → Prop} {k0 : Nat} {v1 : Int32} {v2 : Int32} {v3 : Int32} {k4 : Nat} {M : aM} (hN : 0 < aN M) (h : w_La_bag post k0 v1 v2 v3 k4 M) : Gd d w 237 (pI post) (0, aEnt 237 [aR 10 k0, aI v1, aI v2, aI v3, aR 6 k4], [], M) := by
  unfold w_La_bag at h
  show Gd d w 237 _ (0, [some (aR 10 k0), some (aI v1), some (aI v2), some (aI v3), some (aR 6 k4), none], [], M)
  refine gd_s (P := True ∧ True ∧ True ∧ True ∧ True ∧ True ∧ True) (σ1 := (7, [some (aR 10 k0), some (aI v1), some (aI v2), some (aI v3), some (aR 6 k4), none], [aI v3, aI v2, aI v1, aR 10 k0, aI ((0 : Int32)), aR 6 k4], M)) tc_237 rfl 6 (fun u => ⟨_, rfl⟩) ⟨trivial, trivial, trivial, trivial, trivial, trivial, trivial⟩ ?_
  refine gd_callX (ml := 6) (as := [aR 10 k0, aI v1, aI v2, aI v3]) (rest := [aI ((0 : Int32)), aR 6 k4]) tc_237 rfl rfl rfl rfl rfl (by omega) (by omega) (Nat.le_of_ble_eq_true rfl) rfl (g_J_bag (by omega) (by omega) hN h) (fun r9 M1 h => ?_) (fun e9 h => ?_)
  · obtain ⟨x1, rfl, h⟩ := h
    show Gd d w 237 _ (10, [some (aR 10 k0), some (aI v1), some (aI v2), some (aI v3), some (aR 6 k4), none], [aI x1, aI ((0 : Int32)), aR 6 k4], M1)
    obtain ⟨c0, h⟩ := h
    refine gd_s (P := True ∧ (vp_in ((0 : Int32)) (rK M1 k4).2) ∧ True ∧ True ∧ True) (σ1 := (24, [some (aR 10 k0), some (aI v1), some (aI v2), some (aI v3), some (aR 6 k4), none], [aI ((0 : Int32))], wJ M1 k4 ((0 : Int32)).toNatClampNeg x1.toInt64)) tc_237 rfl 4 (fun u => ⟨_, rfl⟩) ⟨trivial, c0, trivial, trivial, trivial⟩ ?_
    exact gd_ret tc_237 rfl rfl trivial (fun _ => rfl) ⟨_, rfl, h⟩
  · rcases h with ⟨rfl, h⟩ | ⟨rfl, h⟩
    · refine ⟨15, rfl, ?_⟩
      show Gd d w 237 _ (15, [some (aR 10 k0), some (aI v1), some (aI v2), some (aI v3), some (aR 6 k4), none], [aR 3 (aN M)], aNew M 3 0 6)
      refine gd_s (P := True ∧ True ∧ True) (σ1 := (18, [some (aR 10 k0), some (aI v1), some (aI v2), some (aI v3), some (aR 6 k4), some (aR 3 (aN M))], [aI ((1 : Int32))], aNew M 3 0 6)) tc_237 rfl 2 (fun u => ⟨_, rfl⟩) ⟨trivial, trivial, trivial⟩ ?_
      exact gd_ret tc_237 rfl rfl trivial (fun _ => rfl) ⟨_, rfl, h⟩
    · refine ⟨19, rfl, ?_⟩
      show Gd d w 237 _ (19, [some (aR 10 k0), some (aI v1), some (aI v2), some (aI v3), some (aR 6 k4), none], [aR 3 (aN M)], aNew M 3 1 6)
      refine gd_s (P := True ∧ True ∧ True) (σ1 := (22, [some (aR 10 k0), some (aI v1), some (aI v2), some (aI v3), some (aR 6 k4), some (aR 3 (aN M))], [aI ((2 : Int32))], aNew M 3 1 6)) tc_237 rfl 2 (fun u => ⟨_, rfl⟩) ⟨trivial, trivial, trivial⟩ ?_
      exact gd_ret tc_237 rfl rfl trivial (fun _ => rfl) ⟨_, rfl, h⟩
theorem tc_238 : tC 238 = c238 := rfl
/-- PolicyJudgeLaw.decide(LPolicyJudge;I[J)I -/
def w_La_decide (post : Int32 → aM → Prop) (k0 : Nat) (v1 : Int32) (k2 : Nat) (M : aM) : Prop := w_J_decide (fun x1 M1 => (vp_in ((0 : Int32)) (rK M1 k2).2) ∧ post ((0 : Int32)) (wJ M1 k2 ((0 : Int32)).toNatClampNeg x1.toInt64)) (fun e9 => (e9 = 0 ∧ post ((1 : Int32)) (aNew M 3 0 6)) ∨ (e9 = 2 ∧ post ((2 : Int32)) (aNew M 3 2 6))) k0 v1 M
theorem g_La_decide {d w : Nat} (hd : 105 ≤ d) (hw : 3023 ≤ w) {post : Int32 → aM → Prop} {k0 : Nat} {v1 : Int32} {k2 : Nat} {M : aM} (hN : 0 < aN M) (h : w_La_decide post k0 v1 k2 M) : Gd d w 238 (pI post) (0, aEnt 238 [aR 10 k0, aI v1, aR 6 k2], [], M) := by
  unfold w_La_decide at h
  show Gd d w 238 _ (0, [some (aR 10 k0), some (aI v1), some (aR 6 k2), none], [], M)
  refine gd_s (P := True ∧ True ∧ True ∧ True ∧ True) (σ1 := (4, [some (aR 10 k0), some (aI v1), some (aR 6 k2), none], [aI v1, aR 10 k0, aI ((0 : Int32)), aR 6 k2], M)) tc_238 rfl 4 (fun u => ⟨_, rfl⟩) ⟨trivial, trivial, trivial, trivial, trivial⟩ ?_
  refine gd_callX (ml := 3) (as := [aR 10 k0, aI v1]) (rest := [aI ((0 : Int32)), aR 6 k2]) tc_238 rfl rfl rfl rfl rfl (by omega) (by omega) (Nat.le_of_ble_eq_true rfl) rfl (g_J_decide (by omega) (by omega) hN h) (fun r9 M1 h => ?_) (fun e9 h => ?_)
  · obtain ⟨x1, rfl, h⟩ := h
    show Gd d w 238 _ (7, [some (aR 10 k0), some (aI v1), some (aR 6 k2), none], [aI x1, aI ((0 : Int32)), aR 6 k2], M1)
    obtain ⟨c0, h⟩ := h
    refine gd_s (P := True ∧ (vp_in ((0 : Int32)) (rK M1 k2).2) ∧ True ∧ True ∧ True) (σ1 := (19, [some (aR 10 k0), some (aI v1), some (aR 6 k2), none], [aI ((0 : Int32))], wJ M1 k2 ((0 : Int32)).toNatClampNeg x1.toInt64)) tc_238 rfl 4 (fun u => ⟨_, rfl⟩) ⟨trivial, c0, trivial, trivial, trivial⟩ ?_
    exact gd_ret tc_238 rfl rfl trivial (fun _ => rfl) ⟨_, rfl, h⟩
  · rcases h with ⟨rfl, h⟩ | ⟨rfl, h⟩
    · refine ⟨12, rfl, ?_⟩
      show Gd d w 238 _ (12, [some (aR 10 k0), some (aI v1), some (aR 6 k2), none], [aR 3 (aN M)], aNew M 3 0 6)
      refine gd_s (P := True ∧ True ∧ True) (σ1 := (14, [some (aR 10 k0), some (aI v1), some (aR 6 k2), some (aR 3 (aN M))], [aI ((1 : Int32))], aNew M 3 0 6)) tc_238 rfl 2 (fun u => ⟨_, rfl⟩) ⟨trivial, trivial, trivial⟩ ?_
      exact gd_ret tc_238 rfl rfl trivial (fun _ => rfl) ⟨_, rfl, h⟩
    · refine ⟨15, rfl, ?_⟩
      show Gd d w 238 _ (15, [some (aR 10 k0), some (aI v1), some (aR 6 k2), none], [aR 3 (aN M)], aNew M 3 2 6)
      refine gd_s (P := True ∧ True ∧ True) (σ1 := (17, [some (aR 10 k0), some (aI v1), some (aR 6 k2), some (aR 3 (aN M))], [aI ((2 : Int32))], aNew M 3 2 6)) tc_238 rfl 2 (fun u => ⟨_, rfl⟩) ⟨trivial, trivial, trivial⟩ ?_
      exact gd_ret tc_238 rfl rfl trivial (fun _ => rfl) ⟨_, rfl, h⟩
theorem tc_239 : tC 239 = c239 := rfl
/-- PolicyJudgeLaw.decided(LPolicyJudge;II[J)I -/
def w_La_decided (post : Int32 → aM → Prop) (k0 : Nat) (v1 : Int32) (v2 : Int32) (k3 : Nat) (M : aM) : Prop := w_J_decided (fun x1 M1 => (vp_in ((0 : Int32)) (rK M1 k3).2) ∧ post ((0 : Int32)) (wJ M1 k3 ((0 : Int32)).toNatClampNeg x1.toInt64)) (fun e9 => (e9 = 0 ∧ post ((1 : Int32)) (aNew M 3 0 6))) k0 v1 v2 M
theorem g_La_decided {d w : Nat} (hd : 10 ≤ d) (hw : 186 ≤ w) {post : Int32 → aM → Prop} {k0 : Nat} {v1 : Int32} {v2 : Int32} {k3 : Nat} {M : aM} (hN : 0 < aN M) (h : w_La_decided post k0 v1 v2 k3 M) : Gd d w 239 (pI post) (0, aEnt 239 [aR 10 k0, aI v1, aI v2, aR 6 k3], [], M) := by
  unfold w_La_decided at h
  show Gd d w 239 _ (0, [some (aR 10 k0), some (aI v1), some (aI v2), some (aR 6 k3), none], [], M)
  refine gd_s (P := True ∧ True ∧ True ∧ True ∧ True ∧ True) (σ1 := (5, [some (aR 10 k0), some (aI v1), some (aI v2), some (aR 6 k3), none], [aI v2, aI v1, aR 10 k0, aI ((0 : Int32)), aR 6 k3], M)) tc_239 rfl 5 (fun u => ⟨_, rfl⟩) ⟨trivial, trivial, trivial, trivial, trivial, trivial⟩ ?_
  refine gd_callX (ml := 4) (as := [aR 10 k0, aI v1, aI v2]) (rest := [aI ((0 : Int32)), aR 6 k3]) tc_239 rfl rfl rfl rfl rfl (by omega) (by omega) (Nat.le_of_ble_eq_true rfl) rfl (g_J_decided (by omega) (by omega) hN h) (fun r9 M1 h => ?_) (fun e9 h => ?_)
  · obtain ⟨x1, rfl, h⟩ := h
    show Gd d w 239 _ (8, [some (aR 10 k0), some (aI v1), some (aI v2), some (aR 6 k3), none], [aI x1, aI ((0 : Int32)), aR 6 k3], M1)
    obtain ⟨c0, h⟩ := h
    refine gd_s (P := True ∧ (vp_in ((0 : Int32)) (rK M1 k3).2) ∧ True ∧ True ∧ True) (σ1 := (18, [some (aR 10 k0), some (aI v1), some (aI v2), some (aR 6 k3), none], [aI ((0 : Int32))], wJ M1 k3 ((0 : Int32)).toNatClampNeg x1.toInt64)) tc_239 rfl 4 (fun u => ⟨_, rfl⟩) ⟨trivial, c0, trivial, trivial, trivial⟩ ?_
    exact gd_ret tc_239 rfl rfl trivial (fun _ => rfl) ⟨_, rfl, h⟩
  · obtain ⟨rfl, h⟩ := h
    refine ⟨13, rfl, ?_⟩
    show Gd d w 239 _ (13, [some (aR 10 k0), some (aI v1), some (aI v2), some (aR 6 k3), none], [aR 3 (aN M)], aNew M 3 0 6)
    refine gd_s (P := True ∧ True ∧ True) (σ1 := (16, [some (aR 10 k0), some (aI v1), some (aI v2), some (aR 6 k3), some (aR 3 (aN M))], [aI ((1 : Int32))], aNew M 3 0 6)) tc_239 rfl 2 (fun u => ⟨_, rfl⟩) ⟨trivial, trivial, trivial⟩ ?_
    exact gd_ret tc_239 rfl rfl trivial (fun _ => rfl) ⟨_, rfl, h⟩
theorem tc_240 : tC 240 = c240 := rfl
/-- PolicyJudgeLaw.truth(LPolicyJudge;II[J)I -/
def w_La_truth (post : Int32 → aM → Prop) (k0 : Nat) (v1 : Int32) (v2 : Int32) (k3 : Nat) (M : aM) : Prop := w_J_truth (fun x1 M1 => (vp_in ((0 : Int32)) (rK M1 k3).2) ∧ post ((0 : Int32)) (wJ M1 k3 ((0 : Int32)).toNatClampNeg x1.toInt64)) (fun e9 => (e9 = 0 ∧ post ((1 : Int32)) (aNew M 3 0 6))) k0 v1 v2 M
theorem g_La_truth {d w : Nat} (hd : 10 ≤ d) (hw : 186 ≤ w) {post : Int32 → aM → Prop} {k0 : Nat} {v1 : Int32} {v2 : Int32} {k3 : Nat} {M : aM} (hN : 0 < aN M) (h : w_La_truth post k0 v1 v2 k3 M) : Gd d w 240 (pI post) (0, aEnt 240 [aR 10 k0, aI v1, aI v2, aR 6 k3], [], M) := by
  unfold w_La_truth at h
  show Gd d w 240 _ (0, [some (aR 10 k0), some (aI v1), some (aI v2), some (aR 6 k3), none], [], M)
  refine gd_s (P := True ∧ True ∧ True ∧ True ∧ True ∧ True) (σ1 := (5, [some (aR 10 k0), some (aI v1), some (aI v2), some (aR 6 k3), none], [aI v2, aI v1, aR 10 k0, aI ((0 : Int32)), aR 6 k3], M)) tc_240 rfl 5 (fun u => ⟨_, rfl⟩) ⟨trivial, trivial, trivial, trivial, trivial, trivial⟩ ?_
  refine gd_callX (ml := 4) (as := [aR 10 k0, aI v1, aI v2]) (rest := [aI ((0 : Int32)), aR 6 k3]) tc_240 rfl rfl rfl rfl rfl (by omega) (by omega) (Nat.le_of_ble_eq_true rfl) rfl (g_J_truth (by omega) (by omega) hN h) (fun r9 M1 h => ?_) (fun e9 h => ?_)
  · obtain ⟨x1, rfl, h⟩ := h
    show Gd d w 240 _ (8, [some (aR 10 k0), some (aI v1), some (aI v2), some (aR 6 k3), none], [aI x1, aI ((0 : Int32)), aR 6 k3], M1)
    obtain ⟨c0, h⟩ := h
    refine gd_s (P := True ∧ (vp_in ((0 : Int32)) (rK M1 k3).2) ∧ True ∧ True ∧ True) (σ1 := (18, [some (aR 10 k0), some (aI v1), some (aI v2), some (aR 6 k3), none], [aI ((0 : Int32))], wJ M1 k3 ((0 : Int32)).toNatClampNeg x1.toInt64)) tc_240 rfl 4 (fun u => ⟨_, rfl⟩) ⟨trivial, c0, trivial, trivial, trivial⟩ ?_
    exact gd_ret tc_240 rfl rfl trivial (fun _ => rfl) ⟨_, rfl, h⟩
  · obtain ⟨rfl, h⟩ := h
    refine ⟨13, rfl, ?_⟩
    show Gd d w 240 _ (13, [some (aR 10 k0), some (aI v1), some (aI v2), some (aR 6 k3), none], [aR 3 (aN M)], aNew M 3 0 6)
    refine gd_s (P := True ∧ True ∧ True) (σ1 := (16, [some (aR 10 k0), some (aI v1), some (aI v2), some (aR 6 k3), some (aR 3 (aN M))], [aI ((1 : Int32))], aNew M 3 0 6)) tc_240 rfl 2 (fun u => ⟨_, rfl⟩) ⟨trivial, trivial, trivial⟩ ?_
    exact gd_ret tc_240 rfl rfl trivial (fun _ => rfl) ⟨_, rfl, h⟩
theorem tc_241 : tC 241 = c241 := rfl
/-- PolicyJudgeLaw.duty(LPolicyJudge;II[J)I -/
def w_La_duty (post : Int32 → aM → Prop) (k0 : Nat) (v1 : Int32) (v2 : Int32) (k3 : Nat) (M : aM) : Prop := w_J_duty (fun x1 M1 => (vp_in ((0 : Int32)) (rK M1 k3).2) ∧ post ((0 : Int32)) (wJ M1 k3 ((0 : Int32)).toNatClampNeg x1.toInt64)) (fun e9 => (e9 = 0 ∧ post ((1 : Int32)) (aNew M 3 0 6))) k0 v1 v2 M
theorem g_La_duty {d w : Nat} (hd : 10 ≤ d) (hw : 186 ≤ w) {post : Int32 → aM → Prop} {k0 : Nat} {v1 : Int32} {v2 : Int32} {k3 : Nat} {M : aM} (hN : 0 < aN M) (h : w_La_duty post k0 v1 v2 k3 M) : Gd d w 241 (pI post) (0, aEnt 241 [aR 10 k0, aI v1, aI v2, aR 6 k3], [], M) := by
  unfold w_La_duty at h
  show Gd d w 241 _ (0, [some (aR 10 k0), some (aI v1), some (aI v2), some (aR 6 k3), none], [], M)
  refine gd_s (P := True ∧ True ∧ True ∧ True ∧ True ∧ True) (σ1 := (5, [some (aR 10 k0), some (aI v1), some (aI v2), some (aR 6 k3), none], [aI v2, aI v1, aR 10 k0, aI ((0 : Int32)), aR 6 k3], M)) tc_241 rfl 5 (fun u => ⟨_, rfl⟩) ⟨trivial, trivial, trivial, trivial, trivial, trivial⟩ ?_
  refine gd_callX (ml := 4) (as := [aR 10 k0, aI v1, aI v2]) (rest := [aI ((0 : Int32)), aR 6 k3]) tc_241 rfl rfl rfl rfl rfl (by omega) (by omega) (Nat.le_of_ble_eq_true rfl) rfl (g_J_duty (by omega) (by omega) hN h) (fun r9 M1 h => ?_) (fun e9 h => ?_)
  · obtain ⟨x1, rfl, h⟩ := h
    show Gd d w 241 _ (8, [some (aR 10 k0), some (aI v1), some (aI v2), some (aR 6 k3), none], [aI x1, aI ((0 : Int32)), aR 6 k3], M1)
    obtain ⟨c0, h⟩ := h
    refine gd_s (P := True ∧ (vp_in ((0 : Int32)) (rK M1 k3).2) ∧ True ∧ True ∧ True) (σ1 := (18, [some (aR 10 k0), some (aI v1), some (aI v2), some (aR 6 k3), none], [aI ((0 : Int32))], wJ M1 k3 ((0 : Int32)).toNatClampNeg x1.toInt64)) tc_241 rfl 4 (fun u => ⟨_, rfl⟩) ⟨trivial, c0, trivial, trivial, trivial⟩ ?_
    exact gd_ret tc_241 rfl rfl trivial (fun _ => rfl) ⟨_, rfl, h⟩
  · obtain ⟨rfl, h⟩ := h
    refine ⟨13, rfl, ?_⟩
    show Gd d w 241 _ (13, [some (aR 10 k0), some (aI v1), some (aI v2), some (aR 6 k3), none], [aR 3 (aN M)], aNew M 3 0 6)
    refine gd_s (P := True ∧ True ∧ True) (σ1 := (16, [some (aR 10 k0), some (aI v1), some (aI v2), some (aR 6 k3), some (aR 3 (aN M))], [aI ((1 : Int32))], aNew M 3 0 6)) tc_241 rfl 2 (fun u => ⟨_, rfl⟩) ⟨trivial, trivial, trivial⟩ ?_
    exact gd_ret tc_241 rfl rfl trivial (fun _ => rfl) ⟨_, rfl, h⟩
theorem tc_242 : tC 242 = c242 := rfl
/-- PolicyJudgeLaw.same(LPolicyJudge;[J)I -/
def w_La_same (post : Int32 → aM → Prop) (k0 : Nat) (k1 : Nat) (M : aM) : Prop := w_J_same (fun x1 M1 => (vp_in ((0 : Int32)) (rK M1 k1).2) ∧ post ((0 : Int32)) (wJ M1 k1 ((0 : Int32)).toNatClampNeg x1.toInt64)) (fun e9 => (e9 = 2 ∧ post ((1 : Int32)) (aNew M 3 2 6))) k0 M
theorem g_La_same {d w : Nat} (hd : 106 ≤ d) (hw : 3047 ≤ w) {post : Int32 → aM → Prop} {k0 : Nat} {k1 : Nat} {M : aM} (hN : 0 < aN M) (h : w_La_same post k0 k1 M) : Gd d w 242 (pI post) (0, aEnt 242 [aR 10 k0, aR 6 k1], [], M) := by
  unfold w_La_same at h
  show Gd d w 242 _ (0, [some (aR 10 k0), some (aR 6 k1), none], [], M)
  refine gd_s (P := True ∧ True ∧ True ∧ True) (σ1 := (3, [some (aR 10 k0), some (aR 6 k1), none], [aR 10 k0, aI ((0 : Int32)), aR 6 k1], M)) tc_242 rfl 3 (fun u => ⟨_, rfl⟩) ⟨trivial, trivial, trivial, trivial⟩ ?_
  refine gd_callX (ml := 1) (as := [aR 10 k0]) (rest := [aI ((0 : Int32)), aR 6 k1]) tc_242 rfl rfl rfl rfl rfl (by omega) (by omega) (Nat.le_of_ble_eq_true rfl) rfl (g_J_same (by omega) (by omega) hN h) (fun r9 M1 h => ?_) (fun e9 h => ?_)
  · obtain ⟨x1, rfl, h⟩ := h
    show Gd d w 242 _ (6, [some (aR 10 k0), some (aR 6 k1), none], [aI x1, aI ((0 : Int32)), aR 6 k1], M1)
    obtain ⟨c0, h⟩ := h
    refine gd_s (P := True ∧ (vp_in ((0 : Int32)) (rK M1 k1).2) ∧ True ∧ True ∧ True) (σ1 := (15, [some (aR 10 k0), some (aR 6 k1), none], [aI ((0 : Int32))], wJ M1 k1 ((0 : Int32)).toNatClampNeg x1.toInt64)) tc_242 rfl 4 (fun u => ⟨_, rfl⟩) ⟨trivial, c0, trivial, trivial, trivial⟩ ?_
    exact gd_ret tc_242 rfl rfl trivial (fun _ => rfl) ⟨_, rfl, h⟩
  · obtain ⟨rfl, h⟩ := h
    refine ⟨11, rfl, ?_⟩
    show Gd d w 242 _ (11, [some (aR 10 k0), some (aR 6 k1), none], [aR 3 (aN M)], aNew M 3 2 6)
    refine gd_s (P := True ∧ True ∧ True) (σ1 := (13, [some (aR 10 k0), some (aR 6 k1), some (aR 3 (aN M))], [aI ((1 : Int32))], aNew M 3 2 6)) tc_242 rfl 2 (fun u => ⟨_, rfl⟩) ⟨trivial, trivial, trivial⟩ ?_
    exact gd_ret tc_242 rfl rfl trivial (fun _ => rfl) ⟨_, rfl, h⟩
theorem tc_243 : tC 243 = c243 := rfl
/-- PolicyJudgeLaw.differ(LPolicyJudge;II[J)I -/
def w_La_differ (post : Int32 → aM → Prop) (k0 : Nat) (v1 : Int32) (v2 : Int32) (k3 : Nat) (M : aM) : Prop := w_J_differ (fun x1 M1 => (vp_in ((0 : Int32)) (rK M1 k3).2) ∧ post ((0 : Int32)) (wJ M1 k3 ((0 : Int32)).toNatClampNeg x1.toInt64)) (fun e9 => (e9 = 0 ∧ post ((1 : Int32)) (aNew M 3 0 6)) ∨ (e9 = 2 ∧ post ((2 : Int32)) (aNew M 3 2 6))) k0 v1 v2 M
theorem g_La_differ {d w : Nat} (hd : 8 ≤ d) (hw : 143 ≤ w) {post : Int32 → aM → Prop} {k0 : Nat} {v1 : Int32} {v2 : Int32} {k3 : Nat} {M : aM} (hN : 0 < aN M) (h : w_La_differ post k0 v1 v2 k3 M) : Gd d w 243 (pI post) (0, aEnt 243 [aR 10 k0, aI v1, aI v2, aR 6 k3], [], M) := by
  unfold w_La_differ at h
  show Gd d w 243 _ (0, [some (aR 10 k0), some (aI v1), some (aI v2), some (aR 6 k3), none], [], M)
  refine gd_s (P := True ∧ True ∧ True ∧ True ∧ True ∧ True) (σ1 := (5, [some (aR 10 k0), some (aI v1), some (aI v2), some (aR 6 k3), none], [aI v2, aI v1, aR 10 k0, aI ((0 : Int32)), aR 6 k3], M)) tc_243 rfl 5 (fun u => ⟨_, rfl⟩) ⟨trivial, trivial, trivial, trivial, trivial, trivial⟩ ?_
  refine gd_callX (ml := 3) (as := [aR 10 k0, aI v1, aI v2]) (rest := [aI ((0 : Int32)), aR 6 k3]) tc_243 rfl rfl rfl rfl rfl (by omega) (by omega) (Nat.le_of_ble_eq_true rfl) rfl (g_J_differ (by omega) (by omega) hN h) (fun r9 M1 h => ?_) (fun e9 h => ?_)
  · obtain ⟨x1, rfl, h⟩ := h
    show Gd d w 243 _ (8, [some (aR 10 k0), some (aI v1), some (aI v2), some (aR 6 k3), none], [aI x1, aI ((0 : Int32)), aR 6 k3], M1)
    obtain ⟨c0, h⟩ := h
    refine gd_s (P := True ∧ (vp_in ((0 : Int32)) (rK M1 k3).2) ∧ True ∧ True ∧ True) (σ1 := (22, [some (aR 10 k0), some (aI v1), some (aI v2), some (aR 6 k3), none], [aI ((0 : Int32))], wJ M1 k3 ((0 : Int32)).toNatClampNeg x1.toInt64)) tc_243 rfl 4 (fun u => ⟨_, rfl⟩) ⟨trivial, c0, trivial, trivial, trivial⟩ ?_
    exact gd_ret tc_243 rfl rfl trivial (fun _ => rfl) ⟨_, rfl, h⟩
  · rcases h with ⟨rfl, h⟩ | ⟨rfl, h⟩
    · refine ⟨13, rfl, ?_⟩
      show Gd d w 243 _ (13, [some (aR 10 k0), some (aI v1), some (aI v2), some (aR 6 k3), none], [aR 3 (aN M)], aNew M 3 0 6)
      refine gd_s (P := True ∧ True ∧ True) (σ1 := (16, [some (aR 10 k0), some (aI v1), some (aI v2), some (aR 6 k3), some (aR 3 (aN M))], [aI ((1 : Int32))], aNew M 3 0 6)) tc_243 rfl 2 (fun u => ⟨_, rfl⟩) ⟨trivial, trivial, trivial⟩ ?_
      exact gd_ret tc_243 rfl rfl trivial (fun _ => rfl) ⟨_, rfl, h⟩
    · refine ⟨17, rfl, ?_⟩
      show Gd d w 243 _ (17, [some (aR 10 k0), some (aI v1), some (aI v2), some (aR 6 k3), none], [aR 3 (aN M)], aNew M 3 2 6)
      refine gd_s (P := True ∧ True ∧ True) (σ1 := (20, [some (aR 10 k0), some (aI v1), some (aI v2), some (aR 6 k3), some (aR 3 (aN M))], [aI ((2 : Int32))], aNew M 3 2 6)) tc_243 rfl 2 (fun u => ⟨_, rfl⟩) ⟨trivial, trivial, trivial⟩ ?_
      exact gd_ret tc_243 rfl rfl trivial (fun _ => rfl) ⟨_, rfl, h⟩
theorem tc_244 : tC 244 = c244 := rfl
/-- PolicyJudgeLaw.reach(LPolicyJudge;III[J)I -/
def w_La_reach (post : Int32 → aM → Prop) (k0 : Nat) (v1 : Int32) (v2 : Int32) (v3 : Int32) (k4 : Nat) (M : aM) : Prop := w_J_reach (fun x1 M1 => (vp_in ((0 : Int32)) (rK M1 k4).2) ∧ post ((0 : Int32)) (wJ M1 k4 ((0 : Int32)).toNatClampNeg x1.toInt64)) (fun e9 => (e9 = 0 ∧ post ((1 : Int32)) (aNew M 3 0 6))) k0 v1 v2 v3 M
theorem g_La_reach {d w : Nat} (hd : 106 ≤ d) (hw : 3050 ≤ w) {post : Int32 → aM → Prop} {k0 : Nat} {v1 : Int32} {v2 : Int32} {v3 : Int32} {k4 : Nat} {M : aM} (hN : 0 < aN M) (h : w_La_reach post k0 v1 v2 v3 k4 M) : Gd d w 244 (pI post) (0, aEnt 244 [aR 10 k0, aI v1, aI v2, aI v3, aR 6 k4], [], M) := by
  unfold w_La_reach at h
  show Gd d w 244 _ (0, [some (aR 10 k0), some (aI v1), some (aI v2), some (aI v3), some (aR 6 k4), none], [], M)
  refine gd_s (P := True ∧ True ∧ True ∧ True ∧ True ∧ True ∧ True) (σ1 := (7, [some (aR 10 k0), some (aI v1), some (aI v2), some (aI v3), some (aR 6 k4), none], [aI v3, aI v2, aI v1, aR 10 k0, aI ((0 : Int32)), aR 6 k4], M)) tc_244 rfl 6 (fun u => ⟨_, rfl⟩) ⟨trivial, trivial, trivial, trivial, trivial, trivial, trivial⟩ ?_
  refine gd_callX (ml := 5) (as := [aR 10 k0, aI v1, aI v2, aI v3]) (rest := [aI ((0 : Int32)), aR 6 k4]) tc_244 rfl rfl rfl rfl rfl (by omega) (by omega) (Nat.le_of_ble_eq_true rfl) rfl (g_J_reach (by omega) (by omega) hN h) (fun r9 M1 h => ?_) (fun e9 h => ?_)
  · obtain ⟨x1, rfl, h⟩ := h
    show Gd d w 244 _ (10, [some (aR 10 k0), some (aI v1), some (aI v2), some (aI v3), some (aR 6 k4), none], [aI x1, aI ((0 : Int32)), aR 6 k4], M1)
    obtain ⟨c0, h⟩ := h
    refine gd_s (P := True ∧ (vp_in ((0 : Int32)) (rK M1 k4).2) ∧ True ∧ True ∧ True) (σ1 := (20, [some (aR 10 k0), some (aI v1), some (aI v2), some (aI v3), some (aR 6 k4), none], [aI ((0 : Int32))], wJ M1 k4 ((0 : Int32)).toNatClampNeg x1.toInt64)) tc_244 rfl 4 (fun u => ⟨_, rfl⟩) ⟨trivial, c0, trivial, trivial, trivial⟩ ?_
    exact gd_ret tc_244 rfl rfl trivial (fun _ => rfl) ⟨_, rfl, h⟩
  · obtain ⟨rfl, h⟩ := h
    refine ⟨15, rfl, ?_⟩
    show Gd d w 244 _ (15, [some (aR 10 k0), some (aI v1), some (aI v2), some (aI v3), some (aR 6 k4), none], [aR 3 (aN M)], aNew M 3 0 6)
    refine gd_s (P := True ∧ True ∧ True) (σ1 := (18, [some (aR 10 k0), some (aI v1), some (aI v2), some (aI v3), some (aR 6 k4), some (aR 3 (aN M))], [aI ((1 : Int32))], aNew M 3 0 6)) tc_244 rfl 2 (fun u => ⟨_, rfl⟩) ⟨trivial, trivial, trivial⟩ ?_
    exact gd_ret tc_244 rfl rfl trivial (fun _ => rfl) ⟨_, rfl, h⟩
theorem tc_245 : tC 245 = c245 := rfl
/-- PolicyJudgeLaw.witness(LPolicyJudge;I[J)I -/
def w_La_witness (post : Int32 → aM → Prop) (k0 : Nat) (v1 : Int32) (k2 : Nat) (M : aM) : Prop := w_J_witness (fun x1 M1 => (vp_in ((0 : Int32)) (rK M1 k2).2) ∧ post ((0 : Int32)) (wJ M1 k2 ((0 : Int32)).toNatClampNeg x1.toInt64)) (fun e9 => (e9 = 0 ∧ post ((1 : Int32)) (aNew M 3 0 6))) k0 v1 M
theorem g_La_witness {d w : Nat} (hd : 8 ≤ d) (hw : 142 ≤ w) {post : Int32 → aM → Prop} {k0 : Nat} {v1 : Int32} {k2 : Nat} {M : aM} (hN : 0 < aN M) (h : w_La_witness post k0 v1 k2 M) : Gd d w 245 (pI post) (0, aEnt 245 [aR 10 k0, aI v1, aR 6 k2], [], M) := by
  unfold w_La_witness at h
  show Gd d w 245 _ (0, [some (aR 10 k0), some (aI v1), some (aR 6 k2), none], [], M)
  refine gd_s (P := True ∧ True ∧ True ∧ True ∧ True) (σ1 := (4, [some (aR 10 k0), some (aI v1), some (aR 6 k2), none], [aI v1, aR 10 k0, aI ((0 : Int32)), aR 6 k2], M)) tc_245 rfl 4 (fun u => ⟨_, rfl⟩) ⟨trivial, trivial, trivial, trivial, trivial⟩ ?_
  refine gd_callX (ml := 2) (as := [aR 10 k0, aI v1]) (rest := [aI ((0 : Int32)), aR 6 k2]) tc_245 rfl rfl rfl rfl rfl (by omega) (by omega) (Nat.le_of_ble_eq_true rfl) rfl (g_J_witness (by omega) (by omega) hN h) (fun r9 M1 h => ?_) (fun e9 h => ?_)
  · obtain ⟨x1, rfl, h⟩ := h
    show Gd d w 245 _ (7, [some (aR 10 k0), some (aI v1), some (aR 6 k2), none], [aI x1, aI ((0 : Int32)), aR 6 k2], M1)
    obtain ⟨c0, h⟩ := h
    refine gd_s (P := True ∧ (vp_in ((0 : Int32)) (rK M1 k2).2) ∧ True ∧ True ∧ True) (σ1 := (16, [some (aR 10 k0), some (aI v1), some (aR 6 k2), none], [aI ((0 : Int32))], wJ M1 k2 ((0 : Int32)).toNatClampNeg x1.toInt64)) tc_245 rfl 4 (fun u => ⟨_, rfl⟩) ⟨trivial, c0, trivial, trivial, trivial⟩ ?_
    exact gd_ret tc_245 rfl rfl trivial (fun _ => rfl) ⟨_, rfl, h⟩
  · obtain ⟨rfl, h⟩ := h
    refine ⟨12, rfl, ?_⟩
    show Gd d w 245 _ (12, [some (aR 10 k0), some (aI v1), some (aR 6 k2), none], [aR 3 (aN M)], aNew M 3 0 6)
    refine gd_s (P := True ∧ True ∧ True) (σ1 := (14, [some (aR 10 k0), some (aI v1), some (aR 6 k2), some (aR 3 (aN M))], [aI ((1 : Int32))], aNew M 3 0 6)) tc_245 rfl 2 (fun u => ⟨_, rfl⟩) ⟨trivial, trivial, trivial⟩ ?_
    exact gd_ret tc_245 rfl rfl trivial (fun _ => rfl) ⟨_, rfl, h⟩
theorem tc_246 : tC 246 = c246 := rfl
/-- PolicyJudgeLaw.print(LPolicyJudge;I[J)I -/
def w_La_print (post : Int32 → aM → Prop) (k0 : Nat) (v1 : Int32) (k2 : Nat) (M : aM) : Prop := w_J_print (fun x1 M1 => (vp_in ((0 : Int32)) (rK M1 k2).2) ∧ post ((0 : Int32)) (wJ M1 k2 ((0 : Int32)).toNatClampNeg x1.toInt64)) (fun e9 => (e9 = 0 ∧ post ((1 : Int32)) (aNew M 3 0 6)) ∨ (e9 = 2 ∧ post ((2 : Int32)) (aNew M 3 2 6))) k0 v1 M
theorem g_La_print {d w : Nat} (hd : 158 ≤ d) (hw : 4230 ≤ w) {post : Int32 → aM → Prop} {k0 : Nat} {v1 : Int32} {k2 : Nat} {M : aM} (hN : 0 < aN M) (h : w_La_print post k0 v1 k2 M) : Gd d w 246 (pI post) (0, aEnt 246 [aR 10 k0, aI v1, aR 6 k2], [], M) := by
  unfold w_La_print at h
  show Gd d w 246 _ (0, [some (aR 10 k0), some (aI v1), some (aR 6 k2), none], [], M)
  refine gd_s (P := True ∧ True ∧ True ∧ True ∧ True) (σ1 := (4, [some (aR 10 k0), some (aI v1), some (aR 6 k2), none], [aI v1, aR 10 k0, aI ((0 : Int32)), aR 6 k2], M)) tc_246 rfl 4 (fun u => ⟨_, rfl⟩) ⟨trivial, trivial, trivial, trivial, trivial⟩ ?_
  refine gd_callX (ml := 2) (as := [aR 10 k0, aI v1]) (rest := [aI ((0 : Int32)), aR 6 k2]) tc_246 rfl rfl rfl rfl rfl (by omega) (by omega) (Nat.le_of_ble_eq_true rfl) rfl (g_J_print (by omega) (by omega) hN h) (fun r9 M1 h => ?_) (fun e9 h => ?_)
  · obtain ⟨x1, rfl, h⟩ := h
    show Gd d w 246 _ (7, [some (aR 10 k0), some (aI v1), some (aR 6 k2), none], [aI x1, aI ((0 : Int32)), aR 6 k2], M1)
    obtain ⟨c0, h⟩ := h
    refine gd_s (P := True ∧ (vp_in ((0 : Int32)) (rK M1 k2).2) ∧ True ∧ True ∧ True) (σ1 := (19, [some (aR 10 k0), some (aI v1), some (aR 6 k2), none], [aI ((0 : Int32))], wJ M1 k2 ((0 : Int32)).toNatClampNeg x1.toInt64)) tc_246 rfl 4 (fun u => ⟨_, rfl⟩) ⟨trivial, c0, trivial, trivial, trivial⟩ ?_
    exact gd_ret tc_246 rfl rfl trivial (fun _ => rfl) ⟨_, rfl, h⟩
  · rcases h with ⟨rfl, h⟩ | ⟨rfl, h⟩
    · refine ⟨12, rfl, ?_⟩
      show Gd d w 246 _ (12, [some (aR 10 k0), some (aI v1), some (aR 6 k2), none], [aR 3 (aN M)], aNew M 3 0 6)
      refine gd_s (P := True ∧ True ∧ True) (σ1 := (14, [some (aR 10 k0), some (aI v1), some (aR 6 k2), some (aR 3 (aN M))], [aI ((1 : Int32))], aNew M 3 0 6)) tc_246 rfl 2 (fun u => ⟨_, rfl⟩) ⟨trivial, trivial, trivial⟩ ?_
      exact gd_ret tc_246 rfl rfl trivial (fun _ => rfl) ⟨_, rfl, h⟩
    · refine ⟨15, rfl, ?_⟩
      show Gd d w 246 _ (15, [some (aR 10 k0), some (aI v1), some (aR 6 k2), none], [aR 3 (aN M)], aNew M 3 2 6)
      refine gd_s (P := True ∧ True ∧ True) (σ1 := (17, [some (aR 10 k0), some (aI v1), some (aR 6 k2), some (aR 3 (aN M))], [aI ((2 : Int32))], aNew M 3 2 6)) tc_246 rfl 2 (fun u => ⟨_, rfl⟩) ⟨trivial, trivial, trivial⟩ ?_
      exact gd_ret tc_246 rfl rfl trivial (fun _ => rfl) ⟨_, rfl, h⟩
theorem tc_247 : tC 247 = c247 := rfl
/-- PolicyJudgeLaw.out(LPolicyJudge;I[J)I -/
def w_La_out (post : Int32 → aM → Prop) (k0 : Nat) (v1 : Int32) (k2 : Nat) (M : aM) : Prop := w_J_out (fun x1 M1 => (vp_in ((0 : Int32)) (rK M1 k2).2) ∧ post ((0 : Int32)) (wJ M1 k2 ((0 : Int32)).toNatClampNeg x1.toInt64)) (fun e9 => (e9 = 0 ∧ post ((1 : Int32)) (aNew M 3 0 6))) k0 v1 M
theorem g_La_out {d w : Nat} (hd : 8 ≤ d) (hw : 142 ≤ w) {post : Int32 → aM → Prop} {k0 : Nat} {v1 : Int32} {k2 : Nat} {M : aM} (hN : 0 < aN M) (h : w_La_out post k0 v1 k2 M) : Gd d w 247 (pI post) (0, aEnt 247 [aR 10 k0, aI v1, aR 6 k2], [], M) := by
  unfold w_La_out at h
  show Gd d w 247 _ (0, [some (aR 10 k0), some (aI v1), some (aR 6 k2), none], [], M)
  refine gd_s (P := True ∧ True ∧ True ∧ True ∧ True) (σ1 := (4, [some (aR 10 k0), some (aI v1), some (aR 6 k2), none], [aI v1, aR 10 k0, aI ((0 : Int32)), aR 6 k2], M)) tc_247 rfl 4 (fun u => ⟨_, rfl⟩) ⟨trivial, trivial, trivial, trivial, trivial⟩ ?_
  refine gd_callX (ml := 2) (as := [aR 10 k0, aI v1]) (rest := [aI ((0 : Int32)), aR 6 k2]) tc_247 rfl rfl rfl rfl rfl (by omega) (by omega) (Nat.le_of_ble_eq_true rfl) rfl (g_J_out (by omega) (by omega) hN h) (fun r9 M1 h => ?_) (fun e9 h => ?_)
  · obtain ⟨x1, rfl, h⟩ := h
    show Gd d w 247 _ (7, [some (aR 10 k0), some (aI v1), some (aR 6 k2), none], [aI x1, aI ((0 : Int32)), aR 6 k2], M1)
    obtain ⟨c0, h⟩ := h
    refine gd_s (P := True ∧ (vp_in ((0 : Int32)) (rK M1 k2).2) ∧ True ∧ True ∧ True) (σ1 := (16, [some (aR 10 k0), some (aI v1), some (aR 6 k2), none], [aI ((0 : Int32))], wJ M1 k2 ((0 : Int32)).toNatClampNeg x1.toInt64)) tc_247 rfl 4 (fun u => ⟨_, rfl⟩) ⟨trivial, c0, trivial, trivial, trivial⟩ ?_
    exact gd_ret tc_247 rfl rfl trivial (fun _ => rfl) ⟨_, rfl, h⟩
  · obtain ⟨rfl, h⟩ := h
    refine ⟨12, rfl, ?_⟩
    show Gd d w 247 _ (12, [some (aR 10 k0), some (aI v1), some (aR 6 k2), none], [aR 3 (aN M)], aNew M 3 0 6)
    refine gd_s (P := True ∧ True ∧ True) (σ1 := (14, [some (aR 10 k0), some (aI v1), some (aR 6 k2), some (aR 3 (aN M))], [aI ((1 : Int32))], aNew M 3 0 6)) tc_247 rfl 2 (fun u => ⟨_, rfl⟩) ⟨trivial, trivial, trivial⟩ ?_
    exact gd_ret tc_247 rfl rfl trivial (fun _ => rfl) ⟨_, rfl, h⟩
theorem tc_248 : tC 248 = c248 := rfl
/-- PolicyJudgeLaw.again(LPolicyJudge;[J)I -/
def w_La_again (post : Int32 → aM → Prop) (k0 : Nat) (k1 : Nat) (M : aM) : Prop := w_J_again (fun x1 M1 => (vp_in ((0 : Int32)) (rK M1 k1).2) ∧ post ((0 : Int32)) (wJ M1 k1 ((0 : Int32)).toNatClampNeg x1.toInt64)) (fun e9 => (e9 = 2 ∧ post ((1 : Int32)) (aNew M 3 2 6))) k0 M
theorem g_La_again {d w : Nat} (hd : 8 ≤ d) (hw : 242 ≤ w) {post : Int32 → aM → Prop} {k0 : Nat} {k1 : Nat} {M : aM} (hN : 0 < aN M) (h : w_La_again post k0 k1 M) : Gd d w 248 (pI post) (0, aEnt 248 [aR 10 k0, aR 6 k1], [], M) := by
  unfold w_La_again at h
  show Gd d w 248 _ (0, [some (aR 10 k0), some (aR 6 k1), none], [], M)
  refine gd_s (P := True ∧ True ∧ True ∧ True) (σ1 := (3, [some (aR 10 k0), some (aR 6 k1), none], [aR 10 k0, aI ((0 : Int32)), aR 6 k1], M)) tc_248 rfl 3 (fun u => ⟨_, rfl⟩) ⟨trivial, trivial, trivial, trivial⟩ ?_
  refine gd_callX (ml := 1) (as := [aR 10 k0]) (rest := [aI ((0 : Int32)), aR 6 k1]) tc_248 rfl rfl rfl rfl rfl (by omega) (by omega) (Nat.le_of_ble_eq_true rfl) rfl (g_J_again (by omega) (by omega) hN h) (fun r9 M1 h => ?_) (fun e9 h => ?_)
  · obtain ⟨x1, rfl, h⟩ := h
    show Gd d w 248 _ (6, [some (aR 10 k0), some (aR 6 k1), none], [aI x1, aI ((0 : Int32)), aR 6 k1], M1)
    obtain ⟨c0, h⟩ := h
    refine gd_s (P := True ∧ (vp_in ((0 : Int32)) (rK M1 k1).2) ∧ True ∧ True ∧ True) (σ1 := (15, [some (aR 10 k0), some (aR 6 k1), none], [aI ((0 : Int32))], wJ M1 k1 ((0 : Int32)).toNatClampNeg x1.toInt64)) tc_248 rfl 4 (fun u => ⟨_, rfl⟩) ⟨trivial, c0, trivial, trivial, trivial⟩ ?_
    exact gd_ret tc_248 rfl rfl trivial (fun _ => rfl) ⟨_, rfl, h⟩
  · obtain ⟨rfl, h⟩ := h
    refine ⟨11, rfl, ?_⟩
    show Gd d w 248 _ (11, [some (aR 10 k0), some (aR 6 k1), none], [aR 3 (aN M)], aNew M 3 2 6)
    refine gd_s (P := True ∧ True ∧ True) (σ1 := (13, [some (aR 10 k0), some (aR 6 k1), some (aR 3 (aN M))], [aI ((1 : Int32))], aNew M 3 2 6)) tc_248 rfl 2 (fun u => ⟨_, rfl⟩) ⟨trivial, trivial, trivial⟩ ?_
    exact gd_ret tc_248 rfl rfl trivial (fun _ => rfl) ⟨_, rfl, h⟩
