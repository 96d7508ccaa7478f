/-! Mirrors, on. -/
theorem tc_50 : tC 50 = c50 := rfl
/-- PolicyJudge$Reader.openCurly(I)V -/
def w_Rd_openCurly (post : aM → Prop) (k0 : Nat) (v1 : Int32) (M : aM) : Prop := w_Rd_token (fun x1 => ((x1 = ((123 : Int32))) → (((rI M k0 6) < ((20 : Int32))) → w_Rd_step (fun M2 => post (wI (wI M2 k0 5 v1) k0 6 ((rI (wI M2 k0 5 v1) k0 6) + ((1 : Int32))))) k0 M) ∧ (¬ ((rI M k0 6) < ((20 : Int32))) → w_Rd_refuse (fun M3 => post M3) k0 ((5 : Int32)) M)) ∧ (¬ (x1 = ((123 : Int32))) → w_Rd_refuse (fun M4 => post M4) k0 ((2 : Int32)) M)) k0 M
theorem g_Rd_openCurly {d w : Nat} (hd : 1 ≤ d) (hw : 21 ≤ w) {post : aM → Prop} {k0 : Nat} {v1 : Int32} {M : aM} (h : w_Rd_openCurly post k0 v1 M) : Gd d w 50 (pV post) (0, aEnt 50 [aR 11 k0, aI v1], [], M) := by
  unfold w_Rd_openCurly at h
  show Gd d w 50 _ (0, [some (aR 11 k0), some (aI v1)], [], M)
  refine gd_s (P := True ∧ True) (σ1 := (1, [some (aR 11 k0), some (aI v1)], [aR 11 k0], M)) tc_50 rfl 1 (fun u => ⟨_, rfl⟩) ⟨trivial, trivial⟩ ?_
  refine gd_callN (ml := 1) (as := [aR 11 k0]) (rest := []) tc_50 rfl rfl rfl rfl rfl (by omega) (by omega) (Nat.le_of_ble_eq_true rfl) rfl (g_Rd_token (by omega) (by omega) h) (fun r9 M9 h => ?_)
  obtain ⟨x1, rfl, e9, h⟩ := h
  subst M9
  show Gd d w 50 _ (4, [some (aR 11 k0), some (aI v1)], [aI x1], M)
  refine gd_s (P := True ∧ True) (σ1 := (6, [some (aR 11 k0), some (aI v1)], [aI ((123 : Int32)), aI x1], M)) tc_50 rfl 1 (fun u => ⟨_, rfl⟩) ⟨trivial, trivial⟩ ?_
  refine gd_br (c := x1 = ((123 : Int32))) (st1 := []) tc_50 rfl rfl (fun _ => rfl) ⟨fun hc => ?_, fun hc => ?_⟩
  · have h := h.1 hc
    show Gd d w 50 _ (17, [some (aR 11 k0), some (aI v1)], [], M)
    refine gd_s (P := True ∧ True ∧ True ∧ True) (σ1 := (23, [some (aR 11 k0), some (aI v1)], [aI ((20 : Int32)), aI (rI M k0 6)], M)) tc_50 rfl 3 (fun u => ⟨_, rfl⟩) ⟨trivial, trivial, trivial, trivial⟩ ?_
    refine gd_br (c := (rI M k0 6) < ((20 : Int32))) (st1 := []) tc_50 rfl rfl (fun _ => rfl) ⟨fun hc => ?_, fun hc => ?_⟩
    · have h := h.1 hc
      show Gd d w 50 _ (34, [some (aR 11 k0), some (aI v1)], [], M)
      refine gd_s (P := True ∧ True) (σ1 := (35, [some (aR 11 k0), some (aI v1)], [aR 11 k0], M)) tc_50 rfl 1 (fun u => ⟨_, rfl⟩) ⟨trivial, trivial⟩ ?_
      refine gd_callN (ml := 1) (as := [aR 11 k0]) (rest := []) tc_50 rfl rfl rfl rfl rfl (by omega) (by omega) (Nat.le_of_ble_eq_true rfl) rfl (g_Rd_step (by omega) (by omega) h) (fun r9 M2 h => ?_)
      obtain ⟨rfl, h⟩ := h
      show Gd d w 50 _ (38, [some (aR 11 k0), some (aI v1)], [], M2)
      refine gd_s (P := True ∧ True ∧ True ∧ True ∧ True ∧ True ∧ True ∧ True ∧ True ∧ True) (σ1 := (53, [some (aR 11 k0), some (aI v1)], [], wI (wI M2 k0 5 v1) k0 6 ((rI (wI M2 k0 5 v1) k0 6) + ((1 : Int32))))) tc_50 rfl 9 (fun u => ⟨_, rfl⟩) ⟨trivial, trivial, trivial, trivial, trivial, trivial, trivial, trivial, trivial, trivial⟩ ?_
      exact gd_ret tc_50 rfl rfl trivial (fun _ => rfl) ⟨rfl, h⟩
    · have h := h.2 hc
      show Gd d w 50 _ (26, [some (aR 11 k0), some (aI v1)], [], M)
      refine gd_s (P := True ∧ True ∧ True) (σ1 := (28, [some (aR 11 k0), some (aI v1)], [aI ((5 : Int32)), aR 11 k0], M)) tc_50 rfl 2 (fun u => ⟨_, rfl⟩) ⟨trivial, trivial, trivial⟩ ?_
      refine gd_callN (ml := 2) (as := [aR 11 k0, aI ((5 : Int32))]) (rest := []) tc_50 rfl rfl rfl rfl rfl (by omega) (by omega) (Nat.le_of_ble_eq_true rfl) rfl (g_Rd_refuse (by omega) (by omega) h) (fun r9 M3 h => ?_)
      obtain ⟨rfl, h⟩ := h
      show Gd d w 50 _ (31, [some (aR 11 k0), some (aI v1)], [], M3)
      refine gd_s (P := True ∧ True) (σ1 := (53, [some (aR 11 k0), some (aI v1)], [], M3)) tc_50 rfl 1 (fun u => ⟨_, rfl⟩) ⟨trivial, trivial⟩ ?_
      exact gd_ret tc_50 rfl rfl trivial (fun _ => rfl) ⟨rfl, h⟩
  · have h := h.2 hc
    show Gd d w 50 _ (9, [some (aR 11 k0), some (aI v1)], [], M)
    refine gd_s (P := True ∧ True ∧ True) (σ1 := (11, [some (aR 11 k0), some (aI v1)], [aI ((2 : Int32)), aR 11 k0], M)) tc_50 rfl 2 (fun u => ⟨_, rfl⟩) ⟨trivial, trivial, trivial⟩ ?_
    refine gd_callN (ml := 2) (as := [aR 11 k0, aI ((2 : Int32))]) (rest := []) tc_50 rfl rfl rfl rfl rfl (by omega) (by omega) (Nat.le_of_ble_eq_true rfl) rfl (g_Rd_refuse (by omega) (by omega) h) (fun r9 M4 h => ?_)
    obtain ⟨rfl, h⟩ := h
    show Gd d w 50 _ (14, [some (aR 11 k0), some (aI v1)], [], M4)
    refine gd_s (P := True ∧ True) (σ1 := (53, [some (aR 11 k0), some (aI v1)], [], M4)) tc_50 rfl 1 (fun u => ⟨_, rfl⟩) ⟨trivial, trivial⟩ ?_
    exact gd_ret tc_50 rfl rfl trivial (fun _ => rfl) ⟨rfl, h⟩
theorem tc_38 : tC 38 = c38 := rfl
def w_Rd_readSetHead_J70 (post : aM → Prop) (k0 : Nat) (M : aM) : Prop := w_Rd_refuse (fun M1 => post M1) k0 ((2 : Int32)) M
theorem g_Rd_readSetHead_J70 {d w : Nat} (hd : 124 ≤ d) (hw : 3458 ≤ w) {post : aM → Prop} (k0 : Nat) (o1 o2 o3 : Option aV) (M : aM) (h : w_Rd_readSetHead_J70 post k0 M) : Gd d w 38 (pV post) (70, [some (aR 11 k0), o1, o2, o3], [], M) := by
  unfold w_Rd_readSetHead_J70 at h
  show Gd d w 38 _ (70, [some (aR 11 k0), o1, o2, o3], [], M)
  refine gd_s (P := True ∧ True ∧ True) (σ1 := (72, [some (aR 11 k0), o1, o2, o3], [aI ((2 : Int32)), aR 11 k0], M)) tc_38 rfl 2 (fun u => ⟨_, rfl⟩) ⟨trivial, trivial, trivial⟩ ?_
  refine gd_callN (ml := 2) (as := [aR 11 k0, aI ((2 : Int32))]) (rest := []) tc_38 rfl rfl rfl rfl rfl (by omega) (by omega) (Nat.le_of_ble_eq_true rfl) rfl (g_Rd_refuse (by omega) (by omega) h) (fun r9 M1 h => ?_)
  obtain ⟨rfl, h⟩ := h
  show Gd d w 38 _ (75, [some (aR 11 k0), o1, o2, o3], [], M1)
  exact gd_ret tc_38 rfl rfl trivial (fun _ => rfl) ⟨rfl, h⟩
def w_Rd_readSetHead_J111 (post : aM → Prop) (k0 : Nat) (v2 : Int32) (M : aM) : Prop := w_Rd_isFine (fun x1 => ((x1 = ((0 : Int32))) → post M) ∧ (¬ (x1 = ((0 : Int32))) → w_Rd_openCurly (fun M2 => post M2) k0 v2 M)) k0 M
theorem g_Rd_readSetHead_J111 {d w : Nat} (hd : 124 ≤ d) (hw : 3458 ≤ w) {post : aM → Prop} (k0 : Nat) (v2 : Int32) (o1 o3 : Option aV) (M : aM) (h : w_Rd_readSetHead_J111 post k0 v2 M) : Gd d w 38 (pV post) (111, [some (aR 11 k0), o1, some (aI v2), o3], [], M) := by
  unfold w_Rd_readSetHead_J111 at h
  show Gd d w 38 _ (111, [some (aR 11 k0), o1, some (aI v2), o3], [], M)
  refine gd_s (P := True ∧ True) (σ1 := (112, [some (aR 11 k0), o1, some (aI v2), o3], [aR 11 k0], M)) tc_38 rfl 1 (fun u => ⟨_, rfl⟩) ⟨trivial, trivial⟩ ?_
  refine gd_callN (ml := 1) (as := [aR 11 k0]) (rest := []) tc_38 rfl rfl rfl rfl rfl (by omega) (by omega) (Nat.le_of_ble_eq_true rfl) rfl (g_Rd_isFine (by omega) (by omega) h) (fun r9 M9 h => ?_)
  obtain ⟨x1, rfl, e9, h⟩ := h
  subst M9
  show Gd d w 38 _ (115, [some (aR 11 k0), o1, some (aI v2), o3], [aI x1], M)
  refine gd_br (c := x1 = ((0 : Int32))) (st1 := []) tc_38 rfl rfl (fun _ => rfl) ⟨fun hc => ?_, fun hc => ?_⟩
  · have h := h.1 hc
    show Gd d w 38 _ (123, [some (aR 11 k0), o1, some (aI v2), o3], [], M)
    exact gd_ret tc_38 rfl rfl trivial (fun _ => rfl) ⟨rfl, h⟩
  · have h := h.2 hc
    show Gd d w 38 _ (118, [some (aR 11 k0), o1, some (aI v2), o3], [], M)
    refine gd_s (P := True ∧ True ∧ True) (σ1 := (120, [some (aR 11 k0), o1, some (aI v2), o3], [aI v2, aR 11 k0], M)) tc_38 rfl 2 (fun u => ⟨_, rfl⟩) ⟨trivial, trivial, trivial⟩ ?_
    refine gd_callN (ml := 2) (as := [aR 11 k0, aI v2]) (rest := []) tc_38 rfl rfl rfl rfl rfl (by omega) (by omega) (Nat.le_of_ble_eq_true rfl) rfl (g_Rd_openCurly (by omega) (by omega) h) (fun r9 M2 h => ?_)
    obtain ⟨rfl, h⟩ := h
    show Gd d w 38 _ (123, [some (aR 11 k0), o1, some (aI v2), o3], [], M2)
    exact gd_ret tc_38 rfl rfl trivial (fun _ => rfl) ⟨rfl, h⟩
/-- PolicyJudge$Reader.readSetHead()V -/
def w_Rd_readSetHead (post : aM → Prop) (k0 : Nat) (M : aM) : Prop := w_Rd_token (fun x1 => ((x1 = ((4 : Int32))) → w_Rd_addNode (fun x2 M2 => ((¬ x2 = ((-1 : Int32))) → w_Rd_step (fun M3 => w_Rd_readName (fun x4 M4 => ((¬ x4 = ((0 : Int32))) → w_Rd_token (fun x5 => (((x5 - ((22 : Int32))) < ((0 : Int32))) → w_Rd_readSetHead_J70 post k0 M4) ∧ (¬ ((x5 - ((22 : Int32))) < ((0 : Int32))) → (((x5 - ((22 : Int32))) < ((6 : Int32))) → (vp_in x2 (rK M4 (((rR M k0 3) + 9) + 5)).2) ∧ (w_Rd_step (fun M6 => w_Rd_skip (fun x7 M7 => ((x7 = ((0 : Int32))) → w_Rd_readSetHead_J111 post k0 x2 M7) ∧ (¬ (x7 = ((0 : Int32))) → ∃ D, D ≤ 120 ∧ w_Rd_readJoined D (fun x8 M8 => (vp_in x2 (rK M8 (((rR M k0 3) + 9) + 7)).2) ∧ (w_Rd_readSetHead_J111 post k0 x2 (wI M8 (((rR M k0 3) + 9) + 7) x2.toNatClampNeg x8))) k0 ((10 : Int32)) (rI M7 k0 6) M7)) k0 ((5 : Int32)) M6) k0 (wI M4 (((rR M k0 3) + 9) + 5) x2.toNatClampNeg (x5 - ((22 : Int32)))))) ∧ (¬ ((x5 - ((22 : Int32))) < ((6 : Int32))) → w_Rd_readSetHead_J70 post k0 M4))) k0 M4) ∧ (¬ (¬ x4 = ((0 : Int32))) → w_Rd_refuse (fun M9 => post M9) k0 ((2 : Int32)) M4)) k0 x2 M3) k0 M2) ∧ (¬ (¬ x2 = ((-1 : Int32))) → post M2)) k0 ((2 : Int32)) M) ∧ (¬ (x1 = ((4 : Int32))) → w_Rd_refuse (fun M10 => post M10) k0 ((2 : Int32)) M)) k0 M
theorem g_Rd_readSetHead {d w : Nat} (hd : 124 ≤ d) (hw : 3458 ≤ w) {post : aM → Prop} {k0 : Nat} {M : aM} (h : w_Rd_readSetHead post k0 M) : Gd d w 38 (pV post) (0, aEnt 38 [aR 11 k0], [], M) := by
  unfold w_Rd_readSetHead at h
  show Gd d w 38 _ (0, [some (aR 11 k0), none, none, none], [], M)
  refine gd_s (P := True ∧ True ∧ True ∧ True ∧ True ∧ True) (σ1 := (9, [some (aR 11 k0), some (aR 16 ((rR M k0 3) + 9)), none, none], [aR 11 k0], M)) tc_38 rfl 5 (fun u => ⟨_, rfl⟩) ⟨trivial, trivial, trivial, trivial, trivial, trivial⟩ ?_
  refine gd_callN (ml := 1) (as := [aR 11 k0]) (rest := []) tc_38 rfl rfl rfl rfl rfl (by omega) (by omega) (Nat.le_of_ble_eq_true rfl) rfl (g_Rd_token (by omega) (by omega) h) (fun r9 M9 h => ?_)
  obtain ⟨x1, rfl, e9, h⟩ := h
  subst M9
  show Gd d w 38 _ (12, [some (aR 11 k0), some (aR 16 ((rR M k0 3) + 9)), none, none], [aI x1], M)
  refine gd_s (P := True ∧ True) (σ1 := (13, [some (aR 11 k0), some (aR 16 ((rR M k0 3) + 9)), none, none], [aI ((4 : Int32)), aI x1], M)) tc_38 rfl 1 (fun u => ⟨_, rfl⟩) ⟨trivial, trivial⟩ ?_
  refine gd_br (c := x1 = ((4 : Int32))) (st1 := []) tc_38 rfl rfl (fun _ => rfl) ⟨fun hc => ?_, fun hc => ?_⟩
  · have h := h.1 hc
    show Gd d w 38 _ (22, [some (aR 11 k0), some (aR 16 ((rR M k0 3) + 9)), none, none], [], M)
    refine gd_s (P := True ∧ True ∧ True) (σ1 := (24, [some (aR 11 k0), some (aR 16 ((rR M k0 3) + 9)), none, none], [aI ((2 : Int32)), aR 11 k0], M)) tc_38 rfl 2 (fun u => ⟨_, rfl⟩) ⟨trivial, trivial, trivial⟩ ?_
    refine gd_callN (ml := 3) (as := [aR 11 k0, aI ((2 : Int32))]) (rest := []) tc_38 rfl rfl rfl rfl rfl (by omega) (by omega) (Nat.le_of_ble_eq_true rfl) rfl (g_Rd_addNode (by omega) (by omega) h) (fun r9 M2 h => ?_)
    obtain ⟨x2, rfl, h⟩ := h
    show Gd d w 38 _ (27, [some (aR 11 k0), some (aR 16 ((rR M k0 3) + 9)), none, none], [aI x2], M2)
    refine gd_s (P := True ∧ True ∧ True ∧ True) (σ1 := (30, [some (aR 11 k0), some (aR 16 ((rR M k0 3) + 9)), some (aI x2), none], [aI ((-1 : Int32)), aI x2], M2)) tc_38 rfl 3 (fun u => ⟨_, rfl⟩) ⟨trivial, trivial, trivial, trivial⟩ ?_
    refine gd_br (c := ¬ x2 = ((-1 : Int32))) (st1 := []) tc_38 rfl rfl (fun _ => rfl) ⟨fun hc => ?_, fun hc => ?_⟩
    · have h := h.1 hc
      show Gd d w 38 _ (34, [some (aR 11 k0), some (aR 16 ((rR M k0 3) + 9)), some (aI x2), none], [], M2)
      refine gd_s (P := True ∧ True) (σ1 := (35, [some (aR 11 k0), some (aR 16 ((rR M k0 3) + 9)), some (aI x2), none], [aR 11 k0], M2)) tc_38 rfl 1 (fun u => ⟨_, rfl⟩) ⟨trivial, trivial⟩ ?_
      refine gd_callN (ml := 1) (as := [aR 11 k0]) (rest := []) tc_38 rfl rfl rfl rfl rfl (by omega) (by omega) (Nat.le_of_ble_eq_true rfl) rfl (g_Rd_step (by omega) (by omega) h) (fun r9 M3 h => ?_)
      obtain ⟨rfl, h⟩ := h
      show Gd d w 38 _ (38, [some (aR 11 k0), some (aR 16 ((rR M k0 3) + 9)), some (aI x2), none], [], M3)
      refine gd_s (P := True ∧ True ∧ True) (σ1 := (40, [some (aR 11 k0), some (aR 16 ((rR M k0 3) + 9)), some (aI x2), none], [aI x2, aR 11 k0], M3)) tc_38 rfl 2 (fun u => ⟨_, rfl⟩) ⟨trivial, trivial, trivial⟩ ?_
      refine gd_callN (ml := 2) (as := [aR 11 k0, aI x2]) (rest := []) tc_38 rfl rfl rfl rfl rfl (by omega) (by omega) (Nat.le_of_ble_eq_true rfl) rfl (g_Rd_readName (by omega) (by omega) h) (fun r9 M4 h => ?_)
      obtain ⟨x4, rfl, h⟩ := h
      show Gd d w 38 _ (43, [some (aR 11 k0), some (aR 16 ((rR M k0 3) + 9)), some (aI x2), none], [aI x4], M4)
      refine gd_br (c := ¬ x4 = ((0 : Int32))) (st1 := []) tc_38 rfl rfl (fun _ => rfl) ⟨fun hc => ?_, fun hc => ?_⟩
      · have h := h.1 hc
        show Gd d w 38 _ (52, [some (aR 11 k0), some (aR 16 ((rR M k0 3) + 9)), some (aI x2), none], [], M4)
        refine gd_s (P := True ∧ True) (σ1 := (53, [some (aR 11 k0), some (aR 16 ((rR M k0 3) + 9)), some (aI x2), none], [aR 11 k0], M4)) tc_38 rfl 1 (fun u => ⟨_, rfl⟩) ⟨trivial, trivial⟩ ?_
        refine gd_callN (ml := 1) (as := [aR 11 k0]) (rest := []) tc_38 rfl rfl rfl rfl rfl (by omega) (by omega) (Nat.le_of_ble_eq_true rfl) rfl (g_Rd_token (by omega) (by omega) h) (fun r9 M9 h => ?_)
        obtain ⟨x5, rfl, e9, h⟩ := h
        subst M9
        show Gd d w 38 _ (56, [some (aR 11 k0), some (aR 16 ((rR M k0 3) + 9)), some (aI x2), none], [aI x5], M4)
        refine gd_s (P := True ∧ True ∧ True ∧ True ∧ True) (σ1 := (61, [some (aR 11 k0), some (aR 16 ((rR M k0 3) + 9)), some (aI x2), some (aI (x5 - ((22 : Int32))))], [aI (x5 - ((22 : Int32)))], M4)) tc_38 rfl 4 (fun u => ⟨_, rfl⟩) ⟨trivial, trivial, trivial, trivial, trivial⟩ ?_
        refine gd_br (c := (x5 - ((22 : Int32))) < ((0 : Int32))) (st1 := []) tc_38 rfl rfl (fun _ => rfl) ⟨fun hc => ?_, fun hc => ?_⟩
        · have h := h.1 hc
          exact g_Rd_readSetHead_J70 hd hw k0 (some (aR 16 ((rR M k0 3) + 9))) (some (aI x2)) (some (aI (x5 - ((22 : Int32))))) M4 h
        · have h := h.2 hc
          show Gd d w 38 _ (64, [some (aR 11 k0), some (aR 16 ((rR M k0 3) + 9)), some (aI x2), some (aI (x5 - ((22 : Int32))))], [], M4)
          refine gd_s (P := True ∧ True ∧ True) (σ1 := (67, [some (aR 11 k0), some (aR 16 ((rR M k0 3) + 9)), some (aI x2), some (aI (x5 - ((22 : Int32))))], [aI ((6 : Int32)), aI (x5 - ((22 : Int32)))], M4)) tc_38 rfl 2 (fun u => ⟨_, rfl⟩) ⟨trivial, trivial, trivial⟩ ?_
          refine gd_br (c := (x5 - ((22 : Int32))) < ((6 : Int32))) (st1 := []) tc_38 rfl rfl (fun _ => rfl) ⟨fun hc => ?_, fun hc => ?_⟩
          · have h := h.1 hc
            show Gd d w 38 _ (76, [some (aR 11 k0), some (aR 16 ((rR M k0 3) + 9)), some (aI x2), some (aI (x5 - ((22 : Int32))))], [], M4)
            obtain ⟨c0, h⟩ := h
            refine gd_s (P := True ∧ True ∧ True ∧ True ∧ (vp_in x2 (rK M4 (((rR M k0 3) + 9) + 5)).2) ∧ True ∧ True) (σ1 := (84, [some (aR 11 k0), some (aR 16 ((rR M k0 3) + 9)), some (aI x2), some (aI (x5 - ((22 : Int32))))], [aR 11 k0], wI M4 (((rR M k0 3) + 9) + 5) x2.toNatClampNeg (x5 - ((22 : Int32))))) tc_38 rfl 6 (fun u => ⟨_, rfl⟩) ⟨trivial, trivial, trivial, trivial, c0, trivial, trivial⟩ ?_
            refine gd_callN (ml := 1) (as := [aR 11 k0]) (rest := []) tc_38 rfl rfl rfl rfl rfl (by omega) (by omega) (Nat.le_of_ble_eq_true rfl) rfl (g_Rd_step (by omega) (by omega) h) (fun r9 M6 h => ?_)
            obtain ⟨rfl, h⟩ := h
            show Gd d w 38 _ (87, [some (aR 11 k0), some (aR 16 ((rR M k0 3) + 9)), some (aI x2), some (aI (x5 - ((22 : Int32))))], [], M6)
            refine gd_s (P := True ∧ True ∧ True) (σ1 := (89, [some (aR 11 k0), some (aR 16 ((rR M k0 3) + 9)), some (aI x2), some (aI (x5 - ((22 : Int32))))], [aI ((5 : Int32)), aR 11 k0], M6)) tc_38 rfl 2 (fun u => ⟨_, rfl⟩) ⟨trivial, trivial, trivial⟩ ?_
            refine gd_callN (ml := 2) (as := [aR 11 k0, aI ((5 : Int32))]) (rest := []) tc_38 rfl rfl rfl rfl rfl (by omega) (by omega) (Nat.le_of_ble_eq_true rfl) rfl (g_Rd_skip (by omega) (by omega) h) (fun r9 M7 h => ?_)
            obtain ⟨x7, rfl, h⟩ := h
            show Gd d w 38 _ (92, [some (aR 11 k0), some (aR 16 ((rR M k0 3) + 9)), some (aI x2), some (aI (x5 - ((22 : Int32))))], [aI x7], M7)
            refine gd_br (c := x7 = ((0 : Int32))) (st1 := []) tc_38 rfl rfl (fun _ => rfl) ⟨fun hc => ?_, fun hc => ?_⟩
            · have h := h.1 hc
              exact g_Rd_readSetHead_J111 hd hw k0 x2 (some (aR 16 ((rR M k0 3) + 9))) (some (aI (x5 - ((22 : Int32))))) M7 h
            · have h := h.2 hc
              show Gd d w 38 _ (95, [some (aR 11 k0), some (aR 16 ((rR M k0 3) + 9)), some (aI x2), some (aI (x5 - ((22 : Int32))))], [], M7)
              refine gd_s (P := True ∧ True ∧ True ∧ True ∧ True ∧ True ∧ True ∧ True) (σ1 := (107, [some (aR 11 k0), some (aR 16 ((rR M k0 3) + 9)), some (aI x2), some (aI (x5 - ((22 : Int32))))], [aI (rI M7 k0 6), aI ((10 : Int32)), aR 11 k0, aI x2, aR 4 (((rR M k0 3) + 9) + 7)], M7)) tc_38 rfl 7 (fun u => ⟨_, rfl⟩) ⟨trivial, trivial, trivial, trivial, trivial, trivial, trivial, trivial⟩ ?_
              obtain ⟨D9, hD9, h⟩ := h
              refine gd_callN (ml := 9) (as := [aR 11 k0, aI ((10 : Int32)), aI (rI M7 k0 6)]) (rest := [aI x2, aR 4 (((rR M k0 3) + 9) + 7)]) tc_38 rfl rfl rfl rfl rfl (by omega) (by omega) (Nat.le_of_ble_eq_true rfl) rfl (g_Rd_readJoined (D := D9) (by omega) (by omega) h) (fun r9 M8 h => ?_)
              obtain ⟨x8, rfl, h⟩ := h
              show Gd d w 38 _ (110, [some (aR 11 k0), some (aR 16 ((rR M k0 3) + 9)), some (aI x2), some (aI (x5 - ((22 : Int32))))], [aI x8, aI x2, aR 4 (((rR M k0 3) + 9) + 7)], M8)
              obtain ⟨c0, h⟩ := h
              refine gd_s (P := (vp_in x2 (rK M8 (((rR M k0 3) + 9) + 7)).2) ∧ True) (σ1 := (111, [some (aR 11 k0), some (aR 16 ((rR M k0 3) + 9)), some (aI x2), some (aI (x5 - ((22 : Int32))))], [], wI M8 (((rR M k0 3) + 9) + 7) x2.toNatClampNeg x8)) tc_38 rfl 1 (fun u => ⟨_, rfl⟩) ⟨c0, trivial⟩ ?_
              exact g_Rd_readSetHead_J111 hd hw k0 x2 (some (aR 16 ((rR M k0 3) + 9))) (some (aI (x5 - ((22 : Int32))))) (wI M8 (((rR M k0 3) + 9) + 7) x2.toNatClampNeg x8) h
          · have h := h.2 hc
            exact g_Rd_readSetHead_J70 hd hw k0 (some (aR 16 ((rR M k0 3) + 9))) (some (aI x2)) (some (aI (x5 - ((22 : Int32))))) M4 h
      · have h := h.2 hc
        show Gd d w 38 _ (46, [some (aR 11 k0), some (aR 16 ((rR M k0 3) + 9)), some (aI x2), none], [], M4)
        refine gd_s (P := True ∧ True ∧ True) (σ1 := (48, [some (aR 11 k0), some (aR 16 ((rR M k0 3) + 9)), some (aI x2), none], [aI ((2 : Int32)), aR 11 k0], M4)) tc_38 rfl 2 (fun u => ⟨_, rfl⟩) ⟨trivial, trivial, trivial⟩ ?_
        refine gd_callN (ml := 2) (as := [aR 11 k0, aI ((2 : Int32))]) (rest := []) tc_38 rfl rfl rfl rfl rfl (by omega) (by omega) (Nat.le_of_ble_eq_true rfl) rfl (g_Rd_refuse (by omega) (by omega) h) (fun r9 M9 h => ?_)
        obtain ⟨rfl, h⟩ := h
        show Gd d w 38 _ (51, [some (aR 11 k0), some (aR 16 ((rR M k0 3) + 9)), some (aI x2), none], [], M9)
        exact gd_ret tc_38 rfl rfl trivial (fun _ => rfl) ⟨rfl, h⟩
    · have h := h.2 hc
      show Gd d w 38 _ (33, [some (aR 11 k0), some (aR 16 ((rR M k0 3) + 9)), some (aI x2), none], [], M2)
      exact gd_ret tc_38 rfl rfl trivial (fun _ => rfl) ⟨rfl, h⟩
  · have h := h.2 hc
    show Gd d w 38 _ (16, [some (aR 11 k0), some (aR 16 ((rR M k0 3) + 9)), none, none], [], M)
    refine gd_s (P := True ∧ True ∧ True) (σ1 := (18, [some (aR 11 k0), some (aR 16 ((rR M k0 3) + 9)), none, none], [aI ((2 : Int32)), aR 11 k0], M)) tc_38 rfl 2 (fun u => ⟨_, rfl⟩) ⟨trivial, trivial, trivial⟩ ?_
    refine gd_callN (ml := 2) (as := [aR 11 k0, aI ((2 : Int32))]) (rest := []) tc_38 rfl rfl rfl rfl rfl (by omega) (by omega) (Nat.le_of_ble_eq_true rfl) rfl (g_Rd_refuse (by omega) (by omega) h) (fun r9 M10 h => ?_)
    obtain ⟨rfl, h⟩ := h
    show Gd d w 38 _ (21, [some (aR 11 k0), some (aR 16 ((rR M k0 3) + 9)), none, none], [], M10)
    exact gd_ret tc_38 rfl rfl trivial (fun _ => rfl) ⟨rfl, h⟩
theorem tc_85 : tC 85 = c85 := rfl
def w_Nd_addDuty_J40 (post : aM → Prop) (k0 : Nat) (v1 : Int32) (M : aM) : Prop := (vp_in v1 (rK M (k0 + 8)).2) ∧ (vp_in v1 (rK M (k0 + 8)).2) ∧ post (wI M (k0 + 8) v1.toNatClampNeg ((rI M (k0 + 8) v1.toNatClampNeg) + ((1 : Int32))))
theorem g_Nd_addDuty_J40 {d w : Nat} (hd : 0 ≤ d) (hw : 0 ≤ w) {post : aM → Prop} (k0 : Nat) (v1 : Int32) (o2 o3 : Option aV) (M : aM) (h : w_Nd_addDuty_J40 post k0 v1 M) : Gd d w 85 (pV post) (40, [some (aR 16 k0), some (aI v1), o2, o3], [], M) := by
  unfold w_Nd_addDuty_J40 at h
  show Gd d w 85 _ (40, [some (aR 16 k0), some (aI v1), o2, o3], [], M)
  obtain ⟨c0, c1, h⟩ := h
  refine gd_s (P := True ∧ True ∧ True ∧ True ∧ (vp_in v1 (rK M (k0 + 8)).2) ∧ True ∧ True ∧ (vp_in v1 (rK M (k0 + 8)).2) ∧ True) (σ1 := (50, [some (aR 16 k0), some (aI v1), o2, o3], [], wI M (k0 + 8) v1.toNatClampNeg ((rI M (k0 + 8) v1.toNatClampNeg) + ((1 : Int32))))) tc_85 rfl 8 (fun u => ⟨_, rfl⟩) ⟨trivial, trivial, trivial, trivial, c0, trivial, trivial, c1, trivial⟩ ?_
  exact gd_ret tc_85 rfl rfl trivial (fun _ => rfl) ⟨rfl, h⟩
def w_Nd_addDuty_J30 (post : aM → Prop) (k0 : Nat) (v1 : Int32) (M : aM) : Prop := w_Nd_addDuty_J40 post k0 v1 (wI M k0 10 ((rI M k0 10) + ((1 : Int32))))
theorem g_Nd_addDuty_J30 {d w : Nat} (hd : 0 ≤ d) (hw : 0 ≤ w) {post : aM → Prop} (k0 : Nat) (v1 : Int32) (o2 o3 : Option aV) (M : aM) (h : w_Nd_addDuty_J30 post k0 v1 M) : Gd d w 85 (pV post) (30, [some (aR 16 k0), some (aI v1), o2, o3], [], M) := by
  unfold w_Nd_addDuty_J30 at h
  show Gd d w 85 _ (30, [some (aR 16 k0), some (aI v1), o2, o3], [], M)
  refine gd_s (P := True ∧ True ∧ True ∧ True ∧ True ∧ True ∧ True) (σ1 := (40, [some (aR 16 k0), some (aI v1), o2, o3], [], wI M k0 10 ((rI M k0 10) + ((1 : Int32))))) tc_85 rfl 6 (fun u => ⟨_, rfl⟩) ⟨trivial, trivial, trivial, trivial, trivial, trivial, trivial⟩ ?_
  exact g_Nd_addDuty_J40 hd hw k0 v1 o2 o3 (wI M k0 10 ((rI M k0 10) + ((1 : Int32)))) h
def w_Nd_addDuty_J20 (post : aM → Prop) (k0 : Nat) (v1 : Int32) (v2 : Int32) (M : aM) : Prop := (vp_in (rI M k0 10) (rK M (k0 + 14)).2) ∧ (w_Nd_addDuty_J30 post k0 v1 (wI M (k0 + 14) (rI M k0 10).toNatClampNeg v2))
theorem g_Nd_addDuty_J20 {d w : Nat} (hd : 0 ≤ d) (hw : 0 ≤ w) {post : aM → Prop} (k0 : Nat) (v1 : Int32) (v2 : Int32) (o3 : Option aV) (M : aM) (h : w_Nd_addDuty_J20 post k0 v1 v2 M) : Gd d w 85 (pV post) (20, [some (aR 16 k0), some (aI v1), some (aI v2), o3], [], M) := by
  unfold w_Nd_addDuty_J20 at h
  show Gd d w 85 _ (20, [some (aR 16 k0), some (aI v1), some (aI v2), o3], [], M)
  obtain ⟨c0, h⟩ := h
  refine gd_s (P := True ∧ True ∧ True ∧ True ∧ True ∧ (vp_in (rI M k0 10) (rK M (k0 + 14)).2) ∧ True) (σ1 := (30, [some (aR 16 k0), some (aI v1), some (aI v2), o3], [], wI M (k0 + 14) (rI M k0 10).toNatClampNeg v2)) tc_85 rfl 6 (fun u => ⟨_, rfl⟩) ⟨trivial, trivial, trivial, trivial, trivial, c0, trivial⟩ ?_
  exact g_Nd_addDuty_J30 hd hw k0 v1 (some (aI v2)) o3 (wI M (k0 + 14) (rI M k0 10).toNatClampNeg v2) h
def w_Nd_addDuty_J10 (post : aM → Prop) (k0 : Nat) (v1 : Int32) (v2 : Int32) (M : aM) : Prop := (vp_in (rI M k0 10) (rK M (k0 + 13)).2) ∧ (w_Nd_addDuty_J20 post k0 v1 v2 (wI M (k0 + 13) (rI M k0 10).toNatClampNeg v1))
theorem g_Nd_addDuty_J10 {d w : Nat} (hd : 0 ≤ d) (hw : 0 ≤ w) {post : aM → Prop} (k0 : Nat) (v1 : Int32) (v2 : Int32) (o3 : Option aV) (M : aM) (h : w_Nd_addDuty_J10 post k0 v1 v2 M) : Gd d w 85 (pV post) (10, [some (aR 16 k0), some (aI v1), some (aI v2), o3], [], M) := by
  unfold w_Nd_addDuty_J10 at h
  show Gd d w 85 _ (10, [some (aR 16 k0), some (aI v1), some (aI v2), o3], [], M)
  obtain ⟨c0, h⟩ := h
  refine gd_s (P := True ∧ True ∧ True ∧ True ∧ True ∧ (vp_in (rI M k0 10) (rK M (k0 + 13)).2) ∧ True) (σ1 := (20, [some (aR 16 k0), some (aI v1), some (aI v2), o3], [], wI M (k0 + 13) (rI M k0 10).toNatClampNeg v1)) tc_85 rfl 6 (fun u => ⟨_, rfl⟩) ⟨trivial, trivial, trivial, trivial, trivial, c0, trivial⟩ ?_
  exact g_Nd_addDuty_J20 hd hw k0 v1 v2 o3 (wI M (k0 + 13) (rI M k0 10).toNatClampNeg v1) h
/-- PolicyJudge$Nodes.addDuty(III)V -/
def w_Nd_addDuty (post : aM → Prop) (k0 : Nat) (v1 : Int32) (v2 : Int32) (v3 : Int32) (M : aM) : Prop := (vp_in (rI M k0 10) (rK M (k0 + 12)).2) ∧ (w_Nd_addDuty_J10 post k0 v1 v2 (wI M (k0 + 12) (rI M k0 10).toNatClampNeg v3))
theorem g_Nd_addDuty {d w : Nat} (hd : 0 ≤ d) (hw : 0 ≤ w) {post : aM → Prop} {k0 : Nat} {v1 : Int32} {v2 : Int32} {v3 : Int32} {M : aM} (h : w_Nd_addDuty post k0 v1 v2 v3 M) : Gd d w 85 (pV post) (0, aEnt 85 [aR 16 k0, aI v1, aI v2, aI v3], [], M) := by
  unfold w_Nd_addDuty at h
  show Gd d w 85 _ (0, [some (aR 16 k0), some (aI v1), some (aI v2), some (aI v3)], [], M)
  obtain ⟨c0, h⟩ := h
  refine gd_s (P := True ∧ True ∧ True ∧ True ∧ True ∧ (vp_in (rI M k0 10) (rK M (k0 + 12)).2) ∧ True) (σ1 := (10, [some (aR 16 k0), some (aI v1), some (aI v2), some (aI v3)], [], wI M (k0 + 12) (rI M k0 10).toNatClampNeg v3)) tc_85 rfl 6 (fun u => ⟨_, rfl⟩) ⟨trivial, trivial, trivial, trivial, trivial, c0, trivial⟩ ?_
  exact g_Nd_addDuty_J10 hd hw k0 v1 v2 (some (aI v3)) (wI M (k0 + 12) (rI M k0 10).toNatClampNeg v3) h
theorem tc_53 : tC 53 = c53 := rfl
/-- PolicyJudge$Reader.readDutyNumber(II)V -/
def w_Rd_readDutyNumber (post : aM → Prop) (k0 : Nat) (v1 : Int32) (v2 : Int32) (M : aM) : Prop := w_Rd_token (fun x1 => ((x1 = ((129 : Int32))) → (((rI M ((rR M k0 3) + 9) 10) < ((100 : Int32))) → w_Rd_tokenValue (fun x2 => w_Nd_addDuty (fun M3 => w_Rd_step (fun M4 => post M4) k0 M3) ((rR M k0 3) + 9) v1 v2 x2 M) k0 M) ∧ (¬ ((rI M ((rR M k0 3) + 9) 10) < ((100 : Int32))) → w_Rd_refuse (fun M5 => post M5) k0 ((5 : Int32)) M)) ∧ (¬ (x1 = ((129 : Int32))) → w_Rd_refuse (fun M6 => post M6) k0 ((2 : Int32)) M)) k0 M
theorem g_Rd_readDutyNumber {d w : Nat} (hd : 1 ≤ d) (hw : 23 ≤ w) {post : aM → Prop} {k0 : Nat} {v1 : Int32} {v2 : Int32} {M : aM} (h : w_Rd_readDutyNumber post k0 v1 v2 M) : Gd d w 53 (pV post) (0, aEnt 53 [aR 11 k0, aI v1, aI v2], [], M) := by
  unfold w_Rd_readDutyNumber at h
  show Gd d w 53 _ (0, [some (aR 11 k0), some (aI v1), some (aI v2)], [], M)
  refine gd_s (P := True ∧ True) (σ1 := (1, [some (aR 11 k0), some (aI v1), some (aI v2)], [aR 11 k0], M)) tc_53 rfl 1 (fun u => ⟨_, rfl⟩) ⟨trivial, trivial⟩ ?_
  refine gd_callN (ml := 1) (as := [aR 11 k0]) (rest := []) tc_53 rfl rfl rfl rfl rfl (by omega) (by omega) (Nat.le_of_ble_eq_true rfl) rfl (g_Rd_token (by omega) (by omega) h) (fun r9 M9 h => ?_)
  obtain ⟨x1, rfl, e9, h⟩ := h
  subst M9
  show Gd d w 53 _ (4, [some (aR 11 k0), some (aI v1), some (aI v2)], [aI x1], M)
  refine gd_s (P := True ∧ True) (σ1 := (7, [some (aR 11 k0), some (aI v1), some (aI v2)], [aI ((129 : Int32)), aI x1], M)) tc_53 rfl 1 (fun u => ⟨_, rfl⟩) ⟨trivial, trivial⟩ ?_
  refine gd_br (c := x1 = ((129 : Int32))) (st1 := []) tc_53 rfl rfl (fun _ => rfl) ⟨fun hc => ?_, fun hc => ?_⟩
  · have h := h.1 hc
    show Gd d w 53 _ (18, [some (aR 11 k0), some (aI v1), some (aI v2)], [], M)
    refine gd_s (P := True ∧ True ∧ True ∧ True ∧ True ∧ True) (σ1 := (30, [some (aR 11 k0), some (aI v1), some (aI v2)], [aI ((100 : Int32)), aI (rI M ((rR M k0 3) + 9) 10)], M)) tc_53 rfl 5 (fun u => ⟨_, rfl⟩) ⟨trivial, trivial, trivial, trivial, trivial, trivial⟩ ?_
    refine gd_br (c := (rI M ((rR M k0 3) + 9) 10) < ((100 : Int32))) (st1 := []) tc_53 rfl rfl (fun _ => rfl) ⟨fun hc => ?_, fun hc => ?_⟩
    · have h := h.1 hc
      show Gd d w 53 _ (41, [some (aR 11 k0), some (aI v1), some (aI v2)], [], M)
      refine gd_s (P := True ∧ True ∧ True ∧ True ∧ True ∧ True ∧ True) (σ1 := (51, [some (aR 11 k0), some (aI v1), some (aI v2)], [aR 11 k0, aI v2, aI v1, aR 16 ((rR M k0 3) + 9)], M)) tc_53 rfl 6 (fun u => ⟨_, rfl⟩) ⟨trivial, trivial, trivial, trivial, trivial, trivial, trivial⟩ ?_
      refine gd_callN (ml := 1) (as := [aR 11 k0]) (rest := [aI v2, aI v1, aR 16 ((rR M k0 3) + 9)]) tc_53 rfl rfl rfl rfl rfl (by omega) (by omega) (Nat.le_of_ble_eq_true rfl) rfl (g_Rd_tokenValue (by omega) (by omega) h) (fun r9 M9 h => ?_)
      obtain ⟨x2, rfl, e9, h⟩ := h
      subst M9
      show Gd d w 53 _ (54, [some (aR 11 k0), some (aI v1), some (aI v2)], [aI x2, aI v2, aI v1, aR 16 ((rR M k0 3) + 9)], M)
      refine gd_callN (ml := 4) (as := [aR 16 ((rR M k0 3) + 9), aI v1, aI v2, aI x2]) (rest := []) tc_53 rfl rfl rfl rfl rfl (by omega) (by omega) (Nat.le_of_ble_eq_true rfl) rfl (g_Nd_addDuty (by omega) (by omega) h) (fun r9 M3 h => ?_)
      obtain ⟨rfl, h⟩ := h
      show Gd d w 53 _ (57, [some (aR 11 k0), some (aI v1), some (aI v2)], [], M3)
      refine gd_s (P := True ∧ True) (σ1 := (58, [some (aR 11 k0), some (aI v1), some (aI v2)], [aR 11 k0], M3)) tc_53 rfl 1 (fun u => ⟨_, rfl⟩) ⟨trivial, trivial⟩ ?_
      refine gd_callN (ml := 1) (as := [aR 11 k0]) (rest := []) tc_53 rfl rfl rfl rfl rfl (by omega) (by omega) (Nat.le_of_ble_eq_true rfl) rfl (g_Rd_step (by omega) (by omega) h) (fun r9 M4 h => ?_)
      obtain ⟨rfl, h⟩ := h
      show Gd d w 53 _ (61, [some (aR 11 k0), some (aI v1), some (aI v2)], [], M4)
      exact gd_ret tc_53 rfl rfl trivial (fun _ => rfl) ⟨rfl, h⟩
    · have h := h.2 hc
      show Gd d w 53 _ (33, [some (aR 11 k0), some (aI v1), some (aI v2)], [], M)
      refine gd_s (P := True ∧ True ∧ True) (σ1 := (35, [some (aR 11 k0), some (aI v1), some (aI v2)], [aI ((5 : Int32)), aR 11 k0], M)) tc_53 rfl 2 (fun u => ⟨_, rfl⟩) ⟨trivial, trivial, trivial⟩ ?_
      refine gd_callN (ml := 2) (as := [aR 11 k0, aI ((5 : Int32))]) (rest := []) tc_53 rfl rfl rfl rfl rfl (by omega) (by omega) (Nat.le_of_ble_eq_true rfl) rfl (g_Rd_refuse (by omega) (by omega) h) (fun r9 M5 h => ?_)
      obtain ⟨rfl, h⟩ := h
      show Gd d w 53 _ (38, [some (aR 11 k0), some (aI v1), some (aI v2)], [], M5)
      refine gd_s (P := True ∧ True) (σ1 := (61, [some (aR 11 k0), some (aI v1), some (aI v2)], [], M5)) tc_53 rfl 1 (fun u => ⟨_, rfl⟩) ⟨trivial, trivial⟩ ?_
      exact gd_ret tc_53 rfl rfl trivial (fun _ => rfl) ⟨rfl, h⟩
  · have h := h.2 hc
    show Gd d w 53 _ (10, [some (aR 11 k0), some (aI v1), some (aI v2)], [], M)
    refine gd_s (P := True ∧ True ∧ True) (σ1 := (12, [some (aR 11 k0), some (aI v1), some (aI v2)], [aI ((2 : Int32)), aR 11 k0], M)) tc_53 rfl 2 (fun u => ⟨_, rfl⟩) ⟨trivial, trivial, trivial⟩ ?_
    refine gd_callN (ml := 2) (as := [aR 11 k0, aI ((2 : Int32))]) (rest := []) tc_53 rfl rfl rfl rfl rfl (by omega) (by omega) (Nat.le_of_ble_eq_true rfl) rfl (g_Rd_refuse (by omega) (by omega) h) (fun r9 M6 h => ?_)
    obtain ⟨rfl, h⟩ := h
    show Gd d w 53 _ (15, [some (aR 11 k0), some (aI v1), some (aI v2)], [], M6)
    refine gd_s (P := True ∧ True) (σ1 := (61, [some (aR 11 k0), some (aI v1), some (aI v2)], [], M6)) tc_53 rfl 1 (fun u => ⟨_, rfl⟩) ⟨trivial, trivial⟩ ?_
    exact gd_ret tc_53 rfl rfl trivial (fun _ => rfl) ⟨rfl, h⟩
theorem tc_52 : tC 52 = c52 := rfl
def w_Rd_readRuleDuties_L2 (post : aM → Prop) : Nat → Nat → Int32 → Int32 → Int32 → aM → Prop
  | 0, _, _, _, _, _ => False
  | n + 1, k0, v1, v2, v3, M => ((((100 : Int32)) < v3) → post M) ∧ (¬ (((100 : Int32)) < v3) → w_Rd_step (fun M1 => w_Rd_readDutyNumber (fun M2 => w_Rd_isFine (fun x3 => ((x3 = ((0 : Int32))) → post M2) ∧ (¬ (x3 = ((0 : Int32))) → w_Rd_token (fun x4 => ((x4 = ((44 : Int32))) → w_Rd_readRuleDuties_L2 post n k0 v1 v2 (v3 + (1 : Int32)) M2) ∧ (¬ (x4 = ((44 : Int32))) → post M2)) k0 M2)) k0 M2) k0 v1 v2 M1) k0 M)
theorem g_Rd_readRuleDuties_L2 {d w : Nat} (hd : 2 ≤ d) (hw : 45 ≤ w) {post : aM → Prop} : ∀ (n : Nat) (k0 : Nat) (v1 : Int32) (v2 : Int32) (v3 : Int32) (M : aM), w_Rd_readRuleDuties_L2 post n k0 v1 v2 v3 M → Gd d w 52 (pV post) (2, [some (aR 11 k0), some (aI v1), some (aI v2), some (aI v3)], [], M) := by
  intro n
  induction n with
  | zero => intro k0 v1 v2 v3 M h; exact h.elim
  | succ n ih =>
    intro k0 v1 v2 v3 M h
    show Gd d w 52 _ (2, [some (aR 11 k0), some (aI v1), some (aI v2), some (aI v3)], [], M)
    refine gd_s (P := True ∧ True ∧ True) (σ1 := (5, [some (aR 11 k0), some (aI v1), some (aI v2), some (aI v3)], [aI ((100 : Int32)), aI v3], M)) tc_52 rfl 2 (fun u => ⟨_, rfl⟩) ⟨trivial, trivial, trivial⟩ ?_
    refine gd_br (c := ((100 : Int32)) < v3) (st1 := []) tc_52 rfl rfl (fun _ => rfl) ⟨fun hc => ?_, fun hc => ?_⟩
    · have h := h.1 hc
      show Gd d w 52 _ (41, [some (aR 11 k0), some (aI v1), some (aI v2), some (aI v3)], [], M)
      exact gd_ret tc_52 rfl rfl trivial (fun _ => rfl) ⟨rfl, h⟩
    · have h := h.2 hc
      show Gd d w 52 _ (8, [some (aR 11 k0), some (aI v1), some (aI v2), some (aI v3)], [], M)
      refine gd_s (P := True ∧ True) (σ1 := (9, [some (aR 11 k0), some (aI v1), some (aI v2), some (aI v3)], [aR 11 k0], M)) tc_52 rfl 1 (fun u => ⟨_, rfl⟩) ⟨trivial, trivial⟩ ?_
      refine gd_callN (ml := 1) (as := [aR 11 k0]) (rest := []) tc_52 rfl rfl rfl rfl rfl (by omega) (by omega) (Nat.le_of_ble_eq_true rfl) rfl (g_Rd_step (by omega) (by omega) h) (fun r9 M1 h => ?_)
      obtain ⟨rfl, h⟩ := h
      show Gd d w 52 _ (12, [some (aR 11 k0), some (aI v1), some (aI v2), some (aI v3)], [], M1)
      refine gd_s (P := True ∧ True ∧ True ∧ True) (σ1 := (15, [some (aR 11 k0), some (aI v1), some (aI v2), some (aI v3)], [aI v2, aI v1, aR 11 k0], M1)) tc_52 rfl 3 (fun u => ⟨_, rfl⟩) ⟨trivial, trivial, trivial, trivial⟩ ?_
      refine gd_callN (ml := 3) (as := [aR 11 k0, aI v1, aI v2]) (rest := []) tc_52 rfl rfl rfl rfl rfl (by omega) (by omega) (Nat.le_of_ble_eq_true rfl) rfl (g_Rd_readDutyNumber (by omega) (by omega) h) (fun r9 M2 h => ?_)
      obtain ⟨rfl, h⟩ := h
      show Gd d w 52 _ (18, [some (aR 11 k0), some (aI v1), some (aI v2), some (aI v3)], [], M2)
      refine gd_s (P := True ∧ True) (σ1 := (19, [some (aR 11 k0), some (aI v1), some (aI v2), some (aI v3)], [aR 11 k0], M2)) tc_52 rfl 1 (fun u => ⟨_, rfl⟩) ⟨trivial, trivial⟩ ?_
      refine gd_callN (ml := 1) (as := [aR 11 k0]) (rest := []) tc_52 rfl rfl rfl rfl rfl (by omega) (by omega) (Nat.le_of_ble_eq_true rfl) rfl (g_Rd_isFine (by omega) (by omega) h) (fun r9 M9 h => ?_)
      obtain ⟨x3, rfl, e9, h⟩ := h
      subst M9
      show Gd d w 52 _ (22, [some (aR 11 k0), some (aI v1), some (aI v2), some (aI v3)], [aI x3], M2)
      refine gd_br (c := x3 = ((0 : Int32))) (st1 := []) tc_52 rfl rfl (fun _ => rfl) ⟨fun hc => ?_, fun hc => ?_⟩
      · have h := h.1 hc
        show Gd d w 52 _ (34, [some (aR 11 k0), some (aI v1), some (aI v2), some (aI v3)], [], M2)
        exact gd_ret tc_52 rfl rfl trivial (fun _ => rfl) ⟨rfl, h⟩
      · have h := h.2 hc
        show Gd d w 52 _ (25, [some (aR 11 k0), some (aI v1), some (aI v2), some (aI v3)], [], M2)
        refine gd_s (P := True ∧ True) (σ1 := (26, [some (aR 11 k0), some (aI v1), some (aI v2), some (aI v3)], [aR 11 k0], M2)) tc_52 rfl 1 (fun u => ⟨_, rfl⟩) ⟨trivial, trivial⟩ ?_
        refine gd_callN (ml := 1) (as := [aR 11 k0]) (rest := []) tc_52 rfl rfl rfl rfl rfl (by omega) (by omega) (Nat.le_of_ble_eq_true rfl) rfl (g_Rd_token (by omega) (by omega) h) (fun r9 M9 h => ?_)
        obtain ⟨x4, rfl, e9, h⟩ := h
        subst M9
        show Gd d w 52 _ (29, [some (aR 11 k0), some (aI v1), some (aI v2), some (aI v3)], [aI x4], M2)
        refine gd_s (P := True ∧ True) (σ1 := (31, [some (aR 11 k0), some (aI v1), some (aI v2), some (aI v3)], [aI ((44 : Int32)), aI x4], M2)) tc_52 rfl 1 (fun u => ⟨_, rfl⟩) ⟨trivial, trivial⟩ ?_
        refine gd_br (c := x4 = ((44 : Int32))) (st1 := []) tc_52 rfl rfl (fun _ => rfl) ⟨fun hc => ?_, fun hc => ?_⟩
        · have h := h.1 hc
          show Gd d w 52 _ (35, [some (aR 11 k0), some (aI v1), some (aI v2), some (aI v3)], [], M2)
          refine gd_s (P := True ∧ True ∧ True) (σ1 := (2, [some (aR 11 k0), some (aI v1), some (aI v2), some (aI (v3 + (1 : Int32)))], [], M2)) tc_52 rfl 2 (fun u => ⟨_, rfl⟩) ⟨trivial, trivial, trivial⟩ ?_
          exact ih k0 v1 v2 (v3 + (1 : Int32)) M2 h
        · have h := h.2 hc
          show Gd d w 52 _ (34, [some (aR 11 k0), some (aI v1), some (aI v2), some (aI v3)], [], M2)
          exact gd_ret tc_52 rfl rfl trivial (fun _ => rfl) ⟨rfl, h⟩
/-- PolicyJudge$Reader.readRuleDuties(II)V -/
def w_Rd_readRuleDuties (post : aM → Prop) (k0 : Nat) (v1 : Int32) (v2 : Int32) (M : aM) : Prop := ∃ n9, w_Rd_readRuleDuties_L2 post n9 k0 v1 v2 ((0 : Int32)) M
theorem g_Rd_readRuleDuties {d w : Nat} (hd : 2 ≤ d) (hw : 45 ≤ w) {post : aM → Prop} {k0 : Nat} {v1 : Int32} {v2 : Int32} {M : aM} (h : w_Rd_readRuleDuties post k0 v1 v2 M) : Gd d w 52 (pV post) (0, aEnt 52 [aR 11 k0, aI v1, aI v2], [], M) := by
  unfold w_Rd_readRuleDuties at h
  show Gd d w 52 _ (0, [some (aR 11 k0), some (aI v1), some (aI v2), none], [], M)
  refine gd_s (P := True ∧ True ∧ True) (σ1 := (2, [some (aR 11 k0), some (aI v1), some (aI v2), some (aI ((0 : Int32)))], [], M)) tc_52 rfl 2 (fun u => ⟨_, rfl⟩) ⟨trivial, trivial, trivial⟩ ?_
  obtain ⟨n9, h⟩ := h
  exact g_Rd_readRuleDuties_L2 hd hw n9 k0 v1 v2 ((0 : Int32)) M h
theorem tc_51 : tC 51 = c51 := rfl
def w_Rd_readRule_J97 (post : aM → Prop) (k0 : Nat) (M : aM) : Prop := w_Rd_isFine (fun x1 => ((x1 = ((0 : Int32))) → post M) ∧ (¬ (x1 = ((0 : Int32))) → w_Rd_require (fun M2 => post M2) k0 ((59 : Int32)) M)) k0 M
theorem g_Rd_readRule_J97 {d w : Nat} (hd : 124 ≤ d) (hw : 3458 ≤ w) {post : aM → Prop} (k0 : Nat) (o1 o2 : Option aV) (M : aM) (h : w_Rd_readRule_J97 post k0 M) : Gd d w 51 (pV post) (97, [some (aR 11 k0), o1, o2], [], M) := by
  unfold w_Rd_readRule_J97 at h
  show Gd d w 51 _ (97, [some (aR 11 k0), o1, o2], [], M)
  refine gd_s (P := True ∧ True) (σ1 := (98, [some (aR 11 k0), o1, o2], [aR 11 k0], M)) tc_51 rfl 1 (fun u => ⟨_, rfl⟩) ⟨trivial, trivial⟩ ?_
  refine gd_callN (ml := 1) (as := [aR 11 k0]) (rest := []) tc_51 rfl rfl rfl rfl rfl (by omega) (by omega) (Nat.le_of_ble_eq_true rfl) rfl (g_Rd_isFine (by omega) (by omega) h) (fun r9 M9 h => ?_)
  obtain ⟨x1, rfl, e9, h⟩ := h
  subst M9
  show Gd d w 51 _ (101, [some (aR 11 k0), o1, o2], [aI x1], M)
  refine gd_br (c := x1 = ((0 : Int32))) (st1 := []) tc_51 rfl rfl (fun _ => rfl) ⟨fun hc => ?_, fun hc => ?_⟩
  · have h := h.1 hc
    show Gd d w 51 _ (110, [some (aR 11 k0), o1, o2], [], M)
    exact gd_ret tc_51 rfl rfl trivial (fun _ => rfl) ⟨rfl, h⟩
  · have h := h.2 hc
    show Gd d w 51 _ (104, [some (aR 11 k0), o1, o2], [], M)
    refine gd_s (P := True ∧ True ∧ True) (σ1 := (107, [some (aR 11 k0), o1, o2], [aI ((59 : Int32)), aR 11 k0], M)) tc_51 rfl 2 (fun u => ⟨_, rfl⟩) ⟨trivial, trivial, trivial⟩ ?_
    refine gd_callN (ml := 2) (as := [aR 11 k0, aI ((59 : Int32))]) (rest := []) tc_51 rfl rfl rfl rfl rfl (by omega) (by omega) (Nat.le_of_ble_eq_true rfl) rfl (g_Rd_require (by omega) (by omega) h) (fun r9 M2 h => ?_)
    obtain ⟨rfl, h⟩ := h
    show Gd d w 51 _ (110, [some (aR 11 k0), o1, o2], [], M2)
    exact gd_ret tc_51 rfl rfl trivial (fun _ => rfl) ⟨rfl, h⟩
def w_Rd_readRule_J94 (post : aM → Prop) (k0 : Nat) (t0 : Nat) (s1 : Int32) (s2 : Int32) (M : aM) : Prop := w_Rd_readRuleDuties (fun M1 => w_Rd_readRule_J97 post k0 M1) t0 s1 s2 M
theorem g_Rd_readRule_J94 {d w : Nat} (hd : 124 ≤ d) (hw : 3458 ≤ w) {post : aM → Prop} (k0 : Nat) (t0 : Nat) (s1 : Int32) (s2 : Int32) (o1 o2 : Option aV) (M : aM) (h : w_Rd_readRule_J94 post k0 t0 s1 s2 M) : Gd d w 51 (pV post) (94, [some (aR 11 k0), o1, o2], [aI s2, aI s1, aR 11 t0], M) := by
  unfold w_Rd_readRule_J94 at h
  show Gd d w 51 _ (94, [some (aR 11 k0), o1, o2], [aI s2, aI s1, aR 11 t0], M)
  refine gd_callN (ml := 4) (as := [aR 11 t0, aI s1, aI s2]) (rest := []) tc_51 rfl rfl rfl rfl rfl (by omega) (by omega) (Nat.le_of_ble_eq_true rfl) rfl (g_Rd_readRuleDuties (by omega) (by omega) h) (fun r9 M1 h => ?_)
  obtain ⟨rfl, h⟩ := h
  exact g_Rd_readRule_J97 hd hw k0 o1 o2 M1 h
def w_Rd_readRule_J67 (post : aM → Prop) (k0 : Nat) (v1 : Int32) (v2 : Int32) (M : aM) : Prop := w_Rd_isFine (fun x1 => ((x1 = ((0 : Int32))) → w_Rd_readRule_J97 post k0 M) ∧ (¬ (x1 = ((0 : Int32))) → w_Rd_token (fun x2 => ((¬ x2 = ((8 : Int32))) → w_Rd_readRule_J97 post k0 M) ∧ (¬ (¬ x2 = ((8 : Int32))) → ((¬ v1 = ((0 : Int32))) → w_Rd_readRule_J94 post k0 k0 v2 ((2 : Int32)) M) ∧ (¬ (¬ v1 = ((0 : Int32))) → w_Rd_readRule_J94 post k0 k0 v2 ((1 : Int32)) M))) k0 M)) k0 M
theorem g_Rd_readRule_J67 {d w : Nat} (hd : 124 ≤ d) (hw : 3458 ≤ w) {post : aM → Prop} (k0 : Nat) (v1 : Int32) (v2 : Int32) (M : aM) (h : w_Rd_readRule_J67 post k0 v1 v2 M) : Gd d w 51 (pV post) (67, [some (aR 11 k0), some (aI v1), some (aI v2)], [], M) := by
  unfold w_Rd_readRule_J67 at h
  show Gd d w 51 _ (67, [some (aR 11 k0), some (aI v1), some (aI v2)], [], M)
  refine gd_s (P := True ∧ True) (σ1 := (68, [some (aR 11 k0), some (aI v1), some (aI v2)], [aR 11 k0], M)) tc_51 rfl 1 (fun u => ⟨_, rfl⟩) ⟨trivial, trivial⟩ ?_
  refine gd_callN (ml := 1) (as := [aR 11 k0]) (rest := []) tc_51 rfl rfl rfl rfl rfl (by omega) (by omega) (Nat.le_of_ble_eq_true rfl) rfl (g_Rd_isFine (by omega) (by omega) h) (fun r9 M9 h => ?_)
  obtain ⟨x1, rfl, e9, h⟩ := h
  subst M9
  show Gd d w 51 _ (71, [some (aR 11 k0), some (aI v1), some (aI v2)], [aI x1], M)
  refine gd_br (c := x1 = ((0 : Int32))) (st1 := []) tc_51 rfl rfl (fun _ => rfl) ⟨fun hc => ?_, fun hc => ?_⟩
  · have h := h.1 hc
    exact g_Rd_readRule_J97 hd hw k0 (some (aI v1)) (some (aI v2)) M h
  · have h := h.2 hc
    show Gd d w 51 _ (74, [some (aR 11 k0), some (aI v1), some (aI v2)], [], M)
    refine gd_s (P := True ∧ True) (σ1 := (75, [some (aR 11 k0), some (aI v1), some (aI v2)], [aR 11 k0], M)) tc_51 rfl 1 (fun u => ⟨_, rfl⟩) ⟨trivial, trivial⟩ ?_
    refine gd_callN (ml := 1) (as := [aR 11 k0]) (rest := []) tc_51 rfl rfl rfl rfl rfl (by omega) (by omega) (Nat.le_of_ble_eq_true rfl) rfl (g_Rd_token (by omega) (by omega) h) (fun r9 M9 h => ?_)
    obtain ⟨x2, rfl, e9, h⟩ := h
    subst M9
    show Gd d w 51 _ (78, [some (aR 11 k0), some (aI v1), some (aI v2)], [aI x2], M)
    refine gd_s (P := True ∧ True) (σ1 := (80, [some (aR 11 k0), some (aI v1), some (aI v2)], [aI ((8 : Int32)), aI x2], M)) tc_51 rfl 1 (fun u => ⟨_, rfl⟩) ⟨trivial, trivial⟩ ?_
    refine gd_br (c := ¬ x2 = ((8 : Int32))) (st1 := []) tc_51 rfl rfl (fun _ => rfl) ⟨fun hc => ?_, fun hc => ?_⟩
    · have h := h.1 hc
      exact g_Rd_readRule_J97 hd hw k0 (some (aI v1)) (some (aI v2)) M h
    · have h := h.2 hc
      show Gd d w 51 _ (83, [some (aR 11 k0), some (aI v1), some (aI v2)], [], M)
      refine gd_s (P := True ∧ True ∧ True ∧ True) (σ1 := (86, [some (aR 11 k0), some (aI v1), some (aI v2)], [aI v1, aI v2, aR 11 k0], M)) tc_51 rfl 3 (fun u => ⟨_, rfl⟩) ⟨trivial, trivial, trivial, trivial⟩ ?_
      refine gd_br (c := ¬ v1 = ((0 : Int32))) (st1 := [aI v2, aR 11 k0]) tc_51 rfl rfl (fun _ => rfl) ⟨fun hc => ?_, fun hc => ?_⟩
      · have h := h.1 hc
        show Gd d w 51 _ (93, [some (aR 11 k0), some (aI v1), some (aI v2)], [aI v2, aR 11 k0], M)
        refine gd_s (P := True ∧ True) (σ1 := (94, [some (aR 11 k0), some (aI v1), some (aI v2)], [aI ((2 : Int32)), aI v2, aR 11 k0], M)) tc_51 rfl 1 (fun u => ⟨_, rfl⟩) ⟨trivial, trivial⟩ ?_
        exact g_Rd_readRule_J94 hd hw k0 k0 v2 ((2 : Int32)) (some (aI v1)) (some (aI v2)) M h
      · have h := h.2 hc
        show Gd d w 51 _ (89, [some (aR 11 k0), some (aI v1), some (aI v2)], [aI v2, aR 11 k0], M)
        refine gd_s (P := True ∧ True ∧ True) (σ1 := (94, [some (aR 11 k0), some (aI v1), some (aI v2)], [aI ((1 : Int32)), aI v2, aR 11 k0], M)) tc_51 rfl 2 (fun u => ⟨_, rfl⟩) ⟨trivial, trivial, trivial⟩ ?_
        exact g_Rd_readRule_J94 hd hw k0 k0 v2 ((1 : Int32)) (some (aI v1)) (some (aI v2)) M h
def w_Rd_readRule_J14 (post : aM → Prop) (k0 : Nat) (s0 : Int32) (M : aM) : Prop := w_Rd_addNode (fun x1 M1 => ((¬ x1 = ((-1 : Int32))) → w_Rd_step (fun M2 => w_Rd_readName (fun x3 M3 => w_Rd_skip (fun x4 M4 => ((x4 = ((0 : Int32))) → w_Rd_readRule_J67 post k0 s0 x1 M4) ∧ (¬ (x4 = ((0 : Int32))) → ∃ D, D ≤ 120 ∧ w_Rd_readJoined D (fun x5 M5 => (vp_in x1 (rK M5 (((rR M4 k0 3) + 9) + 7)).2) ∧ (w_Rd_readRule_J67 post k0 s0 x1 (wI M5 (((rR M4 k0 3) + 9) + 7) x1.toNatClampNeg x5))) k0 ((10 : Int32)) (rI M4 k0 6) M4)) k0 ((5 : Int32)) M3) k0 x1 M2) k0 M1) ∧ (¬ (¬ x1 = ((-1 : Int32))) → post M1)) k0 s0 M
theorem g_Rd_readRule_J14 {d w : Nat} (hd : 124 ≤ d) (hw : 3458 ≤ w) {post : aM → Prop} (k0 : Nat) (s0 : Int32) (o1 o2 : Option aV) (M : aM) (h : w_Rd_readRule_J14 post k0 s0 M) : Gd d w 51 (pV post) (14, [some (aR 11 k0), o1, o2], [aI s0], M) := by
  unfold w_Rd_readRule_J14 at h
  show Gd d w 51 _ (14, [some (aR 11 k0), o1, o2], [aI s0], M)
  refine gd_s (P := True ∧ True ∧ True ∧ True) (σ1 := (17, [some (aR 11 k0), some (aI s0), o2], [aI s0, aR 11 k0], M)) tc_51 rfl 3 (fun u => ⟨_, rfl⟩) ⟨trivial, trivial, trivial, trivial⟩ ?_
  refine gd_callN (ml := 3) (as := [aR 11 k0, aI s0]) (rest := []) tc_51 rfl rfl rfl rfl rfl (by omega) (by omega) (Nat.le_of_ble_eq_true rfl) rfl (g_Rd_addNode (by omega) (by omega) h) (fun r9 M1 h => ?_)
  obtain ⟨x1, rfl, h⟩ := h
  show Gd d w 51 _ (20, [some (aR 11 k0), some (aI s0), o2], [aI x1], M1)
  refine gd_s (P := True ∧ True ∧ True ∧ True) (σ1 := (23, [some (aR 11 k0), some (aI s0), some (aI x1)], [aI ((-1 : Int32)), aI x1], M1)) tc_51 rfl 3 (fun u => ⟨_, rfl⟩) ⟨trivial, trivial, trivial, trivial⟩ ?_
  refine gd_br (c := ¬ x1 = ((-1 : Int32))) (st1 := []) tc_51 rfl rfl (fun _ => rfl) ⟨fun hc => ?_, fun hc => ?_⟩
  · have h := h.1 hc
    show Gd d w 51 _ (27, [some (aR 11 k0), some (aI s0), some (aI x1)], [], M1)
    refine gd_s (P := True ∧ True) (σ1 := (28, [some (aR 11 k0), some (aI s0), some (aI x1)], [aR 11 k0], M1)) tc_51 rfl 1 (fun u => ⟨_, rfl⟩) ⟨trivial, trivial⟩ ?_
    refine gd_callN (ml := 1) (as := [aR 11 k0]) (rest := []) tc_51 rfl rfl rfl rfl rfl (by omega) (by omega) (Nat.le_of_ble_eq_true rfl) rfl (g_Rd_step (by omega) (by omega) h) (fun r9 M2 h => ?_)
    obtain ⟨rfl, h⟩ := h
    show Gd d w 51 _ (31, [some (aR 11 k0), some (aI s0), some (aI x1)], [], M2)
    refine gd_s (P := True ∧ True ∧ True) (σ1 := (33, [some (aR 11 k0), some (aI s0), some (aI x1)], [aI x1, aR 11 k0], M2)) tc_51 rfl 2 (fun u => ⟨_, rfl⟩) ⟨trivial, trivial, trivial⟩ ?_
    refine gd_callN (ml := 2) (as := [aR 11 k0, aI x1]) (rest := []) tc_51 rfl rfl rfl rfl rfl (by omega) (by omega) (Nat.le_of_ble_eq_true rfl) rfl (g_Rd_readName (by omega) (by omega) h) (fun r9 M3 h => ?_)
    obtain ⟨x3, rfl, h⟩ := h
    show Gd d w 51 _ (36, [some (aR 11 k0), some (aI s0), some (aI x1)], [aI x3], M3)
    refine gd_s (P := True ∧ True ∧ True ∧ True) (σ1 := (39, [some (aR 11 k0), some (aI s0), some (aI x1)], [aI ((5 : Int32)), aR 11 k0], M3)) tc_51 rfl 3 (fun u => ⟨_, rfl⟩) ⟨trivial, trivial, trivial, trivial⟩ ?_
    refine gd_callN (ml := 2) (as := [aR 11 k0, aI ((5 : Int32))]) (rest := []) tc_51 rfl rfl rfl rfl rfl (by omega) (by omega) (Nat.le_of_ble_eq_true rfl) rfl (g_Rd_skip (by omega) (by omega) h) (fun r9 M4 h => ?_)
    obtain ⟨x4, rfl, h⟩ := h
    show Gd d w 51 _ (42, [some (aR 11 k0), some (aI s0), some (aI x1)], [aI x4], M4)
    refine gd_br (c := x4 = ((0 : Int32))) (st1 := []) tc_51 rfl rfl (fun _ => rfl) ⟨fun hc => ?_, fun hc => ?_⟩
    · have h := h.1 hc
      exact g_Rd_readRule_J67 hd hw k0 s0 x1 M4 h
    · have h := h.2 hc
      show Gd d w 51 _ (45, [some (aR 11 k0), some (aI s0), some (aI x1)], [], M4)
      refine gd_s (P := True ∧ True ∧ True ∧ True ∧ True ∧ True ∧ True ∧ True ∧ True ∧ True) (σ1 := (63, [some (aR 11 k0), some (aI s0), some (aI x1)], [aI (rI M4 k0 6), aI ((10 : Int32)), aR 11 k0, aI x1, aR 4 (((rR M4 k0 3) + 9) + 7)], M4)) tc_51 rfl 9 (fun u => ⟨_, rfl⟩) ⟨trivial, trivial, trivial, trivial, trivial, trivial, trivial, trivial, trivial, trivial⟩ ?_
      obtain ⟨D9, hD9, h⟩ := h
      refine gd_callN (ml := 9) (as := [aR 11 k0, aI ((10 : Int32)), aI (rI M4 k0 6)]) (rest := [aI x1, aR 4 (((rR M4 k0 3) + 9) + 7)]) tc_51 rfl rfl rfl rfl rfl (by omega) (by omega) (Nat.le_of_ble_eq_true rfl) rfl (g_Rd_readJoined (D := D9) (by omega) (by omega) h) (fun r9 M5 h => ?_)
      obtain ⟨x5, rfl, h⟩ := h
      show Gd d w 51 _ (66, [some (aR 11 k0), some (aI s0), some (aI x1)], [aI x5, aI x1, aR 4 (((rR M4 k0 3) + 9) + 7)], M5)
      obtain ⟨c0, h⟩ := h
      refine gd_s (P := (vp_in x1 (rK M5 (((rR M4 k0 3) + 9) + 7)).2) ∧ True) (σ1 := (67, [some (aR 11 k0), some (aI s0), some (aI x1)], [], wI M5 (((rR M4 k0 3) + 9) + 7) x1.toNatClampNeg x5)) tc_51 rfl 1 (fun u => ⟨_, rfl⟩) ⟨c0, trivial⟩ ?_
      exact g_Rd_readRule_J67 hd hw k0 s0 x1 (wI M5 (((rR M4 k0 3) + 9) + 7) x1.toNatClampNeg x5) h
  · have h := h.2 hc
    show Gd d w 51 _ (26, [some (aR 11 k0), some (aI s0), some (aI x1)], [], M1)
    exact gd_ret tc_51 rfl rfl trivial (fun _ => rfl) ⟨rfl, h⟩
/-- PolicyJudge$Reader.readRule()V -/
def w_Rd_readRule (post : aM → Prop) (k0 : Nat) (M : aM) : Prop := w_Rd_token (fun x1 => ((¬ x1 = ((6 : Int32))) → w_Rd_readRule_J14 post k0 ((1 : Int32)) M) ∧ (¬ (¬ x1 = ((6 : Int32))) → w_Rd_readRule_J14 post k0 ((0 : Int32)) M)) k0 M
theorem g_Rd_readRule {d w : Nat} (hd : 124 ≤ d) (hw : 3458 ≤ w) {post : aM → Prop} {k0 : Nat} {M : aM} (h : w_Rd_readRule post k0 M) : Gd d w 51 (pV post) (0, aEnt 51 [aR 11 k0], [], M) := by
  unfold w_Rd_readRule at h
  show Gd d w 51 _ (0, [some (aR 11 k0), none, none], [], M)
  refine gd_s (P := True ∧ True) (σ1 := (1, [some (aR 11 k0), none, none], [aR 11 k0], M)) tc_51 rfl 1 (fun u => ⟨_, rfl⟩) ⟨trivial, trivial⟩ ?_
  refine gd_callN (ml := 1) (as := [aR 11 k0]) (rest := []) tc_51 rfl rfl rfl rfl rfl (by omega) (by omega) (Nat.le_of_ble_eq_true rfl) rfl (g_Rd_token (by omega) (by omega) h) (fun r9 M9 h => ?_)
  obtain ⟨x1, rfl, e9, h⟩ := h
  subst M9
  show Gd d w 51 _ (4, [some (aR 11 k0), none, none], [aI x1], M)
  refine gd_s (P := True ∧ True) (σ1 := (6, [some (aR 11 k0), none, none], [aI ((6 : Int32)), aI x1], M)) tc_51 rfl 1 (fun u => ⟨_, rfl⟩) ⟨trivial, trivial⟩ ?_
  refine gd_br (c := ¬ x1 = ((6 : Int32))) (st1 := []) tc_51 rfl rfl (fun _ => rfl) ⟨fun hc => ?_, fun hc => ?_⟩
  · have h := h.1 hc
    show Gd d w 51 _ (13, [some (aR 11 k0), none, none], [], M)
    refine gd_s (P := True ∧ True) (σ1 := (14, [some (aR 11 k0), none, none], [aI ((1 : Int32))], M)) tc_51 rfl 1 (fun u => ⟨_, rfl⟩) ⟨trivial, trivial⟩ ?_
    exact g_Rd_readRule_J14 hd hw k0 ((1 : Int32)) none none M h
  · have h := h.2 hc
    show Gd d w 51 _ (9, [some (aR 11 k0), none, none], [], M)
    refine gd_s (P := True ∧ True ∧ True) (σ1 := (14, [some (aR 11 k0), none, none], [aI ((0 : Int32))], M)) tc_51 rfl 2 (fun u => ⟨_, rfl⟩) ⟨trivial, trivial, trivial⟩ ?_
    exact g_Rd_readRule_J14 hd hw k0 ((0 : Int32)) none none M h
theorem tc_54 : tC 54 = c54 := rfl
def w_Rd_readDuty_J42 (post : aM → Prop) (k0 : Nat) (s0 : Int32) (M : aM) : Prop := w_Rd_step (fun M1 => w_Rd_readDutyNumber (fun M2 => w_Rd_isFine (fun x3 => ((x3 = ((0 : Int32))) → post M2) ∧ (¬ (x3 = ((0 : Int32))) → w_Rd_require (fun M4 => post M4) k0 ((59 : Int32)) M2)) k0 M2) k0 (rI M1 k0 5) s0 M1) k0 M
theorem g_Rd_readDuty_J42 {d w : Nat} (hd : 2 ≤ d) (hw : 45 ≤ w) {post : aM → Prop} (k0 : Nat) (s0 : Int32) (o1 : Option aV) (M : aM) (h : w_Rd_readDuty_J42 post k0 s0 M) : Gd d w 54 (pV post) (42, [some (aR 11 k0), o1], [aI s0], M) := by
  unfold w_Rd_readDuty_J42 at h
  show Gd d w 54 _ (42, [some (aR 11 k0), o1], [aI s0], M)
  refine gd_s (P := True ∧ True ∧ True) (σ1 := (44, [some (aR 11 k0), some (aI s0)], [aR 11 k0], M)) tc_54 rfl 2 (fun u => ⟨_, rfl⟩) ⟨trivial, trivial, trivial⟩ ?_
  refine gd_callN (ml := 1) (as := [aR 11 k0]) (rest := []) tc_54 rfl rfl rfl rfl rfl (by omega) (by omega) (Nat.le_of_ble_eq_true rfl) rfl (g_Rd_step (by omega) (by omega) h) (fun r9 M1 h => ?_)
  obtain ⟨rfl, h⟩ := h
  show Gd d w 54 _ (47, [some (aR 11 k0), some (aI s0)], [], M1)
  refine gd_s (P := True ∧ True ∧ True ∧ True ∧ True) (σ1 := (53, [some (aR 11 k0), some (aI s0)], [aI s0, aI (rI M1 k0 5), aR 11 k0], M1)) tc_54 rfl 4 (fun u => ⟨_, rfl⟩) ⟨trivial, trivial, trivial, trivial, trivial⟩ ?_
  refine gd_callN (ml := 3) (as := [aR 11 k0, aI (rI M1 k0 5), aI s0]) (rest := []) tc_54 rfl rfl rfl rfl rfl (by omega) (by omega) (Nat.le_of_ble_eq_true rfl) rfl (g_Rd_readDutyNumber (by omega) (by omega) h) (fun r9 M2 h => ?_)
  obtain ⟨rfl, h⟩ := h
  show Gd d w 54 _ (56, [some (aR 11 k0), some (aI s0)], [], M2)
  refine gd_s (P := True ∧ True) (σ1 := (57, [some (aR 11 k0), some (aI s0)], [aR 11 k0], M2)) tc_54 rfl 1 (fun u => ⟨_, rfl⟩) ⟨trivial, trivial⟩ ?_
  refine gd_callN (ml := 1) (as := [aR 11 k0]) (rest := []) tc_54 rfl rfl rfl rfl rfl (by omega) (by omega) (Nat.le_of_ble_eq_true rfl) rfl (g_Rd_isFine (by omega) (by omega) h) (fun r9 M9 h => ?_)
  obtain ⟨x3, rfl, e9, h⟩ := h
  subst M9
  show Gd d w 54 _ (60, [some (aR 11 k0), some (aI s0)], [aI x3], M2)
  refine gd_br (c := x3 = ((0 : Int32))) (st1 := []) tc_54 rfl rfl (fun _ => rfl) ⟨fun hc => ?_, fun hc => ?_⟩
  · have h := h.1 hc
    show Gd d w 54 _ (69, [some (aR 11 k0), some (aI s0)], [], M2)
    exact gd_ret tc_54 rfl rfl trivial (fun _ => rfl) ⟨rfl, h⟩
  · have h := h.2 hc
    show Gd d w 54 _ (63, [some (aR 11 k0), some (aI s0)], [], M2)
    refine gd_s (P := True ∧ True ∧ True) (σ1 := (66, [some (aR 11 k0), some (aI s0)], [aI ((59 : Int32)), aR 11 k0], M2)) tc_54 rfl 2 (fun u => ⟨_, rfl⟩) ⟨trivial, trivial, trivial⟩ ?_
    refine gd_callN (ml := 2) (as := [aR 11 k0, aI ((59 : Int32))]) (rest := []) tc_54 rfl rfl rfl rfl rfl (by omega) (by omega) (Nat.le_of_ble_eq_true rfl) rfl (g_Rd_require (by omega) (by omega) h) (fun r9 M4 h => ?_)
    obtain ⟨rfl, h⟩ := h
    show Gd d w 54 _ (69, [some (aR 11 k0), some (aI s0)], [], M4)
    exact gd_ret tc_54 rfl rfl trivial (fun _ => rfl) ⟨rfl, h⟩
def w_Rd_readDuty_J28 (post : aM → Prop) (k0 : Nat) (M : aM) : Prop := w_Rd_token (fun x1 => ((¬ x1 = ((6 : Int32))) → w_Rd_readDuty_J42 post k0 ((2 : Int32)) M) ∧ (¬ (¬ x1 = ((6 : Int32))) → w_Rd_readDuty_J42 post k0 ((1 : Int32)) M)) k0 M
theorem g_Rd_readDuty_J28 {d w : Nat} (hd : 2 ≤ d) (hw : 45 ≤ w) {post : aM → Prop} (k0 : Nat) (o1 : Option aV) (M : aM) (h : w_Rd_readDuty_J28 post k0 M) : Gd d w 54 (pV post) (28, [some (aR 11 k0), o1], [], M) := by
  unfold w_Rd_readDuty_J28 at h
  show Gd d w 54 _ (28, [some (aR 11 k0), o1], [], M)
  refine gd_s (P := True ∧ True) (σ1 := (29, [some (aR 11 k0), o1], [aR 11 k0], M)) tc_54 rfl 1 (fun u => ⟨_, rfl⟩) ⟨trivial, trivial⟩ ?_
  refine gd_callN (ml := 1) (as := [aR 11 k0]) (rest := []) tc_54 rfl rfl rfl rfl rfl (by omega) (by omega) (Nat.le_of_ble_eq_true rfl) rfl (g_Rd_token (by omega) (by omega) h) (fun r9 M9 h => ?_)
  obtain ⟨x1, rfl, e9, h⟩ := h
  subst M9
  show Gd d w 54 _ (32, [some (aR 11 k0), o1], [aI x1], M)
  refine gd_s (P := True ∧ True) (σ1 := (34, [some (aR 11 k0), o1], [aI ((6 : Int32)), aI x1], M)) tc_54 rfl 1 (fun u => ⟨_, rfl⟩) ⟨trivial, trivial⟩ ?_
  refine gd_br (c := ¬ x1 = ((6 : Int32))) (st1 := []) tc_54 rfl rfl (fun _ => rfl) ⟨fun hc => ?_, fun hc => ?_⟩
  · have h := h.1 hc
    show Gd d w 54 _ (41, [some (aR 11 k0), o1], [], M)
    refine gd_s (P := True ∧ True) (σ1 := (42, [some (aR 11 k0), o1], [aI ((2 : Int32))], M)) tc_54 rfl 1 (fun u => ⟨_, rfl⟩) ⟨trivial, trivial⟩ ?_
    exact g_Rd_readDuty_J42 hd hw k0 ((2 : Int32)) o1 M h
  · have h := h.2 hc
    show Gd d w 54 _ (37, [some (aR 11 k0), o1], [], M)
    refine gd_s (P := True ∧ True ∧ True) (σ1 := (42, [some (aR 11 k0), o1], [aI ((1 : Int32))], M)) tc_54 rfl 2 (fun u => ⟨_, rfl⟩) ⟨trivial, trivial, trivial⟩ ?_
    exact g_Rd_readDuty_J42 hd hw k0 ((1 : Int32)) o1 M h
/-- PolicyJudge$Reader.readDuty()V -/
def w_Rd_readDuty (post : aM → Prop) (k0 : Nat) (M : aM) : Prop := w_Rd_step (fun M1 => w_Rd_token (fun x2 => ((x2 = ((6 : Int32))) → w_Rd_readDuty_J28 post k0 M1) ∧ (¬ (x2 = ((6 : Int32))) → w_Rd_token (fun x3 => ((x3 = ((7 : Int32))) → w_Rd_readDuty_J28 post k0 M1) ∧ (¬ (x3 = ((7 : Int32))) → w_Rd_refuse (fun M4 => post M4) k0 ((2 : Int32)) M1)) k0 M1)) k0 M1) k0 M
theorem g_Rd_readDuty {d w : Nat} (hd : 2 ≤ d) (hw : 45 ≤ w) {post : aM → Prop} {k0 : Nat} {M : aM} (h : w_Rd_readDuty post k0 M) : Gd d w 54 (pV post) (0, aEnt 54 [aR 11 k0], [], M) := by
  unfold w_Rd_readDuty at h
  show Gd d w 54 _ (0, [some (aR 11 k0), none], [], M)
  refine gd_s (P := True ∧ True) (σ1 := (1, [some (aR 11 k0), none], [aR 11 k0], M)) tc_54 rfl 1 (fun u => ⟨_, rfl⟩) ⟨trivial, trivial⟩ ?_
  refine gd_callN (ml := 1) (as := [aR 11 k0]) (rest := []) tc_54 rfl rfl rfl rfl rfl (by omega) (by omega) (Nat.le_of_ble_eq_true rfl) rfl (g_Rd_step (by omega) (by omega) h) (fun r9 M1 h => ?_)
  obtain ⟨rfl, h⟩ := h
  show Gd d w 54 _ (4, [some (aR 11 k0), none], [], M1)
  refine gd_s (P := True ∧ True) (σ1 := (5, [some (aR 11 k0), none], [aR 11 k0], M1)) tc_54 rfl 1 (fun u => ⟨_, rfl⟩) ⟨trivial, trivial⟩ ?_
  refine gd_callN (ml := 1) (as := [aR 11 k0]) (rest := []) tc_54 rfl rfl rfl rfl rfl (by omega) (by omega) (Nat.le_of_ble_eq_true rfl) rfl (g_Rd_token (by omega) (by omega) h) (fun r9 M9 h => ?_)
  obtain ⟨x2, rfl, e9, h⟩ := h
  subst M9
  show Gd d w 54 _ (8, [some (aR 11 k0), none], [aI x2], M1)
  refine gd_s (P := True ∧ True) (σ1 := (10, [some (aR 11 k0), none], [aI ((6 : Int32)), aI x2], M1)) tc_54 rfl 1 (fun u => ⟨_, rfl⟩) ⟨trivial, trivial⟩ ?_
  refine gd_br (c := x2 = ((6 : Int32))) (st1 := []) tc_54 rfl rfl (fun _ => rfl) ⟨fun hc => ?_, fun hc => ?_⟩
  · have h := h.1 hc
    exact g_Rd_readDuty_J28 hd hw k0 none M1 h
  · have h := h.2 hc
    show Gd d w 54 _ (13, [some (aR 11 k0), none], [], M1)
    refine gd_s (P := True ∧ True) (σ1 := (14, [some (aR 11 k0), none], [aR 11 k0], M1)) tc_54 rfl 1 (fun u => ⟨_, rfl⟩) ⟨trivial, trivial⟩ ?_
    refine gd_callN (ml := 1) (as := [aR 11 k0]) (rest := []) tc_54 rfl rfl rfl rfl rfl (by omega) (by omega) (Nat.le_of_ble_eq_true rfl) rfl (g_Rd_token (by omega) (by omega) h) (fun r9 M9 h => ?_)
    obtain ⟨x3, rfl, e9, h⟩ := h
    subst M9
    show Gd d w 54 _ (17, [some (aR 11 k0), none], [aI x3], M1)
    refine gd_s (P := True ∧ True) (σ1 := (19, [some (aR 11 k0), none], [aI ((7 : Int32)), aI x3], M1)) tc_54 rfl 1 (fun u => ⟨_, rfl⟩) ⟨trivial, trivial⟩ ?_
    refine gd_br (c := x3 = ((7 : Int32))) (st1 := []) tc_54 rfl rfl (fun _ => rfl) ⟨fun hc => ?_, fun hc => ?_⟩
    · have h := h.1 hc
      exact g_Rd_readDuty_J28 hd hw k0 none M1 h
    · have h := h.2 hc
      show Gd d w 54 _ (22, [some (aR 11 k0), none], [], M1)
      refine gd_s (P := True ∧ True ∧ True) (σ1 := (24, [some (aR 11 k0), none], [aI ((2 : Int32)), aR 11 k0], M1)) tc_54 rfl 2 (fun u => ⟨_, rfl⟩) ⟨trivial, trivial, trivial⟩ ?_
      refine gd_callN (ml := 2) (as := [aR 11 k0, aI ((2 : Int32))]) (rest := []) tc_54 rfl rfl rfl rfl rfl (by omega) (by omega) (Nat.le_of_ble_eq_true rfl) rfl (g_Rd_refuse (by omega) (by omega) h) (fun r9 M4 h => ?_)
      obtain ⟨rfl, h⟩ := h
      show Gd d w 54 _ (27, [some (aR 11 k0), none], [], M4)
      exact gd_ret tc_54 rfl rfl trivial (fun _ => rfl) ⟨rfl, h⟩
theorem tc_55 : tC 55 = c55 := rfl
/-- PolicyJudge$Reader.readSetEnd()V -/
def w_Rd_readSetEnd (post : aM → Prop) (k0 : Nat) (M : aM) : Prop := w_Rd_step (fun M1 => (vp_in (rI M1 k0 5) (rK M1 (((rR M1 k0 3) + 9) + 6)).2) ∧ post (wI (wI M1 k0 5 (rI M1 (((rR M1 k0 3) + 9) + 6) (rI M1 k0 5).toNatClampNeg)) k0 6 ((rI (wI M1 k0 5 (rI M1 (((rR M1 k0 3) + 9) + 6) (rI M1 k0 5).toNatClampNeg)) k0 6) - ((1 : Int32))))) k0 M
theorem g_Rd_readSetEnd {d w : Nat} (hd : 1 ≤ d) (hw : 20 ≤ w) {post : aM → Prop} {k0 : Nat} {M : aM} (h : w_Rd_readSetEnd post k0 M) : Gd d w 55 (pV post) (0, aEnt 55 [aR 11 k0], [], M) := by
  unfold w_Rd_readSetEnd at h
  show Gd d w 55 _ (0, [some (aR 11 k0)], [], M)
  refine gd_s (P := True ∧ True) (σ1 := (1, [some (aR 11 k0)], [aR 11 k0], M)) tc_55 rfl 1 (fun u => ⟨_, rfl⟩) ⟨trivial, trivial⟩ ?_
  refine gd_callN (ml := 1) (as := [aR 11 k0]) (rest := []) tc_55 rfl rfl rfl rfl rfl (by omega) (by omega) (Nat.le_of_ble_eq_true rfl) rfl (g_Rd_step (by omega) (by omega) h) (fun r9 M1 h => ?_)
  obtain ⟨rfl, h⟩ := h
  show Gd d w 55 _ (4, [some (aR 11 k0)], [], M1)
  obtain ⟨c0, h⟩ := h
  refine gd_s (P := True ∧ True ∧ True ∧ True ∧ True ∧ True ∧ True ∧ (vp_in (rI M1 k0 5) (rK M1 (((rR M1 k0 3) + 9) + 6)).2) ∧ True ∧ True ∧ True ∧ True ∧ True ∧ True ∧ True ∧ True) (σ1 := (33, [some (aR 11 k0)], [], wI (wI M1 k0 5 (rI M1 (((rR M1 k0 3) + 9) + 6) (rI M1 k0 5).toNatClampNeg)) k0 6 ((rI (wI M1 k0 5 (rI M1 (((rR M1 k0 3) + 9) + 6) (rI M1 k0 5).toNatClampNeg)) k0 6) - ((1 : Int32))))) tc_55 rfl 15 (fun u => ⟨_, rfl⟩) ⟨trivial, trivial, trivial, trivial, trivial, trivial, trivial, c0, trivial, trivial, trivial, trivial, trivial, trivial, trivial, trivial⟩ ?_
  exact gd_ret tc_55 rfl rfl trivial (fun _ => rfl) ⟨rfl, h⟩
theorem tc_37 : tC 37 = c37 := rfl
def w_Rd_readPolicy_J131 (post : aM → Prop) (k0 : Nat) (M : aM) : Prop := w_Rd_isFine (fun x1 => ((x1 = ((0 : Int32))) → post M) ∧ (¬ (x1 = ((0 : Int32))) → w_Rd_token (fun x2 => ((x2 = ((130 : Int32))) → post M) ∧ (¬ (x2 = ((130 : Int32))) → w_Rd_refuse (fun M3 => post M3) k0 ((2 : Int32)) M)) k0 M)) k0 M
theorem g_Rd_readPolicy_J131 {d w : Nat} (hd : 125 ≤ d) (hw : 3481 ≤ w) {post : aM → Prop} (k0 : Nat) (o1 : Option aV) (M : aM) (h : w_Rd_readPolicy_J131 post k0 M) : Gd d w 37 (pV post) (131, [some (aR 11 k0), o1], [], M) := by
  unfold w_Rd_readPolicy_J131 at h
  show Gd d w 37 _ (131, [some (aR 11 k0), o1], [], M)
  refine gd_s (P := True ∧ True) (σ1 := (132, [some (aR 11 k0), o1], [aR 11 k0], M)) tc_37 rfl 1 (fun u => ⟨_, rfl⟩) ⟨trivial, trivial⟩ ?_
  refine gd_callN (ml := 1) (as := [aR 11 k0]) (rest := []) tc_37 rfl rfl rfl rfl rfl (by omega) (by omega) (Nat.le_of_ble_eq_true rfl) rfl (g_Rd_isFine (by omega) (by omega) h) (fun r9 M9 h => ?_)
  obtain ⟨x1, rfl, e9, h⟩ := h
  subst M9
  show Gd d w 37 _ (135, [some (aR 11 k0), o1], [aI x1], M)
  refine gd_br (c := x1 = ((0 : Int32))) (st1 := []) tc_37 rfl rfl (fun _ => rfl) ⟨fun hc => ?_, fun hc => ?_⟩
  · have h := h.1 hc
    show Gd d w 37 _ (153, [some (aR 11 k0), o1], [], M)
    exact gd_ret tc_37 rfl rfl trivial (fun _ => rfl) ⟨rfl, h⟩
  · have h := h.2 hc
    show Gd d w 37 _ (138, [some (aR 11 k0), o1], [], M)
    refine gd_s (P := True ∧ True) (σ1 := (139, [some (aR 11 k0), o1], [aR 11 k0], M)) tc_37 rfl 1 (fun u => ⟨_, rfl⟩) ⟨trivial, trivial⟩ ?_
    refine gd_callN (ml := 1) (as := [aR 11 k0]) (rest := []) tc_37 rfl rfl rfl rfl rfl (by omega) (by omega) (Nat.le_of_ble_eq_true rfl) rfl (g_Rd_token (by omega) (by omega) h) (fun r9 M9 h => ?_)
    obtain ⟨x2, rfl, e9, h⟩ := h
    subst M9
    show Gd d w 37 _ (142, [some (aR 11 k0), o1], [aI x2], M)
    refine gd_s (P := True ∧ True) (σ1 := (145, [some (aR 11 k0), o1], [aI ((130 : Int32)), aI x2], M)) tc_37 rfl 1 (fun u => ⟨_, rfl⟩) ⟨trivial, trivial⟩ ?_
    refine gd_br (c := x2 = ((130 : Int32))) (st1 := []) tc_37 rfl rfl (fun _ => rfl) ⟨fun hc => ?_, fun hc => ?_⟩
    · have h := h.1 hc
      show Gd d w 37 _ (153, [some (aR 11 k0), o1], [], M)
      exact gd_ret tc_37 rfl rfl trivial (fun _ => rfl) ⟨rfl, h⟩
    · have h := h.2 hc
      show Gd d w 37 _ (148, [some (aR 11 k0), o1], [], M)
      refine gd_s (P := True ∧ True ∧ True) (σ1 := (150, [some (aR 11 k0), o1], [aI ((2 : Int32)), aR 11 k0], M)) tc_37 rfl 2 (fun u => ⟨_, rfl⟩) ⟨trivial, trivial, trivial⟩ ?_
      refine gd_callN (ml := 2) (as := [aR 11 k0, aI ((2 : Int32))]) (rest := []) tc_37 rfl rfl rfl rfl rfl (by omega) (by omega) (Nat.le_of_ble_eq_true rfl) rfl (g_Rd_refuse (by omega) (by omega) h) (fun r9 M3 h => ?_)
      obtain ⟨rfl, h⟩ := h
      show Gd d w 37 _ (153, [some (aR 11 k0), o1], [], M3)
      exact gd_ret tc_37 rfl rfl trivial (fun _ => rfl) ⟨rfl, h⟩
def w_Rd_readPolicy_L19 (post : aM → Prop) : Nat → Nat → Int32 → aM → Prop
  | 0, _, _, _ => False
  | n + 1, k0, v1, M => ((v1 ≤ ((0 : Int32))) → w_Rd_readPolicy_J131 post k0 M) ∧ (¬ (v1 ≤ ((0 : Int32))) → w_Rd_isFine (fun x1 => ((x1 = ((0 : Int32))) → w_Rd_readPolicy_J131 post k0 M) ∧ (¬ (x1 = ((0 : Int32))) → (((rI M k0 5) = ((-1 : Int32))) → w_Rd_readPolicy_J131 post k0 M) ∧ (¬ ((rI M k0 5) = ((-1 : Int32))) → w_Rd_token (fun x2 => ((x2 = (4 : Int32)) → w_Rd_readSetHead (fun M3 => w_Rd_readPolicy_L19 post n k0 (v1 + (-1 : Int32)) M3) k0 M) ∧ (¬ (x2 = (4 : Int32)) → ((x2 = (6 : Int32)) → w_Rd_readRule (fun M4 => w_Rd_readPolicy_L19 post n k0 (v1 + (-1 : Int32)) M4) k0 M) ∧ (¬ (x2 = (6 : Int32)) → ((x2 = (7 : Int32)) → w_Rd_readRule (fun M5 => w_Rd_readPolicy_L19 post n k0 (v1 + (-1 : Int32)) M5) k0 M) ∧ (¬ (x2 = (7 : Int32)) → ((x2 = (9 : Int32)) → w_Rd_readDuty (fun M6 => w_Rd_readPolicy_L19 post n k0 (v1 + (-1 : Int32)) M6) k0 M) ∧ (¬ (x2 = (9 : Int32)) → ((x2 = (125 : Int32)) → w_Rd_readSetEnd (fun M7 => w_Rd_readPolicy_L19 post n k0 (v1 + (-1 : Int32)) M7) k0 M) ∧ (¬ (x2 = (125 : Int32)) → w_Rd_refuse (fun M8 => w_Rd_readPolicy_L19 post n k0 (v1 + (-1 : Int32)) M8) k0 ((2 : Int32)) M)))))) k0 M))) k0 M)
theorem g_Rd_readPolicy_L19 {d w : Nat} (hd : 125 ≤ d) (hw : 3481 ≤ w) {post : aM → Prop} : ∀ (n : Nat) (k0 : Nat) (v1 : Int32) (M : aM), w_Rd_readPolicy_L19 post n k0 v1 M → Gd d w 37 (pV post) (19, [some (aR 11 k0), some (aI v1)], [], M) := by
  intro n
  induction n with
  | zero => intro k0 v1 M h; exact h.elim
  | succ n ih =>
    intro k0 v1 M h
    show Gd d w 37 _ (19, [some (aR 11 k0), some (aI v1)], [], M)
    refine gd_s (P := True ∧ True) (σ1 := (20, [some (aR 11 k0), some (aI v1)], [aI v1], M)) tc_37 rfl 1 (fun u => ⟨_, rfl⟩) ⟨trivial, trivial⟩ ?_
    refine gd_br (c := v1 ≤ ((0 : Int32))) (st1 := []) tc_37 rfl rfl (fun _ => rfl) ⟨fun hc => ?_, fun hc => ?_⟩
    · have h := h.1 hc
      exact g_Rd_readPolicy_J131 hd hw k0 (some (aI v1)) M h
    · have h := h.2 hc
      show Gd d w 37 _ (23, [some (aR 11 k0), some (aI v1)], [], M)
      refine gd_s (P := True ∧ True) (σ1 := (24, [some (aR 11 k0), some (aI v1)], [aR 11 k0], M)) tc_37 rfl 1 (fun u => ⟨_, rfl⟩) ⟨trivial, trivial⟩ ?_
      refine gd_callN (ml := 1) (as := [aR 11 k0]) (rest := []) tc_37 rfl rfl rfl rfl rfl (by omega) (by omega) (Nat.le_of_ble_eq_true rfl) rfl (g_Rd_isFine (by omega) (by omega) h) (fun r9 M9 h => ?_)
      obtain ⟨x1, rfl, e9, h⟩ := h
      subst M9
      show Gd d w 37 _ (27, [some (aR 11 k0), some (aI v1)], [aI x1], M)
      refine gd_br (c := x1 = ((0 : Int32))) (st1 := []) tc_37 rfl rfl (fun _ => rfl) ⟨fun hc => ?_, fun hc => ?_⟩
      · have h := h.1 hc
        exact g_Rd_readPolicy_J131 hd hw k0 (some (aI v1)) M h
      · have h := h.2 hc
        show Gd d w 37 _ (30, [some (aR 11 k0), some (aI v1)], [], M)
        refine gd_s (P := True ∧ True ∧ True ∧ True) (σ1 := (35, [some (aR 11 k0), some (aI v1)], [aI ((-1 : Int32)), aI (rI M k0 5)], M)) tc_37 rfl 3 (fun u => ⟨_, rfl⟩) ⟨trivial, trivial, trivial, trivial⟩ ?_
        refine gd_br (c := (rI M k0 5) = ((-1 : Int32))) (st1 := []) tc_37 rfl rfl (fun _ => rfl) ⟨fun hc => ?_, fun hc => ?_⟩
        · have h := h.1 hc
          exact g_Rd_readPolicy_J131 hd hw k0 (some (aI v1)) M h
        · have h := h.2 hc
          show Gd d w 37 _ (38, [some (aR 11 k0), some (aI v1)], [], M)
          refine gd_s (P := True ∧ True) (σ1 := (39, [some (aR 11 k0), some (aI v1)], [aR 11 k0], M)) tc_37 rfl 1 (fun u => ⟨_, rfl⟩) ⟨trivial, trivial⟩ ?_
          refine gd_callN (ml := 1) (as := [aR 11 k0]) (rest := []) tc_37 rfl rfl rfl rfl rfl (by omega) (by omega) (Nat.le_of_ble_eq_true rfl) rfl (g_Rd_token (by omega) (by omega) h) (fun r9 M9 h => ?_)
          obtain ⟨x2, rfl, e9, h⟩ := h
          subst M9
          show Gd d w 37 _ (42, [some (aR 11 k0), some (aI v1)], [aI x2], M)
          refine gd_sw tc_37 rfl rfl (fun _ => rfl) ?_
          refine gd_case ⟨fun hc => ?_, fun hc => ?_⟩
          · have h := h.1 hc
            show Gd d w 37 _ (92, [some (aR 11 k0), some (aI v1)], [], M)
            refine gd_s (P := True ∧ True) (σ1 := (93, [some (aR 11 k0), some (aI v1)], [aR 11 k0], M)) tc_37 rfl 1 (fun u => ⟨_, rfl⟩) ⟨trivial, trivial⟩ ?_
            refine gd_callN (ml := 4) (as := [aR 11 k0]) (rest := []) tc_37 rfl rfl rfl rfl rfl (by omega) (by omega) (Nat.le_of_ble_eq_true rfl) rfl (g_Rd_readSetHead (by omega) (by omega) h) (fun r9 M3 h => ?_)
            obtain ⟨rfl, h⟩ := h
            show Gd d w 37 _ (96, [some (aR 11 k0), some (aI v1)], [], M3)
            refine gd_s (P := True ∧ True ∧ True ∧ True) (σ1 := (19, [some (aR 11 k0), some (aI (v1 + (-1 : Int32)))], [], M3)) tc_37 rfl 3 (fun u => ⟨_, rfl⟩) ⟨trivial, trivial, trivial, trivial⟩ ?_
            exact ih k0 (v1 + (-1 : Int32)) M3 h
          have h := h.2 hc
          refine gd_case ⟨fun hc => ?_, fun hc => ?_⟩
          · have h := h.1 hc
            show Gd d w 37 _ (99, [some (aR 11 k0), some (aI v1)], [], M)
            refine gd_s (P := True ∧ True) (σ1 := (100, [some (aR 11 k0), some (aI v1)], [aR 11 k0], M)) tc_37 rfl 1 (fun u => ⟨_, rfl⟩) ⟨trivial, trivial⟩ ?_
            refine gd_callN (ml := 3) (as := [aR 11 k0]) (rest := []) tc_37 rfl rfl rfl rfl rfl (by omega) (by omega) (Nat.le_of_ble_eq_true rfl) rfl (g_Rd_readRule (by omega) (by omega) h) (fun r9 M4 h => ?_)
            obtain ⟨rfl, h⟩ := h
            show Gd d w 37 _ (103, [some (aR 11 k0), some (aI v1)], [], M4)
            refine gd_s (P := True ∧ True ∧ True ∧ True) (σ1 := (19, [some (aR 11 k0), some (aI (v1 + (-1 : Int32)))], [], M4)) tc_37 rfl 3 (fun u => ⟨_, rfl⟩) ⟨trivial, trivial, trivial, trivial⟩ ?_
            exact ih k0 (v1 + (-1 : Int32)) M4 h
          have h := h.2 hc
          refine gd_case ⟨fun hc => ?_, fun hc => ?_⟩
          · have h := h.1 hc
            show Gd d w 37 _ (99, [some (aR 11 k0), some (aI v1)], [], M)
            refine gd_s (P := True ∧ True) (σ1 := (100, [some (aR 11 k0), some (aI v1)], [aR 11 k0], M)) tc_37 rfl 1 (fun u => ⟨_, rfl⟩) ⟨trivial, trivial⟩ ?_
            refine gd_callN (ml := 3) (as := [aR 11 k0]) (rest := []) tc_37 rfl rfl rfl rfl rfl (by omega) (by omega) (Nat.le_of_ble_eq_true rfl) rfl (g_Rd_readRule (by omega) (by omega) h) (fun r9 M5 h => ?_)
            obtain ⟨rfl, h⟩ := h
            show Gd d w 37 _ (103, [some (aR 11 k0), some (aI v1)], [], M5)
            refine gd_s (P := True ∧ True ∧ True ∧ True) (σ1 := (19, [some (aR 11 k0), some (aI (v1 + (-1 : Int32)))], [], M5)) tc_37 rfl 3 (fun u => ⟨_, rfl⟩) ⟨trivial, trivial, trivial, trivial⟩ ?_
            exact ih k0 (v1 + (-1 : Int32)) M5 h
          have h := h.2 hc
          refine gd_case ⟨fun hc => ?_, fun hc => ?_⟩
          · have h := h.1 hc
            show Gd d w 37 _ (106, [some (aR 11 k0), some (aI v1)], [], M)
            refine gd_s (P := True ∧ True) (σ1 := (107, [some (aR 11 k0), some (aI v1)], [aR 11 k0], M)) tc_37 rfl 1 (fun u => ⟨_, rfl⟩) ⟨trivial, trivial⟩ ?_
            refine gd_callN (ml := 2) (as := [aR 11 k0]) (rest := []) tc_37 rfl rfl rfl rfl rfl (by omega) (by omega) (Nat.le_of_ble_eq_true rfl) rfl (g_Rd_readDuty (by omega) (by omega) h) (fun r9 M6 h => ?_)
            obtain ⟨rfl, h⟩ := h
            show Gd d w 37 _ (110, [some (aR 11 k0), some (aI v1)], [], M6)
            refine gd_s (P := True ∧ True ∧ True ∧ True) (σ1 := (19, [some (aR 11 k0), some (aI (v1 + (-1 : Int32)))], [], M6)) tc_37 rfl 3 (fun u => ⟨_, rfl⟩) ⟨trivial, trivial, trivial, trivial⟩ ?_
            exact ih k0 (v1 + (-1 : Int32)) M6 h
          have h := h.2 hc
          refine gd_case ⟨fun hc => ?_, fun hc => ?_⟩
          · have h := h.1 hc
            show Gd d w 37 _ (113, [some (aR 11 k0), some (aI v1)], [], M)
            refine gd_s (P := True ∧ True) (σ1 := (114, [some (aR 11 k0), some (aI v1)], [aR 11 k0], M)) tc_37 rfl 1 (fun u => ⟨_, rfl⟩) ⟨trivial, trivial⟩ ?_
            refine gd_callN (ml := 1) (as := [aR 11 k0]) (rest := []) tc_37 rfl rfl rfl rfl rfl (by omega) (by omega) (Nat.le_of_ble_eq_true rfl) rfl (g_Rd_readSetEnd (by omega) (by omega) h) (fun r9 M7 h => ?_)
            obtain ⟨rfl, h⟩ := h
            show Gd d w 37 _ (117, [some (aR 11 k0), some (aI v1)], [], M7)
            refine gd_s (P := True ∧ True ∧ True ∧ True) (σ1 := (19, [some (aR 11 k0), some (aI (v1 + (-1 : Int32)))], [], M7)) tc_37 rfl 3 (fun u => ⟨_, rfl⟩) ⟨trivial, trivial, trivial, trivial⟩ ?_
            exact ih k0 (v1 + (-1 : Int32)) M7 h
          have h := h.2 hc
          show Gd d w 37 _ (120, [some (aR 11 k0), some (aI v1)], [], M)
          refine gd_s (P := True ∧ True ∧ True) (σ1 := (122, [some (aR 11 k0), some (aI v1)], [aI ((2 : Int32)), aR 11 k0], M)) tc_37 rfl 2 (fun u => ⟨_, rfl⟩) ⟨trivial, trivial, trivial⟩ ?_
          refine gd_callN (ml := 2) (as := [aR 11 k0, aI ((2 : Int32))]) (rest := []) tc_37 rfl rfl rfl rfl rfl (by omega) (by omega) (Nat.le_of_ble_eq_true rfl) rfl (g_Rd_refuse (by omega) (by omega) h) (fun r9 M8 h => ?_)
          obtain ⟨rfl, h⟩ := h
          show Gd d w 37 _ (125, [some (aR 11 k0), some (aI v1)], [], M8)
          refine gd_s (P := True ∧ True ∧ True) (σ1 := (19, [some (aR 11 k0), some (aI (v1 + (-1 : Int32)))], [], M8)) tc_37 rfl 2 (fun u => ⟨_, rfl⟩) ⟨trivial, trivial, trivial⟩ ?_
          exact ih k0 (v1 + (-1 : Int32)) M8 h
/-- PolicyJudge$Reader.readPolicy()V -/
def w_Rd_readPolicy (post : aM → Prop) (k0 : Nat) (M : aM) : Prop := w_Rd_isFine (fun x1 => ((x1 = ((0 : Int32))) → ∃ n9, w_Rd_readPolicy_L19 post n9 k0 (rI M (k0 + 1) 5) M) ∧ (¬ (x1 = ((0 : Int32))) → w_Rd_readSetHead (fun M2 => ∃ n9, w_Rd_readPolicy_L19 post n9 k0 (rI M2 (k0 + 1) 5) M2) k0 M)) k0 M
theorem g_Rd_readPolicy {d w : Nat} (hd : 125 ≤ d) (hw : 3481 ≤ w) {post : aM → Prop} {k0 : Nat} {M : aM} (h : w_Rd_readPolicy post k0 M) : Gd d w 37 (pV post) (0, aEnt 37 [aR 11 k0], [], M) := by
  unfold w_Rd_readPolicy at h
  show Gd d w 37 _ (0, [some (aR 11 k0), none], [], M)
  refine gd_s (P := True ∧ True) (σ1 := (1, [some (aR 11 k0), none], [aR 11 k0], M)) tc_37 rfl 1 (fun u => ⟨_, rfl⟩) ⟨trivial, trivial⟩ ?_
  refine gd_callN (ml := 1) (as := [aR 11 k0]) (rest := []) tc_37 rfl rfl rfl rfl rfl (by omega) (by omega) (Nat.le_of_ble_eq_true rfl) rfl (g_Rd_isFine (by omega) (by omega) h) (fun r9 M9 h => ?_)
  obtain ⟨x1, rfl, e9, h⟩ := h
  subst M9
  show Gd d w 37 _ (4, [some (aR 11 k0), none], [aI x1], M)
  refine gd_br (c := x1 = ((0 : Int32))) (st1 := []) tc_37 rfl rfl (fun _ => rfl) ⟨fun hc => ?_, fun hc => ?_⟩
  · have h := h.1 hc
    show Gd d w 37 _ (11, [some (aR 11 k0), none], [], M)
    refine gd_s (P := True ∧ True ∧ True ∧ True ∧ True) (σ1 := (19, [some (aR 11 k0), some (aI (rI M (k0 + 1) 5))], [], M)) tc_37 rfl 4 (fun u => ⟨_, rfl⟩) ⟨trivial, trivial, trivial, trivial, trivial⟩ ?_
    obtain ⟨n9, h⟩ := h
    exact g_Rd_readPolicy_L19 hd hw n9 k0 (rI M (k0 + 1) 5) M h
  · have h := h.2 hc
    show Gd d w 37 _ (7, [some (aR 11 k0), none], [], M)
    refine gd_s (P := True ∧ True) (σ1 := (8, [some (aR 11 k0), none], [aR 11 k0], M)) tc_37 rfl 1 (fun u => ⟨_, rfl⟩) ⟨trivial, trivial⟩ ?_
    refine gd_callN (ml := 4) (as := [aR 11 k0]) (rest := []) tc_37 rfl rfl rfl rfl rfl (by omega) (by omega) (Nat.le_of_ble_eq_true rfl) rfl (g_Rd_readSetHead (by omega) (by omega) h) (fun r9 M2 h => ?_)
    obtain ⟨rfl, h⟩ := h
    show Gd d w 37 _ (11, [some (aR 11 k0), none], [], M2)
    refine gd_s (P := True ∧ True ∧ True ∧ True ∧ True) (σ1 := (19, [some (aR 11 k0), some (aI (rI M2 (k0 + 1) 5))], [], M2)) tc_37 rfl 4 (fun u => ⟨_, rfl⟩) ⟨trivial, trivial, trivial, trivial, trivial⟩ ?_
    obtain ⟨n9, h⟩ := h
    exact g_Rd_readPolicy_L19 hd hw n9 k0 (rI M2 (k0 + 1) 5) M2 h
theorem tc_56 : tC 56 = c56 := rfl
/-- PolicyJudge$Reader.exchange(LPolicyJudge$Text;)LPolicyJudge$Text; -/
def w_Rd_exchange (post : Nat → aM → Prop) (k0 : Nat) (k1 : Nat) (M : aM) : Prop := (((1 : Int32)) = 0 ∨ ((1 : Int32)) = 1) ∧ post (rR M k0 3) (wR (wI M (rR M k0 3) 0 ((1 : Int32))) k0 3 k1)
theorem g_Rd_exchange {d w : Nat} (hd : 0 ≤ d) (hw : 0 ≤ w) {post : Nat → aM → Prop} {k0 : Nat} {k1 : Nat} {M : aM} (h : w_Rd_exchange post k0 k1 M) : Gd d w 56 (pR 13 post) (0, aEnt 56 [aR 11 k0, aR 13 k1], [], M) := by
  unfold w_Rd_exchange at h
  show Gd d w 56 _ (0, [some (aR 11 k0), some (aR 13 k1), none], [], M)
  obtain ⟨c0, h⟩ := h
  refine gd_s (P := True ∧ True ∧ True ∧ True ∧ True ∧ (((1 : Int32)) = 0 ∨ ((1 : Int32)) = 1) ∧ True ∧ True ∧ True ∧ True ∧ True) (σ1 := (16, [some (aR 11 k0), some (aR 13 k1), some (aR 13 (rR M k0 3))], [aR 13 (rR M k0 3)], wR (wI M (rR M k0 3) 0 ((1 : Int32))) k0 3 k1)) tc_56 rfl 10 (fun u => ⟨_, rfl⟩) ⟨trivial, trivial, trivial, trivial, trivial, c0, trivial, trivial, trivial, trivial, trivial⟩ ?_
  exact gd_ret tc_56 rfl rfl trivial (fun _ => rfl) ⟨_, rfl, h⟩
theorem tc_104 : tC 104 = c104 := rfl
/-- PolicyJudge$Survey.forget()V -/
def w_Sv_forget (post : aM → Prop) (k0 : Nat) (M : aM) : Prop := (((0 : Int32)) = 0 ∨ ((0 : Int32)) = 1) ∧ post (wI (wI M k0 0 ((0 : Int32))) k0 2 ((0 : Int32)))
theorem g_Sv_forget {d w : Nat} (hd : 0 ≤ d) (hw : 0 ≤ w) {post : aM → Prop} {k0 : Nat} {M : aM} (h : w_Sv_forget post k0 M) : Gd d w 104 (pV post) (0, aEnt 104 [aR 19 k0], [], M) := by
  unfold w_Sv_forget at h
  show Gd d w 104 _ (0, [some (aR 19 k0)], [], M)
  obtain ⟨c0, h⟩ := h
  refine gd_s (P := True ∧ True ∧ (((0 : Int32)) = 0 ∨ ((0 : Int32)) = 1) ∧ True ∧ True ∧ True ∧ True) (σ1 := (10, [some (aR 19 k0)], [], wI (wI M k0 0 ((0 : Int32))) k0 2 ((0 : Int32)))) tc_104 rfl 6 (fun u => ⟨_, rfl⟩) ⟨trivial, trivial, c0, trivial, trivial, trivial, trivial⟩ ?_
  exact gd_ret tc_104 rfl rfl trivial (fun _ => rfl) ⟨rfl, h⟩
theorem tc_80 : tC 80 = c80 := rfl
/-- PolicyJudge$Names.letter(II)I -/
def w_Nm_letter (post : Int32 → Prop) (k0 : Nat) (v1 : Int32) (v2 : Int32) (M : aM) : Prop := (vp_in ((v1 * ((12 : Int32))) + v2) (rK M (k0 + 2)).2) ∧ post (rI M (k0 + 2) ((v1 * ((12 : Int32))) + v2).toNatClampNeg)
theorem g_Nm_letter {d w : Nat} (hd : 0 ≤ d) (hw : 0 ≤ w) {post : Int32 → Prop} {k0 : Nat} {v1 : Int32} {v2 : Int32} {M : aM} (h : w_Nm_letter post k0 v1 v2 M) : Gd d w 80 (pIn M post) (0, aEnt 80 [aR 15 k0, aI v1, aI v2], [], M) := by
  unfold w_Nm_letter at h
  show Gd d w 80 _ (0, [some (aR 15 k0), some (aI v1), some (aI v2)], [], M)
  obtain ⟨c0, h⟩ := h
  refine gd_s (P := True ∧ True ∧ True ∧ True ∧ True ∧ True ∧ True ∧ (vp_in ((v1 * ((12 : Int32))) + v2) (rK M (k0 + 2)).2) ∧ True) (σ1 := (11, [some (aR 15 k0), some (aI v1), some (aI v2)], [aI (rI M (k0 + 2) ((v1 * ((12 : Int32))) + v2).toNatClampNeg)], M)) tc_80 rfl 8 (fun u => ⟨_, rfl⟩) ⟨trivial, trivial, trivial, trivial, trivial, trivial, trivial, c0, trivial⟩ ?_
  exact gd_ret tc_80 rfl rfl trivial (fun _ => rfl) ⟨_, rfl, rfl, h⟩
theorem tc_250 : tC 250 = c250 := rfl
/-- java/lang/Integer.bitCount(I)I -/
def w_In_bitCount (post : Int32 → Prop) (v0 : Int32) (M : aM) : Prop := post ((((((((v0 - (((v0.toUInt32 >>> (((1 : Int32)).toUInt32 &&& Int32.toUInt32 31)).toInt32) &&& ((1431655765 : Int32)))) &&& ((858993459 : Int32))) + ((((v0 - (((v0.toUInt32 >>> (((1 : Int32)).toUInt32 &&& Int32.toUInt32 31)).toInt32) &&& ((1431655765 : Int32)))).toUInt32 >>> (((2 : Int32)).toUInt32 &&& Int32.toUInt32 31)).toInt32) &&& ((858993459 : Int32)))) + (((((v0 - (((v0.toUInt32 >>> (((1 : Int32)).toUInt32 &&& Int32.toUInt32 31)).toInt32) &&& ((1431655765 : Int32)))) &&& ((858993459 : Int32))) + ((((v0 - (((v0.toUInt32 >>> (((1 : Int32)).toUInt32 &&& Int32.toUInt32 31)).toInt32) &&& ((1431655765 : Int32)))).toUInt32 >>> (((2 : Int32)).toUInt32 &&& Int32.toUInt32 31)).toInt32) &&& ((858993459 : Int32)))).toUInt32 >>> (((4 : Int32)).toUInt32 &&& Int32.toUInt32 31)).toInt32)) &&& ((252645135 : Int32))) + (((((((v0 - (((v0.toUInt32 >>> (((1 : Int32)).toUInt32 &&& Int32.toUInt32 31)).toInt32) &&& ((1431655765 : Int32)))) &&& ((858993459 : Int32))) + ((((v0 - (((v0.toUInt32 >>> (((1 : Int32)).toUInt32 &&& Int32.toUInt32 31)).toInt32) &&& ((1431655765 : Int32)))).toUInt32 >>> (((2 : Int32)).toUInt32 &&& Int32.toUInt32 31)).toInt32) &&& ((858993459 : Int32)))) + (((((v0 - (((v0.toUInt32 >>> (((1 : Int32)).toUInt32 &&& Int32.toUInt32 31)).toInt32) &&& ((1431655765 : Int32)))) &&& ((858993459 : Int32))) + ((((v0 - (((v0.toUInt32 >>> (((1 : Int32)).toUInt32 &&& Int32.toUInt32 31)).toInt32) &&& ((1431655765 : Int32)))).toUInt32 >>> (((2 : Int32)).toUInt32 &&& Int32.toUInt32 31)).toInt32) &&& ((858993459 : Int32)))).toUInt32 >>> (((4 : Int32)).toUInt32 &&& Int32.toUInt32 31)).toInt32)) &&& ((252645135 : Int32))).toUInt32 >>> (((8 : Int32)).toUInt32 &&& Int32.toUInt32 31)).toInt32)) + ((((((((v0 - (((v0.toUInt32 >>> (((1 : Int32)).toUInt32 &&& Int32.toUInt32 31)).toInt32) &&& ((1431655765 : Int32)))) &&& ((858993459 : Int32))) + ((((v0 - (((v0.toUInt32 >>> (((1 : Int32)).toUInt32 &&& Int32.toUInt32 31)).toInt32) &&& ((1431655765 : Int32)))).toUInt32 >>> (((2 : Int32)).toUInt32 &&& Int32.toUInt32 31)).toInt32) &&& ((858993459 : Int32)))) + (((((v0 - (((v0.toUInt32 >>> (((1 : Int32)).toUInt32 &&& Int32.toUInt32 31)).toInt32) &&& ((1431655765 : Int32)))) &&& ((858993459 : Int32))) + ((((v0 - (((v0.toUInt32 >>> (((1 : Int32)).toUInt32 &&& Int32.toUInt32 31)).toInt32) &&& ((1431655765 : Int32)))).toUInt32 >>> (((2 : Int32)).toUInt32 &&& Int32.toUInt32 31)).toInt32) &&& ((858993459 : Int32)))).toUInt32 >>> (((4 : Int32)).toUInt32 &&& Int32.toUInt32 31)).toInt32)) &&& ((252645135 : Int32))) + (((((((v0 - (((v0.toUInt32 >>> (((1 : Int32)).toUInt32 &&& Int32.toUInt32 31)).toInt32) &&& ((1431655765 : Int32)))) &&& ((858993459 : Int32))) + ((((v0 - (((v0.toUInt32 >>> (((1 : Int32)).toUInt32 &&& Int32.toUInt32 31)).toInt32) &&& ((1431655765 : Int32)))).toUInt32 >>> (((2 : Int32)).toUInt32 &&& Int32.toUInt32 31)).toInt32) &&& ((858993459 : Int32)))) + (((((v0 - (((v0.toUInt32 >>> (((1 : Int32)).toUInt32 &&& Int32.toUInt32 31)).toInt32) &&& ((1431655765 : Int32)))) &&& ((858993459 : Int32))) + ((((v0 - (((v0.toUInt32 >>> (((1 : Int32)).toUInt32 &&& Int32.toUInt32 31)).toInt32) &&& ((1431655765 : Int32)))).toUInt32 >>> (((2 : Int32)).toUInt32 &&& Int32.toUInt32 31)).toInt32) &&& ((858993459 : Int32)))).toUInt32 >>> (((4 : Int32)).toUInt32 &&& Int32.toUInt32 31)).toInt32)) &&& ((252645135 : Int32))).toUInt32 >>> (((8 : Int32)).toUInt32 &&& Int32.toUInt32 31)).toInt32)).toUInt32 >>> (((16 : Int32)).toUInt32 &&& Int32.toUInt32 31)).toInt32)) &&& ((63 : Int32)))
theorem g_In_bitCount {d w : Nat} (hd : 0 ≤ d) (hw : 0 ≤ w) {post : Int32 → Prop} {v0 : Int32} {M : aM} (h : w_In_bitCount post v0 M) : Gd d w 250 (pIn M post) (0, aEnt 250 [aI v0], [], M) := by
  unfold w_In_bitCount at h
  show Gd d w 250 _ (0, [some (aI v0)], [], M)
  refine gd_s (P := True ∧ True ∧ True ∧ True ∧ True ∧ True ∧ True ∧ True ∧ True ∧ True ∧ True ∧ True ∧ True ∧ True ∧ True ∧ True ∧ True ∧ True ∧ True ∧ True ∧ True ∧ True ∧ True ∧ True ∧ True ∧ True ∧ True ∧ True ∧ True ∧ True ∧ True ∧ True ∧ True ∧ True ∧ True ∧ True ∧ True ∧ True ∧ True ∧ True ∧ True ∧ True) (σ1 := (52, [some (aI (((((((v0 - (((v0.toUInt32 >>> (((1 : Int32)).toUInt32 &&& Int32.toUInt32 31)).toInt32) &&& ((1431655765 : Int32)))) &&& ((858993459 : Int32))) + ((((v0 - (((v0.toUInt32 >>> (((1 : Int32)).toUInt32 &&& Int32.toUInt32 31)).toInt32) &&& ((1431655765 : Int32)))).toUInt32 >>> (((2 : Int32)).toUInt32 &&& Int32.toUInt32 31)).toInt32) &&& ((858993459 : Int32)))) + (((((v0 - (((v0.toUInt32 >>> (((1 : Int32)).toUInt32 &&& Int32.toUInt32 31)).toInt32) &&& ((1431655765 : Int32)))) &&& ((858993459 : Int32))) + ((((v0 - (((v0.toUInt32 >>> (((1 : Int32)).toUInt32 &&& Int32.toUInt32 31)).toInt32) &&& ((1431655765 : Int32)))).toUInt32 >>> (((2 : Int32)).toUInt32 &&& Int32.toUInt32 31)).toInt32) &&& ((858993459 : Int32)))).toUInt32 >>> (((4 : Int32)).toUInt32 &&& Int32.toUInt32 31)).toInt32)) &&& ((252645135 : Int32))) + (((((((v0 - (((v0.toUInt32 >>> (((1 : Int32)).toUInt32 &&& Int32.toUInt32 31)).toInt32) &&& ((1431655765 : Int32)))) &&& ((858993459 : Int32))) + ((((v0 - (((v0.toUInt32 >>> (((1 : Int32)).toUInt32 &&& Int32.toUInt32 31)).toInt32) &&& ((1431655765 : Int32)))).toUInt32 >>> (((2 : Int32)).toUInt32 &&& Int32.toUInt32 31)).toInt32) &&& ((858993459 : Int32)))) + (((((v0 - (((v0.toUInt32 >>> (((1 : Int32)).toUInt32 &&& Int32.toUInt32 31)).toInt32) &&& ((1431655765 : Int32)))) &&& ((858993459 : Int32))) + ((((v0 - (((v0.toUInt32 >>> (((1 : Int32)).toUInt32 &&& Int32.toUInt32 31)).toInt32) &&& ((1431655765 : Int32)))).toUInt32 >>> (((2 : Int32)).toUInt32 &&& Int32.toUInt32 31)).toInt32) &&& ((858993459 : Int32)))).toUInt32 >>> (((4 : Int32)).toUInt32 &&& Int32.toUInt32 31)).toInt32)) &&& ((252645135 : Int32))).toUInt32 >>> (((8 : Int32)).toUInt32 &&& Int32.toUInt32 31)).toInt32)) + ((((((((v0 - (((v0.toUInt32 >>> (((1 : Int32)).toUInt32 &&& Int32.toUInt32 31)).toInt32) &&& ((1431655765 : Int32)))) &&& ((858993459 : Int32))) + ((((v0 - (((v0.toUInt32 >>> (((1 : Int32)).toUInt32 &&& Int32.toUInt32 31)).toInt32) &&& ((1431655765 : Int32)))).toUInt32 >>> (((2 : Int32)).toUInt32 &&& Int32.toUInt32 31)).toInt32) &&& ((858993459 : Int32)))) + (((((v0 - (((v0.toUInt32 >>> (((1 : Int32)).toUInt32 &&& Int32.toUInt32 31)).toInt32) &&& ((1431655765 : Int32)))) &&& ((858993459 : Int32))) + ((((v0 - (((v0.toUInt32 >>> (((1 : Int32)).toUInt32 &&& Int32.toUInt32 31)).toInt32) &&& ((1431655765 : Int32)))).toUInt32 >>> (((2 : Int32)).toUInt32 &&& Int32.toUInt32 31)).toInt32) &&& ((858993459 : Int32)))).toUInt32 >>> (((4 : Int32)).toUInt32 &&& Int32.toUInt32 31)).toInt32)) &&& ((252645135 : Int32))) + (((((((v0 - (((v0.toUInt32 >>> (((1 : Int32)).toUInt32 &&& Int32.toUInt32 31)).toInt32) &&& ((1431655765 : Int32)))) &&& ((858993459 : Int32))) + ((((v0 - (((v0.toUInt32 >>> (((1 : Int32)).toUInt32 &&& Int32.toUInt32 31)).toInt32) &&& ((1431655765 : Int32)))).toUInt32 >>> (((2 : Int32)).toUInt32 &&& Int32.toUInt32 31)).toInt32) &&& ((858993459 : Int32)))) + (((((v0 - (((v0.toUInt32 >>> (((1 : Int32)).toUInt32 &&& Int32.toUInt32 31)).toInt32) &&& ((1431655765 : Int32)))) &&& ((858993459 : Int32))) + ((((v0 - (((v0.toUInt32 >>> (((1 : Int32)).toUInt32 &&& Int32.toUInt32 31)).toInt32) &&& ((1431655765 : Int32)))).toUInt32 >>> (((2 : Int32)).toUInt32 &&& Int32.toUInt32 31)).toInt32) &&& ((858993459 : Int32)))).toUInt32 >>> (((4 : Int32)).toUInt32 &&& Int32.toUInt32 31)).toInt32)) &&& ((252645135 : Int32))).toUInt32 >>> (((8 : Int32)).toUInt32 &&& Int32.toUInt32 31)).toInt32)).toUInt32 >>> (((16 : Int32)).toUInt32 &&& Int32.toUInt32 31)).toInt32)))], [aI ((((((((v0 - (((v0.toUInt32 >>> (((1 : Int32)).toUInt32 &&& Int32.toUInt32 31)).toInt32) &&& ((1431655765 : Int32)))) &&& ((858993459 : Int32))) + ((((v0 - (((v0.toUInt32 >>> (((1 : Int32)).toUInt32 &&& Int32.toUInt32 31)).toInt32) &&& ((1431655765 : Int32)))).toUInt32 >>> (((2 : Int32)).toUInt32 &&& Int32.toUInt32 31)).toInt32) &&& ((858993459 : Int32)))) + (((((v0 - (((v0.toUInt32 >>> (((1 : Int32)).toUInt32 &&& Int32.toUInt32 31)).toInt32) &&& ((1431655765 : Int32)))) &&& ((858993459 : Int32))) + ((((v0 - (((v0.toUInt32 >>> (((1 : Int32)).toUInt32 &&& Int32.toUInt32 31)).toInt32) &&& ((1431655765 : Int32)))).toUInt32 >>> (((2 : Int32)).toUInt32 &&& Int32.toUInt32 31)).toInt32) &&& ((858993459 : Int32)))).toUInt32 >>> (((4 : Int32)).toUInt32 &&& Int32.toUInt32 31)).toInt32)) &&& ((252645135 : Int32))) + (((((((v0 - (((v0.toUInt32 >>> (((1 : Int32)).toUInt32 &&& Int32.toUInt32 31)).toInt32) &&& ((1431655765 : Int32)))) &&& ((858993459 : Int32))) + ((((v0 - (((v0.toUInt32 >>> (((1 : Int32)).toUInt32 &&& Int32.toUInt32 31)).toInt32) &&& ((1431655765 : Int32)))).toUInt32 >>> (((2 : Int32)).toUInt32 &&& Int32.toUInt32 31)).toInt32) &&& ((858993459 : Int32)))) + (((((v0 - (((v0.toUInt32 >>> (((1 : Int32)).toUInt32 &&& Int32.toUInt32 31)).toInt32) &&& ((1431655765 : Int32)))) &&& ((858993459 : Int32))) + ((((v0 - (((v0.toUInt32 >>> (((1 : Int32)).toUInt32 &&& Int32.toUInt32 31)).toInt32) &&& ((1431655765 : Int32)))).toUInt32 >>> (((2 : Int32)).toUInt32 &&& Int32.toUInt32 31)).toInt32) &&& ((858993459 : Int32)))).toUInt32 >>> (((4 : Int32)).toUInt32 &&& Int32.toUInt32 31)).toInt32)) &&& ((252645135 : Int32))).toUInt32 >>> (((8 : Int32)).toUInt32 &&& Int32.toUInt32 31)).toInt32)) + ((((((((v0 - (((v0.toUInt32 >>> (((1 : Int32)).toUInt32 &&& Int32.toUInt32 31)).toInt32) &&& ((1431655765 : Int32)))) &&& ((858993459 : Int32))) + ((((v0 - (((v0.toUInt32 >>> (((1 : Int32)).toUInt32 &&& Int32.toUInt32 31)).toInt32) &&& ((1431655765 : Int32)))).toUInt32 >>> (((2 : Int32)).toUInt32 &&& Int32.toUInt32 31)).toInt32) &&& ((858993459 : Int32)))) + (((((v0 - (((v0.toUInt32 >>> (((1 : Int32)).toUInt32 &&& Int32.toUInt32 31)).toInt32) &&& ((1431655765 : Int32)))) &&& ((858993459 : Int32))) + ((((v0 - (((v0.toUInt32 >>> (((1 : Int32)).toUInt32 &&& Int32.toUInt32 31)).toInt32) &&& ((1431655765 : Int32)))).toUInt32 >>> (((2 : Int32)).toUInt32 &&& Int32.toUInt32 31)).toInt32) &&& ((858993459 : Int32)))).toUInt32 >>> (((4 : Int32)).toUInt32 &&& Int32.toUInt32 31)).toInt32)) &&& ((252645135 : Int32))) + (((((((v0 - (((v0.toUInt32 >>> (((1 : Int32)).toUInt32 &&& Int32.toUInt32 31)).toInt32) &&& ((1431655765 : Int32)))) &&& ((858993459 : Int32))) + ((((v0 - (((v0.toUInt32 >>> (((1 : Int32)).toUInt32 &&& Int32.toUInt32 31)).toInt32) &&& ((1431655765 : Int32)))).toUInt32 >>> (((2 : Int32)).toUInt32 &&& Int32.toUInt32 31)).toInt32) &&& ((858993459 : Int32)))) + (((((v0 - (((v0.toUInt32 >>> (((1 : Int32)).toUInt32 &&& Int32.toUInt32 31)).toInt32) &&& ((1431655765 : Int32)))) &&& ((858993459 : Int32))) + ((((v0 - (((v0.toUInt32 >>> (((1 : Int32)).toUInt32 &&& Int32.toUInt32 31)).toInt32) &&& ((1431655765 : Int32)))).toUInt32 >>> (((2 : Int32)).toUInt32 &&& Int32.toUInt32 31)).toInt32) &&& ((858993459 : Int32)))).toUInt32 >>> (((4 : Int32)).toUInt32 &&& Int32.toUInt32 31)).toInt32)) &&& ((252645135 : Int32))).toUInt32 >>> (((8 : Int32)).toUInt32 &&& Int32.toUInt32 31)).toInt32)).toUInt32 >>> (((16 : Int32)).toUInt32 &&& Int32.toUInt32 31)).toInt32)) &&& ((63 : Int32)))], M)) tc_250 rfl 41 (fun u => ⟨_, rfl⟩) ⟨trivial, trivial, trivial, trivial, trivial, trivial, trivial, trivial, trivial, trivial, trivial, trivial, trivial, trivial, trivial, trivial, trivial, trivial, trivial, trivial, trivial, trivial, trivial, trivial, trivial, trivial, trivial, trivial, trivial, trivial, trivial, trivial, trivial, trivial, trivial, trivial, trivial, trivial, trivial, trivial, trivial, trivial⟩ ?_
  exact gd_ret tc_250 rfl rfl trivial (fun _ => rfl) ⟨_, rfl, rfl, h⟩
theorem tc_73 : tC 73 = c73 := rfl
/-- PolicyJudge$Attributes.allows(II)Z -/
def w_At_allows (post : Int32 → Prop) (k0 : Nat) (v1 : Int32) (v2 : Int32) (M : aM) : Prop := ((v2 < ((0 : Int32))) → (((0 : Int32)) = 0 ∨ ((0 : Int32)) = 1) ∧ post ((0 : Int32))) ∧ (¬ (v2 < ((0 : Int32))) → (vp_in v1 (rK M (k0 + 4)).2) ∧ ((((((1 : Int32)) <<< ((rI M (k0 + 4) v1.toNatClampNeg) &&& 31)) ≤ v2) → (((0 : Int32)) = 0 ∨ ((0 : Int32)) = 1) ∧ post ((0 : Int32))) ∧ (¬ ((((1 : Int32)) <<< ((rI M (k0 + 4) v1.toNatClampNeg) &&& 31)) ≤ v2) → (vp_in v1 (rK M (k0 + 5)).2) ∧ (((¬ (rI M (k0 + 5) v1.toNatClampNeg) = ((0 : Int32))) → (((1 : Int32)) = 0 ∨ ((1 : Int32)) = 1) ∧ post ((1 : Int32))) ∧ (¬ (¬ (rI M (k0 + 5) v1.toNatClampNeg) = ((0 : Int32))) → w_In_bitCount (fun x1 => ((((1 : Int32)) < x1) → (((0 : Int32)) = 0 ∨ ((0 : Int32)) = 1) ∧ post ((0 : Int32))) ∧ (¬ (((1 : Int32)) < x1) → (((1 : Int32)) = 0 ∨ ((1 : Int32)) = 1) ∧ post ((1 : Int32)))) v2 M)))))
theorem g_At_allows {d w : Nat} (hd : 1 ≤ d) (hw : 20 ≤ w) {post : Int32 → Prop} {k0 : Nat} {v1 : Int32} {v2 : Int32} {M : aM} (h : w_At_allows post k0 v1 v2 M) : Gd d w 73 (pIn M post) (0, aEnt 73 [aR 14 k0, aI v1, aI v2], [], M) := by
  unfold w_At_allows at h
  show Gd d w 73 _ (0, [some (aR 14 k0), some (aI v1), some (aI v2)], [], M)
  refine gd_s (P := True ∧ True) (σ1 := (1, [some (aR 14 k0), some (aI v1), some (aI v2)], [aI v2], M)) tc_73 rfl 1 (fun u => ⟨_, rfl⟩) ⟨trivial, trivial⟩ ?_
  refine gd_br (c := v2 < ((0 : Int32))) (st1 := []) tc_73 rfl rfl (fun _ => rfl) ⟨fun hc => ?_, fun hc => ?_⟩
  · have h := h.1 hc
    show Gd d w 73 _ (37, [some (aR 14 k0), some (aI v1), some (aI v2)], [], M)
    refine gd_s (P := True ∧ True) (σ1 := (38, [some (aR 14 k0), some (aI v1), some (aI v2)], [aI ((0 : Int32))], M)) tc_73 rfl 1 (fun u => ⟨_, rfl⟩) ⟨trivial, trivial⟩ ?_
    exact gd_ret tc_73 rfl rfl h.1 (fun _ => rfl) ⟨_, rfl, rfl, h.2⟩
  · have h := h.2 hc
    show Gd d w 73 _ (4, [some (aR 14 k0), some (aI v1), some (aI v2)], [], M)
    obtain ⟨c0, h⟩ := h
    refine gd_s (P := True ∧ True ∧ True ∧ True ∧ True ∧ (vp_in v1 (rK M (k0 + 4)).2) ∧ True ∧ True) (σ1 := (13, [some (aR 14 k0), some (aI v1), some (aI v2)], [aI (((1 : Int32)) <<< ((rI M (k0 + 4) v1.toNatClampNeg) &&& 31)), aI v2], M)) tc_73 rfl 7 (fun u => ⟨_, rfl⟩) ⟨trivial, trivial, trivial, trivial, trivial, c0, trivial, trivial⟩ ?_
    refine gd_br (c := (((1 : Int32)) <<< ((rI M (k0 + 4) v1.toNatClampNeg) &&& 31)) ≤ v2) (st1 := []) tc_73 rfl rfl (fun _ => rfl) ⟨fun hc => ?_, fun hc => ?_⟩
    · have h := h.1 hc
      show Gd d w 73 _ (37, [some (aR 14 k0), some (aI v1), some (aI v2)], [], M)
      refine gd_s (P := True ∧ True) (σ1 := (38, [some (aR 14 k0), some (aI v1), some (aI v2)], [aI ((0 : Int32))], M)) tc_73 rfl 1 (fun u => ⟨_, rfl⟩) ⟨trivial, trivial⟩ ?_
      exact gd_ret tc_73 rfl rfl h.1 (fun _ => rfl) ⟨_, rfl, rfl, h.2⟩
    · have h := h.2 hc
      show Gd d w 73 _ (16, [some (aR 14 k0), some (aI v1), some (aI v2)], [], M)
      obtain ⟨c0, h⟩ := h
      refine gd_s (P := True ∧ True ∧ True ∧ (vp_in v1 (rK M (k0 + 5)).2) ∧ True) (σ1 := (22, [some (aR 14 k0), some (aI v1), some (aI v2)], [aI (rI M (k0 + 5) v1.toNatClampNeg)], M)) tc_73 rfl 4 (fun u => ⟨_, rfl⟩) ⟨trivial, trivial, trivial, c0, trivial⟩ ?_
      refine gd_br (c := ¬ (rI M (k0 + 5) v1.toNatClampNeg) = ((0 : Int32))) (st1 := []) tc_73 rfl rfl (fun _ => rfl) ⟨fun hc => ?_, fun hc => ?_⟩
      · have h := h.1 hc
        show Gd d w 73 _ (33, [some (aR 14 k0), some (aI v1), some (aI v2)], [], M)
        refine gd_s (P := True ∧ True ∧ True) (σ1 := (38, [some (aR 14 k0), some (aI v1), some (aI v2)], [aI ((1 : Int32))], M)) tc_73 rfl 2 (fun u => ⟨_, rfl⟩) ⟨trivial, trivial, trivial⟩ ?_
        exact gd_ret tc_73 rfl rfl h.1 (fun _ => rfl) ⟨_, rfl, rfl, h.2⟩
      · have h := h.2 hc
        show Gd d w 73 _ (25, [some (aR 14 k0), some (aI v1), some (aI v2)], [], M)
        refine gd_s (P := True ∧ True) (σ1 := (26, [some (aR 14 k0), some (aI v1), some (aI v2)], [aI v2], M)) tc_73 rfl 1 (fun u => ⟨_, rfl⟩) ⟨trivial, trivial⟩ ?_
        refine gd_callN (ml := 1) (as := [aI v2]) (rest := []) tc_73 rfl rfl rfl rfl rfl (by omega) (by omega) (Nat.le_of_ble_eq_true rfl) rfl (g_In_bitCount (by omega) (by omega) h) (fun r9 M9 h => ?_)
        obtain ⟨x1, rfl, e9, h⟩ := h
        subst M9
        show Gd d w 73 _ (29, [some (aR 14 k0), some (aI v1), some (aI v2)], [aI x1], M)
        refine gd_s (P := True ∧ True) (σ1 := (30, [some (aR 14 k0), some (aI v1), some (aI v2)], [aI ((1 : Int32)), aI x1], M)) tc_73 rfl 1 (fun u => ⟨_, rfl⟩) ⟨trivial, trivial⟩ ?_
        refine gd_br (c := ((1 : Int32)) < x1) (st1 := []) tc_73 rfl rfl (fun _ => rfl) ⟨fun hc => ?_, fun hc => ?_⟩
        · have h := h.1 hc
          show Gd d w 73 _ (37, [some (aR 14 k0), some (aI v1), some (aI v2)], [], M)
          refine gd_s (P := True ∧ True) (σ1 := (38, [some (aR 14 k0), some (aI v1), some (aI v2)], [aI ((0 : Int32))], M)) tc_73 rfl 1 (fun u => ⟨_, rfl⟩) ⟨trivial, trivial⟩ ?_
          exact gd_ret tc_73 rfl rfl h.1 (fun _ => rfl) ⟨_, rfl, rfl, h.2⟩
        · have h := h.2 hc
          show Gd d w 73 _ (33, [some (aR 14 k0), some (aI v1), some (aI v2)], [], M)
          refine gd_s (P := True ∧ True ∧ True) (σ1 := (38, [some (aR 14 k0), some (aI v1), some (aI v2)], [aI ((1 : Int32))], M)) tc_73 rfl 2 (fun u => ⟨_, rfl⟩) ⟨trivial, trivial, trivial⟩ ?_
          exact gd_ret tc_73 rfl rfl h.1 (fun _ => rfl) ⟨_, rfl, rfl, h.2⟩
theorem tc_92 : tC 92 = c92 := rfl
def w_Vd_truthOfJoint_J77 (M : aM) (post : Int32 → Prop) (R_Vd_truthOf : (Int32 → Prop) → Nat → Nat → Int32 → Int32 → aM → Prop) (R_Vd_truthOfJoint : (Int32 → Prop) → Nat → Nat → Int32 → Int32 → Int32 → aM → Prop) (K36 : Nat → Nat → Int32 → Int32 → Nat → Int32 → Int32 → Int32 → Prop) (k0 : Nat) (k1 : Nat) (v3 : Int32) (v4 : Int32) (k5 : Nat) (v6 : Int32) (v7 : Int32) (v8 : Int32) : Prop := (vp_in v7 (rK M (k5 + 6)).2) ∧ (K36 k0 k1 v3 v4 k5 v6 (rI M (k5 + 6) v7.toNatClampNeg) (v8 + (-1 : Int32)))
theorem g_Vd_truthOfJoint_J77 {d w : Nat} (hd : 3 ≤ d) (hw : 77 ≤ w) {M : aM} {post : Int32 → Prop} {R_Vd_truthOf : (Int32 → Prop) → Nat → Nat → Int32 → Int32 → aM → Prop} (hR_Vd_truthOf : ∀ (post : Int32 → Prop) (k0 : Nat) (k1 : Nat) (v2 : Int32) (v3 : Int32) (M : aM), R_Vd_truthOf post k0 k1 v2 v3 M → Gd (d - 1) (w - (6 + 19)) 91 (pIn M post) (0, aEnt 91 [aR 13 k0, aR 4 k1, aI v2, aI v3], [], M)) {R_Vd_truthOfJoint : (Int32 → Prop) → Nat → Nat → Int32 → Int32 → Int32 → aM → Prop} (hR_Vd_truthOfJoint : ∀ (post : Int32 → Prop) (k0 : Nat) (k1 : Nat) (v2 : Int32) (v3 : Int32) (v4 : Int32) (M : aM), R_Vd_truthOfJoint post k0 k1 v2 v3 v4 M → Gd (d - 1) (w - (10 + 19)) 92 (pIn M post) (0, aEnt 92 [aR 13 k0, aR 4 k1, aI v2, aI v3, aI v4], [], M)) {K36 : Nat → Nat → Int32 → Int32 → Nat → Int32 → Int32 → Int32 → Prop} (hK36 : ∀ (k0 : Nat) (k1 : Nat) (v3 : Int32) (v4 : Int32) (k5 : Nat) (v6 : Int32) (v7 : Int32) (v8 : Int32) (o2 o9 : Option aV), K36 k0 k1 v3 v4 k5 v6 v7 v8 → Gd d w 92 (pIn M post) (36, [some (aR 13 k0), some (aR 4 k1), o2, some (aI v3), some (aI v4), some (aR 17 k5), some (aI v6), some (aI v7), some (aI v8), o9], [], M)) (k0 : Nat) (k1 : Nat) (v3 : Int32) (v4 : Int32) (k5 : Nat) (v6 : Int32) (v7 : Int32) (v8 : Int32) (o2 o9 : Option aV) (h : w_Vd_truthOfJoint_J77 M post R_Vd_truthOf R_Vd_truthOfJoint K36 k0 k1 v3 v4 k5 v6 v7 v8) : Gd d w 92 (pIn M post) (77, [some (aR 13 k0), some (aR 4 k1), o2, some (aI v3), some (aI v4), some (aR 17 k5), some (aI v6), some (aI v7), some (aI v8), o9], [], M) := by
  unfold w_Vd_truthOfJoint_J77 at h
  show Gd d w 92 _ (77, [some (aR 13 k0), some (aR 4 k1), o2, some (aI v3), some (aI v4), some (aR 17 k5), some (aI v6), some (aI v7), some (aI v8), o9], [], M)
  obtain ⟨c0, h⟩ := h
  refine gd_s (P := True ∧ True ∧ True ∧ (vp_in v7 (rK M (k5 + 6)).2) ∧ True ∧ True ∧ True ∧ True) (σ1 := (36, [some (aR 13 k0), some (aR 4 k1), o2, some (aI v3), some (aI v4), some (aR 17 k5), some (aI v6), some (aI (rI M (k5 + 6) v7.toNatClampNeg)), some (aI (v8 + (-1 : Int32))), o9], [], M)) tc_92 rfl 7 (fun u => ⟨_, rfl⟩) ⟨trivial, trivial, trivial, c0, trivial, trivial, trivial, trivial⟩ ?_
  exact hK36 k0 k1 v3 v4 k5 v6 (rI M (k5 + 6) v7.toNatClampNeg) (v8 + (-1 : Int32)) o2 o9 h
def w_Vd_truthOfJoint_L36 (M : aM) (post : Int32 → Prop) (R_Vd_truthOf : (Int32 → Prop) → Nat → Nat → Int32 → Int32 → aM → Prop) (R_Vd_truthOfJoint : (Int32 → Prop) → Nat → Nat → Int32 → Int32 → Int32 → aM → Prop) : Nat → Nat → Nat → Int32 → Int32 → Nat → Int32 → Int32 → Int32 → Prop
  | 0, _, _, _, _, _, _, _, _ => False
  | n + 1, k0, k1, v3, v4, k5, v6, v7, v8 => ((v8 ≤ ((0 : Int32))) → post v6) ∧ (¬ (v8 ≤ ((0 : Int32))) → ((v7 = ((-1 : Int32))) → post v6) ∧ (¬ (v7 = ((-1 : Int32))) → R_Vd_truthOf (fun x1 => ((¬ x1 = v3) → ((¬ x1 = ((2 : Int32))) → w_Vd_truthOfJoint_J77 M post R_Vd_truthOf R_Vd_truthOfJoint (w_Vd_truthOfJoint_L36 M post R_Vd_truthOf R_Vd_truthOfJoint n) k0 k1 v3 v4 k5 v6 v7 v8) ∧ (¬ (¬ x1 = ((2 : Int32))) → w_Vd_truthOfJoint_J77 M post R_Vd_truthOf R_Vd_truthOfJoint (w_Vd_truthOfJoint_L36 M post R_Vd_truthOf R_Vd_truthOfJoint n) k0 k1 v3 v4 k5 ((2 : Int32)) v7 v8)) ∧ (¬ (¬ x1 = v3) → post v3)) k0 k1 v7 (v4 + ((1 : Int32))) M))
theorem g_Vd_truthOfJoint_L36 {d w : Nat} (hd : 3 ≤ d) (hw : 77 ≤ w) {M : aM} {post : Int32 → Prop} {R_Vd_truthOf : (Int32 → Prop) → Nat → Nat → Int32 → Int32 → aM → Prop} (hR_Vd_truthOf : ∀ (post : Int32 → Prop) (k0 : Nat) (k1 : Nat) (v2 : Int32) (v3 : Int32) (M : aM), R_Vd_truthOf post k0 k1 v2 v3 M → Gd (d - 1) (w - (6 + 19)) 91 (pIn M post) (0, aEnt 91 [aR 13 k0, aR 4 k1, aI v2, aI v3], [], M)) {R_Vd_truthOfJoint : (Int32 → Prop) → Nat → Nat → Int32 → Int32 → Int32 → aM → Prop} (hR_Vd_truthOfJoint : ∀ (post : Int32 → Prop) (k0 : Nat) (k1 : Nat) (v2 : Int32) (v3 : Int32) (v4 : Int32) (M : aM), R_Vd_truthOfJoint post k0 k1 v2 v3 v4 M → Gd (d - 1) (w - (10 + 19)) 92 (pIn M post) (0, aEnt 92 [aR 13 k0, aR 4 k1, aI v2, aI v3, aI v4], [], M)) : ∀ (n : Nat) (k0 : Nat) (k1 : Nat) (v3 : Int32) (v4 : Int32) (k5 : Nat) (v6 : Int32) (v7 : Int32) (v8 : Int32) (o2 o9 : Option aV), w_Vd_truthOfJoint_L36 M post R_Vd_truthOf R_Vd_truthOfJoint n k0 k1 v3 v4 k5 v6 v7 v8 → Gd d w 92 (pIn M post) (36, [some (aR 13 k0), some (aR 4 k1), o2, some (aI v3), some (aI v4), some (aR 17 k5), some (aI v6), some (aI v7), some (aI v8), o9], [], M) := by
  intro n
  induction n with
  | zero => intro k0 k1 v3 v4 k5 v6 v7 v8 o2 o9 h; exact h.elim
  | succ n ih =>
    intro k0 k1 v3 v4 k5 v6 v7 v8 o2 o9 h
    show Gd d w 92 _ (36, [some (aR 13 k0), some (aR 4 k1), o2, some (aI v3), some (aI v4), some (aR 17 k5), some (aI v6), some (aI v7), some (aI v8), o9], [], M)
    refine gd_s (P := True ∧ True) (σ1 := (38, [some (aR 13 k0), some (aR 4 k1), o2, some (aI v3), some (aI v4), some (aR 17 k5), some (aI v6), some (aI v7), some (aI v8), o9], [aI v8], M)) tc_92 rfl 1 (fun u => ⟨_, rfl⟩) ⟨trivial, trivial⟩ ?_
    refine gd_br (c := v8 ≤ ((0 : Int32))) (st1 := []) tc_92 rfl rfl (fun _ => rfl) ⟨fun hc => ?_, fun hc => ?_⟩
    · have h := h.1 hc
      show Gd d w 92 _ (93, [some (aR 13 k0), some (aR 4 k1), o2, some (aI v3), some (aI v4), some (aR 17 k5), some (aI v6), some (aI v7), some (aI v8), o9], [], M)
      refine gd_s (P := True ∧ True) (σ1 := (95, [some (aR 13 k0), some (aR 4 k1), o2, some (aI v3), some (aI v4), some (aR 17 k5), some (aI v6), some (aI v7), some (aI v8), o9], [aI v6], M)) tc_92 rfl 1 (fun u => ⟨_, rfl⟩) ⟨trivial, trivial⟩ ?_
      exact gd_ret tc_92 rfl rfl trivial (fun _ => rfl) ⟨_, rfl, rfl, h⟩
    · have h := h.2 hc
      show Gd d w 92 _ (41, [some (aR 13 k0), some (aR 4 k1), o2, some (aI v3), some (aI v4), some (aR 17 k5), some (aI v6), some (aI v7), some (aI v8), o9], [], M)
      refine gd_s (P := True ∧ True ∧ True) (σ1 := (44, [some (aR 13 k0), some (aR 4 k1), o2, some (aI v3), some (aI v4), some (aR 17 k5), some (aI v6), some (aI v7), some (aI v8), o9], [aI ((-1 : Int32)), aI v7], M)) tc_92 rfl 2 (fun u => ⟨_, rfl⟩) ⟨trivial, trivial, trivial⟩ ?_
      refine gd_br (c := v7 = ((-1 : Int32))) (st1 := []) tc_92 rfl rfl (fun _ => rfl) ⟨fun hc => ?_, fun hc => ?_⟩
      · have h := h.1 hc
        show Gd d w 92 _ (93, [some (aR 13 k0), some (aR 4 k1), o2, some (aI v3), some (aI v4), some (aR 17 k5), some (aI v6), some (aI v7), some (aI v8), o9], [], M)
        refine gd_s (P := True ∧ True) (σ1 := (95, [some (aR 13 k0), some (aR 4 k1), o2, some (aI v3), some (aI v4), some (aR 17 k5), some (aI v6), some (aI v7), some (aI v8), o9], [aI v6], M)) tc_92 rfl 1 (fun u => ⟨_, rfl⟩) ⟨trivial, trivial⟩ ?_
        exact gd_ret tc_92 rfl rfl trivial (fun _ => rfl) ⟨_, rfl, rfl, h⟩
      · have h := h.2 hc
        show Gd d w 92 _ (47, [some (aR 13 k0), some (aR 4 k1), o2, some (aI v3), some (aI v4), some (aR 17 k5), some (aI v6), some (aI v7), some (aI v8), o9], [], M)
        refine gd_s (P := True ∧ True ∧ True ∧ True ∧ True ∧ True ∧ True) (σ1 := (55, [some (aR 13 k0), some (aR 4 k1), o2, some (aI v3), some (aI v4), some (aR 17 k5), some (aI v6), some (aI v7), some (aI v8), o9], [aI (v4 + ((1 : Int32))), aI v7, aR 4 k1, aR 13 k0], M)) tc_92 rfl 6 (fun u => ⟨_, rfl⟩) ⟨trivial, trivial, trivial, trivial, trivial, trivial, trivial⟩ ?_
        refine gd_callN (ml := 6) (as := [aR 13 k0, aR 4 k1, aI v7, aI (v4 + ((1 : Int32)))]) (rest := []) tc_92 rfl rfl rfl rfl rfl (by omega) (by omega) (Nat.le_of_ble_eq_true rfl) rfl (hR_Vd_truthOf _ k0 k1 v7 (v4 + ((1 : Int32))) _ h) (fun r9 M9 h => ?_)
        obtain ⟨x1, rfl, e9, h⟩ := h
        subst M9
        show Gd d w 92 _ (58, [some (aR 13 k0), some (aR 4 k1), o2, some (aI v3), some (aI v4), some (aR 17 k5), some (aI v6), some (aI v7), some (aI v8), o9], [aI x1], M)
        refine gd_s (P := True ∧ True ∧ True ∧ True) (σ1 := (63, [some (aR 13 k0), some (aR 4 k1), o2, some (aI v3), some (aI v4), some (aR 17 k5), some (aI v6), some (aI v7), some (aI v8), some (aI x1)], [aI v3, aI x1], M)) tc_92 rfl 3 (fun u => ⟨_, rfl⟩) ⟨trivial, trivial, trivial, trivial⟩ ?_
        refine gd_br (c := ¬ x1 = v3) (st1 := []) tc_92 rfl rfl (fun _ => rfl) ⟨fun hc => ?_, fun hc => ?_⟩
        · have h := h.1 hc
          show Gd d w 92 _ (68, [some (aR 13 k0), some (aR 4 k1), o2, some (aI v3), some (aI v4), some (aR 17 k5), some (aI v6), some (aI v7), some (aI v8), some (aI x1)], [], M)
          refine gd_s (P := True ∧ True ∧ True) (σ1 := (71, [some (aR 13 k0), some (aR 4 k1), o2, some (aI v3), some (aI v4), some (aR 17 k5), some (aI v6), some (aI v7), some (aI v8), some (aI x1)], [aI ((2 : Int32)), aI x1], M)) tc_92 rfl 2 (fun u => ⟨_, rfl⟩) ⟨trivial, trivial, trivial⟩ ?_
          refine gd_br (c := ¬ x1 = ((2 : Int32))) (st1 := []) tc_92 rfl rfl (fun _ => rfl) ⟨fun hc => ?_, fun hc => ?_⟩
          · have h := h.1 hc
            exact g_Vd_truthOfJoint_J77 hd hw hR_Vd_truthOf hR_Vd_truthOfJoint ih k0 k1 v3 v4 k5 v6 v7 v8 o2 (some (aI x1)) h
          · have h := h.2 hc
            show Gd d w 92 _ (74, [some (aR 13 k0), some (aR 4 k1), o2, some (aI v3), some (aI v4), some (aR 17 k5), some (aI v6), some (aI v7), some (aI v8), some (aI x1)], [], M)
            refine gd_s (P := True ∧ True ∧ True) (σ1 := (77, [some (aR 13 k0), some (aR 4 k1), o2, some (aI v3), some (aI v4), some (aR 17 k5), some (aI ((2 : Int32))), some (aI v7), some (aI v8), some (aI x1)], [], M)) tc_92 rfl 2 (fun u => ⟨_, rfl⟩) ⟨trivial, trivial, trivial⟩ ?_
            exact g_Vd_truthOfJoint_J77 hd hw hR_Vd_truthOf hR_Vd_truthOfJoint ih k0 k1 v3 v4 k5 ((2 : Int32)) v7 v8 o2 (some (aI x1)) h
        · have h := h.2 hc
          show Gd d w 92 _ (66, [some (aR 13 k0), some (aR 4 k1), o2, some (aI v3), some (aI v4), some (aR 17 k5), some (aI v6), some (aI v7), some (aI v8), some (aI x1)], [], M)
          refine gd_s (P := True ∧ True) (σ1 := (67, [some (aR 13 k0), some (aR 4 k1), o2, some (aI v3), some (aI v4), some (aR 17 k5), some (aI v6), some (aI v7), some (aI v8), some (aI x1)], [aI v3], M)) tc_92 rfl 1 (fun u => ⟨_, rfl⟩) ⟨trivial, trivial⟩ ?_
          exact gd_ret tc_92 rfl rfl trivial (fun _ => rfl) ⟨_, rfl, rfl, h⟩
def w_Vd_truthOfJoint_J16 (M : aM) (post : Int32 → Prop) (R_Vd_truthOf : (Int32 → Prop) → Nat → Nat → Int32 → Int32 → aM → Prop) (R_Vd_truthOfJoint : (Int32 → Prop) → Nat → Nat → Int32 → Int32 → Int32 → aM → Prop) (k0 : Nat) (k1 : Nat) (v2 : Int32) (v3 : Int32) (v4 : Int32) (k5 : Nat) (s0 : Int32) : Prop := (vp_in v2 (rK M (k5 + 5)).2) ∧ (vp_in v2 (rK M (k5 + 4)).2) ∧ (∃ n9, w_Vd_truthOfJoint_L36 M post R_Vd_truthOf R_Vd_truthOfJoint n9 k0 k1 v3 v4 k5 s0 (rI M (k5 + 5) v2.toNatClampNeg) (rI M (k5 + 4) v2.toNatClampNeg))
theorem g_Vd_truthOfJoint_J16 {d w : Nat} (hd : 3 ≤ d) (hw : 77 ≤ w) {M : aM} {post : Int32 → Prop} {R_Vd_truthOf : (Int32 → Prop) → Nat → Nat → Int32 → Int32 → aM → Prop} (hR_Vd_truthOf : ∀ (post : Int32 → Prop) (k0 : Nat) (k1 : Nat) (v2 : Int32) (v3 : Int32) (M : aM), R_Vd_truthOf post k0 k1 v2 v3 M → Gd (d - 1) (w - (6 + 19)) 91 (pIn M post) (0, aEnt 91 [aR 13 k0, aR 4 k1, aI v2, aI v3], [], M)) {R_Vd_truthOfJoint : (Int32 → Prop) → Nat → Nat → Int32 → Int32 → Int32 → aM → Prop} (hR_Vd_truthOfJoint : ∀ (post : Int32 → Prop) (k0 : Nat) (k1 : Nat) (v2 : Int32) (v3 : Int32) (v4 : Int32) (M : aM), R_Vd_truthOfJoint post k0 k1 v2 v3 v4 M → Gd (d - 1) (w - (10 + 19)) 92 (pIn M post) (0, aEnt 92 [aR 13 k0, aR 4 k1, aI v2, aI v3, aI v4], [], M)) (k0 : Nat) (k1 : Nat) (v2 : Int32) (v3 : Int32) (v4 : Int32) (k5 : Nat) (s0 : Int32) (o6 o7 o8 o9 : Option aV) (h : w_Vd_truthOfJoint_J16 M post R_Vd_truthOf R_Vd_truthOfJoint k0 k1 v2 v3 v4 k5 s0) : Gd d w 92 (pIn M post) (16, [some (aR 13 k0), some (aR 4 k1), some (aI v2), some (aI v3), some (aI v4), some (aR 17 k5), o6, o7, o8, o9], [aI s0], M) := by
  unfold w_Vd_truthOfJoint_J16 at h
  show Gd d w 92 _ (16, [some (aR 13 k0), some (aR 4 k1), some (aI v2), some (aI v3), some (aI v4), some (aR 17 k5), o6, o7, o8, o9], [aI s0], M)
  obtain ⟨c0, c1, h⟩ := h
  refine gd_s (P := True ∧ True ∧ True ∧ True ∧ (vp_in v2 (rK M (k5 + 5)).2) ∧ True ∧ True ∧ True ∧ True ∧ (vp_in v2 (rK M (k5 + 4)).2) ∧ True ∧ True) (σ1 := (36, [some (aR 13 k0), some (aR 4 k1), some (aI v2), some (aI v3), some (aI v4), some (aR 17 k5), some (aI s0), some (aI (rI M (k5 + 5) v2.toNatClampNeg)), some (aI (rI M (k5 + 4) v2.toNatClampNeg)), o9], [], M)) tc_92 rfl 11 (fun u => ⟨_, rfl⟩) ⟨trivial, trivial, trivial, trivial, c0, trivial, trivial, trivial, trivial, c1, trivial, trivial⟩ ?_
  obtain ⟨n9, h⟩ := h
  exact g_Vd_truthOfJoint_L36 hd hw hR_Vd_truthOf hR_Vd_truthOfJoint n9 k0 k1 v3 v4 k5 s0 (rI M (k5 + 5) v2.toNatClampNeg) (rI M (k5 + 4) v2.toNatClampNeg) (some (aI v2)) o9 h
/-- PolicyJudge$Verdict.truthOfJoint(LPolicyJudge$Text;[IIII)I -/
def w_Vd_truthOfJoint_r (R_Vd_truthOf : (Int32 → Prop) → Nat → Nat → Int32 → Int32 → aM → Prop) (R_Vd_truthOfJoint : (Int32 → Prop) → Nat → Nat → Int32 → Int32 → Int32 → aM → Prop) (post : Int32 → Prop) (k0 : Nat) (k1 : Nat) (v2 : Int32) (v3 : Int32) (v4 : Int32) (M : aM) : Prop := ((¬ v3 = ((1 : Int32))) → w_Vd_truthOfJoint_J16 M post R_Vd_truthOf R_Vd_truthOfJoint k0 k1 v2 v3 v4 (k0 + 24) ((1 : Int32))) ∧ (¬ (¬ v3 = ((1 : Int32))) → w_Vd_truthOfJoint_J16 M post R_Vd_truthOf R_Vd_truthOfJoint k0 k1 v2 v3 v4 (k0 + 24) ((0 : Int32)))
theorem g_Vd_truthOfJoint_r {d w : Nat} (hd : 3 ≤ d) (hw : 77 ≤ w) {R_Vd_truthOf : (Int32 → Prop) → Nat → Nat → Int32 → Int32 → aM → Prop} (hR_Vd_truthOf : ∀ (post : Int32 → Prop) (k0 : Nat) (k1 : Nat) (v2 : Int32) (v3 : Int32) (M : aM), R_Vd_truthOf post k0 k1 v2 v3 M → Gd (d - 1) (w - (6 + 19)) 91 (pIn M post) (0, aEnt 91 [aR 13 k0, aR 4 k1, aI v2, aI v3], [], M)) {R_Vd_truthOfJoint : (Int32 → Prop) → Nat → Nat → Int32 → Int32 → Int32 → aM → Prop} (hR_Vd_truthOfJoint : ∀ (post : Int32 → Prop) (k0 : Nat) (k1 : Nat) (v2 : Int32) (v3 : Int32) (v4 : Int32) (M : aM), R_Vd_truthOfJoint post k0 k1 v2 v3 v4 M → Gd (d - 1) (w - (10 + 19)) 92 (pIn M post) (0, aEnt 92 [aR 13 k0, aR 4 k1, aI v2, aI v3, aI v4], [], M)) {post : Int32 → Prop} {k0 : Nat} {k1 : Nat} {v2 : Int32} {v3 : Int32} {v4 : Int32} {M : aM} (h : w_Vd_truthOfJoint_r R_Vd_truthOf R_Vd_truthOfJoint post k0 k1 v2 v3 v4 M) : Gd d w 92 (pIn M post) (0, aEnt 92 [aR 13 k0, aR 4 k1, aI v2, aI v3, aI v4], [], M) := by
  unfold w_Vd_truthOfJoint_r at h
  show Gd d w 92 _ (0, [some (aR 13 k0), some (aR 4 k1), some (aI v2), some (aI v3), some (aI v4), none, none, none, none, none], [], M)
  refine gd_s (P := True ∧ True ∧ True ∧ True ∧ True ∧ True) (σ1 := (8, [some (aR 13 k0), some (aR 4 k1), some (aI v2), some (aI v3), some (aI v4), some (aR 17 (k0 + 24)), none, none, none, none], [aI ((1 : Int32)), aI v3], M)) tc_92 rfl 5 (fun u => ⟨_, rfl⟩) ⟨trivial, trivial, trivial, trivial, trivial, trivial⟩ ?_
  refine gd_br (c := ¬ v3 = ((1 : Int32))) (st1 := []) tc_92 rfl rfl (fun _ => rfl) ⟨fun hc => ?_, fun hc => ?_⟩
  · have h := h.1 hc
    show Gd d w 92 _ (15, [some (aR 13 k0), some (aR 4 k1), some (aI v2), some (aI v3), some (aI v4), some (aR 17 (k0 + 24)), none, none, none, none], [], M)
    refine gd_s (P := True ∧ True) (σ1 := (16, [some (aR 13 k0), some (aR 4 k1), some (aI v2), some (aI v3), some (aI v4), some (aR 17 (k0 + 24)), none, none, none, none], [aI ((1 : Int32))], M)) tc_92 rfl 1 (fun u => ⟨_, rfl⟩) ⟨trivial, trivial⟩ ?_
    exact g_Vd_truthOfJoint_J16 hd hw hR_Vd_truthOf hR_Vd_truthOfJoint k0 k1 v2 v3 v4 (k0 + 24) ((1 : Int32)) none none none none h
  · have h := h.2 hc
    show Gd d w 92 _ (11, [some (aR 13 k0), some (aR 4 k1), some (aI v2), some (aI v3), some (aI v4), some (aR 17 (k0 + 24)), none, none, none, none], [], M)
    refine gd_s (P := True ∧ True ∧ True) (σ1 := (16, [some (aR 13 k0), some (aR 4 k1), some (aI v2), some (aI v3), some (aI v4), some (aR 17 (k0 + 24)), none, none, none, none], [aI ((0 : Int32))], M)) tc_92 rfl 2 (fun u => ⟨_, rfl⟩) ⟨trivial, trivial, trivial⟩ ?_
    exact g_Vd_truthOfJoint_J16 hd hw hR_Vd_truthOf hR_Vd_truthOfJoint k0 k1 v2 v3 v4 (k0 + 24) ((0 : Int32)) none none none none h
theorem tc_94 : tC 94 = c94 := rfl
/-- PolicyJudge$Verdict.truthIf(Z)I -/
def w_Vd_truthIf (post : Int32 → Prop) (v0 : Int32) (M : aM) : Prop := ((v0 = ((0 : Int32))) → post ((0 : Int32))) ∧ (¬ (v0 = ((0 : Int32))) → post ((1 : Int32)))
theorem g_Vd_truthIf {d w : Nat} (hd : 0 ≤ d) (hw : 0 ≤ w) {post : Int32 → Prop} {v0 : Int32} {M : aM} (h : w_Vd_truthIf post v0 M) : Gd d w 94 (pIn M post) (0, aEnt 94 [aI v0], [], M) := by
  unfold w_Vd_truthIf at h
  show Gd d w 94 _ (0, [some (aI v0)], [], M)
  refine gd_s (P := True ∧ True) (σ1 := (1, [some (aI v0)], [aI v0], M)) tc_94 rfl 1 (fun u => ⟨_, rfl⟩) ⟨trivial, trivial⟩ ?_
  refine gd_br (c := v0 = ((0 : Int32))) (st1 := []) tc_94 rfl rfl (fun _ => rfl) ⟨fun hc => ?_, fun hc => ?_⟩
  · have h := h.1 hc
    show Gd d w 94 _ (8, [some (aI v0)], [], M)
    refine gd_s (P := True ∧ True) (σ1 := (9, [some (aI v0)], [aI ((0 : Int32))], M)) tc_94 rfl 1 (fun u => ⟨_, rfl⟩) ⟨trivial, trivial⟩ ?_
    exact gd_ret tc_94 rfl rfl trivial (fun _ => rfl) ⟨_, rfl, rfl, h⟩
  · have h := h.2 hc
    show Gd d w 94 _ (4, [some (aI v0)], [], M)
    refine gd_s (P := True ∧ True ∧ True) (σ1 := (9, [some (aI v0)], [aI ((1 : Int32))], M)) tc_94 rfl 2 (fun u => ⟨_, rfl⟩) ⟨trivial, trivial, trivial⟩ ?_
    exact gd_ret tc_94 rfl rfl trivial (fun _ => rfl) ⟨_, rfl, rfl, h⟩
theorem tc_93 : tC 93 = c93 := rfl
def w_Vd_truthOfTest_J148 (M : aM) (post : Int32 → Prop) (s0 : Int32) : Prop := w_Vd_truthIf (fun x1 => post x1) s0 M
theorem g_Vd_truthOfTest_J148 {d w : Nat} (hd : 1 ≤ d) (hw : 20 ≤ w) {M : aM} {post : Int32 → Prop} (s0 : Int32) (o0 o1 o2 o3 o4 o5 o6 o7 o8 : Option aV) (h : w_Vd_truthOfTest_J148 M post s0) : Gd d w 93 (pIn M post) (148, [o0, o1, o2, o3, o4, o5, o6, o7, o8], [aI s0], M) := by
  unfold w_Vd_truthOfTest_J148 at h
  show Gd d w 93 _ (148, [o0, o1, o2, o3, o4, o5, o6, o7, o8], [aI s0], M)
  refine gd_callN (ml := 1) (as := [aI s0]) (rest := []) tc_93 rfl rfl rfl rfl rfl (by omega) (by omega) (Nat.le_of_ble_eq_true rfl) rfl (g_Vd_truthIf (by omega) (by omega) h) (fun r9 M9 h => ?_)
  obtain ⟨x1, rfl, e9, h⟩ := h
  subst M9
  show Gd d w 93 _ (151, [o0, o1, o2, o3, o4, o5, o6, o7, o8], [aI x1], M)
  exact gd_ret tc_93 rfl rfl trivial (fun _ => rfl) ⟨_, rfl, rfl, h⟩
def w_Vd_truthOfTest_J174 (M : aM) (post : Int32 → Prop) (s0 : Int32) : Prop := w_Vd_truthIf (fun x1 => post x1) s0 M
theorem g_Vd_truthOfTest_J174 {d w : Nat} (hd : 1 ≤ d) (hw : 20 ≤ w) {M : aM} {post : Int32 → Prop} (s0 : Int32) (o0 o1 o2 o3 o4 o5 o6 o7 o8 : Option aV) (h : w_Vd_truthOfTest_J174 M post s0) : Gd d w 93 (pIn M post) (174, [o0, o1, o2, o3, o4, o5, o6, o7, o8], [aI s0], M) := by
  unfold w_Vd_truthOfTest_J174 at h
  show Gd d w 93 _ (174, [o0, o1, o2, o3, o4, o5, o6, o7, o8], [aI s0], M)
  refine gd_callN (ml := 1) (as := [aI s0]) (rest := []) tc_93 rfl rfl rfl rfl rfl (by omega) (by omega) (Nat.le_of_ble_eq_true rfl) rfl (g_Vd_truthIf (by omega) (by omega) h) (fun r9 M9 h => ?_)
  obtain ⟨x1, rfl, e9, h⟩ := h
  subst M9
  show Gd d w 93 _ (177, [o0, o1, o2, o3, o4, o5, o6, o7, o8], [aI x1], M)
  exact gd_ret tc_93 rfl rfl trivial (fun _ => rfl) ⟨_, rfl, rfl, h⟩
def w_Vd_truthOfTest_J202 (M : aM) (post : Int32 → Prop) (s0 : Int32) : Prop := w_Vd_truthIf (fun x1 => post x1) s0 M
theorem g_Vd_truthOfTest_J202 {d w : Nat} (hd : 1 ≤ d) (hw : 20 ≤ w) {M : aM} {post : Int32 → Prop} (s0 : Int32) (o0 o1 o2 o3 o4 o5 o6 o7 o8 : Option aV) (h : w_Vd_truthOfTest_J202 M post s0) : Gd d w 93 (pIn M post) (202, [o0, o1, o2, o3, o4, o5, o6, o7, o8], [aI s0], M) := by
  unfold w_Vd_truthOfTest_J202 at h
  show Gd d w 93 _ (202, [o0, o1, o2, o3, o4, o5, o6, o7, o8], [aI s0], M)
  refine gd_callN (ml := 1) (as := [aI s0]) (rest := []) tc_93 rfl rfl rfl rfl rfl (by omega) (by omega) (Nat.le_of_ble_eq_true rfl) rfl (g_Vd_truthIf (by omega) (by omega) h) (fun r9 M9 h => ?_)
  obtain ⟨x1, rfl, e9, h⟩ := h
  subst M9
  show Gd d w 93 _ (205, [o0, o1, o2, o3, o4, o5, o6, o7, o8], [aI x1], M)
  exact gd_ret tc_93 rfl rfl trivial (fun _ => rfl) ⟨_, rfl, rfl, h⟩
def w_Vd_truthOfTest_J259 (M : aM) (post : Int32 → Prop) (s0 : Int32) : Prop := w_Vd_truthIf (fun x1 => post x1) s0 M
theorem g_Vd_truthOfTest_J259 {d w : Nat} (hd : 1 ≤ d) (hw : 20 ≤ w) {M : aM} {post : Int32 → Prop} (s0 : Int32) (o0 o1 o2 o3 o4 o5 o6 o7 o8 : Option aV) (h : w_Vd_truthOfTest_J259 M post s0) : Gd d w 93 (pIn M post) (259, [o0, o1, o2, o3, o4, o5, o6, o7, o8], [aI s0], M) := by
  unfold w_Vd_truthOfTest_J259 at h
  show Gd d w 93 _ (259, [o0, o1, o2, o3, o4, o5, o6, o7, o8], [aI s0], M)
  refine gd_callN (ml := 1) (as := [aI s0]) (rest := []) tc_93 rfl rfl rfl rfl rfl (by omega) (by omega) (Nat.le_of_ble_eq_true rfl) rfl (g_Vd_truthIf (by omega) (by omega) h) (fun r9 M9 h => ?_)
  obtain ⟨x1, rfl, e9, h⟩ := h
  subst M9
  show Gd d w 93 _ (262, [o0, o1, o2, o3, o4, o5, o6, o7, o8], [aI x1], M)
  exact gd_ret tc_93 rfl rfl trivial (fun _ => rfl) ⟨_, rfl, rfl, h⟩
def w_Vd_truthOfTest_J228 (M : aM) (post : Int32 → Prop) (k1 : Nat) (v5 : Int32) (v6 : Int32) (v7 : Int32) (s0 : Int32) : Prop := ((¬ v7 = ((0 : Int32))) → post ((2 : Int32))) ∧ (¬ (¬ v7 = ((0 : Int32))) → ((s0 = ((0 : Int32))) → (vp_in v5 (rK M k1).2) ∧ ((((v6 &&& (rI M k1 v5.toNatClampNeg)) = ((0 : Int32))) → w_Vd_truthOfTest_J259 M post ((0 : Int32))) ∧ (¬ ((v6 &&& (rI M k1 v5.toNatClampNeg)) = ((0 : Int32))) → w_Vd_truthOfTest_J259 M post ((1 : Int32))))) ∧ (¬ (s0 = ((0 : Int32))) → post ((2 : Int32))))
theorem g_Vd_truthOfTest_J228 {d w : Nat} (hd : 1 ≤ d) (hw : 20 ≤ w) {M : aM} {post : Int32 → Prop} (k1 : Nat) (v5 : Int32) (v6 : Int32) (v7 : Int32) (s0 : Int32) (o0 o2 o3 o4 o8 : Option aV) (h : w_Vd_truthOfTest_J228 M post k1 v5 v6 v7 s0) : Gd d w 93 (pIn M post) (228, [o0, some (aR 4 k1), o2, o3, o4, some (aI v5), some (aI v6), some (aI v7), o8], [aI s0], M) := by
  unfold w_Vd_truthOfTest_J228 at h
  show Gd d w 93 _ (228, [o0, some (aR 4 k1), o2, o3, o4, some (aI v5), some (aI v6), some (aI v7), o8], [aI s0], M)
  refine gd_s (P := True ∧ True ∧ True) (σ1 := (232, [o0, some (aR 4 k1), o2, o3, o4, some (aI v5), some (aI v6), some (aI v7), some (aI s0)], [aI v7], M)) tc_93 rfl 2 (fun u => ⟨_, rfl⟩) ⟨trivial, trivial, trivial⟩ ?_
  refine gd_br (c := ¬ v7 = ((0 : Int32))) (st1 := []) tc_93 rfl rfl (fun _ => rfl) ⟨fun hc => ?_, fun hc => ?_⟩
  · have h := h.1 hc
    show Gd d w 93 _ (240, [o0, some (aR 4 k1), o2, o3, o4, some (aI v5), some (aI v6), some (aI v7), some (aI s0)], [], M)
    refine gd_s (P := True ∧ True ∧ True) (σ1 := (262, [o0, some (aR 4 k1), o2, o3, o4, some (aI v5), some (aI v6), some (aI v7), some (aI s0)], [aI ((2 : Int32))], M)) tc_93 rfl 2 (fun u => ⟨_, rfl⟩) ⟨trivial, trivial, trivial⟩ ?_
    exact gd_ret tc_93 rfl rfl trivial (fun _ => rfl) ⟨_, rfl, rfl, h⟩
  · have h := h.2 hc
    show Gd d w 93 _ (235, [o0, some (aR 4 k1), o2, o3, o4, some (aI v5), some (aI v6), some (aI v7), some (aI s0)], [], M)
    refine gd_s (P := True ∧ True) (σ1 := (237, [o0, some (aR 4 k1), o2, o3, o4, some (aI v5), some (aI v6), some (aI v7), some (aI s0)], [aI s0], M)) tc_93 rfl 1 (fun u => ⟨_, rfl⟩) ⟨trivial, trivial⟩ ?_
    refine gd_br (c := s0 = ((0 : Int32))) (st1 := []) tc_93 rfl rfl (fun _ => rfl) ⟨fun hc => ?_, fun hc => ?_⟩
    · have h := h.1 hc
      show Gd d w 93 _ (244, [o0, some (aR 4 k1), o2, o3, o4, some (aI v5), some (aI v6), some (aI v7), some (aI s0)], [], M)
      obtain ⟨c0, h⟩ := h
      refine gd_s (P := True ∧ True ∧ True ∧ (vp_in v5 (rK M k1).2) ∧ True ∧ True) (σ1 := (251, [o0, some (aR 4 k1), o2, o3, o4, some (aI v5), some (aI v6), some (aI v7), some (aI s0)], [aI (v6 &&& (rI M k1 v5.toNatClampNeg))], M)) tc_93 rfl 5 (fun u => ⟨_, rfl⟩) ⟨trivial, trivial, trivial, c0, trivial, trivial⟩ ?_
      refine gd_br (c := (v6 &&& (rI M k1 v5.toNatClampNeg)) = ((0 : Int32))) (st1 := []) tc_93 rfl rfl (fun _ => rfl) ⟨fun hc => ?_, fun hc => ?_⟩
      · have h := h.1 hc
        show Gd d w 93 _ (258, [o0, some (aR 4 k1), o2, o3, o4, some (aI v5), some (aI v6), some (aI v7), some (aI s0)], [], M)
        refine gd_s (P := True ∧ True) (σ1 := (259, [o0, some (aR 4 k1), o2, o3, o4, some (aI v5), some (aI v6), some (aI v7), some (aI s0)], [aI ((0 : Int32))], M)) tc_93 rfl 1 (fun u => ⟨_, rfl⟩) ⟨trivial, trivial⟩ ?_
        exact g_Vd_truthOfTest_J259 hd hw ((0 : Int32)) o0 (some (aR 4 k1)) o2 o3 o4 (some (aI v5)) (some (aI v6)) (some (aI v7)) (some (aI s0)) h
      · have h := h.2 hc
        show Gd d w 93 _ (254, [o0, some (aR 4 k1), o2, o3, o4, some (aI v5), some (aI v6), some (aI v7), some (aI s0)], [], M)
        refine gd_s (P := True ∧ True ∧ True) (σ1 := (259, [o0, some (aR 4 k1), o2, o3, o4, some (aI v5), some (aI v6), some (aI v7), some (aI s0)], [aI ((1 : Int32))], M)) tc_93 rfl 2 (fun u => ⟨_, rfl⟩) ⟨trivial, trivial, trivial⟩ ?_
        exact g_Vd_truthOfTest_J259 hd hw ((1 : Int32)) o0 (some (aR 4 k1)) o2 o3 o4 (some (aI v5)) (some (aI v6)) (some (aI v7)) (some (aI s0)) h
    · have h := h.2 hc
      show Gd d w 93 _ (240, [o0, some (aR 4 k1), o2, o3, o4, some (aI v5), some (aI v6), some (aI v7), some (aI s0)], [], M)
      refine gd_s (P := True ∧ True ∧ True) (σ1 := (262, [o0, some (aR 4 k1), o2, o3, o4, some (aI v5), some (aI v6), some (aI v7), some (aI s0)], [aI ((2 : Int32))], M)) tc_93 rfl 2 (fun u => ⟨_, rfl⟩) ⟨trivial, trivial, trivial⟩ ?_
      exact gd_ret tc_93 rfl rfl trivial (fun _ => rfl) ⟨_, rfl, rfl, h⟩
def w_Vd_truthOfTest_J227 (M : aM) (post : Int32 → Prop) (k1 : Nat) (v5 : Int32) (v6 : Int32) (v7 : Int32) : Prop := w_Vd_truthOfTest_J228 M post k1 v5 v6 v7 ((0 : Int32))
theorem g_Vd_truthOfTest_J227 {d w : Nat} (hd : 1 ≤ d) (hw : 20 ≤ w) {M : aM} {post : Int32 → Prop} (k1 : Nat) (v5 : Int32) (v6 : Int32) (v7 : Int32) (o0 o2 o3 o4 o8 : Option aV) (h : w_Vd_truthOfTest_J227 M post k1 v5 v6 v7) : Gd d w 93 (pIn M post) (227, [o0, some (aR 4 k1), o2, o3, o4, some (aI v5), some (aI v6), some (aI v7), o8], [], M) := by
  unfold w_Vd_truthOfTest_J227 at h
  show Gd d w 93 _ (227, [o0, some (aR 4 k1), o2, o3, o4, some (aI v5), some (aI v6), some (aI v7), o8], [], M)
  refine gd_s (P := True ∧ True) (σ1 := (228, [o0, some (aR 4 k1), o2, o3, o4, some (aI v5), some (aI v6), some (aI v7), o8], [aI ((0 : Int32))], M)) tc_93 rfl 1 (fun u => ⟨_, rfl⟩) ⟨trivial, trivial⟩ ?_
  exact g_Vd_truthOfTest_J228 hd hw k1 v5 v6 v7 ((0 : Int32)) o0 o2 o3 o4 o8 h
def w_Vd_truthOfTest_J347 (M : aM) (post : Int32 → Prop) (s0 : Int32) : Prop := w_Vd_truthIf (fun x1 => post x1) s0 M
theorem g_Vd_truthOfTest_J347 {d w : Nat} (hd : 1 ≤ d) (hw : 20 ≤ w) {M : aM} {post : Int32 → Prop} (s0 : Int32) (o0 o1 o2 o3 o4 o5 o6 o7 o8 : Option aV) (h : w_Vd_truthOfTest_J347 M post s0) : Gd d w 93 (pIn M post) (347, [o0, o1, o2, o3, o4, o5, o6, o7, o8], [aI s0], M) := by
  unfold w_Vd_truthOfTest_J347 at h
  show Gd d w 93 _ (347, [o0, o1, o2, o3, o4, o5, o6, o7, o8], [aI s0], M)
  refine gd_callN (ml := 1) (as := [aI s0]) (rest := []) tc_93 rfl rfl rfl rfl rfl (by omega) (by omega) (Nat.le_of_ble_eq_true rfl) rfl (g_Vd_truthIf (by omega) (by omega) h) (fun r9 M9 h => ?_)
  obtain ⟨x1, rfl, e9, h⟩ := h
  subst M9
  show Gd d w 93 _ (350, [o0, o1, o2, o3, o4, o5, o6, o7, o8], [aI x1], M)
  exact gd_ret tc_93 rfl rfl trivial (fun _ => rfl) ⟨_, rfl, rfl, h⟩
def w_Vd_truthOfTest_J278 (M : aM) (post : Int32 → Prop) (s0 : Int32) : Prop := w_Vd_truthIf (fun x1 => post x1) s0 M
theorem g_Vd_truthOfTest_J278 {d w : Nat} (hd : 1 ≤ d) (hw : 20 ≤ w) {M : aM} {post : Int32 → Prop} (s0 : Int32) (o0 o1 o2 o3 o4 o5 o6 o7 o8 : Option aV) (h : w_Vd_truthOfTest_J278 M post s0) : Gd d w 93 (pIn M post) (278, [o0, o1, o2, o3, o4, o5, o6, o7, o8], [aI s0], M) := by
  unfold w_Vd_truthOfTest_J278 at h
  show Gd d w 93 _ (278, [o0, o1, o2, o3, o4, o5, o6, o7, o8], [aI s0], M)
  refine gd_callN (ml := 1) (as := [aI s0]) (rest := []) tc_93 rfl rfl rfl rfl rfl (by omega) (by omega) (Nat.le_of_ble_eq_true rfl) rfl (g_Vd_truthIf (by omega) (by omega) h) (fun r9 M9 h => ?_)
  obtain ⟨x1, rfl, e9, h⟩ := h
  subst M9
  show Gd d w 93 _ (281, [o0, o1, o2, o3, o4, o5, o6, o7, o8], [aI x1], M)
  exact gd_ret tc_93 rfl rfl trivial (fun _ => rfl) ⟨_, rfl, rfl, h⟩
def w_Vd_truthOfTest_J297 (M : aM) (post : Int32 → Prop) (s0 : Int32) : Prop := w_Vd_truthIf (fun x1 => post x1) s0 M
theorem g_Vd_truthOfTest_J297 {d w : Nat} (hd : 1 ≤ d) (hw : 20 ≤ w) {M : aM} {post : Int32 → Prop} (s0 : Int32) (o0 o1 o2 o3 o4 o5 o6 o7 o8 : Option aV) (h : w_Vd_truthOfTest_J297 M post s0) : Gd d w 93 (pIn M post) (297, [o0, o1, o2, o3, o4, o5, o6, o7, o8], [aI s0], M) := by
  unfold w_Vd_truthOfTest_J297 at h
  show Gd d w 93 _ (297, [o0, o1, o2, o3, o4, o5, o6, o7, o8], [aI s0], M)
  refine gd_callN (ml := 1) (as := [aI s0]) (rest := []) tc_93 rfl rfl rfl rfl rfl (by omega) (by omega) (Nat.le_of_ble_eq_true rfl) rfl (g_Vd_truthIf (by omega) (by omega) h) (fun r9 M9 h => ?_)
  obtain ⟨x1, rfl, e9, h⟩ := h
  subst M9
  show Gd d w 93 _ (300, [o0, o1, o2, o3, o4, o5, o6, o7, o8], [aI x1], M)
  exact gd_ret tc_93 rfl rfl trivial (fun _ => rfl) ⟨_, rfl, rfl, h⟩
def w_Vd_truthOfTest_J316 (M : aM) (post : Int32 → Prop) (s0 : Int32) : Prop := w_Vd_truthIf (fun x1 => post x1) s0 M
theorem g_Vd_truthOfTest_J316 {d w : Nat} (hd : 1 ≤ d) (hw : 20 ≤ w) {M : aM} {post : Int32 → Prop} (s0 : Int32) (o0 o1 o2 o3 o4 o5 o6 o7 o8 : Option aV) (h : w_Vd_truthOfTest_J316 M post s0) : Gd d w 93 (pIn M post) (316, [o0, o1, o2, o3, o4, o5, o6, o7, o8], [aI s0], M) := by
  unfold w_Vd_truthOfTest_J316 at h
  show Gd d w 93 _ (316, [o0, o1, o2, o3, o4, o5, o6, o7, o8], [aI s0], M)
  refine gd_callN (ml := 1) (as := [aI s0]) (rest := []) tc_93 rfl rfl rfl rfl rfl (by omega) (by omega) (Nat.le_of_ble_eq_true rfl) rfl (g_Vd_truthIf (by omega) (by omega) h) (fun r9 M9 h => ?_)
  obtain ⟨x1, rfl, e9, h⟩ := h
  subst M9
  show Gd d w 93 _ (319, [o0, o1, o2, o3, o4, o5, o6, o7, o8], [aI x1], M)
  exact gd_ret tc_93 rfl rfl trivial (fun _ => rfl) ⟨_, rfl, rfl, h⟩
def w_Vd_truthOfTest_J361 (M : aM) (post : Int32 → Prop) (s0 : Int32) : Prop := w_Vd_truthIf (fun x1 => post x1) s0 M
theorem g_Vd_truthOfTest_J361 {d w : Nat} (hd : 1 ≤ d) (hw : 20 ≤ w) {M : aM} {post : Int32 → Prop} (s0 : Int32) (o0 o1 o2 o3 o4 o5 o6 o7 o8 : Option aV) (h : w_Vd_truthOfTest_J361 M post s0) : Gd d w 93 (pIn M post) (361, [o0, o1, o2, o3, o4, o5, o6, o7, o8], [aI s0], M) := by
  unfold w_Vd_truthOfTest_J361 at h
  show Gd d w 93 _ (361, [o0, o1, o2, o3, o4, o5, o6, o7, o8], [aI s0], M)
  refine gd_callN (ml := 1) (as := [aI s0]) (rest := []) tc_93 rfl rfl rfl rfl rfl (by omega) (by omega) (Nat.le_of_ble_eq_true rfl) rfl (g_Vd_truthIf (by omega) (by omega) h) (fun r9 M9 h => ?_)
  obtain ⟨x1, rfl, e9, h⟩ := h
  subst M9
  show Gd d w 93 _ (364, [o0, o1, o2, o3, o4, o5, o6, o7, o8], [aI x1], M)
  exact gd_ret tc_93 rfl rfl trivial (fun _ => rfl) ⟨_, rfl, rfl, h⟩
def w_Vd_truthOfTest_J42 (M : aM) (post : Int32 → Prop) (k0 : Nat) (k1 : Nat) (k2 : Nat) (v3 : Int32) (v5 : Int32) (v6 : Int32) (s0 : Int32) : Prop := (vp_in v3 (rK M (k2 + 1)).2) ∧ ((((rI M (k2 + 1) v3.toNatClampNeg) = (16 : Int32)) → ((s0 = ((0 : Int32))) → ((((v6 >>> (v5 &&& 31)) &&& ((1 : Int32))) = ((0 : Int32))) → w_Vd_truthOfTest_J148 M post ((0 : Int32))) ∧ (¬ (((v6 >>> (v5 &&& 31)) &&& ((1 : Int32))) = ((0 : Int32))) → w_Vd_truthOfTest_J148 M post ((1 : Int32)))) ∧ (¬ (s0 = ((0 : Int32))) → post ((2 : Int32)))) ∧ (¬ ((rI M (k2 + 1) v3.toNatClampNeg) = (16 : Int32)) → (((rI M (k2 + 1) v3.toNatClampNeg) = (17 : Int32)) → ((s0 = ((0 : Int32))) → (((v6 &&& v5) = ((0 : Int32))) → w_Vd_truthOfTest_J174 M post ((0 : Int32))) ∧ (¬ ((v6 &&& v5) = ((0 : Int32))) → w_Vd_truthOfTest_J174 M post ((1 : Int32)))) ∧ (¬ (s0 = ((0 : Int32))) → post ((2 : Int32)))) ∧ (¬ ((rI M (k2 + 1) v3.toNatClampNeg) = (17 : Int32)) → (((rI M (k2 + 1) v3.toNatClampNeg) = (18 : Int32)) → ((s0 = ((0 : Int32))) → ((¬ (v6 &&& (v5 ^^^ ((-1 : Int32)))) = ((0 : Int32))) → w_Vd_truthOfTest_J202 M post ((0 : Int32))) ∧ (¬ (¬ (v6 &&& (v5 ^^^ ((-1 : Int32)))) = ((0 : Int32))) → w_Vd_truthOfTest_J202 M post ((1 : Int32)))) ∧ (¬ (s0 = ((0 : Int32))) → post ((2 : Int32)))) ∧ (¬ ((rI M (k2 + 1) v3.toNatClampNeg) = (18 : Int32)) → (((rI M (k2 + 1) v3.toNatClampNeg) = (19 : Int32)) → (vp_in v5 (rK M k1).2) ∧ (((¬ (rI M k1 v5.toNatClampNeg) = ((0 : Int32))) → w_Vd_truthOfTest_J227 M post k1 v5 v6 s0) ∧ (¬ (¬ (rI M k1 v5.toNatClampNeg) = ((0 : Int32))) → (vp_in v5 (rK M (k0 + 6)).2) ∧ ((((rI M (k0 + 6) v5.toNatClampNeg) = ((0 : Int32))) → w_Vd_truthOfTest_J227 M post k1 v5 v6 s0) ∧ (¬ ((rI M (k0 + 6) v5.toNatClampNeg) = ((0 : Int32))) → w_Vd_truthOfTest_J228 M post k1 v5 v6 s0 ((1 : Int32))))))) ∧ (¬ ((rI M (k2 + 1) v3.toNatClampNeg) = (19 : Int32)) → (((rI M (k2 + 1) v3.toNatClampNeg) = (20 : Int32)) → w_In_bitCount (fun x1 => ((x1 = ((1 : Int32))) → ((¬ v6 = (((1 : Int32)) <<< (v5 &&& 31))) → w_Vd_truthOfTest_J347 M post ((0 : Int32))) ∧ (¬ (¬ v6 = (((1 : Int32)) <<< (v5 &&& 31))) → w_Vd_truthOfTest_J347 M post ((1 : Int32)))) ∧ (¬ (x1 = ((1 : Int32))) → post ((2 : Int32)))) v6 M) ∧ (¬ ((rI M (k2 + 1) v3.toNatClampNeg) = (20 : Int32)) → (((rI M (k2 + 1) v3.toNatClampNeg) = (60 : Int32)) → w_In_bitCount (fun x2 => ((v5 ≤ x2) → w_Vd_truthOfTest_J278 M post ((0 : Int32))) ∧ (¬ (v5 ≤ x2) → w_Vd_truthOfTest_J278 M post ((1 : Int32)))) v6 M) ∧ (¬ ((rI M (k2 + 1) v3.toNatClampNeg) = (60 : Int32)) → (((rI M (k2 + 1) v3.toNatClampNeg) = (61 : Int32)) → w_In_bitCount (fun x3 => ((¬ x3 = v5) → w_Vd_truthOfTest_J297 M post ((0 : Int32))) ∧ (¬ (¬ x3 = v5) → w_Vd_truthOfTest_J297 M post ((1 : Int32)))) v6 M) ∧ (¬ ((rI M (k2 + 1) v3.toNatClampNeg) = (61 : Int32)) → (((rI M (k2 + 1) v3.toNatClampNeg) = (62 : Int32)) → w_In_bitCount (fun x4 => ((x4 ≤ v5) → w_Vd_truthOfTest_J316 M post ((0 : Int32))) ∧ (¬ (x4 ≤ v5) → w_Vd_truthOfTest_J316 M post ((1 : Int32)))) v6 M) ∧ (¬ ((rI M (k2 + 1) v3.toNatClampNeg) = (62 : Int32)) → ((¬ v6 = ((0 : Int32))) → w_Vd_truthOfTest_J361 M post ((0 : Int32))) ∧ (¬ (¬ v6 = ((0 : Int32))) → w_Vd_truthOfTest_J361 M post ((1 : Int32))))))))))))
theorem g_Vd_truthOfTest_J42 {d w : Nat} (hd : 1 ≤ d) (hw : 20 ≤ w) {M : aM} {post : Int32 → Prop} (k0 : Nat) (k1 : Nat) (k2 : Nat) (v3 : Int32) (v5 : Int32) (v6 : Int32) (s0 : Int32) (o4 o7 o8 : Option aV) (h : w_Vd_truthOfTest_J42 M post k0 k1 k2 v3 v5 v6 s0) : Gd d w 93 (pIn M post) (42, [some (aR 14 k0), some (aR 4 k1), some (aR 17 k2), some (aI v3), o4, some (aI v5), some (aI v6), o7, o8], [aI s0], M) := by
  unfold w_Vd_truthOfTest_J42 at h
  show Gd d w 93 _ (42, [some (aR 14 k0), some (aR 4 k1), some (aR 17 k2), some (aI v3), o4, some (aI v5), some (aI v6), o7, o8], [aI s0], M)
  obtain ⟨c0, h⟩ := h
  refine gd_s (P := True ∧ True ∧ True ∧ True ∧ (vp_in v3 (rK M (k2 + 1)).2) ∧ True) (σ1 := (50, [some (aR 14 k0), some (aR 4 k1), some (aR 17 k2), some (aI v3), o4, some (aI v5), some (aI v6), some (aI s0), o8], [aI (rI M (k2 + 1) v3.toNatClampNeg)], M)) tc_93 rfl 5 (fun u => ⟨_, rfl⟩) ⟨trivial, trivial, trivial, trivial, c0, trivial⟩ ?_
  refine gd_sw tc_93 rfl rfl (fun _ => rfl) ?_
  refine gd_case ⟨fun hc => ?_, fun hc => ?_⟩
  · have h := h.1 hc
    show Gd d w 93 _ (124, [some (aR 14 k0), some (aR 4 k1), some (aR 17 k2), some (aI v3), o4, some (aI v5), some (aI v6), some (aI s0), o8], [], M)
    refine gd_s (P := True ∧ True) (σ1 := (126, [some (aR 14 k0), some (aR 4 k1), some (aR 17 k2), some (aI v3), o4, some (aI v5), some (aI v6), some (aI s0), o8], [aI s0], M)) tc_93 rfl 1 (fun u => ⟨_, rfl⟩) ⟨trivial, trivial⟩ ?_
    refine gd_br (c := s0 = ((0 : Int32))) (st1 := []) tc_93 rfl rfl (fun _ => rfl) ⟨fun hc => ?_, fun hc => ?_⟩
    · have h := h.1 hc
      show Gd d w 93 _ (133, [some (aR 14 k0), some (aR 4 k1), some (aR 17 k2), some (aI v3), o4, some (aI v5), some (aI v6), some (aI s0), o8], [], M)
      refine gd_s (P := True ∧ True ∧ True ∧ True ∧ True ∧ True) (σ1 := (140, [some (aR 14 k0), some (aR 4 k1), some (aR 17 k2), some (aI v3), o4, some (aI v5), some (aI v6), some (aI s0), o8], [aI ((v6 >>> (v5 &&& 31)) &&& ((1 : Int32)))], M)) tc_93 rfl 5 (fun u => ⟨_, rfl⟩) ⟨trivial, trivial, trivial, trivial, trivial, trivial⟩ ?_
      refine gd_br (c := ((v6 >>> (v5 &&& 31)) &&& ((1 : Int32))) = ((0 : Int32))) (st1 := []) tc_93 rfl rfl (fun _ => rfl) ⟨fun hc => ?_, fun hc => ?_⟩
      · have h := h.1 hc
        show Gd d w 93 _ (147, [some (aR 14 k0), some (aR 4 k1), some (aR 17 k2), some (aI v3), o4, some (aI v5), some (aI v6), some (aI s0), o8], [], M)
        refine gd_s (P := True ∧ True) (σ1 := (148, [some (aR 14 k0), some (aR 4 k1), some (aR 17 k2), some (aI v3), o4, some (aI v5), some (aI v6), some (aI s0), o8], [aI ((0 : Int32))], M)) tc_93 rfl 1 (fun u => ⟨_, rfl⟩) ⟨trivial, trivial⟩ ?_
        exact g_Vd_truthOfTest_J148 hd hw ((0 : Int32)) (some (aR 14 k0)) (some (aR 4 k1)) (some (aR 17 k2)) (some (aI v3)) o4 (some (aI v5)) (some (aI v6)) (some (aI s0)) o8 h
      · have h := h.2 hc
        show Gd d w 93 _ (143, [some (aR 14 k0), some (aR 4 k1), some (aR 17 k2), some (aI v3), o4, some (aI v5), some (aI v6), some (aI s0), o8], [], M)
        refine gd_s (P := True ∧ True ∧ True) (σ1 := (148, [some (aR 14 k0), some (aR 4 k1), some (aR 17 k2), some (aI v3), o4, some (aI v5), some (aI v6), some (aI s0), o8], [aI ((1 : Int32))], M)) tc_93 rfl 2 (fun u => ⟨_, rfl⟩) ⟨trivial, trivial, trivial⟩ ?_
        exact g_Vd_truthOfTest_J148 hd hw ((1 : Int32)) (some (aR 14 k0)) (some (aR 4 k1)) (some (aR 17 k2)) (some (aI v3)) o4 (some (aI v5)) (some (aI v6)) (some (aI s0)) o8 h
    · have h := h.2 hc
      show Gd d w 93 _ (129, [some (aR 14 k0), some (aR 4 k1), some (aR 17 k2), some (aI v3), o4, some (aI v5), some (aI v6), some (aI s0), o8], [], M)
      refine gd_s (P := True ∧ True ∧ True) (σ1 := (151, [some (aR 14 k0), some (aR 4 k1), some (aR 17 k2), some (aI v3), o4, some (aI v5), some (aI v6), some (aI s0), o8], [aI ((2 : Int32))], M)) tc_93 rfl 2 (fun u => ⟨_, rfl⟩) ⟨trivial, trivial, trivial⟩ ?_
      exact gd_ret tc_93 rfl rfl trivial (fun _ => rfl) ⟨_, rfl, rfl, h⟩
  have h := h.2 hc
  refine gd_case ⟨fun hc => ?_, fun hc => ?_⟩
  · have h := h.1 hc
    show Gd d w 93 _ (152, [some (aR 14 k0), some (aR 4 k1), some (aR 17 k2), some (aI v3), o4, some (aI v5), some (aI v6), some (aI s0), o8], [], M)
    refine gd_s (P := True ∧ True) (σ1 := (154, [some (aR 14 k0), some (aR 4 k1), some (aR 17 k2), some (aI v3), o4, some (aI v5), some (aI v6), some (aI s0), o8], [aI s0], M)) tc_93 rfl 1 (fun u => ⟨_, rfl⟩) ⟨trivial, trivial⟩ ?_
    refine gd_br (c := s0 = ((0 : Int32))) (st1 := []) tc_93 rfl rfl (fun _ => rfl) ⟨fun hc => ?_, fun hc => ?_⟩
    · have h := h.1 hc
      show Gd d w 93 _ (161, [some (aR 14 k0), some (aR 4 k1), some (aR 17 k2), some (aI v3), o4, some (aI v5), some (aI v6), some (aI s0), o8], [], M)
      refine gd_s (P := True ∧ True ∧ True ∧ True) (σ1 := (166, [some (aR 14 k0), some (aR 4 k1), some (aR 17 k2), some (aI v3), o4, some (aI v5), some (aI v6), some (aI s0), o8], [aI (v6 &&& v5)], M)) tc_93 rfl 3 (fun u => ⟨_, rfl⟩) ⟨trivial, trivial, trivial, trivial⟩ ?_
      refine gd_br (c := (v6 &&& v5) = ((0 : Int32))) (st1 := []) tc_93 rfl rfl (fun _ => rfl) ⟨fun hc => ?_, fun hc => ?_⟩
      · have h := h.1 hc
        show Gd d w 93 _ (173, [some (aR 14 k0), some (aR 4 k1), some (aR 17 k2), some (aI v3), o4, some (aI v5), some (aI v6), some (aI s0), o8], [], M)
        refine gd_s (P := True ∧ True) (σ1 := (174, [some (aR 14 k0), some (aR 4 k1), some (aR 17 k2), some (aI v3), o4, some (aI v5), some (aI v6), some (aI s0), o8], [aI ((0 : Int32))], M)) tc_93 rfl 1 (fun u => ⟨_, rfl⟩) ⟨trivial, trivial⟩ ?_
        exact g_Vd_truthOfTest_J174 hd hw ((0 : Int32)) (some (aR 14 k0)) (some (aR 4 k1)) (some (aR 17 k2)) (some (aI v3)) o4 (some (aI v5)) (some (aI v6)) (some (aI s0)) o8 h
      · have h := h.2 hc
        show Gd d w 93 _ (169, [some (aR 14 k0), some (aR 4 k1), some (aR 17 k2), some (aI v3), o4, some (aI v5), some (aI v6), some (aI s0), o8], [], M)
        refine gd_s (P := True ∧ True ∧ True) (σ1 := (174, [some (aR 14 k0), some (aR 4 k1), some (aR 17 k2), some (aI v3), o4, some (aI v5), some (aI v6), some (aI s0), o8], [aI ((1 : Int32))], M)) tc_93 rfl 2 (fun u => ⟨_, rfl⟩) ⟨trivial, trivial, trivial⟩ ?_
        exact g_Vd_truthOfTest_J174 hd hw ((1 : Int32)) (some (aR 14 k0)) (some (aR 4 k1)) (some (aR 17 k2)) (some (aI v3)) o4 (some (aI v5)) (some (aI v6)) (some (aI s0)) o8 h
    · have h := h.2 hc
      show Gd d w 93 _ (157, [some (aR 14 k0), some (aR 4 k1), some (aR 17 k2), some (aI v3), o4, some (aI v5), some (aI v6), some (aI s0), o8], [], M)
      refine gd_s (P := True ∧ True ∧ True) (σ1 := (177, [some (aR 14 k0), some (aR 4 k1), some (aR 17 k2), some (aI v3), o4, some (aI v5), some (aI v6), some (aI s0), o8], [aI ((2 : Int32))], M)) tc_93 rfl 2 (fun u => ⟨_, rfl⟩) ⟨trivial, trivial, trivial⟩ ?_
      exact gd_ret tc_93 rfl rfl trivial (fun _ => rfl) ⟨_, rfl, rfl, h⟩
  have h := h.2 hc
  refine gd_case ⟨fun hc => ?_, fun hc => ?_⟩
  · have h := h.1 hc
    show Gd d w 93 _ (178, [some (aR 14 k0), some (aR 4 k1), some (aR 17 k2), some (aI v3), o4, some (aI v5), some (aI v6), some (aI s0), o8], [], M)
    refine gd_s (P := True ∧ True) (σ1 := (180, [some (aR 14 k0), some (aR 4 k1), some (aR 17 k2), some (aI v3), o4, some (aI v5), some (aI v6), some (aI s0), o8], [aI s0], M)) tc_93 rfl 1 (fun u => ⟨_, rfl⟩) ⟨trivial, trivial⟩ ?_
    refine gd_br (c := s0 = ((0 : Int32))) (st1 := []) tc_93 rfl rfl (fun _ => rfl) ⟨fun hc => ?_, fun hc => ?_⟩
    · have h := h.1 hc
      show Gd d w 93 _ (187, [some (aR 14 k0), some (aR 4 k1), some (aR 17 k2), some (aI v3), o4, some (aI v5), some (aI v6), some (aI s0), o8], [], M)
      refine gd_s (P := True ∧ True ∧ True ∧ True ∧ True ∧ True) (σ1 := (194, [some (aR 14 k0), some (aR 4 k1), some (aR 17 k2), some (aI v3), o4, some (aI v5), some (aI v6), some (aI s0), o8], [aI (v6 &&& (v5 ^^^ ((-1 : Int32))))], M)) tc_93 rfl 5 (fun u => ⟨_, rfl⟩) ⟨trivial, trivial, trivial, trivial, trivial, trivial⟩ ?_
      refine gd_br (c := ¬ (v6 &&& (v5 ^^^ ((-1 : Int32)))) = ((0 : Int32))) (st1 := []) tc_93 rfl rfl (fun _ => rfl) ⟨fun hc => ?_, fun hc => ?_⟩
      · have h := h.1 hc
        show Gd d w 93 _ (201, [some (aR 14 k0), some (aR 4 k1), some (aR 17 k2), some (aI v3), o4, some (aI v5), some (aI v6), some (aI s0), o8], [], M)
        refine gd_s (P := True ∧ True) (σ1 := (202, [some (aR 14 k0), some (aR 4 k1), some (aR 17 k2), some (aI v3), o4, some (aI v5), some (aI v6), some (aI s0), o8], [aI ((0 : Int32))], M)) tc_93 rfl 1 (fun u => ⟨_, rfl⟩) ⟨trivial, trivial⟩ ?_
        exact g_Vd_truthOfTest_J202 hd hw ((0 : Int32)) (some (aR 14 k0)) (some (aR 4 k1)) (some (aR 17 k2)) (some (aI v3)) o4 (some (aI v5)) (some (aI v6)) (some (aI s0)) o8 h
      · have h := h.2 hc
        show Gd d w 93 _ (197, [some (aR 14 k0), some (aR 4 k1), some (aR 17 k2), some (aI v3), o4, some (aI v5), some (aI v6), some (aI s0), o8], [], M)
        refine gd_s (P := True ∧ True ∧ True) (σ1 := (202, [some (aR 14 k0), some (aR 4 k1), some (aR 17 k2), some (aI v3), o4, some (aI v5), some (aI v6), some (aI s0), o8], [aI ((1 : Int32))], M)) tc_93 rfl 2 (fun u => ⟨_, rfl⟩) ⟨trivial, trivial, trivial⟩ ?_
        exact g_Vd_truthOfTest_J202 hd hw ((1 : Int32)) (some (aR 14 k0)) (some (aR 4 k1)) (some (aR 17 k2)) (some (aI v3)) o4 (some (aI v5)) (some (aI v6)) (some (aI s0)) o8 h
    · have h := h.2 hc
      show Gd d w 93 _ (183, [some (aR 14 k0), some (aR 4 k1), some (aR 17 k2), some (aI v3), o4, some (aI v5), some (aI v6), some (aI s0), o8], [], M)
      refine gd_s (P := True ∧ True ∧ True) (σ1 := (205, [some (aR 14 k0), some (aR 4 k1), some (aR 17 k2), some (aI v3), o4, some (aI v5), some (aI v6), some (aI s0), o8], [aI ((2 : Int32))], M)) tc_93 rfl 2 (fun u => ⟨_, rfl⟩) ⟨trivial, trivial, trivial⟩ ?_
      exact gd_ret tc_93 rfl rfl trivial (fun _ => rfl) ⟨_, rfl, rfl, h⟩
  have h := h.2 hc
  refine gd_case ⟨fun hc => ?_, fun hc => ?_⟩
  · have h := h.1 hc
    show Gd d w 93 _ (206, [some (aR 14 k0), some (aR 4 k1), some (aR 17 k2), some (aI v3), o4, some (aI v5), some (aI v6), some (aI s0), o8], [], M)
    obtain ⟨c0, h⟩ := h
    refine gd_s (P := True ∧ True ∧ (vp_in v5 (rK M k1).2) ∧ True) (σ1 := (210, [some (aR 14 k0), some (aR 4 k1), some (aR 17 k2), some (aI v3), o4, some (aI v5), some (aI v6), some (aI s0), o8], [aI (rI M k1 v5.toNatClampNeg)], M)) tc_93 rfl 3 (fun u => ⟨_, rfl⟩) ⟨trivial, trivial, c0, trivial⟩ ?_
    refine gd_br (c := ¬ (rI M k1 v5.toNatClampNeg) = ((0 : Int32))) (st1 := []) tc_93 rfl rfl (fun _ => rfl) ⟨fun hc => ?_, fun hc => ?_⟩
    · have h := h.1 hc
      exact g_Vd_truthOfTest_J227 hd hw k1 v5 v6 s0 (some (aR 14 k0)) (some (aR 17 k2)) (some (aI v3)) o4 o8 h
    · have h := h.2 hc
      show Gd d w 93 _ (213, [some (aR 14 k0), some (aR 4 k1), some (aR 17 k2), some (aI v3), o4, some (aI v5), some (aI v6), some (aI s0), o8], [], M)
      obtain ⟨c0, h⟩ := h
      refine gd_s (P := True ∧ True ∧ True ∧ (vp_in v5 (rK M (k0 + 6)).2) ∧ True) (σ1 := (220, [some (aR 14 k0), some (aR 4 k1), some (aR 17 k2), some (aI v3), o4, some (aI v5), some (aI v6), some (aI s0), o8], [aI (rI M (k0 + 6) v5.toNatClampNeg)], M)) tc_93 rfl 4 (fun u => ⟨_, rfl⟩) ⟨trivial, trivial, trivial, c0, trivial⟩ ?_
      refine gd_br (c := (rI M (k0 + 6) v5.toNatClampNeg) = ((0 : Int32))) (st1 := []) tc_93 rfl rfl (fun _ => rfl) ⟨fun hc => ?_, fun hc => ?_⟩
      · have h := h.1 hc
        exact g_Vd_truthOfTest_J227 hd hw k1 v5 v6 s0 (some (aR 14 k0)) (some (aR 17 k2)) (some (aI v3)) o4 o8 h
      · have h := h.2 hc
        show Gd d w 93 _ (223, [some (aR 14 k0), some (aR 4 k1), some (aR 17 k2), some (aI v3), o4, some (aI v5), some (aI v6), some (aI s0), o8], [], M)
        refine gd_s (P := True ∧ True ∧ True) (σ1 := (228, [some (aR 14 k0), some (aR 4 k1), some (aR 17 k2), some (aI v3), o4, some (aI v5), some (aI v6), some (aI s0), o8], [aI ((1 : Int32))], M)) tc_93 rfl 2 (fun u => ⟨_, rfl⟩) ⟨trivial, trivial, trivial⟩ ?_
        exact g_Vd_truthOfTest_J228 hd hw k1 v5 v6 s0 ((1 : Int32)) (some (aR 14 k0)) (some (aR 17 k2)) (some (aI v3)) o4 o8 h
  have h := h.2 hc
  refine gd_case ⟨fun hc => ?_, fun hc => ?_⟩
  · have h := h.1 hc
    show Gd d w 93 _ (320, [some (aR 14 k0), some (aR 4 k1), some (aR 17 k2), some (aI v3), o4, some (aI v5), some (aI v6), some (aI s0), o8], [], M)
    refine gd_s (P := True ∧ True) (σ1 := (322, [some (aR 14 k0), some (aR 4 k1), some (aR 17 k2), some (aI v3), o4, some (aI v5), some (aI v6), some (aI s0), o8], [aI v6], M)) tc_93 rfl 1 (fun u => ⟨_, rfl⟩) ⟨trivial, trivial⟩ ?_
    refine gd_callN (ml := 1) (as := [aI v6]) (rest := []) tc_93 rfl rfl rfl rfl rfl (by omega) (by omega) (Nat.le_of_ble_eq_true rfl) rfl (g_In_bitCount (by omega) (by omega) h) (fun r9 M9 h => ?_)
    obtain ⟨x1, rfl, e9, h⟩ := h
    subst M9
    show Gd d w 93 _ (325, [some (aR 14 k0), some (aR 4 k1), some (aR 17 k2), some (aI v3), o4, some (aI v5), some (aI v6), some (aI s0), o8], [aI x1], M)
    refine gd_s (P := True ∧ True) (σ1 := (326, [some (aR 14 k0), some (aR 4 k1), some (aR 17 k2), some (aI v3), o4, some (aI v5), some (aI v6), some (aI s0), o8], [aI ((1 : Int32)), aI x1], M)) tc_93 rfl 1 (fun u => ⟨_, rfl⟩) ⟨trivial, trivial⟩ ?_
    refine gd_br (c := x1 = ((1 : Int32))) (st1 := []) tc_93 rfl rfl (fun _ => rfl) ⟨fun hc => ?_, fun hc => ?_⟩
    · have h := h.1 hc
      show Gd d w 93 _ (333, [some (aR 14 k0), some (aR 4 k1), some (aR 17 k2), some (aI v3), o4, some (aI v5), some (aI v6), some (aI s0), o8], [], M)
      refine gd_s (P := True ∧ True ∧ True ∧ True ∧ True) (σ1 := (339, [some (aR 14 k0), some (aR 4 k1), some (aR 17 k2), some (aI v3), o4, some (aI v5), some (aI v6), some (aI s0), o8], [aI (((1 : Int32)) <<< (v5 &&& 31)), aI v6], M)) tc_93 rfl 4 (fun u => ⟨_, rfl⟩) ⟨trivial, trivial, trivial, trivial, trivial⟩ ?_
      refine gd_br (c := ¬ v6 = (((1 : Int32)) <<< (v5 &&& 31))) (st1 := []) tc_93 rfl rfl (fun _ => rfl) ⟨fun hc => ?_, fun hc => ?_⟩
      · have h := h.1 hc
        show Gd d w 93 _ (346, [some (aR 14 k0), some (aR 4 k1), some (aR 17 k2), some (aI v3), o4, some (aI v5), some (aI v6), some (aI s0), o8], [], M)
        refine gd_s (P := True ∧ True) (σ1 := (347, [some (aR 14 k0), some (aR 4 k1), some (aR 17 k2), some (aI v3), o4, some (aI v5), some (aI v6), some (aI s0), o8], [aI ((0 : Int32))], M)) tc_93 rfl 1 (fun u => ⟨_, rfl⟩) ⟨trivial, trivial⟩ ?_
        exact g_Vd_truthOfTest_J347 hd hw ((0 : Int32)) (some (aR 14 k0)) (some (aR 4 k1)) (some (aR 17 k2)) (some (aI v3)) o4 (some (aI v5)) (some (aI v6)) (some (aI s0)) o8 h
      · have h := h.2 hc
        show Gd d w 93 _ (342, [some (aR 14 k0), some (aR 4 k1), some (aR 17 k2), some (aI v3), o4, some (aI v5), some (aI v6), some (aI s0), o8], [], M)
        refine gd_s (P := True ∧ True ∧ True) (σ1 := (347, [some (aR 14 k0), some (aR 4 k1), some (aR 17 k2), some (aI v3), o4, some (aI v5), some (aI v6), some (aI s0), o8], [aI ((1 : Int32))], M)) tc_93 rfl 2 (fun u => ⟨_, rfl⟩) ⟨trivial, trivial, trivial⟩ ?_
        exact g_Vd_truthOfTest_J347 hd hw ((1 : Int32)) (some (aR 14 k0)) (some (aR 4 k1)) (some (aR 17 k2)) (some (aI v3)) o4 (some (aI v5)) (some (aI v6)) (some (aI s0)) o8 h
    · have h := h.2 hc
      show Gd d w 93 _ (329, [some (aR 14 k0), some (aR 4 k1), some (aR 17 k2), some (aI v3), o4, some (aI v5), some (aI v6), some (aI s0), o8], [], M)
      refine gd_s (P := True ∧ True ∧ True) (σ1 := (350, [some (aR 14 k0), some (aR 4 k1), some (aR 17 k2), some (aI v3), o4, some (aI v5), some (aI v6), some (aI s0), o8], [aI ((2 : Int32))], M)) tc_93 rfl 2 (fun u => ⟨_, rfl⟩) ⟨trivial, trivial, trivial⟩ ?_
      exact gd_ret tc_93 rfl rfl trivial (fun _ => rfl) ⟨_, rfl, rfl, h⟩
  have h := h.2 hc
  refine gd_case ⟨fun hc => ?_, fun hc => ?_⟩
  · have h := h.1 hc
    show Gd d w 93 _ (263, [some (aR 14 k0), some (aR 4 k1), some (aR 17 k2), some (aI v3), o4, some (aI v5), some (aI v6), some (aI s0), o8], [], M)
    refine gd_s (P := True ∧ True) (σ1 := (265, [some (aR 14 k0), some (aR 4 k1), some (aR 17 k2), some (aI v3), o4, some (aI v5), some (aI v6), some (aI s0), o8], [aI v6], M)) tc_93 rfl 1 (fun u => ⟨_, rfl⟩) ⟨trivial, trivial⟩ ?_
    refine gd_callN (ml := 1) (as := [aI v6]) (rest := []) tc_93 rfl rfl rfl rfl rfl (by omega) (by omega) (Nat.le_of_ble_eq_true rfl) rfl (g_In_bitCount (by omega) (by omega) h) (fun r9 M9 h => ?_)
    obtain ⟨x2, rfl, e9, h⟩ := h
    subst M9
    show Gd d w 93 _ (268, [some (aR 14 k0), some (aR 4 k1), some (aR 17 k2), some (aI v3), o4, some (aI v5), some (aI v6), some (aI s0), o8], [aI x2], M)
    refine gd_s (P := True ∧ True) (σ1 := (270, [some (aR 14 k0), some (aR 4 k1), some (aR 17 k2), some (aI v3), o4, some (aI v5), some (aI v6), some (aI s0), o8], [aI v5, aI x2], M)) tc_93 rfl 1 (fun u => ⟨_, rfl⟩) ⟨trivial, trivial⟩ ?_
    refine gd_br (c := v5 ≤ x2) (st1 := []) tc_93 rfl rfl (fun _ => rfl) ⟨fun hc => ?_, fun hc => ?_⟩
    · have h := h.1 hc
      show Gd d w 93 _ (277, [some (aR 14 k0), some (aR 4 k1), some (aR 17 k2), some (aI v3), o4, some (aI v5), some (aI v6), some (aI s0), o8], [], M)
      refine gd_s (P := True ∧ True) (σ1 := (278, [some (aR 14 k0), some (aR 4 k1), some (aR 17 k2), some (aI v3), o4, some (aI v5), some (aI v6), some (aI s0), o8], [aI ((0 : Int32))], M)) tc_93 rfl 1 (fun u => ⟨_, rfl⟩) ⟨trivial, trivial⟩ ?_
      exact g_Vd_truthOfTest_J278 hd hw ((0 : Int32)) (some (aR 14 k0)) (some (aR 4 k1)) (some (aR 17 k2)) (some (aI v3)) o4 (some (aI v5)) (some (aI v6)) (some (aI s0)) o8 h
    · have h := h.2 hc
      show Gd d w 93 _ (273, [some (aR 14 k0), some (aR 4 k1), some (aR 17 k2), some (aI v3), o4, some (aI v5), some (aI v6), some (aI s0), o8], [], M)
      refine gd_s (P := True ∧ True ∧ True) (σ1 := (278, [some (aR 14 k0), some (aR 4 k1), some (aR 17 k2), some (aI v3), o4, some (aI v5), some (aI v6), some (aI s0), o8], [aI ((1 : Int32))], M)) tc_93 rfl 2 (fun u => ⟨_, rfl⟩) ⟨trivial, trivial, trivial⟩ ?_
      exact g_Vd_truthOfTest_J278 hd hw ((1 : Int32)) (some (aR 14 k0)) (some (aR 4 k1)) (some (aR 17 k2)) (some (aI v3)) o4 (some (aI v5)) (some (aI v6)) (some (aI s0)) o8 h
  have h := h.2 hc
  refine gd_case ⟨fun hc => ?_, fun hc => ?_⟩
  · have h := h.1 hc
    show Gd d w 93 _ (282, [some (aR 14 k0), some (aR 4 k1), some (aR 17 k2), some (aI v3), o4, some (aI v5), some (aI v6), some (aI s0), o8], [], M)
    refine gd_s (P := True ∧ True) (σ1 := (284, [some (aR 14 k0), some (aR 4 k1), some (aR 17 k2), some (aI v3), o4, some (aI v5), some (aI v6), some (aI s0), o8], [aI v6], M)) tc_93 rfl 1 (fun u => ⟨_, rfl⟩) ⟨trivial, trivial⟩ ?_
    refine gd_callN (ml := 1) (as := [aI v6]) (rest := []) tc_93 rfl rfl rfl rfl rfl (by omega) (by omega) (Nat.le_of_ble_eq_true rfl) rfl (g_In_bitCount (by omega) (by omega) h) (fun r9 M9 h => ?_)
    obtain ⟨x3, rfl, e9, h⟩ := h
    subst M9
    show Gd d w 93 _ (287, [some (aR 14 k0), some (aR 4 k1), some (aR 17 k2), some (aI v3), o4, some (aI v5), some (aI v6), some (aI s0), o8], [aI x3], M)
    refine gd_s (P := True ∧ True) (σ1 := (289, [some (aR 14 k0), some (aR 4 k1), some (aR 17 k2), some (aI v3), o4, some (aI v5), some (aI v6), some (aI s0), o8], [aI v5, aI x3], M)) tc_93 rfl 1 (fun u => ⟨_, rfl⟩) ⟨trivial, trivial⟩ ?_
    refine gd_br (c := ¬ x3 = v5) (st1 := []) tc_93 rfl rfl (fun _ => rfl) ⟨fun hc => ?_, fun hc => ?_⟩
    · have h := h.1 hc
      show Gd d w 93 _ (296, [some (aR 14 k0), some (aR 4 k1), some (aR 17 k2), some (aI v3), o4, some (aI v5), some (aI v6), some (aI s0), o8], [], M)
      refine gd_s (P := True ∧ True) (σ1 := (297, [some (aR 14 k0), some (aR 4 k1), some (aR 17 k2), some (aI v3), o4, some (aI v5), some (aI v6), some (aI s0), o8], [aI ((0 : Int32))], M)) tc_93 rfl 1 (fun u => ⟨_, rfl⟩) ⟨trivial, trivial⟩ ?_
      exact g_Vd_truthOfTest_J297 hd hw ((0 : Int32)) (some (aR 14 k0)) (some (aR 4 k1)) (some (aR 17 k2)) (some (aI v3)) o4 (some (aI v5)) (some (aI v6)) (some (aI s0)) o8 h
    · have h := h.2 hc
      show Gd d w 93 _ (292, [some (aR 14 k0), some (aR 4 k1), some (aR 17 k2), some (aI v3), o4, some (aI v5), some (aI v6), some (aI s0), o8], [], M)
      refine gd_s (P := True ∧ True ∧ True) (σ1 := (297, [some (aR 14 k0), some (aR 4 k1), some (aR 17 k2), some (aI v3), o4, some (aI v5), some (aI v6), some (aI s0), o8], [aI ((1 : Int32))], M)) tc_93 rfl 2 (fun u => ⟨_, rfl⟩) ⟨trivial, trivial, trivial⟩ ?_
      exact g_Vd_truthOfTest_J297 hd hw ((1 : Int32)) (some (aR 14 k0)) (some (aR 4 k1)) (some (aR 17 k2)) (some (aI v3)) o4 (some (aI v5)) (some (aI v6)) (some (aI s0)) o8 h
  have h := h.2 hc
  refine gd_case ⟨fun hc => ?_, fun hc => ?_⟩
  · have h := h.1 hc
    show Gd d w 93 _ (301, [some (aR 14 k0), some (aR 4 k1), some (aR 17 k2), some (aI v3), o4, some (aI v5), some (aI v6), some (aI s0), o8], [], M)
    refine gd_s (P := True ∧ True) (σ1 := (303, [some (aR 14 k0), some (aR 4 k1), some (aR 17 k2), some (aI v3), o4, some (aI v5), some (aI v6), some (aI s0), o8], [aI v6], M)) tc_93 rfl 1 (fun u => ⟨_, rfl⟩) ⟨trivial, trivial⟩ ?_
    refine gd_callN (ml := 1) (as := [aI v6]) (rest := []) tc_93 rfl rfl rfl rfl rfl (by omega) (by omega) (Nat.le_of_ble_eq_true rfl) rfl (g_In_bitCount (by omega) (by omega) h) (fun r9 M9 h => ?_)
    obtain ⟨x4, rfl, e9, h⟩ := h
    subst M9
    show Gd d w 93 _ (306, [some (aR 14 k0), some (aR 4 k1), some (aR 17 k2), some (aI v3), o4, some (aI v5), some (aI v6), some (aI s0), o8], [aI x4], M)
    refine gd_s (P := True ∧ True) (σ1 := (308, [some (aR 14 k0), some (aR 4 k1), some (aR 17 k2), some (aI v3), o4, some (aI v5), some (aI v6), some (aI s0), o8], [aI v5, aI x4], M)) tc_93 rfl 1 (fun u => ⟨_, rfl⟩) ⟨trivial, trivial⟩ ?_
    refine gd_br (c := x4 ≤ v5) (st1 := []) tc_93 rfl rfl (fun _ => rfl) ⟨fun hc => ?_, fun hc => ?_⟩
    · have h := h.1 hc
      show Gd d w 93 _ (315, [some (aR 14 k0), some (aR 4 k1), some (aR 17 k2), some (aI v3), o4, some (aI v5), some (aI v6), some (aI s0), o8], [], M)
      refine gd_s (P := True ∧ True) (σ1 := (316, [some (aR 14 k0), some (aR 4 k1), some (aR 17 k2), some (aI v3), o4, some (aI v5), some (aI v6), some (aI s0), o8], [aI ((0 : Int32))], M)) tc_93 rfl 1 (fun u => ⟨_, rfl⟩) ⟨trivial, trivial⟩ ?_
      exact g_Vd_truthOfTest_J316 hd hw ((0 : Int32)) (some (aR 14 k0)) (some (aR 4 k1)) (some (aR 17 k2)) (some (aI v3)) o4 (some (aI v5)) (some (aI v6)) (some (aI s0)) o8 h
    · have h := h.2 hc
      show Gd d w 93 _ (311, [some (aR 14 k0), some (aR 4 k1), some (aR 17 k2), some (aI v3), o4, some (aI v5), some (aI v6), some (aI s0), o8], [], M)
      refine gd_s (P := True ∧ True ∧ True) (σ1 := (316, [some (aR 14 k0), some (aR 4 k1), some (aR 17 k2), some (aI v3), o4, some (aI v5), some (aI v6), some (aI s0), o8], [aI ((1 : Int32))], M)) tc_93 rfl 2 (fun u => ⟨_, rfl⟩) ⟨trivial, trivial, trivial⟩ ?_
      exact g_Vd_truthOfTest_J316 hd hw ((1 : Int32)) (some (aR 14 k0)) (some (aR 4 k1)) (some (aR 17 k2)) (some (aI v3)) o4 (some (aI v5)) (some (aI v6)) (some (aI s0)) o8 h
  have h := h.2 hc
  show Gd d w 93 _ (351, [some (aR 14 k0), some (aR 4 k1), some (aR 17 k2), some (aI v3), o4, some (aI v5), some (aI v6), some (aI s0), o8], [], M)
  refine gd_s (P := True ∧ True) (σ1 := (353, [some (aR 14 k0), some (aR 4 k1), some (aR 17 k2), some (aI v3), o4, some (aI v5), some (aI v6), some (aI s0), o8], [aI v6], M)) tc_93 rfl 1 (fun u => ⟨_, rfl⟩) ⟨trivial, trivial⟩ ?_
  refine gd_br (c := ¬ v6 = ((0 : Int32))) (st1 := []) tc_93 rfl rfl (fun _ => rfl) ⟨fun hc => ?_, fun hc => ?_⟩
  · have h := h.1 hc
    show Gd d w 93 _ (360, [some (aR 14 k0), some (aR 4 k1), some (aR 17 k2), some (aI v3), o4, some (aI v5), some (aI v6), some (aI s0), o8], [], M)
    refine gd_s (P := True ∧ True) (σ1 := (361, [some (aR 14 k0), some (aR 4 k1), some (aR 17 k2), some (aI v3), o4, some (aI v5), some (aI v6), some (aI s0), o8], [aI ((0 : Int32))], M)) tc_93 rfl 1 (fun u => ⟨_, rfl⟩) ⟨trivial, trivial⟩ ?_
    exact g_Vd_truthOfTest_J361 hd hw ((0 : Int32)) (some (aR 14 k0)) (some (aR 4 k1)) (some (aR 17 k2)) (some (aI v3)) o4 (some (aI v5)) (some (aI v6)) (some (aI s0)) o8 h
  · have h := h.2 hc
    show Gd d w 93 _ (356, [some (aR 14 k0), some (aR 4 k1), some (aR 17 k2), some (aI v3), o4, some (aI v5), some (aI v6), some (aI s0), o8], [], M)
    refine gd_s (P := True ∧ True ∧ True) (σ1 := (361, [some (aR 14 k0), some (aR 4 k1), some (aR 17 k2), some (aI v3), o4, some (aI v5), some (aI v6), some (aI s0), o8], [aI ((1 : Int32))], M)) tc_93 rfl 2 (fun u => ⟨_, rfl⟩) ⟨trivial, trivial, trivial⟩ ?_
    exact g_Vd_truthOfTest_J361 hd hw ((1 : Int32)) (some (aR 14 k0)) (some (aR 4 k1)) (some (aR 17 k2)) (some (aI v3)) o4 (some (aI v5)) (some (aI v6)) (some (aI s0)) o8 h
def w_Vd_truthOfTest_J41 (M : aM) (post : Int32 → Prop) (k0 : Nat) (k1 : Nat) (k2 : Nat) (v3 : Int32) (v5 : Int32) (v6 : Int32) : Prop := w_Vd_truthOfTest_J42 M post k0 k1 k2 v3 v5 v6 ((0 : Int32))
theorem g_Vd_truthOfTest_J41 {d w : Nat} (hd : 1 ≤ d) (hw : 20 ≤ w) {M : aM} {post : Int32 → Prop} (k0 : Nat) (k1 : Nat) (k2 : Nat) (v3 : Int32) (v5 : Int32) (v6 : Int32) (o4 o7 o8 : Option aV) (h : w_Vd_truthOfTest_J41 M post k0 k1 k2 v3 v5 v6) : Gd d w 93 (pIn M post) (41, [some (aR 14 k0), some (aR 4 k1), some (aR 17 k2), some (aI v3), o4, some (aI v5), some (aI v6), o7, o8], [], M) := by
  unfold w_Vd_truthOfTest_J41 at h
  show Gd d w 93 _ (41, [some (aR 14 k0), some (aR 4 k1), some (aR 17 k2), some (aI v3), o4, some (aI v5), some (aI v6), o7, o8], [], M)
  refine gd_s (P := True ∧ True) (σ1 := (42, [some (aR 14 k0), some (aR 4 k1), some (aR 17 k2), some (aI v3), o4, some (aI v5), some (aI v6), o7, o8], [aI ((0 : Int32))], M)) tc_93 rfl 1 (fun u => ⟨_, rfl⟩) ⟨trivial, trivial⟩ ?_
  exact g_Vd_truthOfTest_J42 hd hw k0 k1 k2 v3 v5 v6 ((0 : Int32)) o4 o7 o8 h
/-- PolicyJudge$Verdict.truthOfTest(LPolicyJudge$Attributes;[ILPolicyJudge$Parts;I)I -/
def w_Vd_truthOfTest (post : Int32 → Prop) (k0 : Nat) (k1 : Nat) (k2 : Nat) (v3 : Int32) (M : aM) : Prop := (vp_in v3 (rK M (k2 + 2)).2) ∧ (vp_in v3 (rK M (k2 + 3)).2) ∧ (vp_in (rI M (k2 + 2) v3.toNatClampNeg) (rK M k1).2) ∧ (((¬ (rI M k1 (rI M (k2 + 2) v3.toNatClampNeg).toNatClampNeg) = ((0 : Int32))) → w_Vd_truthOfTest_J41 M post k0 k1 k2 v3 (rI M (k2 + 3) v3.toNatClampNeg) (rI M k1 (rI M (k2 + 2) v3.toNatClampNeg).toNatClampNeg)) ∧ (¬ (¬ (rI M k1 (rI M (k2 + 2) v3.toNatClampNeg).toNatClampNeg) = ((0 : Int32))) → (vp_in (rI M (k2 + 2) v3.toNatClampNeg) (rK M (k0 + 6)).2) ∧ ((((rI M (k0 + 6) (rI M (k2 + 2) v3.toNatClampNeg).toNatClampNeg) = ((0 : Int32))) → w_Vd_truthOfTest_J41 M post k0 k1 k2 v3 (rI M (k2 + 3) v3.toNatClampNeg) (rI M k1 (rI M (k2 + 2) v3.toNatClampNeg).toNatClampNeg)) ∧ (¬ ((rI M (k0 + 6) (rI M (k2 + 2) v3.toNatClampNeg).toNatClampNeg) = ((0 : Int32))) → w_Vd_truthOfTest_J42 M post k0 k1 k2 v3 (rI M (k2 + 3) v3.toNatClampNeg) (rI M k1 (rI M (k2 + 2) v3.toNatClampNeg).toNatClampNeg) ((1 : Int32))))))
theorem g_Vd_truthOfTest {d w : Nat} (hd : 1 ≤ d) (hw : 20 ≤ w) {post : Int32 → Prop} {k0 : Nat} {k1 : Nat} {k2 : Nat} {v3 : Int32} {M : aM} (h : w_Vd_truthOfTest post k0 k1 k2 v3 M) : Gd d w 93 (pIn M post) (0, aEnt 93 [aR 14 k0, aR 4 k1, aR 17 k2, aI v3], [], M) := by
  unfold w_Vd_truthOfTest at h
  show Gd d w 93 _ (0, [some (aR 14 k0), some (aR 4 k1), some (aR 17 k2), some (aI v3), none, none, none, none, none], [], M)
  obtain ⟨c0, c1, c2, h⟩ := h
  refine gd_s (P := True ∧ True ∧ True ∧ (vp_in v3 (rK M (k2 + 2)).2) ∧ True ∧ True ∧ True ∧ True ∧ (vp_in v3 (rK M (k2 + 3)).2) ∧ True ∧ True ∧ True ∧ (vp_in (rI M (k2 + 2) v3.toNatClampNeg) (rK M k1).2) ∧ True ∧ True ∧ True) (σ1 := (24, [some (aR 14 k0), some (aR 4 k1), some (aR 17 k2), some (aI v3), some (aI (rI M (k2 + 2) v3.toNatClampNeg)), some (aI (rI M (k2 + 3) v3.toNatClampNeg)), some (aI (rI M k1 (rI M (k2 + 2) v3.toNatClampNeg).toNatClampNeg)), none, none], [aI (rI M k1 (rI M (k2 + 2) v3.toNatClampNeg).toNatClampNeg)], M)) tc_93 rfl 15 (fun u => ⟨_, rfl⟩) ⟨trivial, trivial, trivial, c0, trivial, trivial, trivial, trivial, c1, trivial, trivial, trivial, c2, trivial, trivial, trivial⟩ ?_
  refine gd_br (c := ¬ (rI M k1 (rI M (k2 + 2) v3.toNatClampNeg).toNatClampNeg) = ((0 : Int32))) (st1 := []) tc_93 rfl rfl (fun _ => rfl) ⟨fun hc => ?_, fun hc => ?_⟩
  · have h := h.1 hc
    exact g_Vd_truthOfTest_J41 hd hw k0 k1 k2 v3 (rI M (k2 + 3) v3.toNatClampNeg) (rI M k1 (rI M (k2 + 2) v3.toNatClampNeg).toNatClampNeg) (some (aI (rI M (k2 + 2) v3.toNatClampNeg))) none none h
  · have h := h.2 hc
    show Gd d w 93 _ (27, [some (aR 14 k0), some (aR 4 k1), some (aR 17 k2), some (aI v3), some (aI (rI M (k2 + 2) v3.toNatClampNeg)), some (aI (rI M (k2 + 3) v3.toNatClampNeg)), some (aI (rI M k1 (rI M (k2 + 2) v3.toNatClampNeg).toNatClampNeg)), none, none], [], M)
    obtain ⟨c0, h⟩ := h
    refine gd_s (P := True ∧ True ∧ True ∧ (vp_in (rI M (k2 + 2) v3.toNatClampNeg) (rK M (k0 + 6)).2) ∧ True) (σ1 := (34, [some (aR 14 k0), some (aR 4 k1), some (aR 17 k2), some (aI v3), some (aI (rI M (k2 + 2) v3.toNatClampNeg)), some (aI (rI M (k2 + 3) v3.toNatClampNeg)), some (aI (rI M k1 (rI M (k2 + 2) v3.toNatClampNeg).toNatClampNeg)), none, none], [aI (rI M (k0 + 6) (rI M (k2 + 2) v3.toNatClampNeg).toNatClampNeg)], M)) tc_93 rfl 4 (fun u => ⟨_, rfl⟩) ⟨trivial, trivial, trivial, c0, trivial⟩ ?_
    refine gd_br (c := (rI M (k0 + 6) (rI M (k2 + 2) v3.toNatClampNeg).toNatClampNeg) = ((0 : Int32))) (st1 := []) tc_93 rfl rfl (fun _ => rfl) ⟨fun hc => ?_, fun hc => ?_⟩
    · have h := h.1 hc
      exact g_Vd_truthOfTest_J41 hd hw k0 k1 k2 v3 (rI M (k2 + 3) v3.toNatClampNeg) (rI M k1 (rI M (k2 + 2) v3.toNatClampNeg).toNatClampNeg) (some (aI (rI M (k2 + 2) v3.toNatClampNeg))) none none h
    · have h := h.2 hc
      show Gd d w 93 _ (37, [some (aR 14 k0), some (aR 4 k1), some (aR 17 k2), some (aI v3), some (aI (rI M (k2 + 2) v3.toNatClampNeg)), some (aI (rI M (k2 + 3) v3.toNatClampNeg)), some (aI (rI M k1 (rI M (k2 + 2) v3.toNatClampNeg).toNatClampNeg)), none, none], [], M)
      refine gd_s (P := True ∧ True ∧ True) (σ1 := (42, [some (aR 14 k0), some (aR 4 k1), some (aR 17 k2), some (aI v3), some (aI (rI M (k2 + 2) v3.toNatClampNeg)), some (aI (rI M (k2 + 3) v3.toNatClampNeg)), some (aI (rI M k1 (rI M (k2 + 2) v3.toNatClampNeg).toNatClampNeg)), none, none], [aI ((1 : Int32))], M)) tc_93 rfl 2 (fun u => ⟨_, rfl⟩) ⟨trivial, trivial, trivial⟩ ?_
      exact g_Vd_truthOfTest_J42 hd hw k0 k1 k2 v3 (rI M (k2 + 3) v3.toNatClampNeg) (rI M k1 (rI M (k2 + 2) v3.toNatClampNeg).toNatClampNeg) ((1 : Int32)) (some (aI (rI M (k2 + 2) v3.toNatClampNeg))) none none h
theorem tc_91 : tC 91 = c91 := rfl
/-- PolicyJudge$Verdict.truthOf(LPolicyJudge$Text;[III)I -/
def w_Vd_truthOf_r (R_Vd_truthOf : (Int32 → Prop) → Nat → Nat → Int32 → Int32 → aM → Prop) (R_Vd_truthOfJoint : (Int32 → Prop) → Nat → Nat → Int32 → Int32 → Int32 → aM → Prop) (post : Int32 → Prop) (k0 : Nat) (k1 : Nat) (v2 : Int32) (v3 : Int32) (M : aM) : Prop := ((v2 < ((0 : Int32))) → post ((2 : Int32))) ∧ (¬ (v2 < ((0 : Int32))) → (((rI M (k0 + 24) 0) ≤ v2) → post ((2 : Int32))) ∧ (¬ ((rI M (k0 + 24) 0) ≤ v2) → ((v3 < ((43 : Int32))) → (vp_in v2 (rK M ((k0 + 24) + 1)).2) ∧ ((((rI M ((k0 + 24) + 1) v2.toNatClampNeg) = (10 : Int32)) → R_Vd_truthOfJoint (fun x1 => post x1) k0 k1 v2 ((1 : Int32)) v3 M) ∧ (¬ ((rI M ((k0 + 24) + 1) v2.toNatClampNeg) = (10 : Int32)) → (((rI M ((k0 + 24) + 1) v2.toNatClampNeg) = (11 : Int32)) → R_Vd_truthOfJoint (fun x2 => post x2) k0 k1 v2 ((0 : Int32)) v3 M) ∧ (¬ ((rI M ((k0 + 24) + 1) v2.toNatClampNeg) = (11 : Int32)) → (((rI M ((k0 + 24) + 1) v2.toNatClampNeg) = (12 : Int32)) → (vp_in v2 (rK M ((k0 + 24) + 5)).2) ∧ (R_Vd_truthOf (fun x3 => ((¬ x3 = ((2 : Int32))) → ((¬ x3 = ((1 : Int32))) → post ((1 : Int32))) ∧ (¬ (¬ x3 = ((1 : Int32))) → post ((0 : Int32)))) ∧ (¬ (¬ x3 = ((2 : Int32))) → post ((2 : Int32)))) k0 k1 (rI M ((k0 + 24) + 5) v2.toNatClampNeg) (v3 + ((1 : Int32))) M)) ∧ (¬ ((rI M ((k0 + 24) + 1) v2.toNatClampNeg) = (12 : Int32)) → (((rI M ((k0 + 24) + 1) v2.toNatClampNeg) = (13 : Int32)) → post ((1 : Int32))) ∧ (¬ ((rI M ((k0 + 24) + 1) v2.toNatClampNeg) = (13 : Int32)) → (((rI M ((k0 + 24) + 1) v2.toNatClampNeg) = (14 : Int32)) → post ((0 : Int32))) ∧ (¬ ((rI M ((k0 + 24) + 1) v2.toNatClampNeg) = (14 : Int32)) → (((rI M ((k0 + 24) + 1) v2.toNatClampNeg) = (15 : Int32)) → post ((2 : Int32))) ∧ (¬ ((rI M ((k0 + 24) + 1) v2.toNatClampNeg) = (15 : Int32)) → w_Vd_truthOfTest (fun x4 => post x4) (k0 + 1) k1 (k0 + 24) v2 M)))))))) ∧ (¬ (v3 < ((43 : Int32))) → post ((2 : Int32)))))
theorem g_Vd_truthOf_r {d w : Nat} (hd : 3 ≤ d) (hw : 77 ≤ w) {R_Vd_truthOf : (Int32 → Prop) → Nat → Nat → Int32 → Int32 → aM → Prop} (hR_Vd_truthOf : ∀ (post : Int32 → Prop) (k0 : Nat) (k1 : Nat) (v2 : Int32) (v3 : Int32) (M : aM), R_Vd_truthOf post k0 k1 v2 v3 M → Gd (d - 1) (w - (6 + 19)) 91 (pIn M post) (0, aEnt 91 [aR 13 k0, aR 4 k1, aI v2, aI v3], [], M)) {R_Vd_truthOfJoint : (Int32 → Prop) → Nat → Nat → Int32 → Int32 → Int32 → aM → Prop} (hR_Vd_truthOfJoint : ∀ (post : Int32 → Prop) (k0 : Nat) (k1 : Nat) (v2 : Int32) (v3 : Int32) (v4 : Int32) (M : aM), R_Vd_truthOfJoint post k0 k1 v2 v3 v4 M → Gd (d - 1) (w - (10 + 19)) 92 (pIn M post) (0, aEnt 92 [aR 13 k0, aR 4 k1, aI v2, aI v3, aI v4], [], M)) {post : Int32 → Prop} {k0 : Nat} {k1 : Nat} {v2 : Int32} {v3 : Int32} {M : aM} (h : w_Vd_truthOf_r R_Vd_truthOf R_Vd_truthOfJoint post k0 k1 v2 v3 M) : Gd d w 91 (pIn M post) (0, aEnt 91 [aR 13 k0, aR 4 k1, aI v2, aI v3], [], M) := by
  unfold w_Vd_truthOf_r at h
  show Gd d w 91 _ (0, [some (aR 13 k0), some (aR 4 k1), some (aI v2), some (aI v3), none, none], [], M)
  refine gd_s (P := True ∧ True ∧ True ∧ True ∧ True) (σ1 := (7, [some (aR 13 k0), some (aR 4 k1), some (aI v2), some (aI v3), some (aR 17 (k0 + 24)), none], [aI v2], M)) tc_91 rfl 4 (fun u => ⟨_, rfl⟩) ⟨trivial, trivial, trivial, trivial, trivial⟩ ?_
  refine gd_br (c := v2 < ((0 : Int32))) (st1 := []) tc_91 rfl rfl (fun _ => rfl) ⟨fun hc => ?_, fun hc => ?_⟩
  · have h := h.1 hc
    show Gd d w 91 _ (25, [some (aR 13 k0), some (aR 4 k1), some (aI v2), some (aI v3), some (aR 17 (k0 + 24)), none], [], M)
    refine gd_s (P := True ∧ True) (σ1 := (26, [some (aR 13 k0), some (aR 4 k1), some (aI v2), some (aI v3), some (aR 17 (k0 + 24)), none], [aI ((2 : Int32))], M)) tc_91 rfl 1 (fun u => ⟨_, rfl⟩) ⟨trivial, trivial⟩ ?_
    exact gd_ret tc_91 rfl rfl trivial (fun _ => rfl) ⟨_, rfl, rfl, h⟩
  · have h := h.2 hc
    show Gd d w 91 _ (10, [some (aR 13 k0), some (aR 4 k1), some (aI v2), some (aI v3), some (aR 17 (k0 + 24)), none], [], M)
    refine gd_s (P := True ∧ True ∧ True ∧ True) (σ1 := (16, [some (aR 13 k0), some (aR 4 k1), some (aI v2), some (aI v3), some (aR 17 (k0 + 24)), none], [aI (rI M (k0 + 24) 0), aI v2], M)) tc_91 rfl 3 (fun u => ⟨_, rfl⟩) ⟨trivial, trivial, trivial, trivial⟩ ?_
    refine gd_br (c := (rI M (k0 + 24) 0) ≤ v2) (st1 := []) tc_91 rfl rfl (fun _ => rfl) ⟨fun hc => ?_, fun hc => ?_⟩
    · have h := h.1 hc
      show Gd d w 91 _ (25, [some (aR 13 k0), some (aR 4 k1), some (aI v2), some (aI v3), some (aR 17 (k0 + 24)), none], [], M)
      refine gd_s (P := True ∧ True) (σ1 := (26, [some (aR 13 k0), some (aR 4 k1), some (aI v2), some (aI v3), some (aR 17 (k0 + 24)), none], [aI ((2 : Int32))], M)) tc_91 rfl 1 (fun u => ⟨_, rfl⟩) ⟨trivial, trivial⟩ ?_
      exact gd_ret tc_91 rfl rfl trivial (fun _ => rfl) ⟨_, rfl, rfl, h⟩
    · have h := h.2 hc
      show Gd d w 91 _ (19, [some (aR 13 k0), some (aR 4 k1), some (aI v2), some (aI v3), some (aR 17 (k0 + 24)), none], [], M)
      refine gd_s (P := True ∧ True ∧ True) (σ1 := (22, [some (aR 13 k0), some (aR 4 k1), some (aI v2), some (aI v3), some (aR 17 (k0 + 24)), none], [aI ((43 : Int32)), aI v3], M)) tc_91 rfl 2 (fun u => ⟨_, rfl⟩) ⟨trivial, trivial, trivial⟩ ?_
      refine gd_br (c := v3 < ((43 : Int32))) (st1 := []) tc_91 rfl rfl (fun _ => rfl) ⟨fun hc => ?_, fun hc => ?_⟩
      · have h := h.1 hc
        show Gd d w 91 _ (27, [some (aR 13 k0), some (aR 4 k1), some (aI v2), some (aI v3), some (aR 17 (k0 + 24)), none], [], M)
        obtain ⟨c0, h⟩ := h
        refine gd_s (P := True ∧ True ∧ True ∧ (vp_in v2 (rK M ((k0 + 24) + 1)).2) ∧ True) (σ1 := (34, [some (aR 13 k0), some (aR 4 k1), some (aI v2), some (aI v3), some (aR 17 (k0 + 24)), none], [aI (rI M ((k0 + 24) + 1) v2.toNatClampNeg)], M)) tc_91 rfl 4 (fun u => ⟨_, rfl⟩) ⟨trivial, trivial, trivial, c0, trivial⟩ ?_
        refine gd_sw tc_91 rfl rfl (fun _ => rfl) ?_
        refine gd_case ⟨fun hc => ?_, fun hc => ?_⟩
        · have h := h.1 hc
          show Gd d w 91 _ (117, [some (aR 13 k0), some (aR 4 k1), some (aI v2), some (aI v3), some (aR 17 (k0 + 24)), none], [], M)
          refine gd_s (P := True ∧ True ∧ True ∧ True ∧ True ∧ True) (σ1 := (122, [some (aR 13 k0), some (aR 4 k1), some (aI v2), some (aI v3), some (aR 17 (k0 + 24)), none], [aI v3, aI ((1 : Int32)), aI v2, aR 4 k1, aR 13 k0], M)) tc_91 rfl 5 (fun u => ⟨_, rfl⟩) ⟨trivial, trivial, trivial, trivial, trivial, trivial⟩ ?_
          refine gd_callN (ml := 10) (as := [aR 13 k0, aR 4 k1, aI v2, aI ((1 : Int32)), aI v3]) (rest := []) tc_91 rfl rfl rfl rfl rfl (by omega) (by omega) (Nat.le_of_ble_eq_true rfl) rfl (hR_Vd_truthOfJoint _ k0 k1 v2 ((1 : Int32)) v3 _ h) (fun r9 M9 h => ?_)
          obtain ⟨x1, rfl, e9, h⟩ := h
          subst M9
          show Gd d w 91 _ (125, [some (aR 13 k0), some (aR 4 k1), some (aI v2), some (aI v3), some (aR 17 (k0 + 24)), none], [aI x1], M)
          exact gd_ret tc_91 rfl rfl trivial (fun _ => rfl) ⟨_, rfl, rfl, h⟩
        have h := h.2 hc
        refine gd_case ⟨fun hc => ?_, fun hc => ?_⟩
        · have h := h.1 hc
          show Gd d w 91 _ (126, [some (aR 13 k0), some (aR 4 k1), some (aI v2), some (aI v3), some (aR 17 (k0 + 24)), none], [], M)
          refine gd_s (P := True ∧ True ∧ True ∧ True ∧ True ∧ True) (σ1 := (131, [some (aR 13 k0), some (aR 4 k1), some (aI v2), some (aI v3), some (aR 17 (k0 + 24)), none], [aI v3, aI ((0 : Int32)), aI v2, aR 4 k1, aR 13 k0], M)) tc_91 rfl 5 (fun u => ⟨_, rfl⟩) ⟨trivial, trivial, trivial, trivial, trivial, trivial⟩ ?_
          refine gd_callN (ml := 10) (as := [aR 13 k0, aR 4 k1, aI v2, aI ((0 : Int32)), aI v3]) (rest := []) tc_91 rfl rfl rfl rfl rfl (by omega) (by omega) (Nat.le_of_ble_eq_true rfl) rfl (hR_Vd_truthOfJoint _ k0 k1 v2 ((0 : Int32)) v3 _ h) (fun r9 M9 h => ?_)
          obtain ⟨x2, rfl, e9, h⟩ := h
          subst M9
          show Gd d w 91 _ (134, [some (aR 13 k0), some (aR 4 k1), some (aI v2), some (aI v3), some (aR 17 (k0 + 24)), none], [aI x2], M)
          exact gd_ret tc_91 rfl rfl trivial (fun _ => rfl) ⟨_, rfl, rfl, h⟩
        have h := h.2 hc
        refine gd_case ⟨fun hc => ?_, fun hc => ?_⟩
        · have h := h.1 hc
          show Gd d w 91 _ (78, [some (aR 13 k0), some (aR 4 k1), some (aI v2), some (aI v3), some (aR 17 (k0 + 24)), none], [], M)
          obtain ⟨c0, h⟩ := h
          refine gd_s (P := True ∧ True ∧ True ∧ True ∧ True ∧ (vp_in v2 (rK M ((k0 + 24) + 5)).2) ∧ True ∧ True ∧ True ∧ True) (σ1 := (90, [some (aR 13 k0), some (aR 4 k1), some (aI v2), some (aI v3), some (aR 17 (k0 + 24)), none], [aI (v3 + ((1 : Int32))), aI (rI M ((k0 + 24) + 5) v2.toNatClampNeg), aR 4 k1, aR 13 k0], M)) tc_91 rfl 9 (fun u => ⟨_, rfl⟩) ⟨trivial, trivial, trivial, trivial, trivial, c0, trivial, trivial, trivial, trivial⟩ ?_
          refine gd_callN (ml := 6) (as := [aR 13 k0, aR 4 k1, aI (rI M ((k0 + 24) + 5) v2.toNatClampNeg), aI (v3 + ((1 : Int32)))]) (rest := []) tc_91 rfl rfl rfl rfl rfl (by omega) (by omega) (Nat.le_of_ble_eq_true rfl) rfl (hR_Vd_truthOf _ k0 k1 (rI M ((k0 + 24) + 5) v2.toNatClampNeg) (v3 + ((1 : Int32))) _ h) (fun r9 M9 h => ?_)
          obtain ⟨x3, rfl, e9, h⟩ := h
          subst M9
          show Gd d w 91 _ (93, [some (aR 13 k0), some (aR 4 k1), some (aI v2), some (aI v3), some (aR 17 (k0 + 24)), none], [aI x3], M)
          refine gd_s (P := True ∧ True ∧ True ∧ True) (σ1 := (98, [some (aR 13 k0), some (aR 4 k1), some (aI v2), some (aI v3), some (aR 17 (k0 + 24)), some (aI x3)], [aI ((2 : Int32)), aI x3], M)) tc_91 rfl 3 (fun u => ⟨_, rfl⟩) ⟨trivial, trivial, trivial, trivial⟩ ?_
          refine gd_br (c := ¬ x3 = ((2 : Int32))) (st1 := []) tc_91 rfl rfl (fun _ => rfl) ⟨fun hc => ?_, fun hc => ?_⟩
          · have h := h.1 hc
            show Gd d w 91 _ (105, [some (aR 13 k0), some (aR 4 k1), some (aI v2), some (aI v3), some (aR 17 (k0 + 24)), some (aI x3)], [], M)
            refine gd_s (P := True ∧ True ∧ True) (σ1 := (108, [some (aR 13 k0), some (aR 4 k1), some (aI v2), some (aI v3), some (aR 17 (k0 + 24)), some (aI x3)], [aI ((1 : Int32)), aI x3], M)) tc_91 rfl 2 (fun u => ⟨_, rfl⟩) ⟨trivial, trivial, trivial⟩ ?_
            refine gd_br (c := ¬ x3 = ((1 : Int32))) (st1 := []) tc_91 rfl rfl (fun _ => rfl) ⟨fun hc => ?_, fun hc => ?_⟩
            · have h := h.1 hc
              show Gd d w 91 _ (115, [some (aR 13 k0), some (aR 4 k1), some (aI v2), some (aI v3), some (aR 17 (k0 + 24)), some (aI x3)], [], M)
              refine gd_s (P := True ∧ True) (σ1 := (116, [some (aR 13 k0), some (aR 4 k1), some (aI v2), some (aI v3), some (aR 17 (k0 + 24)), some (aI x3)], [aI ((1 : Int32))], M)) tc_91 rfl 1 (fun u => ⟨_, rfl⟩) ⟨trivial, trivial⟩ ?_
              exact gd_ret tc_91 rfl rfl trivial (fun _ => rfl) ⟨_, rfl, rfl, h⟩
            · have h := h.2 hc
              show Gd d w 91 _ (111, [some (aR 13 k0), some (aR 4 k1), some (aI v2), some (aI v3), some (aR 17 (k0 + 24)), some (aI x3)], [], M)
              refine gd_s (P := True ∧ True ∧ True) (σ1 := (116, [some (aR 13 k0), some (aR 4 k1), some (aI v2), some (aI v3), some (aR 17 (k0 + 24)), some (aI x3)], [aI ((0 : Int32))], M)) tc_91 rfl 2 (fun u => ⟨_, rfl⟩) ⟨trivial, trivial, trivial⟩ ?_
              exact gd_ret tc_91 rfl rfl trivial (fun _ => rfl) ⟨_, rfl, rfl, h⟩
          · have h := h.2 hc
            show Gd d w 91 _ (101, [some (aR 13 k0), some (aR 4 k1), some (aI v2), some (aI v3), some (aR 17 (k0 + 24)), some (aI x3)], [], M)
            refine gd_s (P := True ∧ True ∧ True) (σ1 := (116, [some (aR 13 k0), some (aR 4 k1), some (aI v2), some (aI v3), some (aR 17 (k0 + 24)), some (aI x3)], [aI ((2 : Int32))], M)) tc_91 rfl 2 (fun u => ⟨_, rfl⟩) ⟨trivial, trivial, trivial⟩ ?_
            exact gd_ret tc_91 rfl rfl trivial (fun _ => rfl) ⟨_, rfl, rfl, h⟩
        have h := h.2 hc
        refine gd_case ⟨fun hc => ?_, fun hc => ?_⟩
        · have h := h.1 hc
          show Gd d w 91 _ (72, [some (aR 13 k0), some (aR 4 k1), some (aI v2), some (aI v3), some (aR 17 (k0 + 24)), none], [], M)
          refine gd_s (P := True ∧ True) (σ1 := (73, [some (aR 13 k0), some (aR 4 k1), some (aI v2), some (aI v3), some (aR 17 (k0 + 24)), none], [aI ((1 : Int32))], M)) tc_91 rfl 1 (fun u => ⟨_, rfl⟩) ⟨trivial, trivial⟩ ?_
          exact gd_ret tc_91 rfl rfl trivial (fun _ => rfl) ⟨_, rfl, rfl, h⟩
        have h := h.2 hc
        refine gd_case ⟨fun hc => ?_, fun hc => ?_⟩
        · have h := h.1 hc
          show Gd d w 91 _ (74, [some (aR 13 k0), some (aR 4 k1), some (aI v2), some (aI v3), some (aR 17 (k0 + 24)), none], [], M)
          refine gd_s (P := True ∧ True) (σ1 := (75, [some (aR 13 k0), some (aR 4 k1), some (aI v2), some (aI v3), some (aR 17 (k0 + 24)), none], [aI ((0 : Int32))], M)) tc_91 rfl 1 (fun u => ⟨_, rfl⟩) ⟨trivial, trivial⟩ ?_
          exact gd_ret tc_91 rfl rfl trivial (fun _ => rfl) ⟨_, rfl, rfl, h⟩
        have h := h.2 hc
        refine gd_case ⟨fun hc => ?_, fun hc => ?_⟩
        · have h := h.1 hc
          show Gd d w 91 _ (76, [some (aR 13 k0), some (aR 4 k1), some (aI v2), some (aI v3), some (aR 17 (k0 + 24)), none], [], M)
          refine gd_s (P := True ∧ True) (σ1 := (77, [some (aR 13 k0), some (aR 4 k1), some (aI v2), some (aI v3), some (aR 17 (k0 + 24)), none], [aI ((2 : Int32))], M)) tc_91 rfl 1 (fun u => ⟨_, rfl⟩) ⟨trivial, trivial⟩ ?_
          exact gd_ret tc_91 rfl rfl trivial (fun _ => rfl) ⟨_, rfl, rfl, h⟩
        have h := h.2 hc
        show Gd d w 91 _ (135, [some (aR 13 k0), some (aR 4 k1), some (aI v2), some (aI v3), some (aR 17 (k0 + 24)), none], [], M)
        refine gd_s (P := True ∧ True ∧ True ∧ True ∧ True ∧ True) (σ1 := (143, [some (aR 13 k0), some (aR 4 k1), some (aI v2), some (aI v3), some (aR 17 (k0 + 24)), none], [aI v2, aR 17 (k0 + 24), aR 4 k1, aR 14 (k0 + 1)], M)) tc_91 rfl 5 (fun u => ⟨_, rfl⟩) ⟨trivial, trivial, trivial, trivial, trivial, trivial⟩ ?_
        refine gd_callN (ml := 9) (as := [aR 14 (k0 + 1), aR 4 k1, aR 17 (k0 + 24), aI v2]) (rest := []) tc_91 rfl rfl rfl rfl rfl (by omega) (by omega) (Nat.le_of_ble_eq_true rfl) rfl (g_Vd_truthOfTest (by omega) (by omega) h) (fun r9 M9 h => ?_)
        obtain ⟨x4, rfl, e9, h⟩ := h
        subst M9
        show Gd d w 91 _ (146, [some (aR 13 k0), some (aR 4 k1), some (aI v2), some (aI v3), some (aR 17 (k0 + 24)), none], [aI x4], M)
        exact gd_ret tc_91 rfl rfl trivial (fun _ => rfl) ⟨_, rfl, rfl, h⟩
      · have h := h.2 hc
        show Gd d w 91 _ (25, [some (aR 13 k0), some (aR 4 k1), some (aI v2), some (aI v3), some (aR 17 (k0 + 24)), none], [], M)
        refine gd_s (P := True ∧ True) (σ1 := (26, [some (aR 13 k0), some (aR 4 k1), some (aI v2), some (aI v3), some (aR 17 (k0 + 24)), none], [aI ((2 : Int32))], M)) tc_91 rfl 1 (fun u => ⟨_, rfl⟩) ⟨trivial, trivial⟩ ?_
        exact gd_ret tc_91 rfl rfl trivial (fun _ => rfl) ⟨_, rfl, rfl, h⟩
def S_Vt : Nat → ((Int32 → Prop) → Nat → Nat → Int32 → Int32 → aM → Prop) × ((Int32 → Prop) → Nat → Nat → Int32 → Int32 → Int32 → aM → Prop)
  | 0 => (fun _ _ _ _ _ _ => False, fun _ _ _ _ _ _ _ => False)
  | D + 1 => (w_Vd_truthOf_r ((S_Vt D).1) ((S_Vt D).2), w_Vd_truthOfJoint_r ((S_Vt D).1) ((S_Vt D).2))
theorem gS_Vt : ∀ (D d w : Nat), 2 + D ≤ d → 48 + D * 29 ≤ w → (∀ (post : Int32 → Prop) (k0 : Nat) (k1 : Nat) (v2 : Int32) (v3 : Int32) (M : aM), (S_Vt D).1 post k0 k1 v2 v3 M → Gd d w 91 (pIn M post) (0, aEnt 91 [aR 13 k0, aR 4 k1, aI v2, aI v3], [], M)) ∧ (∀ (post : Int32 → Prop) (k0 : Nat) (k1 : Nat) (v2 : Int32) (v3 : Int32) (v4 : Int32) (M : aM), (S_Vt D).2 post k0 k1 v2 v3 v4 M → Gd d w 92 (pIn M post) (0, aEnt 92 [aR 13 k0, aR 4 k1, aI v2, aI v3, aI v4], [], M)) := by
  intro D
  induction D with
  | zero =>
    intro d w hd hw
    exact ⟨fun post k0 k1 v2 v3 M h => h.elim, fun post k0 k1 v2 v3 v4 M h => h.elim⟩
  | succ D ih =>
    intro d w hd hw
    have ih91 := ih (d - 1) (w - (6 + 19)) (by omega) (by omega)
    have ih92 := ih (d - 1) (w - (10 + 19)) (by omega) (by omega)
    exact ⟨fun post k0 k1 v2 v3 M h => g_Vd_truthOf_r (by omega) (by omega) ih91.1 ih92.2 h, fun post k0 k1 v2 v3 v4 M h => g_Vd_truthOfJoint_r (by omega) (by omega) ih91.1 ih92.2 h⟩
/-- PolicyJudge$Verdict.truthOf(LPolicyJudge$Text;[III)I, to depth D -/
def w_Vd_truthOf (D : Nat) (post : Int32 → Prop) (k0 : Nat) (k1 : Nat) (v2 : Int32) (v3 : Int32) (M : aM) : Prop := (S_Vt D).1 post k0 k1 v2 v3 M
theorem g_Vd_truthOf {D d w : Nat} (hd : 2 + D ≤ d) (hw : 48 + D * 29 ≤ w) {post : Int32 → Prop} {k0 : Nat} {k1 : Nat} {v2 : Int32} {v3 : Int32} {M : aM} (h : w_Vd_truthOf D post k0 k1 v2 v3 M) : Gd d w 91 (pIn M post) (0, aEnt 91 [aR 13 k0, aR 4 k1, aI v2, aI v3], [], M) := (gS_Vt D d w hd hw).1 _ _ _ _ _ _ h
/-- PolicyJudge$Verdict.truthOfJoint(LPolicyJudge$Text;[IIII)I, to depth D -/
def w_Vd_truthOfJoint (D : Nat) (post : Int32 → Prop) (k0 : Nat) (k1 : Nat) (v2 : Int32) (v3 : Int32) (v4 : Int32) (M : aM) : Prop := (S_Vt D).2 post k0 k1 v2 v3 v4 M
theorem g_Vd_truthOfJoint {D d w : Nat} (hd : 2 + D ≤ d) (hw : 48 + D * 29 ≤ w) {post : Int32 → Prop} {k0 : Nat} {k1 : Nat} {v2 : Int32} {v3 : Int32} {v4 : Int32} {M : aM} (h : w_Vd_truthOfJoint D post k0 k1 v2 v3 v4 M) : Gd d w 92 (pIn M post) (0, aEnt 92 [aR 13 k0, aR 4 k1, aI v2, aI v3, aI v4], [], M) := (gS_Vt D d w hd hw).2 _ _ _ _ _ _ _ h
theorem tc_97 : tC 97 = c97 := rfl
def w_Vd_byFirst_L12 (post : Int32 → aM → Prop) : Nat → Nat → Nat → Int32 → Int32 → Int32 → aM → Prop
  | 0, _, _, _, _, _, _ => False
  | n + 1, k0, k1, v2, v3, v4, M => ((v4 ≤ ((0 : Int32))) → post ((0 : Int32)) M) ∧ (¬ (v4 ≤ ((0 : Int32))) → ((v3 = ((-1 : Int32))) → post ((0 : Int32)) M) ∧ (¬ (v3 = ((-1 : Int32))) → (vp_in v3 (rK M (k0 + 2)).2) ∧ ((((rI M (k0 + 2) v3.toNatClampNeg) = ((0 : Int32))) → (vp_in v3 (rK M (k1 + 10)).2) ∧ (w_Vd_byFirst_L12 post n k0 k1 v2 (rI M (k1 + 10) v3.toNatClampNeg) (v4 + (-1 : Int32)) M)) ∧ (¬ ((rI M (k0 + 2) v3.toNatClampNeg) = ((0 : Int32))) → (vp_in v2 (rK M (k0 + 3)).2) ∧ (vp_in v3 (rK M (k0 + 2)).2) ∧ post (rI (wI M (k0 + 3) v2.toNatClampNeg v3) (k0 + 2) v3.toNatClampNeg) (wI M (k0 + 3) v2.toNatClampNeg v3)))))
theorem g_Vd_byFirst_L12 {d w : Nat} (hd : 0 ≤ d) (hw : 0 ≤ w) {post : Int32 → aM → Prop} : ∀ (n : Nat) (k0 : Nat) (k1 : Nat) (v2 : Int32) (v3 : Int32) (v4 : Int32) (M : aM), w_Vd_byFirst_L12 post n k0 k1 v2 v3 v4 M → Gd d w 97 (pI post) (12, [some (aR 18 k0), some (aR 16 k1), some (aI v2), some (aI v3), some (aI v4)], [], M) := by
  intro n
  induction n with
  | zero => intro k0 k1 v2 v3 v4 M h; exact h.elim
  | succ n ih =>
    intro k0 k1 v2 v3 v4 M h
    show Gd d w 97 _ (12, [some (aR 18 k0), some (aR 16 k1), some (aI v2), some (aI v3), some (aI v4)], [], M)
    refine gd_s (P := True ∧ True) (σ1 := (14, [some (aR 18 k0), some (aR 16 k1), some (aI v2), some (aI v3), some (aI v4)], [aI v4], M)) tc_97 rfl 1 (fun u => ⟨_, rfl⟩) ⟨trivial, trivial⟩ ?_
    refine gd_br (c := v4 ≤ ((0 : Int32))) (st1 := []) tc_97 rfl rfl (fun _ => rfl) ⟨fun hc => ?_, fun hc => ?_⟩
    · have h := h.1 hc
      show Gd d w 97 _ (58, [some (aR 18 k0), some (aR 16 k1), some (aI v2), some (aI v3), some (aI v4)], [], M)
      refine gd_s (P := True ∧ True) (σ1 := (59, [some (aR 18 k0), some (aR 16 k1), some (aI v2), some (aI v3), some (aI v4)], [aI ((0 : Int32))], M)) tc_97 rfl 1 (fun u => ⟨_, rfl⟩) ⟨trivial, trivial⟩ ?_
      exact gd_ret tc_97 rfl rfl trivial (fun _ => rfl) ⟨_, rfl, h⟩
    · have h := h.2 hc
      show Gd d w 97 _ (17, [some (aR 18 k0), some (aR 16 k1), some (aI v2), some (aI v3), some (aI v4)], [], M)
      refine gd_s (P := True ∧ True ∧ True) (σ1 := (19, [some (aR 18 k0), some (aR 16 k1), some (aI v2), some (aI v3), some (aI v4)], [aI ((-1 : Int32)), aI v3], M)) tc_97 rfl 2 (fun u => ⟨_, rfl⟩) ⟨trivial, trivial, trivial⟩ ?_
      refine gd_br (c := v3 = ((-1 : Int32))) (st1 := []) tc_97 rfl rfl (fun _ => rfl) ⟨fun hc => ?_, fun hc => ?_⟩
      · have h := h.1 hc
        show Gd d w 97 _ (58, [some (aR 18 k0), some (aR 16 k1), some (aI v2), some (aI v3), some (aI v4)], [], M)
        refine gd_s (P := True ∧ True) (σ1 := (59, [some (aR 18 k0), some (aR 16 k1), some (aI v2), some (aI v3), some (aI v4)], [aI ((0 : Int32))], M)) tc_97 rfl 1 (fun u => ⟨_, rfl⟩) ⟨trivial, trivial⟩ ?_
        exact gd_ret tc_97 rfl rfl trivial (fun _ => rfl) ⟨_, rfl, h⟩
      · have h := h.2 hc
        show Gd d w 97 _ (22, [some (aR 18 k0), some (aR 16 k1), some (aI v2), some (aI v3), some (aI v4)], [], M)
        obtain ⟨c0, h⟩ := h
        refine gd_s (P := True ∧ True ∧ True ∧ (vp_in v3 (rK M (k0 + 2)).2) ∧ True) (σ1 := (28, [some (aR 18 k0), some (aR 16 k1), some (aI v2), some (aI v3), some (aI v4)], [aI (rI M (k0 + 2) v3.toNatClampNeg)], M)) tc_97 rfl 4 (fun u => ⟨_, rfl⟩) ⟨trivial, trivial, trivial, c0, trivial⟩ ?_
        refine gd_br (c := (rI M (k0 + 2) v3.toNatClampNeg) = ((0 : Int32))) (st1 := []) tc_97 rfl rfl (fun _ => rfl) ⟨fun hc => ?_, fun hc => ?_⟩
        · have h := h.1 hc
          show Gd d w 97 _ (45, [some (aR 18 k0), some (aR 16 k1), some (aI v2), some (aI v3), some (aI v4)], [], M)
          obtain ⟨c0, h⟩ := h
          refine gd_s (P := True ∧ True ∧ True ∧ (vp_in v3 (rK M (k1 + 10)).2) ∧ True ∧ True ∧ True ∧ True) (σ1 := (12, [some (aR 18 k0), some (aR 16 k1), some (aI v2), some (aI (rI M (k1 + 10) v3.toNatClampNeg)), some (aI (v4 + (-1 : Int32)))], [], M)) tc_97 rfl 7 (fun u => ⟨_, rfl⟩) ⟨trivial, trivial, trivial, c0, trivial, trivial, trivial, trivial⟩ ?_
          exact ih k0 k1 v2 (rI M (k1 + 10) v3.toNatClampNeg) (v4 + (-1 : Int32)) M h
        · have h := h.2 hc
          show Gd d w 97 _ (31, [some (aR 18 k0), some (aR 16 k1), some (aI v2), some (aI v3), some (aI v4)], [], M)
          obtain ⟨c0, c1, h⟩ := h
          refine gd_s (P := True ∧ True ∧ True ∧ True ∧ (vp_in v2 (rK M (k0 + 3)).2) ∧ True ∧ True ∧ True ∧ (vp_in v3 (rK M (k0 + 2)).2) ∧ True) (σ1 := (44, [some (aR 18 k0), some (aR 16 k1), some (aI v2), some (aI v3), some (aI v4)], [aI (rI (wI M (k0 + 3) v2.toNatClampNeg v3) (k0 + 2) v3.toNatClampNeg)], wI M (k0 + 3) v2.toNatClampNeg v3)) tc_97 rfl 9 (fun u => ⟨_, rfl⟩) ⟨trivial, trivial, trivial, trivial, c0, trivial, trivial, trivial, c1, trivial⟩ ?_
          exact gd_ret tc_97 rfl rfl trivial (fun _ => rfl) ⟨_, rfl, h⟩
/-- PolicyJudge$Verdict.byFirst(LPolicyJudge$Nodes;I)I -/
def w_Vd_byFirst (post : Int32 → aM → Prop) (k0 : Nat) (k1 : Nat) (v2 : Int32) (M : aM) : Prop := (vp_in v2 (rK M (k1 + 9)).2) ∧ (∃ n9, w_Vd_byFirst_L12 post n9 k0 k1 v2 (v2 + ((1 : Int32))) (rI M (k1 + 9) v2.toNatClampNeg) M)
theorem g_Vd_byFirst {d w : Nat} (hd : 0 ≤ d) (hw : 0 ≤ w) {post : Int32 → aM → Prop} {k0 : Nat} {k1 : Nat} {v2 : Int32} {M : aM} (h : w_Vd_byFirst post k0 k1 v2 M) : Gd d w 97 (pI post) (0, aEnt 97 [aR 18 k0, aR 16 k1, aI v2], [], M) := by
  unfold w_Vd_byFirst at h
  show Gd d w 97 _ (0, [some (aR 18 k0), some (aR 16 k1), some (aI v2), none, none], [], M)
  obtain ⟨c0, h⟩ := h
  refine gd_s (P := True ∧ True ∧ True ∧ True ∧ True ∧ True ∧ True ∧ (vp_in v2 (rK M (k1 + 9)).2) ∧ True ∧ True) (σ1 := (12, [some (aR 18 k0), some (aR 16 k1), some (aI v2), some (aI (v2 + ((1 : Int32)))), some (aI (rI M (k1 + 9) v2.toNatClampNeg))], [], M)) tc_97 rfl 9 (fun u => ⟨_, rfl⟩) ⟨trivial, trivial, trivial, trivial, trivial, trivial, trivial, c0, trivial, trivial⟩ ?_
  obtain ⟨n9, h⟩ := h
  exact g_Vd_byFirst_L12 hd hw n9 k0 k1 v2 (v2 + ((1 : Int32))) (rI M (k1 + 9) v2.toNatClampNeg) M h
theorem tc_98 : tC 98 = c98 := rfl
def w_Vd_byOne_J84 (post : Int32 → aM → Prop) (k0 : Nat) (v2 : Int32) (v3 : Int32) (M : aM) : Prop := (vp_in v2 (rK M (k0 + 3)).2) ∧ (((¬ v3 = ((-1 : Int32))) → (vp_in v3 (rK M (k0 + 2)).2) ∧ post (rI (wI M (k0 + 3) v2.toNatClampNeg v3) (k0 + 2) v3.toNatClampNeg) (wI M (k0 + 3) v2.toNatClampNeg v3)) ∧ (¬ (¬ v3 = ((-1 : Int32))) → post ((0 : Int32)) (wI M (k0 + 3) v2.toNatClampNeg v3)))
theorem g_Vd_byOne_J84 {d w : Nat} (hd : 0 ≤ d) (hw : 0 ≤ w) {post : Int32 → aM → Prop} (k0 : Nat) (v2 : Int32) (v3 : Int32) (o1 o4 o5 : Option aV) (M : aM) (h : w_Vd_byOne_J84 post k0 v2 v3 M) : Gd d w 98 (pI post) (84, [some (aR 18 k0), o1, some (aI v2), some (aI v3), o4, o5], [], M) := by
  unfold w_Vd_byOne_J84 at h
  show Gd d w 98 _ (84, [some (aR 18 k0), o1, some (aI v2), some (aI v3), o4, o5], [], M)
  obtain ⟨c0, h⟩ := h
  refine gd_s (P := True ∧ True ∧ True ∧ True ∧ (vp_in v2 (rK M (k0 + 3)).2) ∧ True ∧ True ∧ True) (σ1 := (93, [some (aR 18 k0), o1, some (aI v2), some (aI v3), o4, o5], [aI ((-1 : Int32)), aI v3], wI M (k0 + 3) v2.toNatClampNeg v3)) tc_98 rfl 7 (fun u => ⟨_, rfl⟩) ⟨trivial, trivial, trivial, trivial, c0, trivial, trivial, trivial⟩ ?_
  refine gd_br (c := ¬ v3 = ((-1 : Int32))) (st1 := []) tc_98 rfl rfl (fun _ => rfl) ⟨fun hc => ?_, fun hc => ?_⟩
  · have h := h.1 hc
    show Gd d w 98 _ (100, [some (aR 18 k0), o1, some (aI v2), some (aI v3), o4, o5], [], wI M (k0 + 3) v2.toNatClampNeg v3)
    obtain ⟨c0, h⟩ := h
    refine gd_s (P := True ∧ True ∧ True ∧ (vp_in v3 (rK M (k0 + 2)).2) ∧ True) (σ1 := (106, [some (aR 18 k0), o1, some (aI v2), some (aI v3), o4, o5], [aI (rI (wI M (k0 + 3) v2.toNatClampNeg v3) (k0 + 2) v3.toNatClampNeg)], wI M (k0 + 3) v2.toNatClampNeg v3)) tc_98 rfl 4 (fun u => ⟨_, rfl⟩) ⟨trivial, trivial, trivial, c0, trivial⟩ ?_
    exact gd_ret tc_98 rfl rfl trivial (fun _ => rfl) ⟨_, rfl, h⟩
  · have h := h.2 hc
    show Gd d w 98 _ (96, [some (aR 18 k0), o1, some (aI v2), some (aI v3), o4, o5], [], wI M (k0 + 3) v2.toNatClampNeg v3)
    refine gd_s (P := True ∧ True ∧ True) (σ1 := (106, [some (aR 18 k0), o1, some (aI v2), some (aI v3), o4, o5], [aI ((0 : Int32))], wI M (k0 + 3) v2.toNatClampNeg v3)) tc_98 rfl 2 (fun u => ⟨_, rfl⟩) ⟨trivial, trivial, trivial⟩ ?_
    exact gd_ret tc_98 rfl rfl trivial (fun _ => rfl) ⟨_, rfl, h⟩
def w_Vd_byOne_J69 (post : Int32 → aM → Prop) (K15 : Nat → Nat → Int32 → Int32 → Int32 → Int32 → aM → Prop) (k0 : Nat) (k1 : Nat) (v2 : Int32) (v3 : Int32) (v4 : Int32) (v5 : Int32) (M : aM) : Prop := (vp_in v4 (rK M (k1 + 10)).2) ∧ (K15 k0 k1 v2 v3 (rI M (k1 + 10) v4.toNatClampNeg) (v5 + (-1 : Int32)) M)
theorem g_Vd_byOne_J69 {d w : Nat} (hd : 0 ≤ d) (hw : 0 ≤ w) {post : Int32 → aM → Prop} {K15 : Nat → Nat → Int32 → Int32 → Int32 → Int32 → aM → Prop} (hK15 : ∀ (k0 : Nat) (k1 : Nat) (v2 : Int32) (v3 : Int32) (v4 : Int32) (v5 : Int32) (M : aM), K15 k0 k1 v2 v3 v4 v5 M → Gd d w 98 (pI post) (15, [some (aR 18 k0), some (aR 16 k1), some (aI v2), some (aI v3), some (aI v4), some (aI v5)], [], M)) (k0 : Nat) (k1 : Nat) (v2 : Int32) (v3 : Int32) (v4 : Int32) (v5 : Int32) (M : aM) (h : w_Vd_byOne_J69 post K15 k0 k1 v2 v3 v4 v5 M) : Gd d w 98 (pI post) (69, [some (aR 18 k0), some (aR 16 k1), some (aI v2), some (aI v3), some (aI v4), some (aI v5)], [], M) := by
  unfold w_Vd_byOne_J69 at h
  show Gd d w 98 _ (69, [some (aR 18 k0), some (aR 16 k1), some (aI v2), some (aI v3), some (aI v4), some (aI v5)], [], M)
  obtain ⟨c0, h⟩ := h
  refine gd_s (P := True ∧ True ∧ True ∧ (vp_in v4 (rK M (k1 + 10)).2) ∧ True ∧ True ∧ True ∧ True) (σ1 := (15, [some (aR 18 k0), some (aR 16 k1), some (aI v2), some (aI v3), some (aI (rI M (k1 + 10) v4.toNatClampNeg)), some (aI (v5 + (-1 : Int32)))], [], M)) tc_98 rfl 7 (fun u => ⟨_, rfl⟩) ⟨trivial, trivial, trivial, c0, trivial, trivial, trivial, trivial⟩ ?_
  exact hK15 k0 k1 v2 v3 (rI M (k1 + 10) v4.toNatClampNeg) (v5 + (-1 : Int32)) M h
def w_Vd_byOne_J55 (post : Int32 → aM → Prop) (K15 : Nat → Nat → Int32 → Int32 → Int32 → Int32 → aM → Prop) (k0 : Nat) (k1 : Nat) (v2 : Int32) (v3 : Int32) (v4 : Int32) (v5 : Int32) (M : aM) : Prop := (vp_in v4 (rK M (k0 + 1)).2) ∧ (((¬ (rI M (k0 + 1) v4.toNatClampNeg) = ((1 : Int32))) → w_Vd_byOne_J69 post K15 k0 k1 v2 v3 v4 v5 M) ∧ (¬ (¬ (rI M (k0 + 1) v4.toNatClampNeg) = ((1 : Int32))) → w_Vd_byOne_J69 post K15 k0 k1 v2 v4 v4 v5 M))
theorem g_Vd_byOne_J55 {d w : Nat} (hd : 0 ≤ d) (hw : 0 ≤ w) {post : Int32 → aM → Prop} {K15 : Nat → Nat → Int32 → Int32 → Int32 → Int32 → aM → Prop} (hK15 : ∀ (k0 : Nat) (k1 : Nat) (v2 : Int32) (v3 : Int32) (v4 : Int32) (v5 : Int32) (M : aM), K15 k0 k1 v2 v3 v4 v5 M → Gd d w 98 (pI post) (15, [some (aR 18 k0), some (aR 16 k1), some (aI v2), some (aI v3), some (aI v4), some (aI v5)], [], M)) (k0 : Nat) (k1 : Nat) (v2 : Int32) (v3 : Int32) (v4 : Int32) (v5 : Int32) (M : aM) (h : w_Vd_byOne_J55 post K15 k0 k1 v2 v3 v4 v5 M) : Gd d w 98 (pI post) (55, [some (aR 18 k0), some (aR 16 k1), some (aI v2), some (aI v3), some (aI v4), some (aI v5)], [], M) := by
  unfold w_Vd_byOne_J55 at h
  show Gd d w 98 _ (55, [some (aR 18 k0), some (aR 16 k1), some (aI v2), some (aI v3), some (aI v4), some (aI v5)], [], M)
  obtain ⟨c0, h⟩ := h
  refine gd_s (P := True ∧ True ∧ True ∧ (vp_in v4 (rK M (k0 + 1)).2) ∧ True ∧ True) (σ1 := (63, [some (aR 18 k0), some (aR 16 k1), some (aI v2), some (aI v3), some (aI v4), some (aI v5)], [aI ((1 : Int32)), aI (rI M (k0 + 1) v4.toNatClampNeg)], M)) tc_98 rfl 5 (fun u => ⟨_, rfl⟩) ⟨trivial, trivial, trivial, c0, trivial, trivial⟩ ?_
  refine gd_br (c := ¬ (rI M (k0 + 1) v4.toNatClampNeg) = ((1 : Int32))) (st1 := []) tc_98 rfl rfl (fun _ => rfl) ⟨fun hc => ?_, fun hc => ?_⟩
  · have h := h.1 hc
    exact g_Vd_byOne_J69 hd hw hK15 k0 k1 v2 v3 v4 v5 M h
  · have h := h.2 hc
    show Gd d w 98 _ (66, [some (aR 18 k0), some (aR 16 k1), some (aI v2), some (aI v3), some (aI v4), some (aI v5)], [], M)
    refine gd_s (P := True ∧ True ∧ True) (σ1 := (69, [some (aR 18 k0), some (aR 16 k1), some (aI v2), some (aI v4), some (aI v4), some (aI v5)], [], M)) tc_98 rfl 2 (fun u => ⟨_, rfl⟩) ⟨trivial, trivial, trivial⟩ ?_
    exact g_Vd_byOne_J69 hd hw hK15 k0 k1 v2 v4 v4 v5 M h
def w_Vd_byOne_L15 (post : Int32 → aM → Prop) : Nat → Nat → Nat → Int32 → Int32 → Int32 → Int32 → aM → Prop
  | 0, _, _, _, _, _, _, _ => False
  | n + 1, k0, k1, v2, v3, v4, v5, M => ((v5 ≤ ((0 : Int32))) → w_Vd_byOne_J84 post k0 v2 v3 M) ∧ (¬ (v5 ≤ ((0 : Int32))) → ((v4 = ((-1 : Int32))) → w_Vd_byOne_J84 post k0 v2 v3 M) ∧ (¬ (v4 = ((-1 : Int32))) → (vp_in v4 (rK M (k0 + 1)).2) ∧ ((((rI M (k0 + 1) v4.toNatClampNeg) = ((2 : Int32))) → post ((5 : Int32)) M) ∧ (¬ ((rI M (k0 + 1) v4.toNatClampNeg) = ((2 : Int32))) → (vp_in v4 (rK M (k0 + 1)).2) ∧ (((¬ (rI M (k0 + 1) v4.toNatClampNeg) = ((1 : Int32))) → w_Vd_byOne_J55 post (w_Vd_byOne_L15 post n) k0 k1 v2 v3 v4 v5 M) ∧ (¬ (¬ (rI M (k0 + 1) v4.toNatClampNeg) = ((1 : Int32))) → ((v3 = ((-1 : Int32))) → w_Vd_byOne_J55 post (w_Vd_byOne_L15 post n) k0 k1 v2 v3 v4 v5 M) ∧ (¬ (v3 = ((-1 : Int32))) → post ((5 : Int32)) M)))))))
theorem g_Vd_byOne_L15 {d w : Nat} (hd : 0 ≤ d) (hw : 0 ≤ w) {post : Int32 → aM → Prop} : ∀ (n : Nat) (k0 : Nat) (k1 : Nat) (v2 : Int32) (v3 : Int32) (v4 : Int32) (v5 : Int32) (M : aM), w_Vd_byOne_L15 post n k0 k1 v2 v3 v4 v5 M → Gd d w 98 (pI post) (15, [some (aR 18 k0), some (aR 16 k1), some (aI v2), some (aI v3), some (aI v4), some (aI v5)], [], M) := by
  intro n
  induction n with
  | zero => intro k0 k1 v2 v3 v4 v5 M h; exact h.elim
  | succ n ih =>
    intro k0 k1 v2 v3 v4 v5 M h
    show Gd d w 98 _ (15, [some (aR 18 k0), some (aR 16 k1), some (aI v2), some (aI v3), some (aI v4), some (aI v5)], [], M)
    refine gd_s (P := True ∧ True) (σ1 := (17, [some (aR 18 k0), some (aR 16 k1), some (aI v2), some (aI v3), some (aI v4), some (aI v5)], [aI v5], M)) tc_98 rfl 1 (fun u => ⟨_, rfl⟩) ⟨trivial, trivial⟩ ?_
    refine gd_br (c := v5 ≤ ((0 : Int32))) (st1 := []) tc_98 rfl rfl (fun _ => rfl) ⟨fun hc => ?_, fun hc => ?_⟩
    · have h := h.1 hc
      exact g_Vd_byOne_J84 hd hw k0 v2 v3 (some (aR 16 k1)) (some (aI v4)) (some (aI v5)) M h
    · have h := h.2 hc
      show Gd d w 98 _ (20, [some (aR 18 k0), some (aR 16 k1), some (aI v2), some (aI v3), some (aI v4), some (aI v5)], [], M)
      refine gd_s (P := True ∧ True ∧ True) (σ1 := (23, [some (aR 18 k0), some (aR 16 k1), some (aI v2), some (aI v3), some (aI v4), some (aI v5)], [aI ((-1 : Int32)), aI v4], M)) tc_98 rfl 2 (fun u => ⟨_, rfl⟩) ⟨trivial, trivial, trivial⟩ ?_
      refine gd_br (c := v4 = ((-1 : Int32))) (st1 := []) tc_98 rfl rfl (fun _ => rfl) ⟨fun hc => ?_, fun hc => ?_⟩
      · have h := h.1 hc
        exact g_Vd_byOne_J84 hd hw k0 v2 v3 (some (aR 16 k1)) (some (aI v4)) (some (aI v5)) M h
      · have h := h.2 hc
        show Gd d w 98 _ (26, [some (aR 18 k0), some (aR 16 k1), some (aI v2), some (aI v3), some (aI v4), some (aI v5)], [], M)
        obtain ⟨c0, h⟩ := h
        refine gd_s (P := True ∧ True ∧ True ∧ (vp_in v4 (rK M (k0 + 1)).2) ∧ True ∧ True) (σ1 := (34, [some (aR 18 k0), some (aR 16 k1), some (aI v2), some (aI v3), some (aI v4), some (aI v5)], [aI ((2 : Int32)), aI (rI M (k0 + 1) v4.toNatClampNeg)], M)) tc_98 rfl 5 (fun u => ⟨_, rfl⟩) ⟨trivial, trivial, trivial, c0, trivial, trivial⟩ ?_
        refine gd_br (c := (rI M (k0 + 1) v4.toNatClampNeg) = ((2 : Int32))) (st1 := []) tc_98 rfl rfl (fun _ => rfl) ⟨fun hc => ?_, fun hc => ?_⟩
        · have h := h.1 hc
          show Gd d w 98 _ (53, [some (aR 18 k0), some (aR 16 k1), some (aI v2), some (aI v3), some (aI v4), some (aI v5)], [], M)
          refine gd_s (P := True ∧ True) (σ1 := (54, [some (aR 18 k0), some (aR 16 k1), some (aI v2), some (aI v3), some (aI v4), some (aI v5)], [aI ((5 : Int32))], M)) tc_98 rfl 1 (fun u => ⟨_, rfl⟩) ⟨trivial, trivial⟩ ?_
          exact gd_ret tc_98 rfl rfl trivial (fun _ => rfl) ⟨_, rfl, h⟩
        · have h := h.2 hc
          show Gd d w 98 _ (37, [some (aR 18 k0), some (aR 16 k1), some (aI v2), some (aI v3), some (aI v4), some (aI v5)], [], M)
          obtain ⟨c0, h⟩ := h
          refine gd_s (P := True ∧ True ∧ True ∧ (vp_in v4 (rK M (k0 + 1)).2) ∧ True ∧ True) (σ1 := (45, [some (aR 18 k0), some (aR 16 k1), some (aI v2), some (aI v3), some (aI v4), some (aI v5)], [aI ((1 : Int32)), aI (rI M (k0 + 1) v4.toNatClampNeg)], M)) tc_98 rfl 5 (fun u => ⟨_, rfl⟩) ⟨trivial, trivial, trivial, c0, trivial, trivial⟩ ?_
          refine gd_br (c := ¬ (rI M (k0 + 1) v4.toNatClampNeg) = ((1 : Int32))) (st1 := []) tc_98 rfl rfl (fun _ => rfl) ⟨fun hc => ?_, fun hc => ?_⟩
          · have h := h.1 hc
            exact g_Vd_byOne_J55 hd hw ih k0 k1 v2 v3 v4 v5 M h
          · have h := h.2 hc
            show Gd d w 98 _ (48, [some (aR 18 k0), some (aR 16 k1), some (aI v2), some (aI v3), some (aI v4), some (aI v5)], [], M)
            refine gd_s (P := True ∧ True ∧ True) (σ1 := (50, [some (aR 18 k0), some (aR 16 k1), some (aI v2), some (aI v3), some (aI v4), some (aI v5)], [aI ((-1 : Int32)), aI v3], M)) tc_98 rfl 2 (fun u => ⟨_, rfl⟩) ⟨trivial, trivial, trivial⟩ ?_
            refine gd_br (c := v3 = ((-1 : Int32))) (st1 := []) tc_98 rfl rfl (fun _ => rfl) ⟨fun hc => ?_, fun hc => ?_⟩
            · have h := h.1 hc
              exact g_Vd_byOne_J55 hd hw ih k0 k1 v2 v3 v4 v5 M h
            · have h := h.2 hc
              show Gd d w 98 _ (53, [some (aR 18 k0), some (aR 16 k1), some (aI v2), some (aI v3), some (aI v4), some (aI v5)], [], M)
              refine gd_s (P := True ∧ True) (σ1 := (54, [some (aR 18 k0), some (aR 16 k1), some (aI v2), some (aI v3), some (aI v4), some (aI v5)], [aI ((5 : Int32))], M)) tc_98 rfl 1 (fun u => ⟨_, rfl⟩) ⟨trivial, trivial⟩ ?_
              exact gd_ret tc_98 rfl rfl trivial (fun _ => rfl) ⟨_, rfl, h⟩
/-- PolicyJudge$Verdict.byOne(LPolicyJudge$Nodes;I)I -/
def w_Vd_byOne (post : Int32 → aM → Prop) (k0 : Nat) (k1 : Nat) (v2 : Int32) (M : aM) : Prop := (vp_in v2 (rK M (k1 + 9)).2) ∧ (∃ n9, w_Vd_byOne_L15 post n9 k0 k1 v2 ((-1 : Int32)) (v2 + ((1 : Int32))) (rI M (k1 + 9) v2.toNatClampNeg) M)
theorem g_Vd_byOne {d w : Nat} (hd : 0 ≤ d) (hw : 0 ≤ w) {post : Int32 → aM → Prop} {k0 : Nat} {k1 : Nat} {v2 : Int32} {M : aM} (h : w_Vd_byOne post k0 k1 v2 M) : Gd d w 98 (pI post) (0, aEnt 98 [aR 18 k0, aR 16 k1, aI v2], [], M) := by
  unfold w_Vd_byOne at h
  show Gd d w 98 _ (0, [some (aR 18 k0), some (aR 16 k1), some (aI v2), none, none, none], [], M)
  obtain ⟨c0, h⟩ := h
  refine gd_s (P := True ∧ True ∧ True ∧ True ∧ True ∧ True ∧ True ∧ True ∧ True ∧ (vp_in v2 (rK M (k1 + 9)).2) ∧ True ∧ True) (σ1 := (15, [some (aR 18 k0), some (aR 16 k1), some (aI v2), some (aI ((-1 : Int32))), some (aI (v2 + ((1 : Int32)))), some (aI (rI M (k1 + 9) v2.toNatClampNeg))], [], M)) tc_98 rfl 11 (fun u => ⟨_, rfl⟩) ⟨trivial, trivial, trivial, trivial, trivial, trivial, trivial, trivial, trivial, c0, trivial, trivial⟩ ?_
  obtain ⟨n9, h⟩ := h
  exact g_Vd_byOne_L15 hd hw n9 k0 k1 v2 ((-1 : Int32)) (v2 + ((1 : Int32))) (rI M (k1 + 9) v2.toNatClampNeg) M h
theorem tc_100 : tC 100 = c100 := rfl
/-- PolicyJudge$Verdict.has(II)Z -/
def w_Vd_has (post : Int32 → Prop) (v0 : Int32) (v1 : Int32) (M : aM) : Prop := ((((v0 >>> (v1 &&& 31)) &&& ((1 : Int32))) = ((0 : Int32))) → (((0 : Int32)) = 0 ∨ ((0 : Int32)) = 1) ∧ post ((0 : Int32))) ∧ (¬ (((v0 >>> (v1 &&& 31)) &&& ((1 : Int32))) = ((0 : Int32))) → (((1 : Int32)) = 0 ∨ ((1 : Int32)) = 1) ∧ post ((1 : Int32)))
theorem g_Vd_has {d w : Nat} (hd : 0 ≤ d) (hw : 0 ≤ w) {post : Int32 → Prop} {v0 : Int32} {v1 : Int32} {M : aM} (h : w_Vd_has post v0 v1 M) : Gd d w 100 (pIn M post) (0, aEnt 100 [aI v0, aI v1], [], M) := by
  unfold w_Vd_has at h
  show Gd d w 100 _ (0, [some (aI v0), some (aI v1)], [], M)
  refine gd_s (P := True ∧ True ∧ True ∧ True ∧ True ∧ True) (σ1 := (5, [some (aI v0), some (aI v1)], [aI ((v0 >>> (v1 &&& 31)) &&& ((1 : Int32)))], M)) tc_100 rfl 5 (fun u => ⟨_, rfl⟩) ⟨trivial, trivial, trivial, trivial, trivial, trivial⟩ ?_
  refine gd_br (c := ((v0 >>> (v1 &&& 31)) &&& ((1 : Int32))) = ((0 : Int32))) (st1 := []) tc_100 rfl rfl (fun _ => rfl) ⟨fun hc => ?_, fun hc => ?_⟩
  · have h := h.1 hc
    show Gd d w 100 _ (12, [some (aI v0), some (aI v1)], [], M)
    refine gd_s (P := True ∧ True) (σ1 := (13, [some (aI v0), some (aI v1)], [aI ((0 : Int32))], M)) tc_100 rfl 1 (fun u => ⟨_, rfl⟩) ⟨trivial, trivial⟩ ?_
    exact gd_ret tc_100 rfl rfl h.1 (fun _ => rfl) ⟨_, rfl, rfl, h.2⟩
  · have h := h.2 hc
    show Gd d w 100 _ (8, [some (aI v0), some (aI v1)], [], M)
    refine gd_s (P := True ∧ True ∧ True) (σ1 := (13, [some (aI v0), some (aI v1)], [aI ((1 : Int32))], M)) tc_100 rfl 2 (fun u => ⟨_, rfl⟩) ⟨trivial, trivial, trivial⟩ ?_
    exact gd_ret tc_100 rfl rfl h.1 (fun _ => rfl) ⟨_, rfl, rfl, h.2⟩
theorem tc_99 : tC 99 = c99 := rfl
def w_Vd_overridden_J54 (M : aM) (post : Int32 → Prop) (v0 : Int32) (v1 : Int32) (v2 : Int32) (v3 : Int32) (v4 : Int32) : Prop := ((v3 = ((0 : Int32))) → w_Vd_has (fun x1 => ((x1 = ((0 : Int32))) → ((v4 = ((0 : Int32))) → post ((0 : Int32))) ∧ (¬ (v4 = ((0 : Int32))) → post (v2 + ((2 : Int32))))) ∧ (¬ (x1 = ((0 : Int32))) → post v2)) v0 v2 M) ∧ (¬ (v3 = ((0 : Int32))) → post (v1 + ((2 : Int32))))
theorem g_Vd_overridden_J54 {d w : Nat} (hd : 1 ≤ d) (hw : 21 ≤ w) {M : aM} {post : Int32 → Prop} (v0 : Int32) (v1 : Int32) (v2 : Int32) (v3 : Int32) (v4 : Int32) (h : w_Vd_overridden_J54 M post v0 v1 v2 v3 v4) : Gd d w 99 (pIn M post) (54, [some (aI v0), some (aI v1), some (aI v2), some (aI v3), some (aI v4)], [], M) := by
  unfold w_Vd_overridden_J54 at h
  show Gd d w 99 _ (54, [some (aI v0), some (aI v1), some (aI v2), some (aI v3), some (aI v4)], [], M)
  refine gd_s (P := True ∧ True) (σ1 := (55, [some (aI v0), some (aI v1), some (aI v2), some (aI v3), some (aI v4)], [aI v3], M)) tc_99 rfl 1 (fun u => ⟨_, rfl⟩) ⟨trivial, trivial⟩ ?_
  refine gd_br (c := v3 = ((0 : Int32))) (st1 := []) tc_99 rfl rfl (fun _ => rfl) ⟨fun hc => ?_, fun hc => ?_⟩
  · have h := h.1 hc
    show Gd d w 99 _ (62, [some (aI v0), some (aI v1), some (aI v2), some (aI v3), some (aI v4)], [], M)
    refine gd_s (P := True ∧ True ∧ True) (σ1 := (64, [some (aI v0), some (aI v1), some (aI v2), some (aI v3), some (aI v4)], [aI v2, aI v0], M)) tc_99 rfl 2 (fun u => ⟨_, rfl⟩) ⟨trivial, trivial, trivial⟩ ?_
    refine gd_callN (ml := 2) (as := [aI v0, aI v2]) (rest := []) tc_99 rfl rfl rfl rfl rfl (by omega) (by omega) (Nat.le_of_ble_eq_true rfl) rfl (g_Vd_has (by omega) (by omega) h) (fun r9 M9 h => ?_)
    obtain ⟨x1, rfl, e9, h⟩ := h
    subst M9
    show Gd d w 99 _ (67, [some (aI v0), some (aI v1), some (aI v2), some (aI v3), some (aI v4)], [aI x1], M)
    refine gd_br (c := x1 = ((0 : Int32))) (st1 := []) tc_99 rfl rfl (fun _ => rfl) ⟨fun hc => ?_, fun hc => ?_⟩
    · have h := h.1 hc
      show Gd d w 99 _ (72, [some (aI v0), some (aI v1), some (aI v2), some (aI v3), some (aI v4)], [], M)
      refine gd_s (P := True ∧ True) (σ1 := (74, [some (aI v0), some (aI v1), some (aI v2), some (aI v3), some (aI v4)], [aI v4], M)) tc_99 rfl 1 (fun u => ⟨_, rfl⟩) ⟨trivial, trivial⟩ ?_
      refine gd_br (c := v4 = ((0 : Int32))) (st1 := []) tc_99 rfl rfl (fun _ => rfl) ⟨fun hc => ?_, fun hc => ?_⟩
      · have h := h.1 hc
        show Gd d w 99 _ (83, [some (aI v0), some (aI v1), some (aI v2), some (aI v3), some (aI v4)], [], M)
        refine gd_s (P := True ∧ True) (σ1 := (84, [some (aI v0), some (aI v1), some (aI v2), some (aI v3), some (aI v4)], [aI ((0 : Int32))], M)) tc_99 rfl 1 (fun u => ⟨_, rfl⟩) ⟨trivial, trivial⟩ ?_
        exact gd_ret tc_99 rfl rfl trivial (fun _ => rfl) ⟨_, rfl, rfl, h⟩
      · have h := h.2 hc
        show Gd d w 99 _ (77, [some (aI v0), some (aI v1), some (aI v2), some (aI v3), some (aI v4)], [], M)
        refine gd_s (P := True ∧ True ∧ True ∧ True ∧ True) (σ1 := (84, [some (aI v0), some (aI v1), some (aI v2), some (aI v3), some (aI v4)], [aI (v2 + ((2 : Int32)))], M)) tc_99 rfl 4 (fun u => ⟨_, rfl⟩) ⟨trivial, trivial, trivial, trivial, trivial⟩ ?_
        exact gd_ret tc_99 rfl rfl trivial (fun _ => rfl) ⟨_, rfl, rfl, h⟩
    · have h := h.2 hc
      show Gd d w 99 _ (70, [some (aI v0), some (aI v1), some (aI v2), some (aI v3), some (aI v4)], [], M)
      refine gd_s (P := True ∧ True) (σ1 := (71, [some (aI v0), some (aI v1), some (aI v2), some (aI v3), some (aI v4)], [aI v2], M)) tc_99 rfl 1 (fun u => ⟨_, rfl⟩) ⟨trivial, trivial⟩ ?_
      exact gd_ret tc_99 rfl rfl trivial (fun _ => rfl) ⟨_, rfl, rfl, h⟩
  · have h := h.2 hc
    show Gd d w 99 _ (58, [some (aI v0), some (aI v1), some (aI v2), some (aI v3), some (aI v4)], [], M)
    refine gd_s (P := True ∧ True ∧ True ∧ True) (σ1 := (61, [some (aI v0), some (aI v1), some (aI v2), some (aI v3), some (aI v4)], [aI (v1 + ((2 : Int32)))], M)) tc_99 rfl 3 (fun u => ⟨_, rfl⟩) ⟨trivial, trivial, trivial, trivial⟩ ?_
    exact gd_ret tc_99 rfl rfl trivial (fun _ => rfl) ⟨_, rfl, rfl, h⟩
/-- PolicyJudge$Verdict.overridden(III)I -/
def w_Vd_overridden (post : Int32 → Prop) (v0 : Int32) (v1 : Int32) (v2 : Int32) (M : aM) : Prop := w_Vd_has (fun x1 => ((x1 = ((0 : Int32))) → w_Vd_has (fun x2 => w_Vd_has (fun x3 => w_Vd_has (fun x4 => ((¬ x4 = ((0 : Int32))) → post ((5 : Int32))) ∧ (¬ (¬ x4 = ((0 : Int32))) → ((x2 = ((0 : Int32))) → w_Vd_overridden_J54 M post v0 v1 v2 x2 x3) ∧ (¬ (x2 = ((0 : Int32))) → w_Vd_has (fun x5 => ((¬ x5 = ((0 : Int32))) → post ((5 : Int32))) ∧ (¬ (¬ x5 = ((0 : Int32))) → ((x3 = ((0 : Int32))) → w_Vd_overridden_J54 M post v0 v1 v2 x2 x3) ∧ (¬ (x3 = ((0 : Int32))) → post ((5 : Int32))))) v0 v2 M))) v0 ((5 : Int32)) M) v0 (v2 + ((2 : Int32))) M) v0 (v1 + ((2 : Int32))) M) ∧ (¬ (x1 = ((0 : Int32))) → post v1)) v0 v1 M
theorem g_Vd_overridden {d w : Nat} (hd : 1 ≤ d) (hw : 21 ≤ w) {post : Int32 → Prop} {v0 : Int32} {v1 : Int32} {v2 : Int32} {M : aM} (h : w_Vd_overridden post v0 v1 v2 M) : Gd d w 99 (pIn M post) (0, aEnt 99 [aI v0, aI v1, aI v2], [], M) := by
  unfold w_Vd_overridden at h
  show Gd d w 99 _ (0, [some (aI v0), some (aI v1), some (aI v2), none, none], [], M)
  refine gd_s (P := True ∧ True ∧ True) (σ1 := (2, [some (aI v0), some (aI v1), some (aI v2), none, none], [aI v1, aI v0], M)) tc_99 rfl 2 (fun u => ⟨_, rfl⟩) ⟨trivial, trivial, trivial⟩ ?_
  refine gd_callN (ml := 2) (as := [aI v0, aI v1]) (rest := []) tc_99 rfl rfl rfl rfl rfl (by omega) (by omega) (Nat.le_of_ble_eq_true rfl) rfl (g_Vd_has (by omega) (by omega) h) (fun r9 M9 h => ?_)
  obtain ⟨x1, rfl, e9, h⟩ := h
  subst M9
  show Gd d w 99 _ (5, [some (aI v0), some (aI v1), some (aI v2), none, none], [aI x1], M)
  refine gd_br (c := x1 = ((0 : Int32))) (st1 := []) tc_99 rfl rfl (fun _ => rfl) ⟨fun hc => ?_, fun hc => ?_⟩
  · have h := h.1 hc
    show Gd d w 99 _ (10, [some (aI v0), some (aI v1), some (aI v2), none, none], [], M)
    refine gd_s (P := True ∧ True ∧ True ∧ True ∧ True) (σ1 := (14, [some (aI v0), some (aI v1), some (aI v2), none, none], [aI (v1 + ((2 : Int32))), aI v0], M)) tc_99 rfl 4 (fun u => ⟨_, rfl⟩) ⟨trivial, trivial, trivial, trivial, trivial⟩ ?_
    refine gd_callN (ml := 2) (as := [aI v0, aI (v1 + ((2 : Int32)))]) (rest := []) tc_99 rfl rfl rfl rfl rfl (by omega) (by omega) (Nat.le_of_ble_eq_true rfl) rfl (g_Vd_has (by omega) (by omega) h) (fun r9 M9 h => ?_)
    obtain ⟨x2, rfl, e9, h⟩ := h
    subst M9
    show Gd d w 99 _ (17, [some (aI v0), some (aI v1), some (aI v2), none, none], [aI x2], M)
    refine gd_s (P := True ∧ True ∧ True ∧ True ∧ True ∧ True) (σ1 := (22, [some (aI v0), some (aI v1), some (aI v2), some (aI x2), none], [aI (v2 + ((2 : Int32))), aI v0], M)) tc_99 rfl 5 (fun u => ⟨_, rfl⟩) ⟨trivial, trivial, trivial, trivial, trivial, trivial⟩ ?_
    refine gd_callN (ml := 2) (as := [aI v0, aI (v2 + ((2 : Int32)))]) (rest := []) tc_99 rfl rfl rfl rfl rfl (by omega) (by omega) (Nat.le_of_ble_eq_true rfl) rfl (g_Vd_has (by omega) (by omega) h) (fun r9 M9 h => ?_)
    obtain ⟨x3, rfl, e9, h⟩ := h
    subst M9
    show Gd d w 99 _ (25, [some (aI v0), some (aI v1), some (aI v2), some (aI x2), none], [aI x3], M)
    refine gd_s (P := True ∧ True ∧ True ∧ True) (σ1 := (29, [some (aI v0), some (aI v1), some (aI v2), some (aI x2), some (aI x3)], [aI ((5 : Int32)), aI v0], M)) tc_99 rfl 3 (fun u => ⟨_, rfl⟩) ⟨trivial, trivial, trivial, trivial⟩ ?_
    refine gd_callN (ml := 2) (as := [aI v0, aI ((5 : Int32))]) (rest := []) tc_99 rfl rfl rfl rfl rfl (by omega) (by omega) (Nat.le_of_ble_eq_true rfl) rfl (g_Vd_has (by omega) (by omega) h) (fun r9 M9 h => ?_)
    obtain ⟨x4, rfl, e9, h⟩ := h
    subst M9
    show Gd d w 99 _ (32, [some (aI v0), some (aI v1), some (aI v2), some (aI x2), some (aI x3)], [aI x4], M)
    refine gd_br (c := ¬ x4 = ((0 : Int32))) (st1 := []) tc_99 rfl rfl (fun _ => rfl) ⟨fun hc => ?_, fun hc => ?_⟩
    · have h := h.1 hc
      show Gd d w 99 _ (52, [some (aI v0), some (aI v1), some (aI v2), some (aI x2), some (aI x3)], [], M)
      refine gd_s (P := True ∧ True) (σ1 := (53, [some (aI v0), some (aI v1), some (aI v2), some (aI x2), some (aI x3)], [aI ((5 : Int32))], M)) tc_99 rfl 1 (fun u => ⟨_, rfl⟩) ⟨trivial, trivial⟩ ?_
      exact gd_ret tc_99 rfl rfl trivial (fun _ => rfl) ⟨_, rfl, rfl, h⟩
    · have h := h.2 hc
      show Gd d w 99 _ (35, [some (aI v0), some (aI v1), some (aI v2), some (aI x2), some (aI x3)], [], M)
      refine gd_s (P := True ∧ True) (σ1 := (36, [some (aI v0), some (aI v1), some (aI v2), some (aI x2), some (aI x3)], [aI x2], M)) tc_99 rfl 1 (fun u => ⟨_, rfl⟩) ⟨trivial, trivial⟩ ?_
      refine gd_br (c := x2 = ((0 : Int32))) (st1 := []) tc_99 rfl rfl (fun _ => rfl) ⟨fun hc => ?_, fun hc => ?_⟩
      · have h := h.1 hc
        exact g_Vd_overridden_J54 hd hw v0 v1 v2 x2 x3 h
      · have h := h.2 hc
        show Gd d w 99 _ (39, [some (aI v0), some (aI v1), some (aI v2), some (aI x2), some (aI x3)], [], M)
        refine gd_s (P := True ∧ True ∧ True) (σ1 := (41, [some (aI v0), some (aI v1), some (aI v2), some (aI x2), some (aI x3)], [aI v2, aI v0], M)) tc_99 rfl 2 (fun u => ⟨_, rfl⟩) ⟨trivial, trivial, trivial⟩ ?_
        refine gd_callN (ml := 2) (as := [aI v0, aI v2]) (rest := []) tc_99 rfl rfl rfl rfl rfl (by omega) (by omega) (Nat.le_of_ble_eq_true rfl) rfl (g_Vd_has (by omega) (by omega) h) (fun r9 M9 h => ?_)
        obtain ⟨x5, rfl, e9, h⟩ := h
        subst M9
        show Gd d w 99 _ (44, [some (aI v0), some (aI v1), some (aI v2), some (aI x2), some (aI x3)], [aI x5], M)
        refine gd_br (c := ¬ x5 = ((0 : Int32))) (st1 := []) tc_99 rfl rfl (fun _ => rfl) ⟨fun hc => ?_, fun hc => ?_⟩
        · have h := h.1 hc
          show Gd d w 99 _ (52, [some (aI v0), some (aI v1), some (aI v2), some (aI x2), some (aI x3)], [], M)
          refine gd_s (P := True ∧ True) (σ1 := (53, [some (aI v0), some (aI v1), some (aI v2), some (aI x2), some (aI x3)], [aI ((5 : Int32))], M)) tc_99 rfl 1 (fun u => ⟨_, rfl⟩) ⟨trivial, trivial⟩ ?_
          exact gd_ret tc_99 rfl rfl trivial (fun _ => rfl) ⟨_, rfl, rfl, h⟩
        · have h := h.2 hc
          show Gd d w 99 _ (47, [some (aI v0), some (aI v1), some (aI v2), some (aI x2), some (aI x3)], [], M)
          refine gd_s (P := True ∧ True) (σ1 := (49, [some (aI v0), some (aI v1), some (aI v2), some (aI x2), some (aI x3)], [aI x3], M)) tc_99 rfl 1 (fun u => ⟨_, rfl⟩) ⟨trivial, trivial⟩ ?_
          refine gd_br (c := x3 = ((0 : Int32))) (st1 := []) tc_99 rfl rfl (fun _ => rfl) ⟨fun hc => ?_, fun hc => ?_⟩
          · have h := h.1 hc
            exact g_Vd_overridden_J54 hd hw v0 v1 v2 x2 x3 h
          · have h := h.2 hc
            show Gd d w 99 _ (52, [some (aI v0), some (aI v1), some (aI v2), some (aI x2), some (aI x3)], [], M)
            refine gd_s (P := True ∧ True) (σ1 := (53, [some (aI v0), some (aI v1), some (aI v2), some (aI x2), some (aI x3)], [aI ((5 : Int32))], M)) tc_99 rfl 1 (fun u => ⟨_, rfl⟩) ⟨trivial, trivial⟩ ?_
            exact gd_ret tc_99 rfl rfl trivial (fun _ => rfl) ⟨_, rfl, rfl, h⟩
  · have h := h.2 hc
    show Gd d w 99 _ (8, [some (aI v0), some (aI v1), some (aI v2), none, none], [], M)
    refine gd_s (P := True ∧ True) (σ1 := (9, [some (aI v0), some (aI v1), some (aI v2), none, none], [aI v1], M)) tc_99 rfl 1 (fun u => ⟨_, rfl⟩) ⟨trivial, trivial⟩ ?_
    exact gd_ret tc_99 rfl rfl trivial (fun _ => rfl) ⟨_, rfl, rfl, h⟩
theorem tc_96 : tC 96 = c96 := rfl
def w_Vd_combined_J87 (post : Int32 → aM → Prop) (k1 : Nat) (v2 : Int32) (v3 : Int32) (M : aM) : Prop := (vp_in v2 (rK M (k1 + 5)).2) ∧ ((((rI M (k1 + 5) v2.toNatClampNeg) = (0 : Int32)) → w_Vd_overridden (fun x1 => post x1 M) v3 ((2 : Int32)) ((1 : Int32)) M) ∧ (¬ ((rI M (k1 + 5) v2.toNatClampNeg) = (0 : Int32)) → (((rI M (k1 + 5) v2.toNatClampNeg) = (1 : Int32)) → w_Vd_overridden (fun x2 => post x2 M) v3 ((1 : Int32)) ((2 : Int32)) M) ∧ (¬ ((rI M (k1 + 5) v2.toNatClampNeg) = (1 : Int32)) → (((rI M (k1 + 5) v2.toNatClampNeg) = (2 : Int32)) → w_Vd_has (fun x3 => ((x3 = ((0 : Int32))) → post ((1 : Int32)) M) ∧ (¬ (x3 = ((0 : Int32))) → post ((2 : Int32)) M)) v3 ((2 : Int32)) M) ∧ (¬ ((rI M (k1 + 5) v2.toNatClampNeg) = (2 : Int32)) → (((rI M (k1 + 5) v2.toNatClampNeg) = (3 : Int32)) → w_Vd_has (fun x4 => ((x4 = ((0 : Int32))) → post ((1 : Int32)) M) ∧ (¬ (x4 = ((0 : Int32))) → post ((2 : Int32)) M)) v3 ((2 : Int32)) M) ∧ (¬ ((rI M (k1 + 5) v2.toNatClampNeg) = (3 : Int32)) → (((rI M (k1 + 5) v2.toNatClampNeg) = (4 : Int32)) → w_Vd_has (fun x5 => ((x5 = ((0 : Int32))) → post ((2 : Int32)) M) ∧ (¬ (x5 = ((0 : Int32))) → post ((1 : Int32)) M)) v3 ((1 : Int32)) M) ∧ (¬ ((rI M (k1 + 5) v2.toNatClampNeg) = (4 : Int32)) → w_Vd_has (fun x6 => ((x6 = ((0 : Int32))) → post ((1 : Int32)) M) ∧ (¬ (x6 = ((0 : Int32))) → post ((2 : Int32)) M)) v3 ((2 : Int32)) M))))))
theorem g_Vd_combined_J87 {d w : Nat} (hd : 2 ≤ d) (hw : 45 ≤ w) {post : Int32 → aM → Prop} (k1 : Nat) (v2 : Int32) (v3 : Int32) (o0 o4 o5 : Option aV) (M : aM) (h : w_Vd_combined_J87 post k1 v2 v3 M) : Gd d w 96 (pI post) (87, [o0, some (aR 16 k1), some (aI v2), some (aI v3), o4, o5], [], M) := by
  unfold w_Vd_combined_J87 at h
  show Gd d w 96 _ (87, [o0, some (aR 16 k1), some (aI v2), some (aI v3), o4, o5], [], M)
  obtain ⟨c0, h⟩ := h
  refine gd_s (P := True ∧ True ∧ True ∧ (vp_in v2 (rK M (k1 + 5)).2) ∧ True) (σ1 := (93, [o0, some (aR 16 k1), some (aI v2), some (aI v3), o4, o5], [aI (rI M (k1 + 5) v2.toNatClampNeg)], M)) tc_96 rfl 4 (fun u => ⟨_, rfl⟩) ⟨trivial, trivial, trivial, c0, trivial⟩ ?_
  refine gd_sw tc_96 rfl rfl (fun _ => rfl) ?_
  refine gd_case ⟨fun hc => ?_, fun hc => ?_⟩
  · have h := h.1 hc
    show Gd d w 96 _ (128, [o0, some (aR 16 k1), some (aI v2), some (aI v3), o4, o5], [], M)
    refine gd_s (P := True ∧ True ∧ True ∧ True) (σ1 := (131, [o0, some (aR 16 k1), some (aI v2), some (aI v3), o4, o5], [aI ((1 : Int32)), aI ((2 : Int32)), aI v3], M)) tc_96 rfl 3 (fun u => ⟨_, rfl⟩) ⟨trivial, trivial, trivial, trivial⟩ ?_
    refine gd_callN (ml := 5) (as := [aI v3, aI ((2 : Int32)), aI ((1 : Int32))]) (rest := []) tc_96 rfl rfl rfl rfl rfl (by omega) (by omega) (Nat.le_of_ble_eq_true rfl) rfl (g_Vd_overridden (by omega) (by omega) h) (fun r9 M9 h => ?_)
    obtain ⟨x1, rfl, e9, h⟩ := h
    subst M9
    show Gd d w 96 _ (134, [o0, some (aR 16 k1), some (aI v2), some (aI v3), o4, o5], [aI x1], M)
    exact gd_ret tc_96 rfl rfl trivial (fun _ => rfl) ⟨_, rfl, h⟩
  have h := h.2 hc
  refine gd_case ⟨fun hc => ?_, fun hc => ?_⟩
  · have h := h.1 hc
    show Gd d w 96 _ (135, [o0, some (aR 16 k1), some (aI v2), some (aI v3), o4, o5], [], M)
    refine gd_s (P := True ∧ True ∧ True ∧ True) (σ1 := (138, [o0, some (aR 16 k1), some (aI v2), some (aI v3), o4, o5], [aI ((2 : Int32)), aI ((1 : Int32)), aI v3], M)) tc_96 rfl 3 (fun u => ⟨_, rfl⟩) ⟨trivial, trivial, trivial, trivial⟩ ?_
    refine gd_callN (ml := 5) (as := [aI v3, aI ((1 : Int32)), aI ((2 : Int32))]) (rest := []) tc_96 rfl rfl rfl rfl rfl (by omega) (by omega) (Nat.le_of_ble_eq_true rfl) rfl (g_Vd_overridden (by omega) (by omega) h) (fun r9 M9 h => ?_)
    obtain ⟨x2, rfl, e9, h⟩ := h
    subst M9
    show Gd d w 96 _ (141, [o0, some (aR 16 k1), some (aI v2), some (aI v3), o4, o5], [aI x2], M)
    exact gd_ret tc_96 rfl rfl trivial (fun _ => rfl) ⟨_, rfl, h⟩
  have h := h.2 hc
  refine gd_case ⟨fun hc => ?_, fun hc => ?_⟩
  · have h := h.1 hc
    show Gd d w 96 _ (156, [o0, some (aR 16 k1), some (aI v2), some (aI v3), o4, o5], [], M)
    refine gd_s (P := True ∧ True ∧ True) (σ1 := (158, [o0, some (aR 16 k1), some (aI v2), some (aI v3), o4, o5], [aI ((2 : Int32)), aI v3], M)) tc_96 rfl 2 (fun u => ⟨_, rfl⟩) ⟨trivial, trivial, trivial⟩ ?_
    refine gd_callN (ml := 2) (as := [aI v3, aI ((2 : Int32))]) (rest := []) tc_96 rfl rfl rfl rfl rfl (by omega) (by omega) (Nat.le_of_ble_eq_true rfl) rfl (g_Vd_has (by omega) (by omega) h) (fun r9 M9 h => ?_)
    obtain ⟨x3, rfl, e9, h⟩ := h
    subst M9
    show Gd d w 96 _ (161, [o0, some (aR 16 k1), some (aI v2), some (aI v3), o4, o5], [aI x3], M)
    refine gd_br (c := x3 = ((0 : Int32))) (st1 := []) tc_96 rfl rfl (fun _ => rfl) ⟨fun hc => ?_, fun hc => ?_⟩
    · have h := h.1 hc
      show Gd d w 96 _ (168, [o0, some (aR 16 k1), some (aI v2), some (aI v3), o4, o5], [], M)
      refine gd_s (P := True ∧ True) (σ1 := (169, [o0, some (aR 16 k1), some (aI v2), some (aI v3), o4, o5], [aI ((1 : Int32))], M)) tc_96 rfl 1 (fun u => ⟨_, rfl⟩) ⟨trivial, trivial⟩ ?_
      exact gd_ret tc_96 rfl rfl trivial (fun _ => rfl) ⟨_, rfl, h⟩
    · have h := h.2 hc
      show Gd d w 96 _ (164, [o0, some (aR 16 k1), some (aI v2), some (aI v3), o4, o5], [], M)
      refine gd_s (P := True ∧ True ∧ True) (σ1 := (169, [o0, some (aR 16 k1), some (aI v2), some (aI v3), o4, o5], [aI ((2 : Int32))], M)) tc_96 rfl 2 (fun u => ⟨_, rfl⟩) ⟨trivial, trivial, trivial⟩ ?_
      exact gd_ret tc_96 rfl rfl trivial (fun _ => rfl) ⟨_, rfl, h⟩
  have h := h.2 hc
  refine gd_case ⟨fun hc => ?_, fun hc => ?_⟩
  · have h := h.1 hc
    show Gd d w 96 _ (156, [o0, some (aR 16 k1), some (aI v2), some (aI v3), o4, o5], [], M)
    refine gd_s (P := True ∧ True ∧ True) (σ1 := (158, [o0, some (aR 16 k1), some (aI v2), some (aI v3), o4, o5], [aI ((2 : Int32)), aI v3], M)) tc_96 rfl 2 (fun u => ⟨_, rfl⟩) ⟨trivial, trivial, trivial⟩ ?_
    refine gd_callN (ml := 2) (as := [aI v3, aI ((2 : Int32))]) (rest := []) tc_96 rfl rfl rfl rfl rfl (by omega) (by omega) (Nat.le_of_ble_eq_true rfl) rfl (g_Vd_has (by omega) (by omega) h) (fun r9 M9 h => ?_)
    obtain ⟨x4, rfl, e9, h⟩ := h
    subst M9
    show Gd d w 96 _ (161, [o0, some (aR 16 k1), some (aI v2), some (aI v3), o4, o5], [aI x4], M)
    refine gd_br (c := x4 = ((0 : Int32))) (st1 := []) tc_96 rfl rfl (fun _ => rfl) ⟨fun hc => ?_, fun hc => ?_⟩
    · have h := h.1 hc
      show Gd d w 96 _ (168, [o0, some (aR 16 k1), some (aI v2), some (aI v3), o4, o5], [], M)
      refine gd_s (P := True ∧ True) (σ1 := (169, [o0, some (aR 16 k1), some (aI v2), some (aI v3), o4, o5], [aI ((1 : Int32))], M)) tc_96 rfl 1 (fun u => ⟨_, rfl⟩) ⟨trivial, trivial⟩ ?_
      exact gd_ret tc_96 rfl rfl trivial (fun _ => rfl) ⟨_, rfl, h⟩
    · have h := h.2 hc
      show Gd d w 96 _ (164, [o0, some (aR 16 k1), some (aI v2), some (aI v3), o4, o5], [], M)
      refine gd_s (P := True ∧ True ∧ True) (σ1 := (169, [o0, some (aR 16 k1), some (aI v2), some (aI v3), o4, o5], [aI ((2 : Int32))], M)) tc_96 rfl 2 (fun u => ⟨_, rfl⟩) ⟨trivial, trivial, trivial⟩ ?_
      exact gd_ret tc_96 rfl rfl trivial (fun _ => rfl) ⟨_, rfl, h⟩
  have h := h.2 hc
  refine gd_case ⟨fun hc => ?_, fun hc => ?_⟩
  · have h := h.1 hc
    show Gd d w 96 _ (142, [o0, some (aR 16 k1), some (aI v2), some (aI v3), o4, o5], [], M)
    refine gd_s (P := True ∧ True ∧ True) (σ1 := (144, [o0, some (aR 16 k1), some (aI v2), some (aI v3), o4, o5], [aI ((1 : Int32)), aI v3], M)) tc_96 rfl 2 (fun u => ⟨_, rfl⟩) ⟨trivial, trivial, trivial⟩ ?_
    refine gd_callN (ml := 2) (as := [aI v3, aI ((1 : Int32))]) (rest := []) tc_96 rfl rfl rfl rfl rfl (by omega) (by omega) (Nat.le_of_ble_eq_true rfl) rfl (g_Vd_has (by omega) (by omega) h) (fun r9 M9 h => ?_)
    obtain ⟨x5, rfl, e9, h⟩ := h
    subst M9
    show Gd d w 96 _ (147, [o0, some (aR 16 k1), some (aI v2), some (aI v3), o4, o5], [aI x5], M)
    refine gd_br (c := x5 = ((0 : Int32))) (st1 := []) tc_96 rfl rfl (fun _ => rfl) ⟨fun hc => ?_, fun hc => ?_⟩
    · have h := h.1 hc
      show Gd d w 96 _ (154, [o0, some (aR 16 k1), some (aI v2), some (aI v3), o4, o5], [], M)
      refine gd_s (P := True ∧ True) (σ1 := (155, [o0, some (aR 16 k1), some (aI v2), some (aI v3), o4, o5], [aI ((2 : Int32))], M)) tc_96 rfl 1 (fun u => ⟨_, rfl⟩) ⟨trivial, trivial⟩ ?_
      exact gd_ret tc_96 rfl rfl trivial (fun _ => rfl) ⟨_, rfl, h⟩
    · have h := h.2 hc
      show Gd d w 96 _ (150, [o0, some (aR 16 k1), some (aI v2), some (aI v3), o4, o5], [], M)
      refine gd_s (P := True ∧ True ∧ True) (σ1 := (155, [o0, some (aR 16 k1), some (aI v2), some (aI v3), o4, o5], [aI ((1 : Int32))], M)) tc_96 rfl 2 (fun u => ⟨_, rfl⟩) ⟨trivial, trivial, trivial⟩ ?_
      exact gd_ret tc_96 rfl rfl trivial (fun _ => rfl) ⟨_, rfl, h⟩
  have h := h.2 hc
  show Gd d w 96 _ (156, [o0, some (aR 16 k1), some (aI v2), some (aI v3), o4, o5], [], M)
  refine gd_s (P := True ∧ True ∧ True) (σ1 := (158, [o0, some (aR 16 k1), some (aI v2), some (aI v3), o4, o5], [aI ((2 : Int32)), aI v3], M)) tc_96 rfl 2 (fun u => ⟨_, rfl⟩) ⟨trivial, trivial, trivial⟩ ?_
  refine gd_callN (ml := 2) (as := [aI v3, aI ((2 : Int32))]) (rest := []) tc_96 rfl rfl rfl rfl rfl (by omega) (by omega) (Nat.le_of_ble_eq_true rfl) rfl (g_Vd_has (by omega) (by omega) h) (fun r9 M9 h => ?_)
  obtain ⟨x6, rfl, e9, h⟩ := h
  subst M9
  show Gd d w 96 _ (161, [o0, some (aR 16 k1), some (aI v2), some (aI v3), o4, o5], [aI x6], M)
  refine gd_br (c := x6 = ((0 : Int32))) (st1 := []) tc_96 rfl rfl (fun _ => rfl) ⟨fun hc => ?_, fun hc => ?_⟩
  · have h := h.1 hc
    show Gd d w 96 _ (168, [o0, some (aR 16 k1), some (aI v2), some (aI v3), o4, o5], [], M)
    refine gd_s (P := True ∧ True) (σ1 := (169, [o0, some (aR 16 k1), some (aI v2), some (aI v3), o4, o5], [aI ((1 : Int32))], M)) tc_96 rfl 1 (fun u => ⟨_, rfl⟩) ⟨trivial, trivial⟩ ?_
    exact gd_ret tc_96 rfl rfl trivial (fun _ => rfl) ⟨_, rfl, h⟩
  · have h := h.2 hc
    show Gd d w 96 _ (164, [o0, some (aR 16 k1), some (aI v2), some (aI v3), o4, o5], [], M)
    refine gd_s (P := True ∧ True ∧ True) (σ1 := (169, [o0, some (aR 16 k1), some (aI v2), some (aI v3), o4, o5], [aI ((2 : Int32))], M)) tc_96 rfl 2 (fun u => ⟨_, rfl⟩) ⟨trivial, trivial, trivial⟩ ?_
    exact gd_ret tc_96 rfl rfl trivial (fun _ => rfl) ⟨_, rfl, h⟩
def w_Vd_combined_L49 (post : Int32 → aM → Prop) : Nat → Nat → Nat → Int32 → Int32 → Int32 → Int32 → aM → Prop
  | 0, _, _, _, _, _, _, _ => False
  | n + 1, k0, k1, v2, v3, v4, v5, M => ((v5 ≤ ((0 : Int32))) → w_Vd_combined_J87 post k1 v2 v3 M) ∧ (¬ (v5 ≤ ((0 : Int32))) → ((v4 = ((-1 : Int32))) → w_Vd_combined_J87 post k1 v2 v3 M) ∧ (¬ (v4 = ((-1 : Int32))) → (vp_in v4 (rK M (k0 + 2)).2) ∧ (vp_in v4 (rK M (k1 + 10)).2) ∧ (w_Vd_combined_L49 post n k0 k1 v2 (v3 ||| (((1 : Int32)) <<< ((rI M (k0 + 2) v4.toNatClampNeg) &&& 31))) (rI M (k1 + 10) v4.toNatClampNeg) (v5 + (-1 : Int32)) M)))
theorem g_Vd_combined_L49 {d w : Nat} (hd : 2 ≤ d) (hw : 45 ≤ w) {post : Int32 → aM → Prop} : ∀ (n : Nat) (k0 : Nat) (k1 : Nat) (v2 : Int32) (v3 : Int32) (v4 : Int32) (v5 : Int32) (M : aM), w_Vd_combined_L49 post n k0 k1 v2 v3 v4 v5 M → Gd d w 96 (pI post) (49, [some (aR 18 k0), some (aR 16 k1), some (aI v2), some (aI v3), some (aI v4), some (aI v5)], [], M) := by
  intro n
  induction n with
  | zero => intro k0 k1 v2 v3 v4 v5 M h; exact h.elim
  | succ n ih =>
    intro k0 k1 v2 v3 v4 v5 M h
    show Gd d w 96 _ (49, [some (aR 18 k0), some (aR 16 k1), some (aI v2), some (aI v3), some (aI v4), some (aI v5)], [], M)
    refine gd_s (P := True ∧ True) (σ1 := (51, [some (aR 18 k0), some (aR 16 k1), some (aI v2), some (aI v3), some (aI v4), some (aI v5)], [aI v5], M)) tc_96 rfl 1 (fun u => ⟨_, rfl⟩) ⟨trivial, trivial⟩ ?_
    refine gd_br (c := v5 ≤ ((0 : Int32))) (st1 := []) tc_96 rfl rfl (fun _ => rfl) ⟨fun hc => ?_, fun hc => ?_⟩
    · have h := h.1 hc
      exact g_Vd_combined_J87 hd hw k1 v2 v3 (some (aR 18 k0)) (some (aI v4)) (some (aI v5)) M h
    · have h := h.2 hc
      show Gd d w 96 _ (54, [some (aR 18 k0), some (aR 16 k1), some (aI v2), some (aI v3), some (aI v4), some (aI v5)], [], M)
      refine gd_s (P := True ∧ True ∧ True) (σ1 := (57, [some (aR 18 k0), some (aR 16 k1), some (aI v2), some (aI v3), some (aI v4), some (aI v5)], [aI ((-1 : Int32)), aI v4], M)) tc_96 rfl 2 (fun u => ⟨_, rfl⟩) ⟨trivial, trivial, trivial⟩ ?_
      refine gd_br (c := v4 = ((-1 : Int32))) (st1 := []) tc_96 rfl rfl (fun _ => rfl) ⟨fun hc => ?_, fun hc => ?_⟩
      · have h := h.1 hc
        exact g_Vd_combined_J87 hd hw k1 v2 v3 (some (aR 18 k0)) (some (aI v4)) (some (aI v5)) M h
      · have h := h.2 hc
        show Gd d w 96 _ (60, [some (aR 18 k0), some (aR 16 k1), some (aI v2), some (aI v3), some (aI v4), some (aI v5)], [], M)
        obtain ⟨c0, c1, h⟩ := h
        refine gd_s (P := True ∧ True ∧ True ∧ True ∧ True ∧ (vp_in v4 (rK M (k0 + 2)).2) ∧ True ∧ True ∧ True ∧ True ∧ True ∧ True ∧ (vp_in v4 (rK M (k1 + 10)).2) ∧ True ∧ True ∧ True ∧ True) (σ1 := (49, [some (aR 18 k0), some (aR 16 k1), some (aI v2), some (aI (v3 ||| (((1 : Int32)) <<< ((rI M (k0 + 2) v4.toNatClampNeg) &&& 31)))), some (aI (rI M (k1 + 10) v4.toNatClampNeg)), some (aI (v5 + (-1 : Int32)))], [], M)) tc_96 rfl 16 (fun u => ⟨_, rfl⟩) ⟨trivial, trivial, trivial, trivial, trivial, c0, trivial, trivial, trivial, trivial, trivial, trivial, c1, trivial, trivial, trivial, trivial⟩ ?_
        exact ih k0 k1 v2 (v3 ||| (((1 : Int32)) <<< ((rI M (k0 + 2) v4.toNatClampNeg) &&& 31))) (rI M (k1 + 10) v4.toNatClampNeg) (v5 + (-1 : Int32)) M h
/-- PolicyJudge$Verdict.combined(LPolicyJudge$Nodes;I)I -/
def w_Vd_combined (post : Int32 → aM → Prop) (k0 : Nat) (k1 : Nat) (v2 : Int32) (M : aM) : Prop := (vp_in v2 (rK M (k1 + 5)).2) ∧ (((¬ (rI M (k1 + 5) v2.toNatClampNeg) = ((2 : Int32))) → (vp_in v2 (rK M (k1 + 5)).2) ∧ (((¬ (rI M (k1 + 5) v2.toNatClampNeg) = ((3 : Int32))) → (vp_in v2 (rK M (k1 + 9)).2) ∧ (∃ n9, w_Vd_combined_L49 post n9 k0 k1 v2 ((0 : Int32)) (v2 + ((1 : Int32))) (rI M (k1 + 9) v2.toNatClampNeg) M)) ∧ (¬ (¬ (rI M (k1 + 5) v2.toNatClampNeg) = ((3 : Int32))) → w_Vd_byOne (fun x1 M1 => post x1 M1) k0 k1 v2 M))) ∧ (¬ (¬ (rI M (k1 + 5) v2.toNatClampNeg) = ((2 : Int32))) → w_Vd_byFirst (fun x2 M2 => post x2 M2) k0 k1 v2 M))
theorem g_Vd_combined {d w : Nat} (hd : 2 ≤ d) (hw : 45 ≤ w) {post : Int32 → aM → Prop} {k0 : Nat} {k1 : Nat} {v2 : Int32} {M : aM} (h : w_Vd_combined post k0 k1 v2 M) : Gd d w 96 (pI post) (0, aEnt 96 [aR 18 k0, aR 16 k1, aI v2], [], M) := by
  unfold w_Vd_combined at h
  show Gd d w 96 _ (0, [some (aR 18 k0), some (aR 16 k1), some (aI v2), none, none, none], [], M)
  obtain ⟨c0, h⟩ := h
  refine gd_s (P := True ∧ True ∧ True ∧ (vp_in v2 (rK M (k1 + 5)).2) ∧ True ∧ True) (σ1 := (7, [some (aR 18 k0), some (aR 16 k1), some (aI v2), none, none, none], [aI ((2 : Int32)), aI (rI M (k1 + 5) v2.toNatClampNeg)], M)) tc_96 rfl 5 (fun u => ⟨_, rfl⟩) ⟨trivial, trivial, trivial, c0, trivial, trivial⟩ ?_
  refine gd_br (c := ¬ (rI M (k1 + 5) v2.toNatClampNeg) = ((2 : Int32))) (st1 := []) tc_96 rfl rfl (fun _ => rfl) ⟨fun hc => ?_, fun hc => ?_⟩
  · have h := h.1 hc
    show Gd d w 96 _ (17, [some (aR 18 k0), some (aR 16 k1), some (aI v2), none, none, none], [], M)
    obtain ⟨c0, h⟩ := h
    refine gd_s (P := True ∧ True ∧ True ∧ (vp_in v2 (rK M (k1 + 5)).2) ∧ True ∧ True) (σ1 := (24, [some (aR 18 k0), some (aR 16 k1), some (aI v2), none, none, none], [aI ((3 : Int32)), aI (rI M (k1 + 5) v2.toNatClampNeg)], M)) tc_96 rfl 5 (fun u => ⟨_, rfl⟩) ⟨trivial, trivial, trivial, c0, trivial, trivial⟩ ?_
    refine gd_br (c := ¬ (rI M (k1 + 5) v2.toNatClampNeg) = ((3 : Int32))) (st1 := []) tc_96 rfl rfl (fun _ => rfl) ⟨fun hc => ?_, fun hc => ?_⟩
    · have h := h.1 hc
      show Gd d w 96 _ (34, [some (aR 18 k0), some (aR 16 k1), some (aI v2), none, none, none], [], M)
      obtain ⟨c0, h⟩ := h
      refine gd_s (P := True ∧ True ∧ True ∧ True ∧ True ∧ True ∧ True ∧ True ∧ True ∧ (vp_in v2 (rK M (k1 + 9)).2) ∧ True ∧ True) (σ1 := (49, [some (aR 18 k0), some (aR 16 k1), some (aI v2), some (aI ((0 : Int32))), some (aI (v2 + ((1 : Int32)))), some (aI (rI M (k1 + 9) v2.toNatClampNeg))], [], M)) tc_96 rfl 11 (fun u => ⟨_, rfl⟩) ⟨trivial, trivial, trivial, trivial, trivial, trivial, trivial, trivial, trivial, c0, trivial, trivial⟩ ?_
      obtain ⟨n9, h⟩ := h
      exact g_Vd_combined_L49 hd hw n9 k0 k1 v2 ((0 : Int32)) (v2 + ((1 : Int32))) (rI M (k1 + 9) v2.toNatClampNeg) M h
    · have h := h.2 hc
      show Gd d w 96 _ (27, [some (aR 18 k0), some (aR 16 k1), some (aI v2), none, none, none], [], M)
      refine gd_s (P := True ∧ True ∧ True ∧ True) (σ1 := (30, [some (aR 18 k0), some (aR 16 k1), some (aI v2), none, none, none], [aI v2, aR 16 k1, aR 18 k0], M)) tc_96 rfl 3 (fun u => ⟨_, rfl⟩) ⟨trivial, trivial, trivial, trivial⟩ ?_
      refine gd_callN (ml := 6) (as := [aR 18 k0, aR 16 k1, aI v2]) (rest := []) tc_96 rfl rfl rfl rfl rfl (by omega) (by omega) (Nat.le_of_ble_eq_true rfl) rfl (g_Vd_byOne (by omega) (by omega) h) (fun r9 M1 h => ?_)
      obtain ⟨x1, rfl, h⟩ := h
      show Gd d w 96 _ (33, [some (aR 18 k0), some (aR 16 k1), some (aI v2), none, none, none], [aI x1], M1)
      exact gd_ret tc_96 rfl rfl trivial (fun _ => rfl) ⟨_, rfl, h⟩
  · have h := h.2 hc
    show Gd d w 96 _ (10, [some (aR 18 k0), some (aR 16 k1), some (aI v2), none, none, none], [], M)
    refine gd_s (P := True ∧ True ∧ True ∧ True) (σ1 := (13, [some (aR 18 k0), some (aR 16 k1), some (aI v2), none, none, none], [aI v2, aR 16 k1, aR 18 k0], M)) tc_96 rfl 3 (fun u => ⟨_, rfl⟩) ⟨trivial, trivial, trivial, trivial⟩ ?_
    refine gd_callN (ml := 5) (as := [aR 18 k0, aR 16 k1, aI v2]) (rest := []) tc_96 rfl rfl rfl rfl rfl (by omega) (by omega) (Nat.le_of_ble_eq_true rfl) rfl (g_Vd_byFirst (by omega) (by omega) h) (fun r9 M2 h => ?_)
    obtain ⟨x2, rfl, h⟩ := h
    show Gd d w 96 _ (16, [some (aR 18 k0), some (aR 16 k1), some (aI v2), none, none, none], [aI x2], M2)
    exact gd_ret tc_96 rfl rfl trivial (fun _ => rfl) ⟨_, rfl, h⟩
theorem tc_95 : tC 95 = c95 := rfl
/-- PolicyJudge$Verdict.decisionIfTrue(LPolicyJudge$Nodes;I)I -/
def w_Vd_decisionIfTrue (post : Int32 → aM → Prop) (k0 : Nat) (k1 : Nat) (v2 : Int32) (M : aM) : Prop := (vp_in v2 (rK M (k1 + 4)).2) ∧ ((((rI M (k1 + 4) v2.toNatClampNeg) = (0 : Int32)) → post ((1 : Int32)) M) ∧ (¬ ((rI M (k1 + 4) v2.toNatClampNeg) = (0 : Int32)) → (((rI M (k1 + 4) v2.toNatClampNeg) = (1 : Int32)) → post ((2 : Int32)) M) ∧ (¬ ((rI M (k1 + 4) v2.toNatClampNeg) = (1 : Int32)) → w_Vd_combined (fun x1 M1 => post x1 M1) k0 k1 v2 M)))
theorem g_Vd_decisionIfTrue {d w : Nat} (hd : 3 ≤ d) (hw : 70 ≤ w) {post : Int32 → aM → Prop} {k0 : Nat} {k1 : Nat} {v2 : Int32} {M : aM} (h : w_Vd_decisionIfTrue post k0 k1 v2 M) : Gd d w 95 (pI post) (0, aEnt 95 [aR 18 k0, aR 16 k1, aI v2], [], M) := by
  unfold w_Vd_decisionIfTrue at h
  show Gd d w 95 _ (0, [some (aR 18 k0), some (aR 16 k1), some (aI v2)], [], M)
  obtain ⟨c0, h⟩ := h
  refine gd_s (P := True ∧ True ∧ True ∧ (vp_in v2 (rK M (k1 + 4)).2) ∧ True) (σ1 := (6, [some (aR 18 k0), some (aR 16 k1), some (aI v2)], [aI (rI M (k1 + 4) v2.toNatClampNeg)], M)) tc_95 rfl 4 (fun u => ⟨_, rfl⟩) ⟨trivial, trivial, trivial, c0, trivial⟩ ?_
  refine gd_sw tc_95 rfl rfl (fun _ => rfl) ?_
  refine gd_case ⟨fun hc => ?_, fun hc => ?_⟩
  · have h := h.1 hc
    show Gd d w 95 _ (32, [some (aR 18 k0), some (aR 16 k1), some (aI v2)], [], M)
    refine gd_s (P := True ∧ True) (σ1 := (33, [some (aR 18 k0), some (aR 16 k1), some (aI v2)], [aI ((1 : Int32))], M)) tc_95 rfl 1 (fun u => ⟨_, rfl⟩) ⟨trivial, trivial⟩ ?_
    exact gd_ret tc_95 rfl rfl trivial (fun _ => rfl) ⟨_, rfl, h⟩
  have h := h.2 hc
  refine gd_case ⟨fun hc => ?_, fun hc => ?_⟩
  · have h := h.1 hc
    show Gd d w 95 _ (34, [some (aR 18 k0), some (aR 16 k1), some (aI v2)], [], M)
    refine gd_s (P := True ∧ True) (σ1 := (35, [some (aR 18 k0), some (aR 16 k1), some (aI v2)], [aI ((2 : Int32))], M)) tc_95 rfl 1 (fun u => ⟨_, rfl⟩) ⟨trivial, trivial⟩ ?_
    exact gd_ret tc_95 rfl rfl trivial (fun _ => rfl) ⟨_, rfl, h⟩
  have h := h.2 hc
  show Gd d w 95 _ (36, [some (aR 18 k0), some (aR 16 k1), some (aI v2)], [], M)
  refine gd_s (P := True ∧ True ∧ True ∧ True) (σ1 := (39, [some (aR 18 k0), some (aR 16 k1), some (aI v2)], [aI v2, aR 16 k1, aR 18 k0], M)) tc_95 rfl 3 (fun u => ⟨_, rfl⟩) ⟨trivial, trivial, trivial, trivial⟩ ?_
  refine gd_callN (ml := 6) (as := [aR 18 k0, aR 16 k1, aI v2]) (rest := []) tc_95 rfl rfl rfl rfl rfl (by omega) (by omega) (Nat.le_of_ble_eq_true rfl) rfl (g_Vd_combined (by omega) (by omega) h) (fun r9 M1 h => ?_)
  obtain ⟨x1, rfl, h⟩ := h
  show Gd d w 95 _ (42, [some (aR 18 k0), some (aR 16 k1), some (aI v2)], [aI x1], M1)
  exact gd_ret tc_95 rfl rfl trivial (fun _ => rfl) ⟨_, rfl, h⟩
theorem tc_90 : tC 90 = c90 := rfl
def w_Vd_judge_J120 (post : aM → Prop) (K15 : Nat → Nat → Nat → Int32 → Nat → Int32 → aM → Prop) (k0 : Nat) (k1 : Nat) (k2 : Nat) (v3 : Int32) (k4 : Nat) (v5 : Int32) (v7 : Int32) (s0 : Int32) (M : aM) : Prop := ((s0 = ((0 : Int32))) → (vp_in v5 (rK M (k0 + 2)).2) ∧ (K15 k0 k1 k2 v3 k4 (v5 + (-1 : Int32)) (wI M (k0 + 2) v5.toNatClampNeg v7))) ∧ (¬ (s0 = ((0 : Int32))) → (vp_in v5 (rK M (k0 + 2)).2) ∧ (K15 k0 k1 k2 v3 k4 (v5 + (-1 : Int32)) (wI M (k0 + 2) v5.toNatClampNeg (v7 + ((2 : Int32))))))
theorem g_Vd_judge_J120 {d w : Nat} (hd : 103 ≤ d) (hw : 2973 ≤ w) {post : aM → Prop} {K15 : Nat → Nat → Nat → Int32 → Nat → Int32 → aM → Prop} (hK15 : ∀ (k0 : Nat) (k1 : Nat) (k2 : Nat) (v3 : Int32) (k4 : Nat) (v5 : Int32) (o6 o7 o8 : Option aV) (M : aM), K15 k0 k1 k2 v3 k4 v5 M → Gd d w 90 (pV post) (15, [some (aR 18 k0), some (aR 13 k1), some (aR 4 k2), some (aI v3), some (aR 16 k4), some (aI v5), o6, o7, o8], [], M)) (k0 : Nat) (k1 : Nat) (k2 : Nat) (v3 : Int32) (k4 : Nat) (v5 : Int32) (v7 : Int32) (s0 : Int32) (o6 o8 : Option aV) (M : aM) (h : w_Vd_judge_J120 post K15 k0 k1 k2 v3 k4 v5 v7 s0 M) : Gd d w 90 (pV post) (120, [some (aR 18 k0), some (aR 13 k1), some (aR 4 k2), some (aI v3), some (aR 16 k4), some (aI v5), o6, some (aI v7), o8], [aI s0], M) := by
  unfold w_Vd_judge_J120 at h
  show Gd d w 90 _ (120, [some (aR 18 k0), some (aR 13 k1), some (aR 4 k2), some (aI v3), some (aR 16 k4), some (aI v5), o6, some (aI v7), o8], [aI s0], M)
  refine gd_s (P := True ∧ True ∧ True ∧ True ∧ True ∧ True) (σ1 := (130, [some (aR 18 k0), some (aR 13 k1), some (aR 4 k2), some (aI v3), some (aR 16 k4), some (aI v5), o6, some (aI v7), some (aI s0)], [aI s0, aI v5, aR 4 (k0 + 2)], M)) tc_90 rfl 5 (fun u => ⟨_, rfl⟩) ⟨trivial, trivial, trivial, trivial, trivial, trivial⟩ ?_
  refine gd_br (c := s0 = ((0 : Int32))) (st1 := [aI v5, aR 4 (k0 + 2)]) tc_90 rfl rfl (fun _ => rfl) ⟨fun hc => ?_, fun hc => ?_⟩
  · have h := h.1 hc
    show Gd d w 90 _ (140, [some (aR 18 k0), some (aR 13 k1), some (aR 4 k2), some (aI v3), some (aR 16 k4), some (aI v5), o6, some (aI v7), some (aI s0)], [aI v5, aR 4 (k0 + 2)], M)
    obtain ⟨c0, h⟩ := h
    refine gd_s (P := True ∧ (vp_in v5 (rK M (k0 + 2)).2) ∧ True ∧ True ∧ True) (σ1 := (15, [some (aR 18 k0), some (aR 13 k1), some (aR 4 k2), some (aI v3), some (aR 16 k4), some (aI (v5 + (-1 : Int32))), o6, some (aI v7), some (aI s0)], [], wI M (k0 + 2) v5.toNatClampNeg v7)) tc_90 rfl 4 (fun u => ⟨_, rfl⟩) ⟨trivial, c0, trivial, trivial, trivial⟩ ?_
    exact hK15 k0 k1 k2 v3 k4 (v5 + (-1 : Int32)) o6 (some (aI v7)) (some (aI s0)) (wI M (k0 + 2) v5.toNatClampNeg v7) h
  · have h := h.2 hc
    show Gd d w 90 _ (133, [some (aR 18 k0), some (aR 13 k1), some (aR 4 k2), some (aI v3), some (aR 16 k4), some (aI v5), o6, some (aI v7), some (aI s0)], [aI v5, aR 4 (k0 + 2)], M)
    obtain ⟨c0, h⟩ := h
    refine gd_s (P := True ∧ True ∧ True ∧ True ∧ (vp_in v5 (rK M (k0 + 2)).2) ∧ True ∧ True ∧ True) (σ1 := (15, [some (aR 18 k0), some (aR 13 k1), some (aR 4 k2), some (aI v3), some (aR 16 k4), some (aI (v5 + (-1 : Int32))), o6, some (aI v7), some (aI s0)], [], wI M (k0 + 2) v5.toNatClampNeg (v7 + ((2 : Int32))))) tc_90 rfl 7 (fun u => ⟨_, rfl⟩) ⟨trivial, trivial, trivial, trivial, c0, trivial, trivial, trivial⟩ ?_
    exact hK15 k0 k1 k2 v3 k4 (v5 + (-1 : Int32)) o6 (some (aI v7)) (some (aI s0)) (wI M (k0 + 2) v5.toNatClampNeg (v7 + ((2 : Int32)))) h
def w_Vd_judge_J119 (post : aM → Prop) (K15 : Nat → Nat → Nat → Int32 → Nat → Int32 → aM → Prop) (k0 : Nat) (k1 : Nat) (k2 : Nat) (v3 : Int32) (k4 : Nat) (v5 : Int32) (v7 : Int32) (M : aM) : Prop := w_Vd_judge_J120 post K15 k0 k1 k2 v3 k4 v5 v7 ((0 : Int32)) M
theorem g_Vd_judge_J119 {d w : Nat} (hd : 103 ≤ d) (hw : 2973 ≤ w) {post : aM → Prop} {K15 : Nat → Nat → Nat → Int32 → Nat → Int32 → aM → Prop} (hK15 : ∀ (k0 : Nat) (k1 : Nat) (k2 : Nat) (v3 : Int32) (k4 : Nat) (v5 : Int32) (o6 o7 o8 : Option aV) (M : aM), K15 k0 k1 k2 v3 k4 v5 M → Gd d w 90 (pV post) (15, [some (aR 18 k0), some (aR 13 k1), some (aR 4 k2), some (aI v3), some (aR 16 k4), some (aI v5), o6, o7, o8], [], M)) (k0 : Nat) (k1 : Nat) (k2 : Nat) (v3 : Int32) (k4 : Nat) (v5 : Int32) (v7 : Int32) (o6 o8 : Option aV) (M : aM) (h : w_Vd_judge_J119 post K15 k0 k1 k2 v3 k4 v5 v7 M) : Gd d w 90 (pV post) (119, [some (aR 18 k0), some (aR 13 k1), some (aR 4 k2), some (aI v3), some (aR 16 k4), some (aI v5), o6, some (aI v7), o8], [], M) := by
  unfold w_Vd_judge_J119 at h
  show Gd d w 90 _ (119, [some (aR 18 k0), some (aR 13 k1), some (aR 4 k2), some (aI v3), some (aR 16 k4), some (aI v5), o6, some (aI v7), o8], [], M)
  refine gd_s (P := True ∧ True) (σ1 := (120, [some (aR 18 k0), some (aR 13 k1), some (aR 4 k2), some (aI v3), some (aR 16 k4), some (aI v5), o6, some (aI v7), o8], [aI ((0 : Int32))], M)) tc_90 rfl 1 (fun u => ⟨_, rfl⟩) ⟨trivial, trivial⟩ ?_
  exact g_Vd_judge_J120 hd hw hK15 k0 k1 k2 v3 k4 v5 v7 ((0 : Int32)) o6 o8 M h
def w_Vd_judge_J115 (post : aM → Prop) (K15 : Nat → Nat → Nat → Int32 → Nat → Int32 → aM → Prop) (k0 : Nat) (k1 : Nat) (k2 : Nat) (v3 : Int32) (k4 : Nat) (v5 : Int32) (v7 : Int32) (M : aM) : Prop := w_Vd_judge_J120 post K15 k0 k1 k2 v3 k4 v5 v7 ((1 : Int32)) M
theorem g_Vd_judge_J115 {d w : Nat} (hd : 103 ≤ d) (hw : 2973 ≤ w) {post : aM → Prop} {K15 : Nat → Nat → Nat → Int32 → Nat → Int32 → aM → Prop} (hK15 : ∀ (k0 : Nat) (k1 : Nat) (k2 : Nat) (v3 : Int32) (k4 : Nat) (v5 : Int32) (o6 o7 o8 : Option aV) (M : aM), K15 k0 k1 k2 v3 k4 v5 M → Gd d w 90 (pV post) (15, [some (aR 18 k0), some (aR 13 k1), some (aR 4 k2), some (aI v3), some (aR 16 k4), some (aI v5), o6, o7, o8], [], M)) (k0 : Nat) (k1 : Nat) (k2 : Nat) (v3 : Int32) (k4 : Nat) (v5 : Int32) (v7 : Int32) (o6 o8 : Option aV) (M : aM) (h : w_Vd_judge_J115 post K15 k0 k1 k2 v3 k4 v5 v7 M) : Gd d w 90 (pV post) (115, [some (aR 18 k0), some (aR 13 k1), some (aR 4 k2), some (aI v3), some (aR 16 k4), some (aI v5), o6, some (aI v7), o8], [], M) := by
  unfold w_Vd_judge_J115 at h
  show Gd d w 90 _ (115, [some (aR 18 k0), some (aR 13 k1), some (aR 4 k2), some (aI v3), some (aR 16 k4), some (aI v5), o6, some (aI v7), o8], [], M)
  refine gd_s (P := True ∧ True ∧ True) (σ1 := (120, [some (aR 18 k0), some (aR 13 k1), some (aR 4 k2), some (aI v3), some (aR 16 k4), some (aI v5), o6, some (aI v7), o8], [aI ((1 : Int32))], M)) tc_90 rfl 2 (fun u => ⟨_, rfl⟩) ⟨trivial, trivial, trivial⟩ ?_
  exact g_Vd_judge_J120 hd hw hK15 k0 k1 k2 v3 k4 v5 v7 ((1 : Int32)) o6 o8 M h
def w_Vd_judge_J90 (post : aM → Prop) (K15 : Nat → Nat → Nat → Int32 → Nat → Int32 → aM → Prop) (k0 : Nat) (k1 : Nat) (k2 : Nat) (v3 : Int32) (k4 : Nat) (v5 : Int32) (s0 : Int32) (M : aM) : Prop := (vp_in v5 (rK M (k0 + 1)).2) ∧ (((¬ (rI M (k0 + 1) v5.toNatClampNeg) = ((2 : Int32))) → w_Vd_judge_J119 post K15 k0 k1 k2 v3 k4 v5 s0 M) ∧ (¬ (¬ (rI M (k0 + 1) v5.toNatClampNeg) = ((2 : Int32))) → ((s0 = ((1 : Int32))) → w_Vd_judge_J115 post K15 k0 k1 k2 v3 k4 v5 s0 M) ∧ (¬ (s0 = ((1 : Int32))) → ((¬ s0 = ((2 : Int32))) → w_Vd_judge_J119 post K15 k0 k1 k2 v3 k4 v5 s0 M) ∧ (¬ (¬ s0 = ((2 : Int32))) → w_Vd_judge_J115 post K15 k0 k1 k2 v3 k4 v5 s0 M))))
theorem g_Vd_judge_J90 {d w : Nat} (hd : 103 ≤ d) (hw : 2973 ≤ w) {post : aM → Prop} {K15 : Nat → Nat → Nat → Int32 → Nat → Int32 → aM → Prop} (hK15 : ∀ (k0 : Nat) (k1 : Nat) (k2 : Nat) (v3 : Int32) (k4 : Nat) (v5 : Int32) (o6 o7 o8 : Option aV) (M : aM), K15 k0 k1 k2 v3 k4 v5 M → Gd d w 90 (pV post) (15, [some (aR 18 k0), some (aR 13 k1), some (aR 4 k2), some (aI v3), some (aR 16 k4), some (aI v5), o6, o7, o8], [], M)) (k0 : Nat) (k1 : Nat) (k2 : Nat) (v3 : Int32) (k4 : Nat) (v5 : Int32) (s0 : Int32) (o6 o7 o8 : Option aV) (M : aM) (h : w_Vd_judge_J90 post K15 k0 k1 k2 v3 k4 v5 s0 M) : Gd d w 90 (pV post) (90, [some (aR 18 k0), some (aR 13 k1), some (aR 4 k2), some (aI v3), some (aR 16 k4), some (aI v5), o6, o7, o8], [aI s0], M) := by
  unfold w_Vd_judge_J90 at h
  show Gd d w 90 _ (90, [some (aR 18 k0), some (aR 13 k1), some (aR 4 k2), some (aI v3), some (aR 16 k4), some (aI v5), o6, o7, o8], [aI s0], M)
  obtain ⟨c0, h⟩ := h
  refine gd_s (P := True ∧ True ∧ True ∧ True ∧ (vp_in v5 (rK M (k0 + 1)).2) ∧ True ∧ True) (σ1 := (100, [some (aR 18 k0), some (aR 13 k1), some (aR 4 k2), some (aI v3), some (aR 16 k4), some (aI v5), o6, some (aI s0), o8], [aI ((2 : Int32)), aI (rI M (k0 + 1) v5.toNatClampNeg)], M)) tc_90 rfl 6 (fun u => ⟨_, rfl⟩) ⟨trivial, trivial, trivial, trivial, c0, trivial, trivial⟩ ?_
  refine gd_br (c := ¬ (rI M (k0 + 1) v5.toNatClampNeg) = ((2 : Int32))) (st1 := []) tc_90 rfl rfl (fun _ => rfl) ⟨fun hc => ?_, fun hc => ?_⟩
  · have h := h.1 hc
    exact g_Vd_judge_J119 hd hw hK15 k0 k1 k2 v3 k4 v5 s0 o6 o8 M h
  · have h := h.2 hc
    show Gd d w 90 _ (103, [some (aR 18 k0), some (aR 13 k1), some (aR 4 k2), some (aI v3), some (aR 16 k4), some (aI v5), o6, some (aI s0), o8], [], M)
    refine gd_s (P := True ∧ True ∧ True) (σ1 := (106, [some (aR 18 k0), some (aR 13 k1), some (aR 4 k2), some (aI v3), some (aR 16 k4), some (aI v5), o6, some (aI s0), o8], [aI ((1 : Int32)), aI s0], M)) tc_90 rfl 2 (fun u => ⟨_, rfl⟩) ⟨trivial, trivial, trivial⟩ ?_
    refine gd_br (c := s0 = ((1 : Int32))) (st1 := []) tc_90 rfl rfl (fun _ => rfl) ⟨fun hc => ?_, fun hc => ?_⟩
    · have h := h.1 hc
      exact g_Vd_judge_J115 hd hw hK15 k0 k1 k2 v3 k4 v5 s0 o6 o8 M h
    · have h := h.2 hc
      show Gd d w 90 _ (109, [some (aR 18 k0), some (aR 13 k1), some (aR 4 k2), some (aI v3), some (aR 16 k4), some (aI v5), o6, some (aI s0), o8], [], M)
      refine gd_s (P := True ∧ True ∧ True) (σ1 := (112, [some (aR 18 k0), some (aR 13 k1), some (aR 4 k2), some (aI v3), some (aR 16 k4), some (aI v5), o6, some (aI s0), o8], [aI ((2 : Int32)), aI s0], M)) tc_90 rfl 2 (fun u => ⟨_, rfl⟩) ⟨trivial, trivial, trivial⟩ ?_
      refine gd_br (c := ¬ s0 = ((2 : Int32))) (st1 := []) tc_90 rfl rfl (fun _ => rfl) ⟨fun hc => ?_, fun hc => ?_⟩
      · have h := h.1 hc
        exact g_Vd_judge_J119 hd hw hK15 k0 k1 k2 v3 k4 v5 s0 o6 o8 M h
      · have h := h.2 hc
        exact g_Vd_judge_J115 hd hw hK15 k0 k1 k2 v3 k4 v5 s0 o6 o8 M h
def w_Vd_judge_J59 (post : aM → Prop) (K15 : Nat → Nat → Nat → Int32 → Nat → Int32 → aM → Prop) (k0 : Nat) (k1 : Nat) (k2 : Nat) (v3 : Int32) (k4 : Nat) (v5 : Int32) (t0 : Nat) (s1 : Int32) (s2 : Int32) (M : aM) : Prop := (vp_in s1 (rK M t0).2) ∧ (vp_in v5 (rK M (k0 + 3)).2) ∧ (vp_in v5 (rK M (k0 + 1)).2) ∧ (((¬ (rI (wI (wI M t0 s1.toNatClampNeg s2) (k0 + 3) v5.toNatClampNeg ((-1 : Int32))) (k0 + 1) v5.toNatClampNeg) = ((0 : Int32))) → w_Vd_decisionIfTrue (fun x1 M1 => w_Vd_judge_J90 post K15 k0 k1 k2 v3 k4 v5 x1 M1) k0 k4 v5 (wI (wI M t0 s1.toNatClampNeg s2) (k0 + 3) v5.toNatClampNeg ((-1 : Int32)))) ∧ (¬ (¬ (rI (wI (wI M t0 s1.toNatClampNeg s2) (k0 + 3) v5.toNatClampNeg ((-1 : Int32))) (k0 + 1) v5.toNatClampNeg) = ((0 : Int32))) → w_Vd_judge_J90 post K15 k0 k1 k2 v3 k4 v5 ((0 : Int32)) (wI (wI M t0 s1.toNatClampNeg s2) (k0 + 3) v5.toNatClampNeg ((-1 : Int32)))))
theorem g_Vd_judge_J59 {d w : Nat} (hd : 103 ≤ d) (hw : 2973 ≤ w) {post : aM → Prop} {K15 : Nat → Nat → Nat → Int32 → Nat → Int32 → aM → Prop} (hK15 : ∀ (k0 : Nat) (k1 : Nat) (k2 : Nat) (v3 : Int32) (k4 : Nat) (v5 : Int32) (o6 o7 o8 : Option aV) (M : aM), K15 k0 k1 k2 v3 k4 v5 M → Gd d w 90 (pV post) (15, [some (aR 18 k0), some (aR 13 k1), some (aR 4 k2), some (aI v3), some (aR 16 k4), some (aI v5), o6, o7, o8], [], M)) (k0 : Nat) (k1 : Nat) (k2 : Nat) (v3 : Int32) (k4 : Nat) (v5 : Int32) (t0 : Nat) (s1 : Int32) (s2 : Int32) (o6 o7 o8 : Option aV) (M : aM) (h : w_Vd_judge_J59 post K15 k0 k1 k2 v3 k4 v5 t0 s1 s2 M) : Gd d w 90 (pV post) (59, [some (aR 18 k0), some (aR 13 k1), some (aR 4 k2), some (aI v3), some (aR 16 k4), some (aI v5), o6, o7, o8], [aI s2, aI s1, aR 4 t0], M) := by
  unfold w_Vd_judge_J59 at h
  show Gd d w 90 _ (59, [some (aR 18 k0), some (aR 13 k1), some (aR 4 k2), some (aI v3), some (aR 16 k4), some (aI v5), o6, o7, o8], [aI s2, aI s1, aR 4 t0], M)
  obtain ⟨c0, c1, c2, h⟩ := h
  refine gd_s (P := (vp_in s1 (rK M t0).2) ∧ True ∧ True ∧ True ∧ True ∧ (vp_in v5 (rK M (k0 + 3)).2) ∧ True ∧ True ∧ True ∧ (vp_in v5 (rK M (k0 + 1)).2) ∧ True) (σ1 := (75, [some (aR 18 k0), some (aR 13 k1), some (aR 4 k2), some (aI v3), some (aR 16 k4), some (aI v5), o6, o7, o8], [aI (rI (wI (wI M t0 s1.toNatClampNeg s2) (k0 + 3) v5.toNatClampNeg ((-1 : Int32))) (k0 + 1) v5.toNatClampNeg)], wI (wI M t0 s1.toNatClampNeg s2) (k0 + 3) v5.toNatClampNeg ((-1 : Int32)))) tc_90 rfl 10 (fun u => ⟨_, rfl⟩) ⟨c0, trivial, trivial, trivial, trivial, c1, trivial, trivial, trivial, c2, trivial⟩ ?_
  refine gd_br (c := ¬ (rI (wI (wI M t0 s1.toNatClampNeg s2) (k0 + 3) v5.toNatClampNeg ((-1 : Int32))) (k0 + 1) v5.toNatClampNeg) = ((0 : Int32))) (st1 := []) tc_90 rfl rfl (fun _ => rfl) ⟨fun hc => ?_, fun hc => ?_⟩
  · have h := h.1 hc
    show Gd d w 90 _ (82, [some (aR 18 k0), some (aR 13 k1), some (aR 4 k2), some (aI v3), some (aR 16 k4), some (aI v5), o6, o7, o8], [], wI (wI M t0 s1.toNatClampNeg s2) (k0 + 3) v5.toNatClampNeg ((-1 : Int32)))
    refine gd_s (P := True ∧ True ∧ True ∧ True) (σ1 := (87, [some (aR 18 k0), some (aR 13 k1), some (aR 4 k2), some (aI v3), some (aR 16 k4), some (aI v5), o6, o7, o8], [aI v5, aR 16 k4, aR 18 k0], wI (wI M t0 s1.toNatClampNeg s2) (k0 + 3) v5.toNatClampNeg ((-1 : Int32)))) tc_90 rfl 3 (fun u => ⟨_, rfl⟩) ⟨trivial, trivial, trivial, trivial⟩ ?_
    refine gd_callN (ml := 3) (as := [aR 18 k0, aR 16 k4, aI v5]) (rest := []) tc_90 rfl rfl rfl rfl rfl (by omega) (by omega) (Nat.le_of_ble_eq_true rfl) rfl (g_Vd_decisionIfTrue (by omega) (by omega) h) (fun r9 M1 h => ?_)
    obtain ⟨x1, rfl, h⟩ := h
    exact g_Vd_judge_J90 hd hw hK15 k0 k1 k2 v3 k4 v5 x1 o6 o7 o8 M1 h
  · have h := h.2 hc
    show Gd d w 90 _ (78, [some (aR 18 k0), some (aR 13 k1), some (aR 4 k2), some (aI v3), some (aR 16 k4), some (aI v5), o6, o7, o8], [], wI (wI M t0 s1.toNatClampNeg s2) (k0 + 3) v5.toNatClampNeg ((-1 : Int32)))
    refine gd_s (P := True ∧ True ∧ True) (σ1 := (90, [some (aR 18 k0), some (aR 13 k1), some (aR 4 k2), some (aI v3), some (aR 16 k4), some (aI v5), o6, o7, o8], [aI ((0 : Int32))], wI (wI M t0 s1.toNatClampNeg s2) (k0 + 3) v5.toNatClampNeg ((-1 : Int32)))) tc_90 rfl 2 (fun u => ⟨_, rfl⟩) ⟨trivial, trivial, trivial⟩ ?_
    exact g_Vd_judge_J90 hd hw hK15 k0 k1 k2 v3 k4 v5 ((0 : Int32)) o6 o7 o8 (wI (wI M t0 s1.toNatClampNeg s2) (k0 + 3) v5.toNatClampNeg ((-1 : Int32))) h
def w_Vd_judge_L15 (post : aM → Prop) : Nat → Nat → Nat → Nat → Int32 → Nat → Int32 → aM → Prop
  | 0, _, _, _, _, _, _, _ => False
  | n + 1, k0, k1, k2, v3, k4, v5, M => ((v5 < (if ((0 : Int32)) < v3 then v3 else ((0 : Int32)))) → post M) ∧ (¬ (v5 < (if ((0 : Int32)) < v3 then v3 else ((0 : Int32)))) → (vp_in v5 (rK M (k4 + 7)).2) ∧ (((¬ (rI M (k4 + 7) v5.toNatClampNeg) = ((-1 : Int32))) → ∃ D, D ≤ 100 ∧ w_Vd_truthOf D (fun x1 => w_Vd_judge_J59 post (w_Vd_judge_L15 post n) k0 k1 k2 v3 k4 v5 (k0 + 1) v5 x1 M) k1 k2 (rI M (k4 + 7) v5.toNatClampNeg) ((0 : Int32)) M) ∧ (¬ (¬ (rI M (k4 + 7) v5.toNatClampNeg) = ((-1 : Int32))) → w_Vd_judge_J59 post (w_Vd_judge_L15 post n) k0 k1 k2 v3 k4 v5 (k0 + 1) v5 ((1 : Int32)) M)))
theorem g_Vd_judge_L15 {d w : Nat} (hd : 103 ≤ d) (hw : 2973 ≤ w) {post : aM → Prop} : ∀ (n : Nat) (k0 : Nat) (k1 : Nat) (k2 : Nat) (v3 : Int32) (k4 : Nat) (v5 : Int32) (o6 o7 o8 : Option aV) (M : aM), w_Vd_judge_L15 post n k0 k1 k2 v3 k4 v5 M → Gd d w 90 (pV post) (15, [some (aR 18 k0), some (aR 13 k1), some (aR 4 k2), some (aI v3), some (aR 16 k4), some (aI v5), o6, o7, o8], [], M) := by
  intro n
  induction n with
  | zero => intro k0 k1 k2 v3 k4 v5 o6 o7 o8 M h; exact h.elim
  | succ n ih =>
    intro k0 k1 k2 v3 k4 v5 o6 o7 o8 M h
    show Gd d w 90 _ (15, [some (aR 18 k0), some (aR 13 k1), some (aR 4 k2), some (aI v3), some (aR 16 k4), some (aI v5), o6, o7, o8], [], M)
    refine gd_s (P := True ∧ True ∧ True ∧ True) (σ1 := (19, [some (aR 18 k0), some (aR 13 k1), some (aR 4 k2), some (aI v3), some (aR 16 k4), some (aI v5), o6, o7, o8], [aI v3, aI ((0 : Int32)), aI v5], M)) tc_90 rfl 3 (fun u => ⟨_, rfl⟩) ⟨trivial, trivial, trivial, trivial⟩ ?_
    refine gd_prim (P := True) (σ1 := (22, [some (aR 18 k0), some (aR 13 k1), some (aR 4 k2), some (aI v3), some (aR 16 k4), some (aI v5), o6, o7, o8], [aI (if ((0 : Int32)) < v3 then v3 else ((0 : Int32))), aI v5], M)) tc_90 rfl rfl rfl rfl trivial (by omega) (by omega) (Nat.le_of_ble_eq_true rfl) ?_
    show Gd d w 90 _ (22, [some (aR 18 k0), some (aR 13 k1), some (aR 4 k2), some (aI v3), some (aR 16 k4), some (aI v5), o6, o7, o8], [aI (if ((0 : Int32)) < v3 then v3 else ((0 : Int32))), aI v5], M)
    refine gd_br (c := v5 < (if ((0 : Int32)) < v3 then v3 else ((0 : Int32)))) (st1 := []) tc_90 rfl rfl (fun _ => rfl) ⟨fun hc => ?_, fun hc => ?_⟩
    · have h := h.1 hc
      show Gd d w 90 _ (149, [some (aR 18 k0), some (aR 13 k1), some (aR 4 k2), some (aI v3), some (aR 16 k4), some (aI v5), o6, o7, o8], [], M)
      exact gd_ret tc_90 rfl rfl trivial (fun _ => rfl) ⟨rfl, h⟩
    · have h := h.2 hc
      show Gd d w 90 _ (25, [some (aR 18 k0), some (aR 13 k1), some (aR 4 k2), some (aI v3), some (aR 16 k4), some (aI v5), o6, o7, o8], [], M)
      obtain ⟨c0, h⟩ := h
      refine gd_s (P := True ∧ True ∧ True ∧ (vp_in v5 (rK M (k4 + 7)).2) ∧ True ∧ True ∧ True ∧ True ∧ True ∧ True ∧ True) (σ1 := (44, [some (aR 18 k0), some (aR 13 k1), some (aR 4 k2), some (aI v3), some (aR 16 k4), some (aI v5), some (aI (rI M (k4 + 7) v5.toNatClampNeg)), o7, o8], [aI ((-1 : Int32)), aI (rI M (k4 + 7) v5.toNatClampNeg), aI v5, aR 4 (k0 + 1)], M)) tc_90 rfl 10 (fun u => ⟨_, rfl⟩) ⟨trivial, trivial, trivial, c0, trivial, trivial, trivial, trivial, trivial, trivial, trivial⟩ ?_
      refine gd_br (c := ¬ (rI M (k4 + 7) v5.toNatClampNeg) = ((-1 : Int32))) (st1 := [aI v5, aR 4 (k0 + 1)]) tc_90 rfl rfl (fun _ => rfl) ⟨fun hc => ?_, fun hc => ?_⟩
      · have h := h.1 hc
        show Gd d w 90 _ (51, [some (aR 18 k0), some (aR 13 k1), some (aR 4 k2), some (aI v3), some (aR 16 k4), some (aI v5), some (aI (rI M (k4 + 7) v5.toNatClampNeg)), o7, o8], [aI v5, aR 4 (k0 + 1)], M)
        refine gd_s (P := True ∧ True ∧ True ∧ True ∧ True) (σ1 := (56, [some (aR 18 k0), some (aR 13 k1), some (aR 4 k2), some (aI v3), some (aR 16 k4), some (aI v5), some (aI (rI M (k4 + 7) v5.toNatClampNeg)), o7, o8], [aI ((0 : Int32)), aI (rI M (k4 + 7) v5.toNatClampNeg), aR 4 k2, aR 13 k1, aI v5, aR 4 (k0 + 1)], M)) tc_90 rfl 4 (fun u => ⟨_, rfl⟩) ⟨trivial, trivial, trivial, trivial, trivial⟩ ?_
        obtain ⟨D9, hD9, h⟩ := h
        refine gd_callN (ml := 6) (as := [aR 13 k1, aR 4 k2, aI (rI M (k4 + 7) v5.toNatClampNeg), aI ((0 : Int32))]) (rest := [aI v5, aR 4 (k0 + 1)]) tc_90 rfl rfl rfl rfl rfl (by omega) (by omega) (Nat.le_of_ble_eq_true rfl) rfl (g_Vd_truthOf (D := D9) (by omega) (by omega) h) (fun r9 M9 h => ?_)
        obtain ⟨x1, rfl, e9, h⟩ := h
        subst M9
        exact g_Vd_judge_J59 hd hw ih k0 k1 k2 v3 k4 v5 (k0 + 1) v5 x1 (some (aI (rI M (k4 + 7) v5.toNatClampNeg))) o7 o8 M h
      · have h := h.2 hc
        show Gd d w 90 _ (47, [some (aR 18 k0), some (aR 13 k1), some (aR 4 k2), some (aI v3), some (aR 16 k4), some (aI v5), some (aI (rI M (k4 + 7) v5.toNatClampNeg)), o7, o8], [aI v5, aR 4 (k0 + 1)], M)
        refine gd_s (P := True ∧ True ∧ True) (σ1 := (59, [some (aR 18 k0), some (aR 13 k1), some (aR 4 k2), some (aI v3), some (aR 16 k4), some (aI v5), some (aI (rI M (k4 + 7) v5.toNatClampNeg)), o7, o8], [aI ((1 : Int32)), aI v5, aR 4 (k0 + 1)], M)) tc_90 rfl 2 (fun u => ⟨_, rfl⟩) ⟨trivial, trivial, trivial⟩ ?_
        exact g_Vd_judge_J59 hd hw ih k0 k1 k2 v3 k4 v5 (k0 + 1) v5 ((1 : Int32)) (some (aI (rI M (k4 + 7) v5.toNatClampNeg))) o7 o8 M h
/-- PolicyJudge$Verdict.judge(LPolicyJudge$Text;[II)V -/
def w_Vd_judge (post : aM → Prop) (k0 : Nat) (k1 : Nat) (k2 : Nat) (v3 : Int32) (M : aM) : Prop := ∃ n9, w_Vd_judge_L15 post n9 k0 k1 k2 v3 (k1 + 9) ((rI M (k1 + 9) 0) - ((1 : Int32))) M
theorem g_Vd_judge {d w : Nat} (hd : 103 ≤ d) (hw : 2973 ≤ w) {post : aM → Prop} {k0 : Nat} {k1 : Nat} {k2 : Nat} {v3 : Int32} {M : aM} (h : w_Vd_judge post k0 k1 k2 v3 M) : Gd d w 90 (pV post) (0, aEnt 90 [aR 18 k0, aR 13 k1, aR 4 k2, aI v3], [], M) := by
  unfold w_Vd_judge at h
  show Gd d w 90 _ (0, [some (aR 18 k0), some (aR 13 k1), some (aR 4 k2), some (aI v3), none, none, none, none, none], [], M)
  refine gd_s (P := True ∧ True ∧ True ∧ True ∧ True ∧ True ∧ True ∧ True ∧ True) (σ1 := (15, [some (aR 18 k0), some (aR 13 k1), some (aR 4 k2), some (aI v3), some (aR 16 (k1 + 9)), some (aI ((rI M (k1 + 9) 0) - ((1 : Int32)))), none, none, none], [], M)) tc_90 rfl 8 (fun u => ⟨_, rfl⟩) ⟨trivial, trivial, trivial, trivial, trivial, trivial, trivial, trivial, trivial⟩ ?_
  obtain ⟨n9, h⟩ := h
  exact g_Vd_judge_L15 hd hw n9 k0 k1 k2 v3 (k1 + 9) ((rI M (k1 + 9) 0) - ((1 : Int32))) none none none M h
theorem tc_102 : tC 102 = c102 := rfl
def w_Vd_collectDutiesOf_L108 (post : aM → Prop) (R_Vd_collectDutiesOf : (aM → Prop) → Nat → Nat → Int32 → Int32 → aM → Prop) : Nat → Nat → Nat → Int32 → Int32 → aM → Prop
  | 0, _, _, _, _, _ => False
  | n + 1, k0, k1, v2, v5, M => (((rI M k1 10) ≤ v5) → post M) ∧ (¬ ((rI M k1 10) ≤ v5) → ((((100 : Int32)) ≤ (rI M k0 4)) → post M) ∧ (¬ (((100 : Int32)) ≤ (rI M k0 4)) → (vp_in v5 (rK M (k1 + 13)).2) ∧ (((¬ (rI M (k1 + 13) v5.toNatClampNeg) = v2) → w_Vd_collectDutiesOf_L108 post R_Vd_collectDutiesOf n k0 k1 v2 (v5 + (1 : Int32)) M) ∧ (¬ (¬ (rI M (k1 + 13) v5.toNatClampNeg) = v2) → (vp_in v5 (rK M (k1 + 14)).2) ∧ (vp_in v2 (rK M (k0 + 2)).2) ∧ (((¬ (rI M (k1 + 14) v5.toNatClampNeg) = (rI M (k0 + 2) v2.toNatClampNeg)) → w_Vd_collectDutiesOf_L108 post R_Vd_collectDutiesOf n k0 k1 v2 (v5 + (1 : Int32)) M) ∧ (¬ (¬ (rI M (k1 + 14) v5.toNatClampNeg) = (rI M (k0 + 2) v2.toNatClampNeg)) → (vp_in v5 (rK M (k1 + 12)).2) ∧ (vp_in (rI M k0 4) (rK M (k0 + 4)).2) ∧ (w_Vd_collectDutiesOf_L108 post R_Vd_collectDutiesOf n k0 k1 v2 (v5 + (1 : Int32)) (wI (wI M (k0 + 4) (rI M k0 4).toNatClampNeg (rI M (k1 + 12) v5.toNatClampNeg)) k0 4 ((rI (wI M (k0 + 4) (rI M k0 4).toNatClampNeg (rI M (k1 + 12) v5.toNatClampNeg)) k0 4) + ((1 : Int32)))))))))))
theorem g_Vd_collectDutiesOf_L108 {d w : Nat} (hd : 1 ≤ d) (hw : 26 ≤ w) {post : aM → Prop} {R_Vd_collectDutiesOf : (aM → Prop) → Nat → Nat → Int32 → Int32 → aM → Prop} (hR_Vd_collectDutiesOf : ∀ (post : aM → Prop) (k0 : Nat) (k1 : Nat) (v2 : Int32) (v3 : Int32) (M : aM), R_Vd_collectDutiesOf post k0 k1 v2 v3 M → Gd (d - 1) (w - (7 + 19)) 102 (pV post) (0, aEnt 102 [aR 18 k0, aR 16 k1, aI v2, aI v3], [], M)) : ∀ (n : Nat) (k0 : Nat) (k1 : Nat) (v2 : Int32) (v5 : Int32) (o3 o4 o6 : Option aV) (M : aM), w_Vd_collectDutiesOf_L108 post R_Vd_collectDutiesOf n k0 k1 v2 v5 M → Gd d w 102 (pV post) (108, [some (aR 18 k0), some (aR 16 k1), some (aI v2), o3, o4, some (aI v5), o6], [], M) := by
  intro n
  induction n with
  | zero => intro k0 k1 v2 v5 o3 o4 o6 M h; exact h.elim
  | succ n ih =>
    intro k0 k1 v2 v5 o3 o4 o6 M h
    show Gd d w 102 _ (108, [some (aR 18 k0), some (aR 16 k1), some (aI v2), o3, o4, some (aI v5), o6], [], M)
    refine gd_s (P := True ∧ True ∧ True ∧ True) (σ1 := (114, [some (aR 18 k0), some (aR 16 k1), some (aI v2), o3, o4, some (aI v5), o6], [aI (rI M k1 10), aI v5], M)) tc_102 rfl 3 (fun u => ⟨_, rfl⟩) ⟨trivial, trivial, trivial, trivial⟩ ?_
    refine gd_br (c := (rI M k1 10) ≤ v5) (st1 := []) tc_102 rfl rfl (fun _ => rfl) ⟨fun hc => ?_, fun hc => ?_⟩
    · have h := h.1 hc
      show Gd d w 102 _ (185, [some (aR 18 k0), some (aR 16 k1), some (aI v2), o3, o4, some (aI v5), o6], [], M)
      exact gd_ret tc_102 rfl rfl trivial (fun _ => rfl) ⟨rfl, h⟩
    · have h := h.2 hc
      show Gd d w 102 _ (117, [some (aR 18 k0), some (aR 16 k1), some (aI v2), o3, o4, some (aI v5), o6], [], M)
      refine gd_s (P := True ∧ True ∧ True ∧ True) (σ1 := (123, [some (aR 18 k0), some (aR 16 k1), some (aI v2), o3, o4, some (aI v5), o6], [aI ((100 : Int32)), aI (rI M k0 4)], M)) tc_102 rfl 3 (fun u => ⟨_, rfl⟩) ⟨trivial, trivial, trivial, trivial⟩ ?_
      refine gd_br (c := ((100 : Int32)) ≤ (rI M k0 4)) (st1 := []) tc_102 rfl rfl (fun _ => rfl) ⟨fun hc => ?_, fun hc => ?_⟩
      · have h := h.1 hc
        show Gd d w 102 _ (185, [some (aR 18 k0), some (aR 16 k1), some (aI v2), o3, o4, some (aI v5), o6], [], M)
        exact gd_ret tc_102 rfl rfl trivial (fun _ => rfl) ⟨rfl, h⟩
      · have h := h.2 hc
        show Gd d w 102 _ (126, [some (aR 18 k0), some (aR 16 k1), some (aI v2), o3, o4, some (aI v5), o6], [], M)
        obtain ⟨c0, h⟩ := h
        refine gd_s (P := True ∧ True ∧ True ∧ (vp_in v5 (rK M (k1 + 13)).2) ∧ True ∧ True) (σ1 := (134, [some (aR 18 k0), some (aR 16 k1), some (aI v2), o3, o4, some (aI v5), o6], [aI v2, aI (rI M (k1 + 13) v5.toNatClampNeg)], M)) tc_102 rfl 5 (fun u => ⟨_, rfl⟩) ⟨trivial, trivial, trivial, c0, trivial, trivial⟩ ?_
        refine gd_br (c := ¬ (rI M (k1 + 13) v5.toNatClampNeg) = v2) (st1 := []) tc_102 rfl rfl (fun _ => rfl) ⟨fun hc => ?_, fun hc => ?_⟩
        · have h := h.1 hc
          show Gd d w 102 _ (179, [some (aR 18 k0), some (aR 16 k1), some (aI v2), o3, o4, some (aI v5), o6], [], M)
          refine gd_s (P := True ∧ True ∧ True) (σ1 := (108, [some (aR 18 k0), some (aR 16 k1), some (aI v2), o3, o4, some (aI (v5 + (1 : Int32))), o6], [], M)) tc_102 rfl 2 (fun u => ⟨_, rfl⟩) ⟨trivial, trivial, trivial⟩ ?_
          exact ih k0 k1 v2 (v5 + (1 : Int32)) o3 o4 o6 M h
        · have h := h.2 hc
          show Gd d w 102 _ (137, [some (aR 18 k0), some (aR 16 k1), some (aI v2), o3, o4, some (aI v5), o6], [], M)
          obtain ⟨c0, c1, h⟩ := h
          refine gd_s (P := True ∧ True ∧ True ∧ (vp_in v5 (rK M (k1 + 14)).2) ∧ True ∧ True ∧ True ∧ (vp_in v2 (rK M (k0 + 2)).2) ∧ True) (σ1 := (150, [some (aR 18 k0), some (aR 16 k1), some (aI v2), o3, o4, some (aI v5), o6], [aI (rI M (k0 + 2) v2.toNatClampNeg), aI (rI M (k1 + 14) v5.toNatClampNeg)], M)) tc_102 rfl 8 (fun u => ⟨_, rfl⟩) ⟨trivial, trivial, trivial, c0, trivial, trivial, trivial, c1, trivial⟩ ?_
          refine gd_br (c := ¬ (rI M (k1 + 14) v5.toNatClampNeg) = (rI M (k0 + 2) v2.toNatClampNeg)) (st1 := []) tc_102 rfl rfl (fun _ => rfl) ⟨fun hc => ?_, fun hc => ?_⟩
          · have h := h.1 hc
            show Gd d w 102 _ (179, [some (aR 18 k0), some (aR 16 k1), some (aI v2), o3, o4, some (aI v5), o6], [], M)
            refine gd_s (P := True ∧ True ∧ True) (σ1 := (108, [some (aR 18 k0), some (aR 16 k1), some (aI v2), o3, o4, some (aI (v5 + (1 : Int32))), o6], [], M)) tc_102 rfl 2 (fun u => ⟨_, rfl⟩) ⟨trivial, trivial, trivial⟩ ?_
            exact ih k0 k1 v2 (v5 + (1 : Int32)) o3 o4 o6 M h
          · have h := h.2 hc
            show Gd d w 102 _ (153, [some (aR 18 k0), some (aR 16 k1), some (aI v2), o3, o4, some (aI v5), o6], [], M)
            obtain ⟨c0, c1, h⟩ := h
            refine gd_s (P := True ∧ True ∧ True ∧ True ∧ True ∧ True ∧ True ∧ (vp_in v5 (rK M (k1 + 12)).2) ∧ (vp_in (rI M k0 4) (rK M (k0 + 4)).2) ∧ True ∧ True ∧ True ∧ True ∧ True ∧ True ∧ True ∧ True ∧ True) (σ1 := (108, [some (aR 18 k0), some (aR 16 k1), some (aI v2), o3, o4, some (aI (v5 + (1 : Int32))), o6], [], wI (wI M (k0 + 4) (rI M k0 4).toNatClampNeg (rI M (k1 + 12) v5.toNatClampNeg)) k0 4 ((rI (wI M (k0 + 4) (rI M k0 4).toNatClampNeg (rI M (k1 + 12) v5.toNatClampNeg)) k0 4) + ((1 : Int32))))) tc_102 rfl 17 (fun u => ⟨_, rfl⟩) ⟨trivial, trivial, trivial, trivial, trivial, trivial, trivial, c0, c1, trivial, trivial, trivial, trivial, trivial, trivial, trivial, trivial, trivial⟩ ?_
            exact ih k0 k1 v2 (v5 + (1 : Int32)) o3 o4 o6 (wI (wI M (k0 + 4) (rI M k0 4).toNatClampNeg (rI M (k1 + 12) v5.toNatClampNeg)) k0 4 ((rI (wI M (k0 + 4) (rI M k0 4).toNatClampNeg (rI M (k1 + 12) v5.toNatClampNeg)) k0 4) + ((1 : Int32)))) h
def w_Vd_collectDutiesOf_J90 (post : aM → Prop) (R_Vd_collectDutiesOf : (aM → Prop) → Nat → Nat → Int32 → Int32 → aM → Prop) (K20 : Nat → Nat → Int32 → Int32 → Int32 → Int32 → aM → Prop) (k0 : Nat) (k1 : Nat) (v2 : Int32) (v3 : Int32) (v4 : Int32) (v5 : Int32) (M : aM) : Prop := (vp_in v4 (rK M (k1 + 10)).2) ∧ (K20 k0 k1 v2 v3 (rI M (k1 + 10) v4.toNatClampNeg) (v5 + (-1 : Int32)) M)
theorem g_Vd_collectDutiesOf_J90 {d w : Nat} (hd : 1 ≤ d) (hw : 26 ≤ w) {post : aM → Prop} {R_Vd_collectDutiesOf : (aM → Prop) → Nat → Nat → Int32 → Int32 → aM → Prop} (hR_Vd_collectDutiesOf : ∀ (post : aM → Prop) (k0 : Nat) (k1 : Nat) (v2 : Int32) (v3 : Int32) (M : aM), R_Vd_collectDutiesOf post k0 k1 v2 v3 M → Gd (d - 1) (w - (7 + 19)) 102 (pV post) (0, aEnt 102 [aR 18 k0, aR 16 k1, aI v2, aI v3], [], M)) {K20 : Nat → Nat → Int32 → Int32 → Int32 → Int32 → aM → Prop} (hK20 : ∀ (k0 : Nat) (k1 : Nat) (v2 : Int32) (v3 : Int32) (v4 : Int32) (v5 : Int32) (o6 : Option aV) (M : aM), K20 k0 k1 v2 v3 v4 v5 M → Gd d w 102 (pV post) (20, [some (aR 18 k0), some (aR 16 k1), some (aI v2), some (aI v3), some (aI v4), some (aI v5), o6], [], M)) (k0 : Nat) (k1 : Nat) (v2 : Int32) (v3 : Int32) (v4 : Int32) (v5 : Int32) (o6 : Option aV) (M : aM) (h : w_Vd_collectDutiesOf_J90 post R_Vd_collectDutiesOf K20 k0 k1 v2 v3 v4 v5 M) : Gd d w 102 (pV post) (90, [some (aR 18 k0), some (aR 16 k1), some (aI v2), some (aI v3), some (aI v4), some (aI v5), o6], [], M) := by
  unfold w_Vd_collectDutiesOf_J90 at h
  show Gd d w 102 _ (90, [some (aR 18 k0), some (aR 16 k1), some (aI v2), some (aI v3), some (aI v4), some (aI v5), o6], [], M)
  obtain ⟨c0, h⟩ := h
  refine gd_s (P := True ∧ True ∧ True ∧ (vp_in v4 (rK M (k1 + 10)).2) ∧ True ∧ True ∧ True ∧ True) (σ1 := (20, [some (aR 18 k0), some (aR 16 k1), some (aI v2), some (aI v3), some (aI (rI M (k1 + 10) v4.toNatClampNeg)), some (aI (v5 + (-1 : Int32))), o6], [], M)) tc_102 rfl 7 (fun u => ⟨_, rfl⟩) ⟨trivial, trivial, trivial, c0, trivial, trivial, trivial, trivial⟩ ?_
  exact hK20 k0 k1 v2 v3 (rI M (k1 + 10) v4.toNatClampNeg) (v5 + (-1 : Int32)) o6 M h
def w_Vd_collectDutiesOf_J57 (post : aM → Prop) (R_Vd_collectDutiesOf : (aM → Prop) → Nat → Nat → Int32 → Int32 → aM → Prop) (K20 : Nat → Nat → Int32 → Int32 → Int32 → Int32 → aM → Prop) (k0 : Nat) (k1 : Nat) (v2 : Int32) (v3 : Int32) (v4 : Int32) (v5 : Int32) (s0 : Int32) (M : aM) : Prop := ((s0 = ((0 : Int32))) → w_Vd_collectDutiesOf_J90 post R_Vd_collectDutiesOf K20 k0 k1 v2 v3 v4 v5 M) ∧ (¬ (s0 = ((0 : Int32))) → (vp_in v4 (rK M (k0 + 2)).2) ∧ (vp_in v2 (rK M (k0 + 2)).2) ∧ (((¬ (rI M (k0 + 2) v4.toNatClampNeg) = (rI M (k0 + 2) v2.toNatClampNeg)) → w_Vd_collectDutiesOf_J90 post R_Vd_collectDutiesOf K20 k0 k1 v2 v3 v4 v5 M) ∧ (¬ (¬ (rI M (k0 + 2) v4.toNatClampNeg) = (rI M (k0 + 2) v2.toNatClampNeg)) → R_Vd_collectDutiesOf (fun M1 => w_Vd_collectDutiesOf_J90 post R_Vd_collectDutiesOf K20 k0 k1 v2 v3 v4 v5 M1) k0 k1 v4 (v3 + ((1 : Int32))) M)))
theorem g_Vd_collectDutiesOf_J57 {d w : Nat} (hd : 1 ≤ d) (hw : 26 ≤ w) {post : aM → Prop} {R_Vd_collectDutiesOf : (aM → Prop) → Nat → Nat → Int32 → Int32 → aM → Prop} (hR_Vd_collectDutiesOf : ∀ (post : aM → Prop) (k0 : Nat) (k1 : Nat) (v2 : Int32) (v3 : Int32) (M : aM), R_Vd_collectDutiesOf post k0 k1 v2 v3 M → Gd (d - 1) (w - (7 + 19)) 102 (pV post) (0, aEnt 102 [aR 18 k0, aR 16 k1, aI v2, aI v3], [], M)) {K20 : Nat → Nat → Int32 → Int32 → Int32 → Int32 → aM → Prop} (hK20 : ∀ (k0 : Nat) (k1 : Nat) (v2 : Int32) (v3 : Int32) (v4 : Int32) (v5 : Int32) (o6 : Option aV) (M : aM), K20 k0 k1 v2 v3 v4 v5 M → Gd d w 102 (pV post) (20, [some (aR 18 k0), some (aR 16 k1), some (aI v2), some (aI v3), some (aI v4), some (aI v5), o6], [], M)) (k0 : Nat) (k1 : Nat) (v2 : Int32) (v3 : Int32) (v4 : Int32) (v5 : Int32) (s0 : Int32) (o6 : Option aV) (M : aM) (h : w_Vd_collectDutiesOf_J57 post R_Vd_collectDutiesOf K20 k0 k1 v2 v3 v4 v5 s0 M) : Gd d w 102 (pV post) (57, [some (aR 18 k0), some (aR 16 k1), some (aI v2), some (aI v3), some (aI v4), some (aI v5), o6], [aI s0], M) := by
  unfold w_Vd_collectDutiesOf_J57 at h
  show Gd d w 102 _ (57, [some (aR 18 k0), some (aR 16 k1), some (aI v2), some (aI v3), some (aI v4), some (aI v5), o6], [aI s0], M)
  refine gd_s (P := True ∧ True ∧ True) (σ1 := (61, [some (aR 18 k0), some (aR 16 k1), some (aI v2), some (aI v3), some (aI v4), some (aI v5), some (aI s0)], [aI s0], M)) tc_102 rfl 2 (fun u => ⟨_, rfl⟩) ⟨trivial, trivial, trivial⟩ ?_
  refine gd_br (c := s0 = ((0 : Int32))) (st1 := []) tc_102 rfl rfl (fun _ => rfl) ⟨fun hc => ?_, fun hc => ?_⟩
  · have h := h.1 hc
    exact g_Vd_collectDutiesOf_J90 hd hw hR_Vd_collectDutiesOf hK20 k0 k1 v2 v3 v4 v5 (some (aI s0)) M h
  · have h := h.2 hc
    show Gd d w 102 _ (64, [some (aR 18 k0), some (aR 16 k1), some (aI v2), some (aI v3), some (aI v4), some (aI v5), some (aI s0)], [], M)
    obtain ⟨c0, c1, h⟩ := h
    refine gd_s (P := True ∧ True ∧ True ∧ (vp_in v4 (rK M (k0 + 2)).2) ∧ True ∧ True ∧ True ∧ (vp_in v2 (rK M (k0 + 2)).2) ∧ True) (σ1 := (77, [some (aR 18 k0), some (aR 16 k1), some (aI v2), some (aI v3), some (aI v4), some (aI v5), some (aI s0)], [aI (rI M (k0 + 2) v2.toNatClampNeg), aI (rI M (k0 + 2) v4.toNatClampNeg)], M)) tc_102 rfl 8 (fun u => ⟨_, rfl⟩) ⟨trivial, trivial, trivial, c0, trivial, trivial, trivial, c1, trivial⟩ ?_
    refine gd_br (c := ¬ (rI M (k0 + 2) v4.toNatClampNeg) = (rI M (k0 + 2) v2.toNatClampNeg)) (st1 := []) tc_102 rfl rfl (fun _ => rfl) ⟨fun hc => ?_, fun hc => ?_⟩
    · have h := h.1 hc
      exact g_Vd_collectDutiesOf_J90 hd hw hR_Vd_collectDutiesOf hK20 k0 k1 v2 v3 v4 v5 (some (aI s0)) M h
    · have h := h.2 hc
      show Gd d w 102 _ (80, [some (aR 18 k0), some (aR 16 k1), some (aI v2), some (aI v3), some (aI v4), some (aI v5), some (aI s0)], [], M)
      refine gd_s (P := True ∧ True ∧ True ∧ True ∧ True ∧ True ∧ True) (σ1 := (87, [some (aR 18 k0), some (aR 16 k1), some (aI v2), some (aI v3), some (aI v4), some (aI v5), some (aI s0)], [aI (v3 + ((1 : Int32))), aI v4, aR 16 k1, aR 18 k0], M)) tc_102 rfl 6 (fun u => ⟨_, rfl⟩) ⟨trivial, trivial, trivial, trivial, trivial, trivial, trivial⟩ ?_
      refine gd_callN (ml := 7) (as := [aR 18 k0, aR 16 k1, aI v4, aI (v3 + ((1 : Int32)))]) (rest := []) tc_102 rfl rfl rfl rfl rfl (by omega) (by omega) (Nat.le_of_ble_eq_true rfl) rfl (hR_Vd_collectDutiesOf _ k0 k1 v4 (v3 + ((1 : Int32))) _ h) (fun r9 M1 h => ?_)
      obtain ⟨rfl, h⟩ := h
      exact g_Vd_collectDutiesOf_J90 hd hw hR_Vd_collectDutiesOf hK20 k0 k1 v2 v3 v4 v5 (some (aI s0)) M1 h
def w_Vd_collectDutiesOf_J52 (post : aM → Prop) (R_Vd_collectDutiesOf : (aM → Prop) → Nat → Nat → Int32 → Int32 → aM → Prop) (K20 : Nat → Nat → Int32 → Int32 → Int32 → Int32 → aM → Prop) (k0 : Nat) (k1 : Nat) (v2 : Int32) (v3 : Int32) (v4 : Int32) (v5 : Int32) (M : aM) : Prop := w_Vd_collectDutiesOf_J57 post R_Vd_collectDutiesOf K20 k0 k1 v2 v3 v4 v5 ((1 : Int32)) M
theorem g_Vd_collectDutiesOf_J52 {d w : Nat} (hd : 1 ≤ d) (hw : 26 ≤ w) {post : aM → Prop} {R_Vd_collectDutiesOf : (aM → Prop) → Nat → Nat → Int32 → Int32 → aM → Prop} (hR_Vd_collectDutiesOf : ∀ (post : aM → Prop) (k0 : Nat) (k1 : Nat) (v2 : Int32) (v3 : Int32) (M : aM), R_Vd_collectDutiesOf post k0 k1 v2 v3 M → Gd (d - 1) (w - (7 + 19)) 102 (pV post) (0, aEnt 102 [aR 18 k0, aR 16 k1, aI v2, aI v3], [], M)) {K20 : Nat → Nat → Int32 → Int32 → Int32 → Int32 → aM → Prop} (hK20 : ∀ (k0 : Nat) (k1 : Nat) (v2 : Int32) (v3 : Int32) (v4 : Int32) (v5 : Int32) (o6 : Option aV) (M : aM), K20 k0 k1 v2 v3 v4 v5 M → Gd d w 102 (pV post) (20, [some (aR 18 k0), some (aR 16 k1), some (aI v2), some (aI v3), some (aI v4), some (aI v5), o6], [], M)) (k0 : Nat) (k1 : Nat) (v2 : Int32) (v3 : Int32) (v4 : Int32) (v5 : Int32) (o6 : Option aV) (M : aM) (h : w_Vd_collectDutiesOf_J52 post R_Vd_collectDutiesOf K20 k0 k1 v2 v3 v4 v5 M) : Gd d w 102 (pV post) (52, [some (aR 18 k0), some (aR 16 k1), some (aI v2), some (aI v3), some (aI v4), some (aI v5), o6], [], M) := by
  unfold w_Vd_collectDutiesOf_J52 at h
  show Gd d w 102 _ (52, [some (aR 18 k0), some (aR 16 k1), some (aI v2), some (aI v3), some (aI v4), some (aI v5), o6], [], M)
  refine gd_s (P := True ∧ True ∧ True) (σ1 := (57, [some (aR 18 k0), some (aR 16 k1), some (aI v2), some (aI v3), some (aI v4), some (aI v5), o6], [aI ((1 : Int32))], M)) tc_102 rfl 2 (fun u => ⟨_, rfl⟩) ⟨trivial, trivial, trivial⟩ ?_
  exact g_Vd_collectDutiesOf_J57 hd hw hR_Vd_collectDutiesOf hK20 k0 k1 v2 v3 v4 v5 ((1 : Int32)) o6 M h
def w_Vd_collectDutiesOf_L20 (post : aM → Prop) (R_Vd_collectDutiesOf : (aM → Prop) → Nat → Nat → Int32 → Int32 → aM → Prop) : Nat → Nat → Nat → Int32 → Int32 → Int32 → Int32 → aM → Prop
  | 0, _, _, _, _, _, _, _ => False
  | n + 1, k0, k1, v2, v3, v4, v5, M => ((v5 ≤ ((0 : Int32))) → ∃ n9, w_Vd_collectDutiesOf_L108 post R_Vd_collectDutiesOf n9 k0 k1 v2 ((0 : Int32)) M) ∧ (¬ (v5 ≤ ((0 : Int32))) → ((v4 = ((-1 : Int32))) → ∃ n9, w_Vd_collectDutiesOf_L108 post R_Vd_collectDutiesOf n9 k0 k1 v2 ((0 : Int32)) M) ∧ (¬ (v4 = ((-1 : Int32))) → (vp_in v2 (rK M (k0 + 3)).2) ∧ ((((rI M (k0 + 3) v2.toNatClampNeg) = ((-1 : Int32))) → w_Vd_collectDutiesOf_J52 post R_Vd_collectDutiesOf (w_Vd_collectDutiesOf_L20 post R_Vd_collectDutiesOf n) k0 k1 v2 v3 v4 v5 M) ∧ (¬ ((rI M (k0 + 3) v2.toNatClampNeg) = ((-1 : Int32))) → (vp_in v2 (rK M (k0 + 3)).2) ∧ (((¬ (rI M (k0 + 3) v2.toNatClampNeg) = v4) → w_Vd_collectDutiesOf_J57 post R_Vd_collectDutiesOf (w_Vd_collectDutiesOf_L20 post R_Vd_collectDutiesOf n) k0 k1 v2 v3 v4 v5 ((0 : Int32)) M) ∧ (¬ (¬ (rI M (k0 + 3) v2.toNatClampNeg) = v4) → w_Vd_collectDutiesOf_J52 post R_Vd_collectDutiesOf (w_Vd_collectDutiesOf_L20 post R_Vd_collectDutiesOf n) k0 k1 v2 v3 v4 v5 M))))))
theorem g_Vd_collectDutiesOf_L20 {d w : Nat} (hd : 1 ≤ d) (hw : 26 ≤ w) {post : aM → Prop} {R_Vd_collectDutiesOf : (aM → Prop) → Nat → Nat → Int32 → Int32 → aM → Prop} (hR_Vd_collectDutiesOf : ∀ (post : aM → Prop) (k0 : Nat) (k1 : Nat) (v2 : Int32) (v3 : Int32) (M : aM), R_Vd_collectDutiesOf post k0 k1 v2 v3 M → Gd (d - 1) (w - (7 + 19)) 102 (pV post) (0, aEnt 102 [aR 18 k0, aR 16 k1, aI v2, aI v3], [], M)) : ∀ (n : Nat) (k0 : Nat) (k1 : Nat) (v2 : Int32) (v3 : Int32) (v4 : Int32) (v5 : Int32) (o6 : Option aV) (M : aM), w_Vd_collectDutiesOf_L20 post R_Vd_collectDutiesOf n k0 k1 v2 v3 v4 v5 M → Gd d w 102 (pV post) (20, [some (aR 18 k0), some (aR 16 k1), some (aI v2), some (aI v3), some (aI v4), some (aI v5), o6], [], M) := by
  intro n
  induction n with
  | zero => intro k0 k1 v2 v3 v4 v5 o6 M h; exact h.elim
  | succ n ih =>
    intro k0 k1 v2 v3 v4 v5 o6 M h
    show Gd d w 102 _ (20, [some (aR 18 k0), some (aR 16 k1), some (aI v2), some (aI v3), some (aI v4), some (aI v5), o6], [], M)
    refine gd_s (P := True ∧ True) (σ1 := (22, [some (aR 18 k0), some (aR 16 k1), some (aI v2), some (aI v3), some (aI v4), some (aI v5), o6], [aI v5], M)) tc_102 rfl 1 (fun u => ⟨_, rfl⟩) ⟨trivial, trivial⟩ ?_
    refine gd_br (c := v5 ≤ ((0 : Int32))) (st1 := []) tc_102 rfl rfl (fun _ => rfl) ⟨fun hc => ?_, fun hc => ?_⟩
    · have h := h.1 hc
      show Gd d w 102 _ (105, [some (aR 18 k0), some (aR 16 k1), some (aI v2), some (aI v3), some (aI v4), some (aI v5), o6], [], M)
      refine gd_s (P := True ∧ True ∧ True) (σ1 := (108, [some (aR 18 k0), some (aR 16 k1), some (aI v2), some (aI v3), some (aI v4), some (aI ((0 : Int32))), o6], [], M)) tc_102 rfl 2 (fun u => ⟨_, rfl⟩) ⟨trivial, trivial, trivial⟩ ?_
      obtain ⟨n9, h⟩ := h
      exact g_Vd_collectDutiesOf_L108 hd hw hR_Vd_collectDutiesOf n9 k0 k1 v2 ((0 : Int32)) (some (aI v3)) (some (aI v4)) o6 M h
    · have h := h.2 hc
      show Gd d w 102 _ (25, [some (aR 18 k0), some (aR 16 k1), some (aI v2), some (aI v3), some (aI v4), some (aI v5), o6], [], M)
      refine gd_s (P := True ∧ True ∧ True) (σ1 := (28, [some (aR 18 k0), some (aR 16 k1), some (aI v2), some (aI v3), some (aI v4), some (aI v5), o6], [aI ((-1 : Int32)), aI v4], M)) tc_102 rfl 2 (fun u => ⟨_, rfl⟩) ⟨trivial, trivial, trivial⟩ ?_
      refine gd_br (c := v4 = ((-1 : Int32))) (st1 := []) tc_102 rfl rfl (fun _ => rfl) ⟨fun hc => ?_, fun hc => ?_⟩
      · have h := h.1 hc
        show Gd d w 102 _ (105, [some (aR 18 k0), some (aR 16 k1), some (aI v2), some (aI v3), some (aI v4), some (aI v5), o6], [], M)
        refine gd_s (P := True ∧ True ∧ True) (σ1 := (108, [some (aR 18 k0), some (aR 16 k1), some (aI v2), some (aI v3), some (aI v4), some (aI ((0 : Int32))), o6], [], M)) tc_102 rfl 2 (fun u => ⟨_, rfl⟩) ⟨trivial, trivial, trivial⟩ ?_
        obtain ⟨n9, h⟩ := h
        exact g_Vd_collectDutiesOf_L108 hd hw hR_Vd_collectDutiesOf n9 k0 k1 v2 ((0 : Int32)) (some (aI v3)) (some (aI v4)) o6 M h
      · have h := h.2 hc
        show Gd d w 102 _ (31, [some (aR 18 k0), some (aR 16 k1), some (aI v2), some (aI v3), some (aI v4), some (aI v5), o6], [], M)
        obtain ⟨c0, h⟩ := h
        refine gd_s (P := True ∧ True ∧ True ∧ (vp_in v2 (rK M (k0 + 3)).2) ∧ True ∧ True) (σ1 := (38, [some (aR 18 k0), some (aR 16 k1), some (aI v2), some (aI v3), some (aI v4), some (aI v5), o6], [aI ((-1 : Int32)), aI (rI M (k0 + 3) v2.toNatClampNeg)], M)) tc_102 rfl 5 (fun u => ⟨_, rfl⟩) ⟨trivial, trivial, trivial, c0, trivial, trivial⟩ ?_
        refine gd_br (c := (rI M (k0 + 3) v2.toNatClampNeg) = ((-1 : Int32))) (st1 := []) tc_102 rfl rfl (fun _ => rfl) ⟨fun hc => ?_, fun hc => ?_⟩
        · have h := h.1 hc
          exact g_Vd_collectDutiesOf_J52 hd hw hR_Vd_collectDutiesOf ih k0 k1 v2 v3 v4 v5 o6 M h
        · have h := h.2 hc
          show Gd d w 102 _ (41, [some (aR 18 k0), some (aR 16 k1), some (aI v2), some (aI v3), some (aI v4), some (aI v5), o6], [], M)
          obtain ⟨c0, h⟩ := h
          refine gd_s (P := True ∧ True ∧ True ∧ (vp_in v2 (rK M (k0 + 3)).2) ∧ True ∧ True) (σ1 := (49, [some (aR 18 k0), some (aR 16 k1), some (aI v2), some (aI v3), some (aI v4), some (aI v5), o6], [aI v4, aI (rI M (k0 + 3) v2.toNatClampNeg)], M)) tc_102 rfl 5 (fun u => ⟨_, rfl⟩) ⟨trivial, trivial, trivial, c0, trivial, trivial⟩ ?_
          refine gd_br (c := ¬ (rI M (k0 + 3) v2.toNatClampNeg) = v4) (st1 := []) tc_102 rfl rfl (fun _ => rfl) ⟨fun hc => ?_, fun hc => ?_⟩
          · have h := h.1 hc
            show Gd d w 102 _ (56, [some (aR 18 k0), some (aR 16 k1), some (aI v2), some (aI v3), some (aI v4), some (aI v5), o6], [], M)
            refine gd_s (P := True ∧ True) (σ1 := (57, [some (aR 18 k0), some (aR 16 k1), some (aI v2), some (aI v3), some (aI v4), some (aI v5), o6], [aI ((0 : Int32))], M)) tc_102 rfl 1 (fun u => ⟨_, rfl⟩) ⟨trivial, trivial⟩ ?_
            exact g_Vd_collectDutiesOf_J57 hd hw hR_Vd_collectDutiesOf ih k0 k1 v2 v3 v4 v5 ((0 : Int32)) o6 M h
          · have h := h.2 hc
            exact g_Vd_collectDutiesOf_J52 hd hw hR_Vd_collectDutiesOf ih k0 k1 v2 v3 v4 v5 o6 M h
/-- PolicyJudge$Verdict.collectDutiesOf(LPolicyJudge$Nodes;II)V -/
def w_Vd_collectDutiesOf_r (R_Vd_collectDutiesOf : (aM → Prop) → Nat → Nat → Int32 → Int32 → aM → Prop) (post : aM → Prop) (k0 : Nat) (k1 : Nat) (v2 : Int32) (v3 : Int32) (M : aM) : Prop := ((v3 ≤ ((20 : Int32))) → (vp_in v2 (rK M (k1 + 9)).2) ∧ (∃ n9, w_Vd_collectDutiesOf_L20 post R_Vd_collectDutiesOf n9 k0 k1 v2 v3 (v2 + ((1 : Int32))) (rI M (k1 + 9) v2.toNatClampNeg) M)) ∧ (¬ (v3 ≤ ((20 : Int32))) → post M)
theorem g_Vd_collectDutiesOf_r {d w : Nat} (hd : 1 ≤ d) (hw : 26 ≤ w) {R_Vd_collectDutiesOf : (aM → Prop) → Nat → Nat → Int32 → Int32 → aM → Prop} (hR_Vd_collectDutiesOf : ∀ (post : aM → Prop) (k0 : Nat) (k1 : Nat) (v2 : Int32) (v3 : Int32) (M : aM), R_Vd_collectDutiesOf post k0 k1 v2 v3 M → Gd (d - 1) (w - (7 + 19)) 102 (pV post) (0, aEnt 102 [aR 18 k0, aR 16 k1, aI v2, aI v3], [], M)) {post : aM → Prop} {k0 : Nat} {k1 : Nat} {v2 : Int32} {v3 : Int32} {M : aM} (h : w_Vd_collectDutiesOf_r R_Vd_collectDutiesOf post k0 k1 v2 v3 M) : Gd d w 102 (pV post) (0, aEnt 102 [aR 18 k0, aR 16 k1, aI v2, aI v3], [], M) := by
  unfold w_Vd_collectDutiesOf_r at h
  show Gd d w 102 _ (0, [some (aR 18 k0), some (aR 16 k1), some (aI v2), some (aI v3), none, none, none], [], M)
  refine gd_s (P := True ∧ True ∧ True) (σ1 := (3, [some (aR 18 k0), some (aR 16 k1), some (aI v2), some (aI v3), none, none, none], [aI ((20 : Int32)), aI v3], M)) tc_102 rfl 2 (fun u => ⟨_, rfl⟩) ⟨trivial, trivial, trivial⟩ ?_
  refine gd_br (c := v3 ≤ ((20 : Int32))) (st1 := []) tc_102 rfl rfl (fun _ => rfl) ⟨fun hc => ?_, fun hc => ?_⟩
  · have h := h.1 hc
    show Gd d w 102 _ (7, [some (aR 18 k0), some (aR 16 k1), some (aI v2), some (aI v3), none, none, none], [], M)
    obtain ⟨c0, h⟩ := h
    refine gd_s (P := True ∧ True ∧ True ∧ True ∧ True ∧ True ∧ True ∧ (vp_in v2 (rK M (k1 + 9)).2) ∧ True ∧ True) (σ1 := (20, [some (aR 18 k0), some (aR 16 k1), some (aI v2), some (aI v3), some (aI (v2 + ((1 : Int32)))), some (aI (rI M (k1 + 9) v2.toNatClampNeg)), none], [], M)) tc_102 rfl 9 (fun u => ⟨_, rfl⟩) ⟨trivial, trivial, trivial, trivial, trivial, trivial, trivial, c0, trivial, trivial⟩ ?_
    obtain ⟨n9, h⟩ := h
    exact g_Vd_collectDutiesOf_L20 hd hw hR_Vd_collectDutiesOf n9 k0 k1 v2 v3 (v2 + ((1 : Int32))) (rI M (k1 + 9) v2.toNatClampNeg) none M h
  · have h := h.2 hc
    show Gd d w 102 _ (6, [some (aR 18 k0), some (aR 16 k1), some (aI v2), some (aI v3), none, none, none], [], M)
    exact gd_ret tc_102 rfl rfl trivial (fun _ => rfl) ⟨rfl, h⟩
def S_Vc : Nat → ((aM → Prop) → Nat → Nat → Int32 → Int32 → aM → Prop)
  | 0 => (fun _ _ _ _ _ _ => False)
  | D + 1 => (w_Vd_collectDutiesOf_r ((S_Vc D)))
theorem gS_Vc : ∀ (D d w : Nat), 0 + D ≤ d → 0 + D * 26 ≤ w → (∀ (post : aM → Prop) (k0 : Nat) (k1 : Nat) (v2 : Int32) (v3 : Int32) (M : aM), (S_Vc D) post k0 k1 v2 v3 M → Gd d w 102 (pV post) (0, aEnt 102 [aR 18 k0, aR 16 k1, aI v2, aI v3], [], M)) := by
  intro D
  induction D with
  | zero =>
    intro d w hd hw
    exact fun post k0 k1 v2 v3 M h => h.elim
  | succ D ih =>
    intro d w hd hw
    have ih102 := ih (d - 1) (w - (7 + 19)) (by omega) (by omega)
    exact fun post k0 k1 v2 v3 M h => g_Vd_collectDutiesOf_r (by omega) (by omega) ih102 h
/-- PolicyJudge$Verdict.collectDutiesOf(LPolicyJudge$Nodes;II)V, to depth D -/
def w_Vd_collectDutiesOf (D : Nat) (post : aM → Prop) (k0 : Nat) (k1 : Nat) (v2 : Int32) (v3 : Int32) (M : aM) : Prop := (S_Vc D) post k0 k1 v2 v3 M
theorem g_Vd_collectDutiesOf {D d w : Nat} (hd : 0 + D ≤ d) (hw : 0 + D * 26 ≤ w) {post : aM → Prop} {k0 : Nat} {k1 : Nat} {v2 : Int32} {v3 : Int32} {M : aM} (h : w_Vd_collectDutiesOf D post k0 k1 v2 v3 M) : Gd d w 102 (pV post) (0, aEnt 102 [aR 18 k0, aR 16 k1, aI v2, aI v3], [], M) := (gS_Vc D d w hd hw) _ _ _ _ _ _ h
theorem tc_101 : tC 101 = c101 := rfl
def w_Vd_collectDuties_J25 (post : aM → Prop) (k0 : Nat) (k1 : Nat) (M : aM) : Prop := ∃ D, D ≤ 40 ∧ w_Vd_collectDutiesOf D (fun M1 => post M1) k0 k1 ((0 : Int32)) ((0 : Int32)) M
theorem g_Vd_collectDuties_J25 {d w : Nat} (hd : 41 ≤ d) (hw : 1066 ≤ w) {post : aM → Prop} (k0 : Nat) (k1 : Nat) (M : aM) (h : w_Vd_collectDuties_J25 post k0 k1 M) : Gd d w 101 (pV post) (25, [some (aR 18 k0), some (aR 16 k1)], [], M) := by
  unfold w_Vd_collectDuties_J25 at h
  show Gd d w 101 _ (25, [some (aR 18 k0), some (aR 16 k1)], [], M)
  refine gd_s (P := True ∧ True ∧ True ∧ True ∧ True) (σ1 := (29, [some (aR 18 k0), some (aR 16 k1)], [aI ((0 : Int32)), aI ((0 : Int32)), aR 16 k1, aR 18 k0], M)) tc_101 rfl 4 (fun u => ⟨_, rfl⟩) ⟨trivial, trivial, trivial, trivial, trivial⟩ ?_
  obtain ⟨D9, hD9, h⟩ := h
  refine gd_callN (ml := 7) (as := [aR 18 k0, aR 16 k1, aI ((0 : Int32)), aI ((0 : Int32))]) (rest := []) tc_101 rfl rfl rfl rfl rfl (by omega) (by omega) (Nat.le_of_ble_eq_true rfl) rfl (g_Vd_collectDutiesOf (D := D9) (by omega) (by omega) h) (fun r9 M1 h => ?_)
  obtain ⟨rfl, h⟩ := h
  show Gd d w 101 _ (32, [some (aR 18 k0), some (aR 16 k1)], [], M1)
  exact gd_ret tc_101 rfl rfl trivial (fun _ => rfl) ⟨rfl, h⟩
/-- PolicyJudge$Verdict.collectDuties(LPolicyJudge$Nodes;)V -/
def w_Vd_collectDuties (post : aM → Prop) (k0 : Nat) (k1 : Nat) (M : aM) : Prop := (vp_in ((0 : Int32)) (rK M (k0 + 2)).2) ∧ ((((rI (wI M k0 4 ((0 : Int32))) (k0 + 2) ((0 : Int32)).toNatClampNeg) = ((1 : Int32))) → w_Vd_collectDuties_J25 post k0 k1 (wI M k0 4 ((0 : Int32)))) ∧ (¬ ((rI (wI M k0 4 ((0 : Int32))) (k0 + 2) ((0 : Int32)).toNatClampNeg) = ((1 : Int32))) → (vp_in ((0 : Int32)) (rK M (k0 + 2)).2) ∧ (((¬ (rI (wI M k0 4 ((0 : Int32))) (k0 + 2) ((0 : Int32)).toNatClampNeg) = ((2 : Int32))) → post (wI M k0 4 ((0 : Int32)))) ∧ (¬ (¬ (rI (wI M k0 4 ((0 : Int32))) (k0 + 2) ((0 : Int32)).toNatClampNeg) = ((2 : Int32))) → w_Vd_collectDuties_J25 post k0 k1 (wI M k0 4 ((0 : Int32)))))))
theorem g_Vd_collectDuties {d w : Nat} (hd : 41 ≤ d) (hw : 1066 ≤ w) {post : aM → Prop} {k0 : Nat} {k1 : Nat} {M : aM} (h : w_Vd_collectDuties post k0 k1 M) : Gd d w 101 (pV post) (0, aEnt 101 [aR 18 k0, aR 16 k1], [], M) := by
  unfold w_Vd_collectDuties at h
  show Gd d w 101 _ (0, [some (aR 18 k0), some (aR 16 k1)], [], M)
  obtain ⟨c0, h⟩ := h
  refine gd_s (P := True ∧ True ∧ True ∧ True ∧ True ∧ True ∧ (vp_in ((0 : Int32)) (rK M (k0 + 2)).2) ∧ True ∧ True) (σ1 := (12, [some (aR 18 k0), some (aR 16 k1)], [aI ((1 : Int32)), aI (rI (wI M k0 4 ((0 : Int32))) (k0 + 2) ((0 : Int32)).toNatClampNeg)], wI M k0 4 ((0 : Int32)))) tc_101 rfl 8 (fun u => ⟨_, rfl⟩) ⟨trivial, trivial, trivial, trivial, trivial, trivial, c0, trivial, trivial⟩ ?_
  refine gd_br (c := (rI (wI M k0 4 ((0 : Int32))) (k0 + 2) ((0 : Int32)).toNatClampNeg) = ((1 : Int32))) (st1 := []) tc_101 rfl rfl (fun _ => rfl) ⟨fun hc => ?_, fun hc => ?_⟩
  · have h := h.1 hc
    exact g_Vd_collectDuties_J25 hd hw k0 k1 (wI M k0 4 ((0 : Int32))) h
  · have h := h.2 hc
    show Gd d w 101 _ (15, [some (aR 18 k0), some (aR 16 k1)], [], wI M k0 4 ((0 : Int32)))
    obtain ⟨c0, h⟩ := h
    refine gd_s (P := True ∧ True ∧ True ∧ (vp_in ((0 : Int32)) (rK M (k0 + 2)).2) ∧ True ∧ True) (σ1 := (22, [some (aR 18 k0), some (aR 16 k1)], [aI ((2 : Int32)), aI (rI (wI M k0 4 ((0 : Int32))) (k0 + 2) ((0 : Int32)).toNatClampNeg)], wI M k0 4 ((0 : Int32)))) tc_101 rfl 5 (fun u => ⟨_, rfl⟩) ⟨trivial, trivial, trivial, c0, trivial, trivial⟩ ?_
    refine gd_br (c := ¬ (rI (wI M k0 4 ((0 : Int32))) (k0 + 2) ((0 : Int32)).toNatClampNeg) = ((2 : Int32))) (st1 := []) tc_101 rfl rfl (fun _ => rfl) ⟨fun hc => ?_, fun hc => ?_⟩
    · have h := h.1 hc
      show Gd d w 101 _ (32, [some (aR 18 k0), some (aR 16 k1)], [], wI M k0 4 ((0 : Int32)))
      exact gd_ret tc_101 rfl rfl trivial (fun _ => rfl) ⟨rfl, h⟩
    · have h := h.2 hc
      exact g_Vd_collectDuties_J25 hd hw k0 k1 (wI M k0 4 ((0 : Int32))) h
theorem tc_74 : tC 74 = c74 := rfl
def w_At_requests_L4 (M : aM) (post : Int32 → Prop) : Nat → Nat → Int32 → Int32 → Prop
  | 0, _, _, _ => False
  | n + 1, k0, v1, v2 => (((rI M k0 0) ≤ v2) → post v1) ∧ (¬ ((rI M k0 0) ≤ v2) → ((((4096 : Int32)) < v1) → post v1) ∧ (¬ (((4096 : Int32)) < v1) → (vp_in v2 (rK M (k0 + 5)).2) ∧ ((((rI M (k0 + 5) v2.toNatClampNeg) = ((0 : Int32))) → (vp_in v2 (rK M (k0 + 4)).2) ∧ (w_At_requests_L4 M post n k0 (v1 * ((rI M (k0 + 4) v2.toNatClampNeg) + ((1 : Int32)))) (v2 + (1 : Int32)))) ∧ (¬ ((rI M (k0 + 5) v2.toNatClampNeg) = ((0 : Int32))) → (vp_in v2 (rK M (k0 + 4)).2) ∧ (w_At_requests_L4 M post n k0 (v1 * (((1 : Int32)) <<< ((rI M (k0 + 4) v2.toNatClampNeg) &&& 31))) (v2 + (1 : Int32)))))))
theorem g_At_requests_L4 {d w : Nat} (hd : 0 ≤ d) (hw : 0 ≤ w) {M : aM} {post : Int32 → Prop} : ∀ (n : Nat) (k0 : Nat) (v1 : Int32) (v2 : Int32), w_At_requests_L4 M post n k0 v1 v2 → Gd d w 74 (pIn M post) (4, [some (aR 14 k0), some (aI v1), some (aI v2)], [], M) := by
  intro n
  induction n with
  | zero => intro k0 v1 v2 h; exact h.elim
  | succ n ih =>
    intro k0 v1 v2 h
    show Gd d w 74 _ (4, [some (aR 14 k0), some (aI v1), some (aI v2)], [], M)
    refine gd_s (P := True ∧ True ∧ True ∧ True) (σ1 := (9, [some (aR 14 k0), some (aI v1), some (aI v2)], [aI (rI M k0 0), aI v2], M)) tc_74 rfl 3 (fun u => ⟨_, rfl⟩) ⟨trivial, trivial, trivial, trivial⟩ ?_
    refine gd_br (c := (rI M k0 0) ≤ v2) (st1 := []) tc_74 rfl rfl (fun _ => rfl) ⟨fun hc => ?_, fun hc => ?_⟩
    · have h := h.1 hc
      show Gd d w 74 _ (56, [some (aR 14 k0), some (aI v1), some (aI v2)], [], M)
      refine gd_s (P := True ∧ True) (σ1 := (57, [some (aR 14 k0), some (aI v1), some (aI v2)], [aI v1], M)) tc_74 rfl 1 (fun u => ⟨_, rfl⟩) ⟨trivial, trivial⟩ ?_
      exact gd_ret tc_74 rfl rfl trivial (fun _ => rfl) ⟨_, rfl, rfl, h⟩
    · have h := h.2 hc
      show Gd d w 74 _ (12, [some (aR 14 k0), some (aI v1), some (aI v2)], [], M)
      refine gd_s (P := True ∧ True ∧ True) (σ1 := (16, [some (aR 14 k0), some (aI v1), some (aI v2)], [aI ((4096 : Int32)), aI v1], M)) tc_74 rfl 2 (fun u => ⟨_, rfl⟩) ⟨trivial, trivial, trivial⟩ ?_
      refine gd_br (c := ((4096 : Int32)) < v1) (st1 := []) tc_74 rfl rfl (fun _ => rfl) ⟨fun hc => ?_, fun hc => ?_⟩
      · have h := h.1 hc
        show Gd d w 74 _ (56, [some (aR 14 k0), some (aI v1), some (aI v2)], [], M)
        refine gd_s (P := True ∧ True) (σ1 := (57, [some (aR 14 k0), some (aI v1), some (aI v2)], [aI v1], M)) tc_74 rfl 1 (fun u => ⟨_, rfl⟩) ⟨trivial, trivial⟩ ?_
        exact gd_ret tc_74 rfl rfl trivial (fun _ => rfl) ⟨_, rfl, rfl, h⟩
      · have h := h.2 hc
        show Gd d w 74 _ (19, [some (aR 14 k0), some (aI v1), some (aI v2)], [], M)
        obtain ⟨c0, h⟩ := h
        refine gd_s (P := True ∧ True ∧ True ∧ True ∧ (vp_in v2 (rK M (k0 + 5)).2) ∧ True) (σ1 := (26, [some (aR 14 k0), some (aI v1), some (aI v2)], [aI (rI M (k0 + 5) v2.toNatClampNeg), aI v1], M)) tc_74 rfl 5 (fun u => ⟨_, rfl⟩) ⟨trivial, trivial, trivial, trivial, c0, trivial⟩ ?_
        refine gd_br (c := (rI M (k0 + 5) v2.toNatClampNeg) = ((0 : Int32))) (st1 := [aI v1]) tc_74 rfl rfl (fun _ => rfl) ⟨fun hc => ?_, fun hc => ?_⟩
        · have h := h.1 hc
          show Gd d w 74 _ (40, [some (aR 14 k0), some (aI v1), some (aI v2)], [aI v1], M)
          obtain ⟨c0, h⟩ := h
          refine gd_s (P := True ∧ True ∧ True ∧ (vp_in v2 (rK M (k0 + 4)).2) ∧ True ∧ True ∧ True ∧ True ∧ True ∧ True ∧ True) (σ1 := (4, [some (aR 14 k0), some (aI (v1 * ((rI M (k0 + 4) v2.toNatClampNeg) + ((1 : Int32))))), some (aI (v2 + (1 : Int32)))], [], M)) tc_74 rfl 10 (fun u => ⟨_, rfl⟩) ⟨trivial, trivial, trivial, c0, trivial, trivial, trivial, trivial, trivial, trivial, trivial⟩ ?_
          exact ih k0 (v1 * ((rI M (k0 + 4) v2.toNatClampNeg) + ((1 : Int32)))) (v2 + (1 : Int32)) h
        · have h := h.2 hc
          show Gd d w 74 _ (29, [some (aR 14 k0), some (aI v1), some (aI v2)], [aI v1], M)
          obtain ⟨c0, h⟩ := h
          refine gd_s (P := True ∧ True ∧ True ∧ True ∧ (vp_in v2 (rK M (k0 + 4)).2) ∧ True ∧ True ∧ True ∧ True ∧ True ∧ True ∧ True) (σ1 := (4, [some (aR 14 k0), some (aI (v1 * (((1 : Int32)) <<< ((rI M (k0 + 4) v2.toNatClampNeg) &&& 31)))), some (aI (v2 + (1 : Int32)))], [], M)) tc_74 rfl 11 (fun u => ⟨_, rfl⟩) ⟨trivial, trivial, trivial, trivial, c0, trivial, trivial, trivial, trivial, trivial, trivial, trivial⟩ ?_
          exact ih k0 (v1 * (((1 : Int32)) <<< ((rI M (k0 + 4) v2.toNatClampNeg) &&& 31))) (v2 + (1 : Int32)) h
/-- PolicyJudge$Attributes.requests()I -/
def w_At_requests (post : Int32 → Prop) (k0 : Nat) (M : aM) : Prop := ∃ n9, w_At_requests_L4 M post n9 k0 ((1 : Int32)) ((0 : Int32))
theorem g_At_requests {d w : Nat} (hd : 0 ≤ d) (hw : 0 ≤ w) {post : Int32 → Prop} {k0 : Nat} {M : aM} (h : w_At_requests post k0 M) : Gd d w 74 (pIn M post) (0, aEnt 74 [aR 14 k0], [], M) := by
  unfold w_At_requests at h
  show Gd d w 74 _ (0, [some (aR 14 k0), none, none], [], M)
  refine gd_s (P := True ∧ True ∧ True ∧ True ∧ True) (σ1 := (4, [some (aR 14 k0), some (aI ((1 : Int32))), some (aI ((0 : Int32)))], [], M)) tc_74 rfl 4 (fun u => ⟨_, rfl⟩) ⟨trivial, trivial, trivial, trivial, trivial⟩ ?_
  obtain ⟨n9, h⟩ := h
  exact g_At_requests_L4 hd hw n9 k0 ((1 : Int32)) ((0 : Int32)) h
theorem tc_81 : tC 81 = c81 := rfl
/-- PolicyJudge$Names.findLike(ILPolicyJudge$Names;I)I -/
def w_Nm_findLike (post : Int32 → Prop) (k0 : Nat) (v1 : Int32) (k2 : Nat) (v3 : Int32) (M : aM) : Prop := (vp_in v3 (rK M (k2 + 1)).2) ∧ (w_Nm_find (fun x1 => post x1) k0 v1 (k2 + 2) (v3 * ((12 : Int32))) (rI M (k2 + 1) v3.toNatClampNeg) M)
theorem g_Nm_findLike {d w : Nat} (hd : 1 ≤ d) (hw : 26 ≤ w) {post : Int32 → Prop} {k0 : Nat} {v1 : Int32} {k2 : Nat} {v3 : Int32} {M : aM} (h : w_Nm_findLike post k0 v1 k2 v3 M) : Gd d w 81 (pIn M post) (0, aEnt 81 [aR 15 k0, aI v1, aR 15 k2, aI v3], [], M) := by
  unfold w_Nm_findLike at h
  show Gd d w 81 _ (0, [some (aR 15 k0), some (aI v1), some (aR 15 k2), some (aI v3)], [], M)
  obtain ⟨c0, h⟩ := h
  refine gd_s (P := True ∧ True ∧ True ∧ True ∧ True ∧ True ∧ True ∧ True ∧ True ∧ True ∧ (vp_in v3 (rK M (k2 + 1)).2) ∧ True) (σ1 := (16, [some (aR 15 k0), some (aI v1), some (aR 15 k2), some (aI v3)], [aI (rI M (k2 + 1) v3.toNatClampNeg), aI (v3 * ((12 : Int32))), aR 4 (k2 + 2), aI v1, aR 15 k0], M)) tc_81 rfl 11 (fun u => ⟨_, rfl⟩) ⟨trivial, trivial, trivial, trivial, trivial, trivial, trivial, trivial, trivial, trivial, c0, trivial⟩ ?_
  refine gd_callN (ml := 7) (as := [aR 15 k0, aI v1, aR 4 (k2 + 2), aI (v3 * ((12 : Int32))), aI (rI M (k2 + 1) v3.toNatClampNeg)]) (rest := []) tc_81 rfl rfl rfl rfl rfl (by omega) (by omega) (Nat.le_of_ble_eq_true rfl) rfl (g_Nm_find (by omega) (by omega) h) (fun r9 M9 h => ?_)
  obtain ⟨x1, rfl, e9, h⟩ := h
  subst M9
  show Gd d w 81 _ (19, [some (aR 15 k0), some (aI v1), some (aR 15 k2), some (aI v3)], [aI x1], M)
  exact gd_ret tc_81 rfl rfl trivial (fun _ => rfl) ⟨_, rfl, rfl, h⟩
theorem tc_105 : tC 105 = c105 := rfl
def w_Sv_pair_L15 (post : Int32 → aM → Prop) : Nat → Nat → Nat → Nat → Int32 → aM → Prop
  | 0, _, _, _, _, _ => False
  | n + 1, k0, k1, k2, v3, M => (((rI M k2 0) ≤ v3) → (((1 : Int32)) = 0 ∨ ((1 : Int32)) = 1) ∧ post ((1 : Int32)) M) ∧ (¬ ((rI M k2 0) ≤ v3) → w_Nm_findLike (fun x1 => ((x1 = ((-1 : Int32))) → (((0 : Int32)) = 0 ∨ ((0 : Int32)) = 1) ∧ post ((0 : Int32)) M) ∧ (¬ (x1 = ((-1 : Int32))) → (vp_in x1 (rK M (k1 + 4)).2) ∧ (vp_in v3 (rK M (k2 + 4)).2) ∧ (((¬ (rI M (k1 + 4) x1.toNatClampNeg) = (rI M (k2 + 4) v3.toNatClampNeg)) → (((0 : Int32)) = 0 ∨ ((0 : Int32)) = 1) ∧ post ((0 : Int32)) M) ∧ (¬ (¬ (rI M (k1 + 4) x1.toNatClampNeg) = (rI M (k2 + 4) v3.toNatClampNeg)) → (vp_in x1 (rK M (k1 + 5)).2) ∧ (vp_in v3 (rK M (k2 + 5)).2) ∧ (((¬ (rI M (k1 + 5) x1.toNatClampNeg) = (rI M (k2 + 5) v3.toNatClampNeg)) → (((0 : Int32)) = 0 ∨ ((0 : Int32)) = 1) ∧ post ((0 : Int32)) M) ∧ (¬ (¬ (rI M (k1 + 5) x1.toNatClampNeg) = (rI M (k2 + 5) v3.toNatClampNeg)) → (vp_in x1 (rK M (k1 + 6)).2) ∧ (vp_in v3 (rK M (k2 + 6)).2) ∧ ((((rI M (k1 + 6) x1.toNatClampNeg) = (rI M (k2 + 6) v3.toNatClampNeg)) → (vp_in v3 (rK M (k0 + 10)).2) ∧ (w_Sv_pair_L15 post n k0 k1 k2 (v3 + (1 : Int32)) (wI M (k0 + 10) v3.toNatClampNeg x1))) ∧ (¬ ((rI M (k1 + 6) x1.toNatClampNeg) = (rI M (k2 + 6) v3.toNatClampNeg)) → (((0 : Int32)) = 0 ∨ ((0 : Int32)) = 1) ∧ post ((0 : Int32)) M)))))))) (k1 + 1) (rI M k1 0) (k2 + 1) v3 M)
theorem g_Sv_pair_L15 {d w : Nat} (hd : 2 ≤ d) (hw : 49 ≤ w) {post : Int32 → aM → Prop} : ∀ (n : Nat) (k0 : Nat) (k1 : Nat) (k2 : Nat) (v3 : Int32) (o4 : Option aV) (M : aM), w_Sv_pair_L15 post n k0 k1 k2 v3 M → Gd d w 105 (pI post) (15, [some (aR 19 k0), some (aR 14 k1), some (aR 14 k2), some (aI v3), o4], [], M) := by
  intro n
  induction n with
  | zero => intro k0 k1 k2 v3 o4 M h; exact h.elim
  | succ n ih =>
    intro k0 k1 k2 v3 o4 M h
    show Gd d w 105 _ (15, [some (aR 19 k0), some (aR 14 k1), some (aR 14 k2), some (aI v3), o4], [], M)
    refine gd_s (P := True ∧ True ∧ True ∧ True) (σ1 := (20, [some (aR 19 k0), some (aR 14 k1), some (aR 14 k2), some (aI v3), o4], [aI (rI M k2 0), aI v3], M)) tc_105 rfl 3 (fun u => ⟨_, rfl⟩) ⟨trivial, trivial, trivial, trivial⟩ ?_
    refine gd_br (c := (rI M k2 0) ≤ v3) (st1 := []) tc_105 rfl rfl (fun _ => rfl) ⟨fun hc => ?_, fun hc => ?_⟩
    · have h := h.1 hc
      show Gd d w 105 _ (111, [some (aR 19 k0), some (aR 14 k1), some (aR 14 k2), some (aI v3), o4], [], M)
      refine gd_s (P := True ∧ True) (σ1 := (112, [some (aR 19 k0), some (aR 14 k1), some (aR 14 k2), some (aI v3), o4], [aI ((1 : Int32))], M)) tc_105 rfl 1 (fun u => ⟨_, rfl⟩) ⟨trivial, trivial⟩ ?_
      exact gd_ret tc_105 rfl rfl h.1 (fun _ => rfl) ⟨_, rfl, h.2⟩
    · have h := h.2 hc
      show Gd d w 105 _ (23, [some (aR 19 k0), some (aR 14 k1), some (aR 14 k2), some (aI v3), o4], [], M)
      refine gd_s (P := True ∧ True ∧ True ∧ True ∧ True ∧ True ∧ True ∧ True) (σ1 := (36, [some (aR 19 k0), some (aR 14 k1), some (aR 14 k2), some (aI v3), o4], [aI v3, aR 15 (k2 + 1), aI (rI M k1 0), aR 15 (k1 + 1)], M)) tc_105 rfl 7 (fun u => ⟨_, rfl⟩) ⟨trivial, trivial, trivial, trivial, trivial, trivial, trivial, trivial⟩ ?_
      refine gd_callN (ml := 4) (as := [aR 15 (k1 + 1), aI (rI M k1 0), aR 15 (k2 + 1), aI v3]) (rest := []) tc_105 rfl rfl rfl rfl rfl (by omega) (by omega) (Nat.le_of_ble_eq_true rfl) rfl (g_Nm_findLike (by omega) (by omega) h) (fun r9 M9 h => ?_)
      obtain ⟨x1, rfl, e9, h⟩ := h
      subst M9
      show Gd d w 105 _ (39, [some (aR 19 k0), some (aR 14 k1), some (aR 14 k2), some (aI v3), o4], [aI x1], M)
      refine gd_s (P := True ∧ True ∧ True ∧ True) (σ1 := (44, [some (aR 19 k0), some (aR 14 k1), some (aR 14 k2), some (aI v3), some (aI x1)], [aI ((-1 : Int32)), aI x1], M)) tc_105 rfl 3 (fun u => ⟨_, rfl⟩) ⟨trivial, trivial, trivial, trivial⟩ ?_
      refine gd_br (c := x1 = ((-1 : Int32))) (st1 := []) tc_105 rfl rfl (fun _ => rfl) ⟨fun hc => ?_, fun hc => ?_⟩
      · have h := h.1 hc
        show Gd d w 105 _ (95, [some (aR 19 k0), some (aR 14 k1), some (aR 14 k2), some (aI v3), some (aI x1)], [], M)
        refine gd_s (P := True ∧ True) (σ1 := (96, [some (aR 19 k0), some (aR 14 k1), some (aR 14 k2), some (aI v3), some (aI x1)], [aI ((0 : Int32))], M)) tc_105 rfl 1 (fun u => ⟨_, rfl⟩) ⟨trivial, trivial⟩ ?_
        exact gd_ret tc_105 rfl rfl h.1 (fun _ => rfl) ⟨_, rfl, h.2⟩
      · have h := h.2 hc
        show Gd d w 105 _ (47, [some (aR 19 k0), some (aR 14 k1), some (aR 14 k2), some (aI v3), some (aI x1)], [], M)
        obtain ⟨c0, c1, h⟩ := h
        refine gd_s (P := True ∧ True ∧ True ∧ (vp_in x1 (rK M (k1 + 4)).2) ∧ True ∧ True ∧ True ∧ (vp_in v3 (rK M (k2 + 4)).2) ∧ True) (σ1 := (60, [some (aR 19 k0), some (aR 14 k1), some (aR 14 k2), some (aI v3), some (aI x1)], [aI (rI M (k2 + 4) v3.toNatClampNeg), aI (rI M (k1 + 4) x1.toNatClampNeg)], M)) tc_105 rfl 8 (fun u => ⟨_, rfl⟩) ⟨trivial, trivial, trivial, c0, trivial, trivial, trivial, c1, trivial⟩ ?_
        refine gd_br (c := ¬ (rI M (k1 + 4) x1.toNatClampNeg) = (rI M (k2 + 4) v3.toNatClampNeg)) (st1 := []) tc_105 rfl rfl (fun _ => rfl) ⟨fun hc => ?_, fun hc => ?_⟩
        · have h := h.1 hc
          show Gd d w 105 _ (95, [some (aR 19 k0), some (aR 14 k1), some (aR 14 k2), some (aI v3), some (aI x1)], [], M)
          refine gd_s (P := True ∧ True) (σ1 := (96, [some (aR 19 k0), some (aR 14 k1), some (aR 14 k2), some (aI v3), some (aI x1)], [aI ((0 : Int32))], M)) tc_105 rfl 1 (fun u => ⟨_, rfl⟩) ⟨trivial, trivial⟩ ?_
          exact gd_ret tc_105 rfl rfl h.1 (fun _ => rfl) ⟨_, rfl, h.2⟩
        · have h := h.2 hc
          show Gd d w 105 _ (63, [some (aR 19 k0), some (aR 14 k1), some (aR 14 k2), some (aI v3), some (aI x1)], [], M)
          obtain ⟨c0, c1, h⟩ := h
          refine gd_s (P := True ∧ True ∧ True ∧ (vp_in x1 (rK M (k1 + 5)).2) ∧ True ∧ True ∧ True ∧ (vp_in v3 (rK M (k2 + 5)).2) ∧ True) (σ1 := (76, [some (aR 19 k0), some (aR 14 k1), some (aR 14 k2), some (aI v3), some (aI x1)], [aI (rI M (k2 + 5) v3.toNatClampNeg), aI (rI M (k1 + 5) x1.toNatClampNeg)], M)) tc_105 rfl 8 (fun u => ⟨_, rfl⟩) ⟨trivial, trivial, trivial, c0, trivial, trivial, trivial, c1, trivial⟩ ?_
          refine gd_br (c := ¬ (rI M (k1 + 5) x1.toNatClampNeg) = (rI M (k2 + 5) v3.toNatClampNeg)) (st1 := []) tc_105 rfl rfl (fun _ => rfl) ⟨fun hc => ?_, fun hc => ?_⟩
          · have h := h.1 hc
            show Gd d w 105 _ (95, [some (aR 19 k0), some (aR 14 k1), some (aR 14 k2), some (aI v3), some (aI x1)], [], M)
            refine gd_s (P := True ∧ True) (σ1 := (96, [some (aR 19 k0), some (aR 14 k1), some (aR 14 k2), some (aI v3), some (aI x1)], [aI ((0 : Int32))], M)) tc_105 rfl 1 (fun u => ⟨_, rfl⟩) ⟨trivial, trivial⟩ ?_
            exact gd_ret tc_105 rfl rfl h.1 (fun _ => rfl) ⟨_, rfl, h.2⟩
          · have h := h.2 hc
            show Gd d w 105 _ (79, [some (aR 19 k0), some (aR 14 k1), some (aR 14 k2), some (aI v3), some (aI x1)], [], M)
            obtain ⟨c0, c1, h⟩ := h
            refine gd_s (P := True ∧ True ∧ True ∧ (vp_in x1 (rK M (k1 + 6)).2) ∧ True ∧ True ∧ True ∧ (vp_in v3 (rK M (k2 + 6)).2) ∧ True) (σ1 := (92, [some (aR 19 k0), some (aR 14 k1), some (aR 14 k2), some (aI v3), some (aI x1)], [aI (rI M (k2 + 6) v3.toNatClampNeg), aI (rI M (k1 + 6) x1.toNatClampNeg)], M)) tc_105 rfl 8 (fun u => ⟨_, rfl⟩) ⟨trivial, trivial, trivial, c0, trivial, trivial, trivial, c1, trivial⟩ ?_
            refine gd_br (c := (rI M (k1 + 6) x1.toNatClampNeg) = (rI M (k2 + 6) v3.toNatClampNeg)) (st1 := []) tc_105 rfl rfl (fun _ => rfl) ⟨fun hc => ?_, fun hc => ?_⟩
            · have h := h.1 hc
              show Gd d w 105 _ (97, [some (aR 19 k0), some (aR 14 k1), some (aR 14 k2), some (aI v3), some (aI x1)], [], M)
              obtain ⟨c0, h⟩ := h
              refine gd_s (P := True ∧ True ∧ True ∧ True ∧ (vp_in v3 (rK M (k0 + 10)).2) ∧ True ∧ True ∧ True) (σ1 := (15, [some (aR 19 k0), some (aR 14 k1), some (aR 14 k2), some (aI (v3 + (1 : Int32))), some (aI x1)], [], wI M (k0 + 10) v3.toNatClampNeg x1)) tc_105 rfl 7 (fun u => ⟨_, rfl⟩) ⟨trivial, trivial, trivial, trivial, c0, trivial, trivial, trivial⟩ ?_
              exact ih k0 k1 k2 (v3 + (1 : Int32)) (some (aI x1)) (wI M (k0 + 10) v3.toNatClampNeg x1) h
            · have h := h.2 hc
              show Gd d w 105 _ (95, [some (aR 19 k0), some (aR 14 k1), some (aR 14 k2), some (aI v3), some (aI x1)], [], M)
              refine gd_s (P := True ∧ True) (σ1 := (96, [some (aR 19 k0), some (aR 14 k1), some (aR 14 k2), some (aI v3), some (aI x1)], [aI ((0 : Int32))], M)) tc_105 rfl 1 (fun u => ⟨_, rfl⟩) ⟨trivial, trivial⟩ ?_
              exact gd_ret tc_105 rfl rfl h.1 (fun _ => rfl) ⟨_, rfl, h.2⟩
/-- PolicyJudge$Survey.pair(LPolicyJudge$Attributes;LPolicyJudge$Attributes;)Z -/
def w_Sv_pair (post : Int32 → aM → Prop) (k0 : Nat) (k1 : Nat) (k2 : Nat) (M : aM) : Prop := (((rI M k1 0) = (rI M k2 0)) → ∃ n9, w_Sv_pair_L15 post n9 k0 k1 k2 ((0 : Int32)) M) ∧ (¬ ((rI M k1 0) = (rI M k2 0)) → (((0 : Int32)) = 0 ∨ ((0 : Int32)) = 1) ∧ post ((0 : Int32)) M)
theorem g_Sv_pair {d w : Nat} (hd : 2 ≤ d) (hw : 49 ≤ w) {post : Int32 → aM → Prop} {k0 : Nat} {k1 : Nat} {k2 : Nat} {M : aM} (h : w_Sv_pair post k0 k1 k2 M) : Gd d w 105 (pI post) (0, aEnt 105 [aR 19 k0, aR 14 k1, aR 14 k2], [], M) := by
  unfold w_Sv_pair at h
  show Gd d w 105 _ (0, [some (aR 19 k0), some (aR 14 k1), some (aR 14 k2), none, none], [], M)
  refine gd_s (P := True ∧ True ∧ True ∧ True ∧ True) (σ1 := (8, [some (aR 19 k0), some (aR 14 k1), some (aR 14 k2), none, none], [aI (rI M k2 0), aI (rI M k1 0)], M)) tc_105 rfl 4 (fun u => ⟨_, rfl⟩) ⟨trivial, trivial, trivial, trivial, trivial⟩ ?_
  refine gd_br (c := (rI M k1 0) = (rI M k2 0)) (st1 := []) tc_105 rfl rfl (fun _ => rfl) ⟨fun hc => ?_, fun hc => ?_⟩
  · have h := h.1 hc
    show Gd d w 105 _ (13, [some (aR 19 k0), some (aR 14 k1), some (aR 14 k2), none, none], [], M)
    refine gd_s (P := True ∧ True ∧ True) (σ1 := (15, [some (aR 19 k0), some (aR 14 k1), some (aR 14 k2), some (aI ((0 : Int32))), none], [], M)) tc_105 rfl 2 (fun u => ⟨_, rfl⟩) ⟨trivial, trivial, trivial⟩ ?_
    obtain ⟨n9, h⟩ := h
    exact g_Sv_pair_L15 hd hw n9 k0 k1 k2 ((0 : Int32)) none M h
  · have h := h.2 hc
    show Gd d w 105 _ (11, [some (aR 19 k0), some (aR 14 k1), some (aR 14 k2), none, none], [], M)
    refine gd_s (P := True ∧ True) (σ1 := (12, [some (aR 19 k0), some (aR 14 k1), some (aR 14 k2), none, none], [aI ((0 : Int32))], M)) tc_105 rfl 1 (fun u => ⟨_, rfl⟩) ⟨trivial, trivial⟩ ?_
    exact gd_ret tc_105 rfl rfl h.1 (fun _ => rfl) ⟨_, rfl, h.2⟩
theorem tc_107 : tC 107 = c107 := rfl
def w_Sv_arrange_L2 (post : aM → Prop) : Nat → Nat → Int32 → Int32 → aM → Prop
  | 0, _, _, _, _ => False
  | n + 1, k0, v1, v2, M => ((v1 ≤ v2) → post M) ∧ (¬ (v1 ≤ v2) → (vp_in v2 (rK M (k0 + 10)).2) ∧ (vp_in (rI M (k0 + 10) v2.toNatClampNeg) (rK M (k0 + 8)).2) ∧ (vp_in v2 (rK M (k0 + 9)).2) ∧ (w_Sv_arrange_L2 post n k0 v1 (v2 + (1 : Int32)) (wI M (k0 + 9) v2.toNatClampNeg (rI M (k0 + 8) (rI M (k0 + 10) v2.toNatClampNeg).toNatClampNeg))))
theorem g_Sv_arrange_L2 {d w : Nat} (hd : 0 ≤ d) (hw : 0 ≤ w) {post : aM → Prop} : ∀ (n : Nat) (k0 : Nat) (v1 : Int32) (v2 : Int32) (M : aM), w_Sv_arrange_L2 post n k0 v1 v2 M → Gd d w 107 (pV post) (2, [some (aR 19 k0), some (aI v1), some (aI v2)], [], M) := by
  intro n
  induction n with
  | zero => intro k0 v1 v2 M h; exact h.elim
  | succ n ih =>
    intro k0 v1 v2 M h
    show Gd d w 107 _ (2, [some (aR 19 k0), some (aI v1), some (aI v2)], [], M)
    refine gd_s (P := True ∧ True ∧ True) (σ1 := (4, [some (aR 19 k0), some (aI v1), some (aI v2)], [aI v1, aI v2], M)) tc_107 rfl 2 (fun u => ⟨_, rfl⟩) ⟨trivial, trivial, trivial⟩ ?_
    refine gd_br (c := v1 ≤ v2) (st1 := []) tc_107 rfl rfl (fun _ => rfl) ⟨fun hc => ?_, fun hc => ?_⟩
    · have h := h.1 hc
      show Gd d w 107 _ (30, [some (aR 19 k0), some (aI v1), some (aI v2)], [], M)
      exact gd_ret tc_107 rfl rfl trivial (fun _ => rfl) ⟨rfl, h⟩
    · have h := h.2 hc
      show Gd d w 107 _ (7, [some (aR 19 k0), some (aI v1), some (aI v2)], [], M)
      obtain ⟨c0, c1, c2, h⟩ := h
      refine gd_s (P := True ∧ True ∧ True ∧ True ∧ True ∧ True ∧ True ∧ True ∧ (vp_in v2 (rK M (k0 + 10)).2) ∧ (vp_in (rI M (k0 + 10) v2.toNatClampNeg) (rK M (k0 + 8)).2) ∧ (vp_in v2 (rK M (k0 + 9)).2) ∧ True ∧ True ∧ True) (σ1 := (2, [some (aR 19 k0), some (aI v1), some (aI (v2 + (1 : Int32)))], [], wI M (k0 + 9) v2.toNatClampNeg (rI M (k0 + 8) (rI M (k0 + 10) v2.toNatClampNeg).toNatClampNeg))) tc_107 rfl 13 (fun u => ⟨_, rfl⟩) ⟨trivial, trivial, trivial, trivial, trivial, trivial, trivial, trivial, c0, c1, c2, trivial, trivial, trivial⟩ ?_
      exact ih k0 v1 (v2 + (1 : Int32)) (wI M (k0 + 9) v2.toNatClampNeg (rI M (k0 + 8) (rI M (k0 + 10) v2.toNatClampNeg).toNatClampNeg)) h
/-- PolicyJudge$Survey.arrange(I)V -/
def w_Sv_arrange (post : aM → Prop) (k0 : Nat) (v1 : Int32) (M : aM) : Prop := ∃ n9, w_Sv_arrange_L2 post n9 k0 v1 ((0 : Int32)) M
theorem g_Sv_arrange {d w : Nat} (hd : 0 ≤ d) (hw : 0 ≤ w) {post : aM → Prop} {k0 : Nat} {v1 : Int32} {M : aM} (h : w_Sv_arrange post k0 v1 M) : Gd d w 107 (pV post) (0, aEnt 107 [aR 19 k0, aI v1], [], M) := by
  unfold w_Sv_arrange at h
  show Gd d w 107 _ (0, [some (aR 19 k0), some (aI v1), none], [], M)
  refine gd_s (P := True ∧ True ∧ True) (σ1 := (2, [some (aR 19 k0), some (aI v1), some (aI ((0 : Int32)))], [], M)) tc_107 rfl 2 (fun u => ⟨_, rfl⟩) ⟨trivial, trivial, trivial⟩ ?_
  obtain ⟨n9, h⟩ := h
  exact g_Sv_arrange_L2 hd hw n9 k0 v1 ((0 : Int32)) M h
theorem tc_108 : tC 108 = c108 := rfl
/-- PolicyJudge$Survey.keepWitness(I)V -/
def w_Sv_keepWitness (post : aM → Prop) (k0 : Nat) (v1 : Int32) (M : aM) : Prop := (¬ ((0 : Int32)) < 0 ∧ ¬ ((0 : Int32)) < 0 ∧ ¬ ((8 : Int32)) < 0 ∧ ((0 : Int32)).toNatClampNeg + ((8 : Int32)).toNatClampNeg ≤ (rK M (k0 + 8)).2 ∧ ((0 : Int32)).toNatClampNeg + ((8 : Int32)).toNatClampNeg ≤ (rK M (k0 + 2)).2) ∧ post (wI (aCpy M (k0 + 8) (k0 + 2) ((0 : Int32)).toNatClampNeg ((0 : Int32)).toNatClampNeg ((8 : Int32)).toNatClampNeg) k0 2 v1)
theorem g_Sv_keepWitness {d w : Nat} (hd : 6 ≤ d) (hw : 200 ≤ w) {post : aM → Prop} {k0 : Nat} {v1 : Int32} {M : aM} (h : w_Sv_keepWitness post k0 v1 M) : Gd d w 108 (pV post) (0, aEnt 108 [aR 19 k0, aI v1], [], M) := by
  unfold w_Sv_keepWitness at h
  show Gd d w 108 _ (0, [some (aR 19 k0), some (aI v1)], [], M)
  refine gd_s (P := True ∧ True ∧ True ∧ True ∧ True ∧ True ∧ True ∧ True) (σ1 := (12, [some (aR 19 k0), some (aI v1)], [aI ((8 : Int32)), aI ((0 : Int32)), aR 4 (k0 + 2), aI ((0 : Int32)), aR 4 (k0 + 8)], M)) tc_108 rfl 7 (fun u => ⟨_, rfl⟩) ⟨trivial, trivial, trivial, trivial, trivial, trivial, trivial, trivial⟩ ?_
  obtain ⟨c0, h⟩ := h
  refine gd_prim (P := ¬ ((0 : Int32)) < 0 ∧ ¬ ((0 : Int32)) < 0 ∧ ¬ ((8 : Int32)) < 0 ∧ ((0 : Int32)).toNatClampNeg + ((8 : Int32)).toNatClampNeg ≤ (rK M (k0 + 8)).2 ∧ ((0 : Int32)).toNatClampNeg + ((8 : Int32)).toNatClampNeg ≤ (rK M (k0 + 2)).2) (σ1 := (15, [some (aR 19 k0), some (aI v1)], [], aCpy M (k0 + 8) (k0 + 2) ((0 : Int32)).toNatClampNeg ((0 : Int32)).toNatClampNeg ((8 : Int32)).toNatClampNeg)) tc_108 rfl rfl rfl rfl c0 (by omega) (by omega) (Nat.le_of_ble_eq_true rfl) ?_
  show Gd d w 108 _ (15, [some (aR 19 k0), some (aI v1)], [], aCpy M (k0 + 8) (k0 + 2) ((0 : Int32)).toNatClampNeg ((0 : Int32)).toNatClampNeg ((8 : Int32)).toNatClampNeg)
  refine gd_s (P := True ∧ True ∧ True ∧ True) (σ1 := (20, [some (aR 19 k0), some (aI v1)], [], wI (aCpy M (k0 + 8) (k0 + 2) ((0 : Int32)).toNatClampNeg ((0 : Int32)).toNatClampNeg ((8 : Int32)).toNatClampNeg) k0 2 v1)) tc_108 rfl 3 (fun u => ⟨_, rfl⟩) ⟨trivial, trivial, trivial, trivial⟩ ?_
  exact gd_ret tc_108 rfl rfl trivial (fun _ => rfl) ⟨rfl, h⟩
theorem tc_75 : tC 75 = c75 := rfl
def w_At_bagBehind_J22 (M : aM) (post : Int32 → Prop) (k0 : Nat) (v1 : Int32) (s0 : Int32) : Prop := (vp_in v1 (rK M (k0 + 4)).2) ∧ ((((((1 : Int32)) <<< ((rI M (k0 + 4) v1.toNatClampNeg) &&& 31)) ≤ s0) → post ((0 : Int32))) ∧ (¬ ((((1 : Int32)) <<< ((rI M (k0 + 4) v1.toNatClampNeg) &&& 31)) ≤ s0) → post s0))
theorem g_At_bagBehind_J22 {d w : Nat} (hd : 0 ≤ d) (hw : 0 ≤ w) {M : aM} {post : Int32 → Prop} (k0 : Nat) (v1 : Int32) (s0 : Int32) (o2 o3 : Option aV) (h : w_At_bagBehind_J22 M post k0 v1 s0) : Gd d w 75 (pIn M post) (22, [some (aR 14 k0), some (aI v1), o2, o3], [aI s0], M) := by
  unfold w_At_bagBehind_J22 at h
  show Gd d w 75 _ (22, [some (aR 14 k0), some (aI v1), o2, o3], [aI s0], M)
  obtain ⟨c0, h⟩ := h
  refine gd_s (P := True ∧ True ∧ True ∧ True ∧ True ∧ True ∧ (vp_in v1 (rK M (k0 + 4)).2) ∧ True ∧ True) (σ1 := (32, [some (aR 14 k0), some (aI v1), o2, some (aI s0)], [aI (((1 : Int32)) <<< ((rI M (k0 + 4) v1.toNatClampNeg) &&& 31)), aI s0], M)) tc_75 rfl 8 (fun u => ⟨_, rfl⟩) ⟨trivial, trivial, trivial, trivial, trivial, trivial, c0, trivial, trivial⟩ ?_
  refine gd_br (c := (((1 : Int32)) <<< ((rI M (k0 + 4) v1.toNatClampNeg) &&& 31)) ≤ s0) (st1 := []) tc_75 rfl rfl (fun _ => rfl) ⟨fun hc => ?_, fun hc => ?_⟩
  · have h := h.1 hc
    show Gd d w 75 _ (39, [some (aR 14 k0), some (aI v1), o2, some (aI s0)], [], M)
    refine gd_s (P := True ∧ True) (σ1 := (40, [some (aR 14 k0), some (aI v1), o2, some (aI s0)], [aI ((0 : Int32))], M)) tc_75 rfl 1 (fun u => ⟨_, rfl⟩) ⟨trivial, trivial⟩ ?_
    exact gd_ret tc_75 rfl rfl trivial (fun _ => rfl) ⟨_, rfl, rfl, h⟩
  · have h := h.2 hc
    show Gd d w 75 _ (35, [some (aR 14 k0), some (aI v1), o2, some (aI s0)], [], M)
    refine gd_s (P := True ∧ True ∧ True) (σ1 := (40, [some (aR 14 k0), some (aI v1), o2, some (aI s0)], [aI s0], M)) tc_75 rfl 2 (fun u => ⟨_, rfl⟩) ⟨trivial, trivial, trivial⟩ ?_
    exact gd_ret tc_75 rfl rfl trivial (fun _ => rfl) ⟨_, rfl, rfl, h⟩
def w_At_bagBehind_J13 (M : aM) (post : Int32 → Prop) (k0 : Nat) (v1 : Int32) (v2 : Int32) : Prop := w_At_bagBehind_J22 M post k0 v1 (v2 + ((1 : Int32)))
theorem g_At_bagBehind_J13 {d w : Nat} (hd : 0 ≤ d) (hw : 0 ≤ w) {M : aM} {post : Int32 → Prop} (k0 : Nat) (v1 : Int32) (v2 : Int32) (o3 : Option aV) (h : w_At_bagBehind_J13 M post k0 v1 v2) : Gd d w 75 (pIn M post) (13, [some (aR 14 k0), some (aI v1), some (aI v2), o3], [], M) := by
  unfold w_At_bagBehind_J13 at h
  show Gd d w 75 _ (13, [some (aR 14 k0), some (aI v1), some (aI v2), o3], [], M)
  refine gd_s (P := True ∧ True ∧ True ∧ True ∧ True) (σ1 := (22, [some (aR 14 k0), some (aI v1), some (aI v2), o3], [aI (v2 + ((1 : Int32)))], M)) tc_75 rfl 4 (fun u => ⟨_, rfl⟩) ⟨trivial, trivial, trivial, trivial, trivial⟩ ?_
  exact g_At_bagBehind_J22 hd hw k0 v1 (v2 + ((1 : Int32))) (some (aI v2)) o3 h
/-- PolicyJudge$Attributes.bagBehind(II)I -/
def w_At_bagBehind (post : Int32 → Prop) (k0 : Nat) (v1 : Int32) (v2 : Int32) (M : aM) : Prop := (vp_in v1 (rK M (k0 + 5)).2) ∧ (((¬ (rI M (k0 + 5) v1.toNatClampNeg) = ((0 : Int32))) → w_At_bagBehind_J13 M post k0 v1 v2) ∧ (¬ (¬ (rI M (k0 + 5) v1.toNatClampNeg) = ((0 : Int32))) → ((¬ v2 = ((0 : Int32))) → w_At_bagBehind_J22 M post k0 v1 (v2 <<< (((1 : Int32)) &&& 31))) ∧ (¬ (¬ v2 = ((0 : Int32))) → w_At_bagBehind_J13 M post k0 v1 v2)))
theorem g_At_bagBehind {d w : Nat} (hd : 0 ≤ d) (hw : 0 ≤ w) {post : Int32 → Prop} {k0 : Nat} {v1 : Int32} {v2 : Int32} {M : aM} (h : w_At_bagBehind post k0 v1 v2 M) : Gd d w 75 (pIn M post) (0, aEnt 75 [aR 14 k0, aI v1, aI v2], [], M) := by
  unfold w_At_bagBehind at h
  show Gd d w 75 _ (0, [some (aR 14 k0), some (aI v1), some (aI v2), none], [], M)
  obtain ⟨c0, h⟩ := h
  refine gd_s (P := True ∧ True ∧ True ∧ (vp_in v1 (rK M (k0 + 5)).2) ∧ True) (σ1 := (6, [some (aR 14 k0), some (aI v1), some (aI v2), none], [aI (rI M (k0 + 5) v1.toNatClampNeg)], M)) tc_75 rfl 4 (fun u => ⟨_, rfl⟩) ⟨trivial, trivial, trivial, c0, trivial⟩ ?_
  refine gd_br (c := ¬ (rI M (k0 + 5) v1.toNatClampNeg) = ((0 : Int32))) (st1 := []) tc_75 rfl rfl (fun _ => rfl) ⟨fun hc => ?_, fun hc => ?_⟩
  · have h := h.1 hc
    exact g_At_bagBehind_J13 hd hw k0 v1 v2 none h
  · have h := h.2 hc
    show Gd d w 75 _ (9, [some (aR 14 k0), some (aI v1), some (aI v2), none], [], M)
    refine gd_s (P := True ∧ True) (σ1 := (10, [some (aR 14 k0), some (aI v1), some (aI v2), none], [aI v2], M)) tc_75 rfl 1 (fun u => ⟨_, rfl⟩) ⟨trivial, trivial⟩ ?_
    refine gd_br (c := ¬ v2 = ((0 : Int32))) (st1 := []) tc_75 rfl rfl (fun _ => rfl) ⟨fun hc => ?_, fun hc => ?_⟩
    · have h := h.1 hc
      show Gd d w 75 _ (19, [some (aR 14 k0), some (aI v1), some (aI v2), none], [], M)
      refine gd_s (P := True ∧ True ∧ True ∧ True) (σ1 := (22, [some (aR 14 k0), some (aI v1), some (aI v2), none], [aI (v2 <<< (((1 : Int32)) &&& 31))], M)) tc_75 rfl 3 (fun u => ⟨_, rfl⟩) ⟨trivial, trivial, trivial, trivial⟩ ?_
      exact g_At_bagBehind_J22 hd hw k0 v1 (v2 <<< (((1 : Int32)) &&& 31)) (some (aI v2)) none h
    · have h := h.2 hc
      exact g_At_bagBehind_J13 hd hw k0 v1 v2 none h
