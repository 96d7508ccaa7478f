set_option maxRecDepth 100000
/-! Mirrors, on. -/
theorem tc_174 : tC 174 = c174 := rfl
def w_Mo_newDuty_J95 (post : aM → Prop) (k0 : Nat) (M : aM) : Prop := w_Mo_nextToken (fun M1 => post M1) k0 M
theorem g_Mo_newDuty_J95 {d w : Nat} (hd : 4 ≤ d) (hw : 83 ≤ w) {post : aM → Prop} (k0 : Nat) (o1 o2 o3 : Option aV) (M : aM) (h : w_Mo_newDuty_J95 post k0 M) : Gd d w 174 (pV post) (95, [some (aR 21 k0), o1, o2, o3], [], M) := by
  unfold w_Mo_newDuty_J95 at h
  show Gd d w 174 _ (95, [some (aR 21 k0), o1, o2, o3], [], M)
  refine gd_s (P := True ∧ True) (σ1 := (96, [some (aR 21 k0), o1, o2, o3], [aR 21 k0], M)) tc_174 rfl 1 (fun u => ⟨_, rfl⟩) ⟨trivial, trivial⟩ ?_
  refine gd_callN (ml := 2) (as := [aR 21 k0]) (rest := []) tc_174 rfl rfl rfl rfl rfl (by omega) (by omega) (Nat.le_of_ble_eq_true rfl) rfl (g_Mo_nextToken (by omega) (by omega) h) (fun r9 M1 h => ?_)
  obtain ⟨rfl, h⟩ := h
  show Gd d w 174 _ (99, [some (aR 21 k0), o1, o2, o3], [], M1)
  exact gd_ret tc_174 rfl rfl trivial (fun _ => rfl) ⟨rfl, h⟩
def w_Mo_newDuty_J85 (post : aM → Prop) (k0 : Nat) (v3 : Int32) (M : aM) : Prop := (vp_in v3 (rK M (k0 + 27)).2) ∧ (w_Mo_newDuty_J95 post k0 (wI M (k0 + 27) v3.toNatClampNeg (rI M k0 37)))
theorem g_Mo_newDuty_J85 {d w : Nat} (hd : 4 ≤ d) (hw : 83 ≤ w) {post : aM → Prop} (k0 : Nat) (v3 : Int32) (o1 o2 : Option aV) (M : aM) (h : w_Mo_newDuty_J85 post k0 v3 M) : Gd d w 174 (pV post) (85, [some (aR 21 k0), o1, o2, some (aI v3)], [], M) := by
  unfold w_Mo_newDuty_J85 at h
  show Gd d w 174 _ (85, [some (aR 21 k0), o1, o2, some (aI v3)], [], M)
  obtain ⟨c0, h⟩ := h
  refine gd_s (P := True ∧ True ∧ True ∧ True ∧ True ∧ (vp_in v3 (rK M (k0 + 27)).2) ∧ True) (σ1 := (95, [some (aR 21 k0), o1, o2, some (aI v3)], [], wI M (k0 + 27) v3.toNatClampNeg (rI M k0 37))) tc_174 rfl 6 (fun u => ⟨_, rfl⟩) ⟨trivial, trivial, trivial, trivial, trivial, c0, trivial⟩ ?_
  exact g_Mo_newDuty_J95 hd hw k0 o1 o2 (some (aI v3)) (wI M (k0 + 27) v3.toNatClampNeg (rI M k0 37)) h
def w_Mo_newDuty_J78 (post : aM → Prop) (k0 : Nat) (v2 : Int32) (v3 : Int32) (M : aM) : Prop := (vp_in v3 (rK M (k0 + 26)).2) ∧ (w_Mo_newDuty_J85 post k0 v3 (wI M (k0 + 26) v3.toNatClampNeg v2))
theorem g_Mo_newDuty_J78 {d w : Nat} (hd : 4 ≤ d) (hw : 83 ≤ w) {post : aM → Prop} (k0 : Nat) (v2 : Int32) (v3 : Int32) (o1 : Option aV) (M : aM) (h : w_Mo_newDuty_J78 post k0 v2 v3 M) : Gd d w 174 (pV post) (78, [some (aR 21 k0), o1, some (aI v2), some (aI v3)], [], M) := by
  unfold w_Mo_newDuty_J78 at h
  show Gd d w 174 _ (78, [some (aR 21 k0), o1, some (aI v2), some (aI v3)], [], M)
  obtain ⟨c0, h⟩ := h
  refine gd_s (P := True ∧ True ∧ True ∧ True ∧ (vp_in v3 (rK M (k0 + 26)).2) ∧ True) (σ1 := (85, [some (aR 21 k0), o1, some (aI v2), some (aI v3)], [], wI M (k0 + 26) v3.toNatClampNeg v2)) tc_174 rfl 5 (fun u => ⟨_, rfl⟩) ⟨trivial, trivial, trivial, trivial, c0, trivial⟩ ?_
  exact g_Mo_newDuty_J85 hd hw k0 v3 o1 (some (aI v2)) (wI M (k0 + 26) v3.toNatClampNeg v2) h
def w_Mo_newDuty_J71 (post : aM → Prop) (k0 : Nat) (v1 : Int32) (v2 : Int32) (v3 : Int32) (M : aM) : Prop := (vp_in v3 (rK M (k0 + 25)).2) ∧ (w_Mo_newDuty_J78 post k0 v2 v3 (wI M (k0 + 25) v3.toNatClampNeg v1))
theorem g_Mo_newDuty_J71 {d w : Nat} (hd : 4 ≤ d) (hw : 83 ≤ w) {post : aM → Prop} (k0 : Nat) (v1 : Int32) (v2 : Int32) (v3 : Int32) (M : aM) (h : w_Mo_newDuty_J71 post k0 v1 v2 v3 M) : Gd d w 174 (pV post) (71, [some (aR 21 k0), some (aI v1), some (aI v2), some (aI v3)], [], M) := by
  unfold w_Mo_newDuty_J71 at h
  show Gd d w 174 _ (71, [some (aR 21 k0), some (aI v1), some (aI v2), some (aI v3)], [], M)
  obtain ⟨c0, h⟩ := h
  refine gd_s (P := True ∧ True ∧ True ∧ True ∧ (vp_in v3 (rK M (k0 + 25)).2) ∧ True) (σ1 := (78, [some (aR 21 k0), some (aI v1), some (aI v2), some (aI v3)], [], wI M (k0 + 25) v3.toNatClampNeg v1)) tc_174 rfl 5 (fun u => ⟨_, rfl⟩) ⟨trivial, trivial, trivial, trivial, c0, trivial⟩ ?_
  exact g_Mo_newDuty_J78 hd hw k0 v2 v3 (some (aI v1)) (wI M (k0 + 25) v3.toNatClampNeg v1) h
def w_Mo_newDuty_J41 (post : aM → Prop) (k0 : Nat) (v1 : Int32) (v2 : Int32) (M : aM) : Prop := (((rI M k0 38) = ((-1 : Int32))) → (vp_in ((2 : Int32)) (rK M (k0 + 24)).2) ∧ (vp_in ((2 : Int32)) (rK M (k0 + 24)).2) ∧ (vp_in ((2 : Int32)) (rK M (k0 + 24)).2) ∧ (w_Mo_newDuty_J71 post k0 v1 v2 (((200 : Int32)) + (rI M (k0 + 24) ((2 : Int32)).toNatClampNeg)) (wI M (k0 + 24) ((2 : Int32)).toNatClampNeg ((rI M (k0 + 24) ((2 : Int32)).toNatClampNeg) + ((1 : Int32)))))) ∧ (¬ ((rI M k0 38) = ((-1 : Int32))) → post M)
theorem g_Mo_newDuty_J41 {d w : Nat} (hd : 4 ≤ d) (hw : 83 ≤ w) {post : aM → Prop} (k0 : Nat) (v1 : Int32) (v2 : Int32) (o3 : Option aV) (M : aM) (h : w_Mo_newDuty_J41 post k0 v1 v2 M) : Gd d w 174 (pV post) (41, [some (aR 21 k0), some (aI v1), some (aI v2), o3], [], M) := by
  unfold w_Mo_newDuty_J41 at h
  show Gd d w 174 _ (41, [some (aR 21 k0), some (aI v1), some (aI v2), o3], [], M)
  refine gd_s (P := True ∧ True ∧ True ∧ True) (σ1 := (46, [some (aR 21 k0), some (aI v1), some (aI v2), o3], [aI ((-1 : Int32)), aI (rI M k0 38)], M)) tc_174 rfl 3 (fun u => ⟨_, rfl⟩) ⟨trivial, trivial, trivial, trivial⟩ ?_
  refine gd_br (c := (rI M k0 38) = ((-1 : Int32))) (st1 := []) tc_174 rfl rfl (fun _ => rfl) ⟨fun hc => ?_, fun hc => ?_⟩
  · have h := h.1 hc
    show Gd d w 174 _ (50, [some (aR 21 k0), some (aI v1), some (aI v2), o3], [], M)
    obtain ⟨c0, c1, c2, h⟩ := h
    refine gd_s (P := True ∧ True ∧ True ∧ True ∧ (vp_in ((2 : Int32)) (rK M (k0 + 24)).2) ∧ True ∧ True ∧ True ∧ True ∧ True ∧ True ∧ (vp_in ((2 : Int32)) (rK M (k0 + 24)).2) ∧ True ∧ True ∧ (vp_in ((2 : Int32)) (rK M (k0 + 24)).2) ∧ True) (σ1 := (71, [some (aR 21 k0), some (aI v1), some (aI v2), some (aI (((200 : Int32)) + (rI M (k0 + 24) ((2 : Int32)).toNatClampNeg)))], [], wI M (k0 + 24) ((2 : Int32)).toNatClampNeg ((rI M (k0 + 24) ((2 : Int32)).toNatClampNeg) + ((1 : Int32))))) tc_174 rfl 15 (fun u => ⟨_, rfl⟩) ⟨trivial, trivial, trivial, trivial, c0, trivial, trivial, trivial, trivial, trivial, trivial, c1, trivial, trivial, c2, trivial⟩ ?_
    exact g_Mo_newDuty_J71 hd hw k0 v1 v2 (((200 : Int32)) + (rI M (k0 + 24) ((2 : Int32)).toNatClampNeg)) (wI M (k0 + 24) ((2 : Int32)).toNatClampNeg ((rI M (k0 + 24) ((2 : Int32)).toNatClampNeg) + ((1 : Int32)))) h
  · have h := h.2 hc
    show Gd d w 174 _ (49, [some (aR 21 k0), some (aI v1), some (aI v2), o3], [], M)
    exact gd_ret tc_174 rfl rfl trivial (fun _ => rfl) ⟨rfl, h⟩
def w_Mo_newDuty_J14 (post : aM → Prop) (k0 : Nat) (v1 : Int32) (v2 : Int32) (t0 : Nat) (s1 : Int32) (M : aM) : Prop := w_Mo_need (fun M1 => ((¬ (rI M1 k0 38) = ((-1 : Int32))) → w_Mo_newDuty_J41 post k0 v1 v2 M1) ∧ (¬ (¬ (rI M1 k0 38) = ((-1 : Int32))) → (vp_in ((2 : Int32)) (rK M1 (k0 + 24)).2) ∧ (((¬ (rI M1 (k0 + 24) ((2 : Int32)).toNatClampNeg) = ((100 : Int32))) → w_Mo_newDuty_J41 post k0 v1 v2 M1) ∧ (¬ (¬ (rI M1 (k0 + 24) ((2 : Int32)).toNatClampNeg) = ((100 : Int32))) → w_Mo_bad (fun M2 => w_Mo_newDuty_J41 post k0 v1 v2 M2) k0 ((5 : Int32)) M1)))) t0 s1 M
theorem g_Mo_newDuty_J14 {d w : Nat} (hd : 4 ≤ d) (hw : 83 ≤ w) {post : aM → Prop} (k0 : Nat) (v1 : Int32) (v2 : Int32) (t0 : Nat) (s1 : Int32) (o3 : Option aV) (M : aM) (h : w_Mo_newDuty_J14 post k0 v1 v2 t0 s1 M) : Gd d w 174 (pV post) (14, [some (aR 21 k0), some (aI v1), some (aI v2), o3], [aI s1, aR 21 t0], M) := by
  unfold w_Mo_newDuty_J14 at h
  show Gd d w 174 _ (14, [some (aR 21 k0), some (aI v1), some (aI v2), o3], [aI s1, aR 21 t0], M)
  refine gd_callN (ml := 2) (as := [aR 21 t0, aI s1]) (rest := []) tc_174 rfl rfl rfl rfl rfl (by omega) (by omega) (Nat.le_of_ble_eq_true rfl) rfl (g_Mo_need (by omega) (by omega) h) (fun r9 M1 h => ?_)
  obtain ⟨rfl, h⟩ := h
  show Gd d w 174 _ (17, [some (aR 21 k0), some (aI v1), some (aI v2), o3], [], M1)
  refine gd_s (P := True ∧ True ∧ True ∧ True) (σ1 := (22, [some (aR 21 k0), some (aI v1), some (aI v2), o3], [aI ((-1 : Int32)), aI (rI M1 k0 38)], M1)) tc_174 rfl 3 (fun u => ⟨_, rfl⟩) ⟨trivial, trivial, trivial, trivial⟩ ?_
  refine gd_br (c := ¬ (rI M1 k0 38) = ((-1 : Int32))) (st1 := []) tc_174 rfl rfl (fun _ => rfl) ⟨fun hc => ?_, fun hc => ?_⟩
  · have h := h.1 hc
    exact g_Mo_newDuty_J41 hd hw k0 v1 v2 o3 M1 h
  · have h := h.2 hc
    show Gd d w 174 _ (25, [some (aR 21 k0), some (aI v1), some (aI v2), o3], [], M1)
    obtain ⟨c0, h⟩ := h
    refine gd_s (P := True ∧ True ∧ True ∧ (vp_in ((2 : Int32)) (rK M1 (k0 + 24)).2) ∧ True ∧ True) (σ1 := (33, [some (aR 21 k0), some (aI v1), some (aI v2), o3], [aI ((100 : Int32)), aI (rI M1 (k0 + 24) ((2 : Int32)).toNatClampNeg)], M1)) tc_174 rfl 5 (fun u => ⟨_, rfl⟩) ⟨trivial, trivial, trivial, c0, trivial, trivial⟩ ?_
    refine gd_br (c := ¬ (rI M1 (k0 + 24) ((2 : Int32)).toNatClampNeg) = ((100 : Int32))) (st1 := []) tc_174 rfl rfl (fun _ => rfl) ⟨fun hc => ?_, fun hc => ?_⟩
    · have h := h.1 hc
      exact g_Mo_newDuty_J41 hd hw k0 v1 v2 o3 M1 h
    · have h := h.2 hc
      show Gd d w 174 _ (36, [some (aR 21 k0), some (aI v1), some (aI v2), o3], [], M1)
      refine gd_s (P := True ∧ True ∧ True) (σ1 := (38, [some (aR 21 k0), some (aI v1), some (aI v2), o3], [aI ((5 : Int32)), aR 21 k0], M1)) tc_174 rfl 2 (fun u => ⟨_, rfl⟩) ⟨trivial, trivial, trivial⟩ ?_
      refine gd_callN (ml := 2) (as := [aR 21 k0, aI ((5 : Int32))]) (rest := []) tc_174 rfl rfl rfl rfl rfl (by omega) (by omega) (Nat.le_of_ble_eq_true rfl) rfl (g_Mo_bad (by omega) (by omega) h) (fun r9 M2 h => ?_)
      obtain ⟨rfl, h⟩ := h
      exact g_Mo_newDuty_J41 hd hw k0 v1 v2 o3 M2 h
/-- PolicyJudgeModel.newDuty(II)V -/
def w_Mo_newDuty (post : aM → Prop) (k0 : Nat) (v1 : Int32) (v2 : Int32) (M : aM) : Prop := ((¬ (rI M k0 34) = ((2 : Int32))) → w_Mo_newDuty_J14 post k0 v1 v2 k0 ((0 : Int32)) M) ∧ (¬ (¬ (rI M k0 34) = ((2 : Int32))) → w_Mo_newDuty_J14 post k0 v1 v2 k0 ((1 : Int32)) M)
theorem g_Mo_newDuty {d w : Nat} (hd : 4 ≤ d) (hw : 83 ≤ w) {post : aM → Prop} {k0 : Nat} {v1 : Int32} {v2 : Int32} {M : aM} (h : w_Mo_newDuty post k0 v1 v2 M) : Gd d w 174 (pV post) (0, aEnt 174 [aR 21 k0, aI v1, aI v2], [], M) := by
  unfold w_Mo_newDuty at h
  show Gd d w 174 _ (0, [some (aR 21 k0), some (aI v1), some (aI v2), none], [], M)
  refine gd_s (P := True ∧ True ∧ True ∧ True ∧ True) (σ1 := (6, [some (aR 21 k0), some (aI v1), some (aI v2), none], [aI ((2 : Int32)), aI (rI M k0 34), aR 21 k0], M)) tc_174 rfl 4 (fun u => ⟨_, rfl⟩) ⟨trivial, trivial, trivial, trivial, trivial⟩ ?_
  refine gd_br (c := ¬ (rI M k0 34) = ((2 : Int32))) (st1 := [aR 21 k0]) tc_174 rfl rfl (fun _ => rfl) ⟨fun hc => ?_, fun hc => ?_⟩
  · have h := h.1 hc
    show Gd d w 174 _ (13, [some (aR 21 k0), some (aI v1), some (aI v2), none], [aR 21 k0], M)
    refine gd_s (P := True ∧ True) (σ1 := (14, [some (aR 21 k0), some (aI v1), some (aI v2), none], [aI ((0 : Int32)), aR 21 k0], M)) tc_174 rfl 1 (fun u => ⟨_, rfl⟩) ⟨trivial, trivial⟩ ?_
    exact g_Mo_newDuty_J14 hd hw k0 v1 v2 k0 ((0 : Int32)) none M h
  · have h := h.2 hc
    show Gd d w 174 _ (9, [some (aR 21 k0), some (aI v1), some (aI v2), none], [aR 21 k0], M)
    refine gd_s (P := True ∧ True ∧ True) (σ1 := (14, [some (aR 21 k0), some (aI v1), some (aI v2), none], [aI ((1 : Int32)), aR 21 k0], M)) tc_174 rfl 2 (fun u => ⟨_, rfl⟩) ⟨trivial, trivial, trivial⟩ ?_
    exact g_Mo_newDuty_J14 hd hw k0 v1 v2 k0 ((1 : Int32)) none M h
theorem tc_173 : tC 173 = c173 := rfl
def w_Mo_readRule_J134 (post : aM → Prop) (k0 : Nat) (M : aM) : Prop := w_Mo_eat (fun M1 => post M1) k0 ((59 : Int32)) M
theorem g_Mo_readRule_J134 {d w : Nat} (hd : 12 ≤ d) (hw : 338 ≤ w) {post : aM → Prop} (k0 : Nat) (o1 o2 o3 o4 : Option aV) (M : aM) (h : w_Mo_readRule_J134 post k0 M) : Gd d w 173 (pV post) (134, [some (aR 21 k0), o1, o2, o3, o4], [], M) := by
  unfold w_Mo_readRule_J134 at h
  show Gd d w 173 _ (134, [some (aR 21 k0), o1, o2, o3, o4], [], M)
  refine gd_s (P := True ∧ True ∧ True) (σ1 := (137, [some (aR 21 k0), o1, o2, o3, o4], [aI ((59 : Int32)), aR 21 k0], M)) tc_173 rfl 2 (fun u => ⟨_, rfl⟩) ⟨trivial, trivial, trivial⟩ ?_
  refine gd_callN (ml := 2) (as := [aR 21 k0, aI ((59 : Int32))]) (rest := []) tc_173 rfl rfl rfl rfl rfl (by omega) (by omega) (Nat.le_of_ble_eq_true rfl) rfl (g_Mo_eat (by omega) (by omega) h) (fun r9 M1 h => ?_)
  obtain ⟨rfl, h⟩ := h
  show Gd d w 173 _ (140, [some (aR 21 k0), o1, o2, o3, o4], [], M1)
  exact gd_ret tc_173 rfl rfl trivial (fun _ => rfl) ⟨rfl, h⟩
def w_Mo_readRule_L84 (post : aM → Prop) : Nat → Nat → Int32 → Int32 → Int32 → aM → Prop
  | 0, _, _, _, _, _ => False
  | n + 1, k0, v2, v3, v4, M => ((v4 = ((0 : Int32))) → w_Mo_readRule_J134 post k0 M) ∧ (¬ (v4 = ((0 : Int32))) → ((¬ (rI M k0 38) = ((-1 : Int32))) → w_Mo_readRule_J134 post k0 M) ∧ (¬ (¬ (rI M k0 38) = ((-1 : Int32))) → w_Mo_nextToken (fun M1 => w_Mo_newDuty (fun M2 => ((¬ (rI M2 k0 38) = ((-1 : Int32))) → w_Mo_readRule_L84 post n k0 v2 v3 ((0 : Int32)) M2) ∧ (¬ (¬ (rI M2 k0 38) = ((-1 : Int32))) → w_Mo_is (fun x3 => ((x3 = ((0 : Int32))) → w_Mo_readRule_L84 post n k0 v2 v3 ((0 : Int32)) M2) ∧ (¬ (x3 = ((0 : Int32))) → w_Mo_readRule_L84 post n k0 v2 v3 ((1 : Int32)) M2)) k0 ((44 : Int32)) M2)) k0 v3 v2 M1) k0 M))
theorem g_Mo_readRule_L84 {d w : Nat} (hd : 12 ≤ d) (hw : 338 ≤ w) {post : aM → Prop} : ∀ (n : Nat) (k0 : Nat) (v2 : Int32) (v3 : Int32) (v4 : Int32) (o1 : Option aV) (M : aM), w_Mo_readRule_L84 post n k0 v2 v3 v4 M → Gd d w 173 (pV post) (84, [some (aR 21 k0), o1, some (aI v2), some (aI v3), some (aI v4)], [], M) := by
  intro n
  induction n with
  | zero => intro k0 v2 v3 v4 o1 M h; exact h.elim
  | succ n ih =>
    intro k0 v2 v3 v4 o1 M h
    show Gd d w 173 _ (84, [some (aR 21 k0), o1, some (aI v2), some (aI v3), some (aI v4)], [], M)
    refine gd_s (P := True ∧ True) (σ1 := (86, [some (aR 21 k0), o1, some (aI v2), some (aI v3), some (aI v4)], [aI v4], M)) tc_173 rfl 1 (fun u => ⟨_, rfl⟩) ⟨trivial, trivial⟩ ?_
    refine gd_br (c := v4 = ((0 : Int32))) (st1 := []) tc_173 rfl rfl (fun _ => rfl) ⟨fun hc => ?_, fun hc => ?_⟩
    · have h := h.1 hc
      exact g_Mo_readRule_J134 hd hw k0 o1 (some (aI v2)) (some (aI v3)) (some (aI v4)) M h
    · have h := h.2 hc
      show Gd d w 173 _ (89, [some (aR 21 k0), o1, some (aI v2), some (aI v3), some (aI v4)], [], M)
      refine gd_s (P := True ∧ True ∧ True ∧ True) (σ1 := (94, [some (aR 21 k0), o1, some (aI v2), some (aI v3), some (aI v4)], [aI ((-1 : Int32)), aI (rI M k0 38)], M)) tc_173 rfl 3 (fun u => ⟨_, rfl⟩) ⟨trivial, trivial, trivial, trivial⟩ ?_
      refine gd_br (c := ¬ (rI M k0 38) = ((-1 : Int32))) (st1 := []) tc_173 rfl rfl (fun _ => rfl) ⟨fun hc => ?_, fun hc => ?_⟩
      · have h := h.1 hc
        exact g_Mo_readRule_J134 hd hw k0 o1 (some (aI v2)) (some (aI v3)) (some (aI v4)) M h
      · have h := h.2 hc
        show Gd d w 173 _ (97, [some (aR 21 k0), o1, some (aI v2), some (aI v3), some (aI v4)], [], M)
        refine gd_s (P := True ∧ True) (σ1 := (98, [some (aR 21 k0), o1, some (aI v2), some (aI v3), some (aI v4)], [aR 21 k0], M)) tc_173 rfl 1 (fun u => ⟨_, rfl⟩) ⟨trivial, trivial⟩ ?_
        refine gd_callN (ml := 2) (as := [aR 21 k0]) (rest := []) tc_173 rfl rfl rfl rfl rfl (by omega) (by omega) (Nat.le_of_ble_eq_true rfl) rfl (g_Mo_nextToken (by omega) (by omega) h) (fun r9 M1 h => ?_)
        obtain ⟨rfl, h⟩ := h
        show Gd d w 173 _ (101, [some (aR 21 k0), o1, some (aI v2), some (aI v3), some (aI v4)], [], M1)
        refine gd_s (P := True ∧ True ∧ True ∧ True) (σ1 := (104, [some (aR 21 k0), o1, some (aI v2), some (aI v3), some (aI v4)], [aI v2, aI v3, aR 21 k0], M1)) tc_173 rfl 3 (fun u => ⟨_, rfl⟩) ⟨trivial, trivial, trivial, trivial⟩ ?_
        refine gd_callN (ml := 4) (as := [aR 21 k0, aI v3, aI v2]) (rest := []) tc_173 rfl rfl rfl rfl rfl (by omega) (by omega) (Nat.le_of_ble_eq_true rfl) rfl (g_Mo_newDuty (by omega) (by omega) h) (fun r9 M2 h => ?_)
        obtain ⟨rfl, h⟩ := h
        show Gd d w 173 _ (107, [some (aR 21 k0), o1, some (aI v2), some (aI v3), some (aI v4)], [], M2)
        refine gd_s (P := True ∧ True ∧ True ∧ True) (σ1 := (112, [some (aR 21 k0), o1, some (aI v2), some (aI v3), some (aI v4)], [aI ((-1 : Int32)), aI (rI M2 k0 38)], M2)) tc_173 rfl 3 (fun u => ⟨_, rfl⟩) ⟨trivial, trivial, trivial, trivial⟩ ?_
        refine gd_br (c := ¬ (rI M2 k0 38) = ((-1 : Int32))) (st1 := []) tc_173 rfl rfl (fun _ => rfl) ⟨fun hc => ?_, fun hc => ?_⟩
        · have h := h.1 hc
          show Gd d w 173 _ (128, [some (aR 21 k0), o1, some (aI v2), some (aI v3), some (aI v4)], [], M2)
          refine gd_s (P := True ∧ True ∧ True ∧ True) (σ1 := (84, [some (aR 21 k0), o1, some (aI v2), some (aI v3), some (aI ((0 : Int32)))], [], M2)) tc_173 rfl 3 (fun u => ⟨_, rfl⟩) ⟨trivial, trivial, trivial, trivial⟩ ?_
          exact ih k0 v2 v3 ((0 : Int32)) o1 M2 h
        · have h := h.2 hc
          show Gd d w 173 _ (115, [some (aR 21 k0), o1, some (aI v2), some (aI v3), some (aI v4)], [], M2)
          refine gd_s (P := True ∧ True ∧ True) (σ1 := (118, [some (aR 21 k0), o1, some (aI v2), some (aI v3), some (aI v4)], [aI ((44 : Int32)), aR 21 k0], M2)) tc_173 rfl 2 (fun u => ⟨_, rfl⟩) ⟨trivial, trivial, trivial⟩ ?_
          refine gd_callN (ml := 2) (as := [aR 21 k0, aI ((44 : Int32))]) (rest := []) tc_173 rfl rfl rfl rfl rfl (by omega) (by omega) (Nat.le_of_ble_eq_true rfl) rfl (g_Mo_is (by omega) (by omega) h) (fun r9 M9 h => ?_)
          obtain ⟨x3, rfl, e9, h⟩ := h
          subst M9
          show Gd d w 173 _ (121, [some (aR 21 k0), o1, some (aI v2), some (aI v3), some (aI v4)], [aI x3], M2)
          refine gd_br (c := x3 = ((0 : Int32))) (st1 := []) tc_173 rfl rfl (fun _ => rfl) ⟨fun hc => ?_, fun hc => ?_⟩
          · have h := h.1 hc
            show Gd d w 173 _ (128, [some (aR 21 k0), o1, some (aI v2), some (aI v3), some (aI v4)], [], M2)
            refine gd_s (P := True ∧ True ∧ True ∧ True) (σ1 := (84, [some (aR 21 k0), o1, some (aI v2), some (aI v3), some (aI ((0 : Int32)))], [], M2)) tc_173 rfl 3 (fun u => ⟨_, rfl⟩) ⟨trivial, trivial, trivial, trivial⟩ ?_
            exact ih k0 v2 v3 ((0 : Int32)) o1 M2 h
          · have h := h.2 hc
            show Gd d w 173 _ (124, [some (aR 21 k0), o1, some (aI v2), some (aI v3), some (aI v4)], [], M2)
            refine gd_s (P := True ∧ True ∧ True ∧ True ∧ True) (σ1 := (84, [some (aR 21 k0), o1, some (aI v2), some (aI v3), some (aI ((1 : Int32)))], [], M2)) tc_173 rfl 4 (fun u => ⟨_, rfl⟩) ⟨trivial, trivial, trivial, trivial, trivial⟩ ?_
            exact ih k0 v2 v3 ((1 : Int32)) o1 M2 h
def w_Mo_readRule_J58 (post : aM → Prop) (k0 : Nat) (v2 : Int32) (v3 : Int32) (M : aM) : Prop := w_Mo_forPart (fun M1 => ((¬ (rI M1 k0 38) = ((-1 : Int32))) → w_Mo_readRule_J134 post k0 M1) ∧ (¬ (¬ (rI M1 k0 38) = ((-1 : Int32))) → w_Mo_isWord (fun x2 => ((x2 = ((0 : Int32))) → w_Mo_readRule_J134 post k0 M1) ∧ (¬ (x2 = ((0 : Int32))) → ∃ n9, w_Mo_readRule_L84 post n9 k0 v2 v3 ((1 : Int32)) M1)) k0 27 M1)) k0 v3 M
theorem g_Mo_readRule_J58 {d w : Nat} (hd : 12 ≤ d) (hw : 338 ≤ w) {post : aM → Prop} (k0 : Nat) (v2 : Int32) (v3 : Int32) (o1 o4 : Option aV) (M : aM) (h : w_Mo_readRule_J58 post k0 v2 v3 M) : Gd d w 173 (pV post) (58, [some (aR 21 k0), o1, some (aI v2), some (aI v3), o4], [], M) := by
  unfold w_Mo_readRule_J58 at h
  show Gd d w 173 _ (58, [some (aR 21 k0), o1, some (aI v2), some (aI v3), o4], [], M)
  refine gd_s (P := True ∧ True ∧ True) (σ1 := (60, [some (aR 21 k0), o1, some (aI v2), some (aI v3), o4], [aI v3, aR 21 k0], M)) tc_173 rfl 2 (fun u => ⟨_, rfl⟩) ⟨trivial, trivial, trivial⟩ ?_
  refine gd_callN (ml := 2) (as := [aR 21 k0, aI v3]) (rest := []) tc_173 rfl rfl rfl rfl rfl (by omega) (by omega) (Nat.le_of_ble_eq_true rfl) rfl (g_Mo_forPart (by omega) (by omega) h) (fun r9 M1 h => ?_)
  obtain ⟨rfl, h⟩ := h
  show Gd d w 173 _ (63, [some (aR 21 k0), o1, some (aI v2), some (aI v3), o4], [], M1)
  refine gd_s (P := True ∧ True ∧ True ∧ True) (σ1 := (68, [some (aR 21 k0), o1, some (aI v2), some (aI v3), o4], [aI ((-1 : Int32)), aI (rI M1 k0 38)], M1)) tc_173 rfl 3 (fun u => ⟨_, rfl⟩) ⟨trivial, trivial, trivial, trivial⟩ ?_
  refine gd_br (c := ¬ (rI M1 k0 38) = ((-1 : Int32))) (st1 := []) tc_173 rfl rfl (fun _ => rfl) ⟨fun hc => ?_, fun hc => ?_⟩
  · have h := h.1 hc
    exact g_Mo_readRule_J134 hd hw k0 o1 (some (aI v2)) (some (aI v3)) o4 M1 h
  · have h := h.2 hc
    show Gd d w 173 _ (71, [some (aR 21 k0), o1, some (aI v2), some (aI v3), o4], [], M1)
    refine gd_s (P := True ∧ True ∧ True) (σ1 := (75, [some (aR 21 k0), o1, some (aI v2), some (aI v3), o4], [aR 1 27, aR 21 k0], M1)) tc_173 rfl 2 (fun u => ⟨_, rfl⟩) ⟨trivial, trivial, trivial⟩ ?_
    refine gd_callN (ml := 4) (as := [aR 21 k0, aR 1 27]) (rest := []) tc_173 rfl rfl rfl rfl rfl (by omega) (by omega) (Nat.le_of_ble_eq_true rfl) rfl (g_Mo_isWord (by omega) (by omega) h) (fun r9 M9 h => ?_)
    obtain ⟨x2, rfl, e9, h⟩ := h
    subst M9
    show Gd d w 173 _ (78, [some (aR 21 k0), o1, some (aI v2), some (aI v3), o4], [aI x2], M1)
    refine gd_br (c := x2 = ((0 : Int32))) (st1 := []) tc_173 rfl rfl (fun _ => rfl) ⟨fun hc => ?_, fun hc => ?_⟩
    · have h := h.1 hc
      exact g_Mo_readRule_J134 hd hw k0 o1 (some (aI v2)) (some (aI v3)) o4 M1 h
    · have h := h.2 hc
      show Gd d w 173 _ (81, [some (aR 21 k0), o1, some (aI v2), some (aI v3), o4], [], M1)
      refine gd_s (P := True ∧ True ∧ True) (σ1 := (84, [some (aR 21 k0), o1, some (aI v2), some (aI v3), some (aI ((1 : Int32)))], [], M1)) tc_173 rfl 2 (fun u => ⟨_, rfl⟩) ⟨trivial, trivial, trivial⟩ ?_
      obtain ⟨n9, h⟩ := h
      exact g_Mo_readRule_L84 hd hw n9 k0 v2 v3 ((1 : Int32)) o1 M1 h
def w_Mo_readRule_J15 (post : aM → Prop) (k0 : Nat) (v1 : Int32) (s0 : Int32) (M : aM) : Prop := w_Mo_newNode (fun x1 M1 => w_Mo_nextToken (fun M2 => ((¬ (rI M2 k0 38) = ((-1 : Int32))) → w_Mo_readRule_J58 post k0 s0 x1 M2) ∧ (¬ (¬ (rI M2 k0 38) = ((-1 : Int32))) → w_Mo_isName (fun x3 => ((x3 = ((0 : Int32))) → w_Mo_readRule_J58 post k0 s0 x1 M2) ∧ (¬ (x3 = ((0 : Int32))) → w_Mo_nameOf (fun x4 => w_Mo_keepName (fun M5 => w_Mo_nextToken (fun M6 => w_Mo_readRule_J58 post k0 s0 x1 M6) k0 M5) k0 x4 M2) ((2 : Int32)) ((1 : Int32)) x1 M2)) k0 M2)) k0 M1) k0 (s0 - ((1 : Int32))) v1 M
theorem g_Mo_readRule_J15 {d w : Nat} (hd : 12 ≤ d) (hw : 338 ≤ w) {post : aM → Prop} (k0 : Nat) (v1 : Int32) (s0 : Int32) (o2 o3 o4 : Option aV) (M : aM) (h : w_Mo_readRule_J15 post k0 v1 s0 M) : Gd d w 173 (pV post) (15, [some (aR 21 k0), some (aI v1), o2, o3, o4], [aI s0], M) := by
  unfold w_Mo_readRule_J15 at h
  show Gd d w 173 _ (15, [some (aR 21 k0), some (aI v1), o2, o3, o4], [aI s0], M)
  refine gd_s (P := True ∧ True ∧ True ∧ True ∧ True ∧ True ∧ True) (σ1 := (21, [some (aR 21 k0), some (aI v1), some (aI s0), o3, o4], [aI v1, aI (s0 - ((1 : Int32))), aR 21 k0], M)) tc_173 rfl 6 (fun u => ⟨_, rfl⟩) ⟨trivial, trivial, trivial, trivial, trivial, trivial, trivial⟩ ?_
  refine gd_callN (ml := 4) (as := [aR 21 k0, aI (s0 - ((1 : Int32))), aI v1]) (rest := []) tc_173 rfl rfl rfl rfl rfl (by omega) (by omega) (Nat.le_of_ble_eq_true rfl) rfl (g_Mo_newNode (by omega) (by omega) h) (fun r9 M1 h => ?_)
  obtain ⟨x1, rfl, h⟩ := h
  show Gd d w 173 _ (24, [some (aR 21 k0), some (aI v1), some (aI s0), o3, o4], [aI x1], M1)
  refine gd_s (P := True ∧ True ∧ True) (σ1 := (26, [some (aR 21 k0), some (aI v1), some (aI s0), some (aI x1), o4], [aR 21 k0], M1)) tc_173 rfl 2 (fun u => ⟨_, rfl⟩) ⟨trivial, trivial, trivial⟩ ?_
  refine gd_callN (ml := 2) (as := [aR 21 k0]) (rest := []) tc_173 rfl rfl rfl rfl rfl (by omega) (by omega) (Nat.le_of_ble_eq_true rfl) rfl (g_Mo_nextToken (by omega) (by omega) h) (fun r9 M2 h => ?_)
  obtain ⟨rfl, h⟩ := h
  show Gd d w 173 _ (29, [some (aR 21 k0), some (aI v1), some (aI s0), some (aI x1), o4], [], M2)
  refine gd_s (P := True ∧ True ∧ True ∧ True) (σ1 := (34, [some (aR 21 k0), some (aI v1), some (aI s0), some (aI x1), o4], [aI ((-1 : Int32)), aI (rI M2 k0 38)], M2)) tc_173 rfl 3 (fun u => ⟨_, rfl⟩) ⟨trivial, trivial, trivial, trivial⟩ ?_
  refine gd_br (c := ¬ (rI M2 k0 38) = ((-1 : Int32))) (st1 := []) tc_173 rfl rfl (fun _ => rfl) ⟨fun hc => ?_, fun hc => ?_⟩
  · have h := h.1 hc
    exact g_Mo_readRule_J58 hd hw k0 s0 x1 (some (aI v1)) o4 M2 h
  · have h := h.2 hc
    show Gd d w 173 _ (37, [some (aR 21 k0), some (aI v1), some (aI s0), some (aI x1), o4], [], M2)
    refine gd_s (P := True ∧ True) (σ1 := (38, [some (aR 21 k0), some (aI v1), some (aI s0), some (aI x1), o4], [aR 21 k0], M2)) tc_173 rfl 1 (fun u => ⟨_, rfl⟩) ⟨trivial, trivial⟩ ?_
    refine gd_callN (ml := 1) (as := [aR 21 k0]) (rest := []) tc_173 rfl rfl rfl rfl rfl (by omega) (by omega) (Nat.le_of_ble_eq_true rfl) rfl (g_Mo_isName (by omega) (by omega) h) (fun r9 M9 h => ?_)
    obtain ⟨x3, rfl, e9, h⟩ := h
    subst M9
    show Gd d w 173 _ (41, [some (aR 21 k0), some (aI v1), some (aI s0), some (aI x1), o4], [aI x3], M2)
    refine gd_br (c := x3 = ((0 : Int32))) (st1 := []) tc_173 rfl rfl (fun _ => rfl) ⟨fun hc => ?_, fun hc => ?_⟩
    · have h := h.1 hc
      exact g_Mo_readRule_J58 hd hw k0 s0 x1 (some (aI v1)) o4 M2 h
    · have h := h.2 hc
      show Gd d w 173 _ (44, [some (aR 21 k0), some (aI v1), some (aI s0), some (aI x1), o4], [], M2)
      refine gd_s (P := True ∧ True ∧ True ∧ True ∧ True) (σ1 := (48, [some (aR 21 k0), some (aI v1), some (aI s0), some (aI x1), o4], [aI x1, aI ((1 : Int32)), aI ((2 : Int32)), aR 21 k0], M2)) tc_173 rfl 4 (fun u => ⟨_, rfl⟩) ⟨trivial, trivial, trivial, trivial, trivial⟩ ?_
      refine gd_callN (ml := 3) (as := [aI ((2 : Int32)), aI ((1 : Int32)), aI x1]) (rest := [aR 21 k0]) tc_173 rfl rfl rfl rfl rfl (by omega) (by omega) (Nat.le_of_ble_eq_true rfl) rfl (g_Mo_nameOf (by omega) (by omega) h) (fun r9 M9 h => ?_)
      obtain ⟨x4, rfl, e9, h⟩ := h
      subst M9
      show Gd d w 173 _ (51, [some (aR 21 k0), some (aI v1), some (aI s0), some (aI x1), o4], [aI x4, aR 21 k0], M2)
      refine gd_callN (ml := 3) (as := [aR 21 k0, aI x4]) (rest := []) tc_173 rfl rfl rfl rfl rfl (by omega) (by omega) (Nat.le_of_ble_eq_true rfl) rfl (g_Mo_keepName (by omega) (by omega) h) (fun r9 M5 h => ?_)
      obtain ⟨rfl, h⟩ := h
      show Gd d w 173 _ (54, [some (aR 21 k0), some (aI v1), some (aI s0), some (aI x1), o4], [], M5)
      refine gd_s (P := True ∧ True) (σ1 := (55, [some (aR 21 k0), some (aI v1), some (aI s0), some (aI x1), o4], [aR 21 k0], M5)) tc_173 rfl 1 (fun u => ⟨_, rfl⟩) ⟨trivial, trivial⟩ ?_
      refine gd_callN (ml := 2) (as := [aR 21 k0]) (rest := []) tc_173 rfl rfl rfl rfl rfl (by omega) (by omega) (Nat.le_of_ble_eq_true rfl) rfl (g_Mo_nextToken (by omega) (by omega) h) (fun r9 M6 h => ?_)
      obtain ⟨rfl, h⟩ := h
      exact g_Mo_readRule_J58 hd hw k0 s0 x1 (some (aI v1)) o4 M6 h
/-- PolicyJudgeModel.readRule(I)V -/
def w_Mo_readRule (post : aM → Prop) (k0 : Nat) (v1 : Int32) (M : aM) : Prop := w_Mo_isWord (fun x1 => ((x1 = ((0 : Int32))) → w_Mo_readRule_J15 post k0 v1 ((2 : Int32)) M) ∧ (¬ (x1 = ((0 : Int32))) → w_Mo_readRule_J15 post k0 v1 ((1 : Int32)) M)) k0 25 M
theorem g_Mo_readRule {d w : Nat} (hd : 12 ≤ d) (hw : 338 ≤ w) {post : aM → Prop} {k0 : Nat} {v1 : Int32} {M : aM} (h : w_Mo_readRule post k0 v1 M) : Gd d w 173 (pV post) (0, aEnt 173 [aR 21 k0, aI v1], [], M) := by
  unfold w_Mo_readRule at h
  show Gd d w 173 _ (0, [some (aR 21 k0), some (aI v1), none, none, none], [], M)
  refine gd_s (P := True ∧ True ∧ True) (σ1 := (4, [some (aR 21 k0), some (aI v1), none, none, none], [aR 1 25, aR 21 k0], M)) tc_173 rfl 2 (fun u => ⟨_, rfl⟩) ⟨trivial, trivial, trivial⟩ ?_
  refine gd_callN (ml := 4) (as := [aR 21 k0, aR 1 25]) (rest := []) tc_173 rfl rfl rfl rfl rfl (by omega) (by omega) (Nat.le_of_ble_eq_true rfl) rfl (g_Mo_isWord (by omega) (by omega) h) (fun r9 M9 h => ?_)
  obtain ⟨x1, rfl, e9, h⟩ := h
  subst M9
  show Gd d w 173 _ (7, [some (aR 21 k0), some (aI v1), none, none, none], [aI x1], M)
  refine gd_br (c := x1 = ((0 : Int32))) (st1 := []) tc_173 rfl rfl (fun _ => rfl) ⟨fun hc => ?_, fun hc => ?_⟩
  · have h := h.1 hc
    show Gd d w 173 _ (14, [some (aR 21 k0), some (aI v1), none, none, none], [], M)
    refine gd_s (P := True ∧ True) (σ1 := (15, [some (aR 21 k0), some (aI v1), none, none, none], [aI ((2 : Int32))], M)) tc_173 rfl 1 (fun u => ⟨_, rfl⟩) ⟨trivial, trivial⟩ ?_
    exact g_Mo_readRule_J15 hd hw k0 v1 ((2 : Int32)) none none none M h
  · have h := h.2 hc
    show Gd d w 173 _ (10, [some (aR 21 k0), some (aI v1), none, none, none], [], M)
    refine gd_s (P := True ∧ True ∧ True) (σ1 := (15, [some (aR 21 k0), some (aI v1), none, none, none], [aI ((1 : Int32))], M)) tc_173 rfl 2 (fun u => ⟨_, rfl⟩) ⟨trivial, trivial, trivial⟩ ?_
    exact g_Mo_readRule_J15 hd hw k0 v1 ((1 : Int32)) none none none M h
theorem tc_175 : tC 175 = c175 := rfl
def w_Mo_readDuty_J66 (post : aM → Prop) (k0 : Nat) (M : aM) : Prop := w_Mo_eat (fun M1 => post M1) k0 ((59 : Int32)) M
theorem g_Mo_readDuty_J66 {d w : Nat} (hd : 7 ≤ d) (hw : 223 ≤ w) {post : aM → Prop} (k0 : Nat) (o1 o2 : Option aV) (M : aM) (h : w_Mo_readDuty_J66 post k0 M) : Gd d w 175 (pV post) (66, [some (aR 21 k0), o1, o2], [], M) := by
  unfold w_Mo_readDuty_J66 at h
  show Gd d w 175 _ (66, [some (aR 21 k0), o1, o2], [], M)
  refine gd_s (P := True ∧ True ∧ True) (σ1 := (69, [some (aR 21 k0), o1, o2], [aI ((59 : Int32)), aR 21 k0], M)) tc_175 rfl 2 (fun u => ⟨_, rfl⟩) ⟨trivial, trivial, trivial⟩ ?_
  refine gd_callN (ml := 2) (as := [aR 21 k0, aI ((59 : Int32))]) (rest := []) tc_175 rfl rfl rfl rfl rfl (by omega) (by omega) (Nat.le_of_ble_eq_true rfl) rfl (g_Mo_eat (by omega) (by omega) h) (fun r9 M1 h => ?_)
  obtain ⟨rfl, h⟩ := h
  show Gd d w 175 _ (72, [some (aR 21 k0), o1, o2], [], M1)
  exact gd_ret tc_175 rfl rfl trivial (fun _ => rfl) ⟨rfl, h⟩
def w_Mo_readDuty_J45 (post : aM → Prop) (k0 : Nat) (v1 : Int32) (v2 : Int32) (t0 : Nat) (s1 : Int32) (M : aM) : Prop := w_Mo_need (fun M1 => w_Mo_nextToken (fun M2 => ((¬ (rI M2 k0 38) = ((-1 : Int32))) → w_Mo_readDuty_J66 post k0 M2) ∧ (¬ (¬ (rI M2 k0 38) = ((-1 : Int32))) → w_Mo_newDuty (fun M3 => w_Mo_readDuty_J66 post k0 M3) k0 v1 v2 M2)) k0 M1) t0 s1 M
theorem g_Mo_readDuty_J45 {d w : Nat} (hd : 7 ≤ d) (hw : 223 ≤ w) {post : aM → Prop} (k0 : Nat) (v1 : Int32) (v2 : Int32) (t0 : Nat) (s1 : Int32) (M : aM) (h : w_Mo_readDuty_J45 post k0 v1 v2 t0 s1 M) : Gd d w 175 (pV post) (45, [some (aR 21 k0), some (aI v1), some (aI v2)], [aI s1, aR 21 t0], M) := by
  unfold w_Mo_readDuty_J45 at h
  show Gd d w 175 _ (45, [some (aR 21 k0), some (aI v1), some (aI v2)], [aI s1, aR 21 t0], M)
  refine gd_callN (ml := 2) (as := [aR 21 t0, aI s1]) (rest := []) tc_175 rfl rfl rfl rfl rfl (by omega) (by omega) (Nat.le_of_ble_eq_true rfl) rfl (g_Mo_need (by omega) (by omega) h) (fun r9 M1 h => ?_)
  obtain ⟨rfl, h⟩ := h
  show Gd d w 175 _ (48, [some (aR 21 k0), some (aI v1), some (aI v2)], [], M1)
  refine gd_s (P := True ∧ True) (σ1 := (49, [some (aR 21 k0), some (aI v1), some (aI v2)], [aR 21 k0], M1)) tc_175 rfl 1 (fun u => ⟨_, rfl⟩) ⟨trivial, trivial⟩ ?_
  refine gd_callN (ml := 2) (as := [aR 21 k0]) (rest := []) tc_175 rfl rfl rfl rfl rfl (by omega) (by omega) (Nat.le_of_ble_eq_true rfl) rfl (g_Mo_nextToken (by omega) (by omega) h) (fun r9 M2 h => ?_)
  obtain ⟨rfl, h⟩ := h
  show Gd d w 175 _ (52, [some (aR 21 k0), some (aI v1), some (aI v2)], [], M2)
  refine gd_s (P := True ∧ True ∧ True ∧ True) (σ1 := (57, [some (aR 21 k0), some (aI v1), some (aI v2)], [aI ((-1 : Int32)), aI (rI M2 k0 38)], M2)) tc_175 rfl 3 (fun u => ⟨_, rfl⟩) ⟨trivial, trivial, trivial, trivial⟩ ?_
  refine gd_br (c := ¬ (rI M2 k0 38) = ((-1 : Int32))) (st1 := []) tc_175 rfl rfl (fun _ => rfl) ⟨fun hc => ?_, fun hc => ?_⟩
  · have h := h.1 hc
    exact g_Mo_readDuty_J66 hd hw k0 (some (aI v1)) (some (aI v2)) M2 h
  · have h := h.2 hc
    show Gd d w 175 _ (60, [some (aR 21 k0), some (aI v1), some (aI v2)], [], M2)
    refine gd_s (P := True ∧ True ∧ True ∧ True) (σ1 := (63, [some (aR 21 k0), some (aI v1), some (aI v2)], [aI v2, aI v1, aR 21 k0], M2)) tc_175 rfl 3 (fun u => ⟨_, rfl⟩) ⟨trivial, trivial, trivial, trivial⟩ ?_
    refine gd_callN (ml := 4) (as := [aR 21 k0, aI v1, aI v2]) (rest := []) tc_175 rfl rfl rfl rfl rfl (by omega) (by omega) (Nat.le_of_ble_eq_true rfl) rfl (g_Mo_newDuty (by omega) (by omega) h) (fun r9 M3 h => ?_)
    obtain ⟨rfl, h⟩ := h
    exact g_Mo_readDuty_J66 hd hw k0 (some (aI v1)) (some (aI v2)) M3 h
def w_Mo_readDuty_J33 (post : aM → Prop) (k0 : Nat) (v1 : Int32) (s0 : Int32) (M : aM) : Prop := ((s0 = ((-1 : Int32))) → w_Mo_readDuty_J45 post k0 v1 s0 k0 ((0 : Int32)) M) ∧ (¬ (s0 = ((-1 : Int32))) → w_Mo_readDuty_J45 post k0 v1 s0 k0 ((1 : Int32)) M)
theorem g_Mo_readDuty_J33 {d w : Nat} (hd : 7 ≤ d) (hw : 223 ≤ w) {post : aM → Prop} (k0 : Nat) (v1 : Int32) (s0 : Int32) (o2 : Option aV) (M : aM) (h : w_Mo_readDuty_J33 post k0 v1 s0 M) : Gd d w 175 (pV post) (33, [some (aR 21 k0), some (aI v1), o2], [aI s0], M) := by
  unfold w_Mo_readDuty_J33 at h
  show Gd d w 175 _ (33, [some (aR 21 k0), some (aI v1), o2], [aI s0], M)
  refine gd_s (P := True ∧ True ∧ True ∧ True ∧ True) (σ1 := (37, [some (aR 21 k0), some (aI v1), some (aI s0)], [aI ((-1 : Int32)), aI s0, aR 21 k0], M)) tc_175 rfl 4 (fun u => ⟨_, rfl⟩) ⟨trivial, trivial, trivial, trivial, trivial⟩ ?_
  refine gd_br (c := s0 = ((-1 : Int32))) (st1 := [aR 21 k0]) tc_175 rfl rfl (fun _ => rfl) ⟨fun hc => ?_, fun hc => ?_⟩
  · have h := h.1 hc
    show Gd d w 175 _ (44, [some (aR 21 k0), some (aI v1), some (aI s0)], [aR 21 k0], M)
    refine gd_s (P := True ∧ True) (σ1 := (45, [some (aR 21 k0), some (aI v1), some (aI s0)], [aI ((0 : Int32)), aR 21 k0], M)) tc_175 rfl 1 (fun u => ⟨_, rfl⟩) ⟨trivial, trivial⟩ ?_
    exact g_Mo_readDuty_J45 hd hw k0 v1 s0 k0 ((0 : Int32)) M h
  · have h := h.2 hc
    show Gd d w 175 _ (40, [some (aR 21 k0), some (aI v1), some (aI s0)], [aR 21 k0], M)
    refine gd_s (P := True ∧ True ∧ True) (σ1 := (45, [some (aR 21 k0), some (aI v1), some (aI s0)], [aI ((1 : Int32)), aR 21 k0], M)) tc_175 rfl 2 (fun u => ⟨_, rfl⟩) ⟨trivial, trivial, trivial⟩ ?_
    exact g_Mo_readDuty_J45 hd hw k0 v1 s0 k0 ((1 : Int32)) M h
/-- PolicyJudgeModel.readDuty(I)V -/
def w_Mo_readDuty (post : aM → Prop) (k0 : Nat) (v1 : Int32) (M : aM) : Prop := w_Mo_nextToken (fun M1 => w_Mo_isWord (fun x2 => ((x2 = ((0 : Int32))) → w_Mo_isWord (fun x3 => ((x3 = ((0 : Int32))) → w_Mo_readDuty_J33 post k0 v1 ((-1 : Int32)) M1) ∧ (¬ (x3 = ((0 : Int32))) → w_Mo_readDuty_J33 post k0 v1 ((2 : Int32)) M1)) k0 26 M1) ∧ (¬ (x2 = ((0 : Int32))) → w_Mo_readDuty_J33 post k0 v1 ((1 : Int32)) M1)) k0 25 M1) k0 M
theorem g_Mo_readDuty {d w : Nat} (hd : 7 ≤ d) (hw : 223 ≤ w) {post : aM → Prop} {k0 : Nat} {v1 : Int32} {M : aM} (h : w_Mo_readDuty post k0 v1 M) : Gd d w 175 (pV post) (0, aEnt 175 [aR 21 k0, aI v1], [], M) := by
  unfold w_Mo_readDuty at h
  show Gd d w 175 _ (0, [some (aR 21 k0), some (aI v1), none], [], M)
  refine gd_s (P := True ∧ True) (σ1 := (1, [some (aR 21 k0), some (aI v1), none], [aR 21 k0], M)) tc_175 rfl 1 (fun u => ⟨_, rfl⟩) ⟨trivial, trivial⟩ ?_
  refine gd_callN (ml := 2) (as := [aR 21 k0]) (rest := []) tc_175 rfl rfl rfl rfl rfl (by omega) (by omega) (Nat.le_of_ble_eq_true rfl) rfl (g_Mo_nextToken (by omega) (by omega) h) (fun r9 M1 h => ?_)
  obtain ⟨rfl, h⟩ := h
  show Gd d w 175 _ (4, [some (aR 21 k0), some (aI v1), none], [], M1)
  refine gd_s (P := True ∧ True ∧ True) (σ1 := (8, [some (aR 21 k0), some (aI v1), none], [aR 1 25, aR 21 k0], M1)) tc_175 rfl 2 (fun u => ⟨_, rfl⟩) ⟨trivial, trivial, trivial⟩ ?_
  refine gd_callN (ml := 4) (as := [aR 21 k0, aR 1 25]) (rest := []) tc_175 rfl rfl rfl rfl rfl (by omega) (by omega) (Nat.le_of_ble_eq_true rfl) rfl (g_Mo_isWord (by omega) (by omega) h) (fun r9 M9 h => ?_)
  obtain ⟨x2, rfl, e9, h⟩ := h
  subst M9
  show Gd d w 175 _ (11, [some (aR 21 k0), some (aI v1), none], [aI x2], M1)
  refine gd_br (c := x2 = ((0 : Int32))) (st1 := []) tc_175 rfl rfl (fun _ => rfl) ⟨fun hc => ?_, fun hc => ?_⟩
  · have h := h.1 hc
    show Gd d w 175 _ (18, [some (aR 21 k0), some (aI v1), none], [], M1)
    refine gd_s (P := True ∧ True ∧ True) (σ1 := (22, [some (aR 21 k0), some (aI v1), none], [aR 1 26, aR 21 k0], M1)) tc_175 rfl 2 (fun u => ⟨_, rfl⟩) ⟨trivial, trivial, trivial⟩ ?_
    refine gd_callN (ml := 4) (as := [aR 21 k0, aR 1 26]) (rest := []) tc_175 rfl rfl rfl rfl rfl (by omega) (by omega) (Nat.le_of_ble_eq_true rfl) rfl (g_Mo_isWord (by omega) (by omega) h) (fun r9 M9 h => ?_)
    obtain ⟨x3, rfl, e9, h⟩ := h
    subst M9
    show Gd d w 175 _ (25, [some (aR 21 k0), some (aI v1), none], [aI x3], M1)
    refine gd_br (c := x3 = ((0 : Int32))) (st1 := []) tc_175 rfl rfl (fun _ => rfl) ⟨fun hc => ?_, fun hc => ?_⟩
    · have h := h.1 hc
      show Gd d w 175 _ (32, [some (aR 21 k0), some (aI v1), none], [], M1)
      refine gd_s (P := True ∧ True) (σ1 := (33, [some (aR 21 k0), some (aI v1), none], [aI ((-1 : Int32))], M1)) tc_175 rfl 1 (fun u => ⟨_, rfl⟩) ⟨trivial, trivial⟩ ?_
      exact g_Mo_readDuty_J33 hd hw k0 v1 ((-1 : Int32)) none M1 h
    · have h := h.2 hc
      show Gd d w 175 _ (28, [some (aR 21 k0), some (aI v1), none], [], M1)
      refine gd_s (P := True ∧ True ∧ True) (σ1 := (33, [some (aR 21 k0), some (aI v1), none], [aI ((2 : Int32))], M1)) tc_175 rfl 2 (fun u => ⟨_, rfl⟩) ⟨trivial, trivial, trivial⟩ ?_
      exact g_Mo_readDuty_J33 hd hw k0 v1 ((2 : Int32)) none M1 h
  · have h := h.2 hc
    show Gd d w 175 _ (14, [some (aR 21 k0), some (aI v1), none], [], M1)
    refine gd_s (P := True ∧ True ∧ True) (σ1 := (33, [some (aR 21 k0), some (aI v1), none], [aI ((1 : Int32))], M1)) tc_175 rfl 2 (fun u => ⟨_, rfl⟩) ⟨trivial, trivial, trivial⟩ ?_
    exact g_Mo_readDuty_J33 hd hw k0 v1 ((1 : Int32)) none M1 h
theorem tc_139 : tC 139 = c139 := rfl
def w_Mo_readText_J247 (post : aM → Prop) (t0 : Nat) (s1 : Int32) (M : aM) : Prop := w_Mo_need (fun M1 => post M1) t0 s1 M
theorem g_Mo_readText_J247 {d w : Nat} (hd : 13 ≤ d) (hw : 362 ≤ w) {post : aM → Prop} (t0 : Nat) (s1 : Int32) (o0 o1 : Option aV) (M : aM) (h : w_Mo_readText_J247 post t0 s1 M) : Gd d w 139 (pV post) (247, [o0, o1], [aI s1, aR 21 t0], M) := by
  unfold w_Mo_readText_J247 at h
  show Gd d w 139 _ (247, [o0, o1], [aI s1, aR 21 t0], M)
  refine gd_callN (ml := 2) (as := [aR 21 t0, aI s1]) (rest := []) tc_139 rfl rfl rfl rfl rfl (by omega) (by omega) (Nat.le_of_ble_eq_true rfl) rfl (g_Mo_need (by omega) (by omega) h) (fun r9 M1 h => ?_)
  obtain ⟨rfl, h⟩ := h
  show Gd d w 139 _ (250, [o0, o1], [], M1)
  exact gd_ret tc_139 rfl rfl trivial (fun _ => rfl) ⟨rfl, h⟩
def w_Mo_readText_J233 (post : aM → Prop) (k0 : Nat) (M : aM) : Prop := ((¬ (rI M k0 34) = ((4 : Int32))) → w_Mo_readText_J247 post k0 ((0 : Int32)) M) ∧ (¬ (¬ (rI M k0 34) = ((4 : Int32))) → w_Mo_readText_J247 post k0 ((1 : Int32)) M)
theorem g_Mo_readText_J233 {d w : Nat} (hd : 13 ≤ d) (hw : 362 ≤ w) {post : aM → Prop} (k0 : Nat) (o1 : Option aV) (M : aM) (h : w_Mo_readText_J233 post k0 M) : Gd d w 139 (pV post) (233, [some (aR 21 k0), o1], [], M) := by
  unfold w_Mo_readText_J233 at h
  show Gd d w 139 _ (233, [some (aR 21 k0), o1], [], M)
  refine gd_s (P := True ∧ True ∧ True ∧ True ∧ True) (σ1 := (239, [some (aR 21 k0), o1], [aI ((4 : Int32)), aI (rI M k0 34), aR 21 k0], M)) tc_139 rfl 4 (fun u => ⟨_, rfl⟩) ⟨trivial, trivial, trivial, trivial, trivial⟩ ?_
  refine gd_br (c := ¬ (rI M k0 34) = ((4 : Int32))) (st1 := [aR 21 k0]) tc_139 rfl rfl (fun _ => rfl) ⟨fun hc => ?_, fun hc => ?_⟩
  · have h := h.1 hc
    show Gd d w 139 _ (246, [some (aR 21 k0), o1], [aR 21 k0], M)
    refine gd_s (P := True ∧ True) (σ1 := (247, [some (aR 21 k0), o1], [aI ((0 : Int32)), aR 21 k0], M)) tc_139 rfl 1 (fun u => ⟨_, rfl⟩) ⟨trivial, trivial⟩ ?_
    exact g_Mo_readText_J247 hd hw k0 ((0 : Int32)) (some (aR 21 k0)) o1 M h
  · have h := h.2 hc
    show Gd d w 139 _ (242, [some (aR 21 k0), o1], [aR 21 k0], M)
    refine gd_s (P := True ∧ True ∧ True) (σ1 := (247, [some (aR 21 k0), o1], [aI ((1 : Int32)), aR 21 k0], M)) tc_139 rfl 2 (fun u => ⟨_, rfl⟩) ⟨trivial, trivial, trivial⟩ ?_
    exact g_Mo_readText_J247 hd hw k0 ((1 : Int32)) (some (aR 21 k0)) o1 M h
def w_Mo_readText_J199 (post : aM → Prop) (K110 : Nat → Int32 → aM → Prop) (k0 : Nat) (v1 : Int32) (M : aM) : Prop := w_Mo_readRule (fun M1 => K110 k0 v1 M1) k0 v1 M
theorem g_Mo_readText_J199 {d w : Nat} (hd : 13 ≤ d) (hw : 362 ≤ w) {post : aM → Prop} {K110 : Nat → Int32 → aM → Prop} (hK110 : ∀ (k0 : Nat) (v1 : Int32) (M : aM), K110 k0 v1 M → Gd d w 139 (pV post) (110, [some (aR 21 k0), some (aI v1)], [], M)) (k0 : Nat) (v1 : Int32) (M : aM) (h : w_Mo_readText_J199 post K110 k0 v1 M) : Gd d w 139 (pV post) (199, [some (aR 21 k0), some (aI v1)], [], M) := by
  unfold w_Mo_readText_J199 at h
  show Gd d w 139 _ (199, [some (aR 21 k0), some (aI v1)], [], M)
  refine gd_s (P := True ∧ True ∧ True) (σ1 := (201, [some (aR 21 k0), some (aI v1)], [aI v1, aR 21 k0], M)) tc_139 rfl 2 (fun u => ⟨_, rfl⟩) ⟨trivial, trivial, trivial⟩ ?_
  refine gd_callN (ml := 5) (as := [aR 21 k0, aI v1]) (rest := []) tc_139 rfl rfl rfl rfl rfl (by omega) (by omega) (Nat.le_of_ble_eq_true rfl) rfl (g_Mo_readRule (by omega) (by omega) h) (fun r9 M1 h => ?_)
  obtain ⟨rfl, h⟩ := h
  show Gd d w 139 _ (204, [some (aR 21 k0), some (aI v1)], [], M1)
  refine gd_s (P := True ∧ True) (σ1 := (110, [some (aR 21 k0), some (aI v1)], [], M1)) tc_139 rfl 1 (fun u => ⟨_, rfl⟩) ⟨trivial, trivial⟩ ?_
  exact hK110 k0 v1 M1 h
def w_Mo_readText_L110 (post : aM → Prop) : Nat → Nat → Int32 → aM → Prop
  | 0, _, _, _ => False
  | n + 1, k0, v1, M => ((¬ (rI M k0 38) = ((-1 : Int32))) → w_Mo_readText_J233 post k0 M) ∧ (¬ (¬ (rI M k0 38) = ((-1 : Int32))) → ((v1 = ((-1 : Int32))) → w_Mo_readText_J233 post k0 M) ∧ (¬ (v1 = ((-1 : Int32))) → w_Mo_is (fun x1 => ((x1 = ((0 : Int32))) → w_Mo_isWord (fun x2 => ((x2 = ((0 : Int32))) → w_Mo_isWord (fun x3 => ((¬ x3 = ((0 : Int32))) → w_Mo_readText_J199 post (w_Mo_readText_L110 post n) k0 v1 M) ∧ (¬ (¬ x3 = ((0 : Int32))) → w_Mo_isWord (fun x4 => ((x4 = ((0 : Int32))) → w_Mo_isWord (fun x5 => ((x5 = ((0 : Int32))) → w_Mo_bad (fun M6 => w_Mo_readText_L110 post n k0 v1 M6) k0 ((2 : Int32)) M) ∧ (¬ (x5 = ((0 : Int32))) → w_Mo_readDuty (fun M7 => w_Mo_readText_L110 post n k0 v1 M7) k0 v1 M)) k0 28 M) ∧ (¬ (x4 = ((0 : Int32))) → w_Mo_readText_J199 post (w_Mo_readText_L110 post n) k0 v1 M)) k0 26 M)) k0 25 M) ∧ (¬ (x2 = ((0 : Int32))) → w_Mo_beginSet (fun x8 M8 => w_Mo_readText_L110 post n k0 x8 M8) k0 v1 M)) k0 19 M) ∧ (¬ (x1 = ((0 : Int32))) → (vp_in (((200 : Int32)) + v1) (rK M (k0 + 13)).2) ∧ (w_Mo_nextToken (fun M9 => w_Mo_readText_L110 post n k0 (rI (wI M k0 39 ((rI M k0 39) - ((1 : Int32)))) (k0 + 13) (((200 : Int32)) + v1).toNatClampNeg) M9) k0 (wI M k0 39 ((rI M k0 39) - ((1 : Int32))))))) k0 ((125 : Int32)) M))
theorem g_Mo_readText_L110 {d w : Nat} (hd : 13 ≤ d) (hw : 362 ≤ w) {post : aM → Prop} : ∀ (n : Nat) (k0 : Nat) (v1 : Int32) (M : aM), w_Mo_readText_L110 post n k0 v1 M → Gd d w 139 (pV post) (110, [some (aR 21 k0), some (aI v1)], [], M) := by
  intro n
  induction n with
  | zero => intro k0 v1 M h; exact h.elim
  | succ n ih =>
    intro k0 v1 M h
    show Gd d w 139 _ (110, [some (aR 21 k0), some (aI v1)], [], M)
    refine gd_s (P := True ∧ True ∧ True ∧ True) (σ1 := (115, [some (aR 21 k0), some (aI v1)], [aI ((-1 : Int32)), aI (rI M k0 38)], M)) tc_139 rfl 3 (fun u => ⟨_, rfl⟩) ⟨trivial, trivial, trivial, trivial⟩ ?_
    refine gd_br (c := ¬ (rI M k0 38) = ((-1 : Int32))) (st1 := []) tc_139 rfl rfl (fun _ => rfl) ⟨fun hc => ?_, fun hc => ?_⟩
    · have h := h.1 hc
      exact g_Mo_readText_J233 hd hw k0 (some (aI v1)) M h
    · have h := h.2 hc
      show Gd d w 139 _ (118, [some (aR 21 k0), some (aI v1)], [], M)
      refine gd_s (P := True ∧ True ∧ True) (σ1 := (120, [some (aR 21 k0), some (aI v1)], [aI ((-1 : Int32)), aI v1], M)) tc_139 rfl 2 (fun u => ⟨_, rfl⟩) ⟨trivial, trivial, trivial⟩ ?_
      refine gd_br (c := v1 = ((-1 : Int32))) (st1 := []) tc_139 rfl rfl (fun _ => rfl) ⟨fun hc => ?_, fun hc => ?_⟩
      · have h := h.1 hc
        exact g_Mo_readText_J233 hd hw k0 (some (aI v1)) M h
      · have h := h.2 hc
        show Gd d w 139 _ (123, [some (aR 21 k0), some (aI v1)], [], M)
        refine gd_s (P := True ∧ True ∧ True) (σ1 := (126, [some (aR 21 k0), some (aI v1)], [aI ((125 : Int32)), aR 21 k0], M)) tc_139 rfl 2 (fun u => ⟨_, rfl⟩) ⟨trivial, trivial, trivial⟩ ?_
        refine gd_callN (ml := 2) (as := [aR 21 k0, aI ((125 : Int32))]) (rest := []) tc_139 rfl rfl rfl rfl rfl (by omega) (by omega) (Nat.le_of_ble_eq_true rfl) rfl (g_Mo_is (by omega) (by omega) h) (fun r9 M9 h => ?_)
        obtain ⟨x1, rfl, e9, h⟩ := h
        subst M9
        show Gd d w 139 _ (129, [some (aR 21 k0), some (aI v1)], [aI x1], M)
        refine gd_br (c := x1 = ((0 : Int32))) (st1 := []) tc_139 rfl rfl (fun _ => rfl) ⟨fun hc => ?_, fun hc => ?_⟩
        · have h := h.1 hc
          show Gd d w 139 _ (160, [some (aR 21 k0), some (aI v1)], [], M)
          refine gd_s (P := True ∧ True ∧ True) (σ1 := (164, [some (aR 21 k0), some (aI v1)], [aR 1 19, aR 21 k0], M)) tc_139 rfl 2 (fun u => ⟨_, rfl⟩) ⟨trivial, trivial, trivial⟩ ?_
          refine gd_callN (ml := 4) (as := [aR 21 k0, aR 1 19]) (rest := []) tc_139 rfl rfl rfl rfl rfl (by omega) (by omega) (Nat.le_of_ble_eq_true rfl) rfl (g_Mo_isWord (by omega) (by omega) h) (fun r9 M9 h => ?_)
          obtain ⟨x2, rfl, e9, h⟩ := h
          subst M9
          show Gd d w 139 _ (167, [some (aR 21 k0), some (aI v1)], [aI x2], M)
          refine gd_br (c := x2 = ((0 : Int32))) (st1 := []) tc_139 rfl rfl (fun _ => rfl) ⟨fun hc => ?_, fun hc => ?_⟩
          · have h := h.1 hc
            show Gd d w 139 _ (179, [some (aR 21 k0), some (aI v1)], [], M)
            refine gd_s (P := True ∧ True ∧ True) (σ1 := (183, [some (aR 21 k0), some (aI v1)], [aR 1 25, aR 21 k0], M)) tc_139 rfl 2 (fun u => ⟨_, rfl⟩) ⟨trivial, trivial, trivial⟩ ?_
            refine gd_callN (ml := 4) (as := [aR 21 k0, aR 1 25]) (rest := []) tc_139 rfl rfl rfl rfl rfl (by omega) (by omega) (Nat.le_of_ble_eq_true rfl) rfl (g_Mo_isWord (by omega) (by omega) h) (fun r9 M9 h => ?_)
            obtain ⟨x3, rfl, e9, h⟩ := h
            subst M9
            show Gd d w 139 _ (186, [some (aR 21 k0), some (aI v1)], [aI x3], M)
            refine gd_br (c := ¬ x3 = ((0 : Int32))) (st1 := []) tc_139 rfl rfl (fun _ => rfl) ⟨fun hc => ?_, fun hc => ?_⟩
            · have h := h.1 hc
              exact g_Mo_readText_J199 hd hw ih k0 v1 M h
            · have h := h.2 hc
              show Gd d w 139 _ (189, [some (aR 21 k0), some (aI v1)], [], M)
              refine gd_s (P := True ∧ True ∧ True) (σ1 := (193, [some (aR 21 k0), some (aI v1)], [aR 1 26, aR 21 k0], M)) tc_139 rfl 2 (fun u => ⟨_, rfl⟩) ⟨trivial, trivial, trivial⟩ ?_
              refine gd_callN (ml := 4) (as := [aR 21 k0, aR 1 26]) (rest := []) tc_139 rfl rfl rfl rfl rfl (by omega) (by omega) (Nat.le_of_ble_eq_true rfl) rfl (g_Mo_isWord (by omega) (by omega) h) (fun r9 M9 h => ?_)
              obtain ⟨x4, rfl, e9, h⟩ := h
              subst M9
              show Gd d w 139 _ (196, [some (aR 21 k0), some (aI v1)], [aI x4], M)
              refine gd_br (c := x4 = ((0 : Int32))) (st1 := []) tc_139 rfl rfl (fun _ => rfl) ⟨fun hc => ?_, fun hc => ?_⟩
              · have h := h.1 hc
                show Gd d w 139 _ (207, [some (aR 21 k0), some (aI v1)], [], M)
                refine gd_s (P := True ∧ True ∧ True) (σ1 := (211, [some (aR 21 k0), some (aI v1)], [aR 1 28, aR 21 k0], M)) tc_139 rfl 2 (fun u => ⟨_, rfl⟩) ⟨trivial, trivial, trivial⟩ ?_
                refine gd_callN (ml := 4) (as := [aR 21 k0, aR 1 28]) (rest := []) tc_139 rfl rfl rfl rfl rfl (by omega) (by omega) (Nat.le_of_ble_eq_true rfl) rfl (g_Mo_isWord (by omega) (by omega) h) (fun r9 M9 h => ?_)
                obtain ⟨x5, rfl, e9, h⟩ := h
                subst M9
                show Gd d w 139 _ (214, [some (aR 21 k0), some (aI v1)], [aI x5], M)
                refine gd_br (c := x5 = ((0 : Int32))) (st1 := []) tc_139 rfl rfl (fun _ => rfl) ⟨fun hc => ?_, fun hc => ?_⟩
                · have h := h.1 hc
                  show Gd d w 139 _ (225, [some (aR 21 k0), some (aI v1)], [], M)
                  refine gd_s (P := True ∧ True ∧ True) (σ1 := (227, [some (aR 21 k0), some (aI v1)], [aI ((2 : Int32)), aR 21 k0], M)) tc_139 rfl 2 (fun u => ⟨_, rfl⟩) ⟨trivial, trivial, trivial⟩ ?_
                  refine gd_callN (ml := 2) (as := [aR 21 k0, aI ((2 : Int32))]) (rest := []) tc_139 rfl rfl rfl rfl rfl (by omega) (by omega) (Nat.le_of_ble_eq_true rfl) rfl (g_Mo_bad (by omega) (by omega) h) (fun r9 M6 h => ?_)
                  obtain ⟨rfl, h⟩ := h
                  show Gd d w 139 _ (230, [some (aR 21 k0), some (aI v1)], [], M6)
                  refine gd_s (P := True ∧ True) (σ1 := (110, [some (aR 21 k0), some (aI v1)], [], M6)) tc_139 rfl 1 (fun u => ⟨_, rfl⟩) ⟨trivial, trivial⟩ ?_
                  exact ih k0 v1 M6 h
                · have h := h.2 hc
                  show Gd d w 139 _ (217, [some (aR 21 k0), some (aI v1)], [], M)
                  refine gd_s (P := True ∧ True ∧ True) (σ1 := (219, [some (aR 21 k0), some (aI v1)], [aI v1, aR 21 k0], M)) tc_139 rfl 2 (fun u => ⟨_, rfl⟩) ⟨trivial, trivial, trivial⟩ ?_
                  refine gd_callN (ml := 3) (as := [aR 21 k0, aI v1]) (rest := []) tc_139 rfl rfl rfl rfl rfl (by omega) (by omega) (Nat.le_of_ble_eq_true rfl) rfl (g_Mo_readDuty (by omega) (by omega) h) (fun r9 M7 h => ?_)
                  obtain ⟨rfl, h⟩ := h
                  show Gd d w 139 _ (222, [some (aR 21 k0), some (aI v1)], [], M7)
                  refine gd_s (P := True ∧ True) (σ1 := (110, [some (aR 21 k0), some (aI v1)], [], M7)) tc_139 rfl 1 (fun u => ⟨_, rfl⟩) ⟨trivial, trivial⟩ ?_
                  exact ih k0 v1 M7 h
              · have h := h.2 hc
                exact g_Mo_readText_J199 hd hw ih k0 v1 M h
          · have h := h.2 hc
            show Gd d w 139 _ (170, [some (aR 21 k0), some (aI v1)], [], M)
            refine gd_s (P := True ∧ True ∧ True) (σ1 := (172, [some (aR 21 k0), some (aI v1)], [aI v1, aR 21 k0], M)) tc_139 rfl 2 (fun u => ⟨_, rfl⟩) ⟨trivial, trivial, trivial⟩ ?_
            refine gd_callN (ml := 4) (as := [aR 21 k0, aI v1]) (rest := []) tc_139 rfl rfl rfl rfl rfl (by omega) (by omega) (Nat.le_of_ble_eq_true rfl) rfl (g_Mo_beginSet (by omega) (by omega) h) (fun r9 M8 h => ?_)
            obtain ⟨x8, rfl, h⟩ := h
            show Gd d w 139 _ (175, [some (aR 21 k0), some (aI v1)], [aI x8], M8)
            refine gd_s (P := True ∧ True ∧ True) (σ1 := (110, [some (aR 21 k0), some (aI x8)], [], M8)) tc_139 rfl 2 (fun u => ⟨_, rfl⟩) ⟨trivial, trivial, trivial⟩ ?_
            exact ih k0 x8 M8 h
        · have h := h.2 hc
          show Gd d w 139 _ (132, [some (aR 21 k0), some (aI v1)], [], M)
          obtain ⟨c0, h⟩ := h
          refine gd_s (P := True ∧ True ∧ True ∧ True ∧ True ∧ True ∧ True ∧ True ∧ True ∧ True ∧ True ∧ (vp_in (((200 : Int32)) + v1) (rK M (k0 + 13)).2) ∧ True ∧ True ∧ True) (σ1 := (154, [some (aR 21 k0), some (aI (rI (wI M k0 39 ((rI M k0 39) - ((1 : Int32)))) (k0 + 13) (((200 : Int32)) + v1).toNatClampNeg))], [aR 21 k0], wI M k0 39 ((rI M k0 39) - ((1 : Int32))))) tc_139 rfl 14 (fun u => ⟨_, rfl⟩) ⟨trivial, trivial, trivial, trivial, trivial, trivial, trivial, trivial, trivial, trivial, trivial, c0, trivial, trivial, trivial⟩ ?_
          refine gd_callN (ml := 2) (as := [aR 21 k0]) (rest := []) tc_139 rfl rfl rfl rfl rfl (by omega) (by omega) (Nat.le_of_ble_eq_true rfl) rfl (g_Mo_nextToken (by omega) (by omega) h) (fun r9 M9 h => ?_)
          obtain ⟨rfl, h⟩ := h
          show Gd d w 139 _ (157, [some (aR 21 k0), some (aI (rI (wI M k0 39 ((rI M k0 39) - ((1 : Int32)))) (k0 + 13) (((200 : Int32)) + v1).toNatClampNeg))], [], M9)
          refine gd_s (P := True ∧ True) (σ1 := (110, [some (aR 21 k0), some (aI (rI (wI M k0 39 ((rI M k0 39) - ((1 : Int32)))) (k0 + 13) (((200 : Int32)) + v1).toNatClampNeg))], [], M9)) tc_139 rfl 1 (fun u => ⟨_, rfl⟩) ⟨trivial, trivial⟩ ?_
          exact ih k0 (rI (wI M k0 39 ((rI M k0 39) - ((1 : Int32)))) (k0 + 13) (((200 : Int32)) + v1).toNatClampNeg) M9 h
def w_Mo_readText_J84 (post : aM → Prop) (k0 : Nat) (M : aM) : Prop := w_Mo_isWord (fun x1 => w_Mo_need (fun M2 => (((rI M2 k0 38) = ((-1 : Int32))) → w_Mo_beginSet (fun x3 M3 => ∃ n9, w_Mo_readText_L110 post n9 k0 x3 M3) k0 ((-1 : Int32)) M2) ∧ (¬ ((rI M2 k0 38) = ((-1 : Int32))) → post M2)) k0 x1 M) k0 19 M
theorem g_Mo_readText_J84 {d w : Nat} (hd : 13 ≤ d) (hw : 362 ≤ w) {post : aM → Prop} (k0 : Nat) (o1 : Option aV) (M : aM) (h : w_Mo_readText_J84 post k0 M) : Gd d w 139 (pV post) (84, [some (aR 21 k0), o1], [], M) := by
  unfold w_Mo_readText_J84 at h
  show Gd d w 139 _ (84, [some (aR 21 k0), o1], [], M)
  refine gd_s (P := True ∧ True ∧ True ∧ True) (σ1 := (89, [some (aR 21 k0), o1], [aR 1 19, aR 21 k0, aR 21 k0], M)) tc_139 rfl 3 (fun u => ⟨_, rfl⟩) ⟨trivial, trivial, trivial, trivial⟩ ?_
  refine gd_callN (ml := 4) (as := [aR 21 k0, aR 1 19]) (rest := [aR 21 k0]) tc_139 rfl rfl rfl rfl rfl (by omega) (by omega) (Nat.le_of_ble_eq_true rfl) rfl (g_Mo_isWord (by omega) (by omega) h) (fun r9 M9 h => ?_)
  obtain ⟨x1, rfl, e9, h⟩ := h
  subst M9
  show Gd d w 139 _ (92, [some (aR 21 k0), o1], [aI x1, aR 21 k0], M)
  refine gd_callN (ml := 2) (as := [aR 21 k0, aI x1]) (rest := []) tc_139 rfl rfl rfl rfl rfl (by omega) (by omega) (Nat.le_of_ble_eq_true rfl) rfl (g_Mo_need (by omega) (by omega) h) (fun r9 M2 h => ?_)
  obtain ⟨rfl, h⟩ := h
  show Gd d w 139 _ (95, [some (aR 21 k0), o1], [], M2)
  refine gd_s (P := True ∧ True ∧ True ∧ True) (σ1 := (100, [some (aR 21 k0), o1], [aI ((-1 : Int32)), aI (rI M2 k0 38)], M2)) tc_139 rfl 3 (fun u => ⟨_, rfl⟩) ⟨trivial, trivial, trivial, trivial⟩ ?_
  refine gd_br (c := (rI M2 k0 38) = ((-1 : Int32))) (st1 := []) tc_139 rfl rfl (fun _ => rfl) ⟨fun hc => ?_, fun hc => ?_⟩
  · have h := h.1 hc
    show Gd d w 139 _ (104, [some (aR 21 k0), o1], [], M2)
    refine gd_s (P := True ∧ True ∧ True) (σ1 := (106, [some (aR 21 k0), o1], [aI ((-1 : Int32)), aR 21 k0], M2)) tc_139 rfl 2 (fun u => ⟨_, rfl⟩) ⟨trivial, trivial, trivial⟩ ?_
    refine gd_callN (ml := 4) (as := [aR 21 k0, aI ((-1 : Int32))]) (rest := []) tc_139 rfl rfl rfl rfl rfl (by omega) (by omega) (Nat.le_of_ble_eq_true rfl) rfl (g_Mo_beginSet (by omega) (by omega) h) (fun r9 M3 h => ?_)
    obtain ⟨x3, rfl, h⟩ := h
    show Gd d w 139 _ (109, [some (aR 21 k0), o1], [aI x3], M3)
    refine gd_s (P := True ∧ True) (σ1 := (110, [some (aR 21 k0), some (aI x3)], [], M3)) tc_139 rfl 1 (fun u => ⟨_, rfl⟩) ⟨trivial, trivial⟩ ?_
    obtain ⟨n9, h⟩ := h
    exact g_Mo_readText_L110 hd hw n9 k0 x3 M3 h
  · have h := h.2 hc
    show Gd d w 139 _ (103, [some (aR 21 k0), o1], [], M2)
    exact gd_ret tc_139 rfl rfl trivial (fun _ => rfl) ⟨rfl, h⟩
def w_Mo_readText_L59 (post : aM → Prop) : Nat → Nat → aM → Prop
  | 0, _, _ => False
  | n + 1, k0, M => ((¬ (rI M k0 38) = ((-1 : Int32))) → w_Mo_readText_J84 post k0 M) ∧ (¬ (¬ (rI M k0 38) = ((-1 : Int32))) → w_Mo_isWord (fun x1 => ((x1 = ((0 : Int32))) → w_Mo_readText_J84 post k0 M) ∧ (¬ (x1 = ((0 : Int32))) → w_Mo_readAttribute (fun M2 => w_Mo_readText_L59 post n k0 M2) k0 M)) k0 15 M)
theorem g_Mo_readText_L59 {d w : Nat} (hd : 13 ≤ d) (hw : 362 ≤ w) {post : aM → Prop} : ∀ (n : Nat) (k0 : Nat) (o1 : Option aV) (M : aM), w_Mo_readText_L59 post n k0 M → Gd d w 139 (pV post) (59, [some (aR 21 k0), o1], [], M) := by
  intro n
  induction n with
  | zero => intro k0 o1 M h; exact h.elim
  | succ n ih =>
    intro k0 o1 M h
    show Gd d w 139 _ (59, [some (aR 21 k0), o1], [], M)
    refine gd_s (P := True ∧ True ∧ True ∧ True) (σ1 := (64, [some (aR 21 k0), o1], [aI ((-1 : Int32)), aI (rI M k0 38)], M)) tc_139 rfl 3 (fun u => ⟨_, rfl⟩) ⟨trivial, trivial, trivial, trivial⟩ ?_
    refine gd_br (c := ¬ (rI M k0 38) = ((-1 : Int32))) (st1 := []) tc_139 rfl rfl (fun _ => rfl) ⟨fun hc => ?_, fun hc => ?_⟩
    · have h := h.1 hc
      exact g_Mo_readText_J84 hd hw k0 o1 M h
    · have h := h.2 hc
      show Gd d w 139 _ (67, [some (aR 21 k0), o1], [], M)
      refine gd_s (P := True ∧ True ∧ True) (σ1 := (71, [some (aR 21 k0), o1], [aR 1 15, aR 21 k0], M)) tc_139 rfl 2 (fun u => ⟨_, rfl⟩) ⟨trivial, trivial, trivial⟩ ?_
      refine gd_callN (ml := 4) (as := [aR 21 k0, aR 1 15]) (rest := []) tc_139 rfl rfl rfl rfl rfl (by omega) (by omega) (Nat.le_of_ble_eq_true rfl) rfl (g_Mo_isWord (by omega) (by omega) h) (fun r9 M9 h => ?_)
      obtain ⟨x1, rfl, e9, h⟩ := h
      subst M9
      show Gd d w 139 _ (74, [some (aR 21 k0), o1], [aI x1], M)
      refine gd_br (c := x1 = ((0 : Int32))) (st1 := []) tc_139 rfl rfl (fun _ => rfl) ⟨fun hc => ?_, fun hc => ?_⟩
      · have h := h.1 hc
        exact g_Mo_readText_J84 hd hw k0 o1 M h
      · have h := h.2 hc
        show Gd d w 139 _ (77, [some (aR 21 k0), o1], [], M)
        refine gd_s (P := True ∧ True) (σ1 := (78, [some (aR 21 k0), o1], [aR 21 k0], M)) tc_139 rfl 1 (fun u => ⟨_, rfl⟩) ⟨trivial, trivial⟩ ?_
        refine gd_callN (ml := 3) (as := [aR 21 k0]) (rest := []) tc_139 rfl rfl rfl rfl rfl (by omega) (by omega) (Nat.le_of_ble_eq_true rfl) rfl (g_Mo_readAttribute (by omega) (by omega) h) (fun r9 M2 h => ?_)
        obtain ⟨rfl, h⟩ := h
        show Gd d w 139 _ (81, [some (aR 21 k0), o1], [], M2)
        refine gd_s (P := True ∧ True) (σ1 := (59, [some (aR 21 k0), o1], [], M2)) tc_139 rfl 1 (fun u => ⟨_, rfl⟩) ⟨trivial, trivial⟩ ?_
        exact ih k0 o1 M2 h
def w_Mo_readText_J55 (post : aM → Prop) (k0 : Nat) (M : aM) : Prop := w_Mo_nextToken (fun M1 => ∃ n9, w_Mo_readText_L59 post n9 k0 M1) k0 M
theorem g_Mo_readText_J55 {d w : Nat} (hd : 13 ≤ d) (hw : 362 ≤ w) {post : aM → Prop} (k0 : Nat) (o1 : Option aV) (M : aM) (h : w_Mo_readText_J55 post k0 M) : Gd d w 139 (pV post) (55, [some (aR 21 k0), o1], [], M) := by
  unfold w_Mo_readText_J55 at h
  show Gd d w 139 _ (55, [some (aR 21 k0), o1], [], M)
  refine gd_s (P := True ∧ True) (σ1 := (56, [some (aR 21 k0), o1], [aR 21 k0], M)) tc_139 rfl 1 (fun u => ⟨_, rfl⟩) ⟨trivial, trivial⟩ ?_
  refine gd_callN (ml := 2) (as := [aR 21 k0]) (rest := []) tc_139 rfl rfl rfl rfl rfl (by omega) (by omega) (Nat.le_of_ble_eq_true rfl) rfl (g_Mo_nextToken (by omega) (by omega) h) (fun r9 M1 h => ?_)
  obtain ⟨rfl, h⟩ := h
  obtain ⟨n9, h⟩ := h
  exact g_Mo_readText_L59 hd hw n9 k0 o1 M1 h
def w_Mo_readText_J50 (post : aM → Prop) (k0 : Nat) (M : aM) : Prop := w_Mo_readText_J55 post k0 (wI M k0 32 ((0 : Int32)))
theorem g_Mo_readText_J50 {d w : Nat} (hd : 13 ≤ d) (hw : 362 ≤ w) {post : aM → Prop} (k0 : Nat) (o1 : Option aV) (M : aM) (h : w_Mo_readText_J50 post k0 M) : Gd d w 139 (pV post) (50, [some (aR 21 k0), o1], [], M) := by
  unfold w_Mo_readText_J50 at h
  show Gd d w 139 _ (50, [some (aR 21 k0), o1], [], M)
  refine gd_s (P := True ∧ True ∧ True ∧ True) (σ1 := (55, [some (aR 21 k0), o1], [], wI M k0 32 ((0 : Int32)))) tc_139 rfl 3 (fun u => ⟨_, rfl⟩) ⟨trivial, trivial, trivial, trivial⟩ ?_
  exact g_Mo_readText_J55 hd hw k0 o1 (wI M k0 32 ((0 : Int32))) h
def w_Mo_readText_J45 (post : aM → Prop) (k0 : Nat) (M : aM) : Prop := w_Mo_readText_J50 post k0 (wI M k0 38 ((-1 : Int32)))
theorem g_Mo_readText_J45 {d w : Nat} (hd : 13 ≤ d) (hw : 362 ≤ w) {post : aM → Prop} (k0 : Nat) (o1 : Option aV) (M : aM) (h : w_Mo_readText_J45 post k0 M) : Gd d w 139 (pV post) (45, [some (aR 21 k0), o1], [], M) := by
  unfold w_Mo_readText_J45 at h
  show Gd d w 139 _ (45, [some (aR 21 k0), o1], [], M)
  refine gd_s (P := True ∧ True ∧ True ∧ True) (σ1 := (50, [some (aR 21 k0), o1], [], wI M k0 38 ((-1 : Int32)))) tc_139 rfl 3 (fun u => ⟨_, rfl⟩) ⟨trivial, trivial, trivial, trivial⟩ ?_
  exact g_Mo_readText_J50 hd hw k0 o1 (wI M k0 38 ((-1 : Int32))) h
def w_Mo_readText_J40 (post : aM → Prop) (k0 : Nat) (M : aM) : Prop := w_Mo_readText_J45 post k0 (wI M k0 33 ((0 : Int32)))
theorem g_Mo_readText_J40 {d w : Nat} (hd : 13 ≤ d) (hw : 362 ≤ w) {post : aM → Prop} (k0 : Nat) (o1 : Option aV) (M : aM) (h : w_Mo_readText_J40 post k0 M) : Gd d w 139 (pV post) (40, [some (aR 21 k0), o1], [], M) := by
  unfold w_Mo_readText_J40 at h
  show Gd d w 139 _ (40, [some (aR 21 k0), o1], [], M)
  refine gd_s (P := True ∧ True ∧ True ∧ True) (σ1 := (45, [some (aR 21 k0), o1], [], wI M k0 33 ((0 : Int32)))) tc_139 rfl 3 (fun u => ⟨_, rfl⟩) ⟨trivial, trivial, trivial, trivial⟩ ?_
  exact g_Mo_readText_J45 hd hw k0 o1 (wI M k0 33 ((0 : Int32))) h
def w_Mo_readText_J35 (post : aM → Prop) (k0 : Nat) (M : aM) : Prop := w_Mo_readText_J40 post k0 (wI M k0 39 ((0 : Int32)))
theorem g_Mo_readText_J35 {d w : Nat} (hd : 13 ≤ d) (hw : 362 ≤ w) {post : aM → Prop} (k0 : Nat) (o1 : Option aV) (M : aM) (h : w_Mo_readText_J35 post k0 M) : Gd d w 139 (pV post) (35, [some (aR 21 k0), o1], [], M) := by
  unfold w_Mo_readText_J35 at h
  show Gd d w 139 _ (35, [some (aR 21 k0), o1], [], M)
  refine gd_s (P := True ∧ True ∧ True ∧ True) (σ1 := (40, [some (aR 21 k0), o1], [], wI M k0 39 ((0 : Int32)))) tc_139 rfl 3 (fun u => ⟨_, rfl⟩) ⟨trivial, trivial, trivial, trivial⟩ ?_
  exact g_Mo_readText_J40 hd hw k0 o1 (wI M k0 39 ((0 : Int32))) h
def w_Mo_readText_J28 (post : aM → Prop) (k0 : Nat) (M : aM) : Prop := (vp_in ((2 : Int32)) (rK M (k0 + 24)).2) ∧ (w_Mo_readText_J35 post k0 (wI M (k0 + 24) ((2 : Int32)).toNatClampNeg ((0 : Int32))))
theorem g_Mo_readText_J28 {d w : Nat} (hd : 13 ≤ d) (hw : 362 ≤ w) {post : aM → Prop} (k0 : Nat) (o1 : Option aV) (M : aM) (h : w_Mo_readText_J28 post k0 M) : Gd d w 139 (pV post) (28, [some (aR 21 k0), o1], [], M) := by
  unfold w_Mo_readText_J28 at h
  show Gd d w 139 _ (28, [some (aR 21 k0), o1], [], M)
  obtain ⟨c0, h⟩ := h
  refine gd_s (P := True ∧ True ∧ True ∧ True ∧ (vp_in ((2 : Int32)) (rK M (k0 + 24)).2) ∧ True) (σ1 := (35, [some (aR 21 k0), o1], [], wI M (k0 + 24) ((2 : Int32)).toNatClampNeg ((0 : Int32)))) tc_139 rfl 5 (fun u => ⟨_, rfl⟩) ⟨trivial, trivial, trivial, trivial, c0, trivial⟩ ?_
  exact g_Mo_readText_J35 hd hw k0 o1 (wI M (k0 + 24) ((2 : Int32)).toNatClampNeg ((0 : Int32))) h
def w_Mo_readText_J21 (post : aM → Prop) (k0 : Nat) (M : aM) : Prop := (vp_in ((2 : Int32)) (rK M (k0 + 23)).2) ∧ (w_Mo_readText_J28 post k0 (wI M (k0 + 23) ((2 : Int32)).toNatClampNeg ((0 : Int32))))
theorem g_Mo_readText_J21 {d w : Nat} (hd : 13 ≤ d) (hw : 362 ≤ w) {post : aM → Prop} (k0 : Nat) (o1 : Option aV) (M : aM) (h : w_Mo_readText_J21 post k0 M) : Gd d w 139 (pV post) (21, [some (aR 21 k0), o1], [], M) := by
  unfold w_Mo_readText_J21 at h
  show Gd d w 139 _ (21, [some (aR 21 k0), o1], [], M)
  obtain ⟨c0, h⟩ := h
  refine gd_s (P := True ∧ True ∧ True ∧ True ∧ (vp_in ((2 : Int32)) (rK M (k0 + 23)).2) ∧ True) (σ1 := (28, [some (aR 21 k0), o1], [], wI M (k0 + 23) ((2 : Int32)).toNatClampNeg ((0 : Int32)))) tc_139 rfl 5 (fun u => ⟨_, rfl⟩) ⟨trivial, trivial, trivial, trivial, c0, trivial⟩ ?_
  exact g_Mo_readText_J28 hd hw k0 o1 (wI M (k0 + 23) ((2 : Int32)).toNatClampNeg ((0 : Int32))) h
def w_Mo_readText_J14 (post : aM → Prop) (k0 : Nat) (M : aM) : Prop := (vp_in ((2 : Int32)) (rK M (k0 + 15)).2) ∧ (w_Mo_readText_J21 post k0 (wI M (k0 + 15) ((2 : Int32)).toNatClampNeg ((0 : Int32))))
theorem g_Mo_readText_J14 {d w : Nat} (hd : 13 ≤ d) (hw : 362 ≤ w) {post : aM → Prop} (k0 : Nat) (o1 : Option aV) (M : aM) (h : w_Mo_readText_J14 post k0 M) : Gd d w 139 (pV post) (14, [some (aR 21 k0), o1], [], M) := by
  unfold w_Mo_readText_J14 at h
  show Gd d w 139 _ (14, [some (aR 21 k0), o1], [], M)
  obtain ⟨c0, h⟩ := h
  refine gd_s (P := True ∧ True ∧ True ∧ True ∧ (vp_in ((2 : Int32)) (rK M (k0 + 15)).2) ∧ True) (σ1 := (21, [some (aR 21 k0), o1], [], wI M (k0 + 15) ((2 : Int32)).toNatClampNeg ((0 : Int32)))) tc_139 rfl 5 (fun u => ⟨_, rfl⟩) ⟨trivial, trivial, trivial, trivial, c0, trivial⟩ ?_
  exact g_Mo_readText_J21 hd hw k0 o1 (wI M (k0 + 15) ((2 : Int32)).toNatClampNeg ((0 : Int32))) h
def w_Mo_readText_J7 (post : aM → Prop) (k0 : Nat) (M : aM) : Prop := (vp_in ((2 : Int32)) (rK M (k0 + 10)).2) ∧ (w_Mo_readText_J14 post k0 (wI M (k0 + 10) ((2 : Int32)).toNatClampNeg ((0 : Int32))))
theorem g_Mo_readText_J7 {d w : Nat} (hd : 13 ≤ d) (hw : 362 ≤ w) {post : aM → Prop} (k0 : Nat) (o1 : Option aV) (M : aM) (h : w_Mo_readText_J7 post k0 M) : Gd d w 139 (pV post) (7, [some (aR 21 k0), o1], [], M) := by
  unfold w_Mo_readText_J7 at h
  show Gd d w 139 _ (7, [some (aR 21 k0), o1], [], M)
  obtain ⟨c0, h⟩ := h
  refine gd_s (P := True ∧ True ∧ True ∧ True ∧ (vp_in ((2 : Int32)) (rK M (k0 + 10)).2) ∧ True) (σ1 := (14, [some (aR 21 k0), o1], [], wI M (k0 + 10) ((2 : Int32)).toNatClampNeg ((0 : Int32)))) tc_139 rfl 5 (fun u => ⟨_, rfl⟩) ⟨trivial, trivial, trivial, trivial, c0, trivial⟩ ?_
  exact g_Mo_readText_J14 hd hw k0 o1 (wI M (k0 + 10) ((2 : Int32)).toNatClampNeg ((0 : Int32))) h
/-- PolicyJudgeModel.readText()V -/
def w_Mo_readText (post : aM → Prop) (k0 : Nat) (M : aM) : Prop := (vp_in ((2 : Int32)) (rK M (k0 + 3)).2) ∧ (w_Mo_readText_J7 post k0 (wI M (k0 + 3) ((2 : Int32)).toNatClampNeg ((0 : Int32))))
theorem g_Mo_readText {d w : Nat} (hd : 13 ≤ d) (hw : 362 ≤ w) {post : aM → Prop} {k0 : Nat} {M : aM} (h : w_Mo_readText post k0 M) : Gd d w 139 (pV post) (0, aEnt 139 [aR 21 k0], [], M) := by
  unfold w_Mo_readText at h
  show Gd d w 139 _ (0, [some (aR 21 k0), none], [], M)
  obtain ⟨c0, h⟩ := h
  refine gd_s (P := True ∧ True ∧ True ∧ True ∧ (vp_in ((2 : Int32)) (rK M (k0 + 3)).2) ∧ True) (σ1 := (7, [some (aR 21 k0), none], [], wI M (k0 + 3) ((2 : Int32)).toNatClampNeg ((0 : Int32)))) tc_139 rfl 5 (fun u => ⟨_, rfl⟩) ⟨trivial, trivial, trivial, trivial, c0, trivial⟩ ?_
  exact g_Mo_readText_J7 hd hw k0 none (wI M (k0 + 3) ((2 : Int32)).toNatClampNeg ((0 : Int32))) h
theorem tc_176 : tC 176 = c176 := rfl
def w_Mo_copy_J542 (post : aM → Prop) (K381 : Nat → Int32 → Int32 → aM → Prop) (k0 : Nat) (v1 : Int32) (v2 : Int32) (M : aM) : Prop := K381 k0 v1 (v2 + (1 : Int32)) M
theorem g_Mo_copy_J542 {d w : Nat} (hd : 0 ≤ d) (hw : 0 ≤ w) {post : aM → Prop} {K381 : Nat → Int32 → Int32 → aM → Prop} (hK381 : ∀ (k0 : Nat) (v1 : Int32) (v2 : Int32) (M : aM), K381 k0 v1 v2 M → Gd d w 176 (pV post) (381, [some (aR 21 k0), some (aI v1), some (aI v2)], [], M)) (k0 : Nat) (v1 : Int32) (v2 : Int32) (M : aM) (h : w_Mo_copy_J542 post K381 k0 v1 v2 M) : Gd d w 176 (pV post) (542, [some (aR 21 k0), some (aI v1), some (aI v2)], [], M) := by
  unfold w_Mo_copy_J542 at h
  show Gd d w 176 _ (542, [some (aR 21 k0), some (aI v1), some (aI v2)], [], M)
  refine gd_s (P := True ∧ True ∧ True) (σ1 := (381, [some (aR 21 k0), some (aI v1), some (aI (v2 + (1 : Int32)))], [], M)) tc_176 rfl 2 (fun u => ⟨_, rfl⟩) ⟨trivial, trivial, trivial⟩ ?_
  exact hK381 k0 v1 (v2 + (1 : Int32)) M h
def w_Mo_copy_J520 (post : aM → Prop) (K381 : Nat → Int32 → Int32 → aM → Prop) (k0 : Nat) (v1 : Int32) (v2 : Int32) (M : aM) : Prop := (vp_in (((800 : Int32)) + v2) (rK M (k0 + 22)).2) ∧ (vp_in ((((400 : Int32)) * v1) + v2) (rK M (k0 + 22)).2) ∧ (w_Mo_copy_J542 post K381 k0 v1 v2 (wI M (k0 + 22) ((((400 : Int32)) * v1) + v2).toNatClampNeg (rI M (k0 + 22) (((800 : Int32)) + v2).toNatClampNeg)))
theorem g_Mo_copy_J520 {d w : Nat} (hd : 0 ≤ d) (hw : 0 ≤ w) {post : aM → Prop} {K381 : Nat → Int32 → Int32 → aM → Prop} (hK381 : ∀ (k0 : Nat) (v1 : Int32) (v2 : Int32) (M : aM), K381 k0 v1 v2 M → Gd d w 176 (pV post) (381, [some (aR 21 k0), some (aI v1), some (aI v2)], [], M)) (k0 : Nat) (v1 : Int32) (v2 : Int32) (M : aM) (h : w_Mo_copy_J520 post K381 k0 v1 v2 M) : Gd d w 176 (pV post) (520, [some (aR 21 k0), some (aI v1), some (aI v2)], [], M) := by
  unfold w_Mo_copy_J520 at h
  show Gd d w 176 _ (520, [some (aR 21 k0), some (aI v1), some (aI v2)], [], M)
  obtain ⟨c0, c1, h⟩ := h
  refine gd_s (P := True ∧ True ∧ True ∧ True ∧ True ∧ True ∧ True ∧ True ∧ True ∧ True ∧ True ∧ True ∧ (vp_in (((800 : Int32)) + v2) (rK M (k0 + 22)).2) ∧ (vp_in ((((400 : Int32)) * v1) + v2) (rK M (k0 + 22)).2) ∧ True) (σ1 := (542, [some (aR 21 k0), some (aI v1), some (aI v2)], [], wI M (k0 + 22) ((((400 : Int32)) * v1) + v2).toNatClampNeg (rI M (k0 + 22) (((800 : Int32)) + v2).toNatClampNeg))) tc_176 rfl 14 (fun u => ⟨_, rfl⟩) ⟨trivial, trivial, trivial, trivial, trivial, trivial, trivial, trivial, trivial, trivial, trivial, trivial, c0, c1, trivial⟩ ?_
  exact g_Mo_copy_J542 hd hw hK381 k0 v1 v2 (wI M (k0 + 22) ((((400 : Int32)) * v1) + v2).toNatClampNeg (rI M (k0 + 22) (((800 : Int32)) + v2).toNatClampNeg)) h
def w_Mo_copy_J498 (post : aM → Prop) (K381 : Nat → Int32 → Int32 → aM → Prop) (k0 : Nat) (v1 : Int32) (v2 : Int32) (M : aM) : Prop := (vp_in (((800 : Int32)) + v2) (rK M (k0 + 21)).2) ∧ (vp_in ((((400 : Int32)) * v1) + v2) (rK M (k0 + 21)).2) ∧ (w_Mo_copy_J520 post K381 k0 v1 v2 (wI M (k0 + 21) ((((400 : Int32)) * v1) + v2).toNatClampNeg (rI M (k0 + 21) (((800 : Int32)) + v2).toNatClampNeg)))
theorem g_Mo_copy_J498 {d w : Nat} (hd : 0 ≤ d) (hw : 0 ≤ w) {post : aM → Prop} {K381 : Nat → Int32 → Int32 → aM → Prop} (hK381 : ∀ (k0 : Nat) (v1 : Int32) (v2 : Int32) (M : aM), K381 k0 v1 v2 M → Gd d w 176 (pV post) (381, [some (aR 21 k0), some (aI v1), some (aI v2)], [], M)) (k0 : Nat) (v1 : Int32) (v2 : Int32) (M : aM) (h : w_Mo_copy_J498 post K381 k0 v1 v2 M) : Gd d w 176 (pV post) (498, [some (aR 21 k0), some (aI v1), some (aI v2)], [], M) := by
  unfold w_Mo_copy_J498 at h
  show Gd d w 176 _ (498, [some (aR 21 k0), some (aI v1), some (aI v2)], [], M)
  obtain ⟨c0, c1, h⟩ := h
  refine gd_s (P := True ∧ True ∧ True ∧ True ∧ True ∧ True ∧ True ∧ True ∧ True ∧ True ∧ True ∧ True ∧ (vp_in (((800 : Int32)) + v2) (rK M (k0 + 21)).2) ∧ (vp_in ((((400 : Int32)) * v1) + v2) (rK M (k0 + 21)).2) ∧ True) (σ1 := (520, [some (aR 21 k0), some (aI v1), some (aI v2)], [], wI M (k0 + 21) ((((400 : Int32)) * v1) + v2).toNatClampNeg (rI M (k0 + 21) (((800 : Int32)) + v2).toNatClampNeg))) tc_176 rfl 14 (fun u => ⟨_, rfl⟩) ⟨trivial, trivial, trivial, trivial, trivial, trivial, trivial, trivial, trivial, trivial, trivial, trivial, c0, c1, trivial⟩ ?_
  exact g_Mo_copy_J520 hd hw hK381 k0 v1 v2 (wI M (k0 + 21) ((((400 : Int32)) * v1) + v2).toNatClampNeg (rI M (k0 + 21) (((800 : Int32)) + v2).toNatClampNeg)) h
def w_Mo_copy_J476 (post : aM → Prop) (K381 : Nat → Int32 → Int32 → aM → Prop) (k0 : Nat) (v1 : Int32) (v2 : Int32) (M : aM) : Prop := (vp_in (((800 : Int32)) + v2) (rK M (k0 + 20)).2) ∧ (vp_in ((((400 : Int32)) * v1) + v2) (rK M (k0 + 20)).2) ∧ (w_Mo_copy_J498 post K381 k0 v1 v2 (wI M (k0 + 20) ((((400 : Int32)) * v1) + v2).toNatClampNeg (rI M (k0 + 20) (((800 : Int32)) + v2).toNatClampNeg)))
theorem g_Mo_copy_J476 {d w : Nat} (hd : 0 ≤ d) (hw : 0 ≤ w) {post : aM → Prop} {K381 : Nat → Int32 → Int32 → aM → Prop} (hK381 : ∀ (k0 : Nat) (v1 : Int32) (v2 : Int32) (M : aM), K381 k0 v1 v2 M → Gd d w 176 (pV post) (381, [some (aR 21 k0), some (aI v1), some (aI v2)], [], M)) (k0 : Nat) (v1 : Int32) (v2 : Int32) (M : aM) (h : w_Mo_copy_J476 post K381 k0 v1 v2 M) : Gd d w 176 (pV post) (476, [some (aR 21 k0), some (aI v1), some (aI v2)], [], M) := by
  unfold w_Mo_copy_J476 at h
  show Gd d w 176 _ (476, [some (aR 21 k0), some (aI v1), some (aI v2)], [], M)
  obtain ⟨c0, c1, h⟩ := h
  refine gd_s (P := True ∧ True ∧ True ∧ True ∧ True ∧ True ∧ True ∧ True ∧ True ∧ True ∧ True ∧ True ∧ (vp_in (((800 : Int32)) + v2) (rK M (k0 + 20)).2) ∧ (vp_in ((((400 : Int32)) * v1) + v2) (rK M (k0 + 20)).2) ∧ True) (σ1 := (498, [some (aR 21 k0), some (aI v1), some (aI v2)], [], wI M (k0 + 20) ((((400 : Int32)) * v1) + v2).toNatClampNeg (rI M (k0 + 20) (((800 : Int32)) + v2).toNatClampNeg))) tc_176 rfl 14 (fun u => ⟨_, rfl⟩) ⟨trivial, trivial, trivial, trivial, trivial, trivial, trivial, trivial, trivial, trivial, trivial, trivial, c0, c1, trivial⟩ ?_
  exact g_Mo_copy_J498 hd hw hK381 k0 v1 v2 (wI M (k0 + 20) ((((400 : Int32)) * v1) + v2).toNatClampNeg (rI M (k0 + 20) (((800 : Int32)) + v2).toNatClampNeg)) h
def w_Mo_copy_J454 (post : aM → Prop) (K381 : Nat → Int32 → Int32 → aM → Prop) (k0 : Nat) (v1 : Int32) (v2 : Int32) (M : aM) : Prop := (vp_in (((800 : Int32)) + v2) (rK M (k0 + 19)).2) ∧ (vp_in ((((400 : Int32)) * v1) + v2) (rK M (k0 + 19)).2) ∧ (w_Mo_copy_J476 post K381 k0 v1 v2 (wI M (k0 + 19) ((((400 : Int32)) * v1) + v2).toNatClampNeg (rI M (k0 + 19) (((800 : Int32)) + v2).toNatClampNeg)))
theorem g_Mo_copy_J454 {d w : Nat} (hd : 0 ≤ d) (hw : 0 ≤ w) {post : aM → Prop} {K381 : Nat → Int32 → Int32 → aM → Prop} (hK381 : ∀ (k0 : Nat) (v1 : Int32) (v2 : Int32) (M : aM), K381 k0 v1 v2 M → Gd d w 176 (pV post) (381, [some (aR 21 k0), some (aI v1), some (aI v2)], [], M)) (k0 : Nat) (v1 : Int32) (v2 : Int32) (M : aM) (h : w_Mo_copy_J454 post K381 k0 v1 v2 M) : Gd d w 176 (pV post) (454, [some (aR 21 k0), some (aI v1), some (aI v2)], [], M) := by
  unfold w_Mo_copy_J454 at h
  show Gd d w 176 _ (454, [some (aR 21 k0), some (aI v1), some (aI v2)], [], M)
  obtain ⟨c0, c1, h⟩ := h
  refine gd_s (P := True ∧ True ∧ True ∧ True ∧ True ∧ True ∧ True ∧ True ∧ True ∧ True ∧ True ∧ True ∧ (vp_in (((800 : Int32)) + v2) (rK M (k0 + 19)).2) ∧ (vp_in ((((400 : Int32)) * v1) + v2) (rK M (k0 + 19)).2) ∧ True) (σ1 := (476, [some (aR 21 k0), some (aI v1), some (aI v2)], [], wI M (k0 + 19) ((((400 : Int32)) * v1) + v2).toNatClampNeg (rI M (k0 + 19) (((800 : Int32)) + v2).toNatClampNeg))) tc_176 rfl 14 (fun u => ⟨_, rfl⟩) ⟨trivial, trivial, trivial, trivial, trivial, trivial, trivial, trivial, trivial, trivial, trivial, trivial, c0, c1, trivial⟩ ?_
  exact g_Mo_copy_J476 hd hw hK381 k0 v1 v2 (wI M (k0 + 19) ((((400 : Int32)) * v1) + v2).toNatClampNeg (rI M (k0 + 19) (((800 : Int32)) + v2).toNatClampNeg)) h
def w_Mo_copy_J432 (post : aM → Prop) (K381 : Nat → Int32 → Int32 → aM → Prop) (k0 : Nat) (v1 : Int32) (v2 : Int32) (M : aM) : Prop := (vp_in (((800 : Int32)) + v2) (rK M (k0 + 18)).2) ∧ (vp_in ((((400 : Int32)) * v1) + v2) (rK M (k0 + 18)).2) ∧ (w_Mo_copy_J454 post K381 k0 v1 v2 (wI M (k0 + 18) ((((400 : Int32)) * v1) + v2).toNatClampNeg (rI M (k0 + 18) (((800 : Int32)) + v2).toNatClampNeg)))
theorem g_Mo_copy_J432 {d w : Nat} (hd : 0 ≤ d) (hw : 0 ≤ w) {post : aM → Prop} {K381 : Nat → Int32 → Int32 → aM → Prop} (hK381 : ∀ (k0 : Nat) (v1 : Int32) (v2 : Int32) (M : aM), K381 k0 v1 v2 M → Gd d w 176 (pV post) (381, [some (aR 21 k0), some (aI v1), some (aI v2)], [], M)) (k0 : Nat) (v1 : Int32) (v2 : Int32) (M : aM) (h : w_Mo_copy_J432 post K381 k0 v1 v2 M) : Gd d w 176 (pV post) (432, [some (aR 21 k0), some (aI v1), some (aI v2)], [], M) := by
  unfold w_Mo_copy_J432 at h
  show Gd d w 176 _ (432, [some (aR 21 k0), some (aI v1), some (aI v2)], [], M)
  obtain ⟨c0, c1, h⟩ := h
  refine gd_s (P := True ∧ True ∧ True ∧ True ∧ True ∧ True ∧ True ∧ True ∧ True ∧ True ∧ True ∧ True ∧ (vp_in (((800 : Int32)) + v2) (rK M (k0 + 18)).2) ∧ (vp_in ((((400 : Int32)) * v1) + v2) (rK M (k0 + 18)).2) ∧ True) (σ1 := (454, [some (aR 21 k0), some (aI v1), some (aI v2)], [], wI M (k0 + 18) ((((400 : Int32)) * v1) + v2).toNatClampNeg (rI M (k0 + 18) (((800 : Int32)) + v2).toNatClampNeg))) tc_176 rfl 14 (fun u => ⟨_, rfl⟩) ⟨trivial, trivial, trivial, trivial, trivial, trivial, trivial, trivial, trivial, trivial, trivial, trivial, c0, c1, trivial⟩ ?_
  exact g_Mo_copy_J454 hd hw hK381 k0 v1 v2 (wI M (k0 + 18) ((((400 : Int32)) * v1) + v2).toNatClampNeg (rI M (k0 + 18) (((800 : Int32)) + v2).toNatClampNeg)) h
def w_Mo_copy_J410 (post : aM → Prop) (K381 : Nat → Int32 → Int32 → aM → Prop) (k0 : Nat) (v1 : Int32) (v2 : Int32) (M : aM) : Prop := (vp_in (((800 : Int32)) + v2) (rK M (k0 + 17)).2) ∧ (vp_in ((((400 : Int32)) * v1) + v2) (rK M (k0 + 17)).2) ∧ (w_Mo_copy_J432 post K381 k0 v1 v2 (wI M (k0 + 17) ((((400 : Int32)) * v1) + v2).toNatClampNeg (rI M (k0 + 17) (((800 : Int32)) + v2).toNatClampNeg)))
theorem g_Mo_copy_J410 {d w : Nat} (hd : 0 ≤ d) (hw : 0 ≤ w) {post : aM → Prop} {K381 : Nat → Int32 → Int32 → aM → Prop} (hK381 : ∀ (k0 : Nat) (v1 : Int32) (v2 : Int32) (M : aM), K381 k0 v1 v2 M → Gd d w 176 (pV post) (381, [some (aR 21 k0), some (aI v1), some (aI v2)], [], M)) (k0 : Nat) (v1 : Int32) (v2 : Int32) (M : aM) (h : w_Mo_copy_J410 post K381 k0 v1 v2 M) : Gd d w 176 (pV post) (410, [some (aR 21 k0), some (aI v1), some (aI v2)], [], M) := by
  unfold w_Mo_copy_J410 at h
  show Gd d w 176 _ (410, [some (aR 21 k0), some (aI v1), some (aI v2)], [], M)
  obtain ⟨c0, c1, h⟩ := h
  refine gd_s (P := True ∧ True ∧ True ∧ True ∧ True ∧ True ∧ True ∧ True ∧ True ∧ True ∧ True ∧ True ∧ (vp_in (((800 : Int32)) + v2) (rK M (k0 + 17)).2) ∧ (vp_in ((((400 : Int32)) * v1) + v2) (rK M (k0 + 17)).2) ∧ True) (σ1 := (432, [some (aR 21 k0), some (aI v1), some (aI v2)], [], wI M (k0 + 17) ((((400 : Int32)) * v1) + v2).toNatClampNeg (rI M (k0 + 17) (((800 : Int32)) + v2).toNatClampNeg))) tc_176 rfl 14 (fun u => ⟨_, rfl⟩) ⟨trivial, trivial, trivial, trivial, trivial, trivial, trivial, trivial, trivial, trivial, trivial, trivial, c0, c1, trivial⟩ ?_
  exact g_Mo_copy_J432 hd hw hK381 k0 v1 v2 (wI M (k0 + 17) ((((400 : Int32)) * v1) + v2).toNatClampNeg (rI M (k0 + 17) (((800 : Int32)) + v2).toNatClampNeg)) h
def w_Mo_copy_L381 (post : aM → Prop) : Nat → Nat → Int32 → Int32 → aM → Prop
  | 0, _, _, _, _ => False
  | n + 1, k0, v1, v2, M => ((((400 : Int32)) ≤ v2) → post M) ∧ (¬ (((400 : Int32)) ≤ v2) → (vp_in (((800 : Int32)) + v2) (rK M (k0 + 16)).2) ∧ (vp_in ((((400 : Int32)) * v1) + v2) (rK M (k0 + 16)).2) ∧ (w_Mo_copy_J410 post (w_Mo_copy_L381 post n) k0 v1 v2 (wI M (k0 + 16) ((((400 : Int32)) * v1) + v2).toNatClampNeg (rI M (k0 + 16) (((800 : Int32)) + v2).toNatClampNeg))))
theorem g_Mo_copy_L381 {d w : Nat} (hd : 0 ≤ d) (hw : 0 ≤ w) {post : aM → Prop} : ∀ (n : Nat) (k0 : Nat) (v1 : Int32) (v2 : Int32) (M : aM), w_Mo_copy_L381 post n k0 v1 v2 M → Gd d w 176 (pV post) (381, [some (aR 21 k0), some (aI v1), some (aI v2)], [], M) := by
  intro n
  induction n with
  | zero => intro k0 v1 v2 M h; exact h.elim
  | succ n ih =>
    intro k0 v1 v2 M h
    show Gd d w 176 _ (381, [some (aR 21 k0), some (aI v1), some (aI v2)], [], M)
    refine gd_s (P := True ∧ True ∧ True) (σ1 := (385, [some (aR 21 k0), some (aI v1), some (aI v2)], [aI ((400 : Int32)), aI v2], M)) tc_176 rfl 2 (fun u => ⟨_, rfl⟩) ⟨trivial, trivial, trivial⟩ ?_
    refine gd_br (c := ((400 : Int32)) ≤ v2) (st1 := []) tc_176 rfl rfl (fun _ => rfl) ⟨fun hc => ?_, fun hc => ?_⟩
    · have h := h.1 hc
      show Gd d w 176 _ (548, [some (aR 21 k0), some (aI v1), some (aI v2)], [], M)
      exact gd_ret tc_176 rfl rfl trivial (fun _ => rfl) ⟨rfl, h⟩
    · have h := h.2 hc
      show Gd d w 176 _ (388, [some (aR 21 k0), some (aI v1), some (aI v2)], [], M)
      obtain ⟨c0, c1, h⟩ := h
      refine gd_s (P := True ∧ True ∧ True ∧ True ∧ True ∧ True ∧ True ∧ True ∧ True ∧ True ∧ True ∧ True ∧ (vp_in (((800 : Int32)) + v2) (rK M (k0 + 16)).2) ∧ (vp_in ((((400 : Int32)) * v1) + v2) (rK M (k0 + 16)).2) ∧ True) (σ1 := (410, [some (aR 21 k0), some (aI v1), some (aI v2)], [], wI M (k0 + 16) ((((400 : Int32)) * v1) + v2).toNatClampNeg (rI M (k0 + 16) (((800 : Int32)) + v2).toNatClampNeg))) tc_176 rfl 14 (fun u => ⟨_, rfl⟩) ⟨trivial, trivial, trivial, trivial, trivial, trivial, trivial, trivial, trivial, trivial, trivial, trivial, c0, c1, trivial⟩ ?_
      exact g_Mo_copy_J410 hd hw ih k0 v1 v2 (wI M (k0 + 16) ((((400 : Int32)) * v1) + v2).toNatClampNeg (rI M (k0 + 16) (((800 : Int32)) + v2).toNatClampNeg)) h
def w_Mo_copy_J373 (post : aM → Prop) (K220 : Nat → Int32 → Int32 → aM → Prop) (k0 : Nat) (v1 : Int32) (v2 : Int32) (M : aM) : Prop := K220 k0 v1 (v2 + (1 : Int32)) M
theorem g_Mo_copy_J373 {d w : Nat} (hd : 0 ≤ d) (hw : 0 ≤ w) {post : aM → Prop} {K220 : Nat → Int32 → Int32 → aM → Prop} (hK220 : ∀ (k0 : Nat) (v1 : Int32) (v2 : Int32) (M : aM), K220 k0 v1 v2 M → Gd d w 176 (pV post) (220, [some (aR 21 k0), some (aI v1), some (aI v2)], [], M)) (k0 : Nat) (v1 : Int32) (v2 : Int32) (M : aM) (h : w_Mo_copy_J373 post K220 k0 v1 v2 M) : Gd d w 176 (pV post) (373, [some (aR 21 k0), some (aI v1), some (aI v2)], [], M) := by
  unfold w_Mo_copy_J373 at h
  show Gd d w 176 _ (373, [some (aR 21 k0), some (aI v1), some (aI v2)], [], M)
  refine gd_s (P := True ∧ True ∧ True) (σ1 := (220, [some (aR 21 k0), some (aI v1), some (aI (v2 + (1 : Int32)))], [], M)) tc_176 rfl 2 (fun u => ⟨_, rfl⟩) ⟨trivial, trivial, trivial⟩ ?_
  exact hK220 k0 v1 (v2 + (1 : Int32)) M h
def w_Mo_copy_J352 (post : aM → Prop) (K220 : Nat → Int32 → Int32 → aM → Prop) (k0 : Nat) (v1 : Int32) (v2 : Int32) (M : aM) : Prop := (vp_in (((200 : Int32)) + v2) (rK M (k0 + 27)).2) ∧ (vp_in ((((100 : Int32)) * v1) + v2) (rK M (k0 + 27)).2) ∧ (w_Mo_copy_J373 post K220 k0 v1 v2 (wI M (k0 + 27) ((((100 : Int32)) * v1) + v2).toNatClampNeg (rI M (k0 + 27) (((200 : Int32)) + v2).toNatClampNeg)))
theorem g_Mo_copy_J352 {d w : Nat} (hd : 0 ≤ d) (hw : 0 ≤ w) {post : aM → Prop} {K220 : Nat → Int32 → Int32 → aM → Prop} (hK220 : ∀ (k0 : Nat) (v1 : Int32) (v2 : Int32) (M : aM), K220 k0 v1 v2 M → Gd d w 176 (pV post) (220, [some (aR 21 k0), some (aI v1), some (aI v2)], [], M)) (k0 : Nat) (v1 : Int32) (v2 : Int32) (M : aM) (h : w_Mo_copy_J352 post K220 k0 v1 v2 M) : Gd d w 176 (pV post) (352, [some (aR 21 k0), some (aI v1), some (aI v2)], [], M) := by
  unfold w_Mo_copy_J352 at h
  show Gd d w 176 _ (352, [some (aR 21 k0), some (aI v1), some (aI v2)], [], M)
  obtain ⟨c0, c1, h⟩ := h
  refine gd_s (P := True ∧ True ∧ True ∧ True ∧ True ∧ True ∧ True ∧ True ∧ True ∧ True ∧ True ∧ True ∧ (vp_in (((200 : Int32)) + v2) (rK M (k0 + 27)).2) ∧ (vp_in ((((100 : Int32)) * v1) + v2) (rK M (k0 + 27)).2) ∧ True) (σ1 := (373, [some (aR 21 k0), some (aI v1), some (aI v2)], [], wI M (k0 + 27) ((((100 : Int32)) * v1) + v2).toNatClampNeg (rI M (k0 + 27) (((200 : Int32)) + v2).toNatClampNeg))) tc_176 rfl 14 (fun u => ⟨_, rfl⟩) ⟨trivial, trivial, trivial, trivial, trivial, trivial, trivial, trivial, trivial, trivial, trivial, trivial, c0, c1, trivial⟩ ?_
  exact g_Mo_copy_J373 hd hw hK220 k0 v1 v2 (wI M (k0 + 27) ((((100 : Int32)) * v1) + v2).toNatClampNeg (rI M (k0 + 27) (((200 : Int32)) + v2).toNatClampNeg)) h
def w_Mo_copy_J331 (post : aM → Prop) (K220 : Nat → Int32 → Int32 → aM → Prop) (k0 : Nat) (v1 : Int32) (v2 : Int32) (M : aM) : Prop := (vp_in (((200 : Int32)) + v2) (rK M (k0 + 26)).2) ∧ (vp_in ((((100 : Int32)) * v1) + v2) (rK M (k0 + 26)).2) ∧ (w_Mo_copy_J352 post K220 k0 v1 v2 (wI M (k0 + 26) ((((100 : Int32)) * v1) + v2).toNatClampNeg (rI M (k0 + 26) (((200 : Int32)) + v2).toNatClampNeg)))
theorem g_Mo_copy_J331 {d w : Nat} (hd : 0 ≤ d) (hw : 0 ≤ w) {post : aM → Prop} {K220 : Nat → Int32 → Int32 → aM → Prop} (hK220 : ∀ (k0 : Nat) (v1 : Int32) (v2 : Int32) (M : aM), K220 k0 v1 v2 M → Gd d w 176 (pV post) (220, [some (aR 21 k0), some (aI v1), some (aI v2)], [], M)) (k0 : Nat) (v1 : Int32) (v2 : Int32) (M : aM) (h : w_Mo_copy_J331 post K220 k0 v1 v2 M) : Gd d w 176 (pV post) (331, [some (aR 21 k0), some (aI v1), some (aI v2)], [], M) := by
  unfold w_Mo_copy_J331 at h
  show Gd d w 176 _ (331, [some (aR 21 k0), some (aI v1), some (aI v2)], [], M)
  obtain ⟨c0, c1, h⟩ := h
  refine gd_s (P := True ∧ True ∧ True ∧ True ∧ True ∧ True ∧ True ∧ True ∧ True ∧ True ∧ True ∧ True ∧ (vp_in (((200 : Int32)) + v2) (rK M (k0 + 26)).2) ∧ (vp_in ((((100 : Int32)) * v1) + v2) (rK M (k0 + 26)).2) ∧ True) (σ1 := (352, [some (aR 21 k0), some (aI v1), some (aI v2)], [], wI M (k0 + 26) ((((100 : Int32)) * v1) + v2).toNatClampNeg (rI M (k0 + 26) (((200 : Int32)) + v2).toNatClampNeg))) tc_176 rfl 14 (fun u => ⟨_, rfl⟩) ⟨trivial, trivial, trivial, trivial, trivial, trivial, trivial, trivial, trivial, trivial, trivial, trivial, c0, c1, trivial⟩ ?_
  exact g_Mo_copy_J352 hd hw hK220 k0 v1 v2 (wI M (k0 + 26) ((((100 : Int32)) * v1) + v2).toNatClampNeg (rI M (k0 + 26) (((200 : Int32)) + v2).toNatClampNeg)) h
def w_Mo_copy_J310 (post : aM → Prop) (K220 : Nat → Int32 → Int32 → aM → Prop) (k0 : Nat) (v1 : Int32) (v2 : Int32) (M : aM) : Prop := (vp_in (((200 : Int32)) + v2) (rK M (k0 + 25)).2) ∧ (vp_in ((((100 : Int32)) * v1) + v2) (rK M (k0 + 25)).2) ∧ (w_Mo_copy_J331 post K220 k0 v1 v2 (wI M (k0 + 25) ((((100 : Int32)) * v1) + v2).toNatClampNeg (rI M (k0 + 25) (((200 : Int32)) + v2).toNatClampNeg)))
theorem g_Mo_copy_J310 {d w : Nat} (hd : 0 ≤ d) (hw : 0 ≤ w) {post : aM → Prop} {K220 : Nat → Int32 → Int32 → aM → Prop} (hK220 : ∀ (k0 : Nat) (v1 : Int32) (v2 : Int32) (M : aM), K220 k0 v1 v2 M → Gd d w 176 (pV post) (220, [some (aR 21 k0), some (aI v1), some (aI v2)], [], M)) (k0 : Nat) (v1 : Int32) (v2 : Int32) (M : aM) (h : w_Mo_copy_J310 post K220 k0 v1 v2 M) : Gd d w 176 (pV post) (310, [some (aR 21 k0), some (aI v1), some (aI v2)], [], M) := by
  unfold w_Mo_copy_J310 at h
  show Gd d w 176 _ (310, [some (aR 21 k0), some (aI v1), some (aI v2)], [], M)
  obtain ⟨c0, c1, h⟩ := h
  refine gd_s (P := True ∧ True ∧ True ∧ True ∧ True ∧ True ∧ True ∧ True ∧ True ∧ True ∧ True ∧ True ∧ (vp_in (((200 : Int32)) + v2) (rK M (k0 + 25)).2) ∧ (vp_in ((((100 : Int32)) * v1) + v2) (rK M (k0 + 25)).2) ∧ True) (σ1 := (331, [some (aR 21 k0), some (aI v1), some (aI v2)], [], wI M (k0 + 25) ((((100 : Int32)) * v1) + v2).toNatClampNeg (rI M (k0 + 25) (((200 : Int32)) + v2).toNatClampNeg))) tc_176 rfl 14 (fun u => ⟨_, rfl⟩) ⟨trivial, trivial, trivial, trivial, trivial, trivial, trivial, trivial, trivial, trivial, trivial, trivial, c0, c1, trivial⟩ ?_
  exact g_Mo_copy_J331 hd hw hK220 k0 v1 v2 (wI M (k0 + 25) ((((100 : Int32)) * v1) + v2).toNatClampNeg (rI M (k0 + 25) (((200 : Int32)) + v2).toNatClampNeg)) h
def w_Mo_copy_J289 (post : aM → Prop) (K220 : Nat → Int32 → Int32 → aM → Prop) (k0 : Nat) (v1 : Int32) (v2 : Int32) (M : aM) : Prop := (vp_in (((200 : Int32)) + v2) (rK M (k0 + 14)).2) ∧ (vp_in ((((100 : Int32)) * v1) + v2) (rK M (k0 + 14)).2) ∧ (w_Mo_copy_J310 post K220 k0 v1 v2 (wI M (k0 + 14) ((((100 : Int32)) * v1) + v2).toNatClampNeg (rI M (k0 + 14) (((200 : Int32)) + v2).toNatClampNeg)))
theorem g_Mo_copy_J289 {d w : Nat} (hd : 0 ≤ d) (hw : 0 ≤ w) {post : aM → Prop} {K220 : Nat → Int32 → Int32 → aM → Prop} (hK220 : ∀ (k0 : Nat) (v1 : Int32) (v2 : Int32) (M : aM), K220 k0 v1 v2 M → Gd d w 176 (pV post) (220, [some (aR 21 k0), some (aI v1), some (aI v2)], [], M)) (k0 : Nat) (v1 : Int32) (v2 : Int32) (M : aM) (h : w_Mo_copy_J289 post K220 k0 v1 v2 M) : Gd d w 176 (pV post) (289, [some (aR 21 k0), some (aI v1), some (aI v2)], [], M) := by
  unfold w_Mo_copy_J289 at h
  show Gd d w 176 _ (289, [some (aR 21 k0), some (aI v1), some (aI v2)], [], M)
  obtain ⟨c0, c1, h⟩ := h
  refine gd_s (P := True ∧ True ∧ True ∧ True ∧ True ∧ True ∧ True ∧ True ∧ True ∧ True ∧ True ∧ True ∧ (vp_in (((200 : Int32)) + v2) (rK M (k0 + 14)).2) ∧ (vp_in ((((100 : Int32)) * v1) + v2) (rK M (k0 + 14)).2) ∧ True) (σ1 := (310, [some (aR 21 k0), some (aI v1), some (aI v2)], [], wI M (k0 + 14) ((((100 : Int32)) * v1) + v2).toNatClampNeg (rI M (k0 + 14) (((200 : Int32)) + v2).toNatClampNeg))) tc_176 rfl 14 (fun u => ⟨_, rfl⟩) ⟨trivial, trivial, trivial, trivial, trivial, trivial, trivial, trivial, trivial, trivial, trivial, trivial, c0, c1, trivial⟩ ?_
  exact g_Mo_copy_J310 hd hw hK220 k0 v1 v2 (wI M (k0 + 14) ((((100 : Int32)) * v1) + v2).toNatClampNeg (rI M (k0 + 14) (((200 : Int32)) + v2).toNatClampNeg)) h
def w_Mo_copy_J268 (post : aM → Prop) (K220 : Nat → Int32 → Int32 → aM → Prop) (k0 : Nat) (v1 : Int32) (v2 : Int32) (M : aM) : Prop := (vp_in (((200 : Int32)) + v2) (rK M (k0 + 13)).2) ∧ (vp_in ((((100 : Int32)) * v1) + v2) (rK M (k0 + 13)).2) ∧ (w_Mo_copy_J289 post K220 k0 v1 v2 (wI M (k0 + 13) ((((100 : Int32)) * v1) + v2).toNatClampNeg (rI M (k0 + 13) (((200 : Int32)) + v2).toNatClampNeg)))
theorem g_Mo_copy_J268 {d w : Nat} (hd : 0 ≤ d) (hw : 0 ≤ w) {post : aM → Prop} {K220 : Nat → Int32 → Int32 → aM → Prop} (hK220 : ∀ (k0 : Nat) (v1 : Int32) (v2 : Int32) (M : aM), K220 k0 v1 v2 M → Gd d w 176 (pV post) (220, [some (aR 21 k0), some (aI v1), some (aI v2)], [], M)) (k0 : Nat) (v1 : Int32) (v2 : Int32) (M : aM) (h : w_Mo_copy_J268 post K220 k0 v1 v2 M) : Gd d w 176 (pV post) (268, [some (aR 21 k0), some (aI v1), some (aI v2)], [], M) := by
  unfold w_Mo_copy_J268 at h
  show Gd d w 176 _ (268, [some (aR 21 k0), some (aI v1), some (aI v2)], [], M)
  obtain ⟨c0, c1, h⟩ := h
  refine gd_s (P := True ∧ True ∧ True ∧ True ∧ True ∧ True ∧ True ∧ True ∧ True ∧ True ∧ True ∧ True ∧ (vp_in (((200 : Int32)) + v2) (rK M (k0 + 13)).2) ∧ (vp_in ((((100 : Int32)) * v1) + v2) (rK M (k0 + 13)).2) ∧ True) (σ1 := (289, [some (aR 21 k0), some (aI v1), some (aI v2)], [], wI M (k0 + 13) ((((100 : Int32)) * v1) + v2).toNatClampNeg (rI M (k0 + 13) (((200 : Int32)) + v2).toNatClampNeg))) tc_176 rfl 14 (fun u => ⟨_, rfl⟩) ⟨trivial, trivial, trivial, trivial, trivial, trivial, trivial, trivial, trivial, trivial, trivial, trivial, c0, c1, trivial⟩ ?_
  exact g_Mo_copy_J289 hd hw hK220 k0 v1 v2 (wI M (k0 + 13) ((((100 : Int32)) * v1) + v2).toNatClampNeg (rI M (k0 + 13) (((200 : Int32)) + v2).toNatClampNeg)) h
def w_Mo_copy_J247 (post : aM → Prop) (K220 : Nat → Int32 → Int32 → aM → Prop) (k0 : Nat) (v1 : Int32) (v2 : Int32) (M : aM) : Prop := (vp_in (((200 : Int32)) + v2) (rK M (k0 + 12)).2) ∧ (vp_in ((((100 : Int32)) * v1) + v2) (rK M (k0 + 12)).2) ∧ (w_Mo_copy_J268 post K220 k0 v1 v2 (wI M (k0 + 12) ((((100 : Int32)) * v1) + v2).toNatClampNeg (rI M (k0 + 12) (((200 : Int32)) + v2).toNatClampNeg)))
theorem g_Mo_copy_J247 {d w : Nat} (hd : 0 ≤ d) (hw : 0 ≤ w) {post : aM → Prop} {K220 : Nat → Int32 → Int32 → aM → Prop} (hK220 : ∀ (k0 : Nat) (v1 : Int32) (v2 : Int32) (M : aM), K220 k0 v1 v2 M → Gd d w 176 (pV post) (220, [some (aR 21 k0), some (aI v1), some (aI v2)], [], M)) (k0 : Nat) (v1 : Int32) (v2 : Int32) (M : aM) (h : w_Mo_copy_J247 post K220 k0 v1 v2 M) : Gd d w 176 (pV post) (247, [some (aR 21 k0), some (aI v1), some (aI v2)], [], M) := by
  unfold w_Mo_copy_J247 at h
  show Gd d w 176 _ (247, [some (aR 21 k0), some (aI v1), some (aI v2)], [], M)
  obtain ⟨c0, c1, h⟩ := h
  refine gd_s (P := True ∧ True ∧ True ∧ True ∧ True ∧ True ∧ True ∧ True ∧ True ∧ True ∧ True ∧ True ∧ (vp_in (((200 : Int32)) + v2) (rK M (k0 + 12)).2) ∧ (vp_in ((((100 : Int32)) * v1) + v2) (rK M (k0 + 12)).2) ∧ True) (σ1 := (268, [some (aR 21 k0), some (aI v1), some (aI v2)], [], wI M (k0 + 12) ((((100 : Int32)) * v1) + v2).toNatClampNeg (rI M (k0 + 12) (((200 : Int32)) + v2).toNatClampNeg))) tc_176 rfl 14 (fun u => ⟨_, rfl⟩) ⟨trivial, trivial, trivial, trivial, trivial, trivial, trivial, trivial, trivial, trivial, trivial, trivial, c0, c1, trivial⟩ ?_
  exact g_Mo_copy_J268 hd hw hK220 k0 v1 v2 (wI M (k0 + 12) ((((100 : Int32)) * v1) + v2).toNatClampNeg (rI M (k0 + 12) (((200 : Int32)) + v2).toNatClampNeg)) h
def w_Mo_copy_L220 (post : aM → Prop) : Nat → Nat → Int32 → Int32 → aM → Prop
  | 0, _, _, _, _ => False
  | n + 1, k0, v1, v2, M => ((((100 : Int32)) ≤ v2) → ∃ n9, w_Mo_copy_L381 post n9 k0 v1 ((0 : Int32)) M) ∧ (¬ (((100 : Int32)) ≤ v2) → (vp_in (((200 : Int32)) + v2) (rK M (k0 + 11)).2) ∧ (vp_in ((((100 : Int32)) * v1) + v2) (rK M (k0 + 11)).2) ∧ (w_Mo_copy_J247 post (w_Mo_copy_L220 post n) k0 v1 v2 (wI M (k0 + 11) ((((100 : Int32)) * v1) + v2).toNatClampNeg (rI M (k0 + 11) (((200 : Int32)) + v2).toNatClampNeg))))
theorem g_Mo_copy_L220 {d w : Nat} (hd : 0 ≤ d) (hw : 0 ≤ w) {post : aM → Prop} : ∀ (n : Nat) (k0 : Nat) (v1 : Int32) (v2 : Int32) (M : aM), w_Mo_copy_L220 post n k0 v1 v2 M → Gd d w 176 (pV post) (220, [some (aR 21 k0), some (aI v1), some (aI v2)], [], M) := by
  intro n
  induction n with
  | zero => intro k0 v1 v2 M h; exact h.elim
  | succ n ih =>
    intro k0 v1 v2 M h
    show Gd d w 176 _ (220, [some (aR 21 k0), some (aI v1), some (aI v2)], [], M)
    refine gd_s (P := True ∧ True ∧ True) (σ1 := (223, [some (aR 21 k0), some (aI v1), some (aI v2)], [aI ((100 : Int32)), aI v2], M)) tc_176 rfl 2 (fun u => ⟨_, rfl⟩) ⟨trivial, trivial, trivial⟩ ?_
    refine gd_br (c := ((100 : Int32)) ≤ v2) (st1 := []) tc_176 rfl rfl (fun _ => rfl) ⟨fun hc => ?_, fun hc => ?_⟩
    · have h := h.1 hc
      show Gd d w 176 _ (379, [some (aR 21 k0), some (aI v1), some (aI v2)], [], M)
      refine gd_s (P := True ∧ True ∧ True) (σ1 := (381, [some (aR 21 k0), some (aI v1), some (aI ((0 : Int32)))], [], M)) tc_176 rfl 2 (fun u => ⟨_, rfl⟩) ⟨trivial, trivial, trivial⟩ ?_
      obtain ⟨n9, h⟩ := h
      exact g_Mo_copy_L381 hd hw n9 k0 v1 ((0 : Int32)) M h
    · have h := h.2 hc
      show Gd d w 176 _ (226, [some (aR 21 k0), some (aI v1), some (aI v2)], [], M)
      obtain ⟨c0, c1, h⟩ := h
      refine gd_s (P := True ∧ True ∧ True ∧ True ∧ True ∧ True ∧ True ∧ True ∧ True ∧ True ∧ True ∧ True ∧ (vp_in (((200 : Int32)) + v2) (rK M (k0 + 11)).2) ∧ (vp_in ((((100 : Int32)) * v1) + v2) (rK M (k0 + 11)).2) ∧ True) (σ1 := (247, [some (aR 21 k0), some (aI v1), some (aI v2)], [], wI M (k0 + 11) ((((100 : Int32)) * v1) + v2).toNatClampNeg (rI M (k0 + 11) (((200 : Int32)) + v2).toNatClampNeg))) tc_176 rfl 14 (fun u => ⟨_, rfl⟩) ⟨trivial, trivial, trivial, trivial, trivial, trivial, trivial, trivial, trivial, trivial, trivial, trivial, c0, c1, trivial⟩ ?_
      exact g_Mo_copy_J247 hd hw ih k0 v1 v2 (wI M (k0 + 11) ((((100 : Int32)) * v1) + v2).toNatClampNeg (rI M (k0 + 11) (((200 : Int32)) + v2).toNatClampNeg)) h
def w_Mo_copy_L183 (post : aM → Prop) : Nat → Nat → Int32 → Int32 → aM → Prop
  | 0, _, _, _, _ => False
  | n + 1, k0, v1, v2, M => ((((1296 : Int32)) ≤ v2) → ∃ n9, w_Mo_copy_L220 post n9 k0 v1 ((0 : Int32)) M) ∧ (¬ (((1296 : Int32)) ≤ v2) → (vp_in (((2592 : Int32)) + v2) (rK M (k0 + 9)).2) ∧ (vp_in ((((1296 : Int32)) * v1) + v2) (rK M (k0 + 9)).2) ∧ (w_Mo_copy_L183 post n k0 v1 (v2 + (1 : Int32)) (wI M (k0 + 9) ((((1296 : Int32)) * v1) + v2).toNatClampNeg (rI M (k0 + 9) (((2592 : Int32)) + v2).toNatClampNeg).toInt8.toInt32)))
theorem g_Mo_copy_L183 {d w : Nat} (hd : 0 ≤ d) (hw : 0 ≤ w) {post : aM → Prop} : ∀ (n : Nat) (k0 : Nat) (v1 : Int32) (v2 : Int32) (M : aM), w_Mo_copy_L183 post n k0 v1 v2 M → Gd d w 176 (pV post) (183, [some (aR 21 k0), some (aI v1), some (aI v2)], [], M) := by
  intro n
  induction n with
  | zero => intro k0 v1 v2 M h; exact h.elim
  | succ n ih =>
    intro k0 v1 v2 M h
    show Gd d w 176 _ (183, [some (aR 21 k0), some (aI v1), some (aI v2)], [], M)
    refine gd_s (P := True ∧ True ∧ True) (σ1 := (187, [some (aR 21 k0), some (aI v1), some (aI v2)], [aI ((1296 : Int32)), aI v2], M)) tc_176 rfl 2 (fun u => ⟨_, rfl⟩) ⟨trivial, trivial, trivial⟩ ?_
    refine gd_br (c := ((1296 : Int32)) ≤ v2) (st1 := []) tc_176 rfl rfl (fun _ => rfl) ⟨fun hc => ?_, fun hc => ?_⟩
    · have h := h.1 hc
      show Gd d w 176 _ (218, [some (aR 21 k0), some (aI v1), some (aI v2)], [], M)
      refine gd_s (P := True ∧ True ∧ True) (σ1 := (220, [some (aR 21 k0), some (aI v1), some (aI ((0 : Int32)))], [], M)) tc_176 rfl 2 (fun u => ⟨_, rfl⟩) ⟨trivial, trivial, trivial⟩ ?_
      obtain ⟨n9, h⟩ := h
      exact g_Mo_copy_L220 hd hw n9 k0 v1 ((0 : Int32)) M h
    · have h := h.2 hc
      show Gd d w 176 _ (190, [some (aR 21 k0), some (aI v1), some (aI v2)], [], M)
      obtain ⟨c0, c1, h⟩ := h
      refine gd_s (P := True ∧ True ∧ True ∧ True ∧ True ∧ True ∧ True ∧ True ∧ True ∧ True ∧ True ∧ True ∧ (vp_in (((2592 : Int32)) + v2) (rK M (k0 + 9)).2) ∧ (vp_in ((((1296 : Int32)) * v1) + v2) (rK M (k0 + 9)).2) ∧ True ∧ True ∧ True) (σ1 := (183, [some (aR 21 k0), some (aI v1), some (aI (v2 + (1 : Int32)))], [], wI M (k0 + 9) ((((1296 : Int32)) * v1) + v2).toNatClampNeg (rI M (k0 + 9) (((2592 : Int32)) + v2).toNatClampNeg).toInt8.toInt32)) tc_176 rfl 16 (fun u => ⟨_, rfl⟩) ⟨trivial, trivial, trivial, trivial, trivial, trivial, trivial, trivial, trivial, trivial, trivial, trivial, c0, c1, trivial, trivial, trivial⟩ ?_
      exact ih k0 v1 (v2 + (1 : Int32)) (wI M (k0 + 9) ((((1296 : Int32)) * v1) + v2).toNatClampNeg (rI M (k0 + 9) (((2592 : Int32)) + v2).toNatClampNeg).toInt8.toInt32) h
def w_Mo_copy_L148 (post : aM → Prop) : Nat → Nat → Int32 → Int32 → aM → Prop
  | 0, _, _, _, _ => False
  | n + 1, k0, v1, v2, M => ((((108 : Int32)) ≤ v2) → ∃ n9, w_Mo_copy_L183 post n9 k0 v1 ((0 : Int32)) M) ∧ (¬ (((108 : Int32)) ≤ v2) → (vp_in (((216 : Int32)) + v2) (rK M (k0 + 8)).2) ∧ (vp_in ((((108 : Int32)) * v1) + v2) (rK M (k0 + 8)).2) ∧ (w_Mo_copy_L148 post n k0 v1 (v2 + (1 : Int32)) (wI M (k0 + 8) ((((108 : Int32)) * v1) + v2).toNatClampNeg (rI M (k0 + 8) (((216 : Int32)) + v2).toNatClampNeg))))
theorem g_Mo_copy_L148 {d w : Nat} (hd : 0 ≤ d) (hw : 0 ≤ w) {post : aM → Prop} : ∀ (n : Nat) (k0 : Nat) (v1 : Int32) (v2 : Int32) (M : aM), w_Mo_copy_L148 post n k0 v1 v2 M → Gd d w 176 (pV post) (148, [some (aR 21 k0), some (aI v1), some (aI v2)], [], M) := by
  intro n
  induction n with
  | zero => intro k0 v1 v2 M h; exact h.elim
  | succ n ih =>
    intro k0 v1 v2 M h
    show Gd d w 176 _ (148, [some (aR 21 k0), some (aI v1), some (aI v2)], [], M)
    refine gd_s (P := True ∧ True ∧ True) (σ1 := (151, [some (aR 21 k0), some (aI v1), some (aI v2)], [aI ((108 : Int32)), aI v2], M)) tc_176 rfl 2 (fun u => ⟨_, rfl⟩) ⟨trivial, trivial, trivial⟩ ?_
    refine gd_br (c := ((108 : Int32)) ≤ v2) (st1 := []) tc_176 rfl rfl (fun _ => rfl) ⟨fun hc => ?_, fun hc => ?_⟩
    · have h := h.1 hc
      show Gd d w 176 _ (181, [some (aR 21 k0), some (aI v1), some (aI v2)], [], M)
      refine gd_s (P := True ∧ True ∧ True) (σ1 := (183, [some (aR 21 k0), some (aI v1), some (aI ((0 : Int32)))], [], M)) tc_176 rfl 2 (fun u => ⟨_, rfl⟩) ⟨trivial, trivial, trivial⟩ ?_
      obtain ⟨n9, h⟩ := h
      exact g_Mo_copy_L183 hd hw n9 k0 v1 ((0 : Int32)) M h
    · have h := h.2 hc
      show Gd d w 176 _ (154, [some (aR 21 k0), some (aI v1), some (aI v2)], [], M)
      obtain ⟨c0, c1, h⟩ := h
      refine gd_s (P := True ∧ True ∧ True ∧ True ∧ True ∧ True ∧ True ∧ True ∧ True ∧ True ∧ True ∧ True ∧ (vp_in (((216 : Int32)) + v2) (rK M (k0 + 8)).2) ∧ (vp_in ((((108 : Int32)) * v1) + v2) (rK M (k0 + 8)).2) ∧ True ∧ True ∧ True) (σ1 := (148, [some (aR 21 k0), some (aI v1), some (aI (v2 + (1 : Int32)))], [], wI M (k0 + 8) ((((108 : Int32)) * v1) + v2).toNatClampNeg (rI M (k0 + 8) (((216 : Int32)) + v2).toNatClampNeg))) tc_176 rfl 16 (fun u => ⟨_, rfl⟩) ⟨trivial, trivial, trivial, trivial, trivial, trivial, trivial, trivial, trivial, trivial, trivial, trivial, c0, c1, trivial, trivial, trivial⟩ ?_
      exact ih k0 v1 (v2 + (1 : Int32)) (wI M (k0 + 8) ((((108 : Int32)) * v1) + v2).toNatClampNeg (rI M (k0 + 8) (((216 : Int32)) + v2).toNatClampNeg)) h
def w_Mo_copy_J140 (post : aM → Prop) (K62 : Nat → Int32 → Int32 → aM → Prop) (k0 : Nat) (v1 : Int32) (v2 : Int32) (M : aM) : Prop := K62 k0 v1 (v2 + (1 : Int32)) M
theorem g_Mo_copy_J140 {d w : Nat} (hd : 0 ≤ d) (hw : 0 ≤ w) {post : aM → Prop} {K62 : Nat → Int32 → Int32 → aM → Prop} (hK62 : ∀ (k0 : Nat) (v1 : Int32) (v2 : Int32) (M : aM), K62 k0 v1 v2 M → Gd d w 176 (pV post) (62, [some (aR 21 k0), some (aI v1), some (aI v2)], [], M)) (k0 : Nat) (v1 : Int32) (v2 : Int32) (M : aM) (h : w_Mo_copy_J140 post K62 k0 v1 v2 M) : Gd d w 176 (pV post) (140, [some (aR 21 k0), some (aI v1), some (aI v2)], [], M) := by
  unfold w_Mo_copy_J140 at h
  show Gd d w 176 _ (140, [some (aR 21 k0), some (aI v1), some (aI v2)], [], M)
  refine gd_s (P := True ∧ True ∧ True) (σ1 := (62, [some (aR 21 k0), some (aI v1), some (aI (v2 + (1 : Int32)))], [], M)) tc_176 rfl 2 (fun u => ⟨_, rfl⟩) ⟨trivial, trivial, trivial⟩ ?_
  exact hK62 k0 v1 (v2 + (1 : Int32)) M h
def w_Mo_copy_J128 (post : aM → Prop) (K62 : Nat → Int32 → Int32 → aM → Prop) (k0 : Nat) (v1 : Int32) (v2 : Int32) (M : aM) : Prop := (vp_in ((((8 : Int32)) * v1) + v2) (rK M (k0 + 7)).2) ∧ (w_Mo_copy_J140 post K62 k0 v1 v2 (wI M (k0 + 7) ((((8 : Int32)) * v1) + v2).toNatClampNeg ((0 : Int32))))
theorem g_Mo_copy_J128 {d w : Nat} (hd : 0 ≤ d) (hw : 0 ≤ w) {post : aM → Prop} {K62 : Nat → Int32 → Int32 → aM → Prop} (hK62 : ∀ (k0 : Nat) (v1 : Int32) (v2 : Int32) (M : aM), K62 k0 v1 v2 M → Gd d w 176 (pV post) (62, [some (aR 21 k0), some (aI v1), some (aI v2)], [], M)) (k0 : Nat) (v1 : Int32) (v2 : Int32) (M : aM) (h : w_Mo_copy_J128 post K62 k0 v1 v2 M) : Gd d w 176 (pV post) (128, [some (aR 21 k0), some (aI v1), some (aI v2)], [], M) := by
  unfold w_Mo_copy_J128 at h
  show Gd d w 176 _ (128, [some (aR 21 k0), some (aI v1), some (aI v2)], [], M)
  obtain ⟨c0, h⟩ := h
  refine gd_s (P := True ∧ True ∧ True ∧ True ∧ True ∧ True ∧ True ∧ True ∧ (vp_in ((((8 : Int32)) * v1) + v2) (rK M (k0 + 7)).2) ∧ True) (σ1 := (140, [some (aR 21 k0), some (aI v1), some (aI v2)], [], wI M (k0 + 7) ((((8 : Int32)) * v1) + v2).toNatClampNeg ((0 : Int32)))) tc_176 rfl 9 (fun u => ⟨_, rfl⟩) ⟨trivial, trivial, trivial, trivial, trivial, trivial, trivial, trivial, c0, trivial⟩ ?_
  exact g_Mo_copy_J140 hd hw hK62 k0 v1 v2 (wI M (k0 + 7) ((((8 : Int32)) * v1) + v2).toNatClampNeg ((0 : Int32))) h
def w_Mo_copy_J108 (post : aM → Prop) (K62 : Nat → Int32 → Int32 → aM → Prop) (k0 : Nat) (v1 : Int32) (v2 : Int32) (M : aM) : Prop := (vp_in (((16 : Int32)) + v2) (rK M (k0 + 6)).2) ∧ (vp_in ((((8 : Int32)) * v1) + v2) (rK M (k0 + 6)).2 ∧ ((rI M (k0 + 6) (((16 : Int32)) + v2).toNatClampNeg) = 0 ∨ (rI M (k0 + 6) (((16 : Int32)) + v2).toNatClampNeg) = 1)) ∧ (w_Mo_copy_J128 post K62 k0 v1 v2 (wI M (k0 + 6) ((((8 : Int32)) * v1) + v2).toNatClampNeg (rI M (k0 + 6) (((16 : Int32)) + v2).toNatClampNeg)))
theorem g_Mo_copy_J108 {d w : Nat} (hd : 0 ≤ d) (hw : 0 ≤ w) {post : aM → Prop} {K62 : Nat → Int32 → Int32 → aM → Prop} (hK62 : ∀ (k0 : Nat) (v1 : Int32) (v2 : Int32) (M : aM), K62 k0 v1 v2 M → Gd d w 176 (pV post) (62, [some (aR 21 k0), some (aI v1), some (aI v2)], [], M)) (k0 : Nat) (v1 : Int32) (v2 : Int32) (M : aM) (h : w_Mo_copy_J108 post K62 k0 v1 v2 M) : Gd d w 176 (pV post) (108, [some (aR 21 k0), some (aI v1), some (aI v2)], [], M) := by
  unfold w_Mo_copy_J108 at h
  show Gd d w 176 _ (108, [some (aR 21 k0), some (aI v1), some (aI v2)], [], M)
  obtain ⟨c0, c1, h⟩ := h
  refine gd_s (P := True ∧ True ∧ True ∧ True ∧ True ∧ True ∧ True ∧ True ∧ True ∧ True ∧ True ∧ True ∧ (vp_in (((16 : Int32)) + v2) (rK M (k0 + 6)).2) ∧ (vp_in ((((8 : Int32)) * v1) + v2) (rK M (k0 + 6)).2 ∧ ((rI M (k0 + 6) (((16 : Int32)) + v2).toNatClampNeg) = 0 ∨ (rI M (k0 + 6) (((16 : Int32)) + v2).toNatClampNeg) = 1)) ∧ True) (σ1 := (128, [some (aR 21 k0), some (aI v1), some (aI v2)], [], wI M (k0 + 6) ((((8 : Int32)) * v1) + v2).toNatClampNeg (rI M (k0 + 6) (((16 : Int32)) + v2).toNatClampNeg))) tc_176 rfl 14 (fun u => ⟨_, rfl⟩) ⟨trivial, trivial, trivial, trivial, trivial, trivial, trivial, trivial, trivial, trivial, trivial, trivial, c0, c1, trivial⟩ ?_
  exact g_Mo_copy_J128 hd hw hK62 k0 v1 v2 (wI M (k0 + 6) ((((8 : Int32)) * v1) + v2).toNatClampNeg (rI M (k0 + 6) (((16 : Int32)) + v2).toNatClampNeg)) h
def w_Mo_copy_J88 (post : aM → Prop) (K62 : Nat → Int32 → Int32 → aM → Prop) (k0 : Nat) (v1 : Int32) (v2 : Int32) (M : aM) : Prop := (vp_in (((16 : Int32)) + v2) (rK M (k0 + 5)).2) ∧ (vp_in ((((8 : Int32)) * v1) + v2) (rK M (k0 + 5)).2 ∧ ((rI M (k0 + 5) (((16 : Int32)) + v2).toNatClampNeg) = 0 ∨ (rI M (k0 + 5) (((16 : Int32)) + v2).toNatClampNeg) = 1)) ∧ (w_Mo_copy_J108 post K62 k0 v1 v2 (wI M (k0 + 5) ((((8 : Int32)) * v1) + v2).toNatClampNeg (rI M (k0 + 5) (((16 : Int32)) + v2).toNatClampNeg)))
theorem g_Mo_copy_J88 {d w : Nat} (hd : 0 ≤ d) (hw : 0 ≤ w) {post : aM → Prop} {K62 : Nat → Int32 → Int32 → aM → Prop} (hK62 : ∀ (k0 : Nat) (v1 : Int32) (v2 : Int32) (M : aM), K62 k0 v1 v2 M → Gd d w 176 (pV post) (62, [some (aR 21 k0), some (aI v1), some (aI v2)], [], M)) (k0 : Nat) (v1 : Int32) (v2 : Int32) (M : aM) (h : w_Mo_copy_J88 post K62 k0 v1 v2 M) : Gd d w 176 (pV post) (88, [some (aR 21 k0), some (aI v1), some (aI v2)], [], M) := by
  unfold w_Mo_copy_J88 at h
  show Gd d w 176 _ (88, [some (aR 21 k0), some (aI v1), some (aI v2)], [], M)
  obtain ⟨c0, c1, h⟩ := h
  refine gd_s (P := True ∧ True ∧ True ∧ True ∧ True ∧ True ∧ True ∧ True ∧ True ∧ True ∧ True ∧ True ∧ (vp_in (((16 : Int32)) + v2) (rK M (k0 + 5)).2) ∧ (vp_in ((((8 : Int32)) * v1) + v2) (rK M (k0 + 5)).2 ∧ ((rI M (k0 + 5) (((16 : Int32)) + v2).toNatClampNeg) = 0 ∨ (rI M (k0 + 5) (((16 : Int32)) + v2).toNatClampNeg) = 1)) ∧ True) (σ1 := (108, [some (aR 21 k0), some (aI v1), some (aI v2)], [], wI M (k0 + 5) ((((8 : Int32)) * v1) + v2).toNatClampNeg (rI M (k0 + 5) (((16 : Int32)) + v2).toNatClampNeg))) tc_176 rfl 14 (fun u => ⟨_, rfl⟩) ⟨trivial, trivial, trivial, trivial, trivial, trivial, trivial, trivial, trivial, trivial, trivial, trivial, c0, c1, trivial⟩ ?_
  exact g_Mo_copy_J108 hd hw hK62 k0 v1 v2 (wI M (k0 + 5) ((((8 : Int32)) * v1) + v2).toNatClampNeg (rI M (k0 + 5) (((16 : Int32)) + v2).toNatClampNeg)) h
def w_Mo_copy_L62 (post : aM → Prop) : Nat → Nat → Int32 → Int32 → aM → Prop
  | 0, _, _, _, _ => False
  | n + 1, k0, v1, v2, M => ((((8 : Int32)) ≤ v2) → ∃ n9, w_Mo_copy_L148 post n9 k0 v1 ((0 : Int32)) M) ∧ (¬ (((8 : Int32)) ≤ v2) → (vp_in (((16 : Int32)) + v2) (rK M (k0 + 4)).2) ∧ (vp_in ((((8 : Int32)) * v1) + v2) (rK M (k0 + 4)).2) ∧ (w_Mo_copy_J88 post (w_Mo_copy_L62 post n) k0 v1 v2 (wI M (k0 + 4) ((((8 : Int32)) * v1) + v2).toNatClampNeg (rI M (k0 + 4) (((16 : Int32)) + v2).toNatClampNeg))))
theorem g_Mo_copy_L62 {d w : Nat} (hd : 0 ≤ d) (hw : 0 ≤ w) {post : aM → Prop} : ∀ (n : Nat) (k0 : Nat) (v1 : Int32) (v2 : Int32) (M : aM), w_Mo_copy_L62 post n k0 v1 v2 M → Gd d w 176 (pV post) (62, [some (aR 21 k0), some (aI v1), some (aI v2)], [], M) := by
  intro n
  induction n with
  | zero => intro k0 v1 v2 M h; exact h.elim
  | succ n ih =>
    intro k0 v1 v2 M h
    show Gd d w 176 _ (62, [some (aR 21 k0), some (aI v1), some (aI v2)], [], M)
    refine gd_s (P := True ∧ True ∧ True) (σ1 := (65, [some (aR 21 k0), some (aI v1), some (aI v2)], [aI ((8 : Int32)), aI v2], M)) tc_176 rfl 2 (fun u => ⟨_, rfl⟩) ⟨trivial, trivial, trivial⟩ ?_
    refine gd_br (c := ((8 : Int32)) ≤ v2) (st1 := []) tc_176 rfl rfl (fun _ => rfl) ⟨fun hc => ?_, fun hc => ?_⟩
    · have h := h.1 hc
      show Gd d w 176 _ (146, [some (aR 21 k0), some (aI v1), some (aI v2)], [], M)
      refine gd_s (P := True ∧ True ∧ True) (σ1 := (148, [some (aR 21 k0), some (aI v1), some (aI ((0 : Int32)))], [], M)) tc_176 rfl 2 (fun u => ⟨_, rfl⟩) ⟨trivial, trivial, trivial⟩ ?_
      obtain ⟨n9, h⟩ := h
      exact g_Mo_copy_L148 hd hw n9 k0 v1 ((0 : Int32)) M h
    · have h := h.2 hc
      show Gd d w 176 _ (68, [some (aR 21 k0), some (aI v1), some (aI v2)], [], M)
      obtain ⟨c0, c1, h⟩ := h
      refine gd_s (P := True ∧ True ∧ True ∧ True ∧ True ∧ True ∧ True ∧ True ∧ True ∧ True ∧ True ∧ True ∧ (vp_in (((16 : Int32)) + v2) (rK M (k0 + 4)).2) ∧ (vp_in ((((8 : Int32)) * v1) + v2) (rK M (k0 + 4)).2) ∧ True) (σ1 := (88, [some (aR 21 k0), some (aI v1), some (aI v2)], [], wI M (k0 + 4) ((((8 : Int32)) * v1) + v2).toNatClampNeg (rI M (k0 + 4) (((16 : Int32)) + v2).toNatClampNeg))) tc_176 rfl 14 (fun u => ⟨_, rfl⟩) ⟨trivial, trivial, trivial, trivial, trivial, trivial, trivial, trivial, trivial, trivial, trivial, trivial, c0, c1, trivial⟩ ?_
      exact g_Mo_copy_J88 hd hw ih k0 v1 v2 (wI M (k0 + 4) ((((8 : Int32)) * v1) + v2).toNatClampNeg (rI M (k0 + 4) (((16 : Int32)) + v2).toNatClampNeg)) h
def w_Mo_copy_J60 (post : aM → Prop) (k0 : Nat) (v1 : Int32) (M : aM) : Prop := ∃ n9, w_Mo_copy_L62 post n9 k0 v1 ((0 : Int32)) M
theorem g_Mo_copy_J60 {d w : Nat} (hd : 0 ≤ d) (hw : 0 ≤ w) {post : aM → Prop} (k0 : Nat) (v1 : Int32) (o2 : Option aV) (M : aM) (h : w_Mo_copy_J60 post k0 v1 M) : Gd d w 176 (pV post) (60, [some (aR 21 k0), some (aI v1), o2], [], M) := by
  unfold w_Mo_copy_J60 at h
  show Gd d w 176 _ (60, [some (aR 21 k0), some (aI v1), o2], [], M)
  refine gd_s (P := True ∧ True ∧ True) (σ1 := (62, [some (aR 21 k0), some (aI v1), some (aI ((0 : Int32)))], [], M)) tc_176 rfl 2 (fun u => ⟨_, rfl⟩) ⟨trivial, trivial, trivial⟩ ?_
  obtain ⟨n9, h⟩ := h
  exact g_Mo_copy_L62 hd hw n9 k0 v1 ((0 : Int32)) M h
def w_Mo_copy_J48 (post : aM → Prop) (k0 : Nat) (v1 : Int32) (M : aM) : Prop := (vp_in ((2 : Int32)) (rK M (k0 + 24)).2) ∧ (vp_in v1 (rK M (k0 + 24)).2) ∧ (w_Mo_copy_J60 post k0 v1 (wI M (k0 + 24) v1.toNatClampNeg (rI M (k0 + 24) ((2 : Int32)).toNatClampNeg)))
theorem g_Mo_copy_J48 {d w : Nat} (hd : 0 ≤ d) (hw : 0 ≤ w) {post : aM → Prop} (k0 : Nat) (v1 : Int32) (o2 : Option aV) (M : aM) (h : w_Mo_copy_J48 post k0 v1 M) : Gd d w 176 (pV post) (48, [some (aR 21 k0), some (aI v1), o2], [], M) := by
  unfold w_Mo_copy_J48 at h
  show Gd d w 176 _ (48, [some (aR 21 k0), some (aI v1), o2], [], M)
  obtain ⟨c0, c1, h⟩ := h
  refine gd_s (P := True ∧ True ∧ True ∧ True ∧ True ∧ True ∧ (vp_in ((2 : Int32)) (rK M (k0 + 24)).2) ∧ (vp_in v1 (rK M (k0 + 24)).2) ∧ True) (σ1 := (60, [some (aR 21 k0), some (aI v1), o2], [], wI M (k0 + 24) v1.toNatClampNeg (rI M (k0 + 24) ((2 : Int32)).toNatClampNeg))) tc_176 rfl 8 (fun u => ⟨_, rfl⟩) ⟨trivial, trivial, trivial, trivial, trivial, trivial, c0, c1, trivial⟩ ?_
  exact g_Mo_copy_J60 hd hw k0 v1 o2 (wI M (k0 + 24) v1.toNatClampNeg (rI M (k0 + 24) ((2 : Int32)).toNatClampNeg)) h
def w_Mo_copy_J36 (post : aM → Prop) (k0 : Nat) (v1 : Int32) (M : aM) : Prop := (vp_in ((2 : Int32)) (rK M (k0 + 23)).2) ∧ (vp_in v1 (rK M (k0 + 23)).2) ∧ (w_Mo_copy_J48 post k0 v1 (wI M (k0 + 23) v1.toNatClampNeg (rI M (k0 + 23) ((2 : Int32)).toNatClampNeg)))
theorem g_Mo_copy_J36 {d w : Nat} (hd : 0 ≤ d) (hw : 0 ≤ w) {post : aM → Prop} (k0 : Nat) (v1 : Int32) (o2 : Option aV) (M : aM) (h : w_Mo_copy_J36 post k0 v1 M) : Gd d w 176 (pV post) (36, [some (aR 21 k0), some (aI v1), o2], [], M) := by
  unfold w_Mo_copy_J36 at h
  show Gd d w 176 _ (36, [some (aR 21 k0), some (aI v1), o2], [], M)
  obtain ⟨c0, c1, h⟩ := h
  refine gd_s (P := True ∧ True ∧ True ∧ True ∧ True ∧ True ∧ (vp_in ((2 : Int32)) (rK M (k0 + 23)).2) ∧ (vp_in v1 (rK M (k0 + 23)).2) ∧ True) (σ1 := (48, [some (aR 21 k0), some (aI v1), o2], [], wI M (k0 + 23) v1.toNatClampNeg (rI M (k0 + 23) ((2 : Int32)).toNatClampNeg))) tc_176 rfl 8 (fun u => ⟨_, rfl⟩) ⟨trivial, trivial, trivial, trivial, trivial, trivial, c0, c1, trivial⟩ ?_
  exact g_Mo_copy_J48 hd hw k0 v1 o2 (wI M (k0 + 23) v1.toNatClampNeg (rI M (k0 + 23) ((2 : Int32)).toNatClampNeg)) h
def w_Mo_copy_J24 (post : aM → Prop) (k0 : Nat) (v1 : Int32) (M : aM) : Prop := (vp_in ((2 : Int32)) (rK M (k0 + 15)).2) ∧ (vp_in v1 (rK M (k0 + 15)).2) ∧ (w_Mo_copy_J36 post k0 v1 (wI M (k0 + 15) v1.toNatClampNeg (rI M (k0 + 15) ((2 : Int32)).toNatClampNeg)))
theorem g_Mo_copy_J24 {d w : Nat} (hd : 0 ≤ d) (hw : 0 ≤ w) {post : aM → Prop} (k0 : Nat) (v1 : Int32) (o2 : Option aV) (M : aM) (h : w_Mo_copy_J24 post k0 v1 M) : Gd d w 176 (pV post) (24, [some (aR 21 k0), some (aI v1), o2], [], M) := by
  unfold w_Mo_copy_J24 at h
  show Gd d w 176 _ (24, [some (aR 21 k0), some (aI v1), o2], [], M)
  obtain ⟨c0, c1, h⟩ := h
  refine gd_s (P := True ∧ True ∧ True ∧ True ∧ True ∧ True ∧ (vp_in ((2 : Int32)) (rK M (k0 + 15)).2) ∧ (vp_in v1 (rK M (k0 + 15)).2) ∧ True) (σ1 := (36, [some (aR 21 k0), some (aI v1), o2], [], wI M (k0 + 15) v1.toNatClampNeg (rI M (k0 + 15) ((2 : Int32)).toNatClampNeg))) tc_176 rfl 8 (fun u => ⟨_, rfl⟩) ⟨trivial, trivial, trivial, trivial, trivial, trivial, c0, c1, trivial⟩ ?_
  exact g_Mo_copy_J36 hd hw k0 v1 o2 (wI M (k0 + 15) v1.toNatClampNeg (rI M (k0 + 15) ((2 : Int32)).toNatClampNeg)) h
def w_Mo_copy_J12 (post : aM → Prop) (k0 : Nat) (v1 : Int32) (M : aM) : Prop := (vp_in ((2 : Int32)) (rK M (k0 + 10)).2) ∧ (vp_in v1 (rK M (k0 + 10)).2) ∧ (w_Mo_copy_J24 post k0 v1 (wI M (k0 + 10) v1.toNatClampNeg (rI M (k0 + 10) ((2 : Int32)).toNatClampNeg)))
theorem g_Mo_copy_J12 {d w : Nat} (hd : 0 ≤ d) (hw : 0 ≤ w) {post : aM → Prop} (k0 : Nat) (v1 : Int32) (o2 : Option aV) (M : aM) (h : w_Mo_copy_J12 post k0 v1 M) : Gd d w 176 (pV post) (12, [some (aR 21 k0), some (aI v1), o2], [], M) := by
  unfold w_Mo_copy_J12 at h
  show Gd d w 176 _ (12, [some (aR 21 k0), some (aI v1), o2], [], M)
  obtain ⟨c0, c1, h⟩ := h
  refine gd_s (P := True ∧ True ∧ True ∧ True ∧ True ∧ True ∧ (vp_in ((2 : Int32)) (rK M (k0 + 10)).2) ∧ (vp_in v1 (rK M (k0 + 10)).2) ∧ True) (σ1 := (24, [some (aR 21 k0), some (aI v1), o2], [], wI M (k0 + 10) v1.toNatClampNeg (rI M (k0 + 10) ((2 : Int32)).toNatClampNeg))) tc_176 rfl 8 (fun u => ⟨_, rfl⟩) ⟨trivial, trivial, trivial, trivial, trivial, trivial, c0, c1, trivial⟩ ?_
  exact g_Mo_copy_J24 hd hw k0 v1 o2 (wI M (k0 + 10) v1.toNatClampNeg (rI M (k0 + 10) ((2 : Int32)).toNatClampNeg)) h
/-- PolicyJudgeModel.copy(I)V -/
def w_Mo_copy (post : aM → Prop) (k0 : Nat) (v1 : Int32) (M : aM) : Prop := (vp_in ((2 : Int32)) (rK M (k0 + 3)).2) ∧ (vp_in v1 (rK M (k0 + 3)).2) ∧ (w_Mo_copy_J12 post k0 v1 (wI M (k0 + 3) v1.toNatClampNeg (rI M (k0 + 3) ((2 : Int32)).toNatClampNeg)))
theorem g_Mo_copy {d w : Nat} (hd : 0 ≤ d) (hw : 0 ≤ w) {post : aM → Prop} {k0 : Nat} {v1 : Int32} {M : aM} (h : w_Mo_copy post k0 v1 M) : Gd d w 176 (pV post) (0, aEnt 176 [aR 21 k0, aI v1], [], M) := by
  unfold w_Mo_copy at h
  show Gd d w 176 _ (0, [some (aR 21 k0), some (aI v1), none], [], M)
  obtain ⟨c0, c1, h⟩ := h
  refine gd_s (P := True ∧ True ∧ True ∧ True ∧ True ∧ True ∧ (vp_in ((2 : Int32)) (rK M (k0 + 3)).2) ∧ (vp_in v1 (rK M (k0 + 3)).2) ∧ True) (σ1 := (12, [some (aR 21 k0), some (aI v1), none], [], wI M (k0 + 3) v1.toNatClampNeg (rI M (k0 + 3) ((2 : Int32)).toNatClampNeg))) tc_176 rfl 8 (fun u => ⟨_, rfl⟩) ⟨trivial, trivial, trivial, trivial, trivial, trivial, c0, c1, trivial⟩ ?_
  exact g_Mo_copy_J12 hd hw k0 v1 none (wI M (k0 + 3) v1.toNatClampNeg (rI M (k0 + 3) ((2 : Int32)).toNatClampNeg)) h
theorem tc_137 : tC 137 = c137 := rfl
def w_Mo_load_J61 (post : Int32 → aM → Prop) (k0 : Nat) (v1 : Int32) (M : aM) : Prop := w_Mo_copy (fun M1 => (vp_in v1 (rK M1 (k0 + 10)).2) ∧ post (rI M1 (k0 + 10) v1.toNatClampNeg) M1) k0 v1 M
theorem g_Mo_load_J61 {d w : Nat} (hd : 14 ≤ d) (hw : 383 ≤ w) {post : Int32 → aM → Prop} (k0 : Nat) (v1 : Int32) (M : aM) (h : w_Mo_load_J61 post k0 v1 M) : Gd d w 137 (pI post) (61, [some (aR 21 k0), some (aI v1)], [], M) := by
  unfold w_Mo_load_J61 at h
  show Gd d w 137 _ (61, [some (aR 21 k0), some (aI v1)], [], M)
  refine gd_s (P := True ∧ True ∧ True) (σ1 := (63, [some (aR 21 k0), some (aI v1)], [aI v1, aR 21 k0], M)) tc_137 rfl 2 (fun u => ⟨_, rfl⟩) ⟨trivial, trivial, trivial⟩ ?_
  refine gd_callN (ml := 3) (as := [aR 21 k0, aI v1]) (rest := []) tc_137 rfl rfl rfl rfl rfl (by omega) (by omega) (Nat.le_of_ble_eq_true rfl) rfl (g_Mo_copy (by omega) (by omega) h) (fun r9 M1 h => ?_)
  obtain ⟨rfl, h⟩ := h
  show Gd d w 137 _ (66, [some (aR 21 k0), some (aI v1)], [], M1)
  obtain ⟨c0, h⟩ := h
  refine gd_s (P := True ∧ True ∧ True ∧ (vp_in v1 (rK M1 (k0 + 10)).2) ∧ True) (σ1 := (72, [some (aR 21 k0), some (aI v1)], [aI (rI M1 (k0 + 10) v1.toNatClampNeg)], M1)) tc_137 rfl 4 (fun u => ⟨_, rfl⟩) ⟨trivial, trivial, trivial, c0, trivial⟩ ?_
  exact gd_ret tc_137 rfl rfl trivial (fun _ => rfl) ⟨_, rfl, h⟩
def w_Mo_load_J56 (post : Int32 → aM → Prop) (k0 : Nat) (v1 : Int32) (M : aM) : Prop := (((0 : Int32)) = 0 ∨ ((0 : Int32)) = 1) ∧ (w_Mo_load_J61 post k0 v1 (wI M k0 54 ((0 : Int32))))
theorem g_Mo_load_J56 {d w : Nat} (hd : 14 ≤ d) (hw : 383 ≤ w) {post : Int32 → aM → Prop} (k0 : Nat) (v1 : Int32) (M : aM) (h : w_Mo_load_J56 post k0 v1 M) : Gd d w 137 (pI post) (56, [some (aR 21 k0), some (aI v1)], [], M) := by
  unfold w_Mo_load_J56 at h
  show Gd d w 137 _ (56, [some (aR 21 k0), some (aI v1)], [], M)
  obtain ⟨c0, h⟩ := h
  refine gd_s (P := True ∧ True ∧ (((0 : Int32)) = 0 ∨ ((0 : Int32)) = 1) ∧ True) (σ1 := (61, [some (aR 21 k0), some (aI v1)], [], wI M k0 54 ((0 : Int32)))) tc_137 rfl 3 (fun u => ⟨_, rfl⟩) ⟨trivial, trivial, c0, trivial⟩ ?_
  exact g_Mo_load_J61 hd hw k0 v1 (wI M k0 54 ((0 : Int32))) h
def w_Mo_load_J51 (post : Int32 → aM → Prop) (k0 : Nat) (v1 : Int32) (M : aM) : Prop := (((0 : Int32)) = 0 ∨ ((0 : Int32)) = 1) ∧ (w_Mo_load_J56 post k0 v1 (wI M k0 51 ((0 : Int32))))
theorem g_Mo_load_J51 {d w : Nat} (hd : 14 ≤ d) (hw : 383 ≤ w) {post : Int32 → aM → Prop} (k0 : Nat) (v1 : Int32) (M : aM) (h : w_Mo_load_J51 post k0 v1 M) : Gd d w 137 (pI post) (51, [some (aR 21 k0), some (aI v1)], [], M) := by
  unfold w_Mo_load_J51 at h
  show Gd d w 137 _ (51, [some (aR 21 k0), some (aI v1)], [], M)
  obtain ⟨c0, h⟩ := h
  refine gd_s (P := True ∧ True ∧ (((0 : Int32)) = 0 ∨ ((0 : Int32)) = 1) ∧ True) (σ1 := (56, [some (aR 21 k0), some (aI v1)], [], wI M k0 51 ((0 : Int32)))) tc_137 rfl 3 (fun u => ⟨_, rfl⟩) ⟨trivial, trivial, c0, trivial⟩ ?_
  exact g_Mo_load_J56 hd hw k0 v1 (wI M k0 51 ((0 : Int32))) h
def w_Mo_load_J44 (post : Int32 → aM → Prop) (k0 : Nat) (v1 : Int32) (M : aM) : Prop := (vp_in v1 (rK M (k0 + 28)).2 ∧ (((0 : Int32)) = 0 ∨ ((0 : Int32)) = 1)) ∧ (w_Mo_load_J51 post k0 v1 (wI M (k0 + 28) v1.toNatClampNeg ((0 : Int32))))
theorem g_Mo_load_J44 {d w : Nat} (hd : 14 ≤ d) (hw : 383 ≤ w) {post : Int32 → aM → Prop} (k0 : Nat) (v1 : Int32) (M : aM) (h : w_Mo_load_J44 post k0 v1 M) : Gd d w 137 (pI post) (44, [some (aR 21 k0), some (aI v1)], [], M) := by
  unfold w_Mo_load_J44 at h
  show Gd d w 137 _ (44, [some (aR 21 k0), some (aI v1)], [], M)
  obtain ⟨c0, h⟩ := h
  refine gd_s (P := True ∧ True ∧ True ∧ True ∧ (vp_in v1 (rK M (k0 + 28)).2 ∧ (((0 : Int32)) = 0 ∨ ((0 : Int32)) = 1)) ∧ True) (σ1 := (51, [some (aR 21 k0), some (aI v1)], [], wI M (k0 + 28) v1.toNatClampNeg ((0 : Int32)))) tc_137 rfl 5 (fun u => ⟨_, rfl⟩) ⟨trivial, trivial, trivial, trivial, c0, trivial⟩ ?_
  exact g_Mo_load_J51 hd hw k0 v1 (wI M (k0 + 28) v1.toNatClampNeg ((0 : Int32))) h
/-- PolicyJudgeModel.load(I)I -/
def w_Mo_load (post : Int32 → aM → Prop) (k0 : Nat) (v1 : Int32) (M : aM) : Prop := w_Mo_isText (fun x1 => w_Mo_goes (fun x2 M2 => ((¬ x2 = ((0 : Int32))) → w_Mo_readText (fun M3 => (((rI (wI M3 k0 2 ((0 : Int32))) k0 38) = ((-1 : Int32))) → (vp_in v1 (rK M3 (k0 + 2)).2 ∧ (((1 : Int32)) = 0 ∨ ((1 : Int32)) = 1)) ∧ (w_Mo_load_J44 post k0 v1 (wI (wI M3 k0 2 ((0 : Int32))) (k0 + 2) v1.toNatClampNeg ((1 : Int32))))) ∧ (¬ ((rI (wI M3 k0 2 ((0 : Int32))) k0 38) = ((-1 : Int32))) → post (((-1 : Int32)) - (rI (wI M3 k0 2 ((0 : Int32))) k0 38)) (wI M3 k0 2 ((0 : Int32))))) k0 M2) ∧ (¬ (¬ x2 = ((0 : Int32))) → post ((0 : Int32)) M2)) k0 x1 M) v1 M
theorem g_Mo_load {d w : Nat} (hd : 14 ≤ d) (hw : 383 ≤ w) {post : Int32 → aM → Prop} {k0 : Nat} {v1 : Int32} {M : aM} (h : w_Mo_load post k0 v1 M) : Gd d w 137 (pI post) (0, aEnt 137 [aR 21 k0, aI v1], [], M) := by
  unfold w_Mo_load at h
  show Gd d w 137 _ (0, [some (aR 21 k0), some (aI v1)], [], M)
  refine gd_s (P := True ∧ True ∧ True) (σ1 := (2, [some (aR 21 k0), some (aI v1)], [aI v1, aR 21 k0], M)) tc_137 rfl 2 (fun u => ⟨_, rfl⟩) ⟨trivial, trivial, trivial⟩ ?_
  refine gd_callN (ml := 1) (as := [aI v1]) (rest := [aR 21 k0]) tc_137 rfl rfl rfl rfl rfl (by omega) (by omega) (Nat.le_of_ble_eq_true rfl) rfl (g_Mo_isText (by omega) (by omega) h) (fun r9 M9 h => ?_)
  obtain ⟨x1, rfl, e9, h⟩ := h
  subst M9
  show Gd d w 137 _ (5, [some (aR 21 k0), some (aI v1)], [aI x1, aR 21 k0], M)
  refine gd_callN (ml := 2) (as := [aR 21 k0, aI x1]) (rest := []) tc_137 rfl rfl rfl rfl rfl (by omega) (by omega) (Nat.le_of_ble_eq_true rfl) rfl (g_Mo_goes (by omega) (by omega) h) (fun r9 M2 h => ?_)
  obtain ⟨x2, rfl, h⟩ := h
  show Gd d w 137 _ (8, [some (aR 21 k0), some (aI v1)], [aI x2], M2)
  refine gd_br (c := ¬ x2 = ((0 : Int32))) (st1 := []) tc_137 rfl rfl (fun _ => rfl) ⟨fun hc => ?_, fun hc => ?_⟩
  · have h := h.1 hc
    show Gd d w 137 _ (13, [some (aR 21 k0), some (aI v1)], [], M2)
    refine gd_s (P := True ∧ True) (σ1 := (14, [some (aR 21 k0), some (aI v1)], [aR 21 k0], M2)) tc_137 rfl 1 (fun u => ⟨_, rfl⟩) ⟨trivial, trivial⟩ ?_
    refine gd_callN (ml := 2) (as := [aR 21 k0]) (rest := []) tc_137 rfl rfl rfl rfl rfl (by omega) (by omega) (Nat.le_of_ble_eq_true rfl) rfl (g_Mo_readText (by omega) (by omega) h) (fun r9 M3 h => ?_)
    obtain ⟨rfl, h⟩ := h
    show Gd d w 137 _ (17, [some (aR 21 k0), some (aI v1)], [], M3)
    refine gd_s (P := True ∧ True ∧ True ∧ True ∧ True ∧ True ∧ True) (σ1 := (27, [some (aR 21 k0), some (aI v1)], [aI ((-1 : Int32)), aI (rI (wI M3 k0 2 ((0 : Int32))) k0 38)], wI M3 k0 2 ((0 : Int32)))) tc_137 rfl 6 (fun u => ⟨_, rfl⟩) ⟨trivial, trivial, trivial, trivial, trivial, trivial, trivial⟩ ?_
    refine gd_br (c := (rI (wI M3 k0 2 ((0 : Int32))) k0 38) = ((-1 : Int32))) (st1 := []) tc_137 rfl rfl (fun _ => rfl) ⟨fun hc => ?_, fun hc => ?_⟩
    · have h := h.1 hc
      show Gd d w 137 _ (37, [some (aR 21 k0), some (aI v1)], [], wI M3 k0 2 ((0 : Int32)))
      obtain ⟨c0, h⟩ := h
      refine gd_s (P := True ∧ True ∧ True ∧ True ∧ (vp_in v1 (rK M3 (k0 + 2)).2 ∧ (((1 : Int32)) = 0 ∨ ((1 : Int32)) = 1)) ∧ True) (σ1 := (44, [some (aR 21 k0), some (aI v1)], [], wI (wI M3 k0 2 ((0 : Int32))) (k0 + 2) v1.toNatClampNeg ((1 : Int32)))) tc_137 rfl 5 (fun u => ⟨_, rfl⟩) ⟨trivial, trivial, trivial, trivial, c0, trivial⟩ ?_
      exact g_Mo_load_J44 hd hw k0 v1 (wI (wI M3 k0 2 ((0 : Int32))) (k0 + 2) v1.toNatClampNeg ((1 : Int32))) h
    · have h := h.2 hc
      show Gd d w 137 _ (30, [some (aR 21 k0), some (aI v1)], [], wI M3 k0 2 ((0 : Int32)))
      refine gd_s (P := True ∧ True ∧ True ∧ True ∧ True) (σ1 := (36, [some (aR 21 k0), some (aI v1)], [aI (((-1 : Int32)) - (rI (wI M3 k0 2 ((0 : Int32))) k0 38))], wI M3 k0 2 ((0 : Int32)))) tc_137 rfl 4 (fun u => ⟨_, rfl⟩) ⟨trivial, trivial, trivial, trivial, trivial⟩ ?_
      exact gd_ret tc_137 rfl rfl trivial (fun _ => rfl) ⟨_, rfl, h⟩
  · have h := h.2 hc
    show Gd d w 137 _ (11, [some (aR 21 k0), some (aI v1)], [], M2)
    refine gd_s (P := True ∧ True) (σ1 := (12, [some (aR 21 k0), some (aI v1)], [aI ((0 : Int32))], M2)) tc_137 rfl 1 (fun u => ⟨_, rfl⟩) ⟨trivial, trivial⟩ ?_
    exact gd_ret tc_137 rfl rfl trivial (fun _ => rfl) ⟨_, rfl, h⟩
theorem tc_177 : tC 177 = c177 := rfl
/-- PolicyJudgeModel.fault()I -/
def w_Mo_fault (post : Int32 → Prop) (k0 : Nat) (M : aM) : Prop := post (rI M k0 32)
theorem g_Mo_fault {d w : Nat} (hd : 0 ≤ d) (hw : 0 ≤ w) {post : Int32 → Prop} {k0 : Nat} {M : aM} (h : w_Mo_fault post k0 M) : Gd d w 177 (pIn M post) (0, aEnt 177 [aR 21 k0], [], M) := by
  unfold w_Mo_fault at h
  show Gd d w 177 _ (0, [some (aR 21 k0)], [], M)
  refine gd_s (P := True ∧ True ∧ True) (σ1 := (4, [some (aR 21 k0)], [aI (rI M k0 32)], M)) tc_177 rfl 2 (fun u => ⟨_, rfl⟩) ⟨trivial, trivial, trivial⟩ ?_
  exact gd_ret tc_177 rfl rfl trivial (fun _ => rfl) ⟨_, rfl, rfl, h⟩
theorem tc_178 : tC 178 = c178 := rfl
def w_Mo_count_J22 (post : Int32 → aM → Prop) (k0 : Nat) (v1 : Int32) (v2 : Int32) (t0 : Nat) (s1 : Int32) (M : aM) : Prop := w_Mo_goes (fun x1 M1 => ((¬ x1 = ((0 : Int32))) → (vp_in v1 (rK M1 (k0 + 2)).2) ∧ (((¬ (rI M1 (k0 + 2) v1.toNatClampNeg) = ((0 : Int32))) → ((¬ v2 = ((0 : Int32))) → ((¬ v2 = ((1 : Int32))) → ((¬ v2 = ((2 : Int32))) → (vp_in v1 (rK M1 (k0 + 24)).2) ∧ post (rI M1 (k0 + 24) v1.toNatClampNeg) M1) ∧ (¬ (¬ v2 = ((2 : Int32))) → (vp_in v1 (rK M1 (k0 + 15)).2) ∧ post (rI M1 (k0 + 15) v1.toNatClampNeg) M1)) ∧ (¬ (¬ v2 = ((1 : Int32))) → (vp_in v1 (rK M1 (k0 + 10)).2) ∧ post (rI M1 (k0 + 10) v1.toNatClampNeg) M1)) ∧ (¬ (¬ v2 = ((0 : Int32))) → (vp_in v1 (rK M1 (k0 + 3)).2) ∧ post (rI M1 (k0 + 3) v1.toNatClampNeg) M1)) ∧ (¬ (¬ (rI M1 (k0 + 2) v1.toNatClampNeg) = ((0 : Int32))) → post ((0 : Int32)) M1))) ∧ (¬ (¬ x1 = ((0 : Int32))) → post ((0 : Int32)) M1)) t0 s1 M
theorem g_Mo_count_J22 {d w : Nat} (hd : 2 ≤ d) (hw : 42 ≤ w) {post : Int32 → aM → Prop} (k0 : Nat) (v1 : Int32) (v2 : Int32) (t0 : Nat) (s1 : Int32) (M : aM) (h : w_Mo_count_J22 post k0 v1 v2 t0 s1 M) : Gd d w 178 (pI post) (22, [some (aR 21 k0), some (aI v1), some (aI v2)], [aI s1, aR 21 t0], M) := by
  unfold w_Mo_count_J22 at h
  show Gd d w 178 _ (22, [some (aR 21 k0), some (aI v1), some (aI v2)], [aI s1, aR 21 t0], M)
  refine gd_callN (ml := 2) (as := [aR 21 t0, aI s1]) (rest := []) tc_178 rfl rfl rfl rfl rfl (by omega) (by omega) (Nat.le_of_ble_eq_true rfl) rfl (g_Mo_goes (by omega) (by omega) h) (fun r9 M1 h => ?_)
  obtain ⟨x1, rfl, h⟩ := h
  show Gd d w 178 _ (25, [some (aR 21 k0), some (aI v1), some (aI v2)], [aI x1], M1)
  refine gd_br (c := ¬ x1 = ((0 : Int32))) (st1 := []) tc_178 rfl rfl (fun _ => rfl) ⟨fun hc => ?_, fun hc => ?_⟩
  · have h := h.1 hc
    show Gd d w 178 _ (30, [some (aR 21 k0), some (aI v1), some (aI v2)], [], M1)
    obtain ⟨c0, h⟩ := h
    refine gd_s (P := True ∧ True ∧ True ∧ (vp_in v1 (rK M1 (k0 + 2)).2) ∧ True) (σ1 := (36, [some (aR 21 k0), some (aI v1), some (aI v2)], [aI (rI M1 (k0 + 2) v1.toNatClampNeg)], M1)) tc_178 rfl 4 (fun u => ⟨_, rfl⟩) ⟨trivial, trivial, trivial, c0, trivial⟩ ?_
    refine gd_br (c := ¬ (rI M1 (k0 + 2) v1.toNatClampNeg) = ((0 : Int32))) (st1 := []) tc_178 rfl rfl (fun _ => rfl) ⟨fun hc => ?_, fun hc => ?_⟩
    · have h := h.1 hc
      show Gd d w 178 _ (41, [some (aR 21 k0), some (aI v1), some (aI v2)], [], M1)
      refine gd_s (P := True ∧ True) (σ1 := (42, [some (aR 21 k0), some (aI v1), some (aI v2)], [aI v2], M1)) tc_178 rfl 1 (fun u => ⟨_, rfl⟩) ⟨trivial, trivial⟩ ?_
      refine gd_br (c := ¬ v2 = ((0 : Int32))) (st1 := []) tc_178 rfl rfl (fun _ => rfl) ⟨fun hc => ?_, fun hc => ?_⟩
      · have h := h.1 hc
        show Gd d w 178 _ (54, [some (aR 21 k0), some (aI v1), some (aI v2)], [], M1)
        refine gd_s (P := True ∧ True ∧ True) (σ1 := (56, [some (aR 21 k0), some (aI v1), some (aI v2)], [aI ((1 : Int32)), aI v2], M1)) tc_178 rfl 2 (fun u => ⟨_, rfl⟩) ⟨trivial, trivial, trivial⟩ ?_
        refine gd_br (c := ¬ v2 = ((1 : Int32))) (st1 := []) tc_178 rfl rfl (fun _ => rfl) ⟨fun hc => ?_, fun hc => ?_⟩
        · have h := h.1 hc
          show Gd d w 178 _ (68, [some (aR 21 k0), some (aI v1), some (aI v2)], [], M1)
          refine gd_s (P := True ∧ True ∧ True) (σ1 := (70, [some (aR 21 k0), some (aI v1), some (aI v2)], [aI ((2 : Int32)), aI v2], M1)) tc_178 rfl 2 (fun u => ⟨_, rfl⟩) ⟨trivial, trivial, trivial⟩ ?_
          refine gd_br (c := ¬ v2 = ((2 : Int32))) (st1 := []) tc_178 rfl rfl (fun _ => rfl) ⟨fun hc => ?_, fun hc => ?_⟩
          · have h := h.1 hc
            show Gd d w 178 _ (82, [some (aR 21 k0), some (aI v1), some (aI v2)], [], M1)
            obtain ⟨c0, h⟩ := h
            refine gd_s (P := True ∧ True ∧ True ∧ (vp_in v1 (rK M1 (k0 + 24)).2) ∧ True) (σ1 := (88, [some (aR 21 k0), some (aI v1), some (aI v2)], [aI (rI M1 (k0 + 24) v1.toNatClampNeg)], M1)) tc_178 rfl 4 (fun u => ⟨_, rfl⟩) ⟨trivial, trivial, trivial, c0, trivial⟩ ?_
            exact gd_ret tc_178 rfl rfl trivial (fun _ => rfl) ⟨_, rfl, h⟩
          · have h := h.2 hc
            show Gd d w 178 _ (73, [some (aR 21 k0), some (aI v1), some (aI v2)], [], M1)
            obtain ⟨c0, h⟩ := h
            refine gd_s (P := True ∧ True ∧ True ∧ (vp_in v1 (rK M1 (k0 + 15)).2) ∧ True ∧ True) (σ1 := (88, [some (aR 21 k0), some (aI v1), some (aI v2)], [aI (rI M1 (k0 + 15) v1.toNatClampNeg)], M1)) tc_178 rfl 5 (fun u => ⟨_, rfl⟩) ⟨trivial, trivial, trivial, c0, trivial, trivial⟩ ?_
            exact gd_ret tc_178 rfl rfl trivial (fun _ => rfl) ⟨_, rfl, h⟩
        · have h := h.2 hc
          show Gd d w 178 _ (59, [some (aR 21 k0), some (aI v1), some (aI v2)], [], M1)
          obtain ⟨c0, h⟩ := h
          refine gd_s (P := True ∧ True ∧ True ∧ (vp_in v1 (rK M1 (k0 + 10)).2) ∧ True ∧ True) (σ1 := (88, [some (aR 21 k0), some (aI v1), some (aI v2)], [aI (rI M1 (k0 + 10) v1.toNatClampNeg)], M1)) tc_178 rfl 5 (fun u => ⟨_, rfl⟩) ⟨trivial, trivial, trivial, c0, trivial, trivial⟩ ?_
          exact gd_ret tc_178 rfl rfl trivial (fun _ => rfl) ⟨_, rfl, h⟩
      · have h := h.2 hc
        show Gd d w 178 _ (45, [some (aR 21 k0), some (aI v1), some (aI v2)], [], M1)
        obtain ⟨c0, h⟩ := h
        refine gd_s (P := True ∧ True ∧ True ∧ (vp_in v1 (rK M1 (k0 + 3)).2) ∧ True ∧ True) (σ1 := (88, [some (aR 21 k0), some (aI v1), some (aI v2)], [aI (rI M1 (k0 + 3) v1.toNatClampNeg)], M1)) tc_178 rfl 5 (fun u => ⟨_, rfl⟩) ⟨trivial, trivial, trivial, c0, trivial, trivial⟩ ?_
        exact gd_ret tc_178 rfl rfl trivial (fun _ => rfl) ⟨_, rfl, h⟩
    · have h := h.2 hc
      show Gd d w 178 _ (39, [some (aR 21 k0), some (aI v1), some (aI v2)], [], M1)
      refine gd_s (P := True ∧ True) (σ1 := (40, [some (aR 21 k0), some (aI v1), some (aI v2)], [aI ((0 : Int32))], M1)) tc_178 rfl 1 (fun u => ⟨_, rfl⟩) ⟨trivial, trivial⟩ ?_
      exact gd_ret tc_178 rfl rfl trivial (fun _ => rfl) ⟨_, rfl, h⟩
  · have h := h.2 hc
    show Gd d w 178 _ (28, [some (aR 21 k0), some (aI v1), some (aI v2)], [], M1)
    refine gd_s (P := True ∧ True) (σ1 := (29, [some (aR 21 k0), some (aI v1), some (aI v2)], [aI ((0 : Int32))], M1)) tc_178 rfl 1 (fun u => ⟨_, rfl⟩) ⟨trivial, trivial⟩ ?_
    exact gd_ret tc_178 rfl rfl trivial (fun _ => rfl) ⟨_, rfl, h⟩
def w_Mo_count_J21 (post : Int32 → aM → Prop) (k0 : Nat) (v1 : Int32) (v2 : Int32) (t0 : Nat) (M : aM) : Prop := w_Mo_count_J22 post k0 v1 v2 t0 ((0 : Int32)) M
theorem g_Mo_count_J21 {d w : Nat} (hd : 2 ≤ d) (hw : 42 ≤ w) {post : Int32 → aM → Prop} (k0 : Nat) (v1 : Int32) (v2 : Int32) (t0 : Nat) (M : aM) (h : w_Mo_count_J21 post k0 v1 v2 t0 M) : Gd d w 178 (pI post) (21, [some (aR 21 k0), some (aI v1), some (aI v2)], [aR 21 t0], M) := by
  unfold w_Mo_count_J21 at h
  show Gd d w 178 _ (21, [some (aR 21 k0), some (aI v1), some (aI v2)], [aR 21 t0], M)
  refine gd_s (P := True ∧ True) (σ1 := (22, [some (aR 21 k0), some (aI v1), some (aI v2)], [aI ((0 : Int32)), aR 21 t0], M)) tc_178 rfl 1 (fun u => ⟨_, rfl⟩) ⟨trivial, trivial⟩ ?_
  exact g_Mo_count_J22 hd hw k0 v1 v2 t0 ((0 : Int32)) M h
/-- PolicyJudgeModel.count(II)I -/
def w_Mo_count (post : Int32 → aM → Prop) (k0 : Nat) (v1 : Int32) (v2 : Int32) (M : aM) : Prop := w_Mo_isText (fun x1 => ((x1 = ((0 : Int32))) → w_Mo_count_J21 post k0 v1 v2 k0 M) ∧ (¬ (x1 = ((0 : Int32))) → w_Mo_in (fun x2 => ((x2 = ((0 : Int32))) → w_Mo_count_J21 post k0 v1 v2 k0 M) ∧ (¬ (x2 = ((0 : Int32))) → w_Mo_count_J22 post k0 v1 v2 k0 ((1 : Int32)) M)) v2 ((0 : Int32)) ((3 : Int32)) M)) v1 M
theorem g_Mo_count {d w : Nat} (hd : 2 ≤ d) (hw : 42 ≤ w) {post : Int32 → aM → Prop} {k0 : Nat} {v1 : Int32} {v2 : Int32} {M : aM} (h : w_Mo_count post k0 v1 v2 M) : Gd d w 178 (pI post) (0, aEnt 178 [aR 21 k0, aI v1, aI v2], [], M) := by
  unfold w_Mo_count at h
  show Gd d w 178 _ (0, [some (aR 21 k0), some (aI v1), some (aI v2)], [], M)
  refine gd_s (P := True ∧ True ∧ True) (σ1 := (2, [some (aR 21 k0), some (aI v1), some (aI v2)], [aI v1, aR 21 k0], M)) tc_178 rfl 2 (fun u => ⟨_, rfl⟩) ⟨trivial, trivial, trivial⟩ ?_
  refine gd_callN (ml := 1) (as := [aI v1]) (rest := [aR 21 k0]) tc_178 rfl rfl rfl rfl rfl (by omega) (by omega) (Nat.le_of_ble_eq_true rfl) rfl (g_Mo_isText (by omega) (by omega) h) (fun r9 M9 h => ?_)
  obtain ⟨x1, rfl, e9, h⟩ := h
  subst M9
  show Gd d w 178 _ (5, [some (aR 21 k0), some (aI v1), some (aI v2)], [aI x1, aR 21 k0], M)
  refine gd_br (c := x1 = ((0 : Int32))) (st1 := [aR 21 k0]) tc_178 rfl rfl (fun _ => rfl) ⟨fun hc => ?_, fun hc => ?_⟩
  · have h := h.1 hc
    exact g_Mo_count_J21 hd hw k0 v1 v2 k0 M h
  · have h := h.2 hc
    show Gd d w 178 _ (8, [some (aR 21 k0), some (aI v1), some (aI v2)], [aR 21 k0], M)
    refine gd_s (P := True ∧ True ∧ True ∧ True) (σ1 := (11, [some (aR 21 k0), some (aI v1), some (aI v2)], [aI ((3 : Int32)), aI ((0 : Int32)), aI v2, aR 21 k0], M)) tc_178 rfl 3 (fun u => ⟨_, rfl⟩) ⟨trivial, trivial, trivial, trivial⟩ ?_
    refine gd_callN (ml := 3) (as := [aI v2, aI ((0 : Int32)), aI ((3 : Int32))]) (rest := [aR 21 k0]) tc_178 rfl rfl rfl rfl rfl (by omega) (by omega) (Nat.le_of_ble_eq_true rfl) rfl (g_Mo_in (by omega) (by omega) h) (fun r9 M9 h => ?_)
    obtain ⟨x2, rfl, e9, h⟩ := h
    subst M9
    show Gd d w 178 _ (14, [some (aR 21 k0), some (aI v1), some (aI v2)], [aI x2, aR 21 k0], M)
    refine gd_br (c := x2 = ((0 : Int32))) (st1 := [aR 21 k0]) tc_178 rfl rfl (fun _ => rfl) ⟨fun hc => ?_, fun hc => ?_⟩
    · have h := h.1 hc
      exact g_Mo_count_J21 hd hw k0 v1 v2 k0 M h
    · have h := h.2 hc
      show Gd d w 178 _ (17, [some (aR 21 k0), some (aI v1), some (aI v2)], [aR 21 k0], M)
      refine gd_s (P := True ∧ True ∧ True) (σ1 := (22, [some (aR 21 k0), some (aI v1), some (aI v2)], [aI ((1 : Int32)), aR 21 k0], M)) tc_178 rfl 2 (fun u => ⟨_, rfl⟩) ⟨trivial, trivial, trivial⟩ ?_
      exact g_Mo_count_J22 hd hw k0 v1 v2 k0 ((1 : Int32)) M h
theorem tc_180 : tC 180 = c180 := rfl
/-- PolicyJudgeModel.isNode(II)Z -/
def w_Mo_isNode (post : Int32 → Prop) (k0 : Nat) (v1 : Int32) (v2 : Int32) (M : aM) : Prop := w_Mo_isText (fun x1 => ((x1 = ((0 : Int32))) → (((0 : Int32)) = 0 ∨ ((0 : Int32)) = 1) ∧ post ((0 : Int32))) ∧ (¬ (x1 = ((0 : Int32))) → (vp_in v1 (rK M (k0 + 2)).2) ∧ ((((rI M (k0 + 2) v1.toNatClampNeg) = ((0 : Int32))) → (((0 : Int32)) = 0 ∨ ((0 : Int32)) = 1) ∧ post ((0 : Int32))) ∧ (¬ ((rI M (k0 + 2) v1.toNatClampNeg) = ((0 : Int32))) → (vp_in v1 (rK M (k0 + 10)).2) ∧ (w_Mo_in (fun x2 => ((x2 = ((0 : Int32))) → (((0 : Int32)) = 0 ∨ ((0 : Int32)) = 1) ∧ post ((0 : Int32))) ∧ (¬ (x2 = ((0 : Int32))) → (((1 : Int32)) = 0 ∨ ((1 : Int32)) = 1) ∧ post ((1 : Int32)))) v2 ((0 : Int32)) ((rI M (k0 + 10) v1.toNatClampNeg) - ((1 : Int32))) M))))) v1 M
theorem g_Mo_isNode {d w : Nat} (hd : 2 ≤ d) (hw : 42 ≤ w) {post : Int32 → Prop} {k0 : Nat} {v1 : Int32} {v2 : Int32} {M : aM} (h : w_Mo_isNode post k0 v1 v2 M) : Gd d w 180 (pIn M post) (0, aEnt 180 [aR 21 k0, aI v1, aI v2], [], M) := by
  unfold w_Mo_isNode at h
  show Gd d w 180 _ (0, [some (aR 21 k0), some (aI v1), some (aI v2)], [], M)
  refine gd_s (P := True ∧ True) (σ1 := (1, [some (aR 21 k0), some (aI v1), some (aI v2)], [aI v1], M)) tc_180 rfl 1 (fun u => ⟨_, rfl⟩) ⟨trivial, trivial⟩ ?_
  refine gd_callN (ml := 1) (as := [aI v1]) (rest := []) tc_180 rfl rfl rfl rfl rfl (by omega) (by omega) (Nat.le_of_ble_eq_true rfl) rfl (g_Mo_isText (by omega) (by omega) h) (fun r9 M9 h => ?_)
  obtain ⟨x1, rfl, e9, h⟩ := h
  subst M9
  show Gd d w 180 _ (4, [some (aR 21 k0), some (aI v1), some (aI v2)], [aI x1], M)
  refine gd_br (c := x1 = ((0 : Int32))) (st1 := []) tc_180 rfl rfl (fun _ => rfl) ⟨fun hc => ?_, fun hc => ?_⟩
  · have h := h.1 hc
    show Gd d w 180 _ (36, [some (aR 21 k0), some (aI v1), some (aI v2)], [], M)
    refine gd_s (P := True ∧ True) (σ1 := (37, [some (aR 21 k0), some (aI v1), some (aI v2)], [aI ((0 : Int32))], M)) tc_180 rfl 1 (fun u => ⟨_, rfl⟩) ⟨trivial, trivial⟩ ?_
    exact gd_ret tc_180 rfl rfl h.1 (fun _ => rfl) ⟨_, rfl, rfl, h.2⟩
  · have h := h.2 hc
    show Gd d w 180 _ (7, [some (aR 21 k0), some (aI v1), some (aI v2)], [], M)
    obtain ⟨c0, h⟩ := h
    refine gd_s (P := True ∧ True ∧ True ∧ (vp_in v1 (rK M (k0 + 2)).2) ∧ True) (σ1 := (13, [some (aR 21 k0), some (aI v1), some (aI v2)], [aI (rI M (k0 + 2) v1.toNatClampNeg)], M)) tc_180 rfl 4 (fun u => ⟨_, rfl⟩) ⟨trivial, trivial, trivial, c0, trivial⟩ ?_
    refine gd_br (c := (rI M (k0 + 2) v1.toNatClampNeg) = ((0 : Int32))) (st1 := []) tc_180 rfl rfl (fun _ => rfl) ⟨fun hc => ?_, fun hc => ?_⟩
    · have h := h.1 hc
      show Gd d w 180 _ (36, [some (aR 21 k0), some (aI v1), some (aI v2)], [], M)
      refine gd_s (P := True ∧ True) (σ1 := (37, [some (aR 21 k0), some (aI v1), some (aI v2)], [aI ((0 : Int32))], M)) tc_180 rfl 1 (fun u => ⟨_, rfl⟩) ⟨trivial, trivial⟩ ?_
      exact gd_ret tc_180 rfl rfl h.1 (fun _ => rfl) ⟨_, rfl, rfl, h.2⟩
    · have h := h.2 hc
      show Gd d w 180 _ (16, [some (aR 21 k0), some (aI v1), some (aI v2)], [], M)
      obtain ⟨c0, h⟩ := h
      refine gd_s (P := True ∧ True ∧ True ∧ True ∧ True ∧ (vp_in v1 (rK M (k0 + 10)).2) ∧ True ∧ True ∧ True) (σ1 := (26, [some (aR 21 k0), some (aI v1), some (aI v2)], [aI ((rI M (k0 + 10) v1.toNatClampNeg) - ((1 : Int32))), aI ((0 : Int32)), aI v2], M)) tc_180 rfl 8 (fun u => ⟨_, rfl⟩) ⟨trivial, trivial, trivial, trivial, trivial, c0, trivial, trivial, trivial⟩ ?_
      refine gd_callN (ml := 3) (as := [aI v2, aI ((0 : Int32)), aI ((rI M (k0 + 10) v1.toNatClampNeg) - ((1 : Int32)))]) (rest := []) tc_180 rfl rfl rfl rfl rfl (by omega) (by omega) (Nat.le_of_ble_eq_true rfl) rfl (g_Mo_in (by omega) (by omega) h) (fun r9 M9 h => ?_)
      obtain ⟨x2, rfl, e9, h⟩ := h
      subst M9
      show Gd d w 180 _ (29, [some (aR 21 k0), some (aI v1), some (aI v2)], [aI x2], M)
      refine gd_br (c := x2 = ((0 : Int32))) (st1 := []) tc_180 rfl rfl (fun _ => rfl) ⟨fun hc => ?_, fun hc => ?_⟩
      · have h := h.1 hc
        show Gd d w 180 _ (36, [some (aR 21 k0), some (aI v1), some (aI v2)], [], M)
        refine gd_s (P := True ∧ True) (σ1 := (37, [some (aR 21 k0), some (aI v1), some (aI v2)], [aI ((0 : Int32))], M)) tc_180 rfl 1 (fun u => ⟨_, rfl⟩) ⟨trivial, trivial⟩ ?_
        exact gd_ret tc_180 rfl rfl h.1 (fun _ => rfl) ⟨_, rfl, rfl, h.2⟩
      · have h := h.2 hc
        show Gd d w 180 _ (32, [some (aR 21 k0), some (aI v1), some (aI v2)], [], M)
        refine gd_s (P := True ∧ True ∧ True) (σ1 := (37, [some (aR 21 k0), some (aI v1), some (aI v2)], [aI ((1 : Int32))], M)) tc_180 rfl 2 (fun u => ⟨_, rfl⟩) ⟨trivial, trivial, trivial⟩ ?_
        exact gd_ret tc_180 rfl rfl h.1 (fun _ => rfl) ⟨_, rfl, rfl, h.2⟩
theorem tc_179 : tC 179 = c179 := rfl
def w_Mo_node_L107 (post : Int32 → aM → Prop) : Nat → Nat → Int32 → Int32 → Int32 → Int32 → aM → Prop
  | 0, _, _, _, _, _, _ => False
  | n + 1, k0, v1, v2, v5, v6, M => (vp_in v1 (rK M (k0 + 10)).2) ∧ ((((rI M (k0 + 10) v1.toNatClampNeg) ≤ v6) → post v5 M) ∧ (¬ ((rI M (k0 + 10) v1.toNatClampNeg) ≤ v6) → (vp_in ((((100 : Int32)) * v1) + v6) (rK M (k0 + 13)).2) ∧ (((¬ (rI M (k0 + 13) ((((100 : Int32)) * v1) + v6).toNatClampNeg) = v2) → w_Mo_node_L107 post n k0 v1 v2 v5 (v6 + (1 : Int32)) M) ∧ (¬ (¬ (rI M (k0 + 13) ((((100 : Int32)) * v1) + v6).toNatClampNeg) = v2) → w_Mo_node_L107 post n k0 v1 v2 (v5 + ((1 : Int32))) (v6 + (1 : Int32)) M))))
theorem g_Mo_node_L107 {d w : Nat} (hd : 3 ≤ d) (hw : 64 ≤ w) {post : Int32 → aM → Prop} : ∀ (n : Nat) (k0 : Nat) (v1 : Int32) (v2 : Int32) (v5 : Int32) (v6 : Int32) (o3 o4 : Option aV) (M : aM), w_Mo_node_L107 post n k0 v1 v2 v5 v6 M → Gd d w 179 (pI post) (107, [some (aR 21 k0), some (aI v1), some (aI v2), o3, o4, some (aI v5), some (aI v6)], [], M) := by
  intro n
  induction n with
  | zero => intro k0 v1 v2 v5 v6 o3 o4 M h; exact h.elim
  | succ n ih =>
    intro k0 v1 v2 v5 v6 o3 o4 M h
    show Gd d w 179 _ (107, [some (aR 21 k0), some (aI v1), some (aI v2), o3, o4, some (aI v5), some (aI v6)], [], M)
    obtain ⟨c0, h⟩ := h
    refine gd_s (P := True ∧ True ∧ True ∧ True ∧ (vp_in v1 (rK M (k0 + 10)).2) ∧ True) (σ1 := (115, [some (aR 21 k0), some (aI v1), some (aI v2), o3, o4, some (aI v5), some (aI v6)], [aI (rI M (k0 + 10) v1.toNatClampNeg), aI v6], M)) tc_179 rfl 5 (fun u => ⟨_, rfl⟩) ⟨trivial, trivial, trivial, trivial, c0, trivial⟩ ?_
    refine gd_br (c := (rI M (k0 + 10) v1.toNatClampNeg) ≤ v6) (st1 := []) tc_179 rfl rfl (fun _ => rfl) ⟨fun hc => ?_, fun hc => ?_⟩
    · have h := h.1 hc
      show Gd d w 179 _ (151, [some (aR 21 k0), some (aI v1), some (aI v2), o3, o4, some (aI v5), some (aI v6)], [], M)
      refine gd_s (P := True ∧ True) (σ1 := (153, [some (aR 21 k0), some (aI v1), some (aI v2), o3, o4, some (aI v5), some (aI v6)], [aI v5], M)) tc_179 rfl 1 (fun u => ⟨_, rfl⟩) ⟨trivial, trivial⟩ ?_
      exact gd_ret tc_179 rfl rfl trivial (fun _ => rfl) ⟨_, rfl, h⟩
    · have h := h.2 hc
      show Gd d w 179 _ (118, [some (aR 21 k0), some (aI v1), some (aI v2), o3, o4, some (aI v5), some (aI v6)], [], M)
      obtain ⟨c0, h⟩ := h
      refine gd_s (P := True ∧ True ∧ True ∧ True ∧ True ∧ True ∧ True ∧ (vp_in ((((100 : Int32)) * v1) + v6) (rK M (k0 + 13)).2) ∧ True ∧ True) (σ1 := (131, [some (aR 21 k0), some (aI v1), some (aI v2), o3, o4, some (aI v5), some (aI v6)], [aI v2, aI (rI M (k0 + 13) ((((100 : Int32)) * v1) + v6).toNatClampNeg)], M)) tc_179 rfl 9 (fun u => ⟨_, rfl⟩) ⟨trivial, trivial, trivial, trivial, trivial, trivial, trivial, c0, trivial, trivial⟩ ?_
      refine gd_br (c := ¬ (rI M (k0 + 13) ((((100 : Int32)) * v1) + v6).toNatClampNeg) = v2) (st1 := []) tc_179 rfl rfl (fun _ => rfl) ⟨fun hc => ?_, fun hc => ?_⟩
      · have h := h.1 hc
        show Gd d w 179 _ (141, [some (aR 21 k0), some (aI v1), some (aI v2), o3, o4, some (aI v5), some (aI v6)], [], M)
        refine gd_s (P := True ∧ True ∧ True ∧ True ∧ True) (σ1 := (107, [some (aR 21 k0), some (aI v1), some (aI v2), o3, o4, some (aI v5), some (aI (v6 + (1 : Int32)))], [], M)) tc_179 rfl 4 (fun u => ⟨_, rfl⟩) ⟨trivial, trivial, trivial, trivial, trivial⟩ ?_
        exact ih k0 v1 v2 v5 (v6 + (1 : Int32)) o3 o4 M h
      · have h := h.2 hc
        show Gd d w 179 _ (134, [some (aR 21 k0), some (aI v1), some (aI v2), o3, o4, some (aI v5), some (aI v6)], [], M)
        refine gd_s (P := True ∧ True ∧ True ∧ True ∧ True ∧ True ∧ True ∧ True) (σ1 := (107, [some (aR 21 k0), some (aI v1), some (aI v2), o3, o4, some (aI (v5 + ((1 : Int32)))), some (aI (v6 + (1 : Int32)))], [], M)) tc_179 rfl 7 (fun u => ⟨_, rfl⟩) ⟨trivial, trivial, trivial, trivial, trivial, trivial, trivial, trivial⟩ ?_
        exact ih k0 v1 v2 (v5 + ((1 : Int32))) (v6 + (1 : Int32)) o3 o4 M h
def w_Mo_node_L157 (post : Int32 → aM → Prop) : Nat → Nat → Int32 → Int32 → Int32 → Int32 → aM → Prop
  | 0, _, _, _, _, _, _ => False
  | n + 1, k0, v1, v2, v5, v6, M => (vp_in v1 (rK M (k0 + 24)).2) ∧ ((((rI M (k0 + 24) v1.toNatClampNeg) ≤ v6) → post v5 M) ∧ (¬ ((rI M (k0 + 24) v1.toNatClampNeg) ≤ v6) → (vp_in ((((100 : Int32)) * v1) + v6) (rK M (k0 + 25)).2) ∧ (((¬ (rI M (k0 + 25) ((((100 : Int32)) * v1) + v6).toNatClampNeg) = v2) → w_Mo_node_L157 post n k0 v1 v2 v5 (v6 + (1 : Int32)) M) ∧ (¬ (¬ (rI M (k0 + 25) ((((100 : Int32)) * v1) + v6).toNatClampNeg) = v2) → w_Mo_node_L157 post n k0 v1 v2 (v5 + ((1 : Int32))) (v6 + (1 : Int32)) M))))
theorem g_Mo_node_L157 {d w : Nat} (hd : 3 ≤ d) (hw : 64 ≤ w) {post : Int32 → aM → Prop} : ∀ (n : Nat) (k0 : Nat) (v1 : Int32) (v2 : Int32) (v5 : Int32) (v6 : Int32) (o3 o4 : Option aV) (M : aM), w_Mo_node_L157 post n k0 v1 v2 v5 v6 M → Gd d w 179 (pI post) (157, [some (aR 21 k0), some (aI v1), some (aI v2), o3, o4, some (aI v5), some (aI v6)], [], M) := by
  intro n
  induction n with
  | zero => intro k0 v1 v2 v5 v6 o3 o4 M h; exact h.elim
  | succ n ih =>
    intro k0 v1 v2 v5 v6 o3 o4 M h
    show Gd d w 179 _ (157, [some (aR 21 k0), some (aI v1), some (aI v2), o3, o4, some (aI v5), some (aI v6)], [], M)
    obtain ⟨c0, h⟩ := h
    refine gd_s (P := True ∧ True ∧ True ∧ True ∧ (vp_in v1 (rK M (k0 + 24)).2) ∧ True) (σ1 := (165, [some (aR 21 k0), some (aI v1), some (aI v2), o3, o4, some (aI v5), some (aI v6)], [aI (rI M (k0 + 24) v1.toNatClampNeg), aI v6], M)) tc_179 rfl 5 (fun u => ⟨_, rfl⟩) ⟨trivial, trivial, trivial, trivial, c0, trivial⟩ ?_
    refine gd_br (c := (rI M (k0 + 24) v1.toNatClampNeg) ≤ v6) (st1 := []) tc_179 rfl rfl (fun _ => rfl) ⟨fun hc => ?_, fun hc => ?_⟩
    · have h := h.1 hc
      show Gd d w 179 _ (201, [some (aR 21 k0), some (aI v1), some (aI v2), o3, o4, some (aI v5), some (aI v6)], [], M)
      refine gd_s (P := True ∧ True) (σ1 := (203, [some (aR 21 k0), some (aI v1), some (aI v2), o3, o4, some (aI v5), some (aI v6)], [aI v5], M)) tc_179 rfl 1 (fun u => ⟨_, rfl⟩) ⟨trivial, trivial⟩ ?_
      exact gd_ret tc_179 rfl rfl trivial (fun _ => rfl) ⟨_, rfl, h⟩
    · have h := h.2 hc
      show Gd d w 179 _ (168, [some (aR 21 k0), some (aI v1), some (aI v2), o3, o4, some (aI v5), some (aI v6)], [], M)
      obtain ⟨c0, h⟩ := h
      refine gd_s (P := True ∧ True ∧ True ∧ True ∧ True ∧ True ∧ True ∧ (vp_in ((((100 : Int32)) * v1) + v6) (rK M (k0 + 25)).2) ∧ True ∧ True) (σ1 := (181, [some (aR 21 k0), some (aI v1), some (aI v2), o3, o4, some (aI v5), some (aI v6)], [aI v2, aI (rI M (k0 + 25) ((((100 : Int32)) * v1) + v6).toNatClampNeg)], M)) tc_179 rfl 9 (fun u => ⟨_, rfl⟩) ⟨trivial, trivial, trivial, trivial, trivial, trivial, trivial, c0, trivial, trivial⟩ ?_
      refine gd_br (c := ¬ (rI M (k0 + 25) ((((100 : Int32)) * v1) + v6).toNatClampNeg) = v2) (st1 := []) tc_179 rfl rfl (fun _ => rfl) ⟨fun hc => ?_, fun hc => ?_⟩
      · have h := h.1 hc
        show Gd d w 179 _ (191, [some (aR 21 k0), some (aI v1), some (aI v2), o3, o4, some (aI v5), some (aI v6)], [], M)
        refine gd_s (P := True ∧ True ∧ True ∧ True ∧ True) (σ1 := (157, [some (aR 21 k0), some (aI v1), some (aI v2), o3, o4, some (aI v5), some (aI (v6 + (1 : Int32)))], [], M)) tc_179 rfl 4 (fun u => ⟨_, rfl⟩) ⟨trivial, trivial, trivial, trivial, trivial⟩ ?_
        exact ih k0 v1 v2 v5 (v6 + (1 : Int32)) o3 o4 M h
      · have h := h.2 hc
        show Gd d w 179 _ (184, [some (aR 21 k0), some (aI v1), some (aI v2), o3, o4, some (aI v5), some (aI v6)], [], M)
        refine gd_s (P := True ∧ True ∧ True ∧ True ∧ True ∧ True ∧ True ∧ True) (σ1 := (157, [some (aR 21 k0), some (aI v1), some (aI v2), o3, o4, some (aI (v5 + ((1 : Int32)))), some (aI (v6 + (1 : Int32)))], [], M)) tc_179 rfl 7 (fun u => ⟨_, rfl⟩) ⟨trivial, trivial, trivial, trivial, trivial, trivial, trivial, trivial⟩ ?_
        exact ih k0 v1 v2 (v5 + ((1 : Int32))) (v6 + (1 : Int32)) o3 o4 M h
def w_Mo_node_J24 (post : Int32 → aM → Prop) (k0 : Nat) (v1 : Int32) (v2 : Int32) (v3 : Int32) (t0 : Nat) (s1 : Int32) (M : aM) : Prop := w_Mo_goes (fun x1 M1 => ((¬ x1 = ((0 : Int32))) → ((v3 = (0 : Int32)) → (vp_in ((((100 : Int32)) * v1) + v2) (rK M1 (k0 + 11)).2) ∧ post (rI M1 (k0 + 11) ((((100 : Int32)) * v1) + v2).toNatClampNeg) M1) ∧ (¬ (v3 = (0 : Int32)) → ((v3 = (1 : Int32)) → (vp_in ((((100 : Int32)) * v1) + v2) (rK M1 (k0 + 12)).2) ∧ post (rI M1 (k0 + 12) ((((100 : Int32)) * v1) + v2).toNatClampNeg) M1) ∧ (¬ (v3 = (1 : Int32)) → ((v3 = (2 : Int32)) → (vp_in ((((100 : Int32)) * v1) + v2) (rK M1 (k0 + 13)).2) ∧ post (rI M1 (k0 + 13) ((((100 : Int32)) * v1) + v2).toNatClampNeg) M1) ∧ (¬ (v3 = (2 : Int32)) → ((v3 = (3 : Int32)) → ∃ n9, w_Mo_node_L107 post n9 k0 v1 v2 ((0 : Int32)) ((0 : Int32)) M1) ∧ (¬ (v3 = (3 : Int32)) → ((v3 = (4 : Int32)) → ∃ n9, w_Mo_node_L157 post n9 k0 v1 v2 ((0 : Int32)) ((0 : Int32)) M1) ∧ (¬ (v3 = (4 : Int32)) → (vp_in ((((100 : Int32)) * v1) + v2) (rK M1 (k0 + 14)).2) ∧ (((¬ (rI M1 (k0 + 14) ((((100 : Int32)) * v1) + v2).toNatClampNeg) = ((-1 : Int32))) → post ((1 : Int32)) M1) ∧ (¬ (¬ (rI M1 (k0 + 14) ((((100 : Int32)) * v1) + v2).toNatClampNeg) = ((-1 : Int32))) → post ((0 : Int32)) M1)))))))) ∧ (¬ (¬ x1 = ((0 : Int32))) → post ((0 : Int32)) M1)) t0 s1 M
theorem g_Mo_node_J24 {d w : Nat} (hd : 3 ≤ d) (hw : 64 ≤ w) {post : Int32 → aM → Prop} (k0 : Nat) (v1 : Int32) (v2 : Int32) (v3 : Int32) (t0 : Nat) (s1 : Int32) (o4 o5 o6 : Option aV) (M : aM) (h : w_Mo_node_J24 post k0 v1 v2 v3 t0 s1 M) : Gd d w 179 (pI post) (24, [some (aR 21 k0), some (aI v1), some (aI v2), some (aI v3), o4, o5, o6], [aI s1, aR 21 t0], M) := by
  unfold w_Mo_node_J24 at h
  show Gd d w 179 _ (24, [some (aR 21 k0), some (aI v1), some (aI v2), some (aI v3), o4, o5, o6], [aI s1, aR 21 t0], M)
  refine gd_callN (ml := 2) (as := [aR 21 t0, aI s1]) (rest := []) tc_179 rfl rfl rfl rfl rfl (by omega) (by omega) (Nat.le_of_ble_eq_true rfl) rfl (g_Mo_goes (by omega) (by omega) h) (fun r9 M1 h => ?_)
  obtain ⟨x1, rfl, h⟩ := h
  show Gd d w 179 _ (27, [some (aR 21 k0), some (aI v1), some (aI v2), some (aI v3), o4, o5, o6], [aI x1], M1)
  refine gd_br (c := ¬ x1 = ((0 : Int32))) (st1 := []) tc_179 rfl rfl (fun _ => rfl) ⟨fun hc => ?_, fun hc => ?_⟩
  · have h := h.1 hc
    show Gd d w 179 _ (32, [some (aR 21 k0), some (aI v1), some (aI v2), some (aI v3), o4, o5, o6], [], M1)
    refine gd_s (P := True ∧ True ∧ True ∧ True ∧ True ∧ True ∧ True ∧ True ∧ True ∧ True) (σ1 := (44, [some (aR 21 k0), some (aI v1), some (aI v2), some (aI v3), some (aI ((((100 : Int32)) * v1) + v2)), some (aI ((0 : Int32))), o6], [aI v3], M1)) tc_179 rfl 9 (fun u => ⟨_, rfl⟩) ⟨trivial, trivial, trivial, trivial, trivial, trivial, trivial, trivial, trivial, trivial⟩ ?_
    refine gd_sw tc_179 rfl rfl (fun _ => rfl) ?_
    refine gd_case ⟨fun hc => ?_, fun hc => ?_⟩
    · have h := h.1 hc
      show Gd d w 179 _ (80, [some (aR 21 k0), some (aI v1), some (aI v2), some (aI v3), some (aI ((((100 : Int32)) * v1) + v2)), some (aI ((0 : Int32))), o6], [], M1)
      obtain ⟨c0, h⟩ := h
      refine gd_s (P := True ∧ True ∧ True ∧ (vp_in ((((100 : Int32)) * v1) + v2) (rK M1 (k0 + 11)).2) ∧ True) (σ1 := (87, [some (aR 21 k0), some (aI v1), some (aI v2), some (aI v3), some (aI ((((100 : Int32)) * v1) + v2)), some (aI ((0 : Int32))), o6], [aI (rI M1 (k0 + 11) ((((100 : Int32)) * v1) + v2).toNatClampNeg)], M1)) tc_179 rfl 4 (fun u => ⟨_, rfl⟩) ⟨trivial, trivial, trivial, c0, trivial⟩ ?_
      exact gd_ret tc_179 rfl rfl trivial (fun _ => rfl) ⟨_, rfl, h⟩
    have h := h.2 hc
    refine gd_case ⟨fun hc => ?_, fun hc => ?_⟩
    · have h := h.1 hc
      show Gd d w 179 _ (88, [some (aR 21 k0), some (aI v1), some (aI v2), some (aI v3), some (aI ((((100 : Int32)) * v1) + v2)), some (aI ((0 : Int32))), o6], [], M1)
      obtain ⟨c0, h⟩ := h
      refine gd_s (P := True ∧ True ∧ True ∧ (vp_in ((((100 : Int32)) * v1) + v2) (rK M1 (k0 + 12)).2) ∧ True) (σ1 := (95, [some (aR 21 k0), some (aI v1), some (aI v2), some (aI v3), some (aI ((((100 : Int32)) * v1) + v2)), some (aI ((0 : Int32))), o6], [aI (rI M1 (k0 + 12) ((((100 : Int32)) * v1) + v2).toNatClampNeg)], M1)) tc_179 rfl 4 (fun u => ⟨_, rfl⟩) ⟨trivial, trivial, trivial, c0, trivial⟩ ?_
      exact gd_ret tc_179 rfl rfl trivial (fun _ => rfl) ⟨_, rfl, h⟩
    have h := h.2 hc
    refine gd_case ⟨fun hc => ?_, fun hc => ?_⟩
    · have h := h.1 hc
      show Gd d w 179 _ (96, [some (aR 21 k0), some (aI v1), some (aI v2), some (aI v3), some (aI ((((100 : Int32)) * v1) + v2)), some (aI ((0 : Int32))), o6], [], M1)
      obtain ⟨c0, h⟩ := h
      refine gd_s (P := True ∧ True ∧ True ∧ (vp_in ((((100 : Int32)) * v1) + v2) (rK M1 (k0 + 13)).2) ∧ True) (σ1 := (103, [some (aR 21 k0), some (aI v1), some (aI v2), some (aI v3), some (aI ((((100 : Int32)) * v1) + v2)), some (aI ((0 : Int32))), o6], [aI (rI M1 (k0 + 13) ((((100 : Int32)) * v1) + v2).toNatClampNeg)], M1)) tc_179 rfl 4 (fun u => ⟨_, rfl⟩) ⟨trivial, trivial, trivial, c0, trivial⟩ ?_
      exact gd_ret tc_179 rfl rfl trivial (fun _ => rfl) ⟨_, rfl, h⟩
    have h := h.2 hc
    refine gd_case ⟨fun hc => ?_, fun hc => ?_⟩
    · have h := h.1 hc
      show Gd d w 179 _ (104, [some (aR 21 k0), some (aI v1), some (aI v2), some (aI v3), some (aI ((((100 : Int32)) * v1) + v2)), some (aI ((0 : Int32))), o6], [], M1)
      refine gd_s (P := True ∧ True ∧ True) (σ1 := (107, [some (aR 21 k0), some (aI v1), some (aI v2), some (aI v3), some (aI ((((100 : Int32)) * v1) + v2)), some (aI ((0 : Int32))), some (aI ((0 : Int32)))], [], M1)) tc_179 rfl 2 (fun u => ⟨_, rfl⟩) ⟨trivial, trivial, trivial⟩ ?_
      obtain ⟨n9, h⟩ := h
      exact g_Mo_node_L107 hd hw n9 k0 v1 v2 ((0 : Int32)) ((0 : Int32)) (some (aI v3)) (some (aI ((((100 : Int32)) * v1) + v2))) M1 h
    have h := h.2 hc
    refine gd_case ⟨fun hc => ?_, fun hc => ?_⟩
    · have h := h.1 hc
      show Gd d w 179 _ (154, [some (aR 21 k0), some (aI v1), some (aI v2), some (aI v3), some (aI ((((100 : Int32)) * v1) + v2)), some (aI ((0 : Int32))), o6], [], M1)
      refine gd_s (P := True ∧ True ∧ True) (σ1 := (157, [some (aR 21 k0), some (aI v1), some (aI v2), some (aI v3), some (aI ((((100 : Int32)) * v1) + v2)), some (aI ((0 : Int32))), some (aI ((0 : Int32)))], [], M1)) tc_179 rfl 2 (fun u => ⟨_, rfl⟩) ⟨trivial, trivial, trivial⟩ ?_
      obtain ⟨n9, h⟩ := h
      exact g_Mo_node_L157 hd hw n9 k0 v1 v2 ((0 : Int32)) ((0 : Int32)) (some (aI v3)) (some (aI ((((100 : Int32)) * v1) + v2))) M1 h
    have h := h.2 hc
    show Gd d w 179 _ (204, [some (aR 21 k0), some (aI v1), some (aI v2), some (aI v3), some (aI ((((100 : Int32)) * v1) + v2)), some (aI ((0 : Int32))), o6], [], M1)
    obtain ⟨c0, h⟩ := h
    refine gd_s (P := True ∧ True ∧ True ∧ (vp_in ((((100 : Int32)) * v1) + v2) (rK M1 (k0 + 14)).2) ∧ True ∧ True) (σ1 := (212, [some (aR 21 k0), some (aI v1), some (aI v2), some (aI v3), some (aI ((((100 : Int32)) * v1) + v2)), some (aI ((0 : Int32))), o6], [aI ((-1 : Int32)), aI (rI M1 (k0 + 14) ((((100 : Int32)) * v1) + v2).toNatClampNeg)], M1)) tc_179 rfl 5 (fun u => ⟨_, rfl⟩) ⟨trivial, trivial, trivial, c0, trivial, trivial⟩ ?_
    refine gd_br (c := ¬ (rI M1 (k0 + 14) ((((100 : Int32)) * v1) + v2).toNatClampNeg) = ((-1 : Int32))) (st1 := []) tc_179 rfl rfl (fun _ => rfl) ⟨fun hc => ?_, fun hc => ?_⟩
    · have h := h.1 hc
      show Gd d w 179 _ (219, [some (aR 21 k0), some (aI v1), some (aI v2), some (aI v3), some (aI ((((100 : Int32)) * v1) + v2)), some (aI ((0 : Int32))), o6], [], M1)
      refine gd_s (P := True ∧ True) (σ1 := (220, [some (aR 21 k0), some (aI v1), some (aI v2), some (aI v3), some (aI ((((100 : Int32)) * v1) + v2)), some (aI ((0 : Int32))), o6], [aI ((1 : Int32))], M1)) tc_179 rfl 1 (fun u => ⟨_, rfl⟩) ⟨trivial, trivial⟩ ?_
      exact gd_ret tc_179 rfl rfl trivial (fun _ => rfl) ⟨_, rfl, h⟩
    · have h := h.2 hc
      show Gd d w 179 _ (215, [some (aR 21 k0), some (aI v1), some (aI v2), some (aI v3), some (aI ((((100 : Int32)) * v1) + v2)), some (aI ((0 : Int32))), o6], [], M1)
      refine gd_s (P := True ∧ True ∧ True) (σ1 := (220, [some (aR 21 k0), some (aI v1), some (aI v2), some (aI v3), some (aI ((((100 : Int32)) * v1) + v2)), some (aI ((0 : Int32))), o6], [aI ((0 : Int32))], M1)) tc_179 rfl 2 (fun u => ⟨_, rfl⟩) ⟨trivial, trivial, trivial⟩ ?_
      exact gd_ret tc_179 rfl rfl trivial (fun _ => rfl) ⟨_, rfl, h⟩
  · have h := h.2 hc
    show Gd d w 179 _ (30, [some (aR 21 k0), some (aI v1), some (aI v2), some (aI v3), o4, o5, o6], [], M1)
    refine gd_s (P := True ∧ True) (σ1 := (31, [some (aR 21 k0), some (aI v1), some (aI v2), some (aI v3), o4, o5, o6], [aI ((0 : Int32))], M1)) tc_179 rfl 1 (fun u => ⟨_, rfl⟩) ⟨trivial, trivial⟩ ?_
    exact gd_ret tc_179 rfl rfl trivial (fun _ => rfl) ⟨_, rfl, h⟩
def w_Mo_node_J23 (post : Int32 → aM → Prop) (k0 : Nat) (v1 : Int32) (v2 : Int32) (v3 : Int32) (t0 : Nat) (M : aM) : Prop := w_Mo_node_J24 post k0 v1 v2 v3 t0 ((0 : Int32)) M
theorem g_Mo_node_J23 {d w : Nat} (hd : 3 ≤ d) (hw : 64 ≤ w) {post : Int32 → aM → Prop} (k0 : Nat) (v1 : Int32) (v2 : Int32) (v3 : Int32) (t0 : Nat) (o4 o5 o6 : Option aV) (M : aM) (h : w_Mo_node_J23 post k0 v1 v2 v3 t0 M) : Gd d w 179 (pI post) (23, [some (aR 21 k0), some (aI v1), some (aI v2), some (aI v3), o4, o5, o6], [aR 21 t0], M) := by
  unfold w_Mo_node_J23 at h
  show Gd d w 179 _ (23, [some (aR 21 k0), some (aI v1), some (aI v2), some (aI v3), o4, o5, o6], [aR 21 t0], M)
  refine gd_s (P := True ∧ True) (σ1 := (24, [some (aR 21 k0), some (aI v1), some (aI v2), some (aI v3), o4, o5, o6], [aI ((0 : Int32)), aR 21 t0], M)) tc_179 rfl 1 (fun u => ⟨_, rfl⟩) ⟨trivial, trivial⟩ ?_
  exact g_Mo_node_J24 hd hw k0 v1 v2 v3 t0 ((0 : Int32)) o4 o5 o6 M h
/-- PolicyJudgeModel.node(III)I -/
def w_Mo_node (post : Int32 → aM → Prop) (k0 : Nat) (v1 : Int32) (v2 : Int32) (v3 : Int32) (M : aM) : Prop := w_Mo_isNode (fun x1 => ((x1 = ((0 : Int32))) → w_Mo_node_J23 post k0 v1 v2 v3 k0 M) ∧ (¬ (x1 = ((0 : Int32))) → w_Mo_in (fun x2 => ((x2 = ((0 : Int32))) → w_Mo_node_J23 post k0 v1 v2 v3 k0 M) ∧ (¬ (x2 = ((0 : Int32))) → w_Mo_node_J24 post k0 v1 v2 v3 k0 ((1 : Int32)) M)) v3 ((0 : Int32)) ((5 : Int32)) M)) k0 v1 v2 M
theorem g_Mo_node {d w : Nat} (hd : 3 ≤ d) (hw : 64 ≤ w) {post : Int32 → aM → Prop} {k0 : Nat} {v1 : Int32} {v2 : Int32} {v3 : Int32} {M : aM} (h : w_Mo_node post k0 v1 v2 v3 M) : Gd d w 179 (pI post) (0, aEnt 179 [aR 21 k0, aI v1, aI v2, aI v3], [], M) := by
  unfold w_Mo_node at h
  show Gd d w 179 _ (0, [some (aR 21 k0), some (aI v1), some (aI v2), some (aI v3), none, none, none], [], M)
  refine gd_s (P := True ∧ True ∧ True ∧ True ∧ True) (σ1 := (4, [some (aR 21 k0), some (aI v1), some (aI v2), some (aI v3), none, none, none], [aI v2, aI v1, aR 21 k0, aR 21 k0], M)) tc_179 rfl 4 (fun u => ⟨_, rfl⟩) ⟨trivial, trivial, trivial, trivial, trivial⟩ ?_
  refine gd_callN (ml := 3) (as := [aR 21 k0, aI v1, aI v2]) (rest := [aR 21 k0]) tc_179 rfl rfl rfl rfl rfl (by omega) (by omega) (Nat.le_of_ble_eq_true rfl) rfl (g_Mo_isNode (by omega) (by omega) h) (fun r9 M9 h => ?_)
  obtain ⟨x1, rfl, e9, h⟩ := h
  subst M9
  show Gd d w 179 _ (7, [some (aR 21 k0), some (aI v1), some (aI v2), some (aI v3), none, none, none], [aI x1, aR 21 k0], M)
  refine gd_br (c := x1 = ((0 : Int32))) (st1 := [aR 21 k0]) tc_179 rfl rfl (fun _ => rfl) ⟨fun hc => ?_, fun hc => ?_⟩
  · have h := h.1 hc
    exact g_Mo_node_J23 hd hw k0 v1 v2 v3 k0 none none none M h
  · have h := h.2 hc
    show Gd d w 179 _ (10, [some (aR 21 k0), some (aI v1), some (aI v2), some (aI v3), none, none, none], [aR 21 k0], M)
    refine gd_s (P := True ∧ True ∧ True ∧ True) (σ1 := (13, [some (aR 21 k0), some (aI v1), some (aI v2), some (aI v3), none, none, none], [aI ((5 : Int32)), aI ((0 : Int32)), aI v3, aR 21 k0], M)) tc_179 rfl 3 (fun u => ⟨_, rfl⟩) ⟨trivial, trivial, trivial, trivial⟩ ?_
    refine gd_callN (ml := 3) (as := [aI v3, aI ((0 : Int32)), aI ((5 : Int32))]) (rest := [aR 21 k0]) tc_179 rfl rfl rfl rfl rfl (by omega) (by omega) (Nat.le_of_ble_eq_true rfl) rfl (g_Mo_in (by omega) (by omega) h) (fun r9 M9 h => ?_)
    obtain ⟨x2, rfl, e9, h⟩ := h
    subst M9
    show Gd d w 179 _ (16, [some (aR 21 k0), some (aI v1), some (aI v2), some (aI v3), none, none, none], [aI x2, aR 21 k0], M)
    refine gd_br (c := x2 = ((0 : Int32))) (st1 := [aR 21 k0]) tc_179 rfl rfl (fun _ => rfl) ⟨fun hc => ?_, fun hc => ?_⟩
    · have h := h.1 hc
      exact g_Mo_node_J23 hd hw k0 v1 v2 v3 k0 none none none M h
    · have h := h.2 hc
      show Gd d w 179 _ (19, [some (aR 21 k0), some (aI v1), some (aI v2), some (aI v3), none, none, none], [aR 21 k0], M)
      refine gd_s (P := True ∧ True ∧ True) (σ1 := (24, [some (aR 21 k0), some (aI v1), some (aI v2), some (aI v3), none, none, none], [aI ((1 : Int32)), aR 21 k0], M)) tc_179 rfl 2 (fun u => ⟨_, rfl⟩) ⟨trivial, trivial, trivial⟩ ?_
      exact g_Mo_node_J24 hd hw k0 v1 v2 v3 k0 ((1 : Int32)) none none none M h
theorem tc_182 : tC 182 = c182 := rfl
/-- PolicyJudgeModel.isAttribute(II)Z -/
def w_Mo_isAttribute (post : Int32 → Prop) (k0 : Nat) (v1 : Int32) (v2 : Int32) (M : aM) : Prop := w_Mo_isText (fun x1 => ((x1 = ((0 : Int32))) → (((0 : Int32)) = 0 ∨ ((0 : Int32)) = 1) ∧ post ((0 : Int32))) ∧ (¬ (x1 = ((0 : Int32))) → (vp_in v1 (rK M (k0 + 2)).2) ∧ ((((rI M (k0 + 2) v1.toNatClampNeg) = ((0 : Int32))) → (((0 : Int32)) = 0 ∨ ((0 : Int32)) = 1) ∧ post ((0 : Int32))) ∧ (¬ ((rI M (k0 + 2) v1.toNatClampNeg) = ((0 : Int32))) → (vp_in v1 (rK M (k0 + 3)).2) ∧ (w_Mo_in (fun x2 => ((x2 = ((0 : Int32))) → (((0 : Int32)) = 0 ∨ ((0 : Int32)) = 1) ∧ post ((0 : Int32))) ∧ (¬ (x2 = ((0 : Int32))) → (((1 : Int32)) = 0 ∨ ((1 : Int32)) = 1) ∧ post ((1 : Int32)))) v2 ((0 : Int32)) ((rI M (k0 + 3) v1.toNatClampNeg) - ((1 : Int32))) M))))) v1 M
theorem g_Mo_isAttribute {d w : Nat} (hd : 2 ≤ d) (hw : 42 ≤ w) {post : Int32 → Prop} {k0 : Nat} {v1 : Int32} {v2 : Int32} {M : aM} (h : w_Mo_isAttribute post k0 v1 v2 M) : Gd d w 182 (pIn M post) (0, aEnt 182 [aR 21 k0, aI v1, aI v2], [], M) := by
  unfold w_Mo_isAttribute at h
  show Gd d w 182 _ (0, [some (aR 21 k0), some (aI v1), some (aI v2)], [], M)
  refine gd_s (P := True ∧ True) (σ1 := (1, [some (aR 21 k0), some (aI v1), some (aI v2)], [aI v1], M)) tc_182 rfl 1 (fun u => ⟨_, rfl⟩) ⟨trivial, trivial⟩ ?_
  refine gd_callN (ml := 1) (as := [aI v1]) (rest := []) tc_182 rfl rfl rfl rfl rfl (by omega) (by omega) (Nat.le_of_ble_eq_true rfl) rfl (g_Mo_isText (by omega) (by omega) h) (fun r9 M9 h => ?_)
  obtain ⟨x1, rfl, e9, h⟩ := h
  subst M9
  show Gd d w 182 _ (4, [some (aR 21 k0), some (aI v1), some (aI v2)], [aI x1], M)
  refine gd_br (c := x1 = ((0 : Int32))) (st1 := []) tc_182 rfl rfl (fun _ => rfl) ⟨fun hc => ?_, fun hc => ?_⟩
  · have h := h.1 hc
    show Gd d w 182 _ (36, [some (aR 21 k0), some (aI v1), some (aI v2)], [], M)
    refine gd_s (P := True ∧ True) (σ1 := (37, [some (aR 21 k0), some (aI v1), some (aI v2)], [aI ((0 : Int32))], M)) tc_182 rfl 1 (fun u => ⟨_, rfl⟩) ⟨trivial, trivial⟩ ?_
    exact gd_ret tc_182 rfl rfl h.1 (fun _ => rfl) ⟨_, rfl, rfl, h.2⟩
  · have h := h.2 hc
    show Gd d w 182 _ (7, [some (aR 21 k0), some (aI v1), some (aI v2)], [], M)
    obtain ⟨c0, h⟩ := h
    refine gd_s (P := True ∧ True ∧ True ∧ (vp_in v1 (rK M (k0 + 2)).2) ∧ True) (σ1 := (13, [some (aR 21 k0), some (aI v1), some (aI v2)], [aI (rI M (k0 + 2) v1.toNatClampNeg)], M)) tc_182 rfl 4 (fun u => ⟨_, rfl⟩) ⟨trivial, trivial, trivial, c0, trivial⟩ ?_
    refine gd_br (c := (rI M (k0 + 2) v1.toNatClampNeg) = ((0 : Int32))) (st1 := []) tc_182 rfl rfl (fun _ => rfl) ⟨fun hc => ?_, fun hc => ?_⟩
    · have h := h.1 hc
      show Gd d w 182 _ (36, [some (aR 21 k0), some (aI v1), some (aI v2)], [], M)
      refine gd_s (P := True ∧ True) (σ1 := (37, [some (aR 21 k0), some (aI v1), some (aI v2)], [aI ((0 : Int32))], M)) tc_182 rfl 1 (fun u => ⟨_, rfl⟩) ⟨trivial, trivial⟩ ?_
      exact gd_ret tc_182 rfl rfl h.1 (fun _ => rfl) ⟨_, rfl, rfl, h.2⟩
    · have h := h.2 hc
      show Gd d w 182 _ (16, [some (aR 21 k0), some (aI v1), some (aI v2)], [], M)
      obtain ⟨c0, h⟩ := h
      refine gd_s (P := True ∧ True ∧ True ∧ True ∧ True ∧ (vp_in v1 (rK M (k0 + 3)).2) ∧ True ∧ True ∧ True) (σ1 := (26, [some (aR 21 k0), some (aI v1), some (aI v2)], [aI ((rI M (k0 + 3) v1.toNatClampNeg) - ((1 : Int32))), aI ((0 : Int32)), aI v2], M)) tc_182 rfl 8 (fun u => ⟨_, rfl⟩) ⟨trivial, trivial, trivial, trivial, trivial, c0, trivial, trivial, trivial⟩ ?_
      refine gd_callN (ml := 3) (as := [aI v2, aI ((0 : Int32)), aI ((rI M (k0 + 3) v1.toNatClampNeg) - ((1 : Int32)))]) (rest := []) tc_182 rfl rfl rfl rfl rfl (by omega) (by omega) (Nat.le_of_ble_eq_true rfl) rfl (g_Mo_in (by omega) (by omega) h) (fun r9 M9 h => ?_)
      obtain ⟨x2, rfl, e9, h⟩ := h
      subst M9
      show Gd d w 182 _ (29, [some (aR 21 k0), some (aI v1), some (aI v2)], [aI x2], M)
      refine gd_br (c := x2 = ((0 : Int32))) (st1 := []) tc_182 rfl rfl (fun _ => rfl) ⟨fun hc => ?_, fun hc => ?_⟩
      · have h := h.1 hc
        show Gd d w 182 _ (36, [some (aR 21 k0), some (aI v1), some (aI v2)], [], M)
        refine gd_s (P := True ∧ True) (σ1 := (37, [some (aR 21 k0), some (aI v1), some (aI v2)], [aI ((0 : Int32))], M)) tc_182 rfl 1 (fun u => ⟨_, rfl⟩) ⟨trivial, trivial⟩ ?_
        exact gd_ret tc_182 rfl rfl h.1 (fun _ => rfl) ⟨_, rfl, rfl, h.2⟩
      · have h := h.2 hc
        show Gd d w 182 _ (32, [some (aR 21 k0), some (aI v1), some (aI v2)], [], M)
        refine gd_s (P := True ∧ True ∧ True) (σ1 := (37, [some (aR 21 k0), some (aI v1), some (aI v2)], [aI ((1 : Int32))], M)) tc_182 rfl 2 (fun u => ⟨_, rfl⟩) ⟨trivial, trivial, trivial⟩ ?_
        exact gd_ret tc_182 rfl rfl h.1 (fun _ => rfl) ⟨_, rfl, rfl, h.2⟩
theorem tc_181 : tC 181 = c181 := rfl
def w_Mo_name_J32 (post : Int32 → aM → Prop) (k0 : Nat) (v1 : Int32) (v2 : Int32) (v3 : Int32) (v4 : Int32) (s0 : Int32) (M : aM) : Prop := w_Mo_goes (fun x1 M1 => ((¬ x1 = ((0 : Int32))) → w_Mo_nameOf (fun x2 => ((¬ v4 = ((-1 : Int32))) → (vp_in x2 (rK M1 (k0 + 8)).2) ∧ (w_Mo_in (fun x3 => w_Mo_goes (fun x4 M4 => ((x4 = ((0 : Int32))) → post ((0 : Int32)) M4) ∧ (¬ (x4 = ((0 : Int32))) → (vp_in ((((12 : Int32)) * x2) + v4) (rK M4 (k0 + 9)).2) ∧ post ((rI M4 (k0 + 9) ((((12 : Int32)) * x2) + v4).toNatClampNeg) &&& ((255 : Int32))) M4)) k0 x3 M1) v4 ((0 : Int32)) ((rI M1 (k0 + 8) x2.toNatClampNeg) - ((1 : Int32))) M1)) ∧ (¬ (¬ v4 = ((-1 : Int32))) → (vp_in x2 (rK M1 (k0 + 8)).2) ∧ post (rI M1 (k0 + 8) x2.toNatClampNeg) M1)) v1 v2 v3 M1) ∧ (¬ (¬ x1 = ((0 : Int32))) → post ((0 : Int32)) M1)) k0 s0 M
theorem g_Mo_name_J32 {d w : Nat} (hd : 3 ≤ d) (hw : 64 ≤ w) {post : Int32 → aM → Prop} (k0 : Nat) (v1 : Int32) (v2 : Int32) (v3 : Int32) (v4 : Int32) (s0 : Int32) (o5 o6 : Option aV) (M : aM) (h : w_Mo_name_J32 post k0 v1 v2 v3 v4 s0 M) : Gd d w 181 (pI post) (32, [some (aR 21 k0), some (aI v1), some (aI v2), some (aI v3), some (aI v4), o5, o6], [aI s0], M) := by
  unfold w_Mo_name_J32 at h
  show Gd d w 181 _ (32, [some (aR 21 k0), some (aI v1), some (aI v2), some (aI v3), some (aI v4), o5, o6], [aI s0], M)
  refine gd_s (P := True ∧ True ∧ True ∧ True) (σ1 := (37, [some (aR 21 k0), some (aI v1), some (aI v2), some (aI v3), some (aI v4), some (aI s0), o6], [aI s0, aR 21 k0], M)) tc_181 rfl 3 (fun u => ⟨_, rfl⟩) ⟨trivial, trivial, trivial, trivial⟩ ?_
  refine gd_callN (ml := 2) (as := [aR 21 k0, aI s0]) (rest := []) tc_181 rfl rfl rfl rfl rfl (by omega) (by omega) (Nat.le_of_ble_eq_true rfl) rfl (g_Mo_goes (by omega) (by omega) h) (fun r9 M1 h => ?_)
  obtain ⟨x1, rfl, h⟩ := h
  show Gd d w 181 _ (40, [some (aR 21 k0), some (aI v1), some (aI v2), some (aI v3), some (aI v4), some (aI s0), o6], [aI x1], M1)
  refine gd_br (c := ¬ x1 = ((0 : Int32))) (st1 := []) tc_181 rfl rfl (fun _ => rfl) ⟨fun hc => ?_, fun hc => ?_⟩
  · have h := h.1 hc
    show Gd d w 181 _ (45, [some (aR 21 k0), some (aI v1), some (aI v2), some (aI v3), some (aI v4), some (aI s0), o6], [], M1)
    refine gd_s (P := True ∧ True ∧ True ∧ True) (σ1 := (48, [some (aR 21 k0), some (aI v1), some (aI v2), some (aI v3), some (aI v4), some (aI s0), o6], [aI v3, aI v2, aI v1], M1)) tc_181 rfl 3 (fun u => ⟨_, rfl⟩) ⟨trivial, trivial, trivial, trivial⟩ ?_
    refine gd_callN (ml := 3) (as := [aI v1, aI v2, aI v3]) (rest := []) tc_181 rfl rfl rfl rfl rfl (by omega) (by omega) (Nat.le_of_ble_eq_true rfl) rfl (g_Mo_nameOf (by omega) (by omega) h) (fun r9 M9 h => ?_)
    obtain ⟨x2, rfl, e9, h⟩ := h
    subst M9
    show Gd d w 181 _ (51, [some (aR 21 k0), some (aI v1), some (aI v2), some (aI v3), some (aI v4), some (aI s0), o6], [aI x2], M1)
    refine gd_s (P := True ∧ True ∧ True ∧ True) (σ1 := (56, [some (aR 21 k0), some (aI v1), some (aI v2), some (aI v3), some (aI v4), some (aI s0), some (aI x2)], [aI ((-1 : Int32)), aI v4], M1)) tc_181 rfl 3 (fun u => ⟨_, rfl⟩) ⟨trivial, trivial, trivial, trivial⟩ ?_
    refine gd_br (c := ¬ v4 = ((-1 : Int32))) (st1 := []) tc_181 rfl rfl (fun _ => rfl) ⟨fun hc => ?_, fun hc => ?_⟩
    · have h := h.1 hc
      show Gd d w 181 _ (67, [some (aR 21 k0), some (aI v1), some (aI v2), some (aI v3), some (aI v4), some (aI s0), some (aI x2)], [], M1)
      obtain ⟨c0, h⟩ := h
      refine gd_s (P := True ∧ True ∧ True ∧ True ∧ True ∧ True ∧ (vp_in x2 (rK M1 (k0 + 8)).2) ∧ True ∧ True ∧ True) (σ1 := (80, [some (aR 21 k0), some (aI v1), some (aI v2), some (aI v3), some (aI v4), some (aI s0), some (aI x2)], [aI ((rI M1 (k0 + 8) x2.toNatClampNeg) - ((1 : Int32))), aI ((0 : Int32)), aI v4, aR 21 k0], M1)) tc_181 rfl 9 (fun u => ⟨_, rfl⟩) ⟨trivial, trivial, trivial, trivial, trivial, trivial, c0, trivial, trivial, trivial⟩ ?_
      refine gd_callN (ml := 3) (as := [aI v4, aI ((0 : Int32)), aI ((rI M1 (k0 + 8) x2.toNatClampNeg) - ((1 : Int32)))]) (rest := [aR 21 k0]) tc_181 rfl rfl rfl rfl rfl (by omega) (by omega) (Nat.le_of_ble_eq_true rfl) rfl (g_Mo_in (by omega) (by omega) h) (fun r9 M9 h => ?_)
      obtain ⟨x3, rfl, e9, h⟩ := h
      subst M9
      show Gd d w 181 _ (83, [some (aR 21 k0), some (aI v1), some (aI v2), some (aI v3), some (aI v4), some (aI s0), some (aI x2)], [aI x3, aR 21 k0], M1)
      refine gd_callN (ml := 2) (as := [aR 21 k0, aI x3]) (rest := []) tc_181 rfl rfl rfl rfl rfl (by omega) (by omega) (Nat.le_of_ble_eq_true rfl) rfl (g_Mo_goes (by omega) (by omega) h) (fun r9 M4 h => ?_)
      obtain ⟨x4, rfl, h⟩ := h
      show Gd d w 181 _ (86, [some (aR 21 k0), some (aI v1), some (aI v2), some (aI v3), some (aI v4), some (aI s0), some (aI x2)], [aI x4], M4)
      refine gd_br (c := x4 = ((0 : Int32))) (st1 := []) tc_181 rfl rfl (fun _ => rfl) ⟨fun hc => ?_, fun hc => ?_⟩
      · have h := h.1 hc
        show Gd d w 181 _ (109, [some (aR 21 k0), some (aI v1), some (aI v2), some (aI v3), some (aI v4), some (aI s0), some (aI x2)], [], M4)
        refine gd_s (P := True ∧ True) (σ1 := (110, [some (aR 21 k0), some (aI v1), some (aI v2), some (aI v3), some (aI v4), some (aI s0), some (aI x2)], [aI ((0 : Int32))], M4)) tc_181 rfl 1 (fun u => ⟨_, rfl⟩) ⟨trivial, trivial⟩ ?_
        exact gd_ret tc_181 rfl rfl trivial (fun _ => rfl) ⟨_, rfl, h⟩
      · have h := h.2 hc
        show Gd d w 181 _ (89, [some (aR 21 k0), some (aI v1), some (aI v2), some (aI v3), some (aI v4), some (aI s0), some (aI x2)], [], M4)
        obtain ⟨c0, h⟩ := h
        refine gd_s (P := True ∧ True ∧ True ∧ True ∧ True ∧ True ∧ True ∧ (vp_in ((((12 : Int32)) * x2) + v4) (rK M4 (k0 + 9)).2) ∧ True ∧ True ∧ True ∧ True) (σ1 := (110, [some (aR 21 k0), some (aI v1), some (aI v2), some (aI v3), some (aI v4), some (aI s0), some (aI x2)], [aI ((rI M4 (k0 + 9) ((((12 : Int32)) * x2) + v4).toNatClampNeg) &&& ((255 : Int32)))], M4)) tc_181 rfl 11 (fun u => ⟨_, rfl⟩) ⟨trivial, trivial, trivial, trivial, trivial, trivial, trivial, c0, trivial, trivial, trivial, trivial⟩ ?_
        exact gd_ret tc_181 rfl rfl trivial (fun _ => rfl) ⟨_, rfl, h⟩
    · have h := h.2 hc
      show Gd d w 181 _ (59, [some (aR 21 k0), some (aI v1), some (aI v2), some (aI v3), some (aI v4), some (aI s0), some (aI x2)], [], M1)
      obtain ⟨c0, h⟩ := h
      refine gd_s (P := True ∧ True ∧ True ∧ (vp_in x2 (rK M1 (k0 + 8)).2) ∧ True) (σ1 := (66, [some (aR 21 k0), some (aI v1), some (aI v2), some (aI v3), some (aI v4), some (aI s0), some (aI x2)], [aI (rI M1 (k0 + 8) x2.toNatClampNeg)], M1)) tc_181 rfl 4 (fun u => ⟨_, rfl⟩) ⟨trivial, trivial, trivial, c0, trivial⟩ ?_
      exact gd_ret tc_181 rfl rfl trivial (fun _ => rfl) ⟨_, rfl, h⟩
  · have h := h.2 hc
    show Gd d w 181 _ (43, [some (aR 21 k0), some (aI v1), some (aI v2), some (aI v3), some (aI v4), some (aI s0), o6], [], M1)
    refine gd_s (P := True ∧ True) (σ1 := (44, [some (aR 21 k0), some (aI v1), some (aI v2), some (aI v3), some (aI v4), some (aI s0), o6], [aI ((0 : Int32))], M1)) tc_181 rfl 1 (fun u => ⟨_, rfl⟩) ⟨trivial, trivial⟩ ?_
    exact gd_ret tc_181 rfl rfl trivial (fun _ => rfl) ⟨_, rfl, h⟩
def w_Mo_name_J31 (post : Int32 → aM → Prop) (k0 : Nat) (v1 : Int32) (v2 : Int32) (v3 : Int32) (v4 : Int32) (M : aM) : Prop := w_Mo_name_J32 post k0 v1 v2 v3 v4 ((0 : Int32)) M
theorem g_Mo_name_J31 {d w : Nat} (hd : 3 ≤ d) (hw : 64 ≤ w) {post : Int32 → aM → Prop} (k0 : Nat) (v1 : Int32) (v2 : Int32) (v3 : Int32) (v4 : Int32) (o5 o6 : Option aV) (M : aM) (h : w_Mo_name_J31 post k0 v1 v2 v3 v4 M) : Gd d w 181 (pI post) (31, [some (aR 21 k0), some (aI v1), some (aI v2), some (aI v3), some (aI v4), o5, o6], [], M) := by
  unfold w_Mo_name_J31 at h
  show Gd d w 181 _ (31, [some (aR 21 k0), some (aI v1), some (aI v2), some (aI v3), some (aI v4), o5, o6], [], M)
  refine gd_s (P := True ∧ True) (σ1 := (32, [some (aR 21 k0), some (aI v1), some (aI v2), some (aI v3), some (aI v4), o5, o6], [aI ((0 : Int32))], M)) tc_181 rfl 1 (fun u => ⟨_, rfl⟩) ⟨trivial, trivial⟩ ?_
  exact g_Mo_name_J32 hd hw k0 v1 v2 v3 v4 ((0 : Int32)) o5 o6 M h
/-- PolicyJudgeModel.name(IIII)I -/
def w_Mo_name (post : Int32 → aM → Prop) (k0 : Nat) (v1 : Int32) (v2 : Int32) (v3 : Int32) (v4 : Int32) (M : aM) : Prop := ((¬ v2 = ((0 : Int32))) → ((¬ v2 = ((1 : Int32))) → w_Mo_name_J31 post k0 v1 v2 v3 v4 M) ∧ (¬ (¬ v2 = ((1 : Int32))) → w_Mo_isNode (fun x1 => ((x1 = ((0 : Int32))) → w_Mo_name_J31 post k0 v1 v2 v3 v4 M) ∧ (¬ (x1 = ((0 : Int32))) → w_Mo_name_J32 post k0 v1 v2 v3 v4 ((1 : Int32)) M)) k0 v1 v3 M)) ∧ (¬ (¬ v2 = ((0 : Int32))) → w_Mo_isAttribute (fun x2 => w_Mo_name_J32 post k0 v1 v2 v3 v4 x2 M) k0 v1 v3 M)
theorem g_Mo_name {d w : Nat} (hd : 3 ≤ d) (hw : 64 ≤ w) {post : Int32 → aM → Prop} {k0 : Nat} {v1 : Int32} {v2 : Int32} {v3 : Int32} {v4 : Int32} {M : aM} (h : w_Mo_name post k0 v1 v2 v3 v4 M) : Gd d w 181 (pI post) (0, aEnt 181 [aR 21 k0, aI v1, aI v2, aI v3, aI v4], [], M) := by
  unfold w_Mo_name at h
  show Gd d w 181 _ (0, [some (aR 21 k0), some (aI v1), some (aI v2), some (aI v3), some (aI v4), none, none], [], M)
  refine gd_s (P := True ∧ True) (σ1 := (1, [some (aR 21 k0), some (aI v1), some (aI v2), some (aI v3), some (aI v4), none, none], [aI v2], M)) tc_181 rfl 1 (fun u => ⟨_, rfl⟩) ⟨trivial, trivial⟩ ?_
  refine gd_br (c := ¬ v2 = ((0 : Int32))) (st1 := []) tc_181 rfl rfl (fun _ => rfl) ⟨fun hc => ?_, fun hc => ?_⟩
  · have h := h.1 hc
    show Gd d w 181 _ (13, [some (aR 21 k0), some (aI v1), some (aI v2), some (aI v3), some (aI v4), none, none], [], M)
    refine gd_s (P := True ∧ True ∧ True) (σ1 := (15, [some (aR 21 k0), some (aI v1), some (aI v2), some (aI v3), some (aI v4), none, none], [aI ((1 : Int32)), aI v2], M)) tc_181 rfl 2 (fun u => ⟨_, rfl⟩) ⟨trivial, trivial, trivial⟩ ?_
    refine gd_br (c := ¬ v2 = ((1 : Int32))) (st1 := []) tc_181 rfl rfl (fun _ => rfl) ⟨fun hc => ?_, fun hc => ?_⟩
    · have h := h.1 hc
      exact g_Mo_name_J31 hd hw k0 v1 v2 v3 v4 none none M h
    · have h := h.2 hc
      show Gd d w 181 _ (18, [some (aR 21 k0), some (aI v1), some (aI v2), some (aI v3), some (aI v4), none, none], [], M)
      refine gd_s (P := True ∧ True ∧ True ∧ True) (σ1 := (21, [some (aR 21 k0), some (aI v1), some (aI v2), some (aI v3), some (aI v4), none, none], [aI v3, aI v1, aR 21 k0], M)) tc_181 rfl 3 (fun u => ⟨_, rfl⟩) ⟨trivial, trivial, trivial, trivial⟩ ?_
      refine gd_callN (ml := 3) (as := [aR 21 k0, aI v1, aI v3]) (rest := []) tc_181 rfl rfl rfl rfl rfl (by omega) (by omega) (Nat.le_of_ble_eq_true rfl) rfl (g_Mo_isNode (by omega) (by omega) h) (fun r9 M9 h => ?_)
      obtain ⟨x1, rfl, e9, h⟩ := h
      subst M9
      show Gd d w 181 _ (24, [some (aR 21 k0), some (aI v1), some (aI v2), some (aI v3), some (aI v4), none, none], [aI x1], M)
      refine gd_br (c := x1 = ((0 : Int32))) (st1 := []) tc_181 rfl rfl (fun _ => rfl) ⟨fun hc => ?_, fun hc => ?_⟩
      · have h := h.1 hc
        exact g_Mo_name_J31 hd hw k0 v1 v2 v3 v4 none none M h
      · have h := h.2 hc
        show Gd d w 181 _ (27, [some (aR 21 k0), some (aI v1), some (aI v2), some (aI v3), some (aI v4), none, none], [], M)
        refine gd_s (P := True ∧ True ∧ True) (σ1 := (32, [some (aR 21 k0), some (aI v1), some (aI v2), some (aI v3), some (aI v4), none, none], [aI ((1 : Int32))], M)) tc_181 rfl 2 (fun u => ⟨_, rfl⟩) ⟨trivial, trivial, trivial⟩ ?_
        exact g_Mo_name_J32 hd hw k0 v1 v2 v3 v4 ((1 : Int32)) none none M h
  · have h := h.2 hc
    show Gd d w 181 _ (4, [some (aR 21 k0), some (aI v1), some (aI v2), some (aI v3), some (aI v4), none, none], [], M)
    refine gd_s (P := True ∧ True ∧ True ∧ True) (σ1 := (7, [some (aR 21 k0), some (aI v1), some (aI v2), some (aI v3), some (aI v4), none, none], [aI v3, aI v1, aR 21 k0], M)) tc_181 rfl 3 (fun u => ⟨_, rfl⟩) ⟨trivial, trivial, trivial, trivial⟩ ?_
    refine gd_callN (ml := 3) (as := [aR 21 k0, aI v1, aI v3]) (rest := []) tc_181 rfl rfl rfl rfl rfl (by omega) (by omega) (Nat.le_of_ble_eq_true rfl) rfl (g_Mo_isAttribute (by omega) (by omega) h) (fun r9 M9 h => ?_)
    obtain ⟨x2, rfl, e9, h⟩ := h
    subst M9
    show Gd d w 181 _ (10, [some (aR 21 k0), some (aI v1), some (aI v2), some (aI v3), some (aI v4), none, none], [aI x2], M)
    refine gd_s (P := True ∧ True) (σ1 := (32, [some (aR 21 k0), some (aI v1), some (aI v2), some (aI v3), some (aI v4), none, none], [aI x2], M)) tc_181 rfl 1 (fun u => ⟨_, rfl⟩) ⟨trivial, trivial⟩ ?_
    exact g_Mo_name_J32 hd hw k0 v1 v2 v3 v4 x2 none none M h
theorem tc_183 : tC 183 = c183 := rfl
def w_Mo_attribute_J24 (post : Int32 → aM → Prop) (k0 : Nat) (v1 : Int32) (v2 : Int32) (v3 : Int32) (t0 : Nat) (s1 : Int32) (M : aM) : Prop := w_Mo_goes (fun x1 M1 => ((¬ x1 = ((0 : Int32))) → ((¬ v3 = ((0 : Int32))) → ((¬ v3 = ((1 : Int32))) → ((¬ v3 = ((2 : Int32))) → (vp_in ((((8 : Int32)) * v1) + v2) (rK M1 (k0 + 7)).2) ∧ post (rI M1 (k0 + 7) ((((8 : Int32)) * v1) + v2).toNatClampNeg) M1) ∧ (¬ (¬ v3 = ((2 : Int32))) → (vp_in ((((8 : Int32)) * v1) + v2) (rK M1 (k0 + 6)).2) ∧ ((((rI M1 (k0 + 6) ((((8 : Int32)) * v1) + v2).toNatClampNeg) = ((0 : Int32))) → post ((0 : Int32)) M1) ∧ (¬ ((rI M1 (k0 + 6) ((((8 : Int32)) * v1) + v2).toNatClampNeg) = ((0 : Int32))) → post ((1 : Int32)) M1)))) ∧ (¬ (¬ v3 = ((1 : Int32))) → (vp_in ((((8 : Int32)) * v1) + v2) (rK M1 (k0 + 5)).2) ∧ ((((rI M1 (k0 + 5) ((((8 : Int32)) * v1) + v2).toNatClampNeg) = ((0 : Int32))) → post ((0 : Int32)) M1) ∧ (¬ ((rI M1 (k0 + 5) ((((8 : Int32)) * v1) + v2).toNatClampNeg) = ((0 : Int32))) → post ((1 : Int32)) M1)))) ∧ (¬ (¬ v3 = ((0 : Int32))) → (vp_in ((((8 : Int32)) * v1) + v2) (rK M1 (k0 + 4)).2) ∧ post (rI M1 (k0 + 4) ((((8 : Int32)) * v1) + v2).toNatClampNeg) M1)) ∧ (¬ (¬ x1 = ((0 : Int32))) → post ((0 : Int32)) M1)) t0 s1 M
theorem g_Mo_attribute_J24 {d w : Nat} (hd : 3 ≤ d) (hw : 64 ≤ w) {post : Int32 → aM → Prop} (k0 : Nat) (v1 : Int32) (v2 : Int32) (v3 : Int32) (t0 : Nat) (s1 : Int32) (o4 : Option aV) (M : aM) (h : w_Mo_attribute_J24 post k0 v1 v2 v3 t0 s1 M) : Gd d w 183 (pI post) (24, [some (aR 21 k0), some (aI v1), some (aI v2), some (aI v3), o4], [aI s1, aR 21 t0], M) := by
  unfold w_Mo_attribute_J24 at h
  show Gd d w 183 _ (24, [some (aR 21 k0), some (aI v1), some (aI v2), some (aI v3), o4], [aI s1, aR 21 t0], M)
  refine gd_callN (ml := 2) (as := [aR 21 t0, aI s1]) (rest := []) tc_183 rfl rfl rfl rfl rfl (by omega) (by omega) (Nat.le_of_ble_eq_true rfl) rfl (g_Mo_goes (by omega) (by omega) h) (fun r9 M1 h => ?_)
  obtain ⟨x1, rfl, h⟩ := h
  show Gd d w 183 _ (27, [some (aR 21 k0), some (aI v1), some (aI v2), some (aI v3), o4], [aI x1], M1)
  refine gd_br (c := ¬ x1 = ((0 : Int32))) (st1 := []) tc_183 rfl rfl (fun _ => rfl) ⟨fun hc => ?_, fun hc => ?_⟩
  · have h := h.1 hc
    show Gd d w 183 _ (32, [some (aR 21 k0), some (aI v1), some (aI v2), some (aI v3), o4], [], M1)
    refine gd_s (P := True ∧ True ∧ True ∧ True ∧ True ∧ True ∧ True ∧ True) (σ1 := (41, [some (aR 21 k0), some (aI v1), some (aI v2), some (aI v3), some (aI ((((8 : Int32)) * v1) + v2))], [aI v3], M1)) tc_183 rfl 7 (fun u => ⟨_, rfl⟩) ⟨trivial, trivial, trivial, trivial, trivial, trivial, trivial, trivial⟩ ?_
    refine gd_br (c := ¬ v3 = ((0 : Int32))) (st1 := []) tc_183 rfl rfl (fun _ => rfl) ⟨fun hc => ?_, fun hc => ?_⟩
    · have h := h.1 hc
      show Gd d w 183 _ (54, [some (aR 21 k0), some (aI v1), some (aI v2), some (aI v3), some (aI ((((8 : Int32)) * v1) + v2))], [], M1)
      refine gd_s (P := True ∧ True ∧ True) (σ1 := (56, [some (aR 21 k0), some (aI v1), some (aI v2), some (aI v3), some (aI ((((8 : Int32)) * v1) + v2))], [aI ((1 : Int32)), aI v3], M1)) tc_183 rfl 2 (fun u => ⟨_, rfl⟩) ⟨trivial, trivial, trivial⟩ ?_
      refine gd_br (c := ¬ v3 = ((1 : Int32))) (st1 := []) tc_183 rfl rfl (fun _ => rfl) ⟨fun hc => ?_, fun hc => ?_⟩
      · have h := h.1 hc
        show Gd d w 183 _ (77, [some (aR 21 k0), some (aI v1), some (aI v2), some (aI v3), some (aI ((((8 : Int32)) * v1) + v2))], [], M1)
        refine gd_s (P := True ∧ True ∧ True) (σ1 := (79, [some (aR 21 k0), some (aI v1), some (aI v2), some (aI v3), some (aI ((((8 : Int32)) * v1) + v2))], [aI ((2 : Int32)), aI v3], M1)) tc_183 rfl 2 (fun u => ⟨_, rfl⟩) ⟨trivial, trivial, trivial⟩ ?_
        refine gd_br (c := ¬ v3 = ((2 : Int32))) (st1 := []) tc_183 rfl rfl (fun _ => rfl) ⟨fun hc => ?_, fun hc => ?_⟩
        · have h := h.1 hc
          show Gd d w 183 _ (100, [some (aR 21 k0), some (aI v1), some (aI v2), some (aI v3), some (aI ((((8 : Int32)) * v1) + v2))], [], M1)
          obtain ⟨c0, h⟩ := h
          refine gd_s (P := True ∧ True ∧ True ∧ (vp_in ((((8 : Int32)) * v1) + v2) (rK M1 (k0 + 7)).2) ∧ True) (σ1 := (107, [some (aR 21 k0), some (aI v1), some (aI v2), some (aI v3), some (aI ((((8 : Int32)) * v1) + v2))], [aI (rI M1 (k0 + 7) ((((8 : Int32)) * v1) + v2).toNatClampNeg)], M1)) tc_183 rfl 4 (fun u => ⟨_, rfl⟩) ⟨trivial, trivial, trivial, c0, trivial⟩ ?_
          exact gd_ret tc_183 rfl rfl trivial (fun _ => rfl) ⟨_, rfl, h⟩
        · have h := h.2 hc
          show Gd d w 183 _ (82, [some (aR 21 k0), some (aI v1), some (aI v2), some (aI v3), some (aI ((((8 : Int32)) * v1) + v2))], [], M1)
          obtain ⟨c0, h⟩ := h
          refine gd_s (P := True ∧ True ∧ True ∧ (vp_in ((((8 : Int32)) * v1) + v2) (rK M1 (k0 + 6)).2) ∧ True) (σ1 := (89, [some (aR 21 k0), some (aI v1), some (aI v2), some (aI v3), some (aI ((((8 : Int32)) * v1) + v2))], [aI (rI M1 (k0 + 6) ((((8 : Int32)) * v1) + v2).toNatClampNeg)], M1)) tc_183 rfl 4 (fun u => ⟨_, rfl⟩) ⟨trivial, trivial, trivial, c0, trivial⟩ ?_
          refine gd_br (c := (rI M1 (k0 + 6) ((((8 : Int32)) * v1) + v2).toNatClampNeg) = ((0 : Int32))) (st1 := []) tc_183 rfl rfl (fun _ => rfl) ⟨fun hc => ?_, fun hc => ?_⟩
          · have h := h.1 hc
            show Gd d w 183 _ (96, [some (aR 21 k0), some (aI v1), some (aI v2), some (aI v3), some (aI ((((8 : Int32)) * v1) + v2))], [], M1)
            refine gd_s (P := True ∧ True ∧ True) (σ1 := (107, [some (aR 21 k0), some (aI v1), some (aI v2), some (aI v3), some (aI ((((8 : Int32)) * v1) + v2))], [aI ((0 : Int32))], M1)) tc_183 rfl 2 (fun u => ⟨_, rfl⟩) ⟨trivial, trivial, trivial⟩ ?_
            exact gd_ret tc_183 rfl rfl trivial (fun _ => rfl) ⟨_, rfl, h⟩
          · have h := h.2 hc
            show Gd d w 183 _ (92, [some (aR 21 k0), some (aI v1), some (aI v2), some (aI v3), some (aI ((((8 : Int32)) * v1) + v2))], [], M1)
            refine gd_s (P := True ∧ True ∧ True) (σ1 := (107, [some (aR 21 k0), some (aI v1), some (aI v2), some (aI v3), some (aI ((((8 : Int32)) * v1) + v2))], [aI ((1 : Int32))], M1)) tc_183 rfl 2 (fun u => ⟨_, rfl⟩) ⟨trivial, trivial, trivial⟩ ?_
            exact gd_ret tc_183 rfl rfl trivial (fun _ => rfl) ⟨_, rfl, h⟩
      · have h := h.2 hc
        show Gd d w 183 _ (59, [some (aR 21 k0), some (aI v1), some (aI v2), some (aI v3), some (aI ((((8 : Int32)) * v1) + v2))], [], M1)
        obtain ⟨c0, h⟩ := h
        refine gd_s (P := True ∧ True ∧ True ∧ (vp_in ((((8 : Int32)) * v1) + v2) (rK M1 (k0 + 5)).2) ∧ True) (σ1 := (66, [some (aR 21 k0), some (aI v1), some (aI v2), some (aI v3), some (aI ((((8 : Int32)) * v1) + v2))], [aI (rI M1 (k0 + 5) ((((8 : Int32)) * v1) + v2).toNatClampNeg)], M1)) tc_183 rfl 4 (fun u => ⟨_, rfl⟩) ⟨trivial, trivial, trivial, c0, trivial⟩ ?_
        refine gd_br (c := (rI M1 (k0 + 5) ((((8 : Int32)) * v1) + v2).toNatClampNeg) = ((0 : Int32))) (st1 := []) tc_183 rfl rfl (fun _ => rfl) ⟨fun hc => ?_, fun hc => ?_⟩
        · have h := h.1 hc
          show Gd d w 183 _ (73, [some (aR 21 k0), some (aI v1), some (aI v2), some (aI v3), some (aI ((((8 : Int32)) * v1) + v2))], [], M1)
          refine gd_s (P := True ∧ True ∧ True) (σ1 := (107, [some (aR 21 k0), some (aI v1), some (aI v2), some (aI v3), some (aI ((((8 : Int32)) * v1) + v2))], [aI ((0 : Int32))], M1)) tc_183 rfl 2 (fun u => ⟨_, rfl⟩) ⟨trivial, trivial, trivial⟩ ?_
          exact gd_ret tc_183 rfl rfl trivial (fun _ => rfl) ⟨_, rfl, h⟩
        · have h := h.2 hc
          show Gd d w 183 _ (69, [some (aR 21 k0), some (aI v1), some (aI v2), some (aI v3), some (aI ((((8 : Int32)) * v1) + v2))], [], M1)
          refine gd_s (P := True ∧ True ∧ True) (σ1 := (107, [some (aR 21 k0), some (aI v1), some (aI v2), some (aI v3), some (aI ((((8 : Int32)) * v1) + v2))], [aI ((1 : Int32))], M1)) tc_183 rfl 2 (fun u => ⟨_, rfl⟩) ⟨trivial, trivial, trivial⟩ ?_
          exact gd_ret tc_183 rfl rfl trivial (fun _ => rfl) ⟨_, rfl, h⟩
    · have h := h.2 hc
      show Gd d w 183 _ (44, [some (aR 21 k0), some (aI v1), some (aI v2), some (aI v3), some (aI ((((8 : Int32)) * v1) + v2))], [], M1)
      obtain ⟨c0, h⟩ := h
      refine gd_s (P := True ∧ True ∧ True ∧ (vp_in ((((8 : Int32)) * v1) + v2) (rK M1 (k0 + 4)).2) ∧ True ∧ True) (σ1 := (107, [some (aR 21 k0), some (aI v1), some (aI v2), some (aI v3), some (aI ((((8 : Int32)) * v1) + v2))], [aI (rI M1 (k0 + 4) ((((8 : Int32)) * v1) + v2).toNatClampNeg)], M1)) tc_183 rfl 5 (fun u => ⟨_, rfl⟩) ⟨trivial, trivial, trivial, c0, trivial, trivial⟩ ?_
      exact gd_ret tc_183 rfl rfl trivial (fun _ => rfl) ⟨_, rfl, h⟩
  · have h := h.2 hc
    show Gd d w 183 _ (30, [some (aR 21 k0), some (aI v1), some (aI v2), some (aI v3), o4], [], M1)
    refine gd_s (P := True ∧ True) (σ1 := (31, [some (aR 21 k0), some (aI v1), some (aI v2), some (aI v3), o4], [aI ((0 : Int32))], M1)) tc_183 rfl 1 (fun u => ⟨_, rfl⟩) ⟨trivial, trivial⟩ ?_
    exact gd_ret tc_183 rfl rfl trivial (fun _ => rfl) ⟨_, rfl, h⟩
def w_Mo_attribute_J23 (post : Int32 → aM → Prop) (k0 : Nat) (v1 : Int32) (v2 : Int32) (v3 : Int32) (t0 : Nat) (M : aM) : Prop := w_Mo_attribute_J24 post k0 v1 v2 v3 t0 ((0 : Int32)) M
theorem g_Mo_attribute_J23 {d w : Nat} (hd : 3 ≤ d) (hw : 64 ≤ w) {post : Int32 → aM → Prop} (k0 : Nat) (v1 : Int32) (v2 : Int32) (v3 : Int32) (t0 : Nat) (o4 : Option aV) (M : aM) (h : w_Mo_attribute_J23 post k0 v1 v2 v3 t0 M) : Gd d w 183 (pI post) (23, [some (aR 21 k0), some (aI v1), some (aI v2), some (aI v3), o4], [aR 21 t0], M) := by
  unfold w_Mo_attribute_J23 at h
  show Gd d w 183 _ (23, [some (aR 21 k0), some (aI v1), some (aI v2), some (aI v3), o4], [aR 21 t0], M)
  refine gd_s (P := True ∧ True) (σ1 := (24, [some (aR 21 k0), some (aI v1), some (aI v2), some (aI v3), o4], [aI ((0 : Int32)), aR 21 t0], M)) tc_183 rfl 1 (fun u => ⟨_, rfl⟩) ⟨trivial, trivial⟩ ?_
  exact g_Mo_attribute_J24 hd hw k0 v1 v2 v3 t0 ((0 : Int32)) o4 M h
/-- PolicyJudgeModel.attribute(III)I -/
def w_Mo_attribute (post : Int32 → aM → Prop) (k0 : Nat) (v1 : Int32) (v2 : Int32) (v3 : Int32) (M : aM) : Prop := w_Mo_isAttribute (fun x1 => ((x1 = ((0 : Int32))) → w_Mo_attribute_J23 post k0 v1 v2 v3 k0 M) ∧ (¬ (x1 = ((0 : Int32))) → w_Mo_in (fun x2 => ((x2 = ((0 : Int32))) → w_Mo_attribute_J23 post k0 v1 v2 v3 k0 M) ∧ (¬ (x2 = ((0 : Int32))) → w_Mo_attribute_J24 post k0 v1 v2 v3 k0 ((1 : Int32)) M)) v3 ((0 : Int32)) ((3 : Int32)) M)) k0 v1 v2 M
theorem g_Mo_attribute {d w : Nat} (hd : 3 ≤ d) (hw : 64 ≤ w) {post : Int32 → aM → Prop} {k0 : Nat} {v1 : Int32} {v2 : Int32} {v3 : Int32} {M : aM} (h : w_Mo_attribute post k0 v1 v2 v3 M) : Gd d w 183 (pI post) (0, aEnt 183 [aR 21 k0, aI v1, aI v2, aI v3], [], M) := by
  unfold w_Mo_attribute at h
  show Gd d w 183 _ (0, [some (aR 21 k0), some (aI v1), some (aI v2), some (aI v3), none], [], M)
  refine gd_s (P := True ∧ True ∧ True ∧ True ∧ True) (σ1 := (4, [some (aR 21 k0), some (aI v1), some (aI v2), some (aI v3), none], [aI v2, aI v1, aR 21 k0, aR 21 k0], M)) tc_183 rfl 4 (fun u => ⟨_, rfl⟩) ⟨trivial, trivial, trivial, trivial, trivial⟩ ?_
  refine gd_callN (ml := 3) (as := [aR 21 k0, aI v1, aI v2]) (rest := [aR 21 k0]) tc_183 rfl rfl rfl rfl rfl (by omega) (by omega) (Nat.le_of_ble_eq_true rfl) rfl (g_Mo_isAttribute (by omega) (by omega) h) (fun r9 M9 h => ?_)
  obtain ⟨x1, rfl, e9, h⟩ := h
  subst M9
  show Gd d w 183 _ (7, [some (aR 21 k0), some (aI v1), some (aI v2), some (aI v3), none], [aI x1, aR 21 k0], M)
  refine gd_br (c := x1 = ((0 : Int32))) (st1 := [aR 21 k0]) tc_183 rfl rfl (fun _ => rfl) ⟨fun hc => ?_, fun hc => ?_⟩
  · have h := h.1 hc
    exact g_Mo_attribute_J23 hd hw k0 v1 v2 v3 k0 none M h
  · have h := h.2 hc
    show Gd d w 183 _ (10, [some (aR 21 k0), some (aI v1), some (aI v2), some (aI v3), none], [aR 21 k0], M)
    refine gd_s (P := True ∧ True ∧ True ∧ True) (σ1 := (13, [some (aR 21 k0), some (aI v1), some (aI v2), some (aI v3), none], [aI ((3 : Int32)), aI ((0 : Int32)), aI v3, aR 21 k0], M)) tc_183 rfl 3 (fun u => ⟨_, rfl⟩) ⟨trivial, trivial, trivial, trivial⟩ ?_
    refine gd_callN (ml := 3) (as := [aI v3, aI ((0 : Int32)), aI ((3 : Int32))]) (rest := [aR 21 k0]) tc_183 rfl rfl rfl rfl rfl (by omega) (by omega) (Nat.le_of_ble_eq_true rfl) rfl (g_Mo_in (by omega) (by omega) h) (fun r9 M9 h => ?_)
    obtain ⟨x2, rfl, e9, h⟩ := h
    subst M9
    show Gd d w 183 _ (16, [some (aR 21 k0), some (aI v1), some (aI v2), some (aI v3), none], [aI x2, aR 21 k0], M)
    refine gd_br (c := x2 = ((0 : Int32))) (st1 := [aR 21 k0]) tc_183 rfl rfl (fun _ => rfl) ⟨fun hc => ?_, fun hc => ?_⟩
    · have h := h.1 hc
      exact g_Mo_attribute_J23 hd hw k0 v1 v2 v3 k0 none M h
    · have h := h.2 hc
      show Gd d w 183 _ (19, [some (aR 21 k0), some (aI v1), some (aI v2), some (aI v3), none], [aR 21 k0], M)
      refine gd_s (P := True ∧ True ∧ True) (σ1 := (24, [some (aR 21 k0), some (aI v1), some (aI v2), some (aI v3), none], [aI ((1 : Int32)), aR 21 k0], M)) tc_183 rfl 2 (fun u => ⟨_, rfl⟩) ⟨trivial, trivial, trivial⟩ ?_
      exact g_Mo_attribute_J24 hd hw k0 v1 v2 v3 k0 ((1 : Int32)) none M h
theorem tc_185 : tC 185 = c185 := rfl
/-- PolicyJudgeModel.isBag(II)Z -/
def w_Mo_isBag (post : Int32 → Prop) (k0 : Nat) (v1 : Int32) (v2 : Int32) (M : aM) : Prop := (vp_in v1 (rK M (k0 + 4)).2) ∧ (w_Mo_in (fun x1 => ((x1 = ((0 : Int32))) → (((0 : Int32)) = 0 ∨ ((0 : Int32)) = 1) ∧ post ((0 : Int32))) ∧ (¬ (x1 = ((0 : Int32))) → (vp_in v1 (rK M (k0 + 5)).2) ∧ (((¬ (rI M (k0 + 5) v1.toNatClampNeg) = ((0 : Int32))) → (((1 : Int32)) = 0 ∨ ((1 : Int32)) = 1) ∧ post ((1 : Int32))) ∧ (¬ (¬ (rI M (k0 + 5) v1.toNatClampNeg) = ((0 : Int32))) → ((¬ (v2 &&& (v2 - ((1 : Int32)))) = ((0 : Int32))) → (((0 : Int32)) = 0 ∨ ((0 : Int32)) = 1) ∧ post ((0 : Int32))) ∧ (¬ (¬ (v2 &&& (v2 - ((1 : Int32)))) = ((0 : Int32))) → (((1 : Int32)) = 0 ∨ ((1 : Int32)) = 1) ∧ post ((1 : Int32))))))) v2 ((0 : Int32)) ((((1 : Int32)) <<< ((rI M (k0 + 4) v1.toNatClampNeg) &&& 31)) - ((1 : Int32))) M)
theorem g_Mo_isBag {d w : Nat} (hd : 1 ≤ d) (hw : 22 ≤ w) {post : Int32 → Prop} {k0 : Nat} {v1 : Int32} {v2 : Int32} {M : aM} (h : w_Mo_isBag post k0 v1 v2 M) : Gd d w 185 (pIn M post) (0, aEnt 185 [aR 21 k0, aI v1, aI v2], [], M) := by
  unfold w_Mo_isBag at h
  show Gd d w 185 _ (0, [some (aR 21 k0), some (aI v1), some (aI v2)], [], M)
  obtain ⟨c0, h⟩ := h
  refine gd_s (P := True ∧ True ∧ True ∧ True ∧ True ∧ True ∧ (vp_in v1 (rK M (k0 + 4)).2) ∧ True ∧ True ∧ True ∧ True) (σ1 := (12, [some (aR 21 k0), some (aI v1), some (aI v2)], [aI ((((1 : Int32)) <<< ((rI M (k0 + 4) v1.toNatClampNeg) &&& 31)) - ((1 : Int32))), aI ((0 : Int32)), aI v2], M)) tc_185 rfl 10 (fun u => ⟨_, rfl⟩) ⟨trivial, trivial, trivial, trivial, trivial, trivial, c0, trivial, trivial, trivial, trivial⟩ ?_
  refine gd_callN (ml := 3) (as := [aI v2, aI ((0 : Int32)), aI ((((1 : Int32)) <<< ((rI M (k0 + 4) v1.toNatClampNeg) &&& 31)) - ((1 : Int32)))]) (rest := []) tc_185 rfl rfl rfl rfl rfl (by omega) (by omega) (Nat.le_of_ble_eq_true rfl) rfl (g_Mo_in (by omega) (by omega) h) (fun r9 M9 h => ?_)
  obtain ⟨x1, rfl, e9, h⟩ := h
  subst M9
  show Gd d w 185 _ (15, [some (aR 21 k0), some (aI v1), some (aI v2)], [aI x1], M)
  refine gd_br (c := x1 = ((0 : Int32))) (st1 := []) tc_185 rfl rfl (fun _ => rfl) ⟨fun hc => ?_, fun hc => ?_⟩
  · have h := h.1 hc
    show Gd d w 185 _ (39, [some (aR 21 k0), some (aI v1), some (aI v2)], [], M)
    refine gd_s (P := True ∧ True) (σ1 := (40, [some (aR 21 k0), some (aI v1), some (aI v2)], [aI ((0 : Int32))], M)) tc_185 rfl 1 (fun u => ⟨_, rfl⟩) ⟨trivial, trivial⟩ ?_
    exact gd_ret tc_185 rfl rfl h.1 (fun _ => rfl) ⟨_, rfl, rfl, h.2⟩
  · have h := h.2 hc
    show Gd d w 185 _ (18, [some (aR 21 k0), some (aI v1), some (aI v2)], [], M)
    obtain ⟨c0, h⟩ := h
    refine gd_s (P := True ∧ True ∧ True ∧ (vp_in v1 (rK M (k0 + 5)).2) ∧ True) (σ1 := (24, [some (aR 21 k0), some (aI v1), some (aI v2)], [aI (rI M (k0 + 5) v1.toNatClampNeg)], M)) tc_185 rfl 4 (fun u => ⟨_, rfl⟩) ⟨trivial, trivial, trivial, c0, trivial⟩ ?_
    refine gd_br (c := ¬ (rI M (k0 + 5) v1.toNatClampNeg) = ((0 : Int32))) (st1 := []) tc_185 rfl rfl (fun _ => rfl) ⟨fun hc => ?_, fun hc => ?_⟩
    · have h := h.1 hc
      show Gd d w 185 _ (35, [some (aR 21 k0), some (aI v1), some (aI v2)], [], M)
      refine gd_s (P := True ∧ True ∧ True) (σ1 := (40, [some (aR 21 k0), some (aI v1), some (aI v2)], [aI ((1 : Int32))], M)) tc_185 rfl 2 (fun u => ⟨_, rfl⟩) ⟨trivial, trivial, trivial⟩ ?_
      exact gd_ret tc_185 rfl rfl h.1 (fun _ => rfl) ⟨_, rfl, rfl, h.2⟩
    · have h := h.2 hc
      show Gd d w 185 _ (27, [some (aR 21 k0), some (aI v1), some (aI v2)], [], M)
      refine gd_s (P := True ∧ True ∧ True ∧ True ∧ True ∧ True) (σ1 := (32, [some (aR 21 k0), some (aI v1), some (aI v2)], [aI (v2 &&& (v2 - ((1 : Int32))))], M)) tc_185 rfl 5 (fun u => ⟨_, rfl⟩) ⟨trivial, trivial, trivial, trivial, trivial, trivial⟩ ?_
      refine gd_br (c := ¬ (v2 &&& (v2 - ((1 : Int32)))) = ((0 : Int32))) (st1 := []) tc_185 rfl rfl (fun _ => rfl) ⟨fun hc => ?_, fun hc => ?_⟩
      · have h := h.1 hc
        show Gd d w 185 _ (39, [some (aR 21 k0), some (aI v1), some (aI v2)], [], M)
        refine gd_s (P := True ∧ True) (σ1 := (40, [some (aR 21 k0), some (aI v1), some (aI v2)], [aI ((0 : Int32))], M)) tc_185 rfl 1 (fun u => ⟨_, rfl⟩) ⟨trivial, trivial⟩ ?_
        exact gd_ret tc_185 rfl rfl h.1 (fun _ => rfl) ⟨_, rfl, rfl, h.2⟩
      · have h := h.2 hc
        show Gd d w 185 _ (35, [some (aR 21 k0), some (aI v1), some (aI v2)], [], M)
        refine gd_s (P := True ∧ True ∧ True) (σ1 := (40, [some (aR 21 k0), some (aI v1), some (aI v2)], [aI ((1 : Int32))], M)) tc_185 rfl 2 (fun u => ⟨_, rfl⟩) ⟨trivial, trivial, trivial⟩ ?_
        exact gd_ret tc_185 rfl rfl h.1 (fun _ => rfl) ⟨_, rfl, rfl, h.2⟩
theorem tc_184 : tC 184 = c184 := rfl
def w_Mo_bag_J33 (post : Int32 → aM → Prop) (k0 : Nat) (v1 : Int32) (v2 : Int32) (v3 : Int32) (t0 : Nat) (s1 : Int32) (M : aM) : Prop := (((rI (wI M t0 0 s1) k0 0) ≤ ((0 : Int32))) → (vp_in ((((8 : Int32)) * v1) + v2) (rK M (k0 + 7)).2) ∧ (vp_in ((((8 : Int32)) * v1) + v2) (rK M (k0 + 7)).2) ∧ post (rI (wI M t0 0 s1) (k0 + 7) ((((8 : Int32)) * v1) + v2).toNatClampNeg) (wI (wI M t0 0 s1) (k0 + 7) ((((8 : Int32)) * v1) + v2).toNatClampNeg v3)) ∧ (¬ ((rI (wI M t0 0 s1) k0 0) ≤ ((0 : Int32))) → post ((0 : Int32)) (wI M t0 0 s1))
theorem g_Mo_bag_J33 {d w : Nat} (hd : 3 ≤ d) (hw : 64 ≤ w) {post : Int32 → aM → Prop} (k0 : Nat) (v1 : Int32) (v2 : Int32) (v3 : Int32) (t0 : Nat) (s1 : Int32) (o4 o5 : Option aV) (M : aM) (h : w_Mo_bag_J33 post k0 v1 v2 v3 t0 s1 M) : Gd d w 184 (pI post) (33, [some (aR 21 k0), some (aI v1), some (aI v2), some (aI v3), o4, o5], [aI s1, aR 21 t0], M) := by
  unfold w_Mo_bag_J33 at h
  show Gd d w 184 _ (33, [some (aR 21 k0), some (aI v1), some (aI v2), some (aI v3), o4, o5], [aI s1, aR 21 t0], M)
  refine gd_s (P := True ∧ True ∧ True ∧ True) (σ1 := (40, [some (aR 21 k0), some (aI v1), some (aI v2), some (aI v3), o4, o5], [aI (rI (wI M t0 0 s1) k0 0)], wI M t0 0 s1)) tc_184 rfl 3 (fun u => ⟨_, rfl⟩) ⟨trivial, trivial, trivial, trivial⟩ ?_
  refine gd_br (c := (rI (wI M t0 0 s1) k0 0) ≤ ((0 : Int32))) (st1 := []) tc_184 rfl rfl (fun _ => rfl) ⟨fun hc => ?_, fun hc => ?_⟩
  · have h := h.1 hc
    show Gd d w 184 _ (45, [some (aR 21 k0), some (aI v1), some (aI v2), some (aI v3), o4, o5], [], wI M t0 0 s1)
    obtain ⟨c0, c1, h⟩ := h
    refine gd_s (P := True ∧ True ∧ True ∧ True ∧ True ∧ True ∧ True ∧ True ∧ True ∧ (vp_in ((((8 : Int32)) * v1) + v2) (rK M (k0 + 7)).2) ∧ True ∧ True ∧ True ∧ True ∧ True ∧ (vp_in ((((8 : Int32)) * v1) + v2) (rK M (k0 + 7)).2) ∧ True ∧ True) (σ1 := (72, [some (aR 21 k0), some (aI v1), some (aI v2), some (aI v3), some (aI ((((8 : Int32)) * v1) + v2)), some (aI (rI (wI M t0 0 s1) (k0 + 7) ((((8 : Int32)) * v1) + v2).toNatClampNeg))], [aI (rI (wI M t0 0 s1) (k0 + 7) ((((8 : Int32)) * v1) + v2).toNatClampNeg)], wI (wI M t0 0 s1) (k0 + 7) ((((8 : Int32)) * v1) + v2).toNatClampNeg v3)) tc_184 rfl 17 (fun u => ⟨_, rfl⟩) ⟨trivial, trivial, trivial, trivial, trivial, trivial, trivial, trivial, trivial, c0, trivial, trivial, trivial, trivial, trivial, c1, trivial, trivial⟩ ?_
    exact gd_ret tc_184 rfl rfl trivial (fun _ => rfl) ⟨_, rfl, h⟩
  · have h := h.2 hc
    show Gd d w 184 _ (43, [some (aR 21 k0), some (aI v1), some (aI v2), some (aI v3), o4, o5], [], wI M t0 0 s1)
    refine gd_s (P := True ∧ True) (σ1 := (44, [some (aR 21 k0), some (aI v1), some (aI v2), some (aI v3), o4, o5], [aI ((0 : Int32))], wI M t0 0 s1)) tc_184 rfl 1 (fun u => ⟨_, rfl⟩) ⟨trivial, trivial⟩ ?_
    exact gd_ret tc_184 rfl rfl trivial (fun _ => rfl) ⟨_, rfl, h⟩
/-- PolicyJudgeModel.bag(III)I -/
def w_Mo_bag (post : Int32 → aM → Prop) (k0 : Nat) (v1 : Int32) (v2 : Int32) (v3 : Int32) (M : aM) : Prop := w_Mo_isAttribute (fun x1 => ((¬ x1 = ((0 : Int32))) → w_Mo_isBag (fun x2 => ((¬ x2 = ((0 : Int32))) → w_Mo_bag_J33 post k0 v1 v2 v3 k0 ((0 : Int32)) M) ∧ (¬ (¬ x2 = ((0 : Int32))) → w_Mo_bag_J33 post k0 v1 v2 v3 k0 ((2 : Int32)) M)) k0 ((((8 : Int32)) * v1) + v2) v3 M) ∧ (¬ (¬ x1 = ((0 : Int32))) → w_Mo_bag_J33 post k0 v1 v2 v3 k0 ((1 : Int32)) M)) k0 v1 v2 M
theorem g_Mo_bag {d w : Nat} (hd : 3 ≤ d) (hw : 64 ≤ w) {post : Int32 → aM → Prop} {k0 : Nat} {v1 : Int32} {v2 : Int32} {v3 : Int32} {M : aM} (h : w_Mo_bag post k0 v1 v2 v3 M) : Gd d w 184 (pI post) (0, aEnt 184 [aR 21 k0, aI v1, aI v2, aI v3], [], M) := by
  unfold w_Mo_bag at h
  show Gd d w 184 _ (0, [some (aR 21 k0), some (aI v1), some (aI v2), some (aI v3), none, none], [], M)
  refine gd_s (P := True ∧ True ∧ True ∧ True ∧ True) (σ1 := (4, [some (aR 21 k0), some (aI v1), some (aI v2), some (aI v3), none, none], [aI v2, aI v1, aR 21 k0, aR 21 k0], M)) tc_184 rfl 4 (fun u => ⟨_, rfl⟩) ⟨trivial, trivial, trivial, trivial, trivial⟩ ?_
  refine gd_callN (ml := 3) (as := [aR 21 k0, aI v1, aI v2]) (rest := [aR 21 k0]) tc_184 rfl rfl rfl rfl rfl (by omega) (by omega) (Nat.le_of_ble_eq_true rfl) rfl (g_Mo_isAttribute (by omega) (by omega) h) (fun r9 M9 h => ?_)
  obtain ⟨x1, rfl, e9, h⟩ := h
  subst M9
  show Gd d w 184 _ (7, [some (aR 21 k0), some (aI v1), some (aI v2), some (aI v3), none, none], [aI x1, aR 21 k0], M)
  refine gd_br (c := ¬ x1 = ((0 : Int32))) (st1 := [aR 21 k0]) tc_184 rfl rfl (fun _ => rfl) ⟨fun hc => ?_, fun hc => ?_⟩
  · have h := h.1 hc
    show Gd d w 184 _ (14, [some (aR 21 k0), some (aI v1), some (aI v2), some (aI v3), none, none], [aR 21 k0], M)
    refine gd_s (P := True ∧ True ∧ True ∧ True ∧ True ∧ True ∧ True ∧ True) (σ1 := (22, [some (aR 21 k0), some (aI v1), some (aI v2), some (aI v3), none, none], [aI v3, aI ((((8 : Int32)) * v1) + v2), aR 21 k0, aR 21 k0], M)) tc_184 rfl 7 (fun u => ⟨_, rfl⟩) ⟨trivial, trivial, trivial, trivial, trivial, trivial, trivial, trivial⟩ ?_
    refine gd_callN (ml := 3) (as := [aR 21 k0, aI ((((8 : Int32)) * v1) + v2), aI v3]) (rest := [aR 21 k0]) tc_184 rfl rfl rfl rfl rfl (by omega) (by omega) (Nat.le_of_ble_eq_true rfl) rfl (g_Mo_isBag (by omega) (by omega) h) (fun r9 M9 h => ?_)
    obtain ⟨x2, rfl, e9, h⟩ := h
    subst M9
    show Gd d w 184 _ (25, [some (aR 21 k0), some (aI v1), some (aI v2), some (aI v3), none, none], [aI x2, aR 21 k0], M)
    refine gd_br (c := ¬ x2 = ((0 : Int32))) (st1 := [aR 21 k0]) tc_184 rfl rfl (fun _ => rfl) ⟨fun hc => ?_, fun hc => ?_⟩
    · have h := h.1 hc
      show Gd d w 184 _ (32, [some (aR 21 k0), some (aI v1), some (aI v2), some (aI v3), none, none], [aR 21 k0], M)
      refine gd_s (P := True ∧ True) (σ1 := (33, [some (aR 21 k0), some (aI v1), some (aI v2), some (aI v3), none, none], [aI ((0 : Int32)), aR 21 k0], M)) tc_184 rfl 1 (fun u => ⟨_, rfl⟩) ⟨trivial, trivial⟩ ?_
      exact g_Mo_bag_J33 hd hw k0 v1 v2 v3 k0 ((0 : Int32)) none none M h
    · have h := h.2 hc
      show Gd d w 184 _ (28, [some (aR 21 k0), some (aI v1), some (aI v2), some (aI v3), none, none], [aR 21 k0], M)
      refine gd_s (P := True ∧ True ∧ True) (σ1 := (33, [some (aR 21 k0), some (aI v1), some (aI v2), some (aI v3), none, none], [aI ((2 : Int32)), aR 21 k0], M)) tc_184 rfl 2 (fun u => ⟨_, rfl⟩) ⟨trivial, trivial, trivial⟩ ?_
      exact g_Mo_bag_J33 hd hw k0 v1 v2 v3 k0 ((2 : Int32)) none none M h
  · have h := h.2 hc
    show Gd d w 184 _ (10, [some (aR 21 k0), some (aI v1), some (aI v2), some (aI v3), none, none], [aR 21 k0], M)
    refine gd_s (P := True ∧ True ∧ True) (σ1 := (33, [some (aR 21 k0), some (aI v1), some (aI v2), some (aI v3), none, none], [aI ((1 : Int32)), aR 21 k0], M)) tc_184 rfl 2 (fun u => ⟨_, rfl⟩) ⟨trivial, trivial, trivial⟩ ?_
    exact g_Mo_bag_J33 hd hw k0 v1 v2 v3 k0 ((1 : Int32)) none none M h
theorem tc_190 : tC 190 = c190 := rfl
/-- PolicyJudgeModel.isMissing(I)Z -/
def w_Mo_isMissing (post : Int32 → Prop) (k0 : Nat) (v1 : Int32) (M : aM) : Prop := (vp_in v1 (rK M (k0 + 6)).2) ∧ ((((rI M (k0 + 6) v1.toNatClampNeg) = ((0 : Int32))) → (((0 : Int32)) = 0 ∨ ((0 : Int32)) = 1) ∧ post ((0 : Int32))) ∧ (¬ ((rI M (k0 + 6) v1.toNatClampNeg) = ((0 : Int32))) → (vp_in v1 (rK M (k0 + 7)).2) ∧ (((¬ (rI M (k0 + 7) v1.toNatClampNeg) = ((0 : Int32))) → (((0 : Int32)) = 0 ∨ ((0 : Int32)) = 1) ∧ post ((0 : Int32))) ∧ (¬ (¬ (rI M (k0 + 7) v1.toNatClampNeg) = ((0 : Int32))) → (((1 : Int32)) = 0 ∨ ((1 : Int32)) = 1) ∧ post ((1 : Int32))))))
theorem g_Mo_isMissing {d w : Nat} (hd : 0 ≤ d) (hw : 0 ≤ w) {post : Int32 → Prop} {k0 : Nat} {v1 : Int32} {M : aM} (h : w_Mo_isMissing post k0 v1 M) : Gd d w 190 (pIn M post) (0, aEnt 190 [aR 21 k0, aI v1], [], M) := by
  unfold w_Mo_isMissing at h
  show Gd d w 190 _ (0, [some (aR 21 k0), some (aI v1)], [], M)
  obtain ⟨c0, h⟩ := h
  refine gd_s (P := True ∧ True ∧ True ∧ (vp_in v1 (rK M (k0 + 6)).2) ∧ True) (σ1 := (6, [some (aR 21 k0), some (aI v1)], [aI (rI M (k0 + 6) v1.toNatClampNeg)], M)) tc_190 rfl 4 (fun u => ⟨_, rfl⟩) ⟨trivial, trivial, trivial, c0, trivial⟩ ?_
  refine gd_br (c := (rI M (k0 + 6) v1.toNatClampNeg) = ((0 : Int32))) (st1 := []) tc_190 rfl rfl (fun _ => rfl) ⟨fun hc => ?_, fun hc => ?_⟩
  · have h := h.1 hc
    show Gd d w 190 _ (22, [some (aR 21 k0), some (aI v1)], [], M)
    refine gd_s (P := True ∧ True) (σ1 := (23, [some (aR 21 k0), some (aI v1)], [aI ((0 : Int32))], M)) tc_190 rfl 1 (fun u => ⟨_, rfl⟩) ⟨trivial, trivial⟩ ?_
    exact gd_ret tc_190 rfl rfl h.1 (fun _ => rfl) ⟨_, rfl, rfl, h.2⟩
  · have h := h.2 hc
    show Gd d w 190 _ (9, [some (aR 21 k0), some (aI v1)], [], M)
    obtain ⟨c0, h⟩ := h
    refine gd_s (P := True ∧ True ∧ True ∧ (vp_in v1 (rK M (k0 + 7)).2) ∧ True) (σ1 := (15, [some (aR 21 k0), some (aI v1)], [aI (rI M (k0 + 7) v1.toNatClampNeg)], M)) tc_190 rfl 4 (fun u => ⟨_, rfl⟩) ⟨trivial, trivial, trivial, c0, trivial⟩ ?_
    refine gd_br (c := ¬ (rI M (k0 + 7) v1.toNatClampNeg) = ((0 : Int32))) (st1 := []) tc_190 rfl rfl (fun _ => rfl) ⟨fun hc => ?_, fun hc => ?_⟩
    · have h := h.1 hc
      show Gd d w 190 _ (22, [some (aR 21 k0), some (aI v1)], [], M)
      refine gd_s (P := True ∧ True) (σ1 := (23, [some (aR 21 k0), some (aI v1)], [aI ((0 : Int32))], M)) tc_190 rfl 1 (fun u => ⟨_, rfl⟩) ⟨trivial, trivial⟩ ?_
      exact gd_ret tc_190 rfl rfl h.1 (fun _ => rfl) ⟨_, rfl, rfl, h.2⟩
    · have h := h.2 hc
      show Gd d w 190 _ (18, [some (aR 21 k0), some (aI v1)], [], M)
      refine gd_s (P := True ∧ True ∧ True) (σ1 := (23, [some (aR 21 k0), some (aI v1)], [aI ((1 : Int32))], M)) tc_190 rfl 2 (fun u => ⟨_, rfl⟩) ⟨trivial, trivial, trivial⟩ ?_
      exact gd_ret tc_190 rfl rfl h.1 (fun _ => rfl) ⟨_, rfl, rfl, h.2⟩
theorem tc_191 : tC 191 = c191 := rfl
/-- PolicyJudgeModel.truthOf(Z)I -/
def w_Mo_truthOf (post : Int32 → Prop) (v0 : Int32) (M : aM) : Prop := ((v0 = ((0 : Int32))) → post ((0 : Int32))) ∧ (¬ (v0 = ((0 : Int32))) → post ((1 : Int32)))
theorem g_Mo_truthOf {d w : Nat} (hd : 0 ≤ d) (hw : 0 ≤ w) {post : Int32 → Prop} {v0 : Int32} {M : aM} (h : w_Mo_truthOf post v0 M) : Gd d w 191 (pIn M post) (0, aEnt 191 [aI v0], [], M) := by
  unfold w_Mo_truthOf at h
  show Gd d w 191 _ (0, [some (aI v0)], [], M)
  refine gd_s (P := True ∧ True) (σ1 := (1, [some (aI v0)], [aI v0], M)) tc_191 rfl 1 (fun u => ⟨_, rfl⟩) ⟨trivial, trivial⟩ ?_
  refine gd_br (c := v0 = ((0 : Int32))) (st1 := []) tc_191 rfl rfl (fun _ => rfl) ⟨fun hc => ?_, fun hc => ?_⟩
  · have h := h.1 hc
    show Gd d w 191 _ (8, [some (aI v0)], [], M)
    refine gd_s (P := True ∧ True) (σ1 := (9, [some (aI v0)], [aI ((0 : Int32))], M)) tc_191 rfl 1 (fun u => ⟨_, rfl⟩) ⟨trivial, trivial⟩ ?_
    exact gd_ret tc_191 rfl rfl trivial (fun _ => rfl) ⟨_, rfl, rfl, h⟩
  · have h := h.2 hc
    show Gd d w 191 _ (4, [some (aI v0)], [], M)
    refine gd_s (P := True ∧ True ∧ True) (σ1 := (9, [some (aI v0)], [aI ((1 : Int32))], M)) tc_191 rfl 2 (fun u => ⟨_, rfl⟩) ⟨trivial, trivial, trivial⟩ ?_
    exact gd_ret tc_191 rfl rfl trivial (fun _ => rfl) ⟨_, rfl, rfl, h⟩
theorem tc_192 : tC 192 = c192 := rfl
def w_Mo_maskOf_L4 (M : aM) (post : Int32 → Prop) : Nat → Nat → Int32 → Int32 → Int32 → Prop
  | 0, _, _, _, _ => False
  | n + 1, k0, v1, v2, v3 => (vp_in v1 (rK M (k0 + 18)).2) ∧ ((((rI M (k0 + 18) v1.toNatClampNeg) ≤ v3) → post v2) ∧ (¬ ((rI M (k0 + 18) v1.toNatClampNeg) ≤ v3) → (vp_in v1 (rK M (k0 + 19)).2) ∧ (w_Mo_maskOf_L4 M post n k0 v1 (v2 ||| (((1 : Int32)) <<< ((((rI M (k0 + 19) v1.toNatClampNeg) >>> ((((4 : Int32)) * v3) &&& 31)) &&& ((15 : Int32))) &&& 31))) (v3 + (1 : Int32)))))
theorem g_Mo_maskOf_L4 {d w : Nat} (hd : 0 ≤ d) (hw : 0 ≤ w) {M : aM} {post : Int32 → Prop} : ∀ (n : Nat) (k0 : Nat) (v1 : Int32) (v2 : Int32) (v3 : Int32), w_Mo_maskOf_L4 M post n k0 v1 v2 v3 → Gd d w 192 (pIn M post) (4, [some (aR 21 k0), some (aI v1), some (aI v2), some (aI v3)], [], M) := by
  intro n
  induction n with
  | zero => intro k0 v1 v2 v3 h; exact h.elim
  | succ n ih =>
    intro k0 v1 v2 v3 h
    show Gd d w 192 _ (4, [some (aR 21 k0), some (aI v1), some (aI v2), some (aI v3)], [], M)
    obtain ⟨c0, h⟩ := h
    refine gd_s (P := True ∧ True ∧ True ∧ True ∧ (vp_in v1 (rK M (k0 + 18)).2) ∧ True) (σ1 := (11, [some (aR 21 k0), some (aI v1), some (aI v2), some (aI v3)], [aI (rI M (k0 + 18) v1.toNatClampNeg), aI v3], M)) tc_192 rfl 5 (fun u => ⟨_, rfl⟩) ⟨trivial, trivial, trivial, trivial, c0, trivial⟩ ?_
    refine gd_br (c := (rI M (k0 + 18) v1.toNatClampNeg) ≤ v3) (st1 := []) tc_192 rfl rfl (fun _ => rfl) ⟨fun hc => ?_, fun hc => ?_⟩
    · have h := h.1 hc
      show Gd d w 192 _ (38, [some (aR 21 k0), some (aI v1), some (aI v2), some (aI v3)], [], M)
      refine gd_s (P := True ∧ True) (σ1 := (39, [some (aR 21 k0), some (aI v1), some (aI v2), some (aI v3)], [aI v2], M)) tc_192 rfl 1 (fun u => ⟨_, rfl⟩) ⟨trivial, trivial⟩ ?_
      exact gd_ret tc_192 rfl rfl trivial (fun _ => rfl) ⟨_, rfl, rfl, h⟩
    · have h := h.2 hc
      show Gd d w 192 _ (14, [some (aR 21 k0), some (aI v1), some (aI v2), some (aI v3)], [], M)
      obtain ⟨c0, h⟩ := h
      refine gd_s (P := True ∧ True ∧ True ∧ True ∧ True ∧ (vp_in v1 (rK M (k0 + 19)).2) ∧ True ∧ True ∧ True ∧ True ∧ True ∧ True ∧ True ∧ True ∧ True ∧ True ∧ True ∧ True) (σ1 := (4, [some (aR 21 k0), some (aI v1), some (aI (v2 ||| (((1 : Int32)) <<< ((((rI M (k0 + 19) v1.toNatClampNeg) >>> ((((4 : Int32)) * v3) &&& 31)) &&& ((15 : Int32))) &&& 31)))), some (aI (v3 + (1 : Int32)))], [], M)) tc_192 rfl 17 (fun u => ⟨_, rfl⟩) ⟨trivial, trivial, trivial, trivial, trivial, c0, trivial, trivial, trivial, trivial, trivial, trivial, trivial, trivial, trivial, trivial, trivial, trivial⟩ ?_
      exact ih k0 v1 (v2 ||| (((1 : Int32)) <<< ((((rI M (k0 + 19) v1.toNatClampNeg) >>> ((((4 : Int32)) * v3) &&& 31)) &&& ((15 : Int32))) &&& 31))) (v3 + (1 : Int32)) h
/-- PolicyJudgeModel.maskOf(I)I -/
def w_Mo_maskOf (post : Int32 → Prop) (k0 : Nat) (v1 : Int32) (M : aM) : Prop := ∃ n9, w_Mo_maskOf_L4 M post n9 k0 v1 ((0 : Int32)) ((0 : Int32))
theorem g_Mo_maskOf {d w : Nat} (hd : 0 ≤ d) (hw : 0 ≤ w) {post : Int32 → Prop} {k0 : Nat} {v1 : Int32} {M : aM} (h : w_Mo_maskOf post k0 v1 M) : Gd d w 192 (pIn M post) (0, aEnt 192 [aR 21 k0, aI v1], [], M) := by
  unfold w_Mo_maskOf at h
  show Gd d w 192 _ (0, [some (aR 21 k0), some (aI v1), none, none], [], M)
  refine gd_s (P := True ∧ True ∧ True ∧ True ∧ True) (σ1 := (4, [some (aR 21 k0), some (aI v1), some (aI ((0 : Int32))), some (aI ((0 : Int32)))], [], M)) tc_192 rfl 4 (fun u => ⟨_, rfl⟩) ⟨trivial, trivial, trivial, trivial, trivial⟩ ?_
  obtain ⟨n9, h⟩ := h
  exact g_Mo_maskOf_L4 hd hw n9 k0 v1 ((0 : Int32)) ((0 : Int32)) h
theorem tc_193 : tC 193 = c193 := rfl
def w_Mo_bits_L4 (M : aM) (post : Int32 → Prop) : Nat → Int32 → Int32 → Prop
  | 0, _, _ => False
  | n + 1, v1, v2 => ((v2 = ((0 : Int32))) → post v1) ∧ (¬ (v2 = ((0 : Int32))) → w_Mo_bits_L4 M post n (v1 + (1 : Int32)) (v2 &&& (v2 - ((1 : Int32)))))
theorem g_Mo_bits_L4 {d w : Nat} (hd : 0 ≤ d) (hw : 0 ≤ w) {M : aM} {post : Int32 → Prop} : ∀ (n : Nat) (v1 : Int32) (v2 : Int32) (o0 : Option aV), w_Mo_bits_L4 M post n v1 v2 → Gd d w 193 (pIn M post) (4, [o0, some (aI v1), some (aI v2)], [], M) := by
  intro n
  induction n with
  | zero => intro v1 v2 o0 h; exact h.elim
  | succ n ih =>
    intro v1 v2 o0 h
    show Gd d w 193 _ (4, [o0, some (aI v1), some (aI v2)], [], M)
    refine gd_s (P := True ∧ True) (σ1 := (5, [o0, some (aI v1), some (aI v2)], [aI v2], M)) tc_193 rfl 1 (fun u => ⟨_, rfl⟩) ⟨trivial, trivial⟩ ?_
    refine gd_br (c := v2 = ((0 : Int32))) (st1 := []) tc_193 rfl rfl (fun _ => rfl) ⟨fun hc => ?_, fun hc => ?_⟩
    · have h := h.1 hc
      show Gd d w 193 _ (20, [o0, some (aI v1), some (aI v2)], [], M)
      refine gd_s (P := True ∧ True) (σ1 := (21, [o0, some (aI v1), some (aI v2)], [aI v1], M)) tc_193 rfl 1 (fun u => ⟨_, rfl⟩) ⟨trivial, trivial⟩ ?_
      exact gd_ret tc_193 rfl rfl trivial (fun _ => rfl) ⟨_, rfl, rfl, h⟩
    · have h := h.2 hc
      show Gd d w 193 _ (8, [o0, some (aI v1), some (aI v2)], [], M)
      refine gd_s (P := True ∧ True ∧ True ∧ True ∧ True ∧ True ∧ True ∧ True ∧ True) (σ1 := (4, [o0, some (aI (v1 + (1 : Int32))), some (aI (v2 &&& (v2 - ((1 : Int32)))))], [], M)) tc_193 rfl 8 (fun u => ⟨_, rfl⟩) ⟨trivial, trivial, trivial, trivial, trivial, trivial, trivial, trivial, trivial⟩ ?_
      exact ih (v1 + (1 : Int32)) (v2 &&& (v2 - ((1 : Int32)))) o0 h
/-- PolicyJudgeModel.bits(I)I -/
def w_Mo_bits (post : Int32 → Prop) (v0 : Int32) (M : aM) : Prop := ∃ n9, w_Mo_bits_L4 M post n9 ((0 : Int32)) v0
theorem g_Mo_bits {d w : Nat} (hd : 0 ≤ d) (hw : 0 ≤ w) {post : Int32 → Prop} {v0 : Int32} {M : aM} (h : w_Mo_bits post v0 M) : Gd d w 193 (pIn M post) (0, aEnt 193 [aI v0], [], M) := by
  unfold w_Mo_bits at h
  show Gd d w 193 _ (0, [some (aI v0), none, none], [], M)
  refine gd_s (P := True ∧ True ∧ True ∧ True ∧ True) (σ1 := (4, [some (aI v0), some (aI ((0 : Int32))), some (aI v0)], [], M)) tc_193 rfl 4 (fun u => ⟨_, rfl⟩) ⟨trivial, trivial, trivial, trivial, trivial⟩ ?_
  obtain ⟨n9, h⟩ := h
  exact g_Mo_bits_L4 hd hw n9 ((0 : Int32)) v0 (some (aI v0)) h
theorem tc_189 : tC 189 = c189 := rfl
def w_Mo_test_J104 (M : aM) (post : Int32 → Prop) (s0 : Int32) : Prop := w_Mo_truthOf (fun x1 => post x1) s0 M
theorem g_Mo_test_J104 {d w : Nat} (hd : 1 ≤ d) (hw : 23 ≤ w) {M : aM} {post : Int32 → Prop} (s0 : Int32) (o0 o1 o2 o3 o4 o5 : Option aV) (h : w_Mo_test_J104 M post s0) : Gd d w 189 (pIn M post) (104, [o0, o1, o2, o3, o4, o5], [aI s0], M) := by
  unfold w_Mo_test_J104 at h
  show Gd d w 189 _ (104, [o0, o1, o2, o3, o4, o5], [aI s0], M)
  refine gd_callN (ml := 1) (as := [aI s0]) (rest := []) tc_189 rfl rfl rfl rfl rfl (by omega) (by omega) (Nat.le_of_ble_eq_true rfl) rfl (g_Mo_truthOf (by omega) (by omega) h) (fun r9 M9 h => ?_)
  obtain ⟨x1, rfl, e9, h⟩ := h
  subst M9
  show Gd d w 189 _ (107, [o0, o1, o2, o3, o4, o5], [aI x1], M)
  exact gd_ret tc_189 rfl rfl trivial (fun _ => rfl) ⟨_, rfl, rfl, h⟩
def w_Mo_test_J136 (M : aM) (post : Int32 → Prop) (s0 : Int32) : Prop := w_Mo_truthOf (fun x1 => post x1) s0 M
theorem g_Mo_test_J136 {d w : Nat} (hd : 1 ≤ d) (hw : 23 ≤ w) {M : aM} {post : Int32 → Prop} (s0 : Int32) (o0 o1 o2 o3 o4 o5 : Option aV) (h : w_Mo_test_J136 M post s0) : Gd d w 189 (pIn M post) (136, [o0, o1, o2, o3, o4, o5], [aI s0], M) := by
  unfold w_Mo_test_J136 at h
  show Gd d w 189 _ (136, [o0, o1, o2, o3, o4, o5], [aI s0], M)
  refine gd_callN (ml := 1) (as := [aI s0]) (rest := []) tc_189 rfl rfl rfl rfl rfl (by omega) (by omega) (Nat.le_of_ble_eq_true rfl) rfl (g_Mo_truthOf (by omega) (by omega) h) (fun r9 M9 h => ?_)
  obtain ⟨x1, rfl, e9, h⟩ := h
  subst M9
  show Gd d w 189 _ (139, [o0, o1, o2, o3, o4, o5], [aI x1], M)
  exact gd_ret tc_189 rfl rfl trivial (fun _ => rfl) ⟨_, rfl, rfl, h⟩
def w_Mo_test_J170 (M : aM) (post : Int32 → Prop) (s0 : Int32) : Prop := w_Mo_truthOf (fun x1 => post x1) s0 M
theorem g_Mo_test_J170 {d w : Nat} (hd : 1 ≤ d) (hw : 23 ≤ w) {M : aM} {post : Int32 → Prop} (s0 : Int32) (o0 o1 o2 o3 o4 o5 : Option aV) (h : w_Mo_test_J170 M post s0) : Gd d w 189 (pIn M post) (170, [o0, o1, o2, o3, o4, o5], [aI s0], M) := by
  unfold w_Mo_test_J170 at h
  show Gd d w 189 _ (170, [o0, o1, o2, o3, o4, o5], [aI s0], M)
  refine gd_callN (ml := 1) (as := [aI s0]) (rest := []) tc_189 rfl rfl rfl rfl rfl (by omega) (by omega) (Nat.le_of_ble_eq_true rfl) rfl (g_Mo_truthOf (by omega) (by omega) h) (fun r9 M9 h => ?_)
  obtain ⟨x1, rfl, e9, h⟩ := h
  subst M9
  show Gd d w 189 _ (173, [o0, o1, o2, o3, o4, o5], [aI x1], M)
  exact gd_ret tc_189 rfl rfl trivial (fun _ => rfl) ⟨_, rfl, rfl, h⟩
def w_Mo_test_J193 (M : aM) (post : Int32 → Prop) (s0 : Int32) : Prop := w_Mo_truthOf (fun x1 => post x1) s0 M
theorem g_Mo_test_J193 {d w : Nat} (hd : 1 ≤ d) (hw : 23 ≤ w) {M : aM} {post : Int32 → Prop} (s0 : Int32) (o0 o1 o2 o3 o4 o5 : Option aV) (h : w_Mo_test_J193 M post s0) : Gd d w 189 (pIn M post) (193, [o0, o1, o2, o3, o4, o5], [aI s0], M) := by
  unfold w_Mo_test_J193 at h
  show Gd d w 189 _ (193, [o0, o1, o2, o3, o4, o5], [aI s0], M)
  refine gd_callN (ml := 1) (as := [aI s0]) (rest := []) tc_189 rfl rfl rfl rfl rfl (by omega) (by omega) (Nat.le_of_ble_eq_true rfl) rfl (g_Mo_truthOf (by omega) (by omega) h) (fun r9 M9 h => ?_)
  obtain ⟨x1, rfl, e9, h⟩ := h
  subst M9
  show Gd d w 189 _ (196, [o0, o1, o2, o3, o4, o5], [aI x1], M)
  exact gd_ret tc_189 rfl rfl trivial (fun _ => rfl) ⟨_, rfl, rfl, h⟩
def w_Mo_test_J216 (M : aM) (post : Int32 → Prop) (s0 : Int32) : Prop := w_Mo_truthOf (fun x1 => post x1) s0 M
theorem g_Mo_test_J216 {d w : Nat} (hd : 1 ≤ d) (hw : 23 ≤ w) {M : aM} {post : Int32 → Prop} (s0 : Int32) (o0 o1 o2 o3 o4 o5 : Option aV) (h : w_Mo_test_J216 M post s0) : Gd d w 189 (pIn M post) (216, [o0, o1, o2, o3, o4, o5], [aI s0], M) := by
  unfold w_Mo_test_J216 at h
  show Gd d w 189 _ (216, [o0, o1, o2, o3, o4, o5], [aI s0], M)
  refine gd_callN (ml := 1) (as := [aI s0]) (rest := []) tc_189 rfl rfl rfl rfl rfl (by omega) (by omega) (Nat.le_of_ble_eq_true rfl) rfl (g_Mo_truthOf (by omega) (by omega) h) (fun r9 M9 h => ?_)
  obtain ⟨x1, rfl, e9, h⟩ := h
  subst M9
  show Gd d w 189 _ (219, [o0, o1, o2, o3, o4, o5], [aI x1], M)
  exact gd_ret tc_189 rfl rfl trivial (fun _ => rfl) ⟨_, rfl, rfl, h⟩
def w_Mo_test_J239 (M : aM) (post : Int32 → Prop) (s0 : Int32) : Prop := w_Mo_truthOf (fun x1 => post x1) s0 M
theorem g_Mo_test_J239 {d w : Nat} (hd : 1 ≤ d) (hw : 23 ≤ w) {M : aM} {post : Int32 → Prop} (s0 : Int32) (o0 o1 o2 o3 o4 o5 : Option aV) (h : w_Mo_test_J239 M post s0) : Gd d w 189 (pIn M post) (239, [o0, o1, o2, o3, o4, o5], [aI s0], M) := by
  unfold w_Mo_test_J239 at h
  show Gd d w 189 _ (239, [o0, o1, o2, o3, o4, o5], [aI s0], M)
  refine gd_callN (ml := 1) (as := [aI s0]) (rest := []) tc_189 rfl rfl rfl rfl rfl (by omega) (by omega) (Nat.le_of_ble_eq_true rfl) rfl (g_Mo_truthOf (by omega) (by omega) h) (fun r9 M9 h => ?_)
  obtain ⟨x1, rfl, e9, h⟩ := h
  subst M9
  show Gd d w 189 _ (242, [o0, o1, o2, o3, o4, o5], [aI x1], M)
  exact gd_ret tc_189 rfl rfl trivial (fun _ => rfl) ⟨_, rfl, rfl, h⟩
def w_Mo_test_J295 (M : aM) (post : Int32 → Prop) (s0 : Int32) : Prop := w_Mo_truthOf (fun x1 => post x1) s0 M
theorem g_Mo_test_J295 {d w : Nat} (hd : 1 ≤ d) (hw : 23 ≤ w) {M : aM} {post : Int32 → Prop} (s0 : Int32) (o0 o1 o2 o3 o4 o5 : Option aV) (h : w_Mo_test_J295 M post s0) : Gd d w 189 (pIn M post) (295, [o0, o1, o2, o3, o4, o5], [aI s0], M) := by
  unfold w_Mo_test_J295 at h
  show Gd d w 189 _ (295, [o0, o1, o2, o3, o4, o5], [aI s0], M)
  refine gd_callN (ml := 1) (as := [aI s0]) (rest := []) tc_189 rfl rfl rfl rfl rfl (by omega) (by omega) (Nat.le_of_ble_eq_true rfl) rfl (g_Mo_truthOf (by omega) (by omega) h) (fun r9 M9 h => ?_)
  obtain ⟨x1, rfl, e9, h⟩ := h
  subst M9
  show Gd d w 189 _ (298, [o0, o1, o2, o3, o4, o5], [aI x1], M)
  exact gd_ret tc_189 rfl rfl trivial (fun _ => rfl) ⟨_, rfl, rfl, h⟩
def w_Mo_test_J330 (M : aM) (post : Int32 → Prop) (s0 : Int32) : Prop := w_Mo_truthOf (fun x1 => post x1) s0 M
theorem g_Mo_test_J330 {d w : Nat} (hd : 1 ≤ d) (hw : 23 ≤ w) {M : aM} {post : Int32 → Prop} (s0 : Int32) (o0 o1 o2 o3 o4 o5 : Option aV) (h : w_Mo_test_J330 M post s0) : Gd d w 189 (pIn M post) (330, [o0, o1, o2, o3, o4, o5], [aI s0], M) := by
  unfold w_Mo_test_J330 at h
  show Gd d w 189 _ (330, [o0, o1, o2, o3, o4, o5], [aI s0], M)
  refine gd_callN (ml := 1) (as := [aI s0]) (rest := []) tc_189 rfl rfl rfl rfl rfl (by omega) (by omega) (Nat.le_of_ble_eq_true rfl) rfl (g_Mo_truthOf (by omega) (by omega) h) (fun r9 M9 h => ?_)
  obtain ⟨x1, rfl, e9, h⟩ := h
  subst M9
  show Gd d w 189 _ (333, [o0, o1, o2, o3, o4, o5], [aI x1], M)
  exact gd_ret tc_189 rfl rfl trivial (fun _ => rfl) ⟨_, rfl, rfl, h⟩
def w_Mo_test_J344 (M : aM) (post : Int32 → Prop) (s0 : Int32) : Prop := w_Mo_truthOf (fun x1 => post x1) s0 M
theorem g_Mo_test_J344 {d w : Nat} (hd : 1 ≤ d) (hw : 23 ≤ w) {M : aM} {post : Int32 → Prop} (s0 : Int32) (o0 o1 o2 o3 o4 o5 : Option aV) (h : w_Mo_test_J344 M post s0) : Gd d w 189 (pIn M post) (344, [o0, o1, o2, o3, o4, o5], [aI s0], M) := by
  unfold w_Mo_test_J344 at h
  show Gd d w 189 _ (344, [o0, o1, o2, o3, o4, o5], [aI s0], M)
  refine gd_callN (ml := 1) (as := [aI s0]) (rest := []) tc_189 rfl rfl rfl rfl rfl (by omega) (by omega) (Nat.le_of_ble_eq_true rfl) rfl (g_Mo_truthOf (by omega) (by omega) h) (fun r9 M9 h => ?_)
  obtain ⟨x1, rfl, e9, h⟩ := h
  subst M9
  show Gd d w 189 _ (347, [o0, o1, o2, o3, o4, o5], [aI x1], M)
  exact gd_ret tc_189 rfl rfl trivial (fun _ => rfl) ⟨_, rfl, rfl, h⟩
/-- PolicyJudgeModel.test(II)I -/
def w_Mo_test (post : Int32 → Prop) (k0 : Nat) (v1 : Int32) (v2 : Int32) (M : aM) : Prop := (vp_in v2 (rK M (k0 + 17)).2) ∧ (vp_in ((((8 : Int32)) * v1) + (rI M (k0 + 17) v2.toNatClampNeg)) (rK M (k0 + 7)).2) ∧ (vp_in v2 (rK M (k0 + 16)).2) ∧ ((((rI M (k0 + 16) v2.toNatClampNeg) = (3 : Int32)) → w_Mo_isMissing (fun x1 => ((x1 = ((0 : Int32))) → (vp_in v2 (rK M (k0 + 18)).2) ∧ (((¬ (((rI M (k0 + 7) ((((8 : Int32)) * v1) + (rI M (k0 + 17) v2.toNatClampNeg)).toNatClampNeg) >>> ((rI M (k0 + 18) v2.toNatClampNeg) &&& 31)) &&& ((1 : Int32))) = ((1 : Int32))) → w_Mo_test_J104 M post ((0 : Int32))) ∧ (¬ (¬ (((rI M (k0 + 7) ((((8 : Int32)) * v1) + (rI M (k0 + 17) v2.toNatClampNeg)).toNatClampNeg) >>> ((rI M (k0 + 18) v2.toNatClampNeg) &&& 31)) &&& ((1 : Int32))) = ((1 : Int32))) → w_Mo_test_J104 M post ((1 : Int32))))) ∧ (¬ (x1 = ((0 : Int32))) → post ((2 : Int32)))) k0 ((((8 : Int32)) * v1) + (rI M (k0 + 17) v2.toNatClampNeg)) M) ∧ (¬ ((rI M (k0 + 16) v2.toNatClampNeg) = (3 : Int32)) → (((rI M (k0 + 16) v2.toNatClampNeg) = (4 : Int32)) → w_Mo_isMissing (fun x2 => ((x2 = ((0 : Int32))) → w_Mo_maskOf (fun x3 => ((((rI M (k0 + 7) ((((8 : Int32)) * v1) + (rI M (k0 + 17) v2.toNatClampNeg)).toNatClampNeg) &&& x3) = ((0 : Int32))) → w_Mo_test_J136 M post ((0 : Int32))) ∧ (¬ (((rI M (k0 + 7) ((((8 : Int32)) * v1) + (rI M (k0 + 17) v2.toNatClampNeg)).toNatClampNeg) &&& x3) = ((0 : Int32))) → w_Mo_test_J136 M post ((1 : Int32)))) k0 v2 M) ∧ (¬ (x2 = ((0 : Int32))) → post ((2 : Int32)))) k0 ((((8 : Int32)) * v1) + (rI M (k0 + 17) v2.toNatClampNeg)) M) ∧ (¬ ((rI M (k0 + 16) v2.toNatClampNeg) = (4 : Int32)) → (((rI M (k0 + 16) v2.toNatClampNeg) = (5 : Int32)) → w_Mo_isMissing (fun x4 => ((x4 = ((0 : Int32))) → w_Mo_maskOf (fun x5 => ((¬ ((rI M (k0 + 7) ((((8 : Int32)) * v1) + (rI M (k0 + 17) v2.toNatClampNeg)).toNatClampNeg) &&& (x5 ^^^ ((-1 : Int32)))) = ((0 : Int32))) → w_Mo_test_J170 M post ((0 : Int32))) ∧ (¬ (¬ ((rI M (k0 + 7) ((((8 : Int32)) * v1) + (rI M (k0 + 17) v2.toNatClampNeg)).toNatClampNeg) &&& (x5 ^^^ ((-1 : Int32)))) = ((0 : Int32))) → w_Mo_test_J170 M post ((1 : Int32)))) k0 v2 M) ∧ (¬ (x4 = ((0 : Int32))) → post ((2 : Int32)))) k0 ((((8 : Int32)) * v1) + (rI M (k0 + 17) v2.toNatClampNeg)) M) ∧ (¬ ((rI M (k0 + 16) v2.toNatClampNeg) = (5 : Int32)) → (((rI M (k0 + 16) v2.toNatClampNeg) = (6 : Int32)) → w_Mo_bits (fun x6 => (vp_in v2 (rK M (k0 + 18)).2) ∧ ((((rI M (k0 + 18) v2.toNatClampNeg) ≤ x6) → w_Mo_test_J193 M post ((0 : Int32))) ∧ (¬ ((rI M (k0 + 18) v2.toNatClampNeg) ≤ x6) → w_Mo_test_J193 M post ((1 : Int32))))) (rI M (k0 + 7) ((((8 : Int32)) * v1) + (rI M (k0 + 17) v2.toNatClampNeg)).toNatClampNeg) M) ∧ (¬ ((rI M (k0 + 16) v2.toNatClampNeg) = (6 : Int32)) → (((rI M (k0 + 16) v2.toNatClampNeg) = (7 : Int32)) → w_Mo_bits (fun x7 => (vp_in v2 (rK M (k0 + 18)).2) ∧ (((¬ x7 = (rI M (k0 + 18) v2.toNatClampNeg)) → w_Mo_test_J216 M post ((0 : Int32))) ∧ (¬ (¬ x7 = (rI M (k0 + 18) v2.toNatClampNeg)) → w_Mo_test_J216 M post ((1 : Int32))))) (rI M (k0 + 7) ((((8 : Int32)) * v1) + (rI M (k0 + 17) v2.toNatClampNeg)).toNatClampNeg) M) ∧ (¬ ((rI M (k0 + 16) v2.toNatClampNeg) = (7 : Int32)) → (((rI M (k0 + 16) v2.toNatClampNeg) = (8 : Int32)) → w_Mo_bits (fun x8 => (vp_in v2 (rK M (k0 + 18)).2) ∧ (((x8 ≤ (rI M (k0 + 18) v2.toNatClampNeg)) → w_Mo_test_J239 M post ((0 : Int32))) ∧ (¬ (x8 ≤ (rI M (k0 + 18) v2.toNatClampNeg)) → w_Mo_test_J239 M post ((1 : Int32))))) (rI M (k0 + 7) ((((8 : Int32)) * v1) + (rI M (k0 + 17) v2.toNatClampNeg)).toNatClampNeg) M) ∧ (¬ ((rI M (k0 + 16) v2.toNatClampNeg) = (8 : Int32)) → (((rI M (k0 + 16) v2.toNatClampNeg) = (9 : Int32)) → (vp_in v2 (rK M (k0 + 18)).2) ∧ (w_Mo_isMissing (fun x9 => ((¬ x9 = ((0 : Int32))) → post ((2 : Int32))) ∧ (¬ (¬ x9 = ((0 : Int32))) → w_Mo_isMissing (fun x10 => ((x10 = ((0 : Int32))) → (vp_in ((((8 : Int32)) * v1) + (rI M (k0 + 18) v2.toNatClampNeg)) (rK M (k0 + 7)).2) ∧ (((((rI M (k0 + 7) ((((8 : Int32)) * v1) + (rI M (k0 + 17) v2.toNatClampNeg)).toNatClampNeg) &&& (rI M (k0 + 7) ((((8 : Int32)) * v1) + (rI M (k0 + 18) v2.toNatClampNeg)).toNatClampNeg)) = ((0 : Int32))) → w_Mo_test_J295 M post ((0 : Int32))) ∧ (¬ (((rI M (k0 + 7) ((((8 : Int32)) * v1) + (rI M (k0 + 17) v2.toNatClampNeg)).toNatClampNeg) &&& (rI M (k0 + 7) ((((8 : Int32)) * v1) + (rI M (k0 + 18) v2.toNatClampNeg)).toNatClampNeg)) = ((0 : Int32))) → w_Mo_test_J295 M post ((1 : Int32))))) ∧ (¬ (x10 = ((0 : Int32))) → post ((2 : Int32)))) k0 ((((8 : Int32)) * v1) + (rI M (k0 + 18) v2.toNatClampNeg)) M)) k0 ((((8 : Int32)) * v1) + (rI M (k0 + 17) v2.toNatClampNeg)) M)) ∧ (¬ ((rI M (k0 + 16) v2.toNatClampNeg) = (9 : Int32)) → (((rI M (k0 + 16) v2.toNatClampNeg) = (10 : Int32)) → w_Mo_bits (fun x11 => ((x11 = ((1 : Int32))) → (vp_in v2 (rK M (k0 + 18)).2) ∧ (((¬ (rI M (k0 + 7) ((((8 : Int32)) * v1) + (rI M (k0 + 17) v2.toNatClampNeg)).toNatClampNeg) = (((1 : Int32)) <<< ((rI M (k0 + 18) v2.toNatClampNeg) &&& 31))) → w_Mo_test_J330 M post ((0 : Int32))) ∧ (¬ (¬ (rI M (k0 + 7) ((((8 : Int32)) * v1) + (rI M (k0 + 17) v2.toNatClampNeg)).toNatClampNeg) = (((1 : Int32)) <<< ((rI M (k0 + 18) v2.toNatClampNeg) &&& 31))) → w_Mo_test_J330 M post ((1 : Int32))))) ∧ (¬ (x11 = ((1 : Int32))) → post ((2 : Int32)))) (rI M (k0 + 7) ((((8 : Int32)) * v1) + (rI M (k0 + 17) v2.toNatClampNeg)).toNatClampNeg) M) ∧ (¬ ((rI M (k0 + 16) v2.toNatClampNeg) = (10 : Int32)) → ((¬ (rI M (k0 + 7) ((((8 : Int32)) * v1) + (rI M (k0 + 17) v2.toNatClampNeg)).toNatClampNeg) = ((0 : Int32))) → w_Mo_test_J344 M post ((0 : Int32))) ∧ (¬ (¬ (rI M (k0 + 7) ((((8 : Int32)) * v1) + (rI M (k0 + 17) v2.toNatClampNeg)).toNatClampNeg) = ((0 : Int32))) → w_Mo_test_J344 M post ((1 : Int32))))))))))))
theorem g_Mo_test {d w : Nat} (hd : 1 ≤ d) (hw : 23 ≤ w) {post : Int32 → Prop} {k0 : Nat} {v1 : Int32} {v2 : Int32} {M : aM} (h : w_Mo_test post k0 v1 v2 M) : Gd d w 189 (pIn M post) (0, aEnt 189 [aR 21 k0, aI v1, aI v2], [], M) := by
  unfold w_Mo_test at h
  show Gd d w 189 _ (0, [some (aR 21 k0), some (aI v1), some (aI v2), none, none, none], [], M)
  obtain ⟨c0, c1, c2, h⟩ := h
  refine gd_s (P := True ∧ True ∧ True ∧ True ∧ True ∧ True ∧ (vp_in v2 (rK M (k0 + 17)).2) ∧ True ∧ True ∧ True ∧ True ∧ True ∧ (vp_in ((((8 : Int32)) * v1) + (rI M (k0 + 17) v2.toNatClampNeg)) (rK M (k0 + 7)).2) ∧ True ∧ True ∧ True ∧ True ∧ (vp_in v2 (rK M (k0 + 16)).2) ∧ True) (σ1 := (26, [some (aR 21 k0), some (aI v1), some (aI v2), some (aI ((((8 : Int32)) * v1) + (rI M (k0 + 17) v2.toNatClampNeg))), some (aI (rI M (k0 + 7) ((((8 : Int32)) * v1) + (rI M (k0 + 17) v2.toNatClampNeg)).toNatClampNeg)), none], [aI (rI M (k0 + 16) v2.toNatClampNeg)], M)) tc_189 rfl 18 (fun u => ⟨_, rfl⟩) ⟨trivial, trivial, trivial, trivial, trivial, trivial, c0, trivial, trivial, trivial, trivial, trivial, c1, trivial, trivial, trivial, trivial, c2, trivial⟩ ?_
  refine gd_sw tc_189 rfl rfl (fun _ => rfl) ?_
  refine gd_case ⟨fun hc => ?_, fun hc => ?_⟩
  · have h := h.1 hc
    show Gd d w 189 _ (72, [some (aR 21 k0), some (aI v1), some (aI v2), some (aI ((((8 : Int32)) * v1) + (rI M (k0 + 17) v2.toNatClampNeg))), some (aI (rI M (k0 + 7) ((((8 : Int32)) * v1) + (rI M (k0 + 17) v2.toNatClampNeg)).toNatClampNeg)), none], [], M)
    refine gd_s (P := True ∧ True ∧ True) (σ1 := (74, [some (aR 21 k0), some (aI v1), some (aI v2), some (aI ((((8 : Int32)) * v1) + (rI M (k0 + 17) v2.toNatClampNeg))), some (aI (rI M (k0 + 7) ((((8 : Int32)) * v1) + (rI M (k0 + 17) v2.toNatClampNeg)).toNatClampNeg)), none], [aI ((((8 : Int32)) * v1) + (rI M (k0 + 17) v2.toNatClampNeg)), aR 21 k0], M)) tc_189 rfl 2 (fun u => ⟨_, rfl⟩) ⟨trivial, trivial, trivial⟩ ?_
    refine gd_callN (ml := 2) (as := [aR 21 k0, aI ((((8 : Int32)) * v1) + (rI M (k0 + 17) v2.toNatClampNeg))]) (rest := []) tc_189 rfl rfl rfl rfl rfl (by omega) (by omega) (Nat.le_of_ble_eq_true rfl) rfl (g_Mo_isMissing (by omega) (by omega) h) (fun r9 M9 h => ?_)
    obtain ⟨x1, rfl, e9, h⟩ := h
    subst M9
    show Gd d w 189 _ (77, [some (aR 21 k0), some (aI v1), some (aI v2), some (aI ((((8 : Int32)) * v1) + (rI M (k0 + 17) v2.toNatClampNeg))), some (aI (rI M (k0 + 7) ((((8 : Int32)) * v1) + (rI M (k0 + 17) v2.toNatClampNeg)).toNatClampNeg)), none], [aI x1], M)
    refine gd_br (c := x1 = ((0 : Int32))) (st1 := []) tc_189 rfl rfl (fun _ => rfl) ⟨fun hc => ?_, fun hc => ?_⟩
    · have h := h.1 hc
      show Gd d w 189 _ (84, [some (aR 21 k0), some (aI v1), some (aI v2), some (aI ((((8 : Int32)) * v1) + (rI M (k0 + 17) v2.toNatClampNeg))), some (aI (rI M (k0 + 7) ((((8 : Int32)) * v1) + (rI M (k0 + 17) v2.toNatClampNeg)).toNatClampNeg)), none], [], M)
      obtain ⟨c0, h⟩ := h
      refine gd_s (P := True ∧ True ∧ True ∧ True ∧ (vp_in v2 (rK M (k0 + 18)).2) ∧ True ∧ True ∧ True ∧ True ∧ True) (σ1 := (96, [some (aR 21 k0), some (aI v1), some (aI v2), some (aI ((((8 : Int32)) * v1) + (rI M (k0 + 17) v2.toNatClampNeg))), some (aI (rI M (k0 + 7) ((((8 : Int32)) * v1) + (rI M (k0 + 17) v2.toNatClampNeg)).toNatClampNeg)), none], [aI ((1 : Int32)), aI (((rI M (k0 + 7) ((((8 : Int32)) * v1) + (rI M (k0 + 17) v2.toNatClampNeg)).toNatClampNeg) >>> ((rI M (k0 + 18) v2.toNatClampNeg) &&& 31)) &&& ((1 : Int32)))], M)) tc_189 rfl 9 (fun u => ⟨_, rfl⟩) ⟨trivial, trivial, trivial, trivial, c0, trivial, trivial, trivial, trivial, trivial⟩ ?_
      refine gd_br (c := ¬ (((rI M (k0 + 7) ((((8 : Int32)) * v1) + (rI M (k0 + 17) v2.toNatClampNeg)).toNatClampNeg) >>> ((rI M (k0 + 18) v2.toNatClampNeg) &&& 31)) &&& ((1 : Int32))) = ((1 : Int32))) (st1 := []) tc_189 rfl rfl (fun _ => rfl) ⟨fun hc => ?_, fun hc => ?_⟩
      · have h := h.1 hc
        show Gd d w 189 _ (103, [some (aR 21 k0), some (aI v1), some (aI v2), some (aI ((((8 : Int32)) * v1) + (rI M (k0 + 17) v2.toNatClampNeg))), some (aI (rI M (k0 + 7) ((((8 : Int32)) * v1) + (rI M (k0 + 17) v2.toNatClampNeg)).toNatClampNeg)), none], [], M)
        refine gd_s (P := True ∧ True) (σ1 := (104, [some (aR 21 k0), some (aI v1), some (aI v2), some (aI ((((8 : Int32)) * v1) + (rI M (k0 + 17) v2.toNatClampNeg))), some (aI (rI M (k0 + 7) ((((8 : Int32)) * v1) + (rI M (k0 + 17) v2.toNatClampNeg)).toNatClampNeg)), none], [aI ((0 : Int32))], M)) tc_189 rfl 1 (fun u => ⟨_, rfl⟩) ⟨trivial, trivial⟩ ?_
        exact g_Mo_test_J104 hd hw ((0 : Int32)) (some (aR 21 k0)) (some (aI v1)) (some (aI v2)) (some (aI ((((8 : Int32)) * v1) + (rI M (k0 + 17) v2.toNatClampNeg)))) (some (aI (rI M (k0 + 7) ((((8 : Int32)) * v1) + (rI M (k0 + 17) v2.toNatClampNeg)).toNatClampNeg))) none h
      · have h := h.2 hc
        show Gd d w 189 _ (99, [some (aR 21 k0), some (aI v1), some (aI v2), some (aI ((((8 : Int32)) * v1) + (rI M (k0 + 17) v2.toNatClampNeg))), some (aI (rI M (k0 + 7) ((((8 : Int32)) * v1) + (rI M (k0 + 17) v2.toNatClampNeg)).toNatClampNeg)), none], [], M)
        refine gd_s (P := True ∧ True ∧ True) (σ1 := (104, [some (aR 21 k0), some (aI v1), some (aI v2), some (aI ((((8 : Int32)) * v1) + (rI M (k0 + 17) v2.toNatClampNeg))), some (aI (rI M (k0 + 7) ((((8 : Int32)) * v1) + (rI M (k0 + 17) v2.toNatClampNeg)).toNatClampNeg)), none], [aI ((1 : Int32))], M)) tc_189 rfl 2 (fun u => ⟨_, rfl⟩) ⟨trivial, trivial, trivial⟩ ?_
        exact g_Mo_test_J104 hd hw ((1 : Int32)) (some (aR 21 k0)) (some (aI v1)) (some (aI v2)) (some (aI ((((8 : Int32)) * v1) + (rI M (k0 + 17) v2.toNatClampNeg)))) (some (aI (rI M (k0 + 7) ((((8 : Int32)) * v1) + (rI M (k0 + 17) v2.toNatClampNeg)).toNatClampNeg))) none h
    · have h := h.2 hc
      show Gd d w 189 _ (80, [some (aR 21 k0), some (aI v1), some (aI v2), some (aI ((((8 : Int32)) * v1) + (rI M (k0 + 17) v2.toNatClampNeg))), some (aI (rI M (k0 + 7) ((((8 : Int32)) * v1) + (rI M (k0 + 17) v2.toNatClampNeg)).toNatClampNeg)), none], [], M)
      refine gd_s (P := True ∧ True ∧ True) (σ1 := (107, [some (aR 21 k0), some (aI v1), some (aI v2), some (aI ((((8 : Int32)) * v1) + (rI M (k0 + 17) v2.toNatClampNeg))), some (aI (rI M (k0 + 7) ((((8 : Int32)) * v1) + (rI M (k0 + 17) v2.toNatClampNeg)).toNatClampNeg)), none], [aI ((2 : Int32))], M)) tc_189 rfl 2 (fun u => ⟨_, rfl⟩) ⟨trivial, trivial, trivial⟩ ?_
      exact gd_ret tc_189 rfl rfl trivial (fun _ => rfl) ⟨_, rfl, rfl, h⟩
  have h := h.2 hc
  refine gd_case ⟨fun hc => ?_, fun hc => ?_⟩
  · have h := h.1 hc
    show Gd d w 189 _ (108, [some (aR 21 k0), some (aI v1), some (aI v2), some (aI ((((8 : Int32)) * v1) + (rI M (k0 + 17) v2.toNatClampNeg))), some (aI (rI M (k0 + 7) ((((8 : Int32)) * v1) + (rI M (k0 + 17) v2.toNatClampNeg)).toNatClampNeg)), none], [], M)
    refine gd_s (P := True ∧ True ∧ True) (σ1 := (110, [some (aR 21 k0), some (aI v1), some (aI v2), some (aI ((((8 : Int32)) * v1) + (rI M (k0 + 17) v2.toNatClampNeg))), some (aI (rI M (k0 + 7) ((((8 : Int32)) * v1) + (rI M (k0 + 17) v2.toNatClampNeg)).toNatClampNeg)), none], [aI ((((8 : Int32)) * v1) + (rI M (k0 + 17) v2.toNatClampNeg)), aR 21 k0], M)) tc_189 rfl 2 (fun u => ⟨_, rfl⟩) ⟨trivial, trivial, trivial⟩ ?_
    refine gd_callN (ml := 2) (as := [aR 21 k0, aI ((((8 : Int32)) * v1) + (rI M (k0 + 17) v2.toNatClampNeg))]) (rest := []) tc_189 rfl rfl rfl rfl rfl (by omega) (by omega) (Nat.le_of_ble_eq_true rfl) rfl (g_Mo_isMissing (by omega) (by omega) h) (fun r9 M9 h => ?_)
    obtain ⟨x2, rfl, e9, h⟩ := h
    subst M9
    show Gd d w 189 _ (113, [some (aR 21 k0), some (aI v1), some (aI v2), some (aI ((((8 : Int32)) * v1) + (rI M (k0 + 17) v2.toNatClampNeg))), some (aI (rI M (k0 + 7) ((((8 : Int32)) * v1) + (rI M (k0 + 17) v2.toNatClampNeg)).toNatClampNeg)), none], [aI x2], M)
    refine gd_br (c := x2 = ((0 : Int32))) (st1 := []) tc_189 rfl rfl (fun _ => rfl) ⟨fun hc => ?_, fun hc => ?_⟩
    · have h := h.1 hc
      show Gd d w 189 _ (120, [some (aR 21 k0), some (aI v1), some (aI v2), some (aI ((((8 : Int32)) * v1) + (rI M (k0 + 17) v2.toNatClampNeg))), some (aI (rI M (k0 + 7) ((((8 : Int32)) * v1) + (rI M (k0 + 17) v2.toNatClampNeg)).toNatClampNeg)), none], [], M)
      refine gd_s (P := True ∧ True ∧ True ∧ True) (σ1 := (124, [some (aR 21 k0), some (aI v1), some (aI v2), some (aI ((((8 : Int32)) * v1) + (rI M (k0 + 17) v2.toNatClampNeg))), some (aI (rI M (k0 + 7) ((((8 : Int32)) * v1) + (rI M (k0 + 17) v2.toNatClampNeg)).toNatClampNeg)), none], [aI v2, aR 21 k0, aI (rI M (k0 + 7) ((((8 : Int32)) * v1) + (rI M (k0 + 17) v2.toNatClampNeg)).toNatClampNeg)], M)) tc_189 rfl 3 (fun u => ⟨_, rfl⟩) ⟨trivial, trivial, trivial, trivial⟩ ?_
      refine gd_callN (ml := 4) (as := [aR 21 k0, aI v2]) (rest := [aI (rI M (k0 + 7) ((((8 : Int32)) * v1) + (rI M (k0 + 17) v2.toNatClampNeg)).toNatClampNeg)]) tc_189 rfl rfl rfl rfl rfl (by omega) (by omega) (Nat.le_of_ble_eq_true rfl) rfl (g_Mo_maskOf (by omega) (by omega) h) (fun r9 M9 h => ?_)
      obtain ⟨x3, rfl, e9, h⟩ := h
      subst M9
      show Gd d w 189 _ (127, [some (aR 21 k0), some (aI v1), some (aI v2), some (aI ((((8 : Int32)) * v1) + (rI M (k0 + 17) v2.toNatClampNeg))), some (aI (rI M (k0 + 7) ((((8 : Int32)) * v1) + (rI M (k0 + 17) v2.toNatClampNeg)).toNatClampNeg)), none], [aI x3, aI (rI M (k0 + 7) ((((8 : Int32)) * v1) + (rI M (k0 + 17) v2.toNatClampNeg)).toNatClampNeg)], M)
      refine gd_s (P := True ∧ True) (σ1 := (128, [some (aR 21 k0), some (aI v1), some (aI v2), some (aI ((((8 : Int32)) * v1) + (rI M (k0 + 17) v2.toNatClampNeg))), some (aI (rI M (k0 + 7) ((((8 : Int32)) * v1) + (rI M (k0 + 17) v2.toNatClampNeg)).toNatClampNeg)), none], [aI ((rI M (k0 + 7) ((((8 : Int32)) * v1) + (rI M (k0 + 17) v2.toNatClampNeg)).toNatClampNeg) &&& x3)], M)) tc_189 rfl 1 (fun u => ⟨_, rfl⟩) ⟨trivial, trivial⟩ ?_
      refine gd_br (c := ((rI M (k0 + 7) ((((8 : Int32)) * v1) + (rI M (k0 + 17) v2.toNatClampNeg)).toNatClampNeg) &&& x3) = ((0 : Int32))) (st1 := []) tc_189 rfl rfl (fun _ => rfl) ⟨fun hc => ?_, fun hc => ?_⟩
      · have h := h.1 hc
        show Gd d w 189 _ (135, [some (aR 21 k0), some (aI v1), some (aI v2), some (aI ((((8 : Int32)) * v1) + (rI M (k0 + 17) v2.toNatClampNeg))), some (aI (rI M (k0 + 7) ((((8 : Int32)) * v1) + (rI M (k0 + 17) v2.toNatClampNeg)).toNatClampNeg)), none], [], M)
        refine gd_s (P := True ∧ True) (σ1 := (136, [some (aR 21 k0), some (aI v1), some (aI v2), some (aI ((((8 : Int32)) * v1) + (rI M (k0 + 17) v2.toNatClampNeg))), some (aI (rI M (k0 + 7) ((((8 : Int32)) * v1) + (rI M (k0 + 17) v2.toNatClampNeg)).toNatClampNeg)), none], [aI ((0 : Int32))], M)) tc_189 rfl 1 (fun u => ⟨_, rfl⟩) ⟨trivial, trivial⟩ ?_
        exact g_Mo_test_J136 hd hw ((0 : Int32)) (some (aR 21 k0)) (some (aI v1)) (some (aI v2)) (some (aI ((((8 : Int32)) * v1) + (rI M (k0 + 17) v2.toNatClampNeg)))) (some (aI (rI M (k0 + 7) ((((8 : Int32)) * v1) + (rI M (k0 + 17) v2.toNatClampNeg)).toNatClampNeg))) none h
      · have h := h.2 hc
        show Gd d w 189 _ (131, [some (aR 21 k0), some (aI v1), some (aI v2), some (aI ((((8 : Int32)) * v1) + (rI M (k0 + 17) v2.toNatClampNeg))), some (aI (rI M (k0 + 7) ((((8 : Int32)) * v1) + (rI M (k0 + 17) v2.toNatClampNeg)).toNatClampNeg)), none], [], M)
        refine gd_s (P := True ∧ True ∧ True) (σ1 := (136, [some (aR 21 k0), some (aI v1), some (aI v2), some (aI ((((8 : Int32)) * v1) + (rI M (k0 + 17) v2.toNatClampNeg))), some (aI (rI M (k0 + 7) ((((8 : Int32)) * v1) + (rI M (k0 + 17) v2.toNatClampNeg)).toNatClampNeg)), none], [aI ((1 : Int32))], M)) tc_189 rfl 2 (fun u => ⟨_, rfl⟩) ⟨trivial, trivial, trivial⟩ ?_
        exact g_Mo_test_J136 hd hw ((1 : Int32)) (some (aR 21 k0)) (some (aI v1)) (some (aI v2)) (some (aI ((((8 : Int32)) * v1) + (rI M (k0 + 17) v2.toNatClampNeg)))) (some (aI (rI M (k0 + 7) ((((8 : Int32)) * v1) + (rI M (k0 + 17) v2.toNatClampNeg)).toNatClampNeg))) none h
    · have h := h.2 hc
      show Gd d w 189 _ (116, [some (aR 21 k0), some (aI v1), some (aI v2), some (aI ((((8 : Int32)) * v1) + (rI M (k0 + 17) v2.toNatClampNeg))), some (aI (rI M (k0 + 7) ((((8 : Int32)) * v1) + (rI M (k0 + 17) v2.toNatClampNeg)).toNatClampNeg)), none], [], M)
      refine gd_s (P := True ∧ True ∧ True) (σ1 := (139, [some (aR 21 k0), some (aI v1), some (aI v2), some (aI ((((8 : Int32)) * v1) + (rI M (k0 + 17) v2.toNatClampNeg))), some (aI (rI M (k0 + 7) ((((8 : Int32)) * v1) + (rI M (k0 + 17) v2.toNatClampNeg)).toNatClampNeg)), none], [aI ((2 : Int32))], M)) tc_189 rfl 2 (fun u => ⟨_, rfl⟩) ⟨trivial, trivial, trivial⟩ ?_
      exact gd_ret tc_189 rfl rfl trivial (fun _ => rfl) ⟨_, rfl, rfl, h⟩
  have h := h.2 hc
  refine gd_case ⟨fun hc => ?_, fun hc => ?_⟩
  · have h := h.1 hc
    show Gd d w 189 _ (140, [some (aR 21 k0), some (aI v1), some (aI v2), some (aI ((((8 : Int32)) * v1) + (rI M (k0 + 17) v2.toNatClampNeg))), some (aI (rI M (k0 + 7) ((((8 : Int32)) * v1) + (rI M (k0 + 17) v2.toNatClampNeg)).toNatClampNeg)), none], [], M)
    refine gd_s (P := True ∧ True ∧ True) (σ1 := (142, [some (aR 21 k0), some (aI v1), some (aI v2), some (aI ((((8 : Int32)) * v1) + (rI M (k0 + 17) v2.toNatClampNeg))), some (aI (rI M (k0 + 7) ((((8 : Int32)) * v1) + (rI M (k0 + 17) v2.toNatClampNeg)).toNatClampNeg)), none], [aI ((((8 : Int32)) * v1) + (rI M (k0 + 17) v2.toNatClampNeg)), aR 21 k0], M)) tc_189 rfl 2 (fun u => ⟨_, rfl⟩) ⟨trivial, trivial, trivial⟩ ?_
    refine gd_callN (ml := 2) (as := [aR 21 k0, aI ((((8 : Int32)) * v1) + (rI M (k0 + 17) v2.toNatClampNeg))]) (rest := []) tc_189 rfl rfl rfl rfl rfl (by omega) (by omega) (Nat.le_of_ble_eq_true rfl) rfl (g_Mo_isMissing (by omega) (by omega) h) (fun r9 M9 h => ?_)
    obtain ⟨x4, rfl, e9, h⟩ := h
    subst M9
    show Gd d w 189 _ (145, [some (aR 21 k0), some (aI v1), some (aI v2), some (aI ((((8 : Int32)) * v1) + (rI M (k0 + 17) v2.toNatClampNeg))), some (aI (rI M (k0 + 7) ((((8 : Int32)) * v1) + (rI M (k0 + 17) v2.toNatClampNeg)).toNatClampNeg)), none], [aI x4], M)
    refine gd_br (c := x4 = ((0 : Int32))) (st1 := []) tc_189 rfl rfl (fun _ => rfl) ⟨fun hc => ?_, fun hc => ?_⟩
    · have h := h.1 hc
      show Gd d w 189 _ (152, [some (aR 21 k0), some (aI v1), some (aI v2), some (aI ((((8 : Int32)) * v1) + (rI M (k0 + 17) v2.toNatClampNeg))), some (aI (rI M (k0 + 7) ((((8 : Int32)) * v1) + (rI M (k0 + 17) v2.toNatClampNeg)).toNatClampNeg)), none], [], M)
      refine gd_s (P := True ∧ True ∧ True ∧ True) (σ1 := (156, [some (aR 21 k0), some (aI v1), some (aI v2), some (aI ((((8 : Int32)) * v1) + (rI M (k0 + 17) v2.toNatClampNeg))), some (aI (rI M (k0 + 7) ((((8 : Int32)) * v1) + (rI M (k0 + 17) v2.toNatClampNeg)).toNatClampNeg)), none], [aI v2, aR 21 k0, aI (rI M (k0 + 7) ((((8 : Int32)) * v1) + (rI M (k0 + 17) v2.toNatClampNeg)).toNatClampNeg)], M)) tc_189 rfl 3 (fun u => ⟨_, rfl⟩) ⟨trivial, trivial, trivial, trivial⟩ ?_
      refine gd_callN (ml := 4) (as := [aR 21 k0, aI v2]) (rest := [aI (rI M (k0 + 7) ((((8 : Int32)) * v1) + (rI M (k0 + 17) v2.toNatClampNeg)).toNatClampNeg)]) tc_189 rfl rfl rfl rfl rfl (by omega) (by omega) (Nat.le_of_ble_eq_true rfl) rfl (g_Mo_maskOf (by omega) (by omega) h) (fun r9 M9 h => ?_)
      obtain ⟨x5, rfl, e9, h⟩ := h
      subst M9
      show Gd d w 189 _ (159, [some (aR 21 k0), some (aI v1), some (aI v2), some (aI ((((8 : Int32)) * v1) + (rI M (k0 + 17) v2.toNatClampNeg))), some (aI (rI M (k0 + 7) ((((8 : Int32)) * v1) + (rI M (k0 + 17) v2.toNatClampNeg)).toNatClampNeg)), none], [aI x5, aI (rI M (k0 + 7) ((((8 : Int32)) * v1) + (rI M (k0 + 17) v2.toNatClampNeg)).toNatClampNeg)], M)
      refine gd_s (P := True ∧ True ∧ True ∧ True) (σ1 := (162, [some (aR 21 k0), some (aI v1), some (aI v2), some (aI ((((8 : Int32)) * v1) + (rI M (k0 + 17) v2.toNatClampNeg))), some (aI (rI M (k0 + 7) ((((8 : Int32)) * v1) + (rI M (k0 + 17) v2.toNatClampNeg)).toNatClampNeg)), none], [aI ((rI M (k0 + 7) ((((8 : Int32)) * v1) + (rI M (k0 + 17) v2.toNatClampNeg)).toNatClampNeg) &&& (x5 ^^^ ((-1 : Int32))))], M)) tc_189 rfl 3 (fun u => ⟨_, rfl⟩) ⟨trivial, trivial, trivial, trivial⟩ ?_
      refine gd_br (c := ¬ ((rI M (k0 + 7) ((((8 : Int32)) * v1) + (rI M (k0 + 17) v2.toNatClampNeg)).toNatClampNeg) &&& (x5 ^^^ ((-1 : Int32)))) = ((0 : Int32))) (st1 := []) tc_189 rfl rfl (fun _ => rfl) ⟨fun hc => ?_, fun hc => ?_⟩
      · have h := h.1 hc
        show Gd d w 189 _ (169, [some (aR 21 k0), some (aI v1), some (aI v2), some (aI ((((8 : Int32)) * v1) + (rI M (k0 + 17) v2.toNatClampNeg))), some (aI (rI M (k0 + 7) ((((8 : Int32)) * v1) + (rI M (k0 + 17) v2.toNatClampNeg)).toNatClampNeg)), none], [], M)
        refine gd_s (P := True ∧ True) (σ1 := (170, [some (aR 21 k0), some (aI v1), some (aI v2), some (aI ((((8 : Int32)) * v1) + (rI M (k0 + 17) v2.toNatClampNeg))), some (aI (rI M (k0 + 7) ((((8 : Int32)) * v1) + (rI M (k0 + 17) v2.toNatClampNeg)).toNatClampNeg)), none], [aI ((0 : Int32))], M)) tc_189 rfl 1 (fun u => ⟨_, rfl⟩) ⟨trivial, trivial⟩ ?_
        exact g_Mo_test_J170 hd hw ((0 : Int32)) (some (aR 21 k0)) (some (aI v1)) (some (aI v2)) (some (aI ((((8 : Int32)) * v1) + (rI M (k0 + 17) v2.toNatClampNeg)))) (some (aI (rI M (k0 + 7) ((((8 : Int32)) * v1) + (rI M (k0 + 17) v2.toNatClampNeg)).toNatClampNeg))) none h
      · have h := h.2 hc
        show Gd d w 189 _ (165, [some (aR 21 k0), some (aI v1), some (aI v2), some (aI ((((8 : Int32)) * v1) + (rI M (k0 + 17) v2.toNatClampNeg))), some (aI (rI M (k0 + 7) ((((8 : Int32)) * v1) + (rI M (k0 + 17) v2.toNatClampNeg)).toNatClampNeg)), none], [], M)
        refine gd_s (P := True ∧ True ∧ True) (σ1 := (170, [some (aR 21 k0), some (aI v1), some (aI v2), some (aI ((((8 : Int32)) * v1) + (rI M (k0 + 17) v2.toNatClampNeg))), some (aI (rI M (k0 + 7) ((((8 : Int32)) * v1) + (rI M (k0 + 17) v2.toNatClampNeg)).toNatClampNeg)), none], [aI ((1 : Int32))], M)) tc_189 rfl 2 (fun u => ⟨_, rfl⟩) ⟨trivial, trivial, trivial⟩ ?_
        exact g_Mo_test_J170 hd hw ((1 : Int32)) (some (aR 21 k0)) (some (aI v1)) (some (aI v2)) (some (aI ((((8 : Int32)) * v1) + (rI M (k0 + 17) v2.toNatClampNeg)))) (some (aI (rI M (k0 + 7) ((((8 : Int32)) * v1) + (rI M (k0 + 17) v2.toNatClampNeg)).toNatClampNeg))) none h
    · have h := h.2 hc
      show Gd d w 189 _ (148, [some (aR 21 k0), some (aI v1), some (aI v2), some (aI ((((8 : Int32)) * v1) + (rI M (k0 + 17) v2.toNatClampNeg))), some (aI (rI M (k0 + 7) ((((8 : Int32)) * v1) + (rI M (k0 + 17) v2.toNatClampNeg)).toNatClampNeg)), none], [], M)
      refine gd_s (P := True ∧ True ∧ True) (σ1 := (173, [some (aR 21 k0), some (aI v1), some (aI v2), some (aI ((((8 : Int32)) * v1) + (rI M (k0 + 17) v2.toNatClampNeg))), some (aI (rI M (k0 + 7) ((((8 : Int32)) * v1) + (rI M (k0 + 17) v2.toNatClampNeg)).toNatClampNeg)), none], [aI ((2 : Int32))], M)) tc_189 rfl 2 (fun u => ⟨_, rfl⟩) ⟨trivial, trivial, trivial⟩ ?_
      exact gd_ret tc_189 rfl rfl trivial (fun _ => rfl) ⟨_, rfl, rfl, h⟩
  have h := h.2 hc
  refine gd_case ⟨fun hc => ?_, fun hc => ?_⟩
  · have h := h.1 hc
    show Gd d w 189 _ (174, [some (aR 21 k0), some (aI v1), some (aI v2), some (aI ((((8 : Int32)) * v1) + (rI M (k0 + 17) v2.toNatClampNeg))), some (aI (rI M (k0 + 7) ((((8 : Int32)) * v1) + (rI M (k0 + 17) v2.toNatClampNeg)).toNatClampNeg)), none], [], M)
    refine gd_s (P := True ∧ True) (σ1 := (176, [some (aR 21 k0), some (aI v1), some (aI v2), some (aI ((((8 : Int32)) * v1) + (rI M (k0 + 17) v2.toNatClampNeg))), some (aI (rI M (k0 + 7) ((((8 : Int32)) * v1) + (rI M (k0 + 17) v2.toNatClampNeg)).toNatClampNeg)), none], [aI (rI M (k0 + 7) ((((8 : Int32)) * v1) + (rI M (k0 + 17) v2.toNatClampNeg)).toNatClampNeg)], M)) tc_189 rfl 1 (fun u => ⟨_, rfl⟩) ⟨trivial, trivial⟩ ?_
    refine gd_callN (ml := 3) (as := [aI (rI M (k0 + 7) ((((8 : Int32)) * v1) + (rI M (k0 + 17) v2.toNatClampNeg)).toNatClampNeg)]) (rest := []) tc_189 rfl rfl rfl rfl rfl (by omega) (by omega) (Nat.le_of_ble_eq_true rfl) rfl (g_Mo_bits (by omega) (by omega) h) (fun r9 M9 h => ?_)
    obtain ⟨x6, rfl, e9, h⟩ := h
    subst M9
    show Gd d w 189 _ (179, [some (aR 21 k0), some (aI v1), some (aI v2), some (aI ((((8 : Int32)) * v1) + (rI M (k0 + 17) v2.toNatClampNeg))), some (aI (rI M (k0 + 7) ((((8 : Int32)) * v1) + (rI M (k0 + 17) v2.toNatClampNeg)).toNatClampNeg)), none], [aI x6], M)
    obtain ⟨c0, h⟩ := h
    refine gd_s (P := True ∧ True ∧ True ∧ (vp_in v2 (rK M (k0 + 18)).2) ∧ True) (σ1 := (185, [some (aR 21 k0), some (aI v1), some (aI v2), some (aI ((((8 : Int32)) * v1) + (rI M (k0 + 17) v2.toNatClampNeg))), some (aI (rI M (k0 + 7) ((((8 : Int32)) * v1) + (rI M (k0 + 17) v2.toNatClampNeg)).toNatClampNeg)), none], [aI (rI M (k0 + 18) v2.toNatClampNeg), aI x6], M)) tc_189 rfl 4 (fun u => ⟨_, rfl⟩) ⟨trivial, trivial, trivial, c0, trivial⟩ ?_
    refine gd_br (c := (rI M (k0 + 18) v2.toNatClampNeg) ≤ x6) (st1 := []) tc_189 rfl rfl (fun _ => rfl) ⟨fun hc => ?_, fun hc => ?_⟩
    · have h := h.1 hc
      show Gd d w 189 _ (192, [some (aR 21 k0), some (aI v1), some (aI v2), some (aI ((((8 : Int32)) * v1) + (rI M (k0 + 17) v2.toNatClampNeg))), some (aI (rI M (k0 + 7) ((((8 : Int32)) * v1) + (rI M (k0 + 17) v2.toNatClampNeg)).toNatClampNeg)), none], [], M)
      refine gd_s (P := True ∧ True) (σ1 := (193, [some (aR 21 k0), some (aI v1), some (aI v2), some (aI ((((8 : Int32)) * v1) + (rI M (k0 + 17) v2.toNatClampNeg))), some (aI (rI M (k0 + 7) ((((8 : Int32)) * v1) + (rI M (k0 + 17) v2.toNatClampNeg)).toNatClampNeg)), none], [aI ((0 : Int32))], M)) tc_189 rfl 1 (fun u => ⟨_, rfl⟩) ⟨trivial, trivial⟩ ?_
      exact g_Mo_test_J193 hd hw ((0 : Int32)) (some (aR 21 k0)) (some (aI v1)) (some (aI v2)) (some (aI ((((8 : Int32)) * v1) + (rI M (k0 + 17) v2.toNatClampNeg)))) (some (aI (rI M (k0 + 7) ((((8 : Int32)) * v1) + (rI M (k0 + 17) v2.toNatClampNeg)).toNatClampNeg))) none h
    · have h := h.2 hc
      show Gd d w 189 _ (188, [some (aR 21 k0), some (aI v1), some (aI v2), some (aI ((((8 : Int32)) * v1) + (rI M (k0 + 17) v2.toNatClampNeg))), some (aI (rI M (k0 + 7) ((((8 : Int32)) * v1) + (rI M (k0 + 17) v2.toNatClampNeg)).toNatClampNeg)), none], [], M)
      refine gd_s (P := True ∧ True ∧ True) (σ1 := (193, [some (aR 21 k0), some (aI v1), some (aI v2), some (aI ((((8 : Int32)) * v1) + (rI M (k0 + 17) v2.toNatClampNeg))), some (aI (rI M (k0 + 7) ((((8 : Int32)) * v1) + (rI M (k0 + 17) v2.toNatClampNeg)).toNatClampNeg)), none], [aI ((1 : Int32))], M)) tc_189 rfl 2 (fun u => ⟨_, rfl⟩) ⟨trivial, trivial, trivial⟩ ?_
      exact g_Mo_test_J193 hd hw ((1 : Int32)) (some (aR 21 k0)) (some (aI v1)) (some (aI v2)) (some (aI ((((8 : Int32)) * v1) + (rI M (k0 + 17) v2.toNatClampNeg)))) (some (aI (rI M (k0 + 7) ((((8 : Int32)) * v1) + (rI M (k0 + 17) v2.toNatClampNeg)).toNatClampNeg))) none h
  have h := h.2 hc
  refine gd_case ⟨fun hc => ?_, fun hc => ?_⟩
  · have h := h.1 hc
    show Gd d w 189 _ (197, [some (aR 21 k0), some (aI v1), some (aI v2), some (aI ((((8 : Int32)) * v1) + (rI M (k0 + 17) v2.toNatClampNeg))), some (aI (rI M (k0 + 7) ((((8 : Int32)) * v1) + (rI M (k0 + 17) v2.toNatClampNeg)).toNatClampNeg)), none], [], M)
    refine gd_s (P := True ∧ True) (σ1 := (199, [some (aR 21 k0), some (aI v1), some (aI v2), some (aI ((((8 : Int32)) * v1) + (rI M (k0 + 17) v2.toNatClampNeg))), some (aI (rI M (k0 + 7) ((((8 : Int32)) * v1) + (rI M (k0 + 17) v2.toNatClampNeg)).toNatClampNeg)), none], [aI (rI M (k0 + 7) ((((8 : Int32)) * v1) + (rI M (k0 + 17) v2.toNatClampNeg)).toNatClampNeg)], M)) tc_189 rfl 1 (fun u => ⟨_, rfl⟩) ⟨trivial, trivial⟩ ?_
    refine gd_callN (ml := 3) (as := [aI (rI M (k0 + 7) ((((8 : Int32)) * v1) + (rI M (k0 + 17) v2.toNatClampNeg)).toNatClampNeg)]) (rest := []) tc_189 rfl rfl rfl rfl rfl (by omega) (by omega) (Nat.le_of_ble_eq_true rfl) rfl (g_Mo_bits (by omega) (by omega) h) (fun r9 M9 h => ?_)
    obtain ⟨x7, rfl, e9, h⟩ := h
    subst M9
    show Gd d w 189 _ (202, [some (aR 21 k0), some (aI v1), some (aI v2), some (aI ((((8 : Int32)) * v1) + (rI M (k0 + 17) v2.toNatClampNeg))), some (aI (rI M (k0 + 7) ((((8 : Int32)) * v1) + (rI M (k0 + 17) v2.toNatClampNeg)).toNatClampNeg)), none], [aI x7], M)
    obtain ⟨c0, h⟩ := h
    refine gd_s (P := True ∧ True ∧ True ∧ (vp_in v2 (rK M (k0 + 18)).2) ∧ True) (σ1 := (208, [some (aR 21 k0), some (aI v1), some (aI v2), some (aI ((((8 : Int32)) * v1) + (rI M (k0 + 17) v2.toNatClampNeg))), some (aI (rI M (k0 + 7) ((((8 : Int32)) * v1) + (rI M (k0 + 17) v2.toNatClampNeg)).toNatClampNeg)), none], [aI (rI M (k0 + 18) v2.toNatClampNeg), aI x7], M)) tc_189 rfl 4 (fun u => ⟨_, rfl⟩) ⟨trivial, trivial, trivial, c0, trivial⟩ ?_
    refine gd_br (c := ¬ x7 = (rI M (k0 + 18) v2.toNatClampNeg)) (st1 := []) tc_189 rfl rfl (fun _ => rfl) ⟨fun hc => ?_, fun hc => ?_⟩
    · have h := h.1 hc
      show Gd d w 189 _ (215, [some (aR 21 k0), some (aI v1), some (aI v2), some (aI ((((8 : Int32)) * v1) + (rI M (k0 + 17) v2.toNatClampNeg))), some (aI (rI M (k0 + 7) ((((8 : Int32)) * v1) + (rI M (k0 + 17) v2.toNatClampNeg)).toNatClampNeg)), none], [], M)
      refine gd_s (P := True ∧ True) (σ1 := (216, [some (aR 21 k0), some (aI v1), some (aI v2), some (aI ((((8 : Int32)) * v1) + (rI M (k0 + 17) v2.toNatClampNeg))), some (aI (rI M (k0 + 7) ((((8 : Int32)) * v1) + (rI M (k0 + 17) v2.toNatClampNeg)).toNatClampNeg)), none], [aI ((0 : Int32))], M)) tc_189 rfl 1 (fun u => ⟨_, rfl⟩) ⟨trivial, trivial⟩ ?_
      exact g_Mo_test_J216 hd hw ((0 : Int32)) (some (aR 21 k0)) (some (aI v1)) (some (aI v2)) (some (aI ((((8 : Int32)) * v1) + (rI M (k0 + 17) v2.toNatClampNeg)))) (some (aI (rI M (k0 + 7) ((((8 : Int32)) * v1) + (rI M (k0 + 17) v2.toNatClampNeg)).toNatClampNeg))) none h
    · have h := h.2 hc
      show Gd d w 189 _ (211, [some (aR 21 k0), some (aI v1), some (aI v2), some (aI ((((8 : Int32)) * v1) + (rI M (k0 + 17) v2.toNatClampNeg))), some (aI (rI M (k0 + 7) ((((8 : Int32)) * v1) + (rI M (k0 + 17) v2.toNatClampNeg)).toNatClampNeg)), none], [], M)
      refine gd_s (P := True ∧ True ∧ True) (σ1 := (216, [some (aR 21 k0), some (aI v1), some (aI v2), some (aI ((((8 : Int32)) * v1) + (rI M (k0 + 17) v2.toNatClampNeg))), some (aI (rI M (k0 + 7) ((((8 : Int32)) * v1) + (rI M (k0 + 17) v2.toNatClampNeg)).toNatClampNeg)), none], [aI ((1 : Int32))], M)) tc_189 rfl 2 (fun u => ⟨_, rfl⟩) ⟨trivial, trivial, trivial⟩ ?_
      exact g_Mo_test_J216 hd hw ((1 : Int32)) (some (aR 21 k0)) (some (aI v1)) (some (aI v2)) (some (aI ((((8 : Int32)) * v1) + (rI M (k0 + 17) v2.toNatClampNeg)))) (some (aI (rI M (k0 + 7) ((((8 : Int32)) * v1) + (rI M (k0 + 17) v2.toNatClampNeg)).toNatClampNeg))) none h
  have h := h.2 hc
  refine gd_case ⟨fun hc => ?_, fun hc => ?_⟩
  · have h := h.1 hc
    show Gd d w 189 _ (220, [some (aR 21 k0), some (aI v1), some (aI v2), some (aI ((((8 : Int32)) * v1) + (rI M (k0 + 17) v2.toNatClampNeg))), some (aI (rI M (k0 + 7) ((((8 : Int32)) * v1) + (rI M (k0 + 17) v2.toNatClampNeg)).toNatClampNeg)), none], [], M)
    refine gd_s (P := True ∧ True) (σ1 := (222, [some (aR 21 k0), some (aI v1), some (aI v2), some (aI ((((8 : Int32)) * v1) + (rI M (k0 + 17) v2.toNatClampNeg))), some (aI (rI M (k0 + 7) ((((8 : Int32)) * v1) + (rI M (k0 + 17) v2.toNatClampNeg)).toNatClampNeg)), none], [aI (rI M (k0 + 7) ((((8 : Int32)) * v1) + (rI M (k0 + 17) v2.toNatClampNeg)).toNatClampNeg)], M)) tc_189 rfl 1 (fun u => ⟨_, rfl⟩) ⟨trivial, trivial⟩ ?_
    refine gd_callN (ml := 3) (as := [aI (rI M (k0 + 7) ((((8 : Int32)) * v1) + (rI M (k0 + 17) v2.toNatClampNeg)).toNatClampNeg)]) (rest := []) tc_189 rfl rfl rfl rfl rfl (by omega) (by omega) (Nat.le_of_ble_eq_true rfl) rfl (g_Mo_bits (by omega) (by omega) h) (fun r9 M9 h => ?_)
    obtain ⟨x8, rfl, e9, h⟩ := h
    subst M9
    show Gd d w 189 _ (225, [some (aR 21 k0), some (aI v1), some (aI v2), some (aI ((((8 : Int32)) * v1) + (rI M (k0 + 17) v2.toNatClampNeg))), some (aI (rI M (k0 + 7) ((((8 : Int32)) * v1) + (rI M (k0 + 17) v2.toNatClampNeg)).toNatClampNeg)), none], [aI x8], M)
    obtain ⟨c0, h⟩ := h
    refine gd_s (P := True ∧ True ∧ True ∧ (vp_in v2 (rK M (k0 + 18)).2) ∧ True) (σ1 := (231, [some (aR 21 k0), some (aI v1), some (aI v2), some (aI ((((8 : Int32)) * v1) + (rI M (k0 + 17) v2.toNatClampNeg))), some (aI (rI M (k0 + 7) ((((8 : Int32)) * v1) + (rI M (k0 + 17) v2.toNatClampNeg)).toNatClampNeg)), none], [aI (rI M (k0 + 18) v2.toNatClampNeg), aI x8], M)) tc_189 rfl 4 (fun u => ⟨_, rfl⟩) ⟨trivial, trivial, trivial, c0, trivial⟩ ?_
    refine gd_br (c := x8 ≤ (rI M (k0 + 18) v2.toNatClampNeg)) (st1 := []) tc_189 rfl rfl (fun _ => rfl) ⟨fun hc => ?_, fun hc => ?_⟩
    · have h := h.1 hc
      show Gd d w 189 _ (238, [some (aR 21 k0), some (aI v1), some (aI v2), some (aI ((((8 : Int32)) * v1) + (rI M (k0 + 17) v2.toNatClampNeg))), some (aI (rI M (k0 + 7) ((((8 : Int32)) * v1) + (rI M (k0 + 17) v2.toNatClampNeg)).toNatClampNeg)), none], [], M)
      refine gd_s (P := True ∧ True) (σ1 := (239, [some (aR 21 k0), some (aI v1), some (aI v2), some (aI ((((8 : Int32)) * v1) + (rI M (k0 + 17) v2.toNatClampNeg))), some (aI (rI M (k0 + 7) ((((8 : Int32)) * v1) + (rI M (k0 + 17) v2.toNatClampNeg)).toNatClampNeg)), none], [aI ((0 : Int32))], M)) tc_189 rfl 1 (fun u => ⟨_, rfl⟩) ⟨trivial, trivial⟩ ?_
      exact g_Mo_test_J239 hd hw ((0 : Int32)) (some (aR 21 k0)) (some (aI v1)) (some (aI v2)) (some (aI ((((8 : Int32)) * v1) + (rI M (k0 + 17) v2.toNatClampNeg)))) (some (aI (rI M (k0 + 7) ((((8 : Int32)) * v1) + (rI M (k0 + 17) v2.toNatClampNeg)).toNatClampNeg))) none h
    · have h := h.2 hc
      show Gd d w 189 _ (234, [some (aR 21 k0), some (aI v1), some (aI v2), some (aI ((((8 : Int32)) * v1) + (rI M (k0 + 17) v2.toNatClampNeg))), some (aI (rI M (k0 + 7) ((((8 : Int32)) * v1) + (rI M (k0 + 17) v2.toNatClampNeg)).toNatClampNeg)), none], [], M)
      refine gd_s (P := True ∧ True ∧ True) (σ1 := (239, [some (aR 21 k0), some (aI v1), some (aI v2), some (aI ((((8 : Int32)) * v1) + (rI M (k0 + 17) v2.toNatClampNeg))), some (aI (rI M (k0 + 7) ((((8 : Int32)) * v1) + (rI M (k0 + 17) v2.toNatClampNeg)).toNatClampNeg)), none], [aI ((1 : Int32))], M)) tc_189 rfl 2 (fun u => ⟨_, rfl⟩) ⟨trivial, trivial, trivial⟩ ?_
      exact g_Mo_test_J239 hd hw ((1 : Int32)) (some (aR 21 k0)) (some (aI v1)) (some (aI v2)) (some (aI ((((8 : Int32)) * v1) + (rI M (k0 + 17) v2.toNatClampNeg)))) (some (aI (rI M (k0 + 7) ((((8 : Int32)) * v1) + (rI M (k0 + 17) v2.toNatClampNeg)).toNatClampNeg))) none h
  have h := h.2 hc
  refine gd_case ⟨fun hc => ?_, fun hc => ?_⟩
  · have h := h.1 hc
    show Gd d w 189 _ (243, [some (aR 21 k0), some (aI v1), some (aI v2), some (aI ((((8 : Int32)) * v1) + (rI M (k0 + 17) v2.toNatClampNeg))), some (aI (rI M (k0 + 7) ((((8 : Int32)) * v1) + (rI M (k0 + 17) v2.toNatClampNeg)).toNatClampNeg)), none], [], M)
    obtain ⟨c0, h⟩ := h
    refine gd_s (P := True ∧ True ∧ True ∧ True ∧ True ∧ True ∧ (vp_in v2 (rK M (k0 + 18)).2) ∧ True ∧ True ∧ True ∧ True ∧ True) (σ1 := (258, [some (aR 21 k0), some (aI v1), some (aI v2), some (aI ((((8 : Int32)) * v1) + (rI M (k0 + 17) v2.toNatClampNeg))), some (aI (rI M (k0 + 7) ((((8 : Int32)) * v1) + (rI M (k0 + 17) v2.toNatClampNeg)).toNatClampNeg)), some (aI ((((8 : Int32)) * v1) + (rI M (k0 + 18) v2.toNatClampNeg)))], [aI ((((8 : Int32)) * v1) + (rI M (k0 + 17) v2.toNatClampNeg)), aR 21 k0], M)) tc_189 rfl 11 (fun u => ⟨_, rfl⟩) ⟨trivial, trivial, trivial, trivial, trivial, trivial, c0, trivial, trivial, trivial, trivial, trivial⟩ ?_
    refine gd_callN (ml := 2) (as := [aR 21 k0, aI ((((8 : Int32)) * v1) + (rI M (k0 + 17) v2.toNatClampNeg))]) (rest := []) tc_189 rfl rfl rfl rfl rfl (by omega) (by omega) (Nat.le_of_ble_eq_true rfl) rfl (g_Mo_isMissing (by omega) (by omega) h) (fun r9 M9 h => ?_)
    obtain ⟨x9, rfl, e9, h⟩ := h
    subst M9
    show Gd d w 189 _ (261, [some (aR 21 k0), some (aI v1), some (aI v2), some (aI ((((8 : Int32)) * v1) + (rI M (k0 + 17) v2.toNatClampNeg))), some (aI (rI M (k0 + 7) ((((8 : Int32)) * v1) + (rI M (k0 + 17) v2.toNatClampNeg)).toNatClampNeg)), some (aI ((((8 : Int32)) * v1) + (rI M (k0 + 18) v2.toNatClampNeg)))], [aI x9], M)
    refine gd_br (c := ¬ x9 = ((0 : Int32))) (st1 := []) tc_189 rfl rfl (fun _ => rfl) ⟨fun hc => ?_, fun hc => ?_⟩
    · have h := h.1 hc
      show Gd d w 189 _ (273, [some (aR 21 k0), some (aI v1), some (aI v2), some (aI ((((8 : Int32)) * v1) + (rI M (k0 + 17) v2.toNatClampNeg))), some (aI (rI M (k0 + 7) ((((8 : Int32)) * v1) + (rI M (k0 + 17) v2.toNatClampNeg)).toNatClampNeg)), some (aI ((((8 : Int32)) * v1) + (rI M (k0 + 18) v2.toNatClampNeg)))], [], M)
      refine gd_s (P := True ∧ True ∧ True) (σ1 := (298, [some (aR 21 k0), some (aI v1), some (aI v2), some (aI ((((8 : Int32)) * v1) + (rI M (k0 + 17) v2.toNatClampNeg))), some (aI (rI M (k0 + 7) ((((8 : Int32)) * v1) + (rI M (k0 + 17) v2.toNatClampNeg)).toNatClampNeg)), some (aI ((((8 : Int32)) * v1) + (rI M (k0 + 18) v2.toNatClampNeg)))], [aI ((2 : Int32))], M)) tc_189 rfl 2 (fun u => ⟨_, rfl⟩) ⟨trivial, trivial, trivial⟩ ?_
      exact gd_ret tc_189 rfl rfl trivial (fun _ => rfl) ⟨_, rfl, rfl, h⟩
    · have h := h.2 hc
      show Gd d w 189 _ (264, [some (aR 21 k0), some (aI v1), some (aI v2), some (aI ((((8 : Int32)) * v1) + (rI M (k0 + 17) v2.toNatClampNeg))), some (aI (rI M (k0 + 7) ((((8 : Int32)) * v1) + (rI M (k0 + 17) v2.toNatClampNeg)).toNatClampNeg)), some (aI ((((8 : Int32)) * v1) + (rI M (k0 + 18) v2.toNatClampNeg)))], [], M)
      refine gd_s (P := True ∧ True ∧ True) (σ1 := (267, [some (aR 21 k0), some (aI v1), some (aI v2), some (aI ((((8 : Int32)) * v1) + (rI M (k0 + 17) v2.toNatClampNeg))), some (aI (rI M (k0 + 7) ((((8 : Int32)) * v1) + (rI M (k0 + 17) v2.toNatClampNeg)).toNatClampNeg)), some (aI ((((8 : Int32)) * v1) + (rI M (k0 + 18) v2.toNatClampNeg)))], [aI ((((8 : Int32)) * v1) + (rI M (k0 + 18) v2.toNatClampNeg)), aR 21 k0], M)) tc_189 rfl 2 (fun u => ⟨_, rfl⟩) ⟨trivial, trivial, trivial⟩ ?_
      refine gd_callN (ml := 2) (as := [aR 21 k0, aI ((((8 : Int32)) * v1) + (rI M (k0 + 18) v2.toNatClampNeg))]) (rest := []) tc_189 rfl rfl rfl rfl rfl (by omega) (by omega) (Nat.le_of_ble_eq_true rfl) rfl (g_Mo_isMissing (by omega) (by omega) h) (fun r9 M9 h => ?_)
      obtain ⟨x10, rfl, e9, h⟩ := h
      subst M9
      show Gd d w 189 _ (270, [some (aR 21 k0), some (aI v1), some (aI v2), some (aI ((((8 : Int32)) * v1) + (rI M (k0 + 17) v2.toNatClampNeg))), some (aI (rI M (k0 + 7) ((((8 : Int32)) * v1) + (rI M (k0 + 17) v2.toNatClampNeg)).toNatClampNeg)), some (aI ((((8 : Int32)) * v1) + (rI M (k0 + 18) v2.toNatClampNeg)))], [aI x10], M)
      refine gd_br (c := x10 = ((0 : Int32))) (st1 := []) tc_189 rfl rfl (fun _ => rfl) ⟨fun hc => ?_, fun hc => ?_⟩
      · have h := h.1 hc
        show Gd d w 189 _ (277, [some (aR 21 k0), some (aI v1), some (aI v2), some (aI ((((8 : Int32)) * v1) + (rI M (k0 + 17) v2.toNatClampNeg))), some (aI (rI M (k0 + 7) ((((8 : Int32)) * v1) + (rI M (k0 + 17) v2.toNatClampNeg)).toNatClampNeg)), some (aI ((((8 : Int32)) * v1) + (rI M (k0 + 18) v2.toNatClampNeg)))], [], M)
        obtain ⟨c0, h⟩ := h
        refine gd_s (P := True ∧ True ∧ True ∧ True ∧ (vp_in ((((8 : Int32)) * v1) + (rI M (k0 + 18) v2.toNatClampNeg)) (rK M (k0 + 7)).2) ∧ True ∧ True) (σ1 := (287, [some (aR 21 k0), some (aI v1), some (aI v2), some (aI ((((8 : Int32)) * v1) + (rI M (k0 + 17) v2.toNatClampNeg))), some (aI (rI M (k0 + 7) ((((8 : Int32)) * v1) + (rI M (k0 + 17) v2.toNatClampNeg)).toNatClampNeg)), some (aI ((((8 : Int32)) * v1) + (rI M (k0 + 18) v2.toNatClampNeg)))], [aI ((rI M (k0 + 7) ((((8 : Int32)) * v1) + (rI M (k0 + 17) v2.toNatClampNeg)).toNatClampNeg) &&& (rI M (k0 + 7) ((((8 : Int32)) * v1) + (rI M (k0 + 18) v2.toNatClampNeg)).toNatClampNeg))], M)) tc_189 rfl 6 (fun u => ⟨_, rfl⟩) ⟨trivial, trivial, trivial, trivial, c0, trivial, trivial⟩ ?_
        refine gd_br (c := ((rI M (k0 + 7) ((((8 : Int32)) * v1) + (rI M (k0 + 17) v2.toNatClampNeg)).toNatClampNeg) &&& (rI M (k0 + 7) ((((8 : Int32)) * v1) + (rI M (k0 + 18) v2.toNatClampNeg)).toNatClampNeg)) = ((0 : Int32))) (st1 := []) tc_189 rfl rfl (fun _ => rfl) ⟨fun hc => ?_, fun hc => ?_⟩
        · have h := h.1 hc
          show Gd d w 189 _ (294, [some (aR 21 k0), some (aI v1), some (aI v2), some (aI ((((8 : Int32)) * v1) + (rI M (k0 + 17) v2.toNatClampNeg))), some (aI (rI M (k0 + 7) ((((8 : Int32)) * v1) + (rI M (k0 + 17) v2.toNatClampNeg)).toNatClampNeg)), some (aI ((((8 : Int32)) * v1) + (rI M (k0 + 18) v2.toNatClampNeg)))], [], M)
          refine gd_s (P := True ∧ True) (σ1 := (295, [some (aR 21 k0), some (aI v1), some (aI v2), some (aI ((((8 : Int32)) * v1) + (rI M (k0 + 17) v2.toNatClampNeg))), some (aI (rI M (k0 + 7) ((((8 : Int32)) * v1) + (rI M (k0 + 17) v2.toNatClampNeg)).toNatClampNeg)), some (aI ((((8 : Int32)) * v1) + (rI M (k0 + 18) v2.toNatClampNeg)))], [aI ((0 : Int32))], M)) tc_189 rfl 1 (fun u => ⟨_, rfl⟩) ⟨trivial, trivial⟩ ?_
          exact g_Mo_test_J295 hd hw ((0 : Int32)) (some (aR 21 k0)) (some (aI v1)) (some (aI v2)) (some (aI ((((8 : Int32)) * v1) + (rI M (k0 + 17) v2.toNatClampNeg)))) (some (aI (rI M (k0 + 7) ((((8 : Int32)) * v1) + (rI M (k0 + 17) v2.toNatClampNeg)).toNatClampNeg))) (some (aI ((((8 : Int32)) * v1) + (rI M (k0 + 18) v2.toNatClampNeg)))) h
        · have h := h.2 hc
          show Gd d w 189 _ (290, [some (aR 21 k0), some (aI v1), some (aI v2), some (aI ((((8 : Int32)) * v1) + (rI M (k0 + 17) v2.toNatClampNeg))), some (aI (rI M (k0 + 7) ((((8 : Int32)) * v1) + (rI M (k0 + 17) v2.toNatClampNeg)).toNatClampNeg)), some (aI ((((8 : Int32)) * v1) + (rI M (k0 + 18) v2.toNatClampNeg)))], [], M)
          refine gd_s (P := True ∧ True ∧ True) (σ1 := (295, [some (aR 21 k0), some (aI v1), some (aI v2), some (aI ((((8 : Int32)) * v1) + (rI M (k0 + 17) v2.toNatClampNeg))), some (aI (rI M (k0 + 7) ((((8 : Int32)) * v1) + (rI M (k0 + 17) v2.toNatClampNeg)).toNatClampNeg)), some (aI ((((8 : Int32)) * v1) + (rI M (k0 + 18) v2.toNatClampNeg)))], [aI ((1 : Int32))], M)) tc_189 rfl 2 (fun u => ⟨_, rfl⟩) ⟨trivial, trivial, trivial⟩ ?_
          exact g_Mo_test_J295 hd hw ((1 : Int32)) (some (aR 21 k0)) (some (aI v1)) (some (aI v2)) (some (aI ((((8 : Int32)) * v1) + (rI M (k0 + 17) v2.toNatClampNeg)))) (some (aI (rI M (k0 + 7) ((((8 : Int32)) * v1) + (rI M (k0 + 17) v2.toNatClampNeg)).toNatClampNeg))) (some (aI ((((8 : Int32)) * v1) + (rI M (k0 + 18) v2.toNatClampNeg)))) h
      · have h := h.2 hc
        show Gd d w 189 _ (273, [some (aR 21 k0), some (aI v1), some (aI v2), some (aI ((((8 : Int32)) * v1) + (rI M (k0 + 17) v2.toNatClampNeg))), some (aI (rI M (k0 + 7) ((((8 : Int32)) * v1) + (rI M (k0 + 17) v2.toNatClampNeg)).toNatClampNeg)), some (aI ((((8 : Int32)) * v1) + (rI M (k0 + 18) v2.toNatClampNeg)))], [], M)
        refine gd_s (P := True ∧ True ∧ True) (σ1 := (298, [some (aR 21 k0), some (aI v1), some (aI v2), some (aI ((((8 : Int32)) * v1) + (rI M (k0 + 17) v2.toNatClampNeg))), some (aI (rI M (k0 + 7) ((((8 : Int32)) * v1) + (rI M (k0 + 17) v2.toNatClampNeg)).toNatClampNeg)), some (aI ((((8 : Int32)) * v1) + (rI M (k0 + 18) v2.toNatClampNeg)))], [aI ((2 : Int32))], M)) tc_189 rfl 2 (fun u => ⟨_, rfl⟩) ⟨trivial, trivial, trivial⟩ ?_
        exact gd_ret tc_189 rfl rfl trivial (fun _ => rfl) ⟨_, rfl, rfl, h⟩
  have h := h.2 hc
  refine gd_case ⟨fun hc => ?_, fun hc => ?_⟩
  · have h := h.1 hc
    show Gd d w 189 _ (299, [some (aR 21 k0), some (aI v1), some (aI v2), some (aI ((((8 : Int32)) * v1) + (rI M (k0 + 17) v2.toNatClampNeg))), some (aI (rI M (k0 + 7) ((((8 : Int32)) * v1) + (rI M (k0 + 17) v2.toNatClampNeg)).toNatClampNeg)), none], [], M)
    refine gd_s (P := True ∧ True) (σ1 := (301, [some (aR 21 k0), some (aI v1), some (aI v2), some (aI ((((8 : Int32)) * v1) + (rI M (k0 + 17) v2.toNatClampNeg))), some (aI (rI M (k0 + 7) ((((8 : Int32)) * v1) + (rI M (k0 + 17) v2.toNatClampNeg)).toNatClampNeg)), none], [aI (rI M (k0 + 7) ((((8 : Int32)) * v1) + (rI M (k0 + 17) v2.toNatClampNeg)).toNatClampNeg)], M)) tc_189 rfl 1 (fun u => ⟨_, rfl⟩) ⟨trivial, trivial⟩ ?_
    refine gd_callN (ml := 3) (as := [aI (rI M (k0 + 7) ((((8 : Int32)) * v1) + (rI M (k0 + 17) v2.toNatClampNeg)).toNatClampNeg)]) (rest := []) tc_189 rfl rfl rfl rfl rfl (by omega) (by omega) (Nat.le_of_ble_eq_true rfl) rfl (g_Mo_bits (by omega) (by omega) h) (fun r9 M9 h => ?_)
    obtain ⟨x11, rfl, e9, h⟩ := h
    subst M9
    show Gd d w 189 _ (304, [some (aR 21 k0), some (aI v1), some (aI v2), some (aI ((((8 : Int32)) * v1) + (rI M (k0 + 17) v2.toNatClampNeg))), some (aI (rI M (k0 + 7) ((((8 : Int32)) * v1) + (rI M (k0 + 17) v2.toNatClampNeg)).toNatClampNeg)), none], [aI x11], M)
    refine gd_s (P := True ∧ True) (σ1 := (305, [some (aR 21 k0), some (aI v1), some (aI v2), some (aI ((((8 : Int32)) * v1) + (rI M (k0 + 17) v2.toNatClampNeg))), some (aI (rI M (k0 + 7) ((((8 : Int32)) * v1) + (rI M (k0 + 17) v2.toNatClampNeg)).toNatClampNeg)), none], [aI ((1 : Int32)), aI x11], M)) tc_189 rfl 1 (fun u => ⟨_, rfl⟩) ⟨trivial, trivial⟩ ?_
    refine gd_br (c := x11 = ((1 : Int32))) (st1 := []) tc_189 rfl rfl (fun _ => rfl) ⟨fun hc => ?_, fun hc => ?_⟩
    · have h := h.1 hc
      show Gd d w 189 _ (312, [some (aR 21 k0), some (aI v1), some (aI v2), some (aI ((((8 : Int32)) * v1) + (rI M (k0 + 17) v2.toNatClampNeg))), some (aI (rI M (k0 + 7) ((((8 : Int32)) * v1) + (rI M (k0 + 17) v2.toNatClampNeg)).toNatClampNeg)), none], [], M)
      obtain ⟨c0, h⟩ := h
      refine gd_s (P := True ∧ True ∧ True ∧ True ∧ True ∧ (vp_in v2 (rK M (k0 + 18)).2) ∧ True ∧ True) (σ1 := (322, [some (aR 21 k0), some (aI v1), some (aI v2), some (aI ((((8 : Int32)) * v1) + (rI M (k0 + 17) v2.toNatClampNeg))), some (aI (rI M (k0 + 7) ((((8 : Int32)) * v1) + (rI M (k0 + 17) v2.toNatClampNeg)).toNatClampNeg)), none], [aI (((1 : Int32)) <<< ((rI M (k0 + 18) v2.toNatClampNeg) &&& 31)), aI (rI M (k0 + 7) ((((8 : Int32)) * v1) + (rI M (k0 + 17) v2.toNatClampNeg)).toNatClampNeg)], M)) tc_189 rfl 7 (fun u => ⟨_, rfl⟩) ⟨trivial, trivial, trivial, trivial, trivial, c0, trivial, trivial⟩ ?_
      refine gd_br (c := ¬ (rI M (k0 + 7) ((((8 : Int32)) * v1) + (rI M (k0 + 17) v2.toNatClampNeg)).toNatClampNeg) = (((1 : Int32)) <<< ((rI M (k0 + 18) v2.toNatClampNeg) &&& 31))) (st1 := []) tc_189 rfl rfl (fun _ => rfl) ⟨fun hc => ?_, fun hc => ?_⟩
      · have h := h.1 hc
        show Gd d w 189 _ (329, [some (aR 21 k0), some (aI v1), some (aI v2), some (aI ((((8 : Int32)) * v1) + (rI M (k0 + 17) v2.toNatClampNeg))), some (aI (rI M (k0 + 7) ((((8 : Int32)) * v1) + (rI M (k0 + 17) v2.toNatClampNeg)).toNatClampNeg)), none], [], M)
        refine gd_s (P := True ∧ True) (σ1 := (330, [some (aR 21 k0), some (aI v1), some (aI v2), some (aI ((((8 : Int32)) * v1) + (rI M (k0 + 17) v2.toNatClampNeg))), some (aI (rI M (k0 + 7) ((((8 : Int32)) * v1) + (rI M (k0 + 17) v2.toNatClampNeg)).toNatClampNeg)), none], [aI ((0 : Int32))], M)) tc_189 rfl 1 (fun u => ⟨_, rfl⟩) ⟨trivial, trivial⟩ ?_
        exact g_Mo_test_J330 hd hw ((0 : Int32)) (some (aR 21 k0)) (some (aI v1)) (some (aI v2)) (some (aI ((((8 : Int32)) * v1) + (rI M (k0 + 17) v2.toNatClampNeg)))) (some (aI (rI M (k0 + 7) ((((8 : Int32)) * v1) + (rI M (k0 + 17) v2.toNatClampNeg)).toNatClampNeg))) none h
      · have h := h.2 hc
        show Gd d w 189 _ (325, [some (aR 21 k0), some (aI v1), some (aI v2), some (aI ((((8 : Int32)) * v1) + (rI M (k0 + 17) v2.toNatClampNeg))), some (aI (rI M (k0 + 7) ((((8 : Int32)) * v1) + (rI M (k0 + 17) v2.toNatClampNeg)).toNatClampNeg)), none], [], M)
        refine gd_s (P := True ∧ True ∧ True) (σ1 := (330, [some (aR 21 k0), some (aI v1), some (aI v2), some (aI ((((8 : Int32)) * v1) + (rI M (k0 + 17) v2.toNatClampNeg))), some (aI (rI M (k0 + 7) ((((8 : Int32)) * v1) + (rI M (k0 + 17) v2.toNatClampNeg)).toNatClampNeg)), none], [aI ((1 : Int32))], M)) tc_189 rfl 2 (fun u => ⟨_, rfl⟩) ⟨trivial, trivial, trivial⟩ ?_
        exact g_Mo_test_J330 hd hw ((1 : Int32)) (some (aR 21 k0)) (some (aI v1)) (some (aI v2)) (some (aI ((((8 : Int32)) * v1) + (rI M (k0 + 17) v2.toNatClampNeg)))) (some (aI (rI M (k0 + 7) ((((8 : Int32)) * v1) + (rI M (k0 + 17) v2.toNatClampNeg)).toNatClampNeg))) none h
    · have h := h.2 hc
      show Gd d w 189 _ (308, [some (aR 21 k0), some (aI v1), some (aI v2), some (aI ((((8 : Int32)) * v1) + (rI M (k0 + 17) v2.toNatClampNeg))), some (aI (rI M (k0 + 7) ((((8 : Int32)) * v1) + (rI M (k0 + 17) v2.toNatClampNeg)).toNatClampNeg)), none], [], M)
      refine gd_s (P := True ∧ True ∧ True) (σ1 := (333, [some (aR 21 k0), some (aI v1), some (aI v2), some (aI ((((8 : Int32)) * v1) + (rI M (k0 + 17) v2.toNatClampNeg))), some (aI (rI M (k0 + 7) ((((8 : Int32)) * v1) + (rI M (k0 + 17) v2.toNatClampNeg)).toNatClampNeg)), none], [aI ((2 : Int32))], M)) tc_189 rfl 2 (fun u => ⟨_, rfl⟩) ⟨trivial, trivial, trivial⟩ ?_
      exact gd_ret tc_189 rfl rfl trivial (fun _ => rfl) ⟨_, rfl, rfl, h⟩
  have h := h.2 hc
  show Gd d w 189 _ (334, [some (aR 21 k0), some (aI v1), some (aI v2), some (aI ((((8 : Int32)) * v1) + (rI M (k0 + 17) v2.toNatClampNeg))), some (aI (rI M (k0 + 7) ((((8 : Int32)) * v1) + (rI M (k0 + 17) v2.toNatClampNeg)).toNatClampNeg)), none], [], M)
  refine gd_s (P := True ∧ True) (σ1 := (336, [some (aR 21 k0), some (aI v1), some (aI v2), some (aI ((((8 : Int32)) * v1) + (rI M (k0 + 17) v2.toNatClampNeg))), some (aI (rI M (k0 + 7) ((((8 : Int32)) * v1) + (rI M (k0 + 17) v2.toNatClampNeg)).toNatClampNeg)), none], [aI (rI M (k0 + 7) ((((8 : Int32)) * v1) + (rI M (k0 + 17) v2.toNatClampNeg)).toNatClampNeg)], M)) tc_189 rfl 1 (fun u => ⟨_, rfl⟩) ⟨trivial, trivial⟩ ?_
  refine gd_br (c := ¬ (rI M (k0 + 7) ((((8 : Int32)) * v1) + (rI M (k0 + 17) v2.toNatClampNeg)).toNatClampNeg) = ((0 : Int32))) (st1 := []) tc_189 rfl rfl (fun _ => rfl) ⟨fun hc => ?_, fun hc => ?_⟩
  · have h := h.1 hc
    show Gd d w 189 _ (343, [some (aR 21 k0), some (aI v1), some (aI v2), some (aI ((((8 : Int32)) * v1) + (rI M (k0 + 17) v2.toNatClampNeg))), some (aI (rI M (k0 + 7) ((((8 : Int32)) * v1) + (rI M (k0 + 17) v2.toNatClampNeg)).toNatClampNeg)), none], [], M)
    refine gd_s (P := True ∧ True) (σ1 := (344, [some (aR 21 k0), some (aI v1), some (aI v2), some (aI ((((8 : Int32)) * v1) + (rI M (k0 + 17) v2.toNatClampNeg))), some (aI (rI M (k0 + 7) ((((8 : Int32)) * v1) + (rI M (k0 + 17) v2.toNatClampNeg)).toNatClampNeg)), none], [aI ((0 : Int32))], M)) tc_189 rfl 1 (fun u => ⟨_, rfl⟩) ⟨trivial, trivial⟩ ?_
    exact g_Mo_test_J344 hd hw ((0 : Int32)) (some (aR 21 k0)) (some (aI v1)) (some (aI v2)) (some (aI ((((8 : Int32)) * v1) + (rI M (k0 + 17) v2.toNatClampNeg)))) (some (aI (rI M (k0 + 7) ((((8 : Int32)) * v1) + (rI M (k0 + 17) v2.toNatClampNeg)).toNatClampNeg))) none h
  · have h := h.2 hc
    show Gd d w 189 _ (339, [some (aR 21 k0), some (aI v1), some (aI v2), some (aI ((((8 : Int32)) * v1) + (rI M (k0 + 17) v2.toNatClampNeg))), some (aI (rI M (k0 + 7) ((((8 : Int32)) * v1) + (rI M (k0 + 17) v2.toNatClampNeg)).toNatClampNeg)), none], [], M)
    refine gd_s (P := True ∧ True ∧ True) (σ1 := (344, [some (aR 21 k0), some (aI v1), some (aI v2), some (aI ((((8 : Int32)) * v1) + (rI M (k0 + 17) v2.toNatClampNeg))), some (aI (rI M (k0 + 7) ((((8 : Int32)) * v1) + (rI M (k0 + 17) v2.toNatClampNeg)).toNatClampNeg)), none], [aI ((1 : Int32))], M)) tc_189 rfl 2 (fun u => ⟨_, rfl⟩) ⟨trivial, trivial, trivial⟩ ?_
    exact g_Mo_test_J344 hd hw ((1 : Int32)) (some (aR 21 k0)) (some (aI v1)) (some (aI v2)) (some (aI ((((8 : Int32)) * v1) + (rI M (k0 + 17) v2.toNatClampNeg)))) (some (aI (rI M (k0 + 7) ((((8 : Int32)) * v1) + (rI M (k0 + 17) v2.toNatClampNeg)).toNatClampNeg))) none h
theorem tc_188 : tC 188 = c188 := rfl
def w_Mo_work_J138 (post : aM → Prop) (k0 : Nat) (v2 : Int32) (s0 : Int32) (M : aM) : Prop := (vp_in v2 (rK M (k0 + 36)).2) ∧ post (wI M (k0 + 36) v2.toNatClampNeg s0)
theorem g_Mo_work_J138 {d w : Nat} (hd : 2 ≤ d) (hw : 48 ≤ w) {post : aM → Prop} (k0 : Nat) (v2 : Int32) (s0 : Int32) (o1 o3 o4 o5 o6 o7 o8 : Option aV) (M : aM) (h : w_Mo_work_J138 post k0 v2 s0 M) : Gd d w 188 (pV post) (138, [some (aR 21 k0), o1, some (aI v2), o3, o4, o5, o6, o7, o8], [aI s0], M) := by
  unfold w_Mo_work_J138 at h
  show Gd d w 188 _ (138, [some (aR 21 k0), o1, some (aI v2), o3, o4, o5, o6, o7, o8], [aI s0], M)
  obtain ⟨c0, h⟩ := h
  refine gd_s (P := True ∧ True ∧ True ∧ True ∧ True ∧ True ∧ (vp_in v2 (rK M (k0 + 36)).2) ∧ True) (σ1 := (290, [some (aR 21 k0), o1, some (aI v2), o3, some (aI s0), o5, o6, o7, o8], [], wI M (k0 + 36) v2.toNatClampNeg s0)) tc_188 rfl 7 (fun u => ⟨_, rfl⟩) ⟨trivial, trivial, trivial, trivial, trivial, trivial, c0, trivial⟩ ?_
  exact gd_ret tc_188 rfl rfl trivial (fun _ => rfl) ⟨rfl, h⟩
def w_Mo_work_J269 (post : aM → Prop) (k0 : Nat) (v2 : Int32) (s0 : Int32) (M : aM) : Prop := (vp_in v2 (rK M (k0 + 36)).2) ∧ post (wI M (k0 + 36) v2.toNatClampNeg s0)
theorem g_Mo_work_J269 {d w : Nat} (hd : 2 ≤ d) (hw : 48 ≤ w) {post : aM → Prop} (k0 : Nat) (v2 : Int32) (s0 : Int32) (o1 o3 o4 o5 o6 o7 o8 : Option aV) (M : aM) (h : w_Mo_work_J269 post k0 v2 s0 M) : Gd d w 188 (pV post) (269, [some (aR 21 k0), o1, some (aI v2), o3, o4, o5, o6, o7, o8], [aI s0], M) := by
  unfold w_Mo_work_J269 at h
  show Gd d w 188 _ (269, [some (aR 21 k0), o1, some (aI v2), o3, o4, o5, o6, o7, o8], [aI s0], M)
  obtain ⟨c0, h⟩ := h
  refine gd_s (P := True ∧ True ∧ True ∧ True ∧ True ∧ True ∧ (vp_in v2 (rK M (k0 + 36)).2) ∧ True) (σ1 := (290, [some (aR 21 k0), o1, some (aI v2), o3, some (aI s0), o5, o6, o7, o8], [], wI M (k0 + 36) v2.toNatClampNeg s0)) tc_188 rfl 7 (fun u => ⟨_, rfl⟩) ⟨trivial, trivial, trivial, trivial, trivial, trivial, c0, trivial⟩ ?_
  exact gd_ret tc_188 rfl rfl trivial (fun _ => rfl) ⟨rfl, h⟩
def w_Mo_work_J226 (post : aM → Prop) (K175 : Nat → Int32 → Int32 → Int32 → Int32 → Int32 → Int32 → aM → Prop) (k0 : Nat) (v1 : Int32) (v2 : Int32) (v5 : Int32) (v7 : Int32) (v8 : Int32) (s0 : Int32) (M : aM) : Prop := (vp_in ((((400 : Int32)) * v1) + v8) (rK M (k0 + 21)).2) ∧ (K175 k0 v1 v2 v5 s0 v7 (rI M (k0 + 21) ((((400 : Int32)) * v1) + v8).toNatClampNeg) M)
theorem g_Mo_work_J226 {d w : Nat} (hd : 2 ≤ d) (hw : 48 ≤ w) {post : aM → Prop} {K175 : Nat → Int32 → Int32 → Int32 → Int32 → Int32 → Int32 → aM → Prop} (hK175 : ∀ (k0 : Nat) (v1 : Int32) (v2 : Int32) (v5 : Int32) (v6 : Int32) (v7 : Int32) (v8 : Int32) (o3 o4 : Option aV) (M : aM), K175 k0 v1 v2 v5 v6 v7 v8 M → Gd d w 188 (pV post) (175, [some (aR 21 k0), some (aI v1), some (aI v2), o3, o4, some (aI v5), some (aI v6), some (aI v7), some (aI v8)], [], M)) (k0 : Nat) (v1 : Int32) (v2 : Int32) (v5 : Int32) (v7 : Int32) (v8 : Int32) (s0 : Int32) (o3 o4 o6 : Option aV) (M : aM) (h : w_Mo_work_J226 post K175 k0 v1 v2 v5 v7 v8 s0 M) : Gd d w 188 (pV post) (226, [some (aR 21 k0), some (aI v1), some (aI v2), o3, o4, some (aI v5), o6, some (aI v7), some (aI v8)], [aI s0], M) := by
  unfold w_Mo_work_J226 at h
  show Gd d w 188 _ (226, [some (aR 21 k0), some (aI v1), some (aI v2), o3, o4, some (aI v5), o6, some (aI v7), some (aI v8)], [aI s0], M)
  obtain ⟨c0, h⟩ := h
  refine gd_s (P := True ∧ True ∧ True ∧ True ∧ True ∧ True ∧ True ∧ True ∧ (vp_in ((((400 : Int32)) * v1) + v8) (rK M (k0 + 21)).2) ∧ True ∧ True ∧ True) (σ1 := (175, [some (aR 21 k0), some (aI v1), some (aI v2), o3, o4, some (aI v5), some (aI s0), some (aI v7), some (aI (rI M (k0 + 21) ((((400 : Int32)) * v1) + v8).toNatClampNeg))], [], M)) tc_188 rfl 11 (fun u => ⟨_, rfl⟩) ⟨trivial, trivial, trivial, trivial, trivial, trivial, trivial, trivial, c0, trivial, trivial, trivial⟩ ?_
  exact hK175 k0 v1 v2 v5 s0 v7 (rI M (k0 + 21) ((((400 : Int32)) * v1) + v8).toNatClampNeg) o3 o4 M h
def w_Mo_work_J221 (post : aM → Prop) (K175 : Nat → Int32 → Int32 → Int32 → Int32 → Int32 → Int32 → aM → Prop) (k0 : Nat) (v1 : Int32) (v2 : Int32) (v5 : Int32) (v7 : Int32) (v8 : Int32) (M : aM) : Prop := w_Mo_work_J226 post K175 k0 v1 v2 v5 v7 v8 ((1 : Int32)) M
theorem g_Mo_work_J221 {d w : Nat} (hd : 2 ≤ d) (hw : 48 ≤ w) {post : aM → Prop} {K175 : Nat → Int32 → Int32 → Int32 → Int32 → Int32 → Int32 → aM → Prop} (hK175 : ∀ (k0 : Nat) (v1 : Int32) (v2 : Int32) (v5 : Int32) (v6 : Int32) (v7 : Int32) (v8 : Int32) (o3 o4 : Option aV) (M : aM), K175 k0 v1 v2 v5 v6 v7 v8 M → Gd d w 188 (pV post) (175, [some (aR 21 k0), some (aI v1), some (aI v2), o3, o4, some (aI v5), some (aI v6), some (aI v7), some (aI v8)], [], M)) (k0 : Nat) (v1 : Int32) (v2 : Int32) (v5 : Int32) (v7 : Int32) (v8 : Int32) (o3 o4 o6 : Option aV) (M : aM) (h : w_Mo_work_J221 post K175 k0 v1 v2 v5 v7 v8 M) : Gd d w 188 (pV post) (221, [some (aR 21 k0), some (aI v1), some (aI v2), o3, o4, some (aI v5), o6, some (aI v7), some (aI v8)], [], M) := by
  unfold w_Mo_work_J221 at h
  show Gd d w 188 _ (221, [some (aR 21 k0), some (aI v1), some (aI v2), o3, o4, some (aI v5), o6, some (aI v7), some (aI v8)], [], M)
  refine gd_s (P := True ∧ True ∧ True) (σ1 := (226, [some (aR 21 k0), some (aI v1), some (aI v2), o3, o4, some (aI v5), o6, some (aI v7), some (aI v8)], [aI ((1 : Int32))], M)) tc_188 rfl 2 (fun u => ⟨_, rfl⟩) ⟨trivial, trivial, trivial⟩ ?_
  exact g_Mo_work_J226 hd hw hK175 k0 v1 v2 v5 v7 v8 ((1 : Int32)) o3 o4 o6 M h
def w_Mo_work_J203 (post : aM → Prop) (K175 : Nat → Int32 → Int32 → Int32 → Int32 → Int32 → Int32 → aM → Prop) (k0 : Nat) (v1 : Int32) (v2 : Int32) (v6 : Int32) (v7 : Int32) (v8 : Int32) (s0 : Int32) (M : aM) : Prop := ((¬ v6 = ((0 : Int32))) → w_Mo_work_J221 post K175 k0 v1 v2 s0 v7 v8 M) ∧ (¬ (¬ v6 = ((0 : Int32))) → (vp_in v8 (rK M (k0 + 36)).2) ∧ (((¬ (rI M (k0 + 36) v8.toNatClampNeg) = ((2 : Int32))) → w_Mo_work_J226 post K175 k0 v1 v2 s0 v7 v8 ((0 : Int32)) M) ∧ (¬ (¬ (rI M (k0 + 36) v8.toNatClampNeg) = ((2 : Int32))) → w_Mo_work_J221 post K175 k0 v1 v2 s0 v7 v8 M)))
theorem g_Mo_work_J203 {d w : Nat} (hd : 2 ≤ d) (hw : 48 ≤ w) {post : aM → Prop} {K175 : Nat → Int32 → Int32 → Int32 → Int32 → Int32 → Int32 → aM → Prop} (hK175 : ∀ (k0 : Nat) (v1 : Int32) (v2 : Int32) (v5 : Int32) (v6 : Int32) (v7 : Int32) (v8 : Int32) (o3 o4 : Option aV) (M : aM), K175 k0 v1 v2 v5 v6 v7 v8 M → Gd d w 188 (pV post) (175, [some (aR 21 k0), some (aI v1), some (aI v2), o3, o4, some (aI v5), some (aI v6), some (aI v7), some (aI v8)], [], M)) (k0 : Nat) (v1 : Int32) (v2 : Int32) (v6 : Int32) (v7 : Int32) (v8 : Int32) (s0 : Int32) (o3 o4 o5 : Option aV) (M : aM) (h : w_Mo_work_J203 post K175 k0 v1 v2 v6 v7 v8 s0 M) : Gd d w 188 (pV post) (203, [some (aR 21 k0), some (aI v1), some (aI v2), o3, o4, o5, some (aI v6), some (aI v7), some (aI v8)], [aI s0], M) := by
  unfold w_Mo_work_J203 at h
  show Gd d w 188 _ (203, [some (aR 21 k0), some (aI v1), some (aI v2), o3, o4, o5, some (aI v6), some (aI v7), some (aI v8)], [aI s0], M)
  refine gd_s (P := True ∧ True ∧ True) (σ1 := (207, [some (aR 21 k0), some (aI v1), some (aI v2), o3, o4, some (aI s0), some (aI v6), some (aI v7), some (aI v8)], [aI v6], M)) tc_188 rfl 2 (fun u => ⟨_, rfl⟩) ⟨trivial, trivial, trivial⟩ ?_
  refine gd_br (c := ¬ v6 = ((0 : Int32))) (st1 := []) tc_188 rfl rfl (fun _ => rfl) ⟨fun hc => ?_, fun hc => ?_⟩
  · have h := h.1 hc
    exact g_Mo_work_J221 hd hw hK175 k0 v1 v2 s0 v7 v8 o3 o4 (some (aI v6)) M h
  · have h := h.2 hc
    show Gd d w 188 _ (210, [some (aR 21 k0), some (aI v1), some (aI v2), o3, o4, some (aI s0), some (aI v6), some (aI v7), some (aI v8)], [], M)
    obtain ⟨c0, h⟩ := h
    refine gd_s (P := True ∧ True ∧ True ∧ (vp_in v8 (rK M (k0 + 36)).2) ∧ True ∧ True) (σ1 := (218, [some (aR 21 k0), some (aI v1), some (aI v2), o3, o4, some (aI s0), some (aI v6), some (aI v7), some (aI v8)], [aI ((2 : Int32)), aI (rI M (k0 + 36) v8.toNatClampNeg)], M)) tc_188 rfl 5 (fun u => ⟨_, rfl⟩) ⟨trivial, trivial, trivial, c0, trivial, trivial⟩ ?_
    refine gd_br (c := ¬ (rI M (k0 + 36) v8.toNatClampNeg) = ((2 : Int32))) (st1 := []) tc_188 rfl rfl (fun _ => rfl) ⟨fun hc => ?_, fun hc => ?_⟩
    · have h := h.1 hc
      show Gd d w 188 _ (225, [some (aR 21 k0), some (aI v1), some (aI v2), o3, o4, some (aI s0), some (aI v6), some (aI v7), some (aI v8)], [], M)
      refine gd_s (P := True ∧ True) (σ1 := (226, [some (aR 21 k0), some (aI v1), some (aI v2), o3, o4, some (aI s0), some (aI v6), some (aI v7), some (aI v8)], [aI ((0 : Int32))], M)) tc_188 rfl 1 (fun u => ⟨_, rfl⟩) ⟨trivial, trivial⟩ ?_
      exact g_Mo_work_J226 hd hw hK175 k0 v1 v2 s0 v7 v8 ((0 : Int32)) o3 o4 (some (aI v6)) M h
    · have h := h.2 hc
      exact g_Mo_work_J221 hd hw hK175 k0 v1 v2 s0 v7 v8 o3 o4 (some (aI v6)) M h
def w_Mo_work_J198 (post : aM → Prop) (K175 : Nat → Int32 → Int32 → Int32 → Int32 → Int32 → Int32 → aM → Prop) (k0 : Nat) (v1 : Int32) (v2 : Int32) (v6 : Int32) (v7 : Int32) (v8 : Int32) (M : aM) : Prop := w_Mo_work_J203 post K175 k0 v1 v2 v6 v7 v8 ((1 : Int32)) M
theorem g_Mo_work_J198 {d w : Nat} (hd : 2 ≤ d) (hw : 48 ≤ w) {post : aM → Prop} {K175 : Nat → Int32 → Int32 → Int32 → Int32 → Int32 → Int32 → aM → Prop} (hK175 : ∀ (k0 : Nat) (v1 : Int32) (v2 : Int32) (v5 : Int32) (v6 : Int32) (v7 : Int32) (v8 : Int32) (o3 o4 : Option aV) (M : aM), K175 k0 v1 v2 v5 v6 v7 v8 M → Gd d w 188 (pV post) (175, [some (aR 21 k0), some (aI v1), some (aI v2), o3, o4, some (aI v5), some (aI v6), some (aI v7), some (aI v8)], [], M)) (k0 : Nat) (v1 : Int32) (v2 : Int32) (v6 : Int32) (v7 : Int32) (v8 : Int32) (o3 o4 o5 : Option aV) (M : aM) (h : w_Mo_work_J198 post K175 k0 v1 v2 v6 v7 v8 M) : Gd d w 188 (pV post) (198, [some (aR 21 k0), some (aI v1), some (aI v2), o3, o4, o5, some (aI v6), some (aI v7), some (aI v8)], [], M) := by
  unfold w_Mo_work_J198 at h
  show Gd d w 188 _ (198, [some (aR 21 k0), some (aI v1), some (aI v2), o3, o4, o5, some (aI v6), some (aI v7), some (aI v8)], [], M)
  refine gd_s (P := True ∧ True ∧ True) (σ1 := (203, [some (aR 21 k0), some (aI v1), some (aI v2), o3, o4, o5, some (aI v6), some (aI v7), some (aI v8)], [aI ((1 : Int32))], M)) tc_188 rfl 2 (fun u => ⟨_, rfl⟩) ⟨trivial, trivial, trivial⟩ ?_
  exact g_Mo_work_J203 hd hw hK175 k0 v1 v2 v6 v7 v8 ((1 : Int32)) o3 o4 o5 M h
def w_Mo_work_L175 (post : aM → Prop) : Nat → Nat → Int32 → Int32 → Int32 → Int32 → Int32 → Int32 → aM → Prop
  | 0, _, _, _, _, _, _, _, _ => False
  | n + 1, k0, v1, v2, v5, v6, v7, v8, M => ((v8 = ((-1 : Int32))) → ((v5 = ((0 : Int32))) → ((v6 = ((0 : Int32))) → w_Mo_work_J269 post k0 v2 (((1 : Int32)) - v7) M) ∧ (¬ (v6 = ((0 : Int32))) → w_Mo_work_J269 post k0 v2 ((2 : Int32)) M)) ∧ (¬ (v5 = ((0 : Int32))) → w_Mo_work_J269 post k0 v2 v7 M)) ∧ (¬ (v8 = ((-1 : Int32))) → ((¬ v5 = ((0 : Int32))) → w_Mo_work_J198 post (w_Mo_work_L175 post n) k0 v1 v2 v6 v7 v8 M) ∧ (¬ (¬ v5 = ((0 : Int32))) → (vp_in v8 (rK M (k0 + 36)).2) ∧ (((¬ (rI M (k0 + 36) v8.toNatClampNeg) = v7) → w_Mo_work_J203 post (w_Mo_work_L175 post n) k0 v1 v2 v6 v7 v8 ((0 : Int32)) M) ∧ (¬ (¬ (rI M (k0 + 36) v8.toNatClampNeg) = v7) → w_Mo_work_J198 post (w_Mo_work_L175 post n) k0 v1 v2 v6 v7 v8 M))))
theorem g_Mo_work_L175 {d w : Nat} (hd : 2 ≤ d) (hw : 48 ≤ w) {post : aM → Prop} : ∀ (n : Nat) (k0 : Nat) (v1 : Int32) (v2 : Int32) (v5 : Int32) (v6 : Int32) (v7 : Int32) (v8 : Int32) (o3 o4 : Option aV) (M : aM), w_Mo_work_L175 post n k0 v1 v2 v5 v6 v7 v8 M → Gd d w 188 (pV post) (175, [some (aR 21 k0), some (aI v1), some (aI v2), o3, o4, some (aI v5), some (aI v6), some (aI v7), some (aI v8)], [], M) := by
  intro n
  induction n with
  | zero => intro k0 v1 v2 v5 v6 v7 v8 o3 o4 M h; exact h.elim
  | succ n ih =>
    intro k0 v1 v2 v5 v6 v7 v8 o3 o4 M h
    show Gd d w 188 _ (175, [some (aR 21 k0), some (aI v1), some (aI v2), o3, o4, some (aI v5), some (aI v6), some (aI v7), some (aI v8)], [], M)
    refine gd_s (P := True ∧ True ∧ True) (σ1 := (178, [some (aR 21 k0), some (aI v1), some (aI v2), o3, o4, some (aI v5), some (aI v6), some (aI v7), some (aI v8)], [aI ((-1 : Int32)), aI v8], M)) tc_188 rfl 2 (fun u => ⟨_, rfl⟩) ⟨trivial, trivial, trivial⟩ ?_
    refine gd_br (c := v8 = ((-1 : Int32))) (st1 := []) tc_188 rfl rfl (fun _ => rfl) ⟨fun hc => ?_, fun hc => ?_⟩
    · have h := h.1 hc
      show Gd d w 188 _ (246, [some (aR 21 k0), some (aI v1), some (aI v2), o3, o4, some (aI v5), some (aI v6), some (aI v7), some (aI v8)], [], M)
      refine gd_s (P := True ∧ True) (σ1 := (248, [some (aR 21 k0), some (aI v1), some (aI v2), o3, o4, some (aI v5), some (aI v6), some (aI v7), some (aI v8)], [aI v5], M)) tc_188 rfl 1 (fun u => ⟨_, rfl⟩) ⟨trivial, trivial⟩ ?_
      refine gd_br (c := v5 = ((0 : Int32))) (st1 := []) tc_188 rfl rfl (fun _ => rfl) ⟨fun hc => ?_, fun hc => ?_⟩
      · have h := h.1 hc
        show Gd d w 188 _ (256, [some (aR 21 k0), some (aI v1), some (aI v2), o3, o4, some (aI v5), some (aI v6), some (aI v7), some (aI v8)], [], M)
        refine gd_s (P := True ∧ True) (σ1 := (258, [some (aR 21 k0), some (aI v1), some (aI v2), o3, o4, some (aI v5), some (aI v6), some (aI v7), some (aI v8)], [aI v6], M)) tc_188 rfl 1 (fun u => ⟨_, rfl⟩) ⟨trivial, trivial⟩ ?_
        refine gd_br (c := v6 = ((0 : Int32))) (st1 := []) tc_188 rfl rfl (fun _ => rfl) ⟨fun hc => ?_, fun hc => ?_⟩
        · have h := h.1 hc
          show Gd d w 188 _ (265, [some (aR 21 k0), some (aI v1), some (aI v2), o3, o4, some (aI v5), some (aI v6), some (aI v7), some (aI v8)], [], M)
          refine gd_s (P := True ∧ True ∧ True ∧ True) (σ1 := (269, [some (aR 21 k0), some (aI v1), some (aI v2), o3, o4, some (aI v5), some (aI v6), some (aI v7), some (aI v8)], [aI (((1 : Int32)) - v7)], M)) tc_188 rfl 3 (fun u => ⟨_, rfl⟩) ⟨trivial, trivial, trivial, trivial⟩ ?_
          exact g_Mo_work_J269 hd hw k0 v2 (((1 : Int32)) - v7) (some (aI v1)) o3 o4 (some (aI v5)) (some (aI v6)) (some (aI v7)) (some (aI v8)) M h
        · have h := h.2 hc
          show Gd d w 188 _ (261, [some (aR 21 k0), some (aI v1), some (aI v2), o3, o4, some (aI v5), some (aI v6), some (aI v7), some (aI v8)], [], M)
          refine gd_s (P := True ∧ True ∧ True) (σ1 := (269, [some (aR 21 k0), some (aI v1), some (aI v2), o3, o4, some (aI v5), some (aI v6), some (aI v7), some (aI v8)], [aI ((2 : Int32))], M)) tc_188 rfl 2 (fun u => ⟨_, rfl⟩) ⟨trivial, trivial, trivial⟩ ?_
          exact g_Mo_work_J269 hd hw k0 v2 ((2 : Int32)) (some (aI v1)) o3 o4 (some (aI v5)) (some (aI v6)) (some (aI v7)) (some (aI v8)) M h
      · have h := h.2 hc
        show Gd d w 188 _ (251, [some (aR 21 k0), some (aI v1), some (aI v2), o3, o4, some (aI v5), some (aI v6), some (aI v7), some (aI v8)], [], M)
        refine gd_s (P := True ∧ True ∧ True) (σ1 := (269, [some (aR 21 k0), some (aI v1), some (aI v2), o3, o4, some (aI v5), some (aI v6), some (aI v7), some (aI v8)], [aI v7], M)) tc_188 rfl 2 (fun u => ⟨_, rfl⟩) ⟨trivial, trivial, trivial⟩ ?_
        exact g_Mo_work_J269 hd hw k0 v2 v7 (some (aI v1)) o3 o4 (some (aI v5)) (some (aI v6)) (some (aI v7)) (some (aI v8)) M h
    · have h := h.2 hc
      show Gd d w 188 _ (181, [some (aR 21 k0), some (aI v1), some (aI v2), o3, o4, some (aI v5), some (aI v6), some (aI v7), some (aI v8)], [], M)
      refine gd_s (P := True ∧ True) (σ1 := (183, [some (aR 21 k0), some (aI v1), some (aI v2), o3, o4, some (aI v5), some (aI v6), some (aI v7), some (aI v8)], [aI v5], M)) tc_188 rfl 1 (fun u => ⟨_, rfl⟩) ⟨trivial, trivial⟩ ?_
      refine gd_br (c := ¬ v5 = ((0 : Int32))) (st1 := []) tc_188 rfl rfl (fun _ => rfl) ⟨fun hc => ?_, fun hc => ?_⟩
      · have h := h.1 hc
        exact g_Mo_work_J198 hd hw ih k0 v1 v2 v6 v7 v8 o3 o4 (some (aI v5)) M h
      · have h := h.2 hc
        show Gd d w 188 _ (186, [some (aR 21 k0), some (aI v1), some (aI v2), o3, o4, some (aI v5), some (aI v6), some (aI v7), some (aI v8)], [], M)
        obtain ⟨c0, h⟩ := h
        refine gd_s (P := True ∧ True ∧ True ∧ (vp_in v8 (rK M (k0 + 36)).2) ∧ True ∧ True) (σ1 := (195, [some (aR 21 k0), some (aI v1), some (aI v2), o3, o4, some (aI v5), some (aI v6), some (aI v7), some (aI v8)], [aI v7, aI (rI M (k0 + 36) v8.toNatClampNeg)], M)) tc_188 rfl 5 (fun u => ⟨_, rfl⟩) ⟨trivial, trivial, trivial, c0, trivial, trivial⟩ ?_
        refine gd_br (c := ¬ (rI M (k0 + 36) v8.toNatClampNeg) = v7) (st1 := []) tc_188 rfl rfl (fun _ => rfl) ⟨fun hc => ?_, fun hc => ?_⟩
        · have h := h.1 hc
          show Gd d w 188 _ (202, [some (aR 21 k0), some (aI v1), some (aI v2), o3, o4, some (aI v5), some (aI v6), some (aI v7), some (aI v8)], [], M)
          refine gd_s (P := True ∧ True) (σ1 := (203, [some (aR 21 k0), some (aI v1), some (aI v2), o3, o4, some (aI v5), some (aI v6), some (aI v7), some (aI v8)], [aI ((0 : Int32))], M)) tc_188 rfl 1 (fun u => ⟨_, rfl⟩) ⟨trivial, trivial⟩ ?_
          exact g_Mo_work_J203 hd hw ih k0 v1 v2 v6 v7 v8 ((0 : Int32)) o3 o4 (some (aI v5)) M h
        · have h := h.2 hc
          exact g_Mo_work_J198 hd hw ih k0 v1 v2 v6 v7 v8 o3 o4 (some (aI v5)) M h
def w_Mo_work_J165 (post : aM → Prop) (k0 : Nat) (v1 : Int32) (v2 : Int32) (v3 : Int32) (v5 : Int32) (v6 : Int32) (s0 : Int32) (M : aM) : Prop := (vp_in v3 (rK M (k0 + 20)).2) ∧ (∃ n9, w_Mo_work_L175 post n9 k0 v1 v2 v5 v6 s0 (rI M (k0 + 20) v3.toNatClampNeg) M)
theorem g_Mo_work_J165 {d w : Nat} (hd : 2 ≤ d) (hw : 48 ≤ w) {post : aM → Prop} (k0 : Nat) (v1 : Int32) (v2 : Int32) (v3 : Int32) (v5 : Int32) (v6 : Int32) (s0 : Int32) (o4 o7 o8 : Option aV) (M : aM) (h : w_Mo_work_J165 post k0 v1 v2 v3 v5 v6 s0 M) : Gd d w 188 (pV post) (165, [some (aR 21 k0), some (aI v1), some (aI v2), some (aI v3), o4, some (aI v5), some (aI v6), o7, o8], [aI s0], M) := by
  unfold w_Mo_work_J165 at h
  show Gd d w 188 _ (165, [some (aR 21 k0), some (aI v1), some (aI v2), some (aI v3), o4, some (aI v5), some (aI v6), o7, o8], [aI s0], M)
  obtain ⟨c0, h⟩ := h
  refine gd_s (P := True ∧ True ∧ True ∧ True ∧ (vp_in v3 (rK M (k0 + 20)).2) ∧ True ∧ True) (σ1 := (175, [some (aR 21 k0), some (aI v1), some (aI v2), some (aI v3), o4, some (aI v5), some (aI v6), some (aI s0), some (aI (rI M (k0 + 20) v3.toNatClampNeg))], [], M)) tc_188 rfl 6 (fun u => ⟨_, rfl⟩) ⟨trivial, trivial, trivial, trivial, c0, trivial, trivial⟩ ?_
  obtain ⟨n9, h⟩ := h
  exact g_Mo_work_L175 hd hw n9 k0 v1 v2 v5 v6 s0 (rI M (k0 + 20) v3.toNatClampNeg) (some (aI v3)) o4 M h
/-- PolicyJudgeModel.work(II)V -/
def w_Mo_work (post : aM → Prop) (k0 : Nat) (v1 : Int32) (v2 : Int32) (M : aM) : Prop := (vp_in ((((400 : Int32)) * v1) + v2) (rK M (k0 + 16)).2) ∧ ((((rI M (k0 + 16) ((((400 : Int32)) * v1) + v2).toNatClampNeg) = (0 : Int32)) → (vp_in v2 (rK M (k0 + 36)).2) ∧ post (wI M (k0 + 36) v2.toNatClampNeg ((1 : Int32)))) ∧ (¬ ((rI M (k0 + 16) ((((400 : Int32)) * v1) + v2).toNatClampNeg) = (0 : Int32)) → (((rI M (k0 + 16) ((((400 : Int32)) * v1) + v2).toNatClampNeg) = (1 : Int32)) → (vp_in v2 (rK M (k0 + 36)).2) ∧ post (wI M (k0 + 36) v2.toNatClampNeg ((0 : Int32)))) ∧ (¬ ((rI M (k0 + 16) ((((400 : Int32)) * v1) + v2).toNatClampNeg) = (1 : Int32)) → (((rI M (k0 + 16) ((((400 : Int32)) * v1) + v2).toNatClampNeg) = (2 : Int32)) → (vp_in v2 (rK M (k0 + 36)).2) ∧ post (wI M (k0 + 36) v2.toNatClampNeg ((2 : Int32)))) ∧ (¬ ((rI M (k0 + 16) ((((400 : Int32)) * v1) + v2).toNatClampNeg) = (2 : Int32)) → (((rI M (k0 + 16) ((((400 : Int32)) * v1) + v2).toNatClampNeg) = (3 : Int32)) → w_Mo_test (fun x1 => (vp_in v2 (rK M (k0 + 36)).2) ∧ post (wI M (k0 + 36) v2.toNatClampNeg x1)) k0 v1 ((((400 : Int32)) * v1) + v2) M) ∧ (¬ ((rI M (k0 + 16) ((((400 : Int32)) * v1) + v2).toNatClampNeg) = (3 : Int32)) → (((rI M (k0 + 16) ((((400 : Int32)) * v1) + v2).toNatClampNeg) = (4 : Int32)) → w_Mo_test (fun x2 => (vp_in v2 (rK M (k0 + 36)).2) ∧ post (wI M (k0 + 36) v2.toNatClampNeg x2)) k0 v1 ((((400 : Int32)) * v1) + v2) M) ∧ (¬ ((rI M (k0 + 16) ((((400 : Int32)) * v1) + v2).toNatClampNeg) = (4 : Int32)) → (((rI M (k0 + 16) ((((400 : Int32)) * v1) + v2).toNatClampNeg) = (5 : Int32)) → w_Mo_test (fun x3 => (vp_in v2 (rK M (k0 + 36)).2) ∧ post (wI M (k0 + 36) v2.toNatClampNeg x3)) k0 v1 ((((400 : Int32)) * v1) + v2) M) ∧ (¬ ((rI M (k0 + 16) ((((400 : Int32)) * v1) + v2).toNatClampNeg) = (5 : Int32)) → (((rI M (k0 + 16) ((((400 : Int32)) * v1) + v2).toNatClampNeg) = (6 : Int32)) → w_Mo_test (fun x4 => (vp_in v2 (rK M (k0 + 36)).2) ∧ post (wI M (k0 + 36) v2.toNatClampNeg x4)) k0 v1 ((((400 : Int32)) * v1) + v2) M) ∧ (¬ ((rI M (k0 + 16) ((((400 : Int32)) * v1) + v2).toNatClampNeg) = (6 : Int32)) → (((rI M (k0 + 16) ((((400 : Int32)) * v1) + v2).toNatClampNeg) = (7 : Int32)) → w_Mo_test (fun x5 => (vp_in v2 (rK M (k0 + 36)).2) ∧ post (wI M (k0 + 36) v2.toNatClampNeg x5)) k0 v1 ((((400 : Int32)) * v1) + v2) M) ∧ (¬ ((rI M (k0 + 16) ((((400 : Int32)) * v1) + v2).toNatClampNeg) = (7 : Int32)) → (((rI M (k0 + 16) ((((400 : Int32)) * v1) + v2).toNatClampNeg) = (8 : Int32)) → w_Mo_test (fun x6 => (vp_in v2 (rK M (k0 + 36)).2) ∧ post (wI M (k0 + 36) v2.toNatClampNeg x6)) k0 v1 ((((400 : Int32)) * v1) + v2) M) ∧ (¬ ((rI M (k0 + 16) ((((400 : Int32)) * v1) + v2).toNatClampNeg) = (8 : Int32)) → (((rI M (k0 + 16) ((((400 : Int32)) * v1) + v2).toNatClampNeg) = (9 : Int32)) → w_Mo_test (fun x7 => (vp_in v2 (rK M (k0 + 36)).2) ∧ post (wI M (k0 + 36) v2.toNatClampNeg x7)) k0 v1 ((((400 : Int32)) * v1) + v2) M) ∧ (¬ ((rI M (k0 + 16) ((((400 : Int32)) * v1) + v2).toNatClampNeg) = (9 : Int32)) → (((rI M (k0 + 16) ((((400 : Int32)) * v1) + v2).toNatClampNeg) = (10 : Int32)) → w_Mo_test (fun x8 => (vp_in v2 (rK M (k0 + 36)).2) ∧ post (wI M (k0 + 36) v2.toNatClampNeg x8)) k0 v1 ((((400 : Int32)) * v1) + v2) M) ∧ (¬ ((rI M (k0 + 16) ((((400 : Int32)) * v1) + v2).toNatClampNeg) = (10 : Int32)) → (((rI M (k0 + 16) ((((400 : Int32)) * v1) + v2).toNatClampNeg) = (11 : Int32)) → w_Mo_test (fun x9 => (vp_in v2 (rK M (k0 + 36)).2) ∧ post (wI M (k0 + 36) v2.toNatClampNeg x9)) k0 v1 ((((400 : Int32)) * v1) + v2) M) ∧ (¬ ((rI M (k0 + 16) ((((400 : Int32)) * v1) + v2).toNatClampNeg) = (11 : Int32)) → (((rI M (k0 + 16) ((((400 : Int32)) * v1) + v2).toNatClampNeg) = (12 : Int32)) → (vp_in ((((400 : Int32)) * v1) + v2) (rK M (k0 + 20)).2) ∧ (vp_in (rI M (k0 + 20) ((((400 : Int32)) * v1) + v2).toNatClampNeg) (rK M (k0 + 36)).2) ∧ (((¬ (rI M (k0 + 36) (rI M (k0 + 20) ((((400 : Int32)) * v1) + v2).toNatClampNeg).toNatClampNeg) = ((2 : Int32))) → (vp_in ((((400 : Int32)) * v1) + v2) (rK M (k0 + 20)).2) ∧ (vp_in (rI M (k0 + 20) ((((400 : Int32)) * v1) + v2).toNatClampNeg) (rK M (k0 + 36)).2) ∧ (w_Mo_work_J138 post k0 v2 (((1 : Int32)) - (rI M (k0 + 36) (rI M (k0 + 20) ((((400 : Int32)) * v1) + v2).toNatClampNeg).toNatClampNeg)) M)) ∧ (¬ (¬ (rI M (k0 + 36) (rI M (k0 + 20) ((((400 : Int32)) * v1) + v2).toNatClampNeg).toNatClampNeg) = ((2 : Int32))) → w_Mo_work_J138 post k0 v2 ((2 : Int32)) M))) ∧ (¬ ((rI M (k0 + 16) ((((400 : Int32)) * v1) + v2).toNatClampNeg) = (12 : Int32)) → (((rI M (k0 + 16) ((((400 : Int32)) * v1) + v2).toNatClampNeg) = (13 : Int32)) → (vp_in ((((400 : Int32)) * v1) + v2) (rK M (k0 + 16)).2) ∧ (((¬ (rI M (k0 + 16) ((((400 : Int32)) * v1) + v2).toNatClampNeg) = ((13 : Int32))) → w_Mo_work_J165 post k0 v1 v2 ((((400 : Int32)) * v1) + v2) ((0 : Int32)) ((0 : Int32)) ((0 : Int32)) M) ∧ (¬ (¬ (rI M (k0 + 16) ((((400 : Int32)) * v1) + v2).toNatClampNeg) = ((13 : Int32))) → w_Mo_work_J165 post k0 v1 v2 ((((400 : Int32)) * v1) + v2) ((0 : Int32)) ((0 : Int32)) ((1 : Int32)) M))) ∧ (¬ ((rI M (k0 + 16) ((((400 : Int32)) * v1) + v2).toNatClampNeg) = (13 : Int32)) → (((rI M (k0 + 16) ((((400 : Int32)) * v1) + v2).toNatClampNeg) = (14 : Int32)) → (vp_in ((((400 : Int32)) * v1) + v2) (rK M (k0 + 16)).2) ∧ (((¬ (rI M (k0 + 16) ((((400 : Int32)) * v1) + v2).toNatClampNeg) = ((13 : Int32))) → w_Mo_work_J165 post k0 v1 v2 ((((400 : Int32)) * v1) + v2) ((0 : Int32)) ((0 : Int32)) ((0 : Int32)) M) ∧ (¬ (¬ (rI M (k0 + 16) ((((400 : Int32)) * v1) + v2).toNatClampNeg) = ((13 : Int32))) → w_Mo_work_J165 post k0 v1 v2 ((((400 : Int32)) * v1) + v2) ((0 : Int32)) ((0 : Int32)) ((1 : Int32)) M))) ∧ (¬ ((rI M (k0 + 16) ((((400 : Int32)) * v1) + v2).toNatClampNeg) = (14 : Int32)) → w_Mo_test (fun x10 => (vp_in v2 (rK M (k0 + 36)).2) ∧ post (wI M (k0 + 36) v2.toNatClampNeg x10)) k0 v1 ((((400 : Int32)) * v1) + v2) M))))))))))))))))
theorem g_Mo_work {d w : Nat} (hd : 2 ≤ d) (hw : 48 ≤ w) {post : aM → Prop} {k0 : Nat} {v1 : Int32} {v2 : Int32} {M : aM} (h : w_Mo_work post k0 v1 v2 M) : Gd d w 188 (pV post) (0, aEnt 188 [aR 21 k0, aI v1, aI v2], [], M) := by
  unfold w_Mo_work at h
  show Gd d w 188 _ (0, [some (aR 21 k0), some (aI v1), some (aI v2), none, none, none, none, none, none], [], M)
  obtain ⟨c0, h⟩ := h
  refine gd_s (P := True ∧ True ∧ True ∧ True ∧ True ∧ True ∧ True ∧ True ∧ True ∧ (vp_in ((((400 : Int32)) * v1) + v2) (rK M (k0 + 16)).2) ∧ True) (σ1 := (14, [some (aR 21 k0), some (aI v1), some (aI v2), some (aI ((((400 : Int32)) * v1) + v2)), none, none, none, none, none], [aI (rI M (k0 + 16) ((((400 : Int32)) * v1) + v2).toNatClampNeg)], M)) tc_188 rfl 10 (fun u => ⟨_, rfl⟩) ⟨trivial, trivial, trivial, trivial, trivial, trivial, trivial, trivial, trivial, c0, trivial⟩ ?_
  refine gd_sw tc_188 rfl rfl (fun _ => rfl) ?_
  refine gd_case ⟨fun hc => ?_, fun hc => ?_⟩
  · have h := h.1 hc
    show Gd d w 188 _ (88, [some (aR 21 k0), some (aI v1), some (aI v2), some (aI ((((400 : Int32)) * v1) + v2)), none, none, none, none, none], [], M)
    obtain ⟨c0, h⟩ := h
    refine gd_s (P := True ∧ True ∧ True ∧ True ∧ True ∧ True ∧ True ∧ (vp_in v2 (rK M (k0 + 36)).2) ∧ True) (σ1 := (290, [some (aR 21 k0), some (aI v1), some (aI v2), some (aI ((((400 : Int32)) * v1) + v2)), some (aI ((1 : Int32))), none, none, none, none], [], wI M (k0 + 36) v2.toNatClampNeg ((1 : Int32)))) tc_188 rfl 8 (fun u => ⟨_, rfl⟩) ⟨trivial, trivial, trivial, trivial, trivial, trivial, trivial, c0, trivial⟩ ?_
    exact gd_ret tc_188 rfl rfl trivial (fun _ => rfl) ⟨rfl, h⟩
  have h := h.2 hc
  refine gd_case ⟨fun hc => ?_, fun hc => ?_⟩
  · have h := h.1 hc
    show Gd d w 188 _ (94, [some (aR 21 k0), some (aI v1), some (aI v2), some (aI ((((400 : Int32)) * v1) + v2)), none, none, none, none, none], [], M)
    obtain ⟨c0, h⟩ := h
    refine gd_s (P := True ∧ True ∧ True ∧ True ∧ True ∧ True ∧ True ∧ (vp_in v2 (rK M (k0 + 36)).2) ∧ True) (σ1 := (290, [some (aR 21 k0), some (aI v1), some (aI v2), some (aI ((((400 : Int32)) * v1) + v2)), some (aI ((0 : Int32))), none, none, none, none], [], wI M (k0 + 36) v2.toNatClampNeg ((0 : Int32)))) tc_188 rfl 8 (fun u => ⟨_, rfl⟩) ⟨trivial, trivial, trivial, trivial, trivial, trivial, trivial, c0, trivial⟩ ?_
    exact gd_ret tc_188 rfl rfl trivial (fun _ => rfl) ⟨rfl, h⟩
  have h := h.2 hc
  refine gd_case ⟨fun hc => ?_, fun hc => ?_⟩
  · have h := h.1 hc
    show Gd d w 188 _ (100, [some (aR 21 k0), some (aI v1), some (aI v2), some (aI ((((400 : Int32)) * v1) + v2)), none, none, none, none, none], [], M)
    obtain ⟨c0, h⟩ := h
    refine gd_s (P := True ∧ True ∧ True ∧ True ∧ True ∧ True ∧ True ∧ (vp_in v2 (rK M (k0 + 36)).2) ∧ True) (σ1 := (290, [some (aR 21 k0), some (aI v1), some (aI v2), some (aI ((((400 : Int32)) * v1) + v2)), some (aI ((2 : Int32))), none, none, none, none], [], wI M (k0 + 36) v2.toNatClampNeg ((2 : Int32)))) tc_188 rfl 8 (fun u => ⟨_, rfl⟩) ⟨trivial, trivial, trivial, trivial, trivial, trivial, trivial, c0, trivial⟩ ?_
    exact gd_ret tc_188 rfl rfl trivial (fun _ => rfl) ⟨rfl, h⟩
  have h := h.2 hc
  refine gd_case ⟨fun hc => ?_, fun hc => ?_⟩
  · have h := h.1 hc
    show Gd d w 188 _ (274, [some (aR 21 k0), some (aI v1), some (aI v2), some (aI ((((400 : Int32)) * v1) + v2)), none, none, none, none, none], [], M)
    refine gd_s (P := True ∧ True ∧ True ∧ True) (σ1 := (277, [some (aR 21 k0), some (aI v1), some (aI v2), some (aI ((((400 : Int32)) * v1) + v2)), none, none, none, none, none], [aI ((((400 : Int32)) * v1) + v2), aI v1, aR 21 k0], M)) tc_188 rfl 3 (fun u => ⟨_, rfl⟩) ⟨trivial, trivial, trivial, trivial⟩ ?_
    refine gd_callN (ml := 6) (as := [aR 21 k0, aI v1, aI ((((400 : Int32)) * v1) + v2)]) (rest := []) tc_188 rfl rfl rfl rfl rfl (by omega) (by omega) (Nat.le_of_ble_eq_true rfl) rfl (g_Mo_test (by omega) (by omega) h) (fun r9 M9 h => ?_)
    obtain ⟨x1, rfl, e9, h⟩ := h
    subst M9
    show Gd d w 188 _ (280, [some (aR 21 k0), some (aI v1), some (aI v2), some (aI ((((400 : Int32)) * v1) + v2)), none, none, none, none, none], [aI x1], M)
    obtain ⟨c0, h⟩ := h
    refine gd_s (P := True ∧ True ∧ True ∧ True ∧ True ∧ (vp_in v2 (rK M (k0 + 36)).2) ∧ True) (σ1 := (290, [some (aR 21 k0), some (aI v1), some (aI v2), some (aI ((((400 : Int32)) * v1) + v2)), some (aI x1), none, none, none, none], [], wI M (k0 + 36) v2.toNatClampNeg x1)) tc_188 rfl 6 (fun u => ⟨_, rfl⟩) ⟨trivial, trivial, trivial, trivial, trivial, c0, trivial⟩ ?_
    exact gd_ret tc_188 rfl rfl trivial (fun _ => rfl) ⟨rfl, h⟩
  have h := h.2 hc
  refine gd_case ⟨fun hc => ?_, fun hc => ?_⟩
  · have h := h.1 hc
    show Gd d w 188 _ (274, [some (aR 21 k0), some (aI v1), some (aI v2), some (aI ((((400 : Int32)) * v1) + v2)), none, none, none, none, none], [], M)
    refine gd_s (P := True ∧ True ∧ True ∧ True) (σ1 := (277, [some (aR 21 k0), some (aI v1), some (aI v2), some (aI ((((400 : Int32)) * v1) + v2)), none, none, none, none, none], [aI ((((400 : Int32)) * v1) + v2), aI v1, aR 21 k0], M)) tc_188 rfl 3 (fun u => ⟨_, rfl⟩) ⟨trivial, trivial, trivial, trivial⟩ ?_
    refine gd_callN (ml := 6) (as := [aR 21 k0, aI v1, aI ((((400 : Int32)) * v1) + v2)]) (rest := []) tc_188 rfl rfl rfl rfl rfl (by omega) (by omega) (Nat.le_of_ble_eq_true rfl) rfl (g_Mo_test (by omega) (by omega) h) (fun r9 M9 h => ?_)
    obtain ⟨x2, rfl, e9, h⟩ := h
    subst M9
    show Gd d w 188 _ (280, [some (aR 21 k0), some (aI v1), some (aI v2), some (aI ((((400 : Int32)) * v1) + v2)), none, none, none, none, none], [aI x2], M)
    obtain ⟨c0, h⟩ := h
    refine gd_s (P := True ∧ True ∧ True ∧ True ∧ True ∧ (vp_in v2 (rK M (k0 + 36)).2) ∧ True) (σ1 := (290, [some (aR 21 k0), some (aI v1), some (aI v2), some (aI ((((400 : Int32)) * v1) + v2)), some (aI x2), none, none, none, none], [], wI M (k0 + 36) v2.toNatClampNeg x2)) tc_188 rfl 6 (fun u => ⟨_, rfl⟩) ⟨trivial, trivial, trivial, trivial, trivial, c0, trivial⟩ ?_
    exact gd_ret tc_188 rfl rfl trivial (fun _ => rfl) ⟨rfl, h⟩
  have h := h.2 hc
  refine gd_case ⟨fun hc => ?_, fun hc => ?_⟩
  · have h := h.1 hc
    show Gd d w 188 _ (274, [some (aR 21 k0), some (aI v1), some (aI v2), some (aI ((((400 : Int32)) * v1) + v2)), none, none, none, none, none], [], M)
    refine gd_s (P := True ∧ True ∧ True ∧ True) (σ1 := (277, [some (aR 21 k0), some (aI v1), some (aI v2), some (aI ((((400 : Int32)) * v1) + v2)), none, none, none, none, none], [aI ((((400 : Int32)) * v1) + v2), aI v1, aR 21 k0], M)) tc_188 rfl 3 (fun u => ⟨_, rfl⟩) ⟨trivial, trivial, trivial, trivial⟩ ?_
    refine gd_callN (ml := 6) (as := [aR 21 k0, aI v1, aI ((((400 : Int32)) * v1) + v2)]) (rest := []) tc_188 rfl rfl rfl rfl rfl (by omega) (by omega) (Nat.le_of_ble_eq_true rfl) rfl (g_Mo_test (by omega) (by omega) h) (fun r9 M9 h => ?_)
    obtain ⟨x3, rfl, e9, h⟩ := h
    subst M9
    show Gd d w 188 _ (280, [some (aR 21 k0), some (aI v1), some (aI v2), some (aI ((((400 : Int32)) * v1) + v2)), none, none, none, none, none], [aI x3], M)
    obtain ⟨c0, h⟩ := h
    refine gd_s (P := True ∧ True ∧ True ∧ True ∧ True ∧ (vp_in v2 (rK M (k0 + 36)).2) ∧ True) (σ1 := (290, [some (aR 21 k0), some (aI v1), some (aI v2), some (aI ((((400 : Int32)) * v1) + v2)), some (aI x3), none, none, none, none], [], wI M (k0 + 36) v2.toNatClampNeg x3)) tc_188 rfl 6 (fun u => ⟨_, rfl⟩) ⟨trivial, trivial, trivial, trivial, trivial, c0, trivial⟩ ?_
    exact gd_ret tc_188 rfl rfl trivial (fun _ => rfl) ⟨rfl, h⟩
  have h := h.2 hc
  refine gd_case ⟨fun hc => ?_, fun hc => ?_⟩
  · have h := h.1 hc
    show Gd d w 188 _ (274, [some (aR 21 k0), some (aI v1), some (aI v2), some (aI ((((400 : Int32)) * v1) + v2)), none, none, none, none, none], [], M)
    refine gd_s (P := True ∧ True ∧ True ∧ True) (σ1 := (277, [some (aR 21 k0), some (aI v1), some (aI v2), some (aI ((((400 : Int32)) * v1) + v2)), none, none, none, none, none], [aI ((((400 : Int32)) * v1) + v2), aI v1, aR 21 k0], M)) tc_188 rfl 3 (fun u => ⟨_, rfl⟩) ⟨trivial, trivial, trivial, trivial⟩ ?_
    refine gd_callN (ml := 6) (as := [aR 21 k0, aI v1, aI ((((400 : Int32)) * v1) + v2)]) (rest := []) tc_188 rfl rfl rfl rfl rfl (by omega) (by omega) (Nat.le_of_ble_eq_true rfl) rfl (g_Mo_test (by omega) (by omega) h) (fun r9 M9 h => ?_)
    obtain ⟨x4, rfl, e9, h⟩ := h
    subst M9
    show Gd d w 188 _ (280, [some (aR 21 k0), some (aI v1), some (aI v2), some (aI ((((400 : Int32)) * v1) + v2)), none, none, none, none, none], [aI x4], M)
    obtain ⟨c0, h⟩ := h
    refine gd_s (P := True ∧ True ∧ True ∧ True ∧ True ∧ (vp_in v2 (rK M (k0 + 36)).2) ∧ True) (σ1 := (290, [some (aR 21 k0), some (aI v1), some (aI v2), some (aI ((((400 : Int32)) * v1) + v2)), some (aI x4), none, none, none, none], [], wI M (k0 + 36) v2.toNatClampNeg x4)) tc_188 rfl 6 (fun u => ⟨_, rfl⟩) ⟨trivial, trivial, trivial, trivial, trivial, c0, trivial⟩ ?_
    exact gd_ret tc_188 rfl rfl trivial (fun _ => rfl) ⟨rfl, h⟩
  have h := h.2 hc
  refine gd_case ⟨fun hc => ?_, fun hc => ?_⟩
  · have h := h.1 hc
    show Gd d w 188 _ (274, [some (aR 21 k0), some (aI v1), some (aI v2), some (aI ((((400 : Int32)) * v1) + v2)), none, none, none, none, none], [], M)
    refine gd_s (P := True ∧ True ∧ True ∧ True) (σ1 := (277, [some (aR 21 k0), some (aI v1), some (aI v2), some (aI ((((400 : Int32)) * v1) + v2)), none, none, none, none, none], [aI ((((400 : Int32)) * v1) + v2), aI v1, aR 21 k0], M)) tc_188 rfl 3 (fun u => ⟨_, rfl⟩) ⟨trivial, trivial, trivial, trivial⟩ ?_
    refine gd_callN (ml := 6) (as := [aR 21 k0, aI v1, aI ((((400 : Int32)) * v1) + v2)]) (rest := []) tc_188 rfl rfl rfl rfl rfl (by omega) (by omega) (Nat.le_of_ble_eq_true rfl) rfl (g_Mo_test (by omega) (by omega) h) (fun r9 M9 h => ?_)
    obtain ⟨x5, rfl, e9, h⟩ := h
    subst M9
    show Gd d w 188 _ (280, [some (aR 21 k0), some (aI v1), some (aI v2), some (aI ((((400 : Int32)) * v1) + v2)), none, none, none, none, none], [aI x5], M)
    obtain ⟨c0, h⟩ := h
    refine gd_s (P := True ∧ True ∧ True ∧ True ∧ True ∧ (vp_in v2 (rK M (k0 + 36)).2) ∧ True) (σ1 := (290, [some (aR 21 k0), some (aI v1), some (aI v2), some (aI ((((400 : Int32)) * v1) + v2)), some (aI x5), none, none, none, none], [], wI M (k0 + 36) v2.toNatClampNeg x5)) tc_188 rfl 6 (fun u => ⟨_, rfl⟩) ⟨trivial, trivial, trivial, trivial, trivial, c0, trivial⟩ ?_
    exact gd_ret tc_188 rfl rfl trivial (fun _ => rfl) ⟨rfl, h⟩
  have h := h.2 hc
  refine gd_case ⟨fun hc => ?_, fun hc => ?_⟩
  · have h := h.1 hc
    show Gd d w 188 _ (274, [some (aR 21 k0), some (aI v1), some (aI v2), some (aI ((((400 : Int32)) * v1) + v2)), none, none, none, none, none], [], M)
    refine gd_s (P := True ∧ True ∧ True ∧ True) (σ1 := (277, [some (aR 21 k0), some (aI v1), some (aI v2), some (aI ((((400 : Int32)) * v1) + v2)), none, none, none, none, none], [aI ((((400 : Int32)) * v1) + v2), aI v1, aR 21 k0], M)) tc_188 rfl 3 (fun u => ⟨_, rfl⟩) ⟨trivial, trivial, trivial, trivial⟩ ?_
    refine gd_callN (ml := 6) (as := [aR 21 k0, aI v1, aI ((((400 : Int32)) * v1) + v2)]) (rest := []) tc_188 rfl rfl rfl rfl rfl (by omega) (by omega) (Nat.le_of_ble_eq_true rfl) rfl (g_Mo_test (by omega) (by omega) h) (fun r9 M9 h => ?_)
    obtain ⟨x6, rfl, e9, h⟩ := h
    subst M9
    show Gd d w 188 _ (280, [some (aR 21 k0), some (aI v1), some (aI v2), some (aI ((((400 : Int32)) * v1) + v2)), none, none, none, none, none], [aI x6], M)
    obtain ⟨c0, h⟩ := h
    refine gd_s (P := True ∧ True ∧ True ∧ True ∧ True ∧ (vp_in v2 (rK M (k0 + 36)).2) ∧ True) (σ1 := (290, [some (aR 21 k0), some (aI v1), some (aI v2), some (aI ((((400 : Int32)) * v1) + v2)), some (aI x6), none, none, none, none], [], wI M (k0 + 36) v2.toNatClampNeg x6)) tc_188 rfl 6 (fun u => ⟨_, rfl⟩) ⟨trivial, trivial, trivial, trivial, trivial, c0, trivial⟩ ?_
    exact gd_ret tc_188 rfl rfl trivial (fun _ => rfl) ⟨rfl, h⟩
  have h := h.2 hc
  refine gd_case ⟨fun hc => ?_, fun hc => ?_⟩
  · have h := h.1 hc
    show Gd d w 188 _ (274, [some (aR 21 k0), some (aI v1), some (aI v2), some (aI ((((400 : Int32)) * v1) + v2)), none, none, none, none, none], [], M)
    refine gd_s (P := True ∧ True ∧ True ∧ True) (σ1 := (277, [some (aR 21 k0), some (aI v1), some (aI v2), some (aI ((((400 : Int32)) * v1) + v2)), none, none, none, none, none], [aI ((((400 : Int32)) * v1) + v2), aI v1, aR 21 k0], M)) tc_188 rfl 3 (fun u => ⟨_, rfl⟩) ⟨trivial, trivial, trivial, trivial⟩ ?_
    refine gd_callN (ml := 6) (as := [aR 21 k0, aI v1, aI ((((400 : Int32)) * v1) + v2)]) (rest := []) tc_188 rfl rfl rfl rfl rfl (by omega) (by omega) (Nat.le_of_ble_eq_true rfl) rfl (g_Mo_test (by omega) (by omega) h) (fun r9 M9 h => ?_)
    obtain ⟨x7, rfl, e9, h⟩ := h
    subst M9
    show Gd d w 188 _ (280, [some (aR 21 k0), some (aI v1), some (aI v2), some (aI ((((400 : Int32)) * v1) + v2)), none, none, none, none, none], [aI x7], M)
    obtain ⟨c0, h⟩ := h
    refine gd_s (P := True ∧ True ∧ True ∧ True ∧ True ∧ (vp_in v2 (rK M (k0 + 36)).2) ∧ True) (σ1 := (290, [some (aR 21 k0), some (aI v1), some (aI v2), some (aI ((((400 : Int32)) * v1) + v2)), some (aI x7), none, none, none, none], [], wI M (k0 + 36) v2.toNatClampNeg x7)) tc_188 rfl 6 (fun u => ⟨_, rfl⟩) ⟨trivial, trivial, trivial, trivial, trivial, c0, trivial⟩ ?_
    exact gd_ret tc_188 rfl rfl trivial (fun _ => rfl) ⟨rfl, h⟩
  have h := h.2 hc
  refine gd_case ⟨fun hc => ?_, fun hc => ?_⟩
  · have h := h.1 hc
    show Gd d w 188 _ (274, [some (aR 21 k0), some (aI v1), some (aI v2), some (aI ((((400 : Int32)) * v1) + v2)), none, none, none, none, none], [], M)
    refine gd_s (P := True ∧ True ∧ True ∧ True) (σ1 := (277, [some (aR 21 k0), some (aI v1), some (aI v2), some (aI ((((400 : Int32)) * v1) + v2)), none, none, none, none, none], [aI ((((400 : Int32)) * v1) + v2), aI v1, aR 21 k0], M)) tc_188 rfl 3 (fun u => ⟨_, rfl⟩) ⟨trivial, trivial, trivial, trivial⟩ ?_
    refine gd_callN (ml := 6) (as := [aR 21 k0, aI v1, aI ((((400 : Int32)) * v1) + v2)]) (rest := []) tc_188 rfl rfl rfl rfl rfl (by omega) (by omega) (Nat.le_of_ble_eq_true rfl) rfl (g_Mo_test (by omega) (by omega) h) (fun r9 M9 h => ?_)
    obtain ⟨x8, rfl, e9, h⟩ := h
    subst M9
    show Gd d w 188 _ (280, [some (aR 21 k0), some (aI v1), some (aI v2), some (aI ((((400 : Int32)) * v1) + v2)), none, none, none, none, none], [aI x8], M)
    obtain ⟨c0, h⟩ := h
    refine gd_s (P := True ∧ True ∧ True ∧ True ∧ True ∧ (vp_in v2 (rK M (k0 + 36)).2) ∧ True) (σ1 := (290, [some (aR 21 k0), some (aI v1), some (aI v2), some (aI ((((400 : Int32)) * v1) + v2)), some (aI x8), none, none, none, none], [], wI M (k0 + 36) v2.toNatClampNeg x8)) tc_188 rfl 6 (fun u => ⟨_, rfl⟩) ⟨trivial, trivial, trivial, trivial, trivial, c0, trivial⟩ ?_
    exact gd_ret tc_188 rfl rfl trivial (fun _ => rfl) ⟨rfl, h⟩
  have h := h.2 hc
  refine gd_case ⟨fun hc => ?_, fun hc => ?_⟩
  · have h := h.1 hc
    show Gd d w 188 _ (274, [some (aR 21 k0), some (aI v1), some (aI v2), some (aI ((((400 : Int32)) * v1) + v2)), none, none, none, none, none], [], M)
    refine gd_s (P := True ∧ True ∧ True ∧ True) (σ1 := (277, [some (aR 21 k0), some (aI v1), some (aI v2), some (aI ((((400 : Int32)) * v1) + v2)), none, none, none, none, none], [aI ((((400 : Int32)) * v1) + v2), aI v1, aR 21 k0], M)) tc_188 rfl 3 (fun u => ⟨_, rfl⟩) ⟨trivial, trivial, trivial, trivial⟩ ?_
    refine gd_callN (ml := 6) (as := [aR 21 k0, aI v1, aI ((((400 : Int32)) * v1) + v2)]) (rest := []) tc_188 rfl rfl rfl rfl rfl (by omega) (by omega) (Nat.le_of_ble_eq_true rfl) rfl (g_Mo_test (by omega) (by omega) h) (fun r9 M9 h => ?_)
    obtain ⟨x9, rfl, e9, h⟩ := h
    subst M9
    show Gd d w 188 _ (280, [some (aR 21 k0), some (aI v1), some (aI v2), some (aI ((((400 : Int32)) * v1) + v2)), none, none, none, none, none], [aI x9], M)
    obtain ⟨c0, h⟩ := h
    refine gd_s (P := True ∧ True ∧ True ∧ True ∧ True ∧ (vp_in v2 (rK M (k0 + 36)).2) ∧ True) (σ1 := (290, [some (aR 21 k0), some (aI v1), some (aI v2), some (aI ((((400 : Int32)) * v1) + v2)), some (aI x9), none, none, none, none], [], wI M (k0 + 36) v2.toNatClampNeg x9)) tc_188 rfl 6 (fun u => ⟨_, rfl⟩) ⟨trivial, trivial, trivial, trivial, trivial, c0, trivial⟩ ?_
    exact gd_ret tc_188 rfl rfl trivial (fun _ => rfl) ⟨rfl, h⟩
  have h := h.2 hc
  refine gd_case ⟨fun hc => ?_, fun hc => ?_⟩
  · have h := h.1 hc
    show Gd d w 188 _ (106, [some (aR 21 k0), some (aI v1), some (aI v2), some (aI ((((400 : Int32)) * v1) + v2)), none, none, none, none, none], [], M)
    obtain ⟨c0, c1, h⟩ := h
    refine gd_s (P := True ∧ True ∧ True ∧ True ∧ True ∧ (vp_in ((((400 : Int32)) * v1) + v2) (rK M (k0 + 20)).2) ∧ (vp_in (rI M (k0 + 20) ((((400 : Int32)) * v1) + v2).toNatClampNeg) (rK M (k0 + 36)).2) ∧ True ∧ True) (σ1 := (118, [some (aR 21 k0), some (aI v1), some (aI v2), some (aI ((((400 : Int32)) * v1) + v2)), none, none, none, none, none], [aI ((2 : Int32)), aI (rI M (k0 + 36) (rI M (k0 + 20) ((((400 : Int32)) * v1) + v2).toNatClampNeg).toNatClampNeg)], M)) tc_188 rfl 8 (fun u => ⟨_, rfl⟩) ⟨trivial, trivial, trivial, trivial, trivial, c0, c1, trivial, trivial⟩ ?_
    refine gd_br (c := ¬ (rI M (k0 + 36) (rI M (k0 + 20) ((((400 : Int32)) * v1) + v2).toNatClampNeg).toNatClampNeg) = ((2 : Int32))) (st1 := []) tc_188 rfl rfl (fun _ => rfl) ⟨fun hc => ?_, fun hc => ?_⟩
    · have h := h.1 hc
      show Gd d w 188 _ (125, [some (aR 21 k0), some (aI v1), some (aI v2), some (aI ((((400 : Int32)) * v1) + v2)), none, none, none, none, none], [], M)
      obtain ⟨c0, c1, h⟩ := h
      refine gd_s (P := True ∧ True ∧ True ∧ True ∧ True ∧ True ∧ (vp_in ((((400 : Int32)) * v1) + v2) (rK M (k0 + 20)).2) ∧ (vp_in (rI M (k0 + 20) ((((400 : Int32)) * v1) + v2).toNatClampNeg) (rK M (k0 + 36)).2) ∧ True ∧ True) (σ1 := (138, [some (aR 21 k0), some (aI v1), some (aI v2), some (aI ((((400 : Int32)) * v1) + v2)), none, none, none, none, none], [aI (((1 : Int32)) - (rI M (k0 + 36) (rI M (k0 + 20) ((((400 : Int32)) * v1) + v2).toNatClampNeg).toNatClampNeg))], M)) tc_188 rfl 9 (fun u => ⟨_, rfl⟩) ⟨trivial, trivial, trivial, trivial, trivial, trivial, c0, c1, trivial, trivial⟩ ?_
      exact g_Mo_work_J138 hd hw k0 v2 (((1 : Int32)) - (rI M (k0 + 36) (rI M (k0 + 20) ((((400 : Int32)) * v1) + v2).toNatClampNeg).toNatClampNeg)) (some (aI v1)) (some (aI ((((400 : Int32)) * v1) + v2))) none none none none none M h
    · have h := h.2 hc
      show Gd d w 188 _ (121, [some (aR 21 k0), some (aI v1), some (aI v2), some (aI ((((400 : Int32)) * v1) + v2)), none, none, none, none, none], [], M)
      refine gd_s (P := True ∧ True ∧ True) (σ1 := (138, [some (aR 21 k0), some (aI v1), some (aI v2), some (aI ((((400 : Int32)) * v1) + v2)), none, none, none, none, none], [aI ((2 : Int32))], M)) tc_188 rfl 2 (fun u => ⟨_, rfl⟩) ⟨trivial, trivial, trivial⟩ ?_
      exact g_Mo_work_J138 hd hw k0 v2 ((2 : Int32)) (some (aI v1)) (some (aI ((((400 : Int32)) * v1) + v2))) none none none none none M h
  have h := h.2 hc
  refine gd_case ⟨fun hc => ?_, fun hc => ?_⟩
  · have h := h.1 hc
    show Gd d w 188 _ (143, [some (aR 21 k0), some (aI v1), some (aI v2), some (aI ((((400 : Int32)) * v1) + v2)), none, none, none, none, none], [], M)
    obtain ⟨c0, h⟩ := h
    refine gd_s (P := True ∧ True ∧ True ∧ True ∧ True ∧ True ∧ True ∧ (vp_in ((((400 : Int32)) * v1) + v2) (rK M (k0 + 16)).2) ∧ True ∧ True) (σ1 := (157, [some (aR 21 k0), some (aI v1), some (aI v2), some (aI ((((400 : Int32)) * v1) + v2)), none, some (aI ((0 : Int32))), some (aI ((0 : Int32))), none, none], [aI ((13 : Int32)), aI (rI M (k0 + 16) ((((400 : Int32)) * v1) + v2).toNatClampNeg)], M)) tc_188 rfl 9 (fun u => ⟨_, rfl⟩) ⟨trivial, trivial, trivial, trivial, trivial, trivial, trivial, c0, trivial, trivial⟩ ?_
    refine gd_br (c := ¬ (rI M (k0 + 16) ((((400 : Int32)) * v1) + v2).toNatClampNeg) = ((13 : Int32))) (st1 := []) tc_188 rfl rfl (fun _ => rfl) ⟨fun hc => ?_, fun hc => ?_⟩
    · have h := h.1 hc
      show Gd d w 188 _ (164, [some (aR 21 k0), some (aI v1), some (aI v2), some (aI ((((400 : Int32)) * v1) + v2)), none, some (aI ((0 : Int32))), some (aI ((0 : Int32))), none, none], [], M)
      refine gd_s (P := True ∧ True) (σ1 := (165, [some (aR 21 k0), some (aI v1), some (aI v2), some (aI ((((400 : Int32)) * v1) + v2)), none, some (aI ((0 : Int32))), some (aI ((0 : Int32))), none, none], [aI ((0 : Int32))], M)) tc_188 rfl 1 (fun u => ⟨_, rfl⟩) ⟨trivial, trivial⟩ ?_
      exact g_Mo_work_J165 hd hw k0 v1 v2 ((((400 : Int32)) * v1) + v2) ((0 : Int32)) ((0 : Int32)) ((0 : Int32)) none none none M h
    · have h := h.2 hc
      show Gd d w 188 _ (160, [some (aR 21 k0), some (aI v1), some (aI v2), some (aI ((((400 : Int32)) * v1) + v2)), none, some (aI ((0 : Int32))), some (aI ((0 : Int32))), none, none], [], M)
      refine gd_s (P := True ∧ True ∧ True) (σ1 := (165, [some (aR 21 k0), some (aI v1), some (aI v2), some (aI ((((400 : Int32)) * v1) + v2)), none, some (aI ((0 : Int32))), some (aI ((0 : Int32))), none, none], [aI ((1 : Int32))], M)) tc_188 rfl 2 (fun u => ⟨_, rfl⟩) ⟨trivial, trivial, trivial⟩ ?_
      exact g_Mo_work_J165 hd hw k0 v1 v2 ((((400 : Int32)) * v1) + v2) ((0 : Int32)) ((0 : Int32)) ((1 : Int32)) none none none M h
  have h := h.2 hc
  refine gd_case ⟨fun hc => ?_, fun hc => ?_⟩
  · have h := h.1 hc
    show Gd d w 188 _ (143, [some (aR 21 k0), some (aI v1), some (aI v2), some (aI ((((400 : Int32)) * v1) + v2)), none, none, none, none, none], [], M)
    obtain ⟨c0, h⟩ := h
    refine gd_s (P := True ∧ True ∧ True ∧ True ∧ True ∧ True ∧ True ∧ (vp_in ((((400 : Int32)) * v1) + v2) (rK M (k0 + 16)).2) ∧ True ∧ True) (σ1 := (157, [some (aR 21 k0), some (aI v1), some (aI v2), some (aI ((((400 : Int32)) * v1) + v2)), none, some (aI ((0 : Int32))), some (aI ((0 : Int32))), none, none], [aI ((13 : Int32)), aI (rI M (k0 + 16) ((((400 : Int32)) * v1) + v2).toNatClampNeg)], M)) tc_188 rfl 9 (fun u => ⟨_, rfl⟩) ⟨trivial, trivial, trivial, trivial, trivial, trivial, trivial, c0, trivial, trivial⟩ ?_
    refine gd_br (c := ¬ (rI M (k0 + 16) ((((400 : Int32)) * v1) + v2).toNatClampNeg) = ((13 : Int32))) (st1 := []) tc_188 rfl rfl (fun _ => rfl) ⟨fun hc => ?_, fun hc => ?_⟩
    · have h := h.1 hc
      show Gd d w 188 _ (164, [some (aR 21 k0), some (aI v1), some (aI v2), some (aI ((((400 : Int32)) * v1) + v2)), none, some (aI ((0 : Int32))), some (aI ((0 : Int32))), none, none], [], M)
      refine gd_s (P := True ∧ True) (σ1 := (165, [some (aR 21 k0), some (aI v1), some (aI v2), some (aI ((((400 : Int32)) * v1) + v2)), none, some (aI ((0 : Int32))), some (aI ((0 : Int32))), none, none], [aI ((0 : Int32))], M)) tc_188 rfl 1 (fun u => ⟨_, rfl⟩) ⟨trivial, trivial⟩ ?_
      exact g_Mo_work_J165 hd hw k0 v1 v2 ((((400 : Int32)) * v1) + v2) ((0 : Int32)) ((0 : Int32)) ((0 : Int32)) none none none M h
    · have h := h.2 hc
      show Gd d w 188 _ (160, [some (aR 21 k0), some (aI v1), some (aI v2), some (aI ((((400 : Int32)) * v1) + v2)), none, some (aI ((0 : Int32))), some (aI ((0 : Int32))), none, none], [], M)
      refine gd_s (P := True ∧ True ∧ True) (σ1 := (165, [some (aR 21 k0), some (aI v1), some (aI v2), some (aI ((((400 : Int32)) * v1) + v2)), none, some (aI ((0 : Int32))), some (aI ((0 : Int32))), none, none], [aI ((1 : Int32))], M)) tc_188 rfl 2 (fun u => ⟨_, rfl⟩) ⟨trivial, trivial, trivial⟩ ?_
      exact g_Mo_work_J165 hd hw k0 v1 v2 ((((400 : Int32)) * v1) + v2) ((0 : Int32)) ((0 : Int32)) ((1 : Int32)) none none none M h
  have h := h.2 hc
  show Gd d w 188 _ (274, [some (aR 21 k0), some (aI v1), some (aI v2), some (aI ((((400 : Int32)) * v1) + v2)), none, none, none, none, none], [], M)
  refine gd_s (P := True ∧ True ∧ True ∧ True) (σ1 := (277, [some (aR 21 k0), some (aI v1), some (aI v2), some (aI ((((400 : Int32)) * v1) + v2)), none, none, none, none, none], [aI ((((400 : Int32)) * v1) + v2), aI v1, aR 21 k0], M)) tc_188 rfl 3 (fun u => ⟨_, rfl⟩) ⟨trivial, trivial, trivial, trivial⟩ ?_
  refine gd_callN (ml := 6) (as := [aR 21 k0, aI v1, aI ((((400 : Int32)) * v1) + v2)]) (rest := []) tc_188 rfl rfl rfl rfl rfl (by omega) (by omega) (Nat.le_of_ble_eq_true rfl) rfl (g_Mo_test (by omega) (by omega) h) (fun r9 M9 h => ?_)
  obtain ⟨x10, rfl, e9, h⟩ := h
  subst M9
  show Gd d w 188 _ (280, [some (aR 21 k0), some (aI v1), some (aI v2), some (aI ((((400 : Int32)) * v1) + v2)), none, none, none, none, none], [aI x10], M)
  obtain ⟨c0, h⟩ := h
  refine gd_s (P := True ∧ True ∧ True ∧ True ∧ True ∧ (vp_in v2 (rK M (k0 + 36)).2) ∧ True) (σ1 := (290, [some (aR 21 k0), some (aI v1), some (aI v2), some (aI ((((400 : Int32)) * v1) + v2)), some (aI x10), none, none, none, none], [], wI M (k0 + 36) v2.toNatClampNeg x10)) tc_188 rfl 6 (fun u => ⟨_, rfl⟩) ⟨trivial, trivial, trivial, trivial, trivial, c0, trivial⟩ ?_
  exact gd_ret tc_188 rfl rfl trivial (fun _ => rfl) ⟨rfl, h⟩
theorem tc_195 : tC 195 = c195 := rfl
def w_Mo_strict_J48 (M : aM) (post : Int32 → Prop) (k0 : Nat) (v1 : Int32) (v3 : Int32) (v4 : Int32) : Prop := (vp_in v4 (rK M (k0 + 37)).2) ∧ ((((rI M (k0 + 37) v4.toNatClampNeg) ≤ ((0 : Int32))) → (vp_in v1 (rK M (k0 + 37)).2) ∧ ((((rI M (k0 + 37) v1.toNatClampNeg) ≤ ((0 : Int32))) → (vp_in v3 (rK M (k0 + 37)).2) ∧ ((((rI M (k0 + 37) v3.toNatClampNeg) ≤ ((0 : Int32))) → post ((0 : Int32))) ∧ (¬ ((rI M (k0 + 37) v3.toNatClampNeg) ≤ ((0 : Int32))) → post v3))) ∧ (¬ ((rI M (k0 + 37) v1.toNatClampNeg) ≤ ((0 : Int32))) → post v1))) ∧ (¬ ((rI M (k0 + 37) v4.toNatClampNeg) ≤ ((0 : Int32))) → post v4))
theorem g_Mo_strict_J48 {d w : Nat} (hd : 0 ≤ d) (hw : 0 ≤ w) {M : aM} {post : Int32 → Prop} (k0 : Nat) (v1 : Int32) (v3 : Int32) (v4 : Int32) (o2 : Option aV) (h : w_Mo_strict_J48 M post k0 v1 v3 v4) : Gd d w 195 (pIn M post) (48, [some (aR 21 k0), some (aI v1), o2, some (aI v3), some (aI v4)], [], M) := by
  unfold w_Mo_strict_J48 at h
  show Gd d w 195 _ (48, [some (aR 21 k0), some (aI v1), o2, some (aI v3), some (aI v4)], [], M)
  obtain ⟨c0, h⟩ := h
  refine gd_s (P := True ∧ True ∧ True ∧ (vp_in v4 (rK M (k0 + 37)).2) ∧ True) (σ1 := (55, [some (aR 21 k0), some (aI v1), o2, some (aI v3), some (aI v4)], [aI (rI M (k0 + 37) v4.toNatClampNeg)], M)) tc_195 rfl 4 (fun u => ⟨_, rfl⟩) ⟨trivial, trivial, trivial, c0, trivial⟩ ?_
  refine gd_br (c := (rI M (k0 + 37) v4.toNatClampNeg) ≤ ((0 : Int32))) (st1 := []) tc_195 rfl rfl (fun _ => rfl) ⟨fun hc => ?_, fun hc => ?_⟩
  · have h := h.1 hc
    show Gd d w 195 _ (63, [some (aR 21 k0), some (aI v1), o2, some (aI v3), some (aI v4)], [], M)
    obtain ⟨c0, h⟩ := h
    refine gd_s (P := True ∧ True ∧ True ∧ (vp_in v1 (rK M (k0 + 37)).2) ∧ True) (σ1 := (69, [some (aR 21 k0), some (aI v1), o2, some (aI v3), some (aI v4)], [aI (rI M (k0 + 37) v1.toNatClampNeg)], M)) tc_195 rfl 4 (fun u => ⟨_, rfl⟩) ⟨trivial, trivial, trivial, c0, trivial⟩ ?_
    refine gd_br (c := (rI M (k0 + 37) v1.toNatClampNeg) ≤ ((0 : Int32))) (st1 := []) tc_195 rfl rfl (fun _ => rfl) ⟨fun hc => ?_, fun hc => ?_⟩
    · have h := h.1 hc
      show Gd d w 195 _ (76, [some (aR 21 k0), some (aI v1), o2, some (aI v3), some (aI v4)], [], M)
      obtain ⟨c0, h⟩ := h
      refine gd_s (P := True ∧ True ∧ True ∧ (vp_in v3 (rK M (k0 + 37)).2) ∧ True) (σ1 := (82, [some (aR 21 k0), some (aI v1), o2, some (aI v3), some (aI v4)], [aI (rI M (k0 + 37) v3.toNatClampNeg)], M)) tc_195 rfl 4 (fun u => ⟨_, rfl⟩) ⟨trivial, trivial, trivial, c0, trivial⟩ ?_
      refine gd_br (c := (rI M (k0 + 37) v3.toNatClampNeg) ≤ ((0 : Int32))) (st1 := []) tc_195 rfl rfl (fun _ => rfl) ⟨fun hc => ?_, fun hc => ?_⟩
      · have h := h.1 hc
        show Gd d w 195 _ (89, [some (aR 21 k0), some (aI v1), o2, some (aI v3), some (aI v4)], [], M)
        refine gd_s (P := True ∧ True) (σ1 := (90, [some (aR 21 k0), some (aI v1), o2, some (aI v3), some (aI v4)], [aI ((0 : Int32))], M)) tc_195 rfl 1 (fun u => ⟨_, rfl⟩) ⟨trivial, trivial⟩ ?_
        exact gd_ret tc_195 rfl rfl trivial (fun _ => rfl) ⟨_, rfl, rfl, h⟩
      · have h := h.2 hc
        show Gd d w 195 _ (85, [some (aR 21 k0), some (aI v1), o2, some (aI v3), some (aI v4)], [], M)
        refine gd_s (P := True ∧ True ∧ True) (σ1 := (90, [some (aR 21 k0), some (aI v1), o2, some (aI v3), some (aI v4)], [aI v3], M)) tc_195 rfl 2 (fun u => ⟨_, rfl⟩) ⟨trivial, trivial, trivial⟩ ?_
        exact gd_ret tc_195 rfl rfl trivial (fun _ => rfl) ⟨_, rfl, rfl, h⟩
    · have h := h.2 hc
      show Gd d w 195 _ (72, [some (aR 21 k0), some (aI v1), o2, some (aI v3), some (aI v4)], [], M)
      refine gd_s (P := True ∧ True ∧ True) (σ1 := (90, [some (aR 21 k0), some (aI v1), o2, some (aI v3), some (aI v4)], [aI v1], M)) tc_195 rfl 2 (fun u => ⟨_, rfl⟩) ⟨trivial, trivial, trivial⟩ ?_
      exact gd_ret tc_195 rfl rfl trivial (fun _ => rfl) ⟨_, rfl, rfl, h⟩
  · have h := h.2 hc
    show Gd d w 195 _ (58, [some (aR 21 k0), some (aI v1), o2, some (aI v3), some (aI v4)], [], M)
    refine gd_s (P := True ∧ True ∧ True) (σ1 := (90, [some (aR 21 k0), some (aI v1), o2, some (aI v3), some (aI v4)], [aI v4], M)) tc_195 rfl 2 (fun u => ⟨_, rfl⟩) ⟨trivial, trivial, trivial⟩ ?_
    exact gd_ret tc_195 rfl rfl trivial (fun _ => rfl) ⟨_, rfl, rfl, h⟩
/-- PolicyJudgeModel.strict(IIII)I -/
def w_Mo_strict (post : Int32 → Prop) (k0 : Nat) (v1 : Int32) (v2 : Int32) (v3 : Int32) (v4 : Int32) (M : aM) : Prop := (vp_in v2 (rK M (k0 + 37)).2) ∧ ((((rI M (k0 + 37) v2.toNatClampNeg) ≤ ((0 : Int32))) → (vp_in ((5 : Int32)) (rK M (k0 + 37)).2) ∧ (((((0 : Int32)) < (rI M (k0 + 37) ((5 : Int32)).toNatClampNeg)) → post ((5 : Int32))) ∧ (¬ (((0 : Int32)) < (rI M (k0 + 37) ((5 : Int32)).toNatClampNeg)) → (vp_in v4 (rK M (k0 + 37)).2) ∧ ((((rI M (k0 + 37) v4.toNatClampNeg) ≤ ((0 : Int32))) → w_Mo_strict_J48 M post k0 v1 v3 v4) ∧ (¬ ((rI M (k0 + 37) v4.toNatClampNeg) ≤ ((0 : Int32))) → (vp_in v1 (rK M (k0 + 37)).2) ∧ (vp_in v3 (rK M (k0 + 37)).2) ∧ (((((rI M (k0 + 37) v1.toNatClampNeg) + (rI M (k0 + 37) v3.toNatClampNeg)) ≤ ((0 : Int32))) → w_Mo_strict_J48 M post k0 v1 v3 v4) ∧ (¬ (((rI M (k0 + 37) v1.toNatClampNeg) + (rI M (k0 + 37) v3.toNatClampNeg)) ≤ ((0 : Int32))) → post ((5 : Int32))))))))) ∧ (¬ ((rI M (k0 + 37) v2.toNatClampNeg) ≤ ((0 : Int32))) → post v2))
theorem g_Mo_strict {d w : Nat} (hd : 0 ≤ d) (hw : 0 ≤ w) {post : Int32 → Prop} {k0 : Nat} {v1 : Int32} {v2 : Int32} {v3 : Int32} {v4 : Int32} {M : aM} (h : w_Mo_strict post k0 v1 v2 v3 v4 M) : Gd d w 195 (pIn M post) (0, aEnt 195 [aR 21 k0, aI v1, aI v2, aI v3, aI v4], [], M) := by
  unfold w_Mo_strict at h
  show Gd d w 195 _ (0, [some (aR 21 k0), some (aI v1), some (aI v2), some (aI v3), some (aI v4)], [], M)
  obtain ⟨c0, h⟩ := h
  refine gd_s (P := True ∧ True ∧ True ∧ (vp_in v2 (rK M (k0 + 37)).2) ∧ True) (σ1 := (6, [some (aR 21 k0), some (aI v1), some (aI v2), some (aI v3), some (aI v4)], [aI (rI M (k0 + 37) v2.toNatClampNeg)], M)) tc_195 rfl 4 (fun u => ⟨_, rfl⟩) ⟨trivial, trivial, trivial, c0, trivial⟩ ?_
  refine gd_br (c := (rI M (k0 + 37) v2.toNatClampNeg) ≤ ((0 : Int32))) (st1 := []) tc_195 rfl rfl (fun _ => rfl) ⟨fun hc => ?_, fun hc => ?_⟩
  · have h := h.1 hc
    show Gd d w 195 _ (11, [some (aR 21 k0), some (aI v1), some (aI v2), some (aI v3), some (aI v4)], [], M)
    obtain ⟨c0, h⟩ := h
    refine gd_s (P := True ∧ True ∧ True ∧ (vp_in ((5 : Int32)) (rK M (k0 + 37)).2) ∧ True) (σ1 := (17, [some (aR 21 k0), some (aI v1), some (aI v2), some (aI v3), some (aI v4)], [aI (rI M (k0 + 37) ((5 : Int32)).toNatClampNeg)], M)) tc_195 rfl 4 (fun u => ⟨_, rfl⟩) ⟨trivial, trivial, trivial, c0, trivial⟩ ?_
    refine gd_br (c := ((0 : Int32)) < (rI M (k0 + 37) ((5 : Int32)).toNatClampNeg)) (st1 := []) tc_195 rfl rfl (fun _ => rfl) ⟨fun hc => ?_, fun hc => ?_⟩
    · have h := h.1 hc
      show Gd d w 195 _ (46, [some (aR 21 k0), some (aI v1), some (aI v2), some (aI v3), some (aI v4)], [], M)
      refine gd_s (P := True ∧ True) (σ1 := (47, [some (aR 21 k0), some (aI v1), some (aI v2), some (aI v3), some (aI v4)], [aI ((5 : Int32))], M)) tc_195 rfl 1 (fun u => ⟨_, rfl⟩) ⟨trivial, trivial⟩ ?_
      exact gd_ret tc_195 rfl rfl trivial (fun _ => rfl) ⟨_, rfl, rfl, h⟩
    · have h := h.2 hc
      show Gd d w 195 _ (20, [some (aR 21 k0), some (aI v1), some (aI v2), some (aI v3), some (aI v4)], [], M)
      obtain ⟨c0, h⟩ := h
      refine gd_s (P := True ∧ True ∧ True ∧ (vp_in v4 (rK M (k0 + 37)).2) ∧ True) (σ1 := (27, [some (aR 21 k0), some (aI v1), some (aI v2), some (aI v3), some (aI v4)], [aI (rI M (k0 + 37) v4.toNatClampNeg)], M)) tc_195 rfl 4 (fun u => ⟨_, rfl⟩) ⟨trivial, trivial, trivial, c0, trivial⟩ ?_
      refine gd_br (c := (rI M (k0 + 37) v4.toNatClampNeg) ≤ ((0 : Int32))) (st1 := []) tc_195 rfl rfl (fun _ => rfl) ⟨fun hc => ?_, fun hc => ?_⟩
      · have h := h.1 hc
        exact g_Mo_strict_J48 hd hw k0 v1 v3 v4 (some (aI v2)) h
      · have h := h.2 hc
        show Gd d w 195 _ (30, [some (aR 21 k0), some (aI v1), some (aI v2), some (aI v3), some (aI v4)], [], M)
        obtain ⟨c0, c1, h⟩ := h
        refine gd_s (P := True ∧ True ∧ True ∧ (vp_in v1 (rK M (k0 + 37)).2) ∧ True ∧ True ∧ True ∧ (vp_in v3 (rK M (k0 + 37)).2) ∧ True ∧ True) (σ1 := (43, [some (aR 21 k0), some (aI v1), some (aI v2), some (aI v3), some (aI v4)], [aI ((rI M (k0 + 37) v1.toNatClampNeg) + (rI M (k0 + 37) v3.toNatClampNeg))], M)) tc_195 rfl 9 (fun u => ⟨_, rfl⟩) ⟨trivial, trivial, trivial, c0, trivial, trivial, trivial, c1, trivial, trivial⟩ ?_
        refine gd_br (c := ((rI M (k0 + 37) v1.toNatClampNeg) + (rI M (k0 + 37) v3.toNatClampNeg)) ≤ ((0 : Int32))) (st1 := []) tc_195 rfl rfl (fun _ => rfl) ⟨fun hc => ?_, fun hc => ?_⟩
        · have h := h.1 hc
          exact g_Mo_strict_J48 hd hw k0 v1 v3 v4 (some (aI v2)) h
        · have h := h.2 hc
          show Gd d w 195 _ (46, [some (aR 21 k0), some (aI v1), some (aI v2), some (aI v3), some (aI v4)], [], M)
          refine gd_s (P := True ∧ True) (σ1 := (47, [some (aR 21 k0), some (aI v1), some (aI v2), some (aI v3), some (aI v4)], [aI ((5 : Int32))], M)) tc_195 rfl 1 (fun u => ⟨_, rfl⟩) ⟨trivial, trivial⟩ ?_
          exact gd_ret tc_195 rfl rfl trivial (fun _ => rfl) ⟨_, rfl, rfl, h⟩
  · have h := h.2 hc
    show Gd d w 195 _ (9, [some (aR 21 k0), some (aI v1), some (aI v2), some (aI v3), some (aI v4)], [], M)
    refine gd_s (P := True ∧ True) (σ1 := (10, [some (aR 21 k0), some (aI v1), some (aI v2), some (aI v3), some (aI v4)], [aI v2], M)) tc_195 rfl 1 (fun u => ⟨_, rfl⟩) ⟨trivial, trivial⟩ ?_
    exact gd_ret tc_195 rfl rfl trivial (fun _ => rfl) ⟨_, rfl, rfl, h⟩
theorem tc_196 : tC 196 = c196 := rfl
def w_Mo_chosen_L26 (M : aM) (post : Int32 → Prop) : Nat → Nat → Int32 → Int32 → Int32 → Int32 → Prop
  | 0, _, _, _, _, _ => False
  | n + 1, k0, v1, v2, v3, v4 => (vp_in v1 (rK M (k0 + 10)).2) ∧ ((((rI M (k0 + 10) v1.toNatClampNeg) ≤ v4) → post ((-1 : Int32))) ∧ (¬ ((rI M (k0 + 10) v1.toNatClampNeg) ≤ v4) → (vp_in ((((100 : Int32)) * v1) + v4) (rK M (k0 + 13)).2) ∧ (((¬ (rI M (k0 + 13) ((((100 : Int32)) * v1) + v4).toNatClampNeg) = v2) → w_Mo_chosen_L26 M post n k0 v1 v2 v3 (v4 + (1 : Int32))) ∧ (¬ (¬ (rI M (k0 + 13) ((((100 : Int32)) * v1) + v4).toNatClampNeg) = v2) → ((v3 = ((0 : Int32))) → (vp_in ((((100 : Int32)) * v1) + v4) (rK M (k0 + 29)).2) ∧ ((((rI M (k0 + 29) ((((100 : Int32)) * v1) + v4).toNatClampNeg) = ((0 : Int32))) → w_Mo_chosen_L26 M post n k0 v1 v2 v3 (v4 + (1 : Int32))) ∧ (¬ ((rI M (k0 + 29) ((((100 : Int32)) * v1) + v4).toNatClampNeg) = ((0 : Int32))) → post v4))) ∧ (¬ (v3 = ((0 : Int32))) → (vp_in ((((100 : Int32)) * v1) + v4) (rK M (k0 + 30)).2) ∧ (((¬ (rI M (k0 + 30) ((((100 : Int32)) * v1) + v4).toNatClampNeg) = ((1 : Int32))) → w_Mo_chosen_L26 M post n k0 v1 v2 v3 (v4 + (1 : Int32))) ∧ (¬ (¬ (rI M (k0 + 30) ((((100 : Int32)) * v1) + v4).toNatClampNeg) = ((1 : Int32))) → post v4)))))))
theorem g_Mo_chosen_L26 {d w : Nat} (hd : 0 ≤ d) (hw : 0 ≤ w) {M : aM} {post : Int32 → Prop} : ∀ (n : Nat) (k0 : Nat) (v1 : Int32) (v2 : Int32) (v3 : Int32) (v4 : Int32) (o5 : Option aV), w_Mo_chosen_L26 M post n k0 v1 v2 v3 v4 → Gd d w 196 (pIn M post) (26, [some (aR 21 k0), some (aI v1), some (aI v2), some (aI v3), some (aI v4), o5], [], M) := by
  intro n
  induction n with
  | zero => intro k0 v1 v2 v3 v4 o5 h; exact h.elim
  | succ n ih =>
    intro k0 v1 v2 v3 v4 o5 h
    show Gd d w 196 _ (26, [some (aR 21 k0), some (aI v1), some (aI v2), some (aI v3), some (aI v4), o5], [], M)
    obtain ⟨c0, h⟩ := h
    refine gd_s (P := True ∧ True ∧ True ∧ True ∧ (vp_in v1 (rK M (k0 + 10)).2) ∧ True) (σ1 := (34, [some (aR 21 k0), some (aI v1), some (aI v2), some (aI v3), some (aI v4), o5], [aI (rI M (k0 + 10) v1.toNatClampNeg), aI v4], M)) tc_196 rfl 5 (fun u => ⟨_, rfl⟩) ⟨trivial, trivial, trivial, trivial, c0, trivial⟩ ?_
    refine gd_br (c := (rI M (k0 + 10) v1.toNatClampNeg) ≤ v4) (st1 := []) tc_196 rfl rfl (fun _ => rfl) ⟨fun hc => ?_, fun hc => ?_⟩
    · have h := h.1 hc
      show Gd d w 196 _ (94, [some (aR 21 k0), some (aI v1), some (aI v2), some (aI v3), some (aI v4), o5], [], M)
      refine gd_s (P := True ∧ True) (σ1 := (95, [some (aR 21 k0), some (aI v1), some (aI v2), some (aI v3), some (aI v4), o5], [aI ((-1 : Int32))], M)) tc_196 rfl 1 (fun u => ⟨_, rfl⟩) ⟨trivial, trivial⟩ ?_
      exact gd_ret tc_196 rfl rfl trivial (fun _ => rfl) ⟨_, rfl, rfl, h⟩
    · have h := h.2 hc
      show Gd d w 196 _ (37, [some (aR 21 k0), some (aI v1), some (aI v2), some (aI v3), some (aI v4), o5], [], M)
      obtain ⟨c0, h⟩ := h
      refine gd_s (P := True ∧ True ∧ True ∧ True ∧ True ∧ True ∧ True ∧ True ∧ True ∧ (vp_in ((((100 : Int32)) * v1) + v4) (rK M (k0 + 13)).2) ∧ True ∧ True) (σ1 := (54, [some (aR 21 k0), some (aI v1), some (aI v2), some (aI v3), some (aI v4), some (aI ((((100 : Int32)) * v1) + v4))], [aI v2, aI (rI M (k0 + 13) ((((100 : Int32)) * v1) + v4).toNatClampNeg)], M)) tc_196 rfl 11 (fun u => ⟨_, rfl⟩) ⟨trivial, trivial, trivial, trivial, trivial, trivial, trivial, trivial, trivial, c0, trivial, trivial⟩ ?_
      refine gd_br (c := ¬ (rI M (k0 + 13) ((((100 : Int32)) * v1) + v4).toNatClampNeg) = v2) (st1 := []) tc_196 rfl rfl (fun _ => rfl) ⟨fun hc => ?_, fun hc => ?_⟩
      · have h := h.1 hc
        show Gd d w 196 _ (88, [some (aR 21 k0), some (aI v1), some (aI v2), some (aI v3), some (aI v4), some (aI ((((100 : Int32)) * v1) + v4))], [], M)
        refine gd_s (P := True ∧ True ∧ True) (σ1 := (26, [some (aR 21 k0), some (aI v1), some (aI v2), some (aI v3), some (aI (v4 + (1 : Int32))), some (aI ((((100 : Int32)) * v1) + v4))], [], M)) tc_196 rfl 2 (fun u => ⟨_, rfl⟩) ⟨trivial, trivial, trivial⟩ ?_
        exact ih k0 v1 v2 v3 (v4 + (1 : Int32)) (some (aI ((((100 : Int32)) * v1) + v4))) h
      · have h := h.2 hc
        show Gd d w 196 _ (57, [some (aR 21 k0), some (aI v1), some (aI v2), some (aI v3), some (aI v4), some (aI ((((100 : Int32)) * v1) + v4))], [], M)
        refine gd_s (P := True ∧ True) (σ1 := (58, [some (aR 21 k0), some (aI v1), some (aI v2), some (aI v3), some (aI v4), some (aI ((((100 : Int32)) * v1) + v4))], [aI v3], M)) tc_196 rfl 1 (fun u => ⟨_, rfl⟩) ⟨trivial, trivial⟩ ?_
        refine gd_br (c := v3 = ((0 : Int32))) (st1 := []) tc_196 rfl rfl (fun _ => rfl) ⟨fun hc => ?_, fun hc => ?_⟩
        · have h := h.1 hc
          show Gd d w 196 _ (75, [some (aR 21 k0), some (aI v1), some (aI v2), some (aI v3), some (aI v4), some (aI ((((100 : Int32)) * v1) + v4))], [], M)
          obtain ⟨c0, h⟩ := h
          refine gd_s (P := True ∧ True ∧ True ∧ (vp_in ((((100 : Int32)) * v1) + v4) (rK M (k0 + 29)).2) ∧ True) (σ1 := (82, [some (aR 21 k0), some (aI v1), some (aI v2), some (aI v3), some (aI v4), some (aI ((((100 : Int32)) * v1) + v4))], [aI (rI M (k0 + 29) ((((100 : Int32)) * v1) + v4).toNatClampNeg)], M)) tc_196 rfl 4 (fun u => ⟨_, rfl⟩) ⟨trivial, trivial, trivial, c0, trivial⟩ ?_
          refine gd_br (c := (rI M (k0 + 29) ((((100 : Int32)) * v1) + v4).toNatClampNeg) = ((0 : Int32))) (st1 := []) tc_196 rfl rfl (fun _ => rfl) ⟨fun hc => ?_, fun hc => ?_⟩
          · have h := h.1 hc
            show Gd d w 196 _ (88, [some (aR 21 k0), some (aI v1), some (aI v2), some (aI v3), some (aI v4), some (aI ((((100 : Int32)) * v1) + v4))], [], M)
            refine gd_s (P := True ∧ True ∧ True) (σ1 := (26, [some (aR 21 k0), some (aI v1), some (aI v2), some (aI v3), some (aI (v4 + (1 : Int32))), some (aI ((((100 : Int32)) * v1) + v4))], [], M)) tc_196 rfl 2 (fun u => ⟨_, rfl⟩) ⟨trivial, trivial, trivial⟩ ?_
            exact ih k0 v1 v2 v3 (v4 + (1 : Int32)) (some (aI ((((100 : Int32)) * v1) + v4))) h
          · have h := h.2 hc
            show Gd d w 196 _ (85, [some (aR 21 k0), some (aI v1), some (aI v2), some (aI v3), some (aI v4), some (aI ((((100 : Int32)) * v1) + v4))], [], M)
            refine gd_s (P := True ∧ True) (σ1 := (87, [some (aR 21 k0), some (aI v1), some (aI v2), some (aI v3), some (aI v4), some (aI ((((100 : Int32)) * v1) + v4))], [aI v4], M)) tc_196 rfl 1 (fun u => ⟨_, rfl⟩) ⟨trivial, trivial⟩ ?_
            exact gd_ret tc_196 rfl rfl trivial (fun _ => rfl) ⟨_, rfl, rfl, h⟩
        · have h := h.2 hc
          show Gd d w 196 _ (61, [some (aR 21 k0), some (aI v1), some (aI v2), some (aI v3), some (aI v4), some (aI ((((100 : Int32)) * v1) + v4))], [], M)
          obtain ⟨c0, h⟩ := h
          refine gd_s (P := True ∧ True ∧ True ∧ (vp_in ((((100 : Int32)) * v1) + v4) (rK M (k0 + 30)).2) ∧ True ∧ True) (σ1 := (69, [some (aR 21 k0), some (aI v1), some (aI v2), some (aI v3), some (aI v4), some (aI ((((100 : Int32)) * v1) + v4))], [aI ((1 : Int32)), aI (rI M (k0 + 30) ((((100 : Int32)) * v1) + v4).toNatClampNeg)], M)) tc_196 rfl 5 (fun u => ⟨_, rfl⟩) ⟨trivial, trivial, trivial, c0, trivial, trivial⟩ ?_
          refine gd_br (c := ¬ (rI M (k0 + 30) ((((100 : Int32)) * v1) + v4).toNatClampNeg) = ((1 : Int32))) (st1 := []) tc_196 rfl rfl (fun _ => rfl) ⟨fun hc => ?_, fun hc => ?_⟩
          · have h := h.1 hc
            show Gd d w 196 _ (88, [some (aR 21 k0), some (aI v1), some (aI v2), some (aI v3), some (aI v4), some (aI ((((100 : Int32)) * v1) + v4))], [], M)
            refine gd_s (P := True ∧ True ∧ True) (σ1 := (26, [some (aR 21 k0), some (aI v1), some (aI v2), some (aI v3), some (aI (v4 + (1 : Int32))), some (aI ((((100 : Int32)) * v1) + v4))], [], M)) tc_196 rfl 2 (fun u => ⟨_, rfl⟩) ⟨trivial, trivial, trivial⟩ ?_
            exact ih k0 v1 v2 v3 (v4 + (1 : Int32)) (some (aI ((((100 : Int32)) * v1) + v4))) h
          · have h := h.2 hc
            show Gd d w 196 _ (72, [some (aR 21 k0), some (aI v1), some (aI v2), some (aI v3), some (aI v4), some (aI ((((100 : Int32)) * v1) + v4))], [], M)
            refine gd_s (P := True ∧ True ∧ True) (σ1 := (87, [some (aR 21 k0), some (aI v1), some (aI v2), some (aI v3), some (aI v4), some (aI ((((100 : Int32)) * v1) + v4))], [aI v4], M)) tc_196 rfl 2 (fun u => ⟨_, rfl⟩) ⟨trivial, trivial, trivial⟩ ?_
            exact gd_ret tc_196 rfl rfl trivial (fun _ => rfl) ⟨_, rfl, rfl, h⟩
/-- PolicyJudgeModel.chosen(II)I -/
def w_Mo_chosen (post : Int32 → Prop) (k0 : Nat) (v1 : Int32) (v2 : Int32) (M : aM) : Prop := (vp_in ((((100 : Int32)) * v1) + v2) (rK M (k0 + 12)).2) ∧ (((¬ (rI M (k0 + 12) ((((100 : Int32)) * v1) + v2).toNatClampNeg) = ((3 : Int32))) → ∃ n9, w_Mo_chosen_L26 M post n9 k0 v1 v2 ((0 : Int32)) (v2 + ((1 : Int32)))) ∧ (¬ (¬ (rI M (k0 + 12) ((((100 : Int32)) * v1) + v2).toNatClampNeg) = ((3 : Int32))) → ∃ n9, w_Mo_chosen_L26 M post n9 k0 v1 v2 ((1 : Int32)) (v2 + ((1 : Int32)))))
theorem g_Mo_chosen {d w : Nat} (hd : 0 ≤ d) (hw : 0 ≤ w) {post : Int32 → Prop} {k0 : Nat} {v1 : Int32} {v2 : Int32} {M : aM} (h : w_Mo_chosen post k0 v1 v2 M) : Gd d w 196 (pIn M post) (0, aEnt 196 [aR 21 k0, aI v1, aI v2], [], M) := by
  unfold w_Mo_chosen at h
  show Gd d w 196 _ (0, [some (aR 21 k0), some (aI v1), some (aI v2), none, none, none], [], M)
  obtain ⟨c0, h⟩ := h
  refine gd_s (P := True ∧ True ∧ True ∧ True ∧ True ∧ True ∧ True ∧ (vp_in ((((100 : Int32)) * v1) + v2) (rK M (k0 + 12)).2) ∧ True ∧ True) (σ1 := (12, [some (aR 21 k0), some (aI v1), some (aI v2), none, none, none], [aI ((3 : Int32)), aI (rI M (k0 + 12) ((((100 : Int32)) * v1) + v2).toNatClampNeg)], M)) tc_196 rfl 9 (fun u => ⟨_, rfl⟩) ⟨trivial, trivial, trivial, trivial, trivial, trivial, trivial, c0, trivial, trivial⟩ ?_
  refine gd_br (c := ¬ (rI M (k0 + 12) ((((100 : Int32)) * v1) + v2).toNatClampNeg) = ((3 : Int32))) (st1 := []) tc_196 rfl rfl (fun _ => rfl) ⟨fun hc => ?_, fun hc => ?_⟩
  · have h := h.1 hc
    show Gd d w 196 _ (19, [some (aR 21 k0), some (aI v1), some (aI v2), none, none, none], [], M)
    refine gd_s (P := True ∧ True ∧ True ∧ True ∧ True ∧ True ∧ True) (σ1 := (26, [some (aR 21 k0), some (aI v1), some (aI v2), some (aI ((0 : Int32))), some (aI (v2 + ((1 : Int32)))), none], [], M)) tc_196 rfl 6 (fun u => ⟨_, rfl⟩) ⟨trivial, trivial, trivial, trivial, trivial, trivial, trivial⟩ ?_
    obtain ⟨n9, h⟩ := h
    exact g_Mo_chosen_L26 hd hw n9 k0 v1 v2 ((0 : Int32)) (v2 + ((1 : Int32))) none h
  · have h := h.2 hc
    show Gd d w 196 _ (15, [some (aR 21 k0), some (aI v1), some (aI v2), none, none, none], [], M)
    refine gd_s (P := True ∧ True ∧ True ∧ True ∧ True ∧ True ∧ True ∧ True) (σ1 := (26, [some (aR 21 k0), some (aI v1), some (aI v2), some (aI ((1 : Int32))), some (aI (v2 + ((1 : Int32)))), none], [], M)) tc_196 rfl 7 (fun u => ⟨_, rfl⟩) ⟨trivial, trivial, trivial, trivial, trivial, trivial, trivial, trivial⟩ ?_
    obtain ⟨n9, h⟩ := h
    exact g_Mo_chosen_L26 hd hw n9 k0 v1 v2 ((1 : Int32)) (v2 + ((1 : Int32))) none h
theorem tc_194 : tC 194 = c194 := rfl
def w_Mo_combined_J99 (post : Int32 → aM → Prop) (K34 : Nat → Int32 → Int32 → Int32 → Int32 → Int32 → aM → Prop) (k0 : Nat) (v1 : Int32) (v2 : Int32) (v4 : Int32) (v5 : Int32) (v6 : Int32) (s0 : Int32) (M : aM) : Prop := (vp_in v6 (rK M (k0 + 30)).2) ∧ (((¬ (rI M (k0 + 30) v6.toNatClampNeg) = ((1 : Int32))) → K34 k0 v1 v2 s0 v4 (v5 + (1 : Int32)) M) ∧ (¬ (¬ (rI M (k0 + 30) v6.toNatClampNeg) = ((1 : Int32))) → K34 k0 v1 v2 s0 (v4 + ((1 : Int32))) (v5 + (1 : Int32)) M))
theorem g_Mo_combined_J99 {d w : Nat} (hd : 1 ≤ d) (hw : 25 ≤ w) {post : Int32 → aM → Prop} {K34 : Nat → Int32 → Int32 → Int32 → Int32 → Int32 → aM → Prop} (hK34 : ∀ (k0 : Nat) (v1 : Int32) (v2 : Int32) (v3 : Int32) (v4 : Int32) (v5 : Int32) (o6 : Option aV) (M : aM), K34 k0 v1 v2 v3 v4 v5 M → Gd d w 194 (pI post) (34, [some (aR 21 k0), some (aI v1), some (aI v2), some (aI v3), some (aI v4), some (aI v5), o6], [], M)) (k0 : Nat) (v1 : Int32) (v2 : Int32) (v4 : Int32) (v5 : Int32) (v6 : Int32) (s0 : Int32) (o3 : Option aV) (M : aM) (h : w_Mo_combined_J99 post K34 k0 v1 v2 v4 v5 v6 s0 M) : Gd d w 194 (pI post) (99, [some (aR 21 k0), some (aI v1), some (aI v2), o3, some (aI v4), some (aI v5), some (aI v6)], [aI s0], M) := by
  unfold w_Mo_combined_J99 at h
  show Gd d w 194 _ (99, [some (aR 21 k0), some (aI v1), some (aI v2), o3, some (aI v4), some (aI v5), some (aI v6)], [aI s0], M)
  obtain ⟨c0, h⟩ := h
  refine gd_s (P := True ∧ True ∧ True ∧ True ∧ (vp_in v6 (rK M (k0 + 30)).2) ∧ True ∧ True) (σ1 := (108, [some (aR 21 k0), some (aI v1), some (aI v2), some (aI s0), some (aI v4), some (aI v5), some (aI v6)], [aI ((1 : Int32)), aI (rI M (k0 + 30) v6.toNatClampNeg)], M)) tc_194 rfl 6 (fun u => ⟨_, rfl⟩) ⟨trivial, trivial, trivial, trivial, c0, trivial, trivial⟩ ?_
  refine gd_br (c := ¬ (rI M (k0 + 30) v6.toNatClampNeg) = ((1 : Int32))) (st1 := []) tc_194 rfl rfl (fun _ => rfl) ⟨fun hc => ?_, fun hc => ?_⟩
  · have h := h.1 hc
    show Gd d w 194 _ (118, [some (aR 21 k0), some (aI v1), some (aI v2), some (aI s0), some (aI v4), some (aI v5), some (aI v6)], [], M)
    refine gd_s (P := True ∧ True ∧ True ∧ True ∧ True) (σ1 := (34, [some (aR 21 k0), some (aI v1), some (aI v2), some (aI s0), some (aI v4), some (aI (v5 + (1 : Int32))), some (aI v6)], [], M)) tc_194 rfl 4 (fun u => ⟨_, rfl⟩) ⟨trivial, trivial, trivial, trivial, trivial⟩ ?_
    exact hK34 k0 v1 v2 s0 v4 (v5 + (1 : Int32)) (some (aI v6)) M h
  · have h := h.2 hc
    show Gd d w 194 _ (111, [some (aR 21 k0), some (aI v1), some (aI v2), some (aI s0), some (aI v4), some (aI v5), some (aI v6)], [], M)
    refine gd_s (P := True ∧ True ∧ True ∧ True ∧ True ∧ True ∧ True ∧ True) (σ1 := (34, [some (aR 21 k0), some (aI v1), some (aI v2), some (aI s0), some (aI (v4 + ((1 : Int32)))), some (aI (v5 + (1 : Int32))), some (aI v6)], [], M)) tc_194 rfl 7 (fun u => ⟨_, rfl⟩) ⟨trivial, trivial, trivial, trivial, trivial, trivial, trivial, trivial⟩ ?_
    exact hK34 k0 v1 v2 s0 (v4 + ((1 : Int32))) (v5 + (1 : Int32)) (some (aI v6)) M h
def w_Mo_combined_L34 (post : Int32 → aM → Prop) : Nat → Nat → Int32 → Int32 → Int32 → Int32 → Int32 → aM → Prop
  | 0, _, _, _, _, _, _, _ => False
  | n + 1, k0, v1, v2, v3, v4, v5, M => (vp_in v1 (rK M (k0 + 10)).2) ∧ ((((rI M (k0 + 10) v1.toNatClampNeg) ≤ v5) → (vp_in ((((100 : Int32)) * v1) + v2) (rK M (k0 + 12)).2) ∧ ((((rI M (k0 + 12) ((((100 : Int32)) * v1) + v2).toNatClampNeg) = (0 : Int32)) → w_Mo_strict (fun x1 => post x1 M) k0 ((1 : Int32)) ((2 : Int32)) ((3 : Int32)) ((4 : Int32)) M) ∧ (¬ ((rI M (k0 + 12) ((((100 : Int32)) * v1) + v2).toNatClampNeg) = (0 : Int32)) → (((rI M (k0 + 12) ((((100 : Int32)) * v1) + v2).toNatClampNeg) = (1 : Int32)) → w_Mo_strict (fun x2 => post x2 M) k0 ((2 : Int32)) ((1 : Int32)) ((4 : Int32)) ((3 : Int32)) M) ∧ (¬ ((rI M (k0 + 12) ((((100 : Int32)) * v1) + v2).toNatClampNeg) = (1 : Int32)) → (((rI M (k0 + 12) ((((100 : Int32)) * v1) + v2).toNatClampNeg) = (2 : Int32)) → w_Mo_chosen (fun x3 => ((¬ x3 = ((-1 : Int32))) → (vp_in ((((100 : Int32)) * v1) + x3) (rK M (k0 + 29)).2) ∧ post (rI M (k0 + 29) ((((100 : Int32)) * v1) + x3).toNatClampNeg) M) ∧ (¬ (¬ x3 = ((-1 : Int32))) → post ((0 : Int32)) M)) k0 v1 v2 M) ∧ (¬ ((rI M (k0 + 12) ((((100 : Int32)) * v1) + v2).toNatClampNeg) = (2 : Int32)) → (((rI M (k0 + 12) ((((100 : Int32)) * v1) + v2).toNatClampNeg) = (3 : Int32)) → ((((0 : Int32)) < v3) → post ((5 : Int32)) M) ∧ (¬ (((0 : Int32)) < v3) → ((v4 ≤ ((1 : Int32))) → ((¬ v4 = ((0 : Int32))) → w_Mo_chosen (fun x4 => (vp_in ((((100 : Int32)) * v1) + x4) (rK M (k0 + 29)).2) ∧ post (rI M (k0 + 29) ((((100 : Int32)) * v1) + x4).toNatClampNeg) M) k0 v1 v2 M) ∧ (¬ (¬ v4 = ((0 : Int32))) → post ((0 : Int32)) M)) ∧ (¬ (v4 ≤ ((1 : Int32))) → post ((5 : Int32)) M))) ∧ (¬ ((rI M (k0 + 12) ((((100 : Int32)) * v1) + v2).toNatClampNeg) = (3 : Int32)) → (((rI M (k0 + 12) ((((100 : Int32)) * v1) + v2).toNatClampNeg) = (4 : Int32)) → (vp_in ((1 : Int32)) (rK M (k0 + 37)).2) ∧ ((((rI M (k0 + 37) ((1 : Int32)).toNatClampNeg) ≤ ((0 : Int32))) → post ((2 : Int32)) M) ∧ (¬ ((rI M (k0 + 37) ((1 : Int32)).toNatClampNeg) ≤ ((0 : Int32))) → post ((1 : Int32)) M))) ∧ (¬ ((rI M (k0 + 12) ((((100 : Int32)) * v1) + v2).toNatClampNeg) = (4 : Int32)) → (vp_in ((2 : Int32)) (rK M (k0 + 37)).2) ∧ ((((rI M (k0 + 37) ((2 : Int32)).toNatClampNeg) ≤ ((0 : Int32))) → post ((1 : Int32)) M) ∧ (¬ ((rI M (k0 + 37) ((2 : Int32)).toNatClampNeg) ≤ ((0 : Int32))) → post ((2 : Int32)) M))))))))) ∧ (¬ ((rI M (k0 + 10) v1.toNatClampNeg) ≤ v5) → (vp_in ((((100 : Int32)) * v1) + v5) (rK M (k0 + 13)).2) ∧ (((¬ (rI M (k0 + 13) ((((100 : Int32)) * v1) + v5).toNatClampNeg) = v2) → w_Mo_combined_L34 post n k0 v1 v2 v3 v4 (v5 + (1 : Int32)) M) ∧ (¬ (¬ (rI M (k0 + 13) ((((100 : Int32)) * v1) + v5).toNatClampNeg) = v2) → (vp_in ((((100 : Int32)) * v1) + v5) (rK M (k0 + 29)).2) ∧ (vp_in (rI M (k0 + 29) ((((100 : Int32)) * v1) + v5).toNatClampNeg) (rK M (k0 + 37)).2) ∧ (vp_in (rI M (k0 + 29) ((((100 : Int32)) * v1) + v5).toNatClampNeg) (rK M (k0 + 37)).2) ∧ (vp_in ((((100 : Int32)) * v1) + v5) (rK M (k0 + 30)).2) ∧ (((¬ (rI (wI M (k0 + 37) (rI M (k0 + 29) ((((100 : Int32)) * v1) + v5).toNatClampNeg).toNatClampNeg ((rI M (k0 + 37) (rI M (k0 + 29) ((((100 : Int32)) * v1) + v5).toNatClampNeg).toNatClampNeg) + ((1 : Int32)))) (k0 + 30) ((((100 : Int32)) * v1) + v5).toNatClampNeg) = ((2 : Int32))) → w_Mo_combined_J99 post (w_Mo_combined_L34 post n) k0 v1 v2 v4 v5 ((((100 : Int32)) * v1) + v5) v3 (wI M (k0 + 37) (rI M (k0 + 29) ((((100 : Int32)) * v1) + v5).toNatClampNeg).toNatClampNeg ((rI M (k0 + 37) (rI M (k0 + 29) ((((100 : Int32)) * v1) + v5).toNatClampNeg).toNatClampNeg) + ((1 : Int32))))) ∧ (¬ (¬ (rI (wI M (k0 + 37) (rI M (k0 + 29) ((((100 : Int32)) * v1) + v5).toNatClampNeg).toNatClampNeg ((rI M (k0 + 37) (rI M (k0 + 29) ((((100 : Int32)) * v1) + v5).toNatClampNeg).toNatClampNeg) + ((1 : Int32)))) (k0 + 30) ((((100 : Int32)) * v1) + v5).toNatClampNeg) = ((2 : Int32))) → w_Mo_combined_J99 post (w_Mo_combined_L34 post n) k0 v1 v2 v4 v5 ((((100 : Int32)) * v1) + v5) (v3 + ((1 : Int32))) (wI M (k0 + 37) (rI M (k0 + 29) ((((100 : Int32)) * v1) + v5).toNatClampNeg).toNatClampNeg ((rI M (k0 + 37) (rI M (k0 + 29) ((((100 : Int32)) * v1) + v5).toNatClampNeg).toNatClampNeg) + ((1 : Int32))))))))))
theorem g_Mo_combined_L34 {d w : Nat} (hd : 1 ≤ d) (hw : 25 ≤ w) {post : Int32 → aM → Prop} : ∀ (n : Nat) (k0 : Nat) (v1 : Int32) (v2 : Int32) (v3 : Int32) (v4 : Int32) (v5 : Int32) (o6 : Option aV) (M : aM), w_Mo_combined_L34 post n k0 v1 v2 v3 v4 v5 M → Gd d w 194 (pI post) (34, [some (aR 21 k0), some (aI v1), some (aI v2), some (aI v3), some (aI v4), some (aI v5), o6], [], M) := by
  intro n
  induction n with
  | zero => intro k0 v1 v2 v3 v4 v5 o6 M h; exact h.elim
  | succ n ih =>
    intro k0 v1 v2 v3 v4 v5 o6 M h
    show Gd d w 194 _ (34, [some (aR 21 k0), some (aI v1), some (aI v2), some (aI v3), some (aI v4), some (aI v5), o6], [], M)
    obtain ⟨c0, h⟩ := h
    refine gd_s (P := True ∧ True ∧ True ∧ True ∧ (vp_in v1 (rK M (k0 + 10)).2) ∧ True) (σ1 := (42, [some (aR 21 k0), some (aI v1), some (aI v2), some (aI v3), some (aI v4), some (aI v5), o6], [aI (rI M (k0 + 10) v1.toNatClampNeg), aI v5], M)) tc_194 rfl 5 (fun u => ⟨_, rfl⟩) ⟨trivial, trivial, trivial, trivial, c0, trivial⟩ ?_
    refine gd_br (c := (rI M (k0 + 10) v1.toNatClampNeg) ≤ v5) (st1 := []) tc_194 rfl rfl (fun _ => rfl) ⟨fun hc => ?_, fun hc => ?_⟩
    · have h := h.1 hc
      show Gd d w 194 _ (128, [some (aR 21 k0), some (aI v1), some (aI v2), some (aI v3), some (aI v4), some (aI v5), o6], [], M)
      obtain ⟨c0, h⟩ := h
      refine gd_s (P := True ∧ True ∧ True ∧ True ∧ True ∧ True ∧ True ∧ (vp_in ((((100 : Int32)) * v1) + v2) (rK M (k0 + 12)).2) ∧ True) (σ1 := (139, [some (aR 21 k0), some (aI v1), some (aI v2), some (aI v3), some (aI v4), some (aI v5), o6], [aI (rI M (k0 + 12) ((((100 : Int32)) * v1) + v2).toNatClampNeg)], M)) tc_194 rfl 8 (fun u => ⟨_, rfl⟩) ⟨trivial, trivial, trivial, trivial, trivial, trivial, trivial, c0, trivial⟩ ?_
      refine gd_sw tc_194 rfl rfl (fun _ => rfl) ?_
      refine gd_case ⟨fun hc => ?_, fun hc => ?_⟩
      · have h := h.1 hc
        show Gd d w 194 _ (172, [some (aR 21 k0), some (aI v1), some (aI v2), some (aI v3), some (aI v4), some (aI v5), o6], [], M)
        refine gd_s (P := True ∧ True ∧ True ∧ True ∧ True ∧ True) (σ1 := (177, [some (aR 21 k0), some (aI v1), some (aI v2), some (aI v3), some (aI v4), some (aI v5), o6], [aI ((4 : Int32)), aI ((3 : Int32)), aI ((2 : Int32)), aI ((1 : Int32)), aR 21 k0], M)) tc_194 rfl 5 (fun u => ⟨_, rfl⟩) ⟨trivial, trivial, trivial, trivial, trivial, trivial⟩ ?_
        refine gd_callN (ml := 5) (as := [aR 21 k0, aI ((1 : Int32)), aI ((2 : Int32)), aI ((3 : Int32)), aI ((4 : Int32))]) (rest := []) tc_194 rfl rfl rfl rfl rfl (by omega) (by omega) (Nat.le_of_ble_eq_true rfl) rfl (g_Mo_strict (by omega) (by omega) h) (fun r9 M9 h => ?_)
        obtain ⟨x1, rfl, e9, h⟩ := h
        subst M9
        show Gd d w 194 _ (180, [some (aR 21 k0), some (aI v1), some (aI v2), some (aI v3), some (aI v4), some (aI v5), o6], [aI x1], M)
        exact gd_ret tc_194 rfl rfl trivial (fun _ => rfl) ⟨_, rfl, h⟩
      have h := h.2 hc
      refine gd_case ⟨fun hc => ?_, fun hc => ?_⟩
      · have h := h.1 hc
        show Gd d w 194 _ (181, [some (aR 21 k0), some (aI v1), some (aI v2), some (aI v3), some (aI v4), some (aI v5), o6], [], M)
        refine gd_s (P := True ∧ True ∧ True ∧ True ∧ True ∧ True) (σ1 := (186, [some (aR 21 k0), some (aI v1), some (aI v2), some (aI v3), some (aI v4), some (aI v5), o6], [aI ((3 : Int32)), aI ((4 : Int32)), aI ((1 : Int32)), aI ((2 : Int32)), aR 21 k0], M)) tc_194 rfl 5 (fun u => ⟨_, rfl⟩) ⟨trivial, trivial, trivial, trivial, trivial, trivial⟩ ?_
        refine gd_callN (ml := 5) (as := [aR 21 k0, aI ((2 : Int32)), aI ((1 : Int32)), aI ((4 : Int32)), aI ((3 : Int32))]) (rest := []) tc_194 rfl rfl rfl rfl rfl (by omega) (by omega) (Nat.le_of_ble_eq_true rfl) rfl (g_Mo_strict (by omega) (by omega) h) (fun r9 M9 h => ?_)
        obtain ⟨x2, rfl, e9, h⟩ := h
        subst M9
        show Gd d w 194 _ (189, [some (aR 21 k0), some (aI v1), some (aI v2), some (aI v3), some (aI v4), some (aI v5), o6], [aI x2], M)
        exact gd_ret tc_194 rfl rfl trivial (fun _ => rfl) ⟨_, rfl, h⟩
      have h := h.2 hc
      refine gd_case ⟨fun hc => ?_, fun hc => ?_⟩
      · have h := h.1 hc
        show Gd d w 194 _ (190, [some (aR 21 k0), some (aI v1), some (aI v2), some (aI v3), some (aI v4), some (aI v5), o6], [], M)
        refine gd_s (P := True ∧ True ∧ True ∧ True) (σ1 := (193, [some (aR 21 k0), some (aI v1), some (aI v2), some (aI v3), some (aI v4), some (aI v5), o6], [aI v2, aI v1, aR 21 k0], M)) tc_194 rfl 3 (fun u => ⟨_, rfl⟩) ⟨trivial, trivial, trivial, trivial⟩ ?_
        refine gd_callN (ml := 6) (as := [aR 21 k0, aI v1, aI v2]) (rest := []) tc_194 rfl rfl rfl rfl rfl (by omega) (by omega) (Nat.le_of_ble_eq_true rfl) rfl (g_Mo_chosen (by omega) (by omega) h) (fun r9 M9 h => ?_)
        obtain ⟨x3, rfl, e9, h⟩ := h
        subst M9
        show Gd d w 194 _ (196, [some (aR 21 k0), some (aI v1), some (aI v2), some (aI v3), some (aI v4), some (aI v5), o6], [aI x3], M)
        refine gd_s (P := True ∧ True ∧ True ∧ True) (σ1 := (201, [some (aR 21 k0), some (aI v1), some (aI v2), some (aI v3), some (aI v4), some (aI x3), o6], [aI ((-1 : Int32)), aI x3], M)) tc_194 rfl 3 (fun u => ⟨_, rfl⟩) ⟨trivial, trivial, trivial, trivial⟩ ?_
        refine gd_br (c := ¬ x3 = ((-1 : Int32))) (st1 := []) tc_194 rfl rfl (fun _ => rfl) ⟨fun hc => ?_, fun hc => ?_⟩
        · have h := h.1 hc
          show Gd d w 194 _ (208, [some (aR 21 k0), some (aI v1), some (aI v2), some (aI v3), some (aI v4), some (aI x3), o6], [], M)
          obtain ⟨c0, h⟩ := h
          refine gd_s (P := True ∧ True ∧ True ∧ True ∧ True ∧ True ∧ True ∧ (vp_in ((((100 : Int32)) * v1) + x3) (rK M (k0 + 29)).2) ∧ True) (σ1 := (220, [some (aR 21 k0), some (aI v1), some (aI v2), some (aI v3), some (aI v4), some (aI x3), o6], [aI (rI M (k0 + 29) ((((100 : Int32)) * v1) + x3).toNatClampNeg)], M)) tc_194 rfl 8 (fun u => ⟨_, rfl⟩) ⟨trivial, trivial, trivial, trivial, trivial, trivial, trivial, c0, trivial⟩ ?_
          exact gd_ret tc_194 rfl rfl trivial (fun _ => rfl) ⟨_, rfl, h⟩
        · have h := h.2 hc
          show Gd d w 194 _ (204, [some (aR 21 k0), some (aI v1), some (aI v2), some (aI v3), some (aI v4), some (aI x3), o6], [], M)
          refine gd_s (P := True ∧ True ∧ True) (σ1 := (220, [some (aR 21 k0), some (aI v1), some (aI v2), some (aI v3), some (aI v4), some (aI x3), o6], [aI ((0 : Int32))], M)) tc_194 rfl 2 (fun u => ⟨_, rfl⟩) ⟨trivial, trivial, trivial⟩ ?_
          exact gd_ret tc_194 rfl rfl trivial (fun _ => rfl) ⟨_, rfl, h⟩
      have h := h.2 hc
      refine gd_case ⟨fun hc => ?_, fun hc => ?_⟩
      · have h := h.1 hc
        show Gd d w 194 _ (221, [some (aR 21 k0), some (aI v1), some (aI v2), some (aI v3), some (aI v4), some (aI v5), o6], [], M)
        refine gd_s (P := True ∧ True) (σ1 := (222, [some (aR 21 k0), some (aI v1), some (aI v2), some (aI v3), some (aI v4), some (aI v5), o6], [aI v3], M)) tc_194 rfl 1 (fun u => ⟨_, rfl⟩) ⟨trivial, trivial⟩ ?_
        refine gd_br (c := ((0 : Int32)) < v3) (st1 := []) tc_194 rfl rfl (fun _ => rfl) ⟨fun hc => ?_, fun hc => ?_⟩
        · have h := h.1 hc
          show Gd d w 194 _ (231, [some (aR 21 k0), some (aI v1), some (aI v2), some (aI v3), some (aI v4), some (aI v5), o6], [], M)
          refine gd_s (P := True ∧ True ∧ True) (σ1 := (260, [some (aR 21 k0), some (aI v1), some (aI v2), some (aI v3), some (aI v4), some (aI v5), o6], [aI ((5 : Int32))], M)) tc_194 rfl 2 (fun u => ⟨_, rfl⟩) ⟨trivial, trivial, trivial⟩ ?_
          exact gd_ret tc_194 rfl rfl trivial (fun _ => rfl) ⟨_, rfl, h⟩
        · have h := h.2 hc
          show Gd d w 194 _ (225, [some (aR 21 k0), some (aI v1), some (aI v2), some (aI v3), some (aI v4), some (aI v5), o6], [], M)
          refine gd_s (P := True ∧ True ∧ True) (σ1 := (228, [some (aR 21 k0), some (aI v1), some (aI v2), some (aI v3), some (aI v4), some (aI v5), o6], [aI ((1 : Int32)), aI v4], M)) tc_194 rfl 2 (fun u => ⟨_, rfl⟩) ⟨trivial, trivial, trivial⟩ ?_
          refine gd_br (c := v4 ≤ ((1 : Int32))) (st1 := []) tc_194 rfl rfl (fun _ => rfl) ⟨fun hc => ?_, fun hc => ?_⟩
          · have h := h.1 hc
            show Gd d w 194 _ (235, [some (aR 21 k0), some (aI v1), some (aI v2), some (aI v3), some (aI v4), some (aI v5), o6], [], M)
            refine gd_s (P := True ∧ True) (σ1 := (237, [some (aR 21 k0), some (aI v1), some (aI v2), some (aI v3), some (aI v4), some (aI v5), o6], [aI v4], M)) tc_194 rfl 1 (fun u => ⟨_, rfl⟩) ⟨trivial, trivial⟩ ?_
            refine gd_br (c := ¬ v4 = ((0 : Int32))) (st1 := []) tc_194 rfl rfl (fun _ => rfl) ⟨fun hc => ?_, fun hc => ?_⟩
            · have h := h.1 hc
              show Gd d w 194 _ (244, [some (aR 21 k0), some (aI v1), some (aI v2), some (aI v3), some (aI v4), some (aI v5), o6], [], M)
              refine gd_s (P := True ∧ True ∧ True ∧ True ∧ True ∧ True ∧ True ∧ True ∧ True) (σ1 := (255, [some (aR 21 k0), some (aI v1), some (aI v2), some (aI v3), some (aI v4), some (aI v5), o6], [aI v2, aI v1, aR 21 k0, aI (((100 : Int32)) * v1), aR 4 (k0 + 29)], M)) tc_194 rfl 8 (fun u => ⟨_, rfl⟩) ⟨trivial, trivial, trivial, trivial, trivial, trivial, trivial, trivial, trivial⟩ ?_
              refine gd_callN (ml := 6) (as := [aR 21 k0, aI v1, aI v2]) (rest := [aI (((100 : Int32)) * v1), aR 4 (k0 + 29)]) tc_194 rfl rfl rfl rfl rfl (by omega) (by omega) (Nat.le_of_ble_eq_true rfl) rfl (g_Mo_chosen (by omega) (by omega) h) (fun r9 M9 h => ?_)
              obtain ⟨x4, rfl, e9, h⟩ := h
              subst M9
              show Gd d w 194 _ (258, [some (aR 21 k0), some (aI v1), some (aI v2), some (aI v3), some (aI v4), some (aI v5), o6], [aI x4, aI (((100 : Int32)) * v1), aR 4 (k0 + 29)], M)
              obtain ⟨c0, h⟩ := h
              refine gd_s (P := True ∧ (vp_in ((((100 : Int32)) * v1) + x4) (rK M (k0 + 29)).2) ∧ True) (σ1 := (260, [some (aR 21 k0), some (aI v1), some (aI v2), some (aI v3), some (aI v4), some (aI v5), o6], [aI (rI M (k0 + 29) ((((100 : Int32)) * v1) + x4).toNatClampNeg)], M)) tc_194 rfl 2 (fun u => ⟨_, rfl⟩) ⟨trivial, c0, trivial⟩ ?_
              exact gd_ret tc_194 rfl rfl trivial (fun _ => rfl) ⟨_, rfl, h⟩
            · have h := h.2 hc
              show Gd d w 194 _ (240, [some (aR 21 k0), some (aI v1), some (aI v2), some (aI v3), some (aI v4), some (aI v5), o6], [], M)
              refine gd_s (P := True ∧ True ∧ True) (σ1 := (260, [some (aR 21 k0), some (aI v1), some (aI v2), some (aI v3), some (aI v4), some (aI v5), o6], [aI ((0 : Int32))], M)) tc_194 rfl 2 (fun u => ⟨_, rfl⟩) ⟨trivial, trivial, trivial⟩ ?_
              exact gd_ret tc_194 rfl rfl trivial (fun _ => rfl) ⟨_, rfl, h⟩
          · have h := h.2 hc
            show Gd d w 194 _ (231, [some (aR 21 k0), some (aI v1), some (aI v2), some (aI v3), some (aI v4), some (aI v5), o6], [], M)
            refine gd_s (P := True ∧ True ∧ True) (σ1 := (260, [some (aR 21 k0), some (aI v1), some (aI v2), some (aI v3), some (aI v4), some (aI v5), o6], [aI ((5 : Int32))], M)) tc_194 rfl 2 (fun u => ⟨_, rfl⟩) ⟨trivial, trivial, trivial⟩ ?_
            exact gd_ret tc_194 rfl rfl trivial (fun _ => rfl) ⟨_, rfl, h⟩
      have h := h.2 hc
      refine gd_case ⟨fun hc => ?_, fun hc => ?_⟩
      · have h := h.1 hc
        show Gd d w 194 _ (261, [some (aR 21 k0), some (aI v1), some (aI v2), some (aI v3), some (aI v4), some (aI v5), o6], [], M)
        obtain ⟨c0, h⟩ := h
        refine gd_s (P := True ∧ True ∧ True ∧ (vp_in ((1 : Int32)) (rK M (k0 + 37)).2) ∧ True) (σ1 := (267, [some (aR 21 k0), some (aI v1), some (aI v2), some (aI v3), some (aI v4), some (aI v5), o6], [aI (rI M (k0 + 37) ((1 : Int32)).toNatClampNeg)], M)) tc_194 rfl 4 (fun u => ⟨_, rfl⟩) ⟨trivial, trivial, trivial, c0, trivial⟩ ?_
        refine gd_br (c := (rI M (k0 + 37) ((1 : Int32)).toNatClampNeg) ≤ ((0 : Int32))) (st1 := []) tc_194 rfl rfl (fun _ => rfl) ⟨fun hc => ?_, fun hc => ?_⟩
        · have h := h.1 hc
          show Gd d w 194 _ (274, [some (aR 21 k0), some (aI v1), some (aI v2), some (aI v3), some (aI v4), some (aI v5), o6], [], M)
          refine gd_s (P := True ∧ True) (σ1 := (275, [some (aR 21 k0), some (aI v1), some (aI v2), some (aI v3), some (aI v4), some (aI v5), o6], [aI ((2 : Int32))], M)) tc_194 rfl 1 (fun u => ⟨_, rfl⟩) ⟨trivial, trivial⟩ ?_
          exact gd_ret tc_194 rfl rfl trivial (fun _ => rfl) ⟨_, rfl, h⟩
        · have h := h.2 hc
          show Gd d w 194 _ (270, [some (aR 21 k0), some (aI v1), some (aI v2), some (aI v3), some (aI v4), some (aI v5), o6], [], M)
          refine gd_s (P := True ∧ True ∧ True) (σ1 := (275, [some (aR 21 k0), some (aI v1), some (aI v2), some (aI v3), some (aI v4), some (aI v5), o6], [aI ((1 : Int32))], M)) tc_194 rfl 2 (fun u => ⟨_, rfl⟩) ⟨trivial, trivial, trivial⟩ ?_
          exact gd_ret tc_194 rfl rfl trivial (fun _ => rfl) ⟨_, rfl, h⟩
      have h := h.2 hc
      show Gd d w 194 _ (276, [some (aR 21 k0), some (aI v1), some (aI v2), some (aI v3), some (aI v4), some (aI v5), o6], [], M)
      obtain ⟨c0, h⟩ := h
      refine gd_s (P := True ∧ True ∧ True ∧ (vp_in ((2 : Int32)) (rK M (k0 + 37)).2) ∧ True) (σ1 := (282, [some (aR 21 k0), some (aI v1), some (aI v2), some (aI v3), some (aI v4), some (aI v5), o6], [aI (rI M (k0 + 37) ((2 : Int32)).toNatClampNeg)], M)) tc_194 rfl 4 (fun u => ⟨_, rfl⟩) ⟨trivial, trivial, trivial, c0, trivial⟩ ?_
      refine gd_br (c := (rI M (k0 + 37) ((2 : Int32)).toNatClampNeg) ≤ ((0 : Int32))) (st1 := []) tc_194 rfl rfl (fun _ => rfl) ⟨fun hc => ?_, fun hc => ?_⟩
      · have h := h.1 hc
        show Gd d w 194 _ (289, [some (aR 21 k0), some (aI v1), some (aI v2), some (aI v3), some (aI v4), some (aI v5), o6], [], M)
        refine gd_s (P := True ∧ True) (σ1 := (290, [some (aR 21 k0), some (aI v1), some (aI v2), some (aI v3), some (aI v4), some (aI v5), o6], [aI ((1 : Int32))], M)) tc_194 rfl 1 (fun u => ⟨_, rfl⟩) ⟨trivial, trivial⟩ ?_
        exact gd_ret tc_194 rfl rfl trivial (fun _ => rfl) ⟨_, rfl, h⟩
      · have h := h.2 hc
        show Gd d w 194 _ (285, [some (aR 21 k0), some (aI v1), some (aI v2), some (aI v3), some (aI v4), some (aI v5), o6], [], M)
        refine gd_s (P := True ∧ True ∧ True) (σ1 := (290, [some (aR 21 k0), some (aI v1), some (aI v2), some (aI v3), some (aI v4), some (aI v5), o6], [aI ((2 : Int32))], M)) tc_194 rfl 2 (fun u => ⟨_, rfl⟩) ⟨trivial, trivial, trivial⟩ ?_
        exact gd_ret tc_194 rfl rfl trivial (fun _ => rfl) ⟨_, rfl, h⟩
    · have h := h.2 hc
      show Gd d w 194 _ (45, [some (aR 21 k0), some (aI v1), some (aI v2), some (aI v3), some (aI v4), some (aI v5), o6], [], M)
      obtain ⟨c0, h⟩ := h
      refine gd_s (P := True ∧ True ∧ True ∧ True ∧ True ∧ True ∧ True ∧ True ∧ True ∧ (vp_in ((((100 : Int32)) * v1) + v5) (rK M (k0 + 13)).2) ∧ True ∧ True) (σ1 := (62, [some (aR 21 k0), some (aI v1), some (aI v2), some (aI v3), some (aI v4), some (aI v5), some (aI ((((100 : Int32)) * v1) + v5))], [aI v2, aI (rI M (k0 + 13) ((((100 : Int32)) * v1) + v5).toNatClampNeg)], M)) tc_194 rfl 11 (fun u => ⟨_, rfl⟩) ⟨trivial, trivial, trivial, trivial, trivial, trivial, trivial, trivial, trivial, c0, trivial, trivial⟩ ?_
      refine gd_br (c := ¬ (rI M (k0 + 13) ((((100 : Int32)) * v1) + v5).toNatClampNeg) = v2) (st1 := []) tc_194 rfl rfl (fun _ => rfl) ⟨fun hc => ?_, fun hc => ?_⟩
      · have h := h.1 hc
        show Gd d w 194 _ (122, [some (aR 21 k0), some (aI v1), some (aI v2), some (aI v3), some (aI v4), some (aI v5), some (aI ((((100 : Int32)) * v1) + v5))], [], M)
        refine gd_s (P := True ∧ True ∧ True) (σ1 := (34, [some (aR 21 k0), some (aI v1), some (aI v2), some (aI v3), some (aI v4), some (aI (v5 + (1 : Int32))), some (aI ((((100 : Int32)) * v1) + v5))], [], M)) tc_194 rfl 2 (fun u => ⟨_, rfl⟩) ⟨trivial, trivial, trivial⟩ ?_
        exact ih k0 v1 v2 v3 v4 (v5 + (1 : Int32)) (some (aI ((((100 : Int32)) * v1) + v5))) M h
      · have h := h.2 hc
        show Gd d w 194 _ (65, [some (aR 21 k0), some (aI v1), some (aI v2), some (aI v3), some (aI v4), some (aI v5), some (aI ((((100 : Int32)) * v1) + v5))], [], M)
        obtain ⟨c0, c1, c2, c3, h⟩ := h
        refine gd_s (P := True ∧ True ∧ True ∧ True ∧ True ∧ (vp_in ((((100 : Int32)) * v1) + v5) (rK M (k0 + 29)).2) ∧ True ∧ (vp_in (rI M (k0 + 29) ((((100 : Int32)) * v1) + v5).toNatClampNeg) (rK M (k0 + 37)).2) ∧ True ∧ True ∧ (vp_in (rI M (k0 + 29) ((((100 : Int32)) * v1) + v5).toNatClampNeg) (rK M (k0 + 37)).2) ∧ True ∧ True ∧ True ∧ (vp_in ((((100 : Int32)) * v1) + v5) (rK M (k0 + 30)).2) ∧ True ∧ True) (σ1 := (89, [some (aR 21 k0), some (aI v1), some (aI v2), some (aI v3), some (aI v4), some (aI v5), some (aI ((((100 : Int32)) * v1) + v5))], [aI ((2 : Int32)), aI (rI (wI M (k0 + 37) (rI M (k0 + 29) ((((100 : Int32)) * v1) + v5).toNatClampNeg).toNatClampNeg ((rI M (k0 + 37) (rI M (k0 + 29) ((((100 : Int32)) * v1) + v5).toNatClampNeg).toNatClampNeg) + ((1 : Int32)))) (k0 + 30) ((((100 : Int32)) * v1) + v5).toNatClampNeg)], wI M (k0 + 37) (rI M (k0 + 29) ((((100 : Int32)) * v1) + v5).toNatClampNeg).toNatClampNeg ((rI M (k0 + 37) (rI M (k0 + 29) ((((100 : Int32)) * v1) + v5).toNatClampNeg).toNatClampNeg) + ((1 : Int32))))) tc_194 rfl 16 (fun u => ⟨_, rfl⟩) ⟨trivial, trivial, trivial, trivial, trivial, c0, trivial, c1, trivial, trivial, c2, trivial, trivial, trivial, c3, trivial, trivial⟩ ?_
        refine gd_br (c := ¬ (rI (wI M (k0 + 37) (rI M (k0 + 29) ((((100 : Int32)) * v1) + v5).toNatClampNeg).toNatClampNeg ((rI M (k0 + 37) (rI M (k0 + 29) ((((100 : Int32)) * v1) + v5).toNatClampNeg).toNatClampNeg) + ((1 : Int32)))) (k0 + 30) ((((100 : Int32)) * v1) + v5).toNatClampNeg) = ((2 : Int32))) (st1 := []) tc_194 rfl rfl (fun _ => rfl) ⟨fun hc => ?_, fun hc => ?_⟩
        · have h := h.1 hc
          show Gd d w 194 _ (98, [some (aR 21 k0), some (aI v1), some (aI v2), some (aI v3), some (aI v4), some (aI v5), some (aI ((((100 : Int32)) * v1) + v5))], [], wI M (k0 + 37) (rI M (k0 + 29) ((((100 : Int32)) * v1) + v5).toNatClampNeg).toNatClampNeg ((rI M (k0 + 37) (rI M (k0 + 29) ((((100 : Int32)) * v1) + v5).toNatClampNeg).toNatClampNeg) + ((1 : Int32))))
          refine gd_s (P := True ∧ True) (σ1 := (99, [some (aR 21 k0), some (aI v1), some (aI v2), some (aI v3), some (aI v4), some (aI v5), some (aI ((((100 : Int32)) * v1) + v5))], [aI v3], wI M (k0 + 37) (rI M (k0 + 29) ((((100 : Int32)) * v1) + v5).toNatClampNeg).toNatClampNeg ((rI M (k0 + 37) (rI M (k0 + 29) ((((100 : Int32)) * v1) + v5).toNatClampNeg).toNatClampNeg) + ((1 : Int32))))) tc_194 rfl 1 (fun u => ⟨_, rfl⟩) ⟨trivial, trivial⟩ ?_
          exact g_Mo_combined_J99 hd hw ih k0 v1 v2 v4 v5 ((((100 : Int32)) * v1) + v5) v3 (some (aI v3)) (wI M (k0 + 37) (rI M (k0 + 29) ((((100 : Int32)) * v1) + v5).toNatClampNeg).toNatClampNeg ((rI M (k0 + 37) (rI M (k0 + 29) ((((100 : Int32)) * v1) + v5).toNatClampNeg).toNatClampNeg) + ((1 : Int32)))) h
        · have h := h.2 hc
          show Gd d w 194 _ (92, [some (aR 21 k0), some (aI v1), some (aI v2), some (aI v3), some (aI v4), some (aI v5), some (aI ((((100 : Int32)) * v1) + v5))], [], wI M (k0 + 37) (rI M (k0 + 29) ((((100 : Int32)) * v1) + v5).toNatClampNeg).toNatClampNeg ((rI M (k0 + 37) (rI M (k0 + 29) ((((100 : Int32)) * v1) + v5).toNatClampNeg).toNatClampNeg) + ((1 : Int32))))
          refine gd_s (P := True ∧ True ∧ True ∧ True ∧ True) (σ1 := (99, [some (aR 21 k0), some (aI v1), some (aI v2), some (aI v3), some (aI v4), some (aI v5), some (aI ((((100 : Int32)) * v1) + v5))], [aI (v3 + ((1 : Int32)))], wI M (k0 + 37) (rI M (k0 + 29) ((((100 : Int32)) * v1) + v5).toNatClampNeg).toNatClampNeg ((rI M (k0 + 37) (rI M (k0 + 29) ((((100 : Int32)) * v1) + v5).toNatClampNeg).toNatClampNeg) + ((1 : Int32))))) tc_194 rfl 4 (fun u => ⟨_, rfl⟩) ⟨trivial, trivial, trivial, trivial, trivial⟩ ?_
          exact g_Mo_combined_J99 hd hw ih k0 v1 v2 v4 v5 ((((100 : Int32)) * v1) + v5) (v3 + ((1 : Int32))) (some (aI v3)) (wI M (k0 + 37) (rI M (k0 + 29) ((((100 : Int32)) * v1) + v5).toNatClampNeg).toNatClampNeg ((rI M (k0 + 37) (rI M (k0 + 29) ((((100 : Int32)) * v1) + v5).toNatClampNeg).toNatClampNeg) + ((1 : Int32)))) h
def w_Mo_combined_L8 (post : Int32 → aM → Prop) : Nat → Nat → Int32 → Int32 → Int32 → Int32 → Int32 → aM → Prop
  | 0, _, _, _, _, _, _, _ => False
  | n + 1, k0, v1, v2, v3, v4, v5, M => ((((6 : Int32)) ≤ v5) → ∃ n9, w_Mo_combined_L34 post n9 k0 v1 v2 v3 v4 (v2 + ((1 : Int32))) M) ∧ (¬ (((6 : Int32)) ≤ v5) → (vp_in v5 (rK M (k0 + 37)).2) ∧ (w_Mo_combined_L8 post n k0 v1 v2 v3 v4 (v5 + (1 : Int32)) (wI M (k0 + 37) v5.toNatClampNeg ((0 : Int32)))))
theorem g_Mo_combined_L8 {d w : Nat} (hd : 1 ≤ d) (hw : 25 ≤ w) {post : Int32 → aM → Prop} : ∀ (n : Nat) (k0 : Nat) (v1 : Int32) (v2 : Int32) (v3 : Int32) (v4 : Int32) (v5 : Int32) (o6 : Option aV) (M : aM), w_Mo_combined_L8 post n k0 v1 v2 v3 v4 v5 M → Gd d w 194 (pI post) (8, [some (aR 21 k0), some (aI v1), some (aI v2), some (aI v3), some (aI v4), some (aI v5), o6], [], M) := by
  intro n
  induction n with
  | zero => intro k0 v1 v2 v3 v4 v5 o6 M h; exact h.elim
  | succ n ih =>
    intro k0 v1 v2 v3 v4 v5 o6 M h
    show Gd d w 194 _ (8, [some (aR 21 k0), some (aI v1), some (aI v2), some (aI v3), some (aI v4), some (aI v5), o6], [], M)
    refine gd_s (P := True ∧ True ∧ True) (σ1 := (12, [some (aR 21 k0), some (aI v1), some (aI v2), some (aI v3), some (aI v4), some (aI v5), o6], [aI ((6 : Int32)), aI v5], M)) tc_194 rfl 2 (fun u => ⟨_, rfl⟩) ⟨trivial, trivial, trivial⟩ ?_
    refine gd_br (c := ((6 : Int32)) ≤ v5) (st1 := []) tc_194 rfl rfl (fun _ => rfl) ⟨fun hc => ?_, fun hc => ?_⟩
    · have h := h.1 hc
      show Gd d w 194 _ (29, [some (aR 21 k0), some (aI v1), some (aI v2), some (aI v3), some (aI v4), some (aI v5), o6], [], M)
      refine gd_s (P := True ∧ True ∧ True ∧ True ∧ True) (σ1 := (34, [some (aR 21 k0), some (aI v1), some (aI v2), some (aI v3), some (aI v4), some (aI (v2 + ((1 : Int32)))), o6], [], M)) tc_194 rfl 4 (fun u => ⟨_, rfl⟩) ⟨trivial, trivial, trivial, trivial, trivial⟩ ?_
      obtain ⟨n9, h⟩ := h
      exact g_Mo_combined_L34 hd hw n9 k0 v1 v2 v3 v4 (v2 + ((1 : Int32))) o6 M h
    · have h := h.2 hc
      show Gd d w 194 _ (15, [some (aR 21 k0), some (aI v1), some (aI v2), some (aI v3), some (aI v4), some (aI v5), o6], [], M)
      obtain ⟨c0, h⟩ := h
      refine gd_s (P := True ∧ True ∧ True ∧ True ∧ (vp_in v5 (rK M (k0 + 37)).2) ∧ True ∧ True ∧ True) (σ1 := (8, [some (aR 21 k0), some (aI v1), some (aI v2), some (aI v3), some (aI v4), some (aI (v5 + (1 : Int32))), o6], [], wI M (k0 + 37) v5.toNatClampNeg ((0 : Int32)))) tc_194 rfl 7 (fun u => ⟨_, rfl⟩) ⟨trivial, trivial, trivial, trivial, c0, trivial, trivial, trivial⟩ ?_
      exact ih k0 v1 v2 v3 v4 (v5 + (1 : Int32)) o6 (wI M (k0 + 37) v5.toNatClampNeg ((0 : Int32))) h
/-- PolicyJudgeModel.combined(II)I -/
def w_Mo_combined (post : Int32 → aM → Prop) (k0 : Nat) (v1 : Int32) (v2 : Int32) (M : aM) : Prop := ∃ n9, w_Mo_combined_L8 post n9 k0 v1 v2 ((0 : Int32)) ((0 : Int32)) ((0 : Int32)) M
theorem g_Mo_combined {d w : Nat} (hd : 1 ≤ d) (hw : 25 ≤ w) {post : Int32 → aM → Prop} {k0 : Nat} {v1 : Int32} {v2 : Int32} {M : aM} (h : w_Mo_combined post k0 v1 v2 M) : Gd d w 194 (pI post) (0, aEnt 194 [aR 21 k0, aI v1, aI v2], [], M) := by
  unfold w_Mo_combined at h
  show Gd d w 194 _ (0, [some (aR 21 k0), some (aI v1), some (aI v2), none, none, none, none], [], M)
  refine gd_s (P := True ∧ True ∧ True ∧ True ∧ True ∧ True ∧ True) (σ1 := (8, [some (aR 21 k0), some (aI v1), some (aI v2), some (aI ((0 : Int32))), some (aI ((0 : Int32))), some (aI ((0 : Int32))), none], [], M)) tc_194 rfl 6 (fun u => ⟨_, rfl⟩) ⟨trivial, trivial, trivial, trivial, trivial, trivial, trivial⟩ ?_
  obtain ⟨n9, h⟩ := h
  exact g_Mo_combined_L8 hd hw n9 k0 v1 v2 ((0 : Int32)) ((0 : Int32)) ((0 : Int32)) none M h
theorem tc_187 : tC 187 = c187 := rfl
def w_Mo_judge_J113 (post : aM → Prop) (K44 : Nat → Int32 → Int32 → aM → Prop) (k0 : Nat) (v1 : Int32) (v2 : Int32) (v3 : Int32) (s0 : Int32) (M : aM) : Prop := (vp_in v3 (rK M (k0 + 30)).2) ∧ (((¬ (rI M (k0 + 30) v3.toNatClampNeg) = ((0 : Int32))) → (vp_in v3 (rK M (k0 + 30)).2) ∧ (((¬ (rI M (k0 + 30) v3.toNatClampNeg) = ((1 : Int32))) → ((¬ s0 = ((1 : Int32))) → ((¬ s0 = ((2 : Int32))) → (vp_in v3 (rK M (k0 + 29)).2) ∧ (K44 k0 v1 (v2 + (-1 : Int32)) (wI M (k0 + 29) v3.toNatClampNeg s0))) ∧ (¬ (¬ s0 = ((2 : Int32))) → (vp_in v3 (rK M (k0 + 29)).2) ∧ (K44 k0 v1 (v2 + (-1 : Int32)) (wI M (k0 + 29) v3.toNatClampNeg ((4 : Int32)))))) ∧ (¬ (¬ s0 = ((1 : Int32))) → (vp_in v3 (rK M (k0 + 29)).2) ∧ (K44 k0 v1 (v2 + (-1 : Int32)) (wI M (k0 + 29) v3.toNatClampNeg ((3 : Int32)))))) ∧ (¬ (¬ (rI M (k0 + 30) v3.toNatClampNeg) = ((1 : Int32))) → (vp_in v3 (rK M (k0 + 29)).2) ∧ (K44 k0 v1 (v2 + (-1 : Int32)) (wI M (k0 + 29) v3.toNatClampNeg s0))))) ∧ (¬ (¬ (rI M (k0 + 30) v3.toNatClampNeg) = ((0 : Int32))) → (vp_in v3 (rK M (k0 + 29)).2) ∧ (K44 k0 v1 (v2 + (-1 : Int32)) (wI M (k0 + 29) v3.toNatClampNeg ((0 : Int32))))))
theorem g_Mo_judge_J113 {d w : Nat} (hd : 3 ≤ d) (hw : 76 ≤ w) {post : aM → Prop} {K44 : Nat → Int32 → Int32 → aM → Prop} (hK44 : ∀ (k0 : Nat) (v1 : Int32) (v2 : Int32) (o3 o4 : Option aV) (M : aM), K44 k0 v1 v2 M → Gd d w 187 (pV post) (44, [some (aR 21 k0), some (aI v1), some (aI v2), o3, o4], [], M)) (k0 : Nat) (v1 : Int32) (v2 : Int32) (v3 : Int32) (s0 : Int32) (o4 : Option aV) (M : aM) (h : w_Mo_judge_J113 post K44 k0 v1 v2 v3 s0 M) : Gd d w 187 (pV post) (113, [some (aR 21 k0), some (aI v1), some (aI v2), some (aI v3), o4], [aI s0], M) := by
  unfold w_Mo_judge_J113 at h
  show Gd d w 187 _ (113, [some (aR 21 k0), some (aI v1), some (aI v2), some (aI v3), o4], [aI s0], M)
  obtain ⟨c0, h⟩ := h
  refine gd_s (P := True ∧ True ∧ True ∧ True ∧ True ∧ True ∧ True ∧ (vp_in v3 (rK M (k0 + 30)).2) ∧ True) (σ1 := (126, [some (aR 21 k0), some (aI v1), some (aI v2), some (aI v3), some (aI s0)], [aI (rI M (k0 + 30) v3.toNatClampNeg), aI v3, aR 4 (k0 + 29)], M)) tc_187 rfl 8 (fun u => ⟨_, rfl⟩) ⟨trivial, trivial, trivial, trivial, trivial, trivial, trivial, c0, trivial⟩ ?_
  refine gd_br (c := ¬ (rI M (k0 + 30) v3.toNatClampNeg) = ((0 : Int32))) (st1 := [aI v3, aR 4 (k0 + 29)]) tc_187 rfl rfl (fun _ => rfl) ⟨fun hc => ?_, fun hc => ?_⟩
  · have h := h.1 hc
    show Gd d w 187 _ (133, [some (aR 21 k0), some (aI v1), some (aI v2), some (aI v3), some (aI s0)], [aI v3, aR 4 (k0 + 29)], M)
    obtain ⟨c0, h⟩ := h
    refine gd_s (P := True ∧ True ∧ True ∧ (vp_in v3 (rK M (k0 + 30)).2) ∧ True ∧ True) (σ1 := (140, [some (aR 21 k0), some (aI v1), some (aI v2), some (aI v3), some (aI s0)], [aI ((1 : Int32)), aI (rI M (k0 + 30) v3.toNatClampNeg), aI v3, aR 4 (k0 + 29)], M)) tc_187 rfl 5 (fun u => ⟨_, rfl⟩) ⟨trivial, trivial, trivial, c0, trivial, trivial⟩ ?_
    refine gd_br (c := ¬ (rI M (k0 + 30) v3.toNatClampNeg) = ((1 : Int32))) (st1 := [aI v3, aR 4 (k0 + 29)]) tc_187 rfl rfl (fun _ => rfl) ⟨fun hc => ?_, fun hc => ?_⟩
    · have h := h.1 hc
      show Gd d w 187 _ (148, [some (aR 21 k0), some (aI v1), some (aI v2), some (aI v3), some (aI s0)], [aI v3, aR 4 (k0 + 29)], M)
      refine gd_s (P := True ∧ True ∧ True) (σ1 := (151, [some (aR 21 k0), some (aI v1), some (aI v2), some (aI v3), some (aI s0)], [aI ((1 : Int32)), aI s0, aI v3, aR 4 (k0 + 29)], M)) tc_187 rfl 2 (fun u => ⟨_, rfl⟩) ⟨trivial, trivial, trivial⟩ ?_
      refine gd_br (c := ¬ s0 = ((1 : Int32))) (st1 := [aI v3, aR 4 (k0 + 29)]) tc_187 rfl rfl (fun _ => rfl) ⟨fun hc => ?_, fun hc => ?_⟩
      · have h := h.1 hc
        show Gd d w 187 _ (158, [some (aR 21 k0), some (aI v1), some (aI v2), some (aI v3), some (aI s0)], [aI v3, aR 4 (k0 + 29)], M)
        refine gd_s (P := True ∧ True ∧ True) (σ1 := (161, [some (aR 21 k0), some (aI v1), some (aI v2), some (aI v3), some (aI s0)], [aI ((2 : Int32)), aI s0, aI v3, aR 4 (k0 + 29)], M)) tc_187 rfl 2 (fun u => ⟨_, rfl⟩) ⟨trivial, trivial, trivial⟩ ?_
        refine gd_br (c := ¬ s0 = ((2 : Int32))) (st1 := [aI v3, aR 4 (k0 + 29)]) tc_187 rfl rfl (fun _ => rfl) ⟨fun hc => ?_, fun hc => ?_⟩
        · have h := h.1 hc
          show Gd d w 187 _ (168, [some (aR 21 k0), some (aI v1), some (aI v2), some (aI v3), some (aI s0)], [aI v3, aR 4 (k0 + 29)], M)
          obtain ⟨c0, h⟩ := h
          refine gd_s (P := True ∧ (vp_in v3 (rK M (k0 + 29)).2) ∧ True ∧ True ∧ True) (σ1 := (44, [some (aR 21 k0), some (aI v1), some (aI (v2 + (-1 : Int32))), some (aI v3), some (aI s0)], [], wI M (k0 + 29) v3.toNatClampNeg s0)) tc_187 rfl 4 (fun u => ⟨_, rfl⟩) ⟨trivial, c0, trivial, trivial, trivial⟩ ?_
          exact hK44 k0 v1 (v2 + (-1 : Int32)) (some (aI v3)) (some (aI s0)) (wI M (k0 + 29) v3.toNatClampNeg s0) h
        · have h := h.2 hc
          show Gd d w 187 _ (164, [some (aR 21 k0), some (aI v1), some (aI v2), some (aI v3), some (aI s0)], [aI v3, aR 4 (k0 + 29)], M)
          obtain ⟨c0, h⟩ := h
          refine gd_s (P := True ∧ True ∧ (vp_in v3 (rK M (k0 + 29)).2) ∧ True ∧ True ∧ True) (σ1 := (44, [some (aR 21 k0), some (aI v1), some (aI (v2 + (-1 : Int32))), some (aI v3), some (aI s0)], [], wI M (k0 + 29) v3.toNatClampNeg ((4 : Int32)))) tc_187 rfl 5 (fun u => ⟨_, rfl⟩) ⟨trivial, trivial, c0, trivial, trivial, trivial⟩ ?_
          exact hK44 k0 v1 (v2 + (-1 : Int32)) (some (aI v3)) (some (aI s0)) (wI M (k0 + 29) v3.toNatClampNeg ((4 : Int32))) h
      · have h := h.2 hc
        show Gd d w 187 _ (154, [some (aR 21 k0), some (aI v1), some (aI v2), some (aI v3), some (aI s0)], [aI v3, aR 4 (k0 + 29)], M)
        obtain ⟨c0, h⟩ := h
        refine gd_s (P := True ∧ True ∧ (vp_in v3 (rK M (k0 + 29)).2) ∧ True ∧ True ∧ True) (σ1 := (44, [some (aR 21 k0), some (aI v1), some (aI (v2 + (-1 : Int32))), some (aI v3), some (aI s0)], [], wI M (k0 + 29) v3.toNatClampNeg ((3 : Int32)))) tc_187 rfl 5 (fun u => ⟨_, rfl⟩) ⟨trivial, trivial, c0, trivial, trivial, trivial⟩ ?_
        exact hK44 k0 v1 (v2 + (-1 : Int32)) (some (aI v3)) (some (aI s0)) (wI M (k0 + 29) v3.toNatClampNeg ((3 : Int32))) h
    · have h := h.2 hc
      show Gd d w 187 _ (143, [some (aR 21 k0), some (aI v1), some (aI v2), some (aI v3), some (aI s0)], [aI v3, aR 4 (k0 + 29)], M)
      obtain ⟨c0, h⟩ := h
      refine gd_s (P := True ∧ True ∧ (vp_in v3 (rK M (k0 + 29)).2) ∧ True ∧ True ∧ True) (σ1 := (44, [some (aR 21 k0), some (aI v1), some (aI (v2 + (-1 : Int32))), some (aI v3), some (aI s0)], [], wI M (k0 + 29) v3.toNatClampNeg s0)) tc_187 rfl 5 (fun u => ⟨_, rfl⟩) ⟨trivial, trivial, c0, trivial, trivial, trivial⟩ ?_
      exact hK44 k0 v1 (v2 + (-1 : Int32)) (some (aI v3)) (some (aI s0)) (wI M (k0 + 29) v3.toNatClampNeg s0) h
  · have h := h.2 hc
    show Gd d w 187 _ (129, [some (aR 21 k0), some (aI v1), some (aI v2), some (aI v3), some (aI s0)], [aI v3, aR 4 (k0 + 29)], M)
    obtain ⟨c0, h⟩ := h
    refine gd_s (P := True ∧ True ∧ (vp_in v3 (rK M (k0 + 29)).2) ∧ True ∧ True ∧ True) (σ1 := (44, [some (aR 21 k0), some (aI v1), some (aI (v2 + (-1 : Int32))), some (aI v3), some (aI s0)], [], wI M (k0 + 29) v3.toNatClampNeg ((0 : Int32)))) tc_187 rfl 5 (fun u => ⟨_, rfl⟩) ⟨trivial, trivial, c0, trivial, trivial, trivial⟩ ?_
    exact hK44 k0 v1 (v2 + (-1 : Int32)) (some (aI v3)) (some (aI s0)) (wI M (k0 + 29) v3.toNatClampNeg ((0 : Int32))) h
def w_Mo_judge_J85 (post : aM → Prop) (K44 : Nat → Int32 → Int32 → aM → Prop) (k0 : Nat) (v1 : Int32) (v2 : Int32) (v3 : Int32) (t0 : Nat) (s1 : Int32) (s2 : Int32) (M : aM) : Prop := (vp_in s1 (rK M t0).2) ∧ (vp_in v3 (rK M (k0 + 11)).2) ∧ (((¬ (rI (wI M t0 s1.toNatClampNeg s2) (k0 + 11) v3.toNatClampNeg) = ((2 : Int32))) → (vp_in v3 (rK M (k0 + 11)).2) ∧ (w_Mo_judge_J113 post K44 k0 v1 v2 v3 ((rI (wI M t0 s1.toNatClampNeg s2) (k0 + 11) v3.toNatClampNeg) + ((1 : Int32))) (wI M t0 s1.toNatClampNeg s2))) ∧ (¬ (¬ (rI (wI M t0 s1.toNatClampNeg s2) (k0 + 11) v3.toNatClampNeg) = ((2 : Int32))) → w_Mo_combined (fun x1 M1 => w_Mo_judge_J113 post K44 k0 v1 v2 v3 x1 M1) k0 v1 v2 (wI M t0 s1.toNatClampNeg s2)))
theorem g_Mo_judge_J85 {d w : Nat} (hd : 3 ≤ d) (hw : 76 ≤ w) {post : aM → Prop} {K44 : Nat → Int32 → Int32 → aM → Prop} (hK44 : ∀ (k0 : Nat) (v1 : Int32) (v2 : Int32) (o3 o4 : Option aV) (M : aM), K44 k0 v1 v2 M → Gd d w 187 (pV post) (44, [some (aR 21 k0), some (aI v1), some (aI v2), o3, o4], [], M)) (k0 : Nat) (v1 : Int32) (v2 : Int32) (v3 : Int32) (t0 : Nat) (s1 : Int32) (s2 : Int32) (o4 : Option aV) (M : aM) (h : w_Mo_judge_J85 post K44 k0 v1 v2 v3 t0 s1 s2 M) : Gd d w 187 (pV post) (85, [some (aR 21 k0), some (aI v1), some (aI v2), some (aI v3), o4], [aI s2, aI s1, aR 4 t0], M) := by
  unfold w_Mo_judge_J85 at h
  show Gd d w 187 _ (85, [some (aR 21 k0), some (aI v1), some (aI v2), some (aI v3), o4], [aI s2, aI s1, aR 4 t0], M)
  obtain ⟨c0, c1, h⟩ := h
  refine gd_s (P := (vp_in s1 (rK M t0).2) ∧ True ∧ True ∧ True ∧ (vp_in v3 (rK M (k0 + 11)).2) ∧ True ∧ True) (σ1 := (93, [some (aR 21 k0), some (aI v1), some (aI v2), some (aI v3), o4], [aI ((2 : Int32)), aI (rI (wI M t0 s1.toNatClampNeg s2) (k0 + 11) v3.toNatClampNeg)], wI M t0 s1.toNatClampNeg s2)) tc_187 rfl 6 (fun u => ⟨_, rfl⟩) ⟨c0, trivial, trivial, trivial, c1, trivial, trivial⟩ ?_
  refine gd_br (c := ¬ (rI (wI M t0 s1.toNatClampNeg s2) (k0 + 11) v3.toNatClampNeg) = ((2 : Int32))) (st1 := []) tc_187 rfl rfl (fun _ => rfl) ⟨fun hc => ?_, fun hc => ?_⟩
  · have h := h.1 hc
    show Gd d w 187 _ (105, [some (aR 21 k0), some (aI v1), some (aI v2), some (aI v3), o4], [], wI M t0 s1.toNatClampNeg s2)
    obtain ⟨c0, h⟩ := h
    refine gd_s (P := True ∧ True ∧ True ∧ (vp_in v3 (rK M (k0 + 11)).2) ∧ True ∧ True ∧ True) (σ1 := (113, [some (aR 21 k0), some (aI v1), some (aI v2), some (aI v3), o4], [aI ((rI (wI M t0 s1.toNatClampNeg s2) (k0 + 11) v3.toNatClampNeg) + ((1 : Int32)))], wI M t0 s1.toNatClampNeg s2)) tc_187 rfl 6 (fun u => ⟨_, rfl⟩) ⟨trivial, trivial, trivial, c0, trivial, trivial, trivial⟩ ?_
    exact g_Mo_judge_J113 hd hw hK44 k0 v1 v2 v3 ((rI (wI M t0 s1.toNatClampNeg s2) (k0 + 11) v3.toNatClampNeg) + ((1 : Int32))) o4 (wI M t0 s1.toNatClampNeg s2) h
  · have h := h.2 hc
    show Gd d w 187 _ (96, [some (aR 21 k0), some (aI v1), some (aI v2), some (aI v3), o4], [], wI M t0 s1.toNatClampNeg s2)
    refine gd_s (P := True ∧ True ∧ True ∧ True) (σ1 := (99, [some (aR 21 k0), some (aI v1), some (aI v2), some (aI v3), o4], [aI v2, aI v1, aR 21 k0], wI M t0 s1.toNatClampNeg s2)) tc_187 rfl 3 (fun u => ⟨_, rfl⟩) ⟨trivial, trivial, trivial, trivial⟩ ?_
    refine gd_callN (ml := 7) (as := [aR 21 k0, aI v1, aI v2]) (rest := []) tc_187 rfl rfl rfl rfl rfl (by omega) (by omega) (Nat.le_of_ble_eq_true rfl) rfl (g_Mo_combined (by omega) (by omega) h) (fun r9 M1 h => ?_)
    obtain ⟨x1, rfl, h⟩ := h
    show Gd d w 187 _ (102, [some (aR 21 k0), some (aI v1), some (aI v2), some (aI v3), o4], [aI x1], M1)
    refine gd_s (P := True ∧ True) (σ1 := (113, [some (aR 21 k0), some (aI v1), some (aI v2), some (aI v3), o4], [aI x1], M1)) tc_187 rfl 1 (fun u => ⟨_, rfl⟩) ⟨trivial, trivial⟩ ?_
    exact g_Mo_judge_J113 hd hw hK44 k0 v1 v2 v3 x1 o4 M1 h
def w_Mo_judge_L44 (post : aM → Prop) : Nat → Nat → Int32 → Int32 → aM → Prop
  | 0, _, _, _, _ => False
  | n + 1, k0, v1, v2, M => ((v2 < ((0 : Int32))) → post M) ∧ (¬ (v2 < ((0 : Int32))) → (vp_in ((((100 : Int32)) * v1) + v2) (rK M (k0 + 14)).2) ∧ (((¬ (rI M (k0 + 14) ((((100 : Int32)) * v1) + v2).toNatClampNeg) = ((-1 : Int32))) → (vp_in ((((100 : Int32)) * v1) + v2) (rK M (k0 + 14)).2) ∧ (vp_in (rI M (k0 + 14) ((((100 : Int32)) * v1) + v2).toNatClampNeg) (rK M (k0 + 36)).2) ∧ (w_Mo_judge_J85 post (w_Mo_judge_L44 post n) k0 v1 v2 ((((100 : Int32)) * v1) + v2) (k0 + 30) ((((100 : Int32)) * v1) + v2) (rI M (k0 + 36) (rI M (k0 + 14) ((((100 : Int32)) * v1) + v2).toNatClampNeg).toNatClampNeg) M)) ∧ (¬ (¬ (rI M (k0 + 14) ((((100 : Int32)) * v1) + v2).toNatClampNeg) = ((-1 : Int32))) → w_Mo_judge_J85 post (w_Mo_judge_L44 post n) k0 v1 v2 ((((100 : Int32)) * v1) + v2) (k0 + 30) ((((100 : Int32)) * v1) + v2) ((1 : Int32)) M)))
theorem g_Mo_judge_L44 {d w : Nat} (hd : 3 ≤ d) (hw : 76 ≤ w) {post : aM → Prop} : ∀ (n : Nat) (k0 : Nat) (v1 : Int32) (v2 : Int32) (o3 o4 : Option aV) (M : aM), w_Mo_judge_L44 post n k0 v1 v2 M → Gd d w 187 (pV post) (44, [some (aR 21 k0), some (aI v1), some (aI v2), o3, o4], [], M) := by
  intro n
  induction n with
  | zero => intro k0 v1 v2 o3 o4 M h; exact h.elim
  | succ n ih =>
    intro k0 v1 v2 o3 o4 M h
    show Gd d w 187 _ (44, [some (aR 21 k0), some (aI v1), some (aI v2), o3, o4], [], M)
    refine gd_s (P := True ∧ True) (σ1 := (45, [some (aR 21 k0), some (aI v1), some (aI v2), o3, o4], [aI v2], M)) tc_187 rfl 1 (fun u => ⟨_, rfl⟩) ⟨trivial, trivial⟩ ?_
    refine gd_br (c := v2 < ((0 : Int32))) (st1 := []) tc_187 rfl rfl (fun _ => rfl) ⟨fun hc => ?_, fun hc => ?_⟩
    · have h := h.1 hc
      show Gd d w 187 _ (177, [some (aR 21 k0), some (aI v1), some (aI v2), o3, o4], [], M)
      exact gd_ret tc_187 rfl rfl trivial (fun _ => rfl) ⟨rfl, h⟩
    · have h := h.2 hc
      show Gd d w 187 _ (48, [some (aR 21 k0), some (aI v1), some (aI v2), o3, o4], [], M)
      obtain ⟨c0, h⟩ := h
      refine gd_s (P := True ∧ True ∧ True ∧ True ∧ True ∧ True ∧ True ∧ True ∧ True ∧ True ∧ True ∧ True ∧ (vp_in ((((100 : Int32)) * v1) + v2) (rK M (k0 + 14)).2) ∧ True ∧ True) (σ1 := (67, [some (aR 21 k0), some (aI v1), some (aI v2), some (aI ((((100 : Int32)) * v1) + v2)), o4], [aI ((-1 : Int32)), aI (rI M (k0 + 14) ((((100 : Int32)) * v1) + v2).toNatClampNeg), aI ((((100 : Int32)) * v1) + v2), aR 4 (k0 + 30)], M)) tc_187 rfl 14 (fun u => ⟨_, rfl⟩) ⟨trivial, trivial, trivial, trivial, trivial, trivial, trivial, trivial, trivial, trivial, trivial, trivial, c0, trivial, trivial⟩ ?_
      refine gd_br (c := ¬ (rI M (k0 + 14) ((((100 : Int32)) * v1) + v2).toNatClampNeg) = ((-1 : Int32))) (st1 := [aI ((((100 : Int32)) * v1) + v2), aR 4 (k0 + 30)]) tc_187 rfl rfl (fun _ => rfl) ⟨fun hc => ?_, fun hc => ?_⟩
      · have h := h.1 hc
        show Gd d w 187 _ (74, [some (aR 21 k0), some (aI v1), some (aI v2), some (aI ((((100 : Int32)) * v1) + v2)), o4], [aI ((((100 : Int32)) * v1) + v2), aR 4 (k0 + 30)], M)
        obtain ⟨c0, c1, h⟩ := h
        refine gd_s (P := True ∧ True ∧ True ∧ True ∧ True ∧ (vp_in ((((100 : Int32)) * v1) + v2) (rK M (k0 + 14)).2) ∧ (vp_in (rI M (k0 + 14) ((((100 : Int32)) * v1) + v2).toNatClampNeg) (rK M (k0 + 36)).2) ∧ True) (σ1 := (85, [some (aR 21 k0), some (aI v1), some (aI v2), some (aI ((((100 : Int32)) * v1) + v2)), o4], [aI (rI M (k0 + 36) (rI M (k0 + 14) ((((100 : Int32)) * v1) + v2).toNatClampNeg).toNatClampNeg), aI ((((100 : Int32)) * v1) + v2), aR 4 (k0 + 30)], M)) tc_187 rfl 7 (fun u => ⟨_, rfl⟩) ⟨trivial, trivial, trivial, trivial, trivial, c0, c1, trivial⟩ ?_
        exact g_Mo_judge_J85 hd hw ih k0 v1 v2 ((((100 : Int32)) * v1) + v2) (k0 + 30) ((((100 : Int32)) * v1) + v2) (rI M (k0 + 36) (rI M (k0 + 14) ((((100 : Int32)) * v1) + v2).toNatClampNeg).toNatClampNeg) o4 M h
      · have h := h.2 hc
        show Gd d w 187 _ (70, [some (aR 21 k0), some (aI v1), some (aI v2), some (aI ((((100 : Int32)) * v1) + v2)), o4], [aI ((((100 : Int32)) * v1) + v2), aR 4 (k0 + 30)], M)
        refine gd_s (P := True ∧ True ∧ True) (σ1 := (85, [some (aR 21 k0), some (aI v1), some (aI v2), some (aI ((((100 : Int32)) * v1) + v2)), o4], [aI ((1 : Int32)), aI ((((100 : Int32)) * v1) + v2), aR 4 (k0 + 30)], M)) tc_187 rfl 2 (fun u => ⟨_, rfl⟩) ⟨trivial, trivial, trivial⟩ ?_
        exact g_Mo_judge_J85 hd hw ih k0 v1 v2 ((((100 : Int32)) * v1) + v2) (k0 + 30) ((((100 : Int32)) * v1) + v2) ((1 : Int32)) o4 M h
def w_Mo_judge_L2 (post : aM → Prop) : Nat → Nat → Int32 → Int32 → aM → Prop
  | 0, _, _, _, _ => False
  | n + 1, k0, v1, v2, M => (vp_in v1 (rK M (k0 + 23)).2) ∧ ((((rI M (k0 + 23) v1.toNatClampNeg) ≤ v2) → (vp_in v1 (rK M (k0 + 10)).2) ∧ (∃ n9, w_Mo_judge_L44 post n9 k0 v1 ((rI M (k0 + 10) v1.toNatClampNeg) - ((1 : Int32))) M)) ∧ (¬ ((rI M (k0 + 23) v1.toNatClampNeg) ≤ v2) → (vp_in ((((400 : Int32)) * v1) + v2) (rK M (k0 + 22)).2) ∧ (w_Mo_work (fun M1 => w_Mo_judge_L2 post n k0 v1 (v2 + (1 : Int32)) M1) k0 v1 (rI M (k0 + 22) ((((400 : Int32)) * v1) + v2).toNatClampNeg) M)))
theorem g_Mo_judge_L2 {d w : Nat} (hd : 3 ≤ d) (hw : 76 ≤ w) {post : aM → Prop} : ∀ (n : Nat) (k0 : Nat) (v1 : Int32) (v2 : Int32) (o3 o4 : Option aV) (M : aM), w_Mo_judge_L2 post n k0 v1 v2 M → Gd d w 187 (pV post) (2, [some (aR 21 k0), some (aI v1), some (aI v2), o3, o4], [], M) := by
  intro n
  induction n with
  | zero => intro k0 v1 v2 o3 o4 M h; exact h.elim
  | succ n ih =>
    intro k0 v1 v2 o3 o4 M h
    show Gd d w 187 _ (2, [some (aR 21 k0), some (aI v1), some (aI v2), o3, o4], [], M)
    obtain ⟨c0, h⟩ := h
    refine gd_s (P := True ∧ True ∧ True ∧ True ∧ (vp_in v1 (rK M (k0 + 23)).2) ∧ True) (σ1 := (9, [some (aR 21 k0), some (aI v1), some (aI v2), o3, o4], [aI (rI M (k0 + 23) v1.toNatClampNeg), aI v2], M)) tc_187 rfl 5 (fun u => ⟨_, rfl⟩) ⟨trivial, trivial, trivial, trivial, c0, trivial⟩ ?_
    refine gd_br (c := (rI M (k0 + 23) v1.toNatClampNeg) ≤ v2) (st1 := []) tc_187 rfl rfl (fun _ => rfl) ⟨fun hc => ?_, fun hc => ?_⟩
    · have h := h.1 hc
      show Gd d w 187 _ (35, [some (aR 21 k0), some (aI v1), some (aI v2), o3, o4], [], M)
      obtain ⟨c0, h⟩ := h
      refine gd_s (P := True ∧ True ∧ True ∧ (vp_in v1 (rK M (k0 + 10)).2) ∧ True ∧ True ∧ True ∧ True) (σ1 := (44, [some (aR 21 k0), some (aI v1), some (aI ((rI M (k0 + 10) v1.toNatClampNeg) - ((1 : Int32)))), o3, o4], [], M)) tc_187 rfl 7 (fun u => ⟨_, rfl⟩) ⟨trivial, trivial, trivial, c0, trivial, trivial, trivial, trivial⟩ ?_
      obtain ⟨n9, h⟩ := h
      exact g_Mo_judge_L44 hd hw n9 k0 v1 ((rI M (k0 + 10) v1.toNatClampNeg) - ((1 : Int32))) o3 o4 M h
    · have h := h.2 hc
      show Gd d w 187 _ (12, [some (aR 21 k0), some (aI v1), some (aI v2), o3, o4], [], M)
      obtain ⟨c0, h⟩ := h
      refine gd_s (P := True ∧ True ∧ True ∧ True ∧ True ∧ True ∧ True ∧ True ∧ True ∧ (vp_in ((((400 : Int32)) * v1) + v2) (rK M (k0 + 22)).2) ∧ True) (σ1 := (26, [some (aR 21 k0), some (aI v1), some (aI v2), o3, o4], [aI (rI M (k0 + 22) ((((400 : Int32)) * v1) + v2).toNatClampNeg), aI v1, aR 21 k0], M)) tc_187 rfl 10 (fun u => ⟨_, rfl⟩) ⟨trivial, trivial, trivial, trivial, trivial, trivial, trivial, trivial, trivial, c0, trivial⟩ ?_
      refine gd_callN (ml := 9) (as := [aR 21 k0, aI v1, aI (rI M (k0 + 22) ((((400 : Int32)) * v1) + v2).toNatClampNeg)]) (rest := []) tc_187 rfl rfl rfl rfl rfl (by omega) (by omega) (Nat.le_of_ble_eq_true rfl) rfl (g_Mo_work (by omega) (by omega) h) (fun r9 M1 h => ?_)
      obtain ⟨rfl, h⟩ := h
      show Gd d w 187 _ (29, [some (aR 21 k0), some (aI v1), some (aI v2), o3, o4], [], M1)
      refine gd_s (P := True ∧ True ∧ True) (σ1 := (2, [some (aR 21 k0), some (aI v1), some (aI (v2 + (1 : Int32))), o3, o4], [], M1)) tc_187 rfl 2 (fun u => ⟨_, rfl⟩) ⟨trivial, trivial, trivial⟩ ?_
      exact ih k0 v1 (v2 + (1 : Int32)) o3 o4 M1 h
/-- PolicyJudgeModel.judge(I)V -/
def w_Mo_judge (post : aM → Prop) (k0 : Nat) (v1 : Int32) (M : aM) : Prop := ∃ n9, w_Mo_judge_L2 post n9 k0 v1 ((0 : Int32)) M
theorem g_Mo_judge {d w : Nat} (hd : 3 ≤ d) (hw : 76 ≤ w) {post : aM → Prop} {k0 : Nat} {v1 : Int32} {M : aM} (h : w_Mo_judge post k0 v1 M) : Gd d w 187 (pV post) (0, aEnt 187 [aR 21 k0, aI v1], [], M) := by
  unfold w_Mo_judge at h
  show Gd d w 187 _ (0, [some (aR 21 k0), some (aI v1), none, none, none], [], M)
  refine gd_s (P := True ∧ True ∧ True) (σ1 := (2, [some (aR 21 k0), some (aI v1), some (aI ((0 : Int32))), none, none], [], M)) tc_187 rfl 2 (fun u => ⟨_, rfl⟩) ⟨trivial, trivial, trivial⟩ ?_
  obtain ⟨n9, h⟩ := h
  exact g_Mo_judge_L2 hd hw n9 k0 v1 ((0 : Int32)) none none M h
theorem tc_198 : tC 198 = c198 := rfl
def w_Mo_own_L5 (post : aM → Prop) : Nat → Nat → Int32 → Int32 → Int32 → aM → Prop
  | 0, _, _, _, _, _ => False
  | n + 1, k0, v1, v2, v3, M => (vp_in v1 (rK M (k0 + 24)).2) ∧ (((((((100 : Int32)) * v1) + (rI M (k0 + 24) v1.toNatClampNeg)) ≤ v3) → post M) ∧ (¬ (((((100 : Int32)) * v1) + (rI M (k0 + 24) v1.toNatClampNeg)) ≤ v3) → (vp_in v2 (rK M (k0 + 40)).2) ∧ ((((rI M (k0 + 40) v2.toNatClampNeg) = ((0 : Int32))) → post M) ∧ (¬ ((rI M (k0 + 40) v2.toNatClampNeg) = ((0 : Int32))) → (vp_in v3 (rK M (k0 + 25)).2) ∧ (((¬ (rI M (k0 + 25) v3.toNatClampNeg) = v2) → w_Mo_own_L5 post n k0 v1 v2 (v3 + (1 : Int32)) M) ∧ (¬ (¬ (rI M (k0 + 25) v3.toNatClampNeg) = v2) → (vp_in v3 (rK M (k0 + 26)).2) ∧ (vp_in ((((100 : Int32)) * v1) + v2) (rK M (k0 + 29)).2) ∧ (((¬ (rI M (k0 + 26) v3.toNatClampNeg) = (rI M (k0 + 29) ((((100 : Int32)) * v1) + v2).toNatClampNeg)) → w_Mo_own_L5 post n k0 v1 v2 (v3 + (1 : Int32)) M) ∧ (¬ (¬ (rI M (k0 + 26) v3.toNatClampNeg) = (rI M (k0 + 29) ((((100 : Int32)) * v1) + v2).toNatClampNeg)) → (vp_in v1 (rK M (k0 + 38)).2) ∧ (vp_in v3 (rK M (k0 + 27)).2) ∧ (vp_in ((((100 : Int32)) * v1) + (rI M (k0 + 38) v1.toNatClampNeg)) (rK M (k0 + 39)).2) ∧ (vp_in v1 (rK M (k0 + 38)).2) ∧ (vp_in v1 (rK M (k0 + 38)).2) ∧ (w_Mo_own_L5 post n k0 v1 v2 (v3 + (1 : Int32)) (wI (wI M (k0 + 39) ((((100 : Int32)) * v1) + (rI M (k0 + 38) v1.toNatClampNeg)).toNatClampNeg (rI M (k0 + 27) v3.toNatClampNeg)) (k0 + 38) v1.toNatClampNeg ((rI (wI M (k0 + 39) ((((100 : Int32)) * v1) + (rI M (k0 + 38) v1.toNatClampNeg)).toNatClampNeg (rI M (k0 + 27) v3.toNatClampNeg)) (k0 + 38) v1.toNatClampNeg) + ((1 : Int32)))))))))))))
theorem g_Mo_own_L5 {d w : Nat} (hd : 0 ≤ d) (hw : 0 ≤ w) {post : aM → Prop} : ∀ (n : Nat) (k0 : Nat) (v1 : Int32) (v2 : Int32) (v3 : Int32) (M : aM), w_Mo_own_L5 post n k0 v1 v2 v3 M → Gd d w 198 (pV post) (5, [some (aR 21 k0), some (aI v1), some (aI v2), some (aI v3)], [], M) := by
  intro n
  induction n with
  | zero => intro k0 v1 v2 v3 M h; exact h.elim
  | succ n ih =>
    intro k0 v1 v2 v3 M h
    show Gd d w 198 _ (5, [some (aR 21 k0), some (aI v1), some (aI v2), some (aI v3)], [], M)
    obtain ⟨c0, h⟩ := h
    refine gd_s (P := True ∧ True ∧ True ∧ True ∧ True ∧ True ∧ True ∧ (vp_in v1 (rK M (k0 + 24)).2) ∧ True ∧ True) (σ1 := (17, [some (aR 21 k0), some (aI v1), some (aI v2), some (aI v3)], [aI ((((100 : Int32)) * v1) + (rI M (k0 + 24) v1.toNatClampNeg)), aI v3], M)) tc_198 rfl 9 (fun u => ⟨_, rfl⟩) ⟨trivial, trivial, trivial, trivial, trivial, trivial, trivial, c0, trivial, trivial⟩ ?_
    refine gd_br (c := ((((100 : Int32)) * v1) + (rI M (k0 + 24) v1.toNatClampNeg)) ≤ v3) (st1 := []) tc_198 rfl rfl (fun _ => rfl) ⟨fun hc => ?_, fun hc => ?_⟩
    · have h := h.1 hc
      show Gd d w 198 _ (97, [some (aR 21 k0), some (aI v1), some (aI v2), some (aI v3)], [], M)
      exact gd_ret tc_198 rfl rfl trivial (fun _ => rfl) ⟨rfl, h⟩
    · have h := h.2 hc
      show Gd d w 198 _ (20, [some (aR 21 k0), some (aI v1), some (aI v2), some (aI v3)], [], M)
      obtain ⟨c0, h⟩ := h
      refine gd_s (P := True ∧ True ∧ True ∧ (vp_in v2 (rK M (k0 + 40)).2) ∧ True) (σ1 := (26, [some (aR 21 k0), some (aI v1), some (aI v2), some (aI v3)], [aI (rI M (k0 + 40) v2.toNatClampNeg)], M)) tc_198 rfl 4 (fun u => ⟨_, rfl⟩) ⟨trivial, trivial, trivial, c0, trivial⟩ ?_
      refine gd_br (c := (rI M (k0 + 40) v2.toNatClampNeg) = ((0 : Int32))) (st1 := []) tc_198 rfl rfl (fun _ => rfl) ⟨fun hc => ?_, fun hc => ?_⟩
      · have h := h.1 hc
        show Gd d w 198 _ (97, [some (aR 21 k0), some (aI v1), some (aI v2), some (aI v3)], [], M)
        exact gd_ret tc_198 rfl rfl trivial (fun _ => rfl) ⟨rfl, h⟩
      · have h := h.2 hc
        show Gd d w 198 _ (29, [some (aR 21 k0), some (aI v1), some (aI v2), some (aI v3)], [], M)
        obtain ⟨c0, h⟩ := h
        refine gd_s (P := True ∧ True ∧ True ∧ (vp_in v3 (rK M (k0 + 25)).2) ∧ True ∧ True) (σ1 := (36, [some (aR 21 k0), some (aI v1), some (aI v2), some (aI v3)], [aI v2, aI (rI M (k0 + 25) v3.toNatClampNeg)], M)) tc_198 rfl 5 (fun u => ⟨_, rfl⟩) ⟨trivial, trivial, trivial, c0, trivial, trivial⟩ ?_
        refine gd_br (c := ¬ (rI M (k0 + 25) v3.toNatClampNeg) = v2) (st1 := []) tc_198 rfl rfl (fun _ => rfl) ⟨fun hc => ?_, fun hc => ?_⟩
        · have h := h.1 hc
          show Gd d w 198 _ (91, [some (aR 21 k0), some (aI v1), some (aI v2), some (aI v3)], [], M)
          refine gd_s (P := True ∧ True ∧ True) (σ1 := (5, [some (aR 21 k0), some (aI v1), some (aI v2), some (aI (v3 + (1 : Int32)))], [], M)) tc_198 rfl 2 (fun u => ⟨_, rfl⟩) ⟨trivial, trivial, trivial⟩ ?_
          exact ih k0 v1 v2 (v3 + (1 : Int32)) M h
        · have h := h.2 hc
          show Gd d w 198 _ (39, [some (aR 21 k0), some (aI v1), some (aI v2), some (aI v3)], [], M)
          obtain ⟨c0, c1, h⟩ := h
          refine gd_s (P := True ∧ True ∧ True ∧ (vp_in v3 (rK M (k0 + 26)).2) ∧ True ∧ True ∧ True ∧ True ∧ True ∧ True ∧ True ∧ (vp_in ((((100 : Int32)) * v1) + v2) (rK M (k0 + 29)).2) ∧ True) (σ1 := (56, [some (aR 21 k0), some (aI v1), some (aI v2), some (aI v3)], [aI (rI M (k0 + 29) ((((100 : Int32)) * v1) + v2).toNatClampNeg), aI (rI M (k0 + 26) v3.toNatClampNeg)], M)) tc_198 rfl 12 (fun u => ⟨_, rfl⟩) ⟨trivial, trivial, trivial, c0, trivial, trivial, trivial, trivial, trivial, trivial, trivial, c1, trivial⟩ ?_
          refine gd_br (c := ¬ (rI M (k0 + 26) v3.toNatClampNeg) = (rI M (k0 + 29) ((((100 : Int32)) * v1) + v2).toNatClampNeg)) (st1 := []) tc_198 rfl rfl (fun _ => rfl) ⟨fun hc => ?_, fun hc => ?_⟩
          · have h := h.1 hc
            show Gd d w 198 _ (91, [some (aR 21 k0), some (aI v1), some (aI v2), some (aI v3)], [], M)
            refine gd_s (P := True ∧ True ∧ True) (σ1 := (5, [some (aR 21 k0), some (aI v1), some (aI v2), some (aI (v3 + (1 : Int32)))], [], M)) tc_198 rfl 2 (fun u => ⟨_, rfl⟩) ⟨trivial, trivial, trivial⟩ ?_
            exact ih k0 v1 v2 (v3 + (1 : Int32)) M h
          · have h := h.2 hc
            show Gd d w 198 _ (59, [some (aR 21 k0), some (aI v1), some (aI v2), some (aI v3)], [], M)
            obtain ⟨c0, c1, c2, c3, c4, h⟩ := h
            refine gd_s (P := True ∧ True ∧ True ∧ True ∧ True ∧ True ∧ True ∧ True ∧ (vp_in v1 (rK M (k0 + 38)).2) ∧ True ∧ True ∧ True ∧ True ∧ (vp_in v3 (rK M (k0 + 27)).2) ∧ (vp_in ((((100 : Int32)) * v1) + (rI M (k0 + 38) v1.toNatClampNeg)) (rK M (k0 + 39)).2) ∧ True ∧ True ∧ True ∧ True ∧ (vp_in v1 (rK M (k0 + 38)).2) ∧ True ∧ True ∧ (vp_in v1 (rK M (k0 + 38)).2) ∧ True ∧ True ∧ True) (σ1 := (5, [some (aR 21 k0), some (aI v1), some (aI v2), some (aI (v3 + (1 : Int32)))], [], wI (wI M (k0 + 39) ((((100 : Int32)) * v1) + (rI M (k0 + 38) v1.toNatClampNeg)).toNatClampNeg (rI M (k0 + 27) v3.toNatClampNeg)) (k0 + 38) v1.toNatClampNeg ((rI (wI M (k0 + 39) ((((100 : Int32)) * v1) + (rI M (k0 + 38) v1.toNatClampNeg)).toNatClampNeg (rI M (k0 + 27) v3.toNatClampNeg)) (k0 + 38) v1.toNatClampNeg) + ((1 : Int32))))) tc_198 rfl 25 (fun u => ⟨_, rfl⟩) ⟨trivial, trivial, trivial, trivial, trivial, trivial, trivial, trivial, c0, trivial, trivial, trivial, trivial, c1, c2, trivial, trivial, trivial, trivial, c3, trivial, trivial, c4, trivial, trivial, trivial⟩ ?_
            exact ih k0 v1 v2 (v3 + (1 : Int32)) (wI (wI M (k0 + 39) ((((100 : Int32)) * v1) + (rI M (k0 + 38) v1.toNatClampNeg)).toNatClampNeg (rI M (k0 + 27) v3.toNatClampNeg)) (k0 + 38) v1.toNatClampNeg ((rI (wI M (k0 + 39) ((((100 : Int32)) * v1) + (rI M (k0 + 38) v1.toNatClampNeg)).toNatClampNeg (rI M (k0 + 27) v3.toNatClampNeg)) (k0 + 38) v1.toNatClampNeg) + ((1 : Int32)))) h
/-- PolicyJudgeModel.own(II)V -/
def w_Mo_own (post : aM → Prop) (k0 : Nat) (v1 : Int32) (v2 : Int32) (M : aM) : Prop := ∃ n9, w_Mo_own_L5 post n9 k0 v1 v2 (((100 : Int32)) * v1) M
theorem g_Mo_own {d w : Nat} (hd : 0 ≤ d) (hw : 0 ≤ w) {post : aM → Prop} {k0 : Nat} {v1 : Int32} {v2 : Int32} {M : aM} (h : w_Mo_own post k0 v1 v2 M) : Gd d w 198 (pV post) (0, aEnt 198 [aR 21 k0, aI v1, aI v2], [], M) := by
  unfold w_Mo_own at h
  show Gd d w 198 _ (0, [some (aR 21 k0), some (aI v1), some (aI v2), none], [], M)
  refine gd_s (P := True ∧ True ∧ True ∧ True ∧ True) (σ1 := (5, [some (aR 21 k0), some (aI v1), some (aI v2), some (aI (((100 : Int32)) * v1))], [], M)) tc_198 rfl 4 (fun u => ⟨_, rfl⟩) ⟨trivial, trivial, trivial, trivial, trivial⟩ ?_
  obtain ⟨n9, h⟩ := h
  exact g_Mo_own_L5 hd hw n9 k0 v1 v2 (((100 : Int32)) * v1) M h
theorem tc_197 : tC 197 = c197 := rfl
def w_Mo_layDuties_J220 (post : aM → Prop) (K151 : Nat → Int32 → Int32 → Int32 → aM → Prop) (k0 : Nat) (v1 : Int32) (v3 : Int32) (M : aM) : Prop := (vp_in v1 (rK M (k0 + 10)).2) ∧ ((((rI M (k0 + 10) v1.toNatClampNeg) ≤ v3) → K151 k0 v1 ((-1 : Int32)) (v3 + (1 : Int32)) M) ∧ (¬ ((rI M (k0 + 10) v1.toNatClampNeg) ≤ v3) → K151 k0 v1 v3 (v3 + (1 : Int32)) M))
theorem g_Mo_layDuties_J220 {d w : Nat} (hd : 1 ≤ d) (hw : 25 ≤ w) {post : aM → Prop} {K151 : Nat → Int32 → Int32 → Int32 → aM → Prop} (hK151 : ∀ (k0 : Nat) (v1 : Int32) (v2 : Int32) (v3 : Int32) (o4 o5 o6 : Option aV) (M : aM), K151 k0 v1 v2 v3 M → Gd d w 197 (pV post) (151, [some (aR 21 k0), some (aI v1), some (aI v2), some (aI v3), o4, o5, o6], [], M)) (k0 : Nat) (v1 : Int32) (v3 : Int32) (o2 o4 o5 o6 : Option aV) (M : aM) (h : w_Mo_layDuties_J220 post K151 k0 v1 v3 M) : Gd d w 197 (pV post) (220, [some (aR 21 k0), some (aI v1), o2, some (aI v3), o4, o5, o6], [], M) := by
  unfold w_Mo_layDuties_J220 at h
  show Gd d w 197 _ (220, [some (aR 21 k0), some (aI v1), o2, some (aI v3), o4, o5, o6], [], M)
  obtain ⟨c0, h⟩ := h
  refine gd_s (P := True ∧ True ∧ True ∧ True ∧ (vp_in v1 (rK M (k0 + 10)).2) ∧ True) (σ1 := (227, [some (aR 21 k0), some (aI v1), o2, some (aI v3), o4, o5, o6], [aI (rI M (k0 + 10) v1.toNatClampNeg), aI v3], M)) tc_197 rfl 5 (fun u => ⟨_, rfl⟩) ⟨trivial, trivial, trivial, trivial, c0, trivial⟩ ?_
  refine gd_br (c := (rI M (k0 + 10) v1.toNatClampNeg) ≤ v3) (st1 := []) tc_197 rfl rfl (fun _ => rfl) ⟨fun hc => ?_, fun hc => ?_⟩
  · have h := h.1 hc
    show Gd d w 197 _ (234, [some (aR 21 k0), some (aI v1), o2, some (aI v3), o4, o5, o6], [], M)
    refine gd_s (P := True ∧ True ∧ True ∧ True ∧ True) (σ1 := (151, [some (aR 21 k0), some (aI v1), some (aI ((-1 : Int32))), some (aI (v3 + (1 : Int32))), o4, o5, o6], [], M)) tc_197 rfl 4 (fun u => ⟨_, rfl⟩) ⟨trivial, trivial, trivial, trivial, trivial⟩ ?_
    exact hK151 k0 v1 ((-1 : Int32)) (v3 + (1 : Int32)) o4 o5 o6 M h
  · have h := h.2 hc
    show Gd d w 197 _ (230, [some (aR 21 k0), some (aI v1), o2, some (aI v3), o4, o5, o6], [], M)
    refine gd_s (P := True ∧ True ∧ True ∧ True ∧ True ∧ True) (σ1 := (151, [some (aR 21 k0), some (aI v1), some (aI v3), some (aI (v3 + (1 : Int32))), o4, o5, o6], [], M)) tc_197 rfl 5 (fun u => ⟨_, rfl⟩) ⟨trivial, trivial, trivial, trivial, trivial, trivial⟩ ?_
    exact hK151 k0 v1 v3 (v3 + (1 : Int32)) o4 o5 o6 M h
def w_Mo_layDuties_L188 (post : aM → Prop) (K151 : Nat → Int32 → Int32 → Int32 → aM → Prop) : Nat → Nat → Int32 → Int32 → Int32 → Int32 → aM → Prop
  | 0, _, _, _, _, _, _ => False
  | n + 1, k0, v1, v2, v3, v4, M => ((v2 = ((-1 : Int32))) → w_Mo_layDuties_J220 post K151 k0 v1 v3 M) ∧ (¬ (v2 = ((-1 : Int32))) → ((v2 = v4) → w_Mo_layDuties_J220 post K151 k0 v1 v3 M) ∧ (¬ (v2 = v4) → w_Mo_own (fun M1 => (vp_in ((((100 : Int32)) * v1) + v2) (rK M1 (k0 + 13)).2) ∧ (w_Mo_layDuties_L188 post K151 n k0 v1 (rI M1 (k0 + 13) ((((100 : Int32)) * v1) + v2).toNatClampNeg) v3 v4 M1)) k0 v1 v2 M))
theorem g_Mo_layDuties_L188 {d w : Nat} (hd : 1 ≤ d) (hw : 25 ≤ w) {post : aM → Prop} {K151 : Nat → Int32 → Int32 → Int32 → aM → Prop} (hK151 : ∀ (k0 : Nat) (v1 : Int32) (v2 : Int32) (v3 : Int32) (o4 o5 o6 : Option aV) (M : aM), K151 k0 v1 v2 v3 M → Gd d w 197 (pV post) (151, [some (aR 21 k0), some (aI v1), some (aI v2), some (aI v3), o4, o5, o6], [], M)) : ∀ (n : Nat) (k0 : Nat) (v1 : Int32) (v2 : Int32) (v3 : Int32) (v4 : Int32) (o5 o6 : Option aV) (M : aM), w_Mo_layDuties_L188 post K151 n k0 v1 v2 v3 v4 M → Gd d w 197 (pV post) (188, [some (aR 21 k0), some (aI v1), some (aI v2), some (aI v3), some (aI v4), o5, o6], [], M) := by
  intro n
  induction n with
  | zero => intro k0 v1 v2 v3 v4 o5 o6 M h; exact h.elim
  | succ n ih =>
    intro k0 v1 v2 v3 v4 o5 o6 M h
    show Gd d w 197 _ (188, [some (aR 21 k0), some (aI v1), some (aI v2), some (aI v3), some (aI v4), o5, o6], [], M)
    refine gd_s (P := True ∧ True ∧ True) (σ1 := (190, [some (aR 21 k0), some (aI v1), some (aI v2), some (aI v3), some (aI v4), o5, o6], [aI ((-1 : Int32)), aI v2], M)) tc_197 rfl 2 (fun u => ⟨_, rfl⟩) ⟨trivial, trivial, trivial⟩ ?_
    refine gd_br (c := v2 = ((-1 : Int32))) (st1 := []) tc_197 rfl rfl (fun _ => rfl) ⟨fun hc => ?_, fun hc => ?_⟩
    · have h := h.1 hc
      exact g_Mo_layDuties_J220 hd hw hK151 k0 v1 v3 (some (aI v2)) (some (aI v4)) o5 o6 M h
    · have h := h.2 hc
      show Gd d w 197 _ (193, [some (aR 21 k0), some (aI v1), some (aI v2), some (aI v3), some (aI v4), o5, o6], [], M)
      refine gd_s (P := True ∧ True ∧ True) (σ1 := (196, [some (aR 21 k0), some (aI v1), some (aI v2), some (aI v3), some (aI v4), o5, o6], [aI v4, aI v2], M)) tc_197 rfl 2 (fun u => ⟨_, rfl⟩) ⟨trivial, trivial, trivial⟩ ?_
      refine gd_br (c := v2 = v4) (st1 := []) tc_197 rfl rfl (fun _ => rfl) ⟨fun hc => ?_, fun hc => ?_⟩
      · have h := h.1 hc
        exact g_Mo_layDuties_J220 hd hw hK151 k0 v1 v3 (some (aI v2)) (some (aI v4)) o5 o6 M h
      · have h := h.2 hc
        show Gd d w 197 _ (199, [some (aR 21 k0), some (aI v1), some (aI v2), some (aI v3), some (aI v4), o5, o6], [], M)
        refine gd_s (P := True ∧ True ∧ True ∧ True) (σ1 := (202, [some (aR 21 k0), some (aI v1), some (aI v2), some (aI v3), some (aI v4), o5, o6], [aI v2, aI v1, aR 21 k0], M)) tc_197 rfl 3 (fun u => ⟨_, rfl⟩) ⟨trivial, trivial, trivial, trivial⟩ ?_
        refine gd_callN (ml := 4) (as := [aR 21 k0, aI v1, aI v2]) (rest := []) tc_197 rfl rfl rfl rfl rfl (by omega) (by omega) (Nat.le_of_ble_eq_true rfl) rfl (g_Mo_own (by omega) (by omega) h) (fun r9 M1 h => ?_)
        obtain ⟨rfl, h⟩ := h
        show Gd d w 197 _ (205, [some (aR 21 k0), some (aI v1), some (aI v2), some (aI v3), some (aI v4), o5, o6], [], M1)
        obtain ⟨c0, h⟩ := h
        refine gd_s (P := True ∧ True ∧ True ∧ True ∧ True ∧ True ∧ True ∧ (vp_in ((((100 : Int32)) * v1) + v2) (rK M1 (k0 + 13)).2) ∧ True ∧ True ∧ True) (σ1 := (188, [some (aR 21 k0), some (aI v1), some (aI (rI M1 (k0 + 13) ((((100 : Int32)) * v1) + v2).toNatClampNeg)), some (aI v3), some (aI v4), o5, o6], [], M1)) tc_197 rfl 10 (fun u => ⟨_, rfl⟩) ⟨trivial, trivial, trivial, trivial, trivial, trivial, trivial, c0, trivial, trivial, trivial⟩ ?_
        exact ih k0 v1 (rI M1 (k0 + 13) ((((100 : Int32)) * v1) + v2).toNatClampNeg) v3 v4 o5 o6 M1 h
def w_Mo_layDuties_L151 (post : aM → Prop) : Nat → Nat → Int32 → Int32 → Int32 → aM → Prop
  | 0, _, _, _, _, _ => False
  | n + 1, k0, v1, v2, v3, M => (vp_in v1 (rK M (k0 + 10)).2) ∧ ((((rI M (k0 + 10) v1.toNatClampNeg) < v3) → post M) ∧ (¬ ((rI M (k0 + 10) v1.toNatClampNeg) < v3) → (vp_in v1 (rK M (k0 + 10)).2) ∧ ((((rI M (k0 + 10) v1.toNatClampNeg) ≤ v3) → ∃ n9, w_Mo_layDuties_L188 post (w_Mo_layDuties_L151 post n) n9 k0 v1 v2 v3 ((-1 : Int32)) M) ∧ (¬ ((rI M (k0 + 10) v1.toNatClampNeg) ≤ v3) → (vp_in ((((100 : Int32)) * v1) + v3) (rK M (k0 + 13)).2) ∧ (∃ n9, w_Mo_layDuties_L188 post (w_Mo_layDuties_L151 post n) n9 k0 v1 v2 v3 (rI M (k0 + 13) ((((100 : Int32)) * v1) + v3).toNatClampNeg) M)))))
theorem g_Mo_layDuties_L151 {d w : Nat} (hd : 1 ≤ d) (hw : 25 ≤ w) {post : aM → Prop} : ∀ (n : Nat) (k0 : Nat) (v1 : Int32) (v2 : Int32) (v3 : Int32) (o4 o5 o6 : Option aV) (M : aM), w_Mo_layDuties_L151 post n k0 v1 v2 v3 M → Gd d w 197 (pV post) (151, [some (aR 21 k0), some (aI v1), some (aI v2), some (aI v3), o4, o5, o6], [], M) := by
  intro n
  induction n with
  | zero => intro k0 v1 v2 v3 o4 o5 o6 M h; exact h.elim
  | succ n ih =>
    intro k0 v1 v2 v3 o4 o5 o6 M h
    show Gd d w 197 _ (151, [some (aR 21 k0), some (aI v1), some (aI v2), some (aI v3), o4, o5, o6], [], M)
    obtain ⟨c0, h⟩ := h
    refine gd_s (P := True ∧ True ∧ True ∧ True ∧ (vp_in v1 (rK M (k0 + 10)).2) ∧ True) (σ1 := (158, [some (aR 21 k0), some (aI v1), some (aI v2), some (aI v3), o4, o5, o6], [aI (rI M (k0 + 10) v1.toNatClampNeg), aI v3], M)) tc_197 rfl 5 (fun u => ⟨_, rfl⟩) ⟨trivial, trivial, trivial, trivial, c0, trivial⟩ ?_
    refine gd_br (c := (rI M (k0 + 10) v1.toNatClampNeg) < v3) (st1 := []) tc_197 rfl rfl (fun _ => rfl) ⟨fun hc => ?_, fun hc => ?_⟩
    · have h := h.1 hc
      show Gd d w 197 _ (242, [some (aR 21 k0), some (aI v1), some (aI v2), some (aI v3), o4, o5, o6], [], M)
      exact gd_ret tc_197 rfl rfl trivial (fun _ => rfl) ⟨rfl, h⟩
    · have h := h.2 hc
      show Gd d w 197 _ (161, [some (aR 21 k0), some (aI v1), some (aI v2), some (aI v3), o4, o5, o6], [], M)
      obtain ⟨c0, h⟩ := h
      refine gd_s (P := True ∧ True ∧ True ∧ True ∧ (vp_in v1 (rK M (k0 + 10)).2) ∧ True) (σ1 := (168, [some (aR 21 k0), some (aI v1), some (aI v2), some (aI v3), o4, o5, o6], [aI (rI M (k0 + 10) v1.toNatClampNeg), aI v3], M)) tc_197 rfl 5 (fun u => ⟨_, rfl⟩) ⟨trivial, trivial, trivial, trivial, c0, trivial⟩ ?_
      refine gd_br (c := (rI M (k0 + 10) v1.toNatClampNeg) ≤ v3) (st1 := []) tc_197 rfl rfl (fun _ => rfl) ⟨fun hc => ?_, fun hc => ?_⟩
      · have h := h.1 hc
        show Gd d w 197 _ (185, [some (aR 21 k0), some (aI v1), some (aI v2), some (aI v3), o4, o5, o6], [], M)
        refine gd_s (P := True ∧ True ∧ True) (σ1 := (188, [some (aR 21 k0), some (aI v1), some (aI v2), some (aI v3), some (aI ((-1 : Int32))), o5, o6], [], M)) tc_197 rfl 2 (fun u => ⟨_, rfl⟩) ⟨trivial, trivial, trivial⟩ ?_
        obtain ⟨n9, h⟩ := h
        exact g_Mo_layDuties_L188 hd hw ih n9 k0 v1 v2 v3 ((-1 : Int32)) o5 o6 M h
      · have h := h.2 hc
        show Gd d w 197 _ (171, [some (aR 21 k0), some (aI v1), some (aI v2), some (aI v3), o4, o5, o6], [], M)
        obtain ⟨c0, h⟩ := h
        refine gd_s (P := True ∧ True ∧ True ∧ True ∧ True ∧ True ∧ True ∧ (vp_in ((((100 : Int32)) * v1) + v3) (rK M (k0 + 13)).2) ∧ True ∧ True ∧ True) (σ1 := (188, [some (aR 21 k0), some (aI v1), some (aI v2), some (aI v3), some (aI (rI M (k0 + 13) ((((100 : Int32)) * v1) + v3).toNatClampNeg)), o5, o6], [], M)) tc_197 rfl 10 (fun u => ⟨_, rfl⟩) ⟨trivial, trivial, trivial, trivial, trivial, trivial, trivial, c0, trivial, trivial, trivial⟩ ?_
        obtain ⟨n9, h⟩ := h
        exact g_Mo_layDuties_L188 hd hw ih n9 k0 v1 v2 v3 (rI M (k0 + 13) ((((100 : Int32)) * v1) + v3).toNatClampNeg) o5 o6 M h
def w_Mo_layDuties_J133 (post : aM → Prop) (K9 : Nat → Int32 → Int32 → aM → Prop) (k0 : Nat) (v1 : Int32) (v2 : Int32) (v5 : Int32) (M : aM) : Prop := (vp_in v2 (rK M (k0 + 40)).2 ∧ (v5 = 0 ∨ v5 = 1)) ∧ (K9 k0 v1 (v2 + (1 : Int32)) (wI M (k0 + 40) v2.toNatClampNeg v5))
theorem g_Mo_layDuties_J133 {d w : Nat} (hd : 1 ≤ d) (hw : 25 ≤ w) {post : aM → Prop} {K9 : Nat → Int32 → Int32 → aM → Prop} (hK9 : ∀ (k0 : Nat) (v1 : Int32) (v2 : Int32) (o3 o4 o5 o6 : Option aV) (M : aM), K9 k0 v1 v2 M → Gd d w 197 (pV post) (9, [some (aR 21 k0), some (aI v1), some (aI v2), o3, o4, o5, o6], [], M)) (k0 : Nat) (v1 : Int32) (v2 : Int32) (v5 : Int32) (o3 o4 o6 : Option aV) (M : aM) (h : w_Mo_layDuties_J133 post K9 k0 v1 v2 v5 M) : Gd d w 197 (pV post) (133, [some (aR 21 k0), some (aI v1), some (aI v2), o3, o4, some (aI v5), o6], [], M) := by
  unfold w_Mo_layDuties_J133 at h
  show Gd d w 197 _ (133, [some (aR 21 k0), some (aI v1), some (aI v2), o3, o4, some (aI v5), o6], [], M)
  obtain ⟨c0, h⟩ := h
  refine gd_s (P := True ∧ True ∧ True ∧ True ∧ (vp_in v2 (rK M (k0 + 40)).2 ∧ (v5 = 0 ∨ v5 = 1)) ∧ True ∧ True ∧ True) (σ1 := (9, [some (aR 21 k0), some (aI v1), some (aI (v2 + (1 : Int32))), o3, o4, some (aI v5), o6], [], wI M (k0 + 40) v2.toNatClampNeg v5)) tc_197 rfl 7 (fun u => ⟨_, rfl⟩) ⟨trivial, trivial, trivial, trivial, c0, trivial, trivial, trivial⟩ ?_
  exact hK9 k0 v1 (v2 + (1 : Int32)) o3 o4 (some (aI v5)) o6 (wI M (k0 + 40) v2.toNatClampNeg v5) h
def w_Mo_layDuties_J131 (post : aM → Prop) (K9 : Nat → Int32 → Int32 → aM → Prop) (k0 : Nat) (v1 : Int32) (v2 : Int32) (s0 : Int32) (M : aM) : Prop := w_Mo_layDuties_J133 post K9 k0 v1 v2 s0 M
theorem g_Mo_layDuties_J131 {d w : Nat} (hd : 1 ≤ d) (hw : 25 ≤ w) {post : aM → Prop} {K9 : Nat → Int32 → Int32 → aM → Prop} (hK9 : ∀ (k0 : Nat) (v1 : Int32) (v2 : Int32) (o3 o4 o5 o6 : Option aV) (M : aM), K9 k0 v1 v2 M → Gd d w 197 (pV post) (9, [some (aR 21 k0), some (aI v1), some (aI v2), o3, o4, o5, o6], [], M)) (k0 : Nat) (v1 : Int32) (v2 : Int32) (s0 : Int32) (o3 o4 o5 o6 : Option aV) (M : aM) (h : w_Mo_layDuties_J131 post K9 k0 v1 v2 s0 M) : Gd d w 197 (pV post) (131, [some (aR 21 k0), some (aI v1), some (aI v2), o3, o4, o5, o6], [aI s0], M) := by
  unfold w_Mo_layDuties_J131 at h
  show Gd d w 197 _ (131, [some (aR 21 k0), some (aI v1), some (aI v2), o3, o4, o5, o6], [aI s0], M)
  refine gd_s (P := True ∧ True) (σ1 := (133, [some (aR 21 k0), some (aI v1), some (aI v2), o3, o4, some (aI s0), o6], [], M)) tc_197 rfl 1 (fun u => ⟨_, rfl⟩) ⟨trivial, trivial⟩ ?_
  exact g_Mo_layDuties_J133 hd hw hK9 k0 v1 v2 s0 o3 o4 o6 M h
def w_Mo_layDuties_J130 (post : aM → Prop) (K9 : Nat → Int32 → Int32 → aM → Prop) (k0 : Nat) (v1 : Int32) (v2 : Int32) (M : aM) : Prop := w_Mo_layDuties_J131 post K9 k0 v1 v2 ((0 : Int32)) M
theorem g_Mo_layDuties_J130 {d w : Nat} (hd : 1 ≤ d) (hw : 25 ≤ w) {post : aM → Prop} {K9 : Nat → Int32 → Int32 → aM → Prop} (hK9 : ∀ (k0 : Nat) (v1 : Int32) (v2 : Int32) (o3 o4 o5 o6 : Option aV) (M : aM), K9 k0 v1 v2 M → Gd d w 197 (pV post) (9, [some (aR 21 k0), some (aI v1), some (aI v2), o3, o4, o5, o6], [], M)) (k0 : Nat) (v1 : Int32) (v2 : Int32) (o3 o4 o5 o6 : Option aV) (M : aM) (h : w_Mo_layDuties_J130 post K9 k0 v1 v2 M) : Gd d w 197 (pV post) (130, [some (aR 21 k0), some (aI v1), some (aI v2), o3, o4, o5, o6], [], M) := by
  unfold w_Mo_layDuties_J130 at h
  show Gd d w 197 _ (130, [some (aR 21 k0), some (aI v1), some (aI v2), o3, o4, o5, o6], [], M)
  refine gd_s (P := True ∧ True) (σ1 := (131, [some (aR 21 k0), some (aI v1), some (aI v2), o3, o4, o5, o6], [aI ((0 : Int32))], M)) tc_197 rfl 1 (fun u => ⟨_, rfl⟩) ⟨trivial, trivial⟩ ?_
  exact g_Mo_layDuties_J131 hd hw hK9 k0 v1 v2 ((0 : Int32)) o3 o4 o5 o6 M h
def w_Mo_layDuties_J126 (post : aM → Prop) (K9 : Nat → Int32 → Int32 → aM → Prop) (k0 : Nat) (v1 : Int32) (v2 : Int32) (M : aM) : Prop := w_Mo_layDuties_J131 post K9 k0 v1 v2 ((1 : Int32)) M
theorem g_Mo_layDuties_J126 {d w : Nat} (hd : 1 ≤ d) (hw : 25 ≤ w) {post : aM → Prop} {K9 : Nat → Int32 → Int32 → aM → Prop} (hK9 : ∀ (k0 : Nat) (v1 : Int32) (v2 : Int32) (o3 o4 o5 o6 : Option aV) (M : aM), K9 k0 v1 v2 M → Gd d w 197 (pV post) (9, [some (aR 21 k0), some (aI v1), some (aI v2), o3, o4, o5, o6], [], M)) (k0 : Nat) (v1 : Int32) (v2 : Int32) (o3 o4 o5 o6 : Option aV) (M : aM) (h : w_Mo_layDuties_J126 post K9 k0 v1 v2 M) : Gd d w 197 (pV post) (126, [some (aR 21 k0), some (aI v1), some (aI v2), o3, o4, o5, o6], [], M) := by
  unfold w_Mo_layDuties_J126 at h
  show Gd d w 197 _ (126, [some (aR 21 k0), some (aI v1), some (aI v2), o3, o4, o5, o6], [], M)
  refine gd_s (P := True ∧ True ∧ True) (σ1 := (131, [some (aR 21 k0), some (aI v1), some (aI v2), o3, o4, o5, o6], [aI ((1 : Int32))], M)) tc_197 rfl 2 (fun u => ⟨_, rfl⟩) ⟨trivial, trivial, trivial⟩ ?_
  exact g_Mo_layDuties_J131 hd hw hK9 k0 v1 v2 ((1 : Int32)) o3 o4 o5 o6 M h
def w_Mo_layDuties_J115 (post : aM → Prop) (K9 : Nat → Int32 → Int32 → aM → Prop) (k0 : Nat) (v1 : Int32) (v2 : Int32) (v4 : Int32) (M : aM) : Prop := w_Mo_chosen (fun x1 => ((¬ x1 = v2) → w_Mo_layDuties_J130 post K9 k0 v1 v2 M) ∧ (¬ (¬ x1 = v2) → w_Mo_layDuties_J126 post K9 k0 v1 v2 M)) k0 v1 v4 M
theorem g_Mo_layDuties_J115 {d w : Nat} (hd : 1 ≤ d) (hw : 25 ≤ w) {post : aM → Prop} {K9 : Nat → Int32 → Int32 → aM → Prop} (hK9 : ∀ (k0 : Nat) (v1 : Int32) (v2 : Int32) (o3 o4 o5 o6 : Option aV) (M : aM), K9 k0 v1 v2 M → Gd d w 197 (pV post) (9, [some (aR 21 k0), some (aI v1), some (aI v2), o3, o4, o5, o6], [], M)) (k0 : Nat) (v1 : Int32) (v2 : Int32) (v4 : Int32) (o3 o5 o6 : Option aV) (M : aM) (h : w_Mo_layDuties_J115 post K9 k0 v1 v2 v4 M) : Gd d w 197 (pV post) (115, [some (aR 21 k0), some (aI v1), some (aI v2), o3, some (aI v4), o5, o6], [], M) := by
  unfold w_Mo_layDuties_J115 at h
  show Gd d w 197 _ (115, [some (aR 21 k0), some (aI v1), some (aI v2), o3, some (aI v4), o5, o6], [], M)
  refine gd_s (P := True ∧ True ∧ True ∧ True) (σ1 := (119, [some (aR 21 k0), some (aI v1), some (aI v2), o3, some (aI v4), o5, o6], [aI v4, aI v1, aR 21 k0], M)) tc_197 rfl 3 (fun u => ⟨_, rfl⟩) ⟨trivial, trivial, trivial, trivial⟩ ?_
  refine gd_callN (ml := 6) (as := [aR 21 k0, aI v1, aI v4]) (rest := []) tc_197 rfl rfl rfl rfl rfl (by omega) (by omega) (Nat.le_of_ble_eq_true rfl) rfl (g_Mo_chosen (by omega) (by omega) h) (fun r9 M9 h => ?_)
  obtain ⟨x1, rfl, e9, h⟩ := h
  subst M9
  show Gd d w 197 _ (122, [some (aR 21 k0), some (aI v1), some (aI v2), o3, some (aI v4), o5, o6], [aI x1], M)
  refine gd_s (P := True ∧ True) (σ1 := (123, [some (aR 21 k0), some (aI v1), some (aI v2), o3, some (aI v4), o5, o6], [aI v2, aI x1], M)) tc_197 rfl 1 (fun u => ⟨_, rfl⟩) ⟨trivial, trivial⟩ ?_
  refine gd_br (c := ¬ x1 = v2) (st1 := []) tc_197 rfl rfl (fun _ => rfl) ⟨fun hc => ?_, fun hc => ?_⟩
  · have h := h.1 hc
    exact g_Mo_layDuties_J130 hd hw hK9 k0 v1 v2 o3 (some (aI v4)) o5 o6 M h
  · have h := h.2 hc
    exact g_Mo_layDuties_J126 hd hw hK9 k0 v1 v2 o3 (some (aI v4)) o5 o6 M h
def w_Mo_layDuties_L9 (post : aM → Prop) : Nat → Nat → Int32 → Int32 → aM → Prop
  | 0, _, _, _, _ => False
  | n + 1, k0, v1, v2, M => (vp_in v1 (rK M (k0 + 10)).2) ∧ ((((rI M (k0 + 10) v1.toNatClampNeg) ≤ v2) → ∃ n9, w_Mo_layDuties_L151 post n9 k0 v1 ((-1 : Int32)) ((0 : Int32)) M) ∧ (¬ ((rI M (k0 + 10) v1.toNatClampNeg) ≤ v2) → (vp_in ((((100 : Int32)) * v1) + v2) (rK M (k0 + 13)).2) ∧ (vp_in ((((100 : Int32)) * v1) + v2) (rK M (k0 + 29)).2) ∧ (w_Mo_in (fun x1 => (((rI M (k0 + 13) ((((100 : Int32)) * v1) + v2).toNatClampNeg) = ((-1 : Int32))) → w_Mo_layDuties_J133 post (w_Mo_layDuties_L9 post n) k0 v1 v2 x1 M) ∧ (¬ ((rI M (k0 + 13) ((((100 : Int32)) * v1) + v2).toNatClampNeg) = ((-1 : Int32))) → (vp_in ((((100 : Int32)) * v1) + (rI M (k0 + 13) ((((100 : Int32)) * v1) + v2).toNatClampNeg)) (rK M (k0 + 12)).2) ∧ (((x1 = ((0 : Int32))) → w_Mo_layDuties_J130 post (w_Mo_layDuties_L9 post n) k0 v1 v2 M) ∧ (¬ (x1 = ((0 : Int32))) → (vp_in (rI M (k0 + 13) ((((100 : Int32)) * v1) + v2).toNatClampNeg) (rK M (k0 + 40)).2) ∧ ((((rI M (k0 + 40) (rI M (k0 + 13) ((((100 : Int32)) * v1) + v2).toNatClampNeg).toNatClampNeg) = ((0 : Int32))) → w_Mo_layDuties_J130 post (w_Mo_layDuties_L9 post n) k0 v1 v2 M) ∧ (¬ ((rI M (k0 + 40) (rI M (k0 + 13) ((((100 : Int32)) * v1) + v2).toNatClampNeg).toNatClampNeg) = ((0 : Int32))) → (vp_in ((((100 : Int32)) * v1) + v2) (rK M (k0 + 29)).2) ∧ (vp_in ((((100 : Int32)) * v1) + (rI M (k0 + 13) ((((100 : Int32)) * v1) + v2).toNatClampNeg)) (rK M (k0 + 29)).2) ∧ (((¬ (rI M (k0 + 29) ((((100 : Int32)) * v1) + v2).toNatClampNeg) = (rI M (k0 + 29) ((((100 : Int32)) * v1) + (rI M (k0 + 13) ((((100 : Int32)) * v1) + v2).toNatClampNeg)).toNatClampNeg)) → w_Mo_layDuties_J130 post (w_Mo_layDuties_L9 post n) k0 v1 v2 M) ∧ (¬ (¬ (rI M (k0 + 29) ((((100 : Int32)) * v1) + v2).toNatClampNeg) = (rI M (k0 + 29) ((((100 : Int32)) * v1) + (rI M (k0 + 13) ((((100 : Int32)) * v1) + v2).toNatClampNeg)).toNatClampNeg)) → (((rI M (k0 + 12) ((((100 : Int32)) * v1) + (rI M (k0 + 13) ((((100 : Int32)) * v1) + v2).toNatClampNeg)).toNatClampNeg) = ((2 : Int32))) → w_Mo_layDuties_J115 post (w_Mo_layDuties_L9 post n) k0 v1 v2 (rI M (k0 + 13) ((((100 : Int32)) * v1) + v2).toNatClampNeg) M) ∧ (¬ ((rI M (k0 + 12) ((((100 : Int32)) * v1) + (rI M (k0 + 13) ((((100 : Int32)) * v1) + v2).toNatClampNeg)).toNatClampNeg) = ((2 : Int32))) → ((¬ (rI M (k0 + 12) ((((100 : Int32)) * v1) + (rI M (k0 + 13) ((((100 : Int32)) * v1) + v2).toNatClampNeg)).toNatClampNeg) = ((3 : Int32))) → w_Mo_layDuties_J126 post (w_Mo_layDuties_L9 post n) k0 v1 v2 M) ∧ (¬ (¬ (rI M (k0 + 12) ((((100 : Int32)) * v1) + (rI M (k0 + 13) ((((100 : Int32)) * v1) + v2).toNatClampNeg)).toNatClampNeg) = ((3 : Int32))) → w_Mo_layDuties_J115 post (w_Mo_layDuties_L9 post n) k0 v1 v2 (rI M (k0 + 13) ((((100 : Int32)) * v1) + v2).toNatClampNeg) M)))))))))) (rI M (k0 + 29) ((((100 : Int32)) * v1) + v2).toNatClampNeg) ((1 : Int32)) ((2 : Int32)) M)))
theorem g_Mo_layDuties_L9 {d w : Nat} (hd : 1 ≤ d) (hw : 25 ≤ w) {post : aM → Prop} : ∀ (n : Nat) (k0 : Nat) (v1 : Int32) (v2 : Int32) (o3 o4 o5 o6 : Option aV) (M : aM), w_Mo_layDuties_L9 post n k0 v1 v2 M → Gd d w 197 (pV post) (9, [some (aR 21 k0), some (aI v1), some (aI v2), o3, o4, o5, o6], [], M) := by
  intro n
  induction n with
  | zero => intro k0 v1 v2 o3 o4 o5 o6 M h; exact h.elim
  | succ n ih =>
    intro k0 v1 v2 o3 o4 o5 o6 M h
    show Gd d w 197 _ (9, [some (aR 21 k0), some (aI v1), some (aI v2), o3, o4, o5, o6], [], M)
    obtain ⟨c0, h⟩ := h
    refine gd_s (P := True ∧ True ∧ True ∧ True ∧ (vp_in v1 (rK M (k0 + 10)).2) ∧ True) (σ1 := (16, [some (aR 21 k0), some (aI v1), some (aI v2), o3, o4, o5, o6], [aI (rI M (k0 + 10) v1.toNatClampNeg), aI v2], M)) tc_197 rfl 5 (fun u => ⟨_, rfl⟩) ⟨trivial, trivial, trivial, trivial, c0, trivial⟩ ?_
    refine gd_br (c := (rI M (k0 + 10) v1.toNatClampNeg) ≤ v2) (st1 := []) tc_197 rfl rfl (fun _ => rfl) ⟨fun hc => ?_, fun hc => ?_⟩
    · have h := h.1 hc
      show Gd d w 197 _ (147, [some (aR 21 k0), some (aI v1), some (aI v2), o3, o4, o5, o6], [], M)
      refine gd_s (P := True ∧ True ∧ True ∧ True ∧ True) (σ1 := (151, [some (aR 21 k0), some (aI v1), some (aI ((-1 : Int32))), some (aI ((0 : Int32))), o4, o5, o6], [], M)) tc_197 rfl 4 (fun u => ⟨_, rfl⟩) ⟨trivial, trivial, trivial, trivial, trivial⟩ ?_
      obtain ⟨n9, h⟩ := h
      exact g_Mo_layDuties_L151 hd hw n9 k0 v1 ((-1 : Int32)) ((0 : Int32)) o4 o5 o6 M h
    · have h := h.2 hc
      show Gd d w 197 _ (19, [some (aR 21 k0), some (aI v1), some (aI v2), o3, o4, o5, o6], [], M)
      obtain ⟨c0, c1, h⟩ := h
      refine gd_s (P := True ∧ True ∧ True ∧ True ∧ True ∧ True ∧ True ∧ True ∧ True ∧ (vp_in ((((100 : Int32)) * v1) + v2) (rK M (k0 + 13)).2) ∧ True ∧ True ∧ True ∧ True ∧ (vp_in ((((100 : Int32)) * v1) + v2) (rK M (k0 + 29)).2) ∧ True ∧ True ∧ True) (σ1 := (42, [some (aR 21 k0), some (aI v1), some (aI v2), some (aI ((((100 : Int32)) * v1) + v2)), some (aI (rI M (k0 + 13) ((((100 : Int32)) * v1) + v2).toNatClampNeg)), o5, o6], [aI ((2 : Int32)), aI ((1 : Int32)), aI (rI M (k0 + 29) ((((100 : Int32)) * v1) + v2).toNatClampNeg)], M)) tc_197 rfl 17 (fun u => ⟨_, rfl⟩) ⟨trivial, trivial, trivial, trivial, trivial, trivial, trivial, trivial, trivial, c0, trivial, trivial, trivial, trivial, c1, trivial, trivial, trivial⟩ ?_
      refine gd_callN (ml := 3) (as := [aI (rI M (k0 + 29) ((((100 : Int32)) * v1) + v2).toNatClampNeg), aI ((1 : Int32)), aI ((2 : Int32))]) (rest := []) tc_197 rfl rfl rfl rfl rfl (by omega) (by omega) (Nat.le_of_ble_eq_true rfl) rfl (g_Mo_in (by omega) (by omega) h) (fun r9 M9 h => ?_)
      obtain ⟨x1, rfl, e9, h⟩ := h
      subst M9
      show Gd d w 197 _ (45, [some (aR 21 k0), some (aI v1), some (aI v2), some (aI ((((100 : Int32)) * v1) + v2)), some (aI (rI M (k0 + 13) ((((100 : Int32)) * v1) + v2).toNatClampNeg)), o5, o6], [aI x1], M)
      refine gd_s (P := True ∧ True ∧ True ∧ True) (σ1 := (50, [some (aR 21 k0), some (aI v1), some (aI v2), some (aI ((((100 : Int32)) * v1) + v2)), some (aI (rI M (k0 + 13) ((((100 : Int32)) * v1) + v2).toNatClampNeg)), some (aI x1), o6], [aI ((-1 : Int32)), aI (rI M (k0 + 13) ((((100 : Int32)) * v1) + v2).toNatClampNeg)], M)) tc_197 rfl 3 (fun u => ⟨_, rfl⟩) ⟨trivial, trivial, trivial, trivial⟩ ?_
      refine gd_br (c := (rI M (k0 + 13) ((((100 : Int32)) * v1) + v2).toNatClampNeg) = ((-1 : Int32))) (st1 := []) tc_197 rfl rfl (fun _ => rfl) ⟨fun hc => ?_, fun hc => ?_⟩
      · have h := h.1 hc
        exact g_Mo_layDuties_J133 hd hw ih k0 v1 v2 x1 (some (aI ((((100 : Int32)) * v1) + v2))) (some (aI (rI M (k0 + 13) ((((100 : Int32)) * v1) + v2).toNatClampNeg))) o6 M h
      · have h := h.2 hc
        show Gd d w 197 _ (53, [some (aR 21 k0), some (aI v1), some (aI v2), some (aI ((((100 : Int32)) * v1) + v2)), some (aI (rI M (k0 + 13) ((((100 : Int32)) * v1) + v2).toNatClampNeg)), some (aI x1), o6], [], M)
        obtain ⟨c0, h⟩ := h
        refine gd_s (P := True ∧ True ∧ True ∧ True ∧ True ∧ True ∧ True ∧ (vp_in ((((100 : Int32)) * v1) + (rI M (k0 + 13) ((((100 : Int32)) * v1) + v2).toNatClampNeg)) (rK M (k0 + 12)).2) ∧ True ∧ True ∧ True) (σ1 := (69, [some (aR 21 k0), some (aI v1), some (aI v2), some (aI ((((100 : Int32)) * v1) + v2)), some (aI (rI M (k0 + 13) ((((100 : Int32)) * v1) + v2).toNatClampNeg)), some (aI x1), some (aI (rI M (k0 + 12) ((((100 : Int32)) * v1) + (rI M (k0 + 13) ((((100 : Int32)) * v1) + v2).toNatClampNeg)).toNatClampNeg))], [aI x1], M)) tc_197 rfl 10 (fun u => ⟨_, rfl⟩) ⟨trivial, trivial, trivial, trivial, trivial, trivial, trivial, c0, trivial, trivial, trivial⟩ ?_
        refine gd_br (c := x1 = ((0 : Int32))) (st1 := []) tc_197 rfl rfl (fun _ => rfl) ⟨fun hc => ?_, fun hc => ?_⟩
        · have h := h.1 hc
          exact g_Mo_layDuties_J130 hd hw ih k0 v1 v2 (some (aI ((((100 : Int32)) * v1) + v2))) (some (aI (rI M (k0 + 13) ((((100 : Int32)) * v1) + v2).toNatClampNeg))) (some (aI x1)) (some (aI (rI M (k0 + 12) ((((100 : Int32)) * v1) + (rI M (k0 + 13) ((((100 : Int32)) * v1) + v2).toNatClampNeg)).toNatClampNeg))) M h
        · have h := h.2 hc
          show Gd d w 197 _ (72, [some (aR 21 k0), some (aI v1), some (aI v2), some (aI ((((100 : Int32)) * v1) + v2)), some (aI (rI M (k0 + 13) ((((100 : Int32)) * v1) + v2).toNatClampNeg)), some (aI x1), some (aI (rI M (k0 + 12) ((((100 : Int32)) * v1) + (rI M (k0 + 13) ((((100 : Int32)) * v1) + v2).toNatClampNeg)).toNatClampNeg))], [], M)
          obtain ⟨c0, h⟩ := h
          refine gd_s (P := True ∧ True ∧ True ∧ (vp_in (rI M (k0 + 13) ((((100 : Int32)) * v1) + v2).toNatClampNeg) (rK M (k0 + 40)).2) ∧ True) (σ1 := (79, [some (aR 21 k0), some (aI v1), some (aI v2), some (aI ((((100 : Int32)) * v1) + v2)), some (aI (rI M (k0 + 13) ((((100 : Int32)) * v1) + v2).toNatClampNeg)), some (aI x1), some (aI (rI M (k0 + 12) ((((100 : Int32)) * v1) + (rI M (k0 + 13) ((((100 : Int32)) * v1) + v2).toNatClampNeg)).toNatClampNeg))], [aI (rI M (k0 + 40) (rI M (k0 + 13) ((((100 : Int32)) * v1) + v2).toNatClampNeg).toNatClampNeg)], M)) tc_197 rfl 4 (fun u => ⟨_, rfl⟩) ⟨trivial, trivial, trivial, c0, trivial⟩ ?_
          refine gd_br (c := (rI M (k0 + 40) (rI M (k0 + 13) ((((100 : Int32)) * v1) + v2).toNatClampNeg).toNatClampNeg) = ((0 : Int32))) (st1 := []) tc_197 rfl rfl (fun _ => rfl) ⟨fun hc => ?_, fun hc => ?_⟩
          · have h := h.1 hc
            exact g_Mo_layDuties_J130 hd hw ih k0 v1 v2 (some (aI ((((100 : Int32)) * v1) + v2))) (some (aI (rI M (k0 + 13) ((((100 : Int32)) * v1) + v2).toNatClampNeg))) (some (aI x1)) (some (aI (rI M (k0 + 12) ((((100 : Int32)) * v1) + (rI M (k0 + 13) ((((100 : Int32)) * v1) + v2).toNatClampNeg)).toNatClampNeg))) M h
          · have h := h.2 hc
            show Gd d w 197 _ (82, [some (aR 21 k0), some (aI v1), some (aI v2), some (aI ((((100 : Int32)) * v1) + v2)), some (aI (rI M (k0 + 13) ((((100 : Int32)) * v1) + v2).toNatClampNeg)), some (aI x1), some (aI (rI M (k0 + 12) ((((100 : Int32)) * v1) + (rI M (k0 + 13) ((((100 : Int32)) * v1) + v2).toNatClampNeg)).toNatClampNeg))], [], M)
            obtain ⟨c0, c1, h⟩ := h
            refine gd_s (P := True ∧ True ∧ True ∧ (vp_in ((((100 : Int32)) * v1) + v2) (rK M (k0 + 29)).2) ∧ True ∧ True ∧ True ∧ True ∧ True ∧ True ∧ True ∧ (vp_in ((((100 : Int32)) * v1) + (rI M (k0 + 13) ((((100 : Int32)) * v1) + v2).toNatClampNeg)) (rK M (k0 + 29)).2) ∧ True) (σ1 := (100, [some (aR 21 k0), some (aI v1), some (aI v2), some (aI ((((100 : Int32)) * v1) + v2)), some (aI (rI M (k0 + 13) ((((100 : Int32)) * v1) + v2).toNatClampNeg)), some (aI x1), some (aI (rI M (k0 + 12) ((((100 : Int32)) * v1) + (rI M (k0 + 13) ((((100 : Int32)) * v1) + v2).toNatClampNeg)).toNatClampNeg))], [aI (rI M (k0 + 29) ((((100 : Int32)) * v1) + (rI M (k0 + 13) ((((100 : Int32)) * v1) + v2).toNatClampNeg)).toNatClampNeg), aI (rI M (k0 + 29) ((((100 : Int32)) * v1) + v2).toNatClampNeg)], M)) tc_197 rfl 12 (fun u => ⟨_, rfl⟩) ⟨trivial, trivial, trivial, c0, trivial, trivial, trivial, trivial, trivial, trivial, trivial, c1, trivial⟩ ?_
            refine gd_br (c := ¬ (rI M (k0 + 29) ((((100 : Int32)) * v1) + v2).toNatClampNeg) = (rI M (k0 + 29) ((((100 : Int32)) * v1) + (rI M (k0 + 13) ((((100 : Int32)) * v1) + v2).toNatClampNeg)).toNatClampNeg)) (st1 := []) tc_197 rfl rfl (fun _ => rfl) ⟨fun hc => ?_, fun hc => ?_⟩
            · have h := h.1 hc
              exact g_Mo_layDuties_J130 hd hw ih k0 v1 v2 (some (aI ((((100 : Int32)) * v1) + v2))) (some (aI (rI M (k0 + 13) ((((100 : Int32)) * v1) + v2).toNatClampNeg))) (some (aI x1)) (some (aI (rI M (k0 + 12) ((((100 : Int32)) * v1) + (rI M (k0 + 13) ((((100 : Int32)) * v1) + v2).toNatClampNeg)).toNatClampNeg))) M h
            · have h := h.2 hc
              show Gd d w 197 _ (103, [some (aR 21 k0), some (aI v1), some (aI v2), some (aI ((((100 : Int32)) * v1) + v2)), some (aI (rI M (k0 + 13) ((((100 : Int32)) * v1) + v2).toNatClampNeg)), some (aI x1), some (aI (rI M (k0 + 12) ((((100 : Int32)) * v1) + (rI M (k0 + 13) ((((100 : Int32)) * v1) + v2).toNatClampNeg)).toNatClampNeg))], [], M)
              refine gd_s (P := True ∧ True ∧ True) (σ1 := (106, [some (aR 21 k0), some (aI v1), some (aI v2), some (aI ((((100 : Int32)) * v1) + v2)), some (aI (rI M (k0 + 13) ((((100 : Int32)) * v1) + v2).toNatClampNeg)), some (aI x1), some (aI (rI M (k0 + 12) ((((100 : Int32)) * v1) + (rI M (k0 + 13) ((((100 : Int32)) * v1) + v2).toNatClampNeg)).toNatClampNeg))], [aI ((2 : Int32)), aI (rI M (k0 + 12) ((((100 : Int32)) * v1) + (rI M (k0 + 13) ((((100 : Int32)) * v1) + v2).toNatClampNeg)).toNatClampNeg)], M)) tc_197 rfl 2 (fun u => ⟨_, rfl⟩) ⟨trivial, trivial, trivial⟩ ?_
              refine gd_br (c := (rI M (k0 + 12) ((((100 : Int32)) * v1) + (rI M (k0 + 13) ((((100 : Int32)) * v1) + v2).toNatClampNeg)).toNatClampNeg) = ((2 : Int32))) (st1 := []) tc_197 rfl rfl (fun _ => rfl) ⟨fun hc => ?_, fun hc => ?_⟩
              · have h := h.1 hc
                exact g_Mo_layDuties_J115 hd hw ih k0 v1 v2 (rI M (k0 + 13) ((((100 : Int32)) * v1) + v2).toNatClampNeg) (some (aI ((((100 : Int32)) * v1) + v2))) (some (aI x1)) (some (aI (rI M (k0 + 12) ((((100 : Int32)) * v1) + (rI M (k0 + 13) ((((100 : Int32)) * v1) + v2).toNatClampNeg)).toNatClampNeg))) M h
              · have h := h.2 hc
                show Gd d w 197 _ (109, [some (aR 21 k0), some (aI v1), some (aI v2), some (aI ((((100 : Int32)) * v1) + v2)), some (aI (rI M (k0 + 13) ((((100 : Int32)) * v1) + v2).toNatClampNeg)), some (aI x1), some (aI (rI M (k0 + 12) ((((100 : Int32)) * v1) + (rI M (k0 + 13) ((((100 : Int32)) * v1) + v2).toNatClampNeg)).toNatClampNeg))], [], M)
                refine gd_s (P := True ∧ True ∧ True) (σ1 := (112, [some (aR 21 k0), some (aI v1), some (aI v2), some (aI ((((100 : Int32)) * v1) + v2)), some (aI (rI M (k0 + 13) ((((100 : Int32)) * v1) + v2).toNatClampNeg)), some (aI x1), some (aI (rI M (k0 + 12) ((((100 : Int32)) * v1) + (rI M (k0 + 13) ((((100 : Int32)) * v1) + v2).toNatClampNeg)).toNatClampNeg))], [aI ((3 : Int32)), aI (rI M (k0 + 12) ((((100 : Int32)) * v1) + (rI M (k0 + 13) ((((100 : Int32)) * v1) + v2).toNatClampNeg)).toNatClampNeg)], M)) tc_197 rfl 2 (fun u => ⟨_, rfl⟩) ⟨trivial, trivial, trivial⟩ ?_
                refine gd_br (c := ¬ (rI M (k0 + 12) ((((100 : Int32)) * v1) + (rI M (k0 + 13) ((((100 : Int32)) * v1) + v2).toNatClampNeg)).toNatClampNeg) = ((3 : Int32))) (st1 := []) tc_197 rfl rfl (fun _ => rfl) ⟨fun hc => ?_, fun hc => ?_⟩
                · have h := h.1 hc
                  exact g_Mo_layDuties_J126 hd hw ih k0 v1 v2 (some (aI ((((100 : Int32)) * v1) + v2))) (some (aI (rI M (k0 + 13) ((((100 : Int32)) * v1) + v2).toNatClampNeg))) (some (aI x1)) (some (aI (rI M (k0 + 12) ((((100 : Int32)) * v1) + (rI M (k0 + 13) ((((100 : Int32)) * v1) + v2).toNatClampNeg)).toNatClampNeg))) M h
                · have h := h.2 hc
                  exact g_Mo_layDuties_J115 hd hw ih k0 v1 v2 (rI M (k0 + 13) ((((100 : Int32)) * v1) + v2).toNatClampNeg) (some (aI ((((100 : Int32)) * v1) + v2))) (some (aI x1)) (some (aI (rI M (k0 + 12) ((((100 : Int32)) * v1) + (rI M (k0 + 13) ((((100 : Int32)) * v1) + v2).toNatClampNeg)).toNatClampNeg))) M h
/-- PolicyJudgeModel.layDuties(I)V -/
def w_Mo_layDuties (post : aM → Prop) (k0 : Nat) (v1 : Int32) (M : aM) : Prop := (vp_in v1 (rK M (k0 + 38)).2) ∧ (∃ n9, w_Mo_layDuties_L9 post n9 k0 v1 ((0 : Int32)) (wI M (k0 + 38) v1.toNatClampNeg ((0 : Int32))))
theorem g_Mo_layDuties {d w : Nat} (hd : 1 ≤ d) (hw : 25 ≤ w) {post : aM → Prop} {k0 : Nat} {v1 : Int32} {M : aM} (h : w_Mo_layDuties post k0 v1 M) : Gd d w 197 (pV post) (0, aEnt 197 [aR 21 k0, aI v1], [], M) := by
  unfold w_Mo_layDuties at h
  show Gd d w 197 _ (0, [some (aR 21 k0), some (aI v1), none, none, none, none, none], [], M)
  obtain ⟨c0, h⟩ := h
  refine gd_s (P := True ∧ True ∧ True ∧ True ∧ (vp_in v1 (rK M (k0 + 38)).2) ∧ True ∧ True ∧ True) (σ1 := (9, [some (aR 21 k0), some (aI v1), some (aI ((0 : Int32))), none, none, none, none], [], wI M (k0 + 38) v1.toNatClampNeg ((0 : Int32)))) tc_197 rfl 7 (fun u => ⟨_, rfl⟩) ⟨trivial, trivial, trivial, trivial, c0, trivial, trivial, trivial⟩ ?_
  obtain ⟨n9, h⟩ := h
  exact g_Mo_layDuties_L9 hd hw n9 k0 v1 ((0 : Int32)) none none none none (wI M (k0 + 38) v1.toNatClampNeg ((0 : Int32))) h
theorem tc_186 : tC 186 = c186 := rfl
def w_Mo_decide_J26 (post : Int32 → aM → Prop) (k0 : Nat) (v1 : Int32) (t0 : Nat) (s1 : Int32) (M : aM) : Prop := (((rI (wI M t0 0 s1) k0 0) ≤ ((0 : Int32))) → w_Mo_judge (fun M1 => (vp_in v1 (rK M1 (k0 + 28)).2 ∧ (((1 : Int32)) = 0 ∨ ((1 : Int32)) = 1)) ∧ (w_Mo_layDuties (fun M2 => (vp_in (((100 : Int32)) * v1) (rK M2 (k0 + 29)).2) ∧ post (rI M2 (k0 + 29) (((100 : Int32)) * v1).toNatClampNeg) M2) k0 v1 (wI M1 (k0 + 28) v1.toNatClampNeg ((1 : Int32))))) k0 v1 (wI M t0 0 s1)) ∧ (¬ ((rI (wI M t0 0 s1) k0 0) ≤ ((0 : Int32))) → post ((0 : Int32)) (wI M t0 0 s1))
theorem g_Mo_decide_J26 {d w : Nat} (hd : 4 ≤ d) (hw : 100 ≤ w) {post : Int32 → aM → Prop} (k0 : Nat) (v1 : Int32) (t0 : Nat) (s1 : Int32) (M : aM) (h : w_Mo_decide_J26 post k0 v1 t0 s1 M) : Gd d w 186 (pI post) (26, [some (aR 21 k0), some (aI v1)], [aI s1, aR 21 t0], M) := by
  unfold w_Mo_decide_J26 at h
  show Gd d w 186 _ (26, [some (aR 21 k0), some (aI v1)], [aI s1, aR 21 t0], M)
  refine gd_s (P := True ∧ True ∧ True ∧ True) (σ1 := (33, [some (aR 21 k0), some (aI v1)], [aI (rI (wI M t0 0 s1) k0 0)], wI M t0 0 s1)) tc_186 rfl 3 (fun u => ⟨_, rfl⟩) ⟨trivial, trivial, trivial, trivial⟩ ?_
  refine gd_br (c := (rI (wI M t0 0 s1) k0 0) ≤ ((0 : Int32))) (st1 := []) tc_186 rfl rfl (fun _ => rfl) ⟨fun hc => ?_, fun hc => ?_⟩
  · have h := h.1 hc
    show Gd d w 186 _ (38, [some (aR 21 k0), some (aI v1)], [], wI M t0 0 s1)
    refine gd_s (P := True ∧ True ∧ True) (σ1 := (40, [some (aR 21 k0), some (aI v1)], [aI v1, aR 21 k0], wI M t0 0 s1)) tc_186 rfl 2 (fun u => ⟨_, rfl⟩) ⟨trivial, trivial, trivial⟩ ?_
    refine gd_callN (ml := 5) (as := [aR 21 k0, aI v1]) (rest := []) tc_186 rfl rfl rfl rfl rfl (by omega) (by omega) (Nat.le_of_ble_eq_true rfl) rfl (g_Mo_judge (by omega) (by omega) h) (fun r9 M1 h => ?_)
    obtain ⟨rfl, h⟩ := h
    show Gd d w 186 _ (43, [some (aR 21 k0), some (aI v1)], [], M1)
    obtain ⟨c0, h⟩ := h
    refine gd_s (P := True ∧ True ∧ True ∧ True ∧ (vp_in v1 (rK M1 (k0 + 28)).2 ∧ (((1 : Int32)) = 0 ∨ ((1 : Int32)) = 1)) ∧ True ∧ True ∧ True) (σ1 := (52, [some (aR 21 k0), some (aI v1)], [aI v1, aR 21 k0], wI M1 (k0 + 28) v1.toNatClampNeg ((1 : Int32)))) tc_186 rfl 7 (fun u => ⟨_, rfl⟩) ⟨trivial, trivial, trivial, trivial, c0, trivial, trivial, trivial⟩ ?_
    refine gd_callN (ml := 7) (as := [aR 21 k0, aI v1]) (rest := []) tc_186 rfl rfl rfl rfl rfl (by omega) (by omega) (Nat.le_of_ble_eq_true rfl) rfl (g_Mo_layDuties (by omega) (by omega) h) (fun r9 M2 h => ?_)
    obtain ⟨rfl, h⟩ := h
    show Gd d w 186 _ (55, [some (aR 21 k0), some (aI v1)], [], M2)
    obtain ⟨c0, h⟩ := h
    refine gd_s (P := True ∧ True ∧ True ∧ True ∧ True ∧ (vp_in (((100 : Int32)) * v1) (rK M2 (k0 + 29)).2) ∧ True) (σ1 := (64, [some (aR 21 k0), some (aI v1)], [aI (rI M2 (k0 + 29) (((100 : Int32)) * v1).toNatClampNeg)], M2)) tc_186 rfl 6 (fun u => ⟨_, rfl⟩) ⟨trivial, trivial, trivial, trivial, trivial, c0, trivial⟩ ?_
    exact gd_ret tc_186 rfl rfl trivial (fun _ => rfl) ⟨_, rfl, h⟩
  · have h := h.2 hc
    show Gd d w 186 _ (36, [some (aR 21 k0), some (aI v1)], [], wI M t0 0 s1)
    refine gd_s (P := True ∧ True) (σ1 := (37, [some (aR 21 k0), some (aI v1)], [aI ((0 : Int32))], wI M t0 0 s1)) tc_186 rfl 1 (fun u => ⟨_, rfl⟩) ⟨trivial, trivial⟩ ?_
    exact gd_ret tc_186 rfl rfl trivial (fun _ => rfl) ⟨_, rfl, h⟩
/-- PolicyJudgeModel.decide(I)I -/
def w_Mo_decide (post : Int32 → aM → Prop) (k0 : Nat) (v1 : Int32) (M : aM) : Prop := w_Mo_isText (fun x1 => ((¬ x1 = ((0 : Int32))) → (vp_in v1 (rK M (k0 + 2)).2) ∧ (((¬ (rI M (k0 + 2) v1.toNatClampNeg) = ((0 : Int32))) → w_Mo_decide_J26 post k0 v1 k0 ((0 : Int32)) M) ∧ (¬ (¬ (rI M (k0 + 2) v1.toNatClampNeg) = ((0 : Int32))) → w_Mo_decide_J26 post k0 v1 k0 ((2 : Int32)) M))) ∧ (¬ (¬ x1 = ((0 : Int32))) → w_Mo_decide_J26 post k0 v1 k0 ((1 : Int32)) M)) v1 M
theorem g_Mo_decide {d w : Nat} (hd : 4 ≤ d) (hw : 100 ≤ w) {post : Int32 → aM → Prop} {k0 : Nat} {v1 : Int32} {M : aM} (h : w_Mo_decide post k0 v1 M) : Gd d w 186 (pI post) (0, aEnt 186 [aR 21 k0, aI v1], [], M) := by
  unfold w_Mo_decide at h
  show Gd d w 186 _ (0, [some (aR 21 k0), some (aI v1)], [], M)
  refine gd_s (P := True ∧ True ∧ True) (σ1 := (2, [some (aR 21 k0), some (aI v1)], [aI v1, aR 21 k0], M)) tc_186 rfl 2 (fun u => ⟨_, rfl⟩) ⟨trivial, trivial, trivial⟩ ?_
  refine gd_callN (ml := 1) (as := [aI v1]) (rest := [aR 21 k0]) tc_186 rfl rfl rfl rfl rfl (by omega) (by omega) (Nat.le_of_ble_eq_true rfl) rfl (g_Mo_isText (by omega) (by omega) h) (fun r9 M9 h => ?_)
  obtain ⟨x1, rfl, e9, h⟩ := h
  subst M9
  show Gd d w 186 _ (5, [some (aR 21 k0), some (aI v1)], [aI x1, aR 21 k0], M)
  refine gd_br (c := ¬ x1 = ((0 : Int32))) (st1 := [aR 21 k0]) tc_186 rfl rfl (fun _ => rfl) ⟨fun hc => ?_, fun hc => ?_⟩
  · have h := h.1 hc
    show Gd d w 186 _ (12, [some (aR 21 k0), some (aI v1)], [aR 21 k0], M)
    obtain ⟨c0, h⟩ := h
    refine gd_s (P := True ∧ True ∧ True ∧ (vp_in v1 (rK M (k0 + 2)).2) ∧ True) (σ1 := (18, [some (aR 21 k0), some (aI v1)], [aI (rI M (k0 + 2) v1.toNatClampNeg), aR 21 k0], M)) tc_186 rfl 4 (fun u => ⟨_, rfl⟩) ⟨trivial, trivial, trivial, c0, trivial⟩ ?_
    refine gd_br (c := ¬ (rI M (k0 + 2) v1.toNatClampNeg) = ((0 : Int32))) (st1 := [aR 21 k0]) tc_186 rfl rfl (fun _ => rfl) ⟨fun hc => ?_, fun hc => ?_⟩
    · have h := h.1 hc
      show Gd d w 186 _ (25, [some (aR 21 k0), some (aI v1)], [aR 21 k0], M)
      refine gd_s (P := True ∧ True) (σ1 := (26, [some (aR 21 k0), some (aI v1)], [aI ((0 : Int32)), aR 21 k0], M)) tc_186 rfl 1 (fun u => ⟨_, rfl⟩) ⟨trivial, trivial⟩ ?_
      exact g_Mo_decide_J26 hd hw k0 v1 k0 ((0 : Int32)) M h
    · have h := h.2 hc
      show Gd d w 186 _ (21, [some (aR 21 k0), some (aI v1)], [aR 21 k0], M)
      refine gd_s (P := True ∧ True ∧ True) (σ1 := (26, [some (aR 21 k0), some (aI v1)], [aI ((2 : Int32)), aR 21 k0], M)) tc_186 rfl 2 (fun u => ⟨_, rfl⟩) ⟨trivial, trivial, trivial⟩ ?_
      exact g_Mo_decide_J26 hd hw k0 v1 k0 ((2 : Int32)) M h
  · have h := h.2 hc
    show Gd d w 186 _ (8, [some (aR 21 k0), some (aI v1)], [aR 21 k0], M)
    refine gd_s (P := True ∧ True ∧ True) (σ1 := (26, [some (aR 21 k0), some (aI v1)], [aI ((1 : Int32)), aR 21 k0], M)) tc_186 rfl 2 (fun u => ⟨_, rfl⟩) ⟨trivial, trivial, trivial⟩ ?_
    exact g_Mo_decide_J26 hd hw k0 v1 k0 ((1 : Int32)) M h
theorem tc_199 : tC 199 = c199 := rfl
def w_Mo_decided_J24 (post : Int32 → aM → Prop) (k0 : Nat) (v1 : Int32) (v2 : Int32) (t0 : Nat) (s1 : Int32) (M : aM) : Prop := w_Mo_goes (fun x1 M1 => ((x1 = ((0 : Int32))) → post ((0 : Int32)) M1) ∧ (¬ (x1 = ((0 : Int32))) → (vp_in ((((100 : Int32)) * v1) + v2) (rK M1 (k0 + 29)).2) ∧ post (rI M1 (k0 + 29) ((((100 : Int32)) * v1) + v2).toNatClampNeg) M1)) t0 s1 M
theorem g_Mo_decided_J24 {d w : Nat} (hd : 3 ≤ d) (hw : 64 ≤ w) {post : Int32 → aM → Prop} (k0 : Nat) (v1 : Int32) (v2 : Int32) (t0 : Nat) (s1 : Int32) (M : aM) (h : w_Mo_decided_J24 post k0 v1 v2 t0 s1 M) : Gd d w 199 (pI post) (24, [some (aR 21 k0), some (aI v1), some (aI v2)], [aI s1, aR 21 t0], M) := by
  unfold w_Mo_decided_J24 at h
  show Gd d w 199 _ (24, [some (aR 21 k0), some (aI v1), some (aI v2)], [aI s1, aR 21 t0], M)
  refine gd_callN (ml := 2) (as := [aR 21 t0, aI s1]) (rest := []) tc_199 rfl rfl rfl rfl rfl (by omega) (by omega) (Nat.le_of_ble_eq_true rfl) rfl (g_Mo_goes (by omega) (by omega) h) (fun r9 M1 h => ?_)
  obtain ⟨x1, rfl, h⟩ := h
  show Gd d w 199 _ (27, [some (aR 21 k0), some (aI v1), some (aI v2)], [aI x1], M1)
  refine gd_br (c := x1 = ((0 : Int32))) (st1 := []) tc_199 rfl rfl (fun _ => rfl) ⟨fun hc => ?_, fun hc => ?_⟩
  · have h := h.1 hc
    show Gd d w 199 _ (44, [some (aR 21 k0), some (aI v1), some (aI v2)], [], M1)
    refine gd_s (P := True ∧ True) (σ1 := (45, [some (aR 21 k0), some (aI v1), some (aI v2)], [aI ((0 : Int32))], M1)) tc_199 rfl 1 (fun u => ⟨_, rfl⟩) ⟨trivial, trivial⟩ ?_
    exact gd_ret tc_199 rfl rfl trivial (fun _ => rfl) ⟨_, rfl, h⟩
  · have h := h.2 hc
    show Gd d w 199 _ (30, [some (aR 21 k0), some (aI v1), some (aI v2)], [], M1)
    obtain ⟨c0, h⟩ := h
    refine gd_s (P := True ∧ True ∧ True ∧ True ∧ True ∧ True ∧ True ∧ (vp_in ((((100 : Int32)) * v1) + v2) (rK M1 (k0 + 29)).2) ∧ True ∧ True) (σ1 := (45, [some (aR 21 k0), some (aI v1), some (aI v2)], [aI (rI M1 (k0 + 29) ((((100 : Int32)) * v1) + v2).toNatClampNeg)], M1)) tc_199 rfl 9 (fun u => ⟨_, rfl⟩) ⟨trivial, trivial, trivial, trivial, trivial, trivial, trivial, c0, trivial, trivial⟩ ?_
    exact gd_ret tc_199 rfl rfl trivial (fun _ => rfl) ⟨_, rfl, h⟩
def w_Mo_decided_J23 (post : Int32 → aM → Prop) (k0 : Nat) (v1 : Int32) (v2 : Int32) (t0 : Nat) (M : aM) : Prop := w_Mo_decided_J24 post k0 v1 v2 t0 ((0 : Int32)) M
theorem g_Mo_decided_J23 {d w : Nat} (hd : 3 ≤ d) (hw : 64 ≤ w) {post : Int32 → aM → Prop} (k0 : Nat) (v1 : Int32) (v2 : Int32) (t0 : Nat) (M : aM) (h : w_Mo_decided_J23 post k0 v1 v2 t0 M) : Gd d w 199 (pI post) (23, [some (aR 21 k0), some (aI v1), some (aI v2)], [aR 21 t0], M) := by
  unfold w_Mo_decided_J23 at h
  show Gd d w 199 _ (23, [some (aR 21 k0), some (aI v1), some (aI v2)], [aR 21 t0], M)
  refine gd_s (P := True ∧ True) (σ1 := (24, [some (aR 21 k0), some (aI v1), some (aI v2)], [aI ((0 : Int32)), aR 21 t0], M)) tc_199 rfl 1 (fun u => ⟨_, rfl⟩) ⟨trivial, trivial⟩ ?_
  exact g_Mo_decided_J24 hd hw k0 v1 v2 t0 ((0 : Int32)) M h
/-- PolicyJudgeModel.decided(II)I -/
def w_Mo_decided (post : Int32 → aM → Prop) (k0 : Nat) (v1 : Int32) (v2 : Int32) (M : aM) : Prop := w_Mo_isNode (fun x1 => ((x1 = ((0 : Int32))) → w_Mo_decided_J23 post k0 v1 v2 k0 M) ∧ (¬ (x1 = ((0 : Int32))) → (vp_in v1 (rK M (k0 + 28)).2) ∧ ((((rI M (k0 + 28) v1.toNatClampNeg) = ((0 : Int32))) → w_Mo_decided_J23 post k0 v1 v2 k0 M) ∧ (¬ ((rI M (k0 + 28) v1.toNatClampNeg) = ((0 : Int32))) → w_Mo_decided_J24 post k0 v1 v2 k0 ((1 : Int32)) M)))) k0 v1 v2 M
theorem g_Mo_decided {d w : Nat} (hd : 3 ≤ d) (hw : 64 ≤ w) {post : Int32 → aM → Prop} {k0 : Nat} {v1 : Int32} {v2 : Int32} {M : aM} (h : w_Mo_decided post k0 v1 v2 M) : Gd d w 199 (pI post) (0, aEnt 199 [aR 21 k0, aI v1, aI v2], [], M) := by
  unfold w_Mo_decided at h
  show Gd d w 199 _ (0, [some (aR 21 k0), some (aI v1), some (aI v2)], [], M)
  refine gd_s (P := True ∧ True ∧ True ∧ True ∧ True) (σ1 := (4, [some (aR 21 k0), some (aI v1), some (aI v2)], [aI v2, aI v1, aR 21 k0, aR 21 k0], M)) tc_199 rfl 4 (fun u => ⟨_, rfl⟩) ⟨trivial, trivial, trivial, trivial, trivial⟩ ?_
  refine gd_callN (ml := 3) (as := [aR 21 k0, aI v1, aI v2]) (rest := [aR 21 k0]) tc_199 rfl rfl rfl rfl rfl (by omega) (by omega) (Nat.le_of_ble_eq_true rfl) rfl (g_Mo_isNode (by omega) (by omega) h) (fun r9 M9 h => ?_)
  obtain ⟨x1, rfl, e9, h⟩ := h
  subst M9
  show Gd d w 199 _ (7, [some (aR 21 k0), some (aI v1), some (aI v2)], [aI x1, aR 21 k0], M)
  refine gd_br (c := x1 = ((0 : Int32))) (st1 := [aR 21 k0]) tc_199 rfl rfl (fun _ => rfl) ⟨fun hc => ?_, fun hc => ?_⟩
  · have h := h.1 hc
    exact g_Mo_decided_J23 hd hw k0 v1 v2 k0 M h
  · have h := h.2 hc
    show Gd d w 199 _ (10, [some (aR 21 k0), some (aI v1), some (aI v2)], [aR 21 k0], M)
    obtain ⟨c0, h⟩ := h
    refine gd_s (P := True ∧ True ∧ True ∧ (vp_in v1 (rK M (k0 + 28)).2) ∧ True) (σ1 := (16, [some (aR 21 k0), some (aI v1), some (aI v2)], [aI (rI M (k0 + 28) v1.toNatClampNeg), aR 21 k0], M)) tc_199 rfl 4 (fun u => ⟨_, rfl⟩) ⟨trivial, trivial, trivial, c0, trivial⟩ ?_
    refine gd_br (c := (rI M (k0 + 28) v1.toNatClampNeg) = ((0 : Int32))) (st1 := [aR 21 k0]) tc_199 rfl rfl (fun _ => rfl) ⟨fun hc => ?_, fun hc => ?_⟩
    · have h := h.1 hc
      exact g_Mo_decided_J23 hd hw k0 v1 v2 k0 M h
    · have h := h.2 hc
      show Gd d w 199 _ (19, [some (aR 21 k0), some (aI v1), some (aI v2)], [aR 21 k0], M)
      refine gd_s (P := True ∧ True ∧ True) (σ1 := (24, [some (aR 21 k0), some (aI v1), some (aI v2)], [aI ((1 : Int32)), aR 21 k0], M)) tc_199 rfl 2 (fun u => ⟨_, rfl⟩) ⟨trivial, trivial, trivial⟩ ?_
      exact g_Mo_decided_J24 hd hw k0 v1 v2 k0 ((1 : Int32)) M h
theorem tc_200 : tC 200 = c200 := rfl
def w_Mo_truth_J24 (post : Int32 → aM → Prop) (k0 : Nat) (v1 : Int32) (v2 : Int32) (t0 : Nat) (s1 : Int32) (M : aM) : Prop := w_Mo_goes (fun x1 M1 => ((x1 = ((0 : Int32))) → post ((0 : Int32)) M1) ∧ (¬ (x1 = ((0 : Int32))) → (vp_in ((((100 : Int32)) * v1) + v2) (rK M1 (k0 + 30)).2) ∧ post (rI M1 (k0 + 30) ((((100 : Int32)) * v1) + v2).toNatClampNeg) M1)) t0 s1 M
theorem g_Mo_truth_J24 {d w : Nat} (hd : 3 ≤ d) (hw : 64 ≤ w) {post : Int32 → aM → Prop} (k0 : Nat) (v1 : Int32) (v2 : Int32) (t0 : Nat) (s1 : Int32) (M : aM) (h : w_Mo_truth_J24 post k0 v1 v2 t0 s1 M) : Gd d w 200 (pI post) (24, [some (aR 21 k0), some (aI v1), some (aI v2)], [aI s1, aR 21 t0], M) := by
  unfold w_Mo_truth_J24 at h
  show Gd d w 200 _ (24, [some (aR 21 k0), some (aI v1), some (aI v2)], [aI s1, aR 21 t0], M)
  refine gd_callN (ml := 2) (as := [aR 21 t0, aI s1]) (rest := []) tc_200 rfl rfl rfl rfl rfl (by omega) (by omega) (Nat.le_of_ble_eq_true rfl) rfl (g_Mo_goes (by omega) (by omega) h) (fun r9 M1 h => ?_)
  obtain ⟨x1, rfl, h⟩ := h
  show Gd d w 200 _ (27, [some (aR 21 k0), some (aI v1), some (aI v2)], [aI x1], M1)
  refine gd_br (c := x1 = ((0 : Int32))) (st1 := []) tc_200 rfl rfl (fun _ => rfl) ⟨fun hc => ?_, fun hc => ?_⟩
  · have h := h.1 hc
    show Gd d w 200 _ (44, [some (aR 21 k0), some (aI v1), some (aI v2)], [], M1)
    refine gd_s (P := True ∧ True) (σ1 := (45, [some (aR 21 k0), some (aI v1), some (aI v2)], [aI ((0 : Int32))], M1)) tc_200 rfl 1 (fun u => ⟨_, rfl⟩) ⟨trivial, trivial⟩ ?_
    exact gd_ret tc_200 rfl rfl trivial (fun _ => rfl) ⟨_, rfl, h⟩
  · have h := h.2 hc
    show Gd d w 200 _ (30, [some (aR 21 k0), some (aI v1), some (aI v2)], [], M1)
    obtain ⟨c0, h⟩ := h
    refine gd_s (P := True ∧ True ∧ True ∧ True ∧ True ∧ True ∧ True ∧ (vp_in ((((100 : Int32)) * v1) + v2) (rK M1 (k0 + 30)).2) ∧ True ∧ True) (σ1 := (45, [some (aR 21 k0), some (aI v1), some (aI v2)], [aI (rI M1 (k0 + 30) ((((100 : Int32)) * v1) + v2).toNatClampNeg)], M1)) tc_200 rfl 9 (fun u => ⟨_, rfl⟩) ⟨trivial, trivial, trivial, trivial, trivial, trivial, trivial, c0, trivial, trivial⟩ ?_
    exact gd_ret tc_200 rfl rfl trivial (fun _ => rfl) ⟨_, rfl, h⟩
def w_Mo_truth_J23 (post : Int32 → aM → Prop) (k0 : Nat) (v1 : Int32) (v2 : Int32) (t0 : Nat) (M : aM) : Prop := w_Mo_truth_J24 post k0 v1 v2 t0 ((0 : Int32)) M
theorem g_Mo_truth_J23 {d w : Nat} (hd : 3 ≤ d) (hw : 64 ≤ w) {post : Int32 → aM → Prop} (k0 : Nat) (v1 : Int32) (v2 : Int32) (t0 : Nat) (M : aM) (h : w_Mo_truth_J23 post k0 v1 v2 t0 M) : Gd d w 200 (pI post) (23, [some (aR 21 k0), some (aI v1), some (aI v2)], [aR 21 t0], M) := by
  unfold w_Mo_truth_J23 at h
  show Gd d w 200 _ (23, [some (aR 21 k0), some (aI v1), some (aI v2)], [aR 21 t0], M)
  refine gd_s (P := True ∧ True) (σ1 := (24, [some (aR 21 k0), some (aI v1), some (aI v2)], [aI ((0 : Int32)), aR 21 t0], M)) tc_200 rfl 1 (fun u => ⟨_, rfl⟩) ⟨trivial, trivial⟩ ?_
  exact g_Mo_truth_J24 hd hw k0 v1 v2 t0 ((0 : Int32)) M h
/-- PolicyJudgeModel.truth(II)I -/
def w_Mo_truth (post : Int32 → aM → Prop) (k0 : Nat) (v1 : Int32) (v2 : Int32) (M : aM) : Prop := w_Mo_isNode (fun x1 => ((x1 = ((0 : Int32))) → w_Mo_truth_J23 post k0 v1 v2 k0 M) ∧ (¬ (x1 = ((0 : Int32))) → (vp_in v1 (rK M (k0 + 28)).2) ∧ ((((rI M (k0 + 28) v1.toNatClampNeg) = ((0 : Int32))) → w_Mo_truth_J23 post k0 v1 v2 k0 M) ∧ (¬ ((rI M (k0 + 28) v1.toNatClampNeg) = ((0 : Int32))) → w_Mo_truth_J24 post k0 v1 v2 k0 ((1 : Int32)) M)))) k0 v1 v2 M
theorem g_Mo_truth {d w : Nat} (hd : 3 ≤ d) (hw : 64 ≤ w) {post : Int32 → aM → Prop} {k0 : Nat} {v1 : Int32} {v2 : Int32} {M : aM} (h : w_Mo_truth post k0 v1 v2 M) : Gd d w 200 (pI post) (0, aEnt 200 [aR 21 k0, aI v1, aI v2], [], M) := by
  unfold w_Mo_truth at h
  show Gd d w 200 _ (0, [some (aR 21 k0), some (aI v1), some (aI v2)], [], M)
  refine gd_s (P := True ∧ True ∧ True ∧ True ∧ True) (σ1 := (4, [some (aR 21 k0), some (aI v1), some (aI v2)], [aI v2, aI v1, aR 21 k0, aR 21 k0], M)) tc_200 rfl 4 (fun u => ⟨_, rfl⟩) ⟨trivial, trivial, trivial, trivial, trivial⟩ ?_
  refine gd_callN (ml := 3) (as := [aR 21 k0, aI v1, aI v2]) (rest := [aR 21 k0]) tc_200 rfl rfl rfl rfl rfl (by omega) (by omega) (Nat.le_of_ble_eq_true rfl) rfl (g_Mo_isNode (by omega) (by omega) h) (fun r9 M9 h => ?_)
  obtain ⟨x1, rfl, e9, h⟩ := h
  subst M9
  show Gd d w 200 _ (7, [some (aR 21 k0), some (aI v1), some (aI v2)], [aI x1, aR 21 k0], M)
  refine gd_br (c := x1 = ((0 : Int32))) (st1 := [aR 21 k0]) tc_200 rfl rfl (fun _ => rfl) ⟨fun hc => ?_, fun hc => ?_⟩
  · have h := h.1 hc
    exact g_Mo_truth_J23 hd hw k0 v1 v2 k0 M h
  · have h := h.2 hc
    show Gd d w 200 _ (10, [some (aR 21 k0), some (aI v1), some (aI v2)], [aR 21 k0], M)
    obtain ⟨c0, h⟩ := h
    refine gd_s (P := True ∧ True ∧ True ∧ (vp_in v1 (rK M (k0 + 28)).2) ∧ True) (σ1 := (16, [some (aR 21 k0), some (aI v1), some (aI v2)], [aI (rI M (k0 + 28) v1.toNatClampNeg), aR 21 k0], M)) tc_200 rfl 4 (fun u => ⟨_, rfl⟩) ⟨trivial, trivial, trivial, c0, trivial⟩ ?_
    refine gd_br (c := (rI M (k0 + 28) v1.toNatClampNeg) = ((0 : Int32))) (st1 := [aR 21 k0]) tc_200 rfl rfl (fun _ => rfl) ⟨fun hc => ?_, fun hc => ?_⟩
    · have h := h.1 hc
      exact g_Mo_truth_J23 hd hw k0 v1 v2 k0 M h
    · have h := h.2 hc
      show Gd d w 200 _ (19, [some (aR 21 k0), some (aI v1), some (aI v2)], [aR 21 k0], M)
      refine gd_s (P := True ∧ True ∧ True) (σ1 := (24, [some (aR 21 k0), some (aI v1), some (aI v2)], [aI ((1 : Int32)), aR 21 k0], M)) tc_200 rfl 2 (fun u => ⟨_, rfl⟩) ⟨trivial, trivial, trivial⟩ ?_
      exact g_Mo_truth_J24 hd hw k0 v1 v2 k0 ((1 : Int32)) M h
