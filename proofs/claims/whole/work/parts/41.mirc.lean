/-! Mirrors, on. -/
theorem tc_109 : tC 109 = c109 := rfl
def w_Sv_step_L7 (post : aM → Prop) : Nat → Nat → Nat → Int32 → aM → Prop
  | 0, _, _, _, _ => False
  | n + 1, k0, k1, v2, M => ((v2 < ((0 : Int32))) → post M) ∧ (¬ (v2 < ((0 : Int32))) → (vp_in v2 (rK M (k0 + 8)).2) ∧ (w_At_bagBehind (fun x1 => (vp_in v2 (rK M (k0 + 8)).2) ∧ (vp_in v2 (rK M (k0 + 8)).2) ∧ ((((rI (wI M (k0 + 8) v2.toNatClampNeg x1) (k0 + 8) v2.toNatClampNeg) = ((0 : Int32))) → w_Sv_step_L7 post n k0 k1 (v2 + (-1 : Int32)) (wI M (k0 + 8) v2.toNatClampNeg x1)) ∧ (¬ ((rI (wI M (k0 + 8) v2.toNatClampNeg x1) (k0 + 8) v2.toNatClampNeg) = ((0 : Int32))) → post (wI M (k0 + 8) v2.toNatClampNeg x1)))) k1 v2 (rI M (k0 + 8) v2.toNatClampNeg) M))
theorem g_Sv_step_L7 {d w : Nat} (hd : 1 ≤ d) (hw : 23 ≤ w) {post : aM → Prop} : ∀ (n : Nat) (k0 : Nat) (k1 : Nat) (v2 : Int32) (M : aM), w_Sv_step_L7 post n k0 k1 v2 M → Gd d w 109 (pV post) (7, [some (aR 19 k0), some (aR 14 k1), some (aI v2)], [], M) := by
  intro n
  induction n with
  | zero => intro k0 k1 v2 M h; exact h.elim
  | succ n ih =>
    intro k0 k1 v2 M h
    show Gd d w 109 _ (7, [some (aR 19 k0), some (aR 14 k1), some (aI v2)], [], M)
    refine gd_s (P := True ∧ True) (σ1 := (8, [some (aR 19 k0), some (aR 14 k1), some (aI v2)], [aI v2], M)) tc_109 rfl 1 (fun u => ⟨_, rfl⟩) ⟨trivial, trivial⟩ ?_
    refine gd_br (c := v2 < ((0 : Int32))) (st1 := []) tc_109 rfl rfl (fun _ => rfl) ⟨fun hc => ?_, fun hc => ?_⟩
    · have h := h.1 hc
      show Gd d w 109 _ (44, [some (aR 19 k0), some (aR 14 k1), some (aI v2)], [], M)
      exact gd_ret tc_109 rfl rfl trivial (fun _ => rfl) ⟨rfl, h⟩
    · have h := h.2 hc
      show Gd d w 109 _ (11, [some (aR 19 k0), some (aR 14 k1), some (aI v2)], [], M)
      obtain ⟨c0, h⟩ := h
      refine gd_s (P := True ∧ True ∧ True ∧ True ∧ True ∧ True ∧ True ∧ True ∧ (vp_in v2 (rK M (k0 + 8)).2) ∧ True) (σ1 := (24, [some (aR 19 k0), some (aR 14 k1), some (aI v2)], [aI (rI M (k0 + 8) v2.toNatClampNeg), aI v2, aR 14 k1, aI v2, aR 4 (k0 + 8)], M)) tc_109 rfl 9 (fun u => ⟨_, rfl⟩) ⟨trivial, trivial, trivial, trivial, trivial, trivial, trivial, trivial, c0, trivial⟩ ?_
      refine gd_callN (ml := 4) (as := [aR 14 k1, aI v2, aI (rI M (k0 + 8) v2.toNatClampNeg)]) (rest := [aI v2, aR 4 (k0 + 8)]) tc_109 rfl rfl rfl rfl rfl (by omega) (by omega) (Nat.le_of_ble_eq_true rfl) rfl (g_At_bagBehind (by omega) (by omega) h) (fun r9 M9 h => ?_)
      obtain ⟨x1, rfl, e9, h⟩ := h
      subst M9
      show Gd d w 109 _ (27, [some (aR 19 k0), some (aR 14 k1), some (aI v2)], [aI x1, aI v2, aR 4 (k0 + 8)], M)
      obtain ⟨c0, c1, h⟩ := h
      refine gd_s (P := (vp_in v2 (rK M (k0 + 8)).2) ∧ True ∧ True ∧ True ∧ (vp_in v2 (rK M (k0 + 8)).2) ∧ True) (σ1 := (34, [some (aR 19 k0), some (aR 14 k1), some (aI v2)], [aI (rI (wI M (k0 + 8) v2.toNatClampNeg x1) (k0 + 8) v2.toNatClampNeg)], wI M (k0 + 8) v2.toNatClampNeg x1)) tc_109 rfl 5 (fun u => ⟨_, rfl⟩) ⟨c0, trivial, trivial, trivial, c1, trivial⟩ ?_
      refine gd_br (c := (rI (wI M (k0 + 8) v2.toNatClampNeg x1) (k0 + 8) v2.toNatClampNeg) = ((0 : Int32))) (st1 := []) tc_109 rfl rfl (fun _ => rfl) ⟨fun hc => ?_, fun hc => ?_⟩
      · have h := h.1 hc
        show Gd d w 109 _ (38, [some (aR 19 k0), some (aR 14 k1), some (aI v2)], [], wI M (k0 + 8) v2.toNatClampNeg x1)
        refine gd_s (P := True ∧ True ∧ True) (σ1 := (7, [some (aR 19 k0), some (aR 14 k1), some (aI (v2 + (-1 : Int32)))], [], wI M (k0 + 8) v2.toNatClampNeg x1)) tc_109 rfl 2 (fun u => ⟨_, rfl⟩) ⟨trivial, trivial, trivial⟩ ?_
        exact ih k0 k1 (v2 + (-1 : Int32)) (wI M (k0 + 8) v2.toNatClampNeg x1) h
      · have h := h.2 hc
        show Gd d w 109 _ (37, [some (aR 19 k0), some (aR 14 k1), some (aI v2)], [], wI M (k0 + 8) v2.toNatClampNeg x1)
        exact gd_ret tc_109 rfl rfl trivial (fun _ => rfl) ⟨rfl, h⟩
/-- PolicyJudge$Survey.step(LPolicyJudge$Attributes;)V -/
def w_Sv_step (post : aM → Prop) (k0 : Nat) (k1 : Nat) (M : aM) : Prop := ∃ n9, w_Sv_step_L7 post n9 k0 k1 ((rI M k1 0) - ((1 : Int32))) M
theorem g_Sv_step {d w : Nat} (hd : 1 ≤ d) (hw : 23 ≤ w) {post : aM → Prop} {k0 : Nat} {k1 : Nat} {M : aM} (h : w_Sv_step post k0 k1 M) : Gd d w 109 (pV post) (0, aEnt 109 [aR 19 k0, aR 14 k1], [], M) := by
  unfold w_Sv_step at h
  show Gd d w 109 _ (0, [some (aR 19 k0), some (aR 14 k1), none], [], M)
  refine gd_s (P := True ∧ True ∧ True ∧ True ∧ True ∧ True) (σ1 := (7, [some (aR 19 k0), some (aR 14 k1), some (aI ((rI M k1 0) - ((1 : Int32))))], [], M)) tc_109 rfl 5 (fun u => ⟨_, rfl⟩) ⟨trivial, trivial, trivial, trivial, trivial, trivial⟩ ?_
  obtain ⟨n9, h⟩ := h
  exact g_Sv_step_L7 hd hw n9 k0 k1 ((rI M k1 0) - ((1 : Int32))) M h
theorem tc_251 : tC 251 = c251 := rfl
def w_Ar_fill_L5 (post : aM → Prop) : Nat → Nat → Int32 → Int32 → Int32 → aM → Prop
  | 0, _, _, _, _, _ => False
  | n + 1, k0, v1, v2, v3, M => ((v3 ≤ v2) → post M) ∧ (¬ (v3 ≤ v2) → (vp_in v2 (rK M k0).2) ∧ (w_Ar_fill_L5 post n k0 v1 (v2 + (1 : Int32)) v3 (wI M k0 v2.toNatClampNeg v1)))
theorem g_Ar_fill_L5 {d w : Nat} (hd : 0 ≤ d) (hw : 0 ≤ w) {post : aM → Prop} : ∀ (n : Nat) (k0 : Nat) (v1 : Int32) (v2 : Int32) (v3 : Int32) (M : aM), w_Ar_fill_L5 post n k0 v1 v2 v3 M → Gd d w 251 (pV post) (5, [some (aR 4 k0), some (aI v1), some (aI v2), some (aI v3)], [], M) := by
  intro n
  induction n with
  | zero => intro k0 v1 v2 v3 M h; exact h.elim
  | succ n ih =>
    intro k0 v1 v2 v3 M h
    show Gd d w 251 _ (5, [some (aR 4 k0), some (aI v1), some (aI v2), some (aI v3)], [], M)
    refine gd_s (P := True ∧ True ∧ True) (σ1 := (7, [some (aR 4 k0), some (aI v1), some (aI v2), some (aI v3)], [aI v3, aI v2], M)) tc_251 rfl 2 (fun u => ⟨_, rfl⟩) ⟨trivial, trivial, trivial⟩ ?_
    refine gd_br (c := v3 ≤ v2) (st1 := []) tc_251 rfl rfl (fun _ => rfl) ⟨fun hc => ?_, fun hc => ?_⟩
    · have h := h.1 hc
      show Gd d w 251 _ (20, [some (aR 4 k0), some (aI v1), some (aI v2), some (aI v3)], [], M)
      exact gd_ret tc_251 rfl rfl trivial (fun _ => rfl) ⟨rfl, h⟩
    · have h := h.2 hc
      show Gd d w 251 _ (10, [some (aR 4 k0), some (aI v1), some (aI v2), some (aI v3)], [], M)
      obtain ⟨c0, h⟩ := h
      refine gd_s (P := True ∧ True ∧ True ∧ (vp_in v2 (rK M k0).2) ∧ True ∧ True ∧ True) (σ1 := (5, [some (aR 4 k0), some (aI v1), some (aI (v2 + (1 : Int32))), some (aI v3)], [], wI M k0 v2.toNatClampNeg v1)) tc_251 rfl 6 (fun u => ⟨_, rfl⟩) ⟨trivial, trivial, trivial, c0, trivial, trivial, trivial⟩ ?_
      exact ih k0 v1 (v2 + (1 : Int32)) v3 (wI M k0 v2.toNatClampNeg v1) h
/-- java/util/Arrays.fill([II)V -/
def w_Ar_fill (post : aM → Prop) (k0 : Nat) (v1 : Int32) (M : aM) : Prop := ∃ n9, w_Ar_fill_L5 post n9 k0 v1 ((0 : Int32)) (Int32.ofNat (rK M k0).2) M
theorem g_Ar_fill {d w : Nat} (hd : 0 ≤ d) (hw : 0 ≤ w) {post : aM → Prop} {k0 : Nat} {v1 : Int32} {M : aM} (h : w_Ar_fill post k0 v1 M) : Gd d w 251 (pV post) (0, aEnt 251 [aR 4 k0, aI v1], [], M) := by
  unfold w_Ar_fill at h
  show Gd d w 251 _ (0, [some (aR 4 k0), some (aI v1), none, none], [], M)
  refine gd_s (P := True ∧ True ∧ True ∧ True ∧ True ∧ True) (σ1 := (5, [some (aR 4 k0), some (aI v1), some (aI ((0 : Int32))), some (aI (Int32.ofNat (rK M k0).2))], [], M)) tc_251 rfl 5 (fun u => ⟨_, rfl⟩) ⟨trivial, trivial, trivial, trivial, trivial, trivial⟩ ?_
  obtain ⟨n9, h⟩ := h
  exact g_Ar_fill_L5 hd hw n9 k0 v1 ((0 : Int32)) (Int32.ofNat (rK M k0).2) M h
theorem tc_106 : tC 106 = c106 := rfl
def w_Sv_compare_J150 (post : Int32 → aM → Prop) (K40 : Nat → Nat → Nat → Int32 → Int32 → Int32 → aM → Prop) (k0 : Nat) (k1 : Nat) (k2 : Nat) (v3 : Int32) (v4 : Int32) (v5 : Int32) (M : aM) : Prop := w_Sv_step (fun M1 => K40 k0 k1 k2 v3 v4 (v5 + (1 : Int32)) M1) k0 (k1 + 1) M
theorem g_Sv_compare_J150 {d w : Nat} (hd : 104 ≤ d) (hw : 3001 ≤ w) {post : Int32 → aM → Prop} {K40 : Nat → Nat → Nat → Int32 → Int32 → Int32 → aM → Prop} (hK40 : ∀ (k0 : Nat) (k1 : Nat) (k2 : Nat) (v3 : Int32) (v4 : Int32) (v5 : Int32) (o6 : Option aV) (M : aM), K40 k0 k1 k2 v3 v4 v5 M → Gd d w 106 (pI post) (40, [some (aR 19 k0), some (aR 13 k1), some (aR 13 k2), some (aI v3), some (aI v4), some (aI v5), o6], [], M)) (k0 : Nat) (k1 : Nat) (k2 : Nat) (v3 : Int32) (v4 : Int32) (v5 : Int32) (o6 : Option aV) (M : aM) (h : w_Sv_compare_J150 post K40 k0 k1 k2 v3 v4 v5 M) : Gd d w 106 (pI post) (150, [some (aR 19 k0), some (aR 13 k1), some (aR 13 k2), some (aI v3), some (aI v4), some (aI v5), o6], [], M) := by
  unfold w_Sv_compare_J150 at h
  show Gd d w 106 _ (150, [some (aR 19 k0), some (aR 13 k1), some (aR 13 k2), some (aI v3), some (aI v4), some (aI v5), o6], [], M)
  refine gd_s (P := True ∧ True ∧ True ∧ True) (σ1 := (155, [some (aR 19 k0), some (aR 13 k1), some (aR 13 k2), some (aI v3), some (aI v4), some (aI v5), o6], [aR 14 (k1 + 1), aR 19 k0], M)) tc_106 rfl 3 (fun u => ⟨_, rfl⟩) ⟨trivial, trivial, trivial, trivial⟩ ?_
  refine gd_callN (ml := 3) (as := [aR 19 k0, aR 14 (k1 + 1)]) (rest := []) tc_106 rfl rfl rfl rfl rfl (by omega) (by omega) (Nat.le_of_ble_eq_true rfl) rfl (g_Sv_step (by omega) (by omega) h) (fun r9 M1 h => ?_)
  obtain ⟨rfl, h⟩ := h
  show Gd d w 106 _ (158, [some (aR 19 k0), some (aR 13 k1), some (aR 13 k2), some (aI v3), some (aI v4), some (aI v5), o6], [], M1)
  refine gd_s (P := True ∧ True ∧ True) (σ1 := (40, [some (aR 19 k0), some (aR 13 k1), some (aR 13 k2), some (aI v3), some (aI v4), some (aI (v5 + (1 : Int32))), o6], [], M1)) tc_106 rfl 2 (fun u => ⟨_, rfl⟩) ⟨trivial, trivial, trivial⟩ ?_
  exact hK40 k0 k1 k2 v3 v4 (v5 + (1 : Int32)) o6 M1 h
def w_Sv_compare_L40 (post : Int32 → aM → Prop) : Nat → Nat → Nat → Nat → Int32 → Int32 → Int32 → aM → Prop
  | 0, _, _, _, _, _, _, _ => False
  | n + 1, k0, k1, k2, v3, v4, v5, M => ((v4 ≤ v5) → (v3 = 0 ∨ v3 = 1) ∧ post v3 M) ∧ (¬ (v4 ≤ v5) → w_Vd_judge (fun M1 => (vp_in ((0 : Int32)) (rK M1 ((k0 + 3) + 2)).2) ∧ (w_Sv_arrange (fun M2 => w_Vd_judge (fun M3 => (vp_in ((0 : Int32)) (rK M3 ((k0 + 3) + 2)).2) ∧ (vp_in (((rI M1 ((k0 + 3) + 2) ((0 : Int32)).toNatClampNeg) * ((6 : Int32))) + (rI M3 ((k0 + 3) + 2) ((0 : Int32)).toNatClampNeg)) (rK M3 (k0 + 1)).2) ∧ (vp_in (((rI M1 ((k0 + 3) + 2) ((0 : Int32)).toNatClampNeg) * ((6 : Int32))) + (rI M3 ((k0 + 3) + 2) ((0 : Int32)).toNatClampNeg)) (rK M3 (k0 + 1)).2) ∧ (((v3 = ((0 : Int32))) → w_Sv_compare_J150 post (w_Sv_compare_L40 post n) k0 k1 k2 v3 v4 v5 (wI M3 (k0 + 1) (((rI M1 ((k0 + 3) + 2) ((0 : Int32)).toNatClampNeg) * ((6 : Int32))) + (rI M3 ((k0 + 3) + 2) ((0 : Int32)).toNatClampNeg)).toNatClampNeg ((rI M3 (k0 + 1) (((rI M1 ((k0 + 3) + 2) ((0 : Int32)).toNatClampNeg) * ((6 : Int32))) + (rI M3 ((k0 + 3) + 2) ((0 : Int32)).toNatClampNeg)).toNatClampNeg) + ((1 : Int32))))) ∧ (¬ (v3 = ((0 : Int32))) → (vp_in ((0 : Int32)) (rK M3 ((k0 + 3) + 2)).2) ∧ ((((rI M1 ((k0 + 3) + 2) ((0 : Int32)).toNatClampNeg) = (rI (wI M3 (k0 + 1) (((rI M1 ((k0 + 3) + 2) ((0 : Int32)).toNatClampNeg) * ((6 : Int32))) + (rI M3 ((k0 + 3) + 2) ((0 : Int32)).toNatClampNeg)).toNatClampNeg ((rI M3 (k0 + 1) (((rI M1 ((k0 + 3) + 2) ((0 : Int32)).toNatClampNeg) * ((6 : Int32))) + (rI M3 ((k0 + 3) + 2) ((0 : Int32)).toNatClampNeg)).toNatClampNeg) + ((1 : Int32)))) ((k0 + 3) + 2) ((0 : Int32)).toNatClampNeg)) → w_Sv_compare_J150 post (w_Sv_compare_L40 post n) k0 k1 k2 v3 v4 v5 (wI M3 (k0 + 1) (((rI M1 ((k0 + 3) + 2) ((0 : Int32)).toNatClampNeg) * ((6 : Int32))) + (rI M3 ((k0 + 3) + 2) ((0 : Int32)).toNatClampNeg)).toNatClampNeg ((rI M3 (k0 + 1) (((rI M1 ((k0 + 3) + 2) ((0 : Int32)).toNatClampNeg) * ((6 : Int32))) + (rI M3 ((k0 + 3) + 2) ((0 : Int32)).toNatClampNeg)).toNatClampNeg) + ((1 : Int32))))) ∧ (¬ ((rI M1 ((k0 + 3) + 2) ((0 : Int32)).toNatClampNeg) = (rI (wI M3 (k0 + 1) (((rI M1 ((k0 + 3) + 2) ((0 : Int32)).toNatClampNeg) * ((6 : Int32))) + (rI M3 ((k0 + 3) + 2) ((0 : Int32)).toNatClampNeg)).toNatClampNeg ((rI M3 (k0 + 1) (((rI M1 ((k0 + 3) + 2) ((0 : Int32)).toNatClampNeg) * ((6 : Int32))) + (rI M3 ((k0 + 3) + 2) ((0 : Int32)).toNatClampNeg)).toNatClampNeg) + ((1 : Int32)))) ((k0 + 3) + 2) ((0 : Int32)).toNatClampNeg)) → w_Sv_keepWitness (fun M4 => w_Sv_compare_J150 post (w_Sv_compare_L40 post n) k0 k1 k2 ((0 : Int32)) v4 v5 M4) k0 (rI (wI M3 (k0 + 1) (((rI M1 ((k0 + 3) + 2) ((0 : Int32)).toNatClampNeg) * ((6 : Int32))) + (rI M3 ((k0 + 3) + 2) ((0 : Int32)).toNatClampNeg)).toNatClampNeg ((rI M3 (k0 + 1) (((rI M1 ((k0 + 3) + 2) ((0 : Int32)).toNatClampNeg) * ((6 : Int32))) + (rI M3 ((k0 + 3) + 2) ((0 : Int32)).toNatClampNeg)).toNatClampNeg) + ((1 : Int32)))) (k1 + 1) 0) (wI M3 (k0 + 1) (((rI M1 ((k0 + 3) + 2) ((0 : Int32)).toNatClampNeg) * ((6 : Int32))) + (rI M3 ((k0 + 3) + 2) ((0 : Int32)).toNatClampNeg)).toNatClampNeg ((rI M3 (k0 + 1) (((rI M1 ((k0 + 3) + 2) ((0 : Int32)).toNatClampNeg) * ((6 : Int32))) + (rI M3 ((k0 + 3) + 2) ((0 : Int32)).toNatClampNeg)).toNatClampNeg) + ((1 : Int32))))))))) (k0 + 3) k2 (k0 + 9) ((0 : Int32)) M2) k0 (rI M1 (k2 + 1) 0) M1)) (k0 + 3) k1 (k0 + 8) ((0 : Int32)) M)
theorem g_Sv_compare_L40 {d w : Nat} (hd : 104 ≤ d) (hw : 3001 ≤ w) {post : Int32 → aM → Prop} : ∀ (n : Nat) (k0 : Nat) (k1 : Nat) (k2 : Nat) (v3 : Int32) (v4 : Int32) (v5 : Int32) (o6 : Option aV) (M : aM), w_Sv_compare_L40 post n k0 k1 k2 v3 v4 v5 M → Gd d w 106 (pI post) (40, [some (aR 19 k0), some (aR 13 k1), some (aR 13 k2), some (aI v3), some (aI v4), some (aI v5), o6], [], M) := by
  intro n
  induction n with
  | zero => intro k0 k1 k2 v3 v4 v5 o6 M h; exact h.elim
  | succ n ih =>
    intro k0 k1 k2 v3 v4 v5 o6 M h
    show Gd d w 106 _ (40, [some (aR 19 k0), some (aR 13 k1), some (aR 13 k2), some (aI v3), some (aI v4), some (aI v5), o6], [], M)
    refine gd_s (P := True ∧ True ∧ True) (σ1 := (44, [some (aR 19 k0), some (aR 13 k1), some (aR 13 k2), some (aI v3), some (aI v4), some (aI v5), o6], [aI v4, aI v5], M)) tc_106 rfl 2 (fun u => ⟨_, rfl⟩) ⟨trivial, trivial, trivial⟩ ?_
    refine gd_br (c := v4 ≤ v5) (st1 := []) tc_106 rfl rfl (fun _ => rfl) ⟨fun hc => ?_, fun hc => ?_⟩
    · have h := h.1 hc
      show Gd d w 106 _ (164, [some (aR 19 k0), some (aR 13 k1), some (aR 13 k2), some (aI v3), some (aI v4), some (aI v5), o6], [], M)
      refine gd_s (P := True ∧ True) (σ1 := (165, [some (aR 19 k0), some (aR 13 k1), some (aR 13 k2), some (aI v3), some (aI v4), some (aI v5), o6], [aI v3], M)) tc_106 rfl 1 (fun u => ⟨_, rfl⟩) ⟨trivial, trivial⟩ ?_
      exact gd_ret tc_106 rfl rfl h.1 (fun _ => rfl) ⟨_, rfl, h.2⟩
    · have h := h.2 hc
      show Gd d w 106 _ (47, [some (aR 19 k0), some (aR 13 k1), some (aR 13 k2), some (aI v3), some (aI v4), some (aI v5), o6], [], M)
      refine gd_s (P := True ∧ True ∧ True ∧ True ∧ True ∧ True ∧ True) (σ1 := (57, [some (aR 19 k0), some (aR 13 k1), some (aR 13 k2), some (aI v3), some (aI v4), some (aI v5), o6], [aI ((0 : Int32)), aR 4 (k0 + 8), aR 13 k1, aR 18 (k0 + 3)], M)) tc_106 rfl 6 (fun u => ⟨_, rfl⟩) ⟨trivial, trivial, trivial, trivial, trivial, trivial, trivial⟩ ?_
      refine gd_callN (ml := 9) (as := [aR 18 (k0 + 3), aR 13 k1, aR 4 (k0 + 8), aI ((0 : Int32))]) (rest := []) tc_106 rfl rfl rfl rfl rfl (by omega) (by omega) (Nat.le_of_ble_eq_true rfl) rfl (g_Vd_judge (by omega) (by omega) h) (fun r9 M1 h => ?_)
      obtain ⟨rfl, h⟩ := h
      show Gd d w 106 _ (60, [some (aR 19 k0), some (aR 13 k1), some (aR 13 k2), some (aI v3), some (aI v4), some (aI v5), o6], [], M1)
      obtain ⟨c0, h⟩ := h
      refine gd_s (P := True ∧ True ∧ True ∧ True ∧ (vp_in ((0 : Int32)) (rK M1 ((k0 + 3) + 2)).2) ∧ True ∧ True ∧ True ∧ True ∧ True ∧ True) (σ1 := (79, [some (aR 19 k0), some (aR 13 k1), some (aR 13 k2), some (aI v3), some (aI v4), some (aI v5), some (aI (rI M1 ((k0 + 3) + 2) ((0 : Int32)).toNatClampNeg))], [aI (rI M1 (k2 + 1) 0), aR 19 k0], M1)) tc_106 rfl 10 (fun u => ⟨_, rfl⟩) ⟨trivial, trivial, trivial, trivial, c0, trivial, trivial, trivial, trivial, trivial, trivial⟩ ?_
      refine gd_callN (ml := 3) (as := [aR 19 k0, aI (rI M1 (k2 + 1) 0)]) (rest := []) tc_106 rfl rfl rfl rfl rfl (by omega) (by omega) (Nat.le_of_ble_eq_true rfl) rfl (g_Sv_arrange (by omega) (by omega) h) (fun r9 M2 h => ?_)
      obtain ⟨rfl, h⟩ := h
      show Gd d w 106 _ (82, [some (aR 19 k0), some (aR 13 k1), some (aR 13 k2), some (aI v3), some (aI v4), some (aI v5), some (aI (rI M1 ((k0 + 3) + 2) ((0 : Int32)).toNatClampNeg))], [], M2)
      refine gd_s (P := True ∧ True ∧ True ∧ True ∧ True ∧ True ∧ True) (σ1 := (92, [some (aR 19 k0), some (aR 13 k1), some (aR 13 k2), some (aI v3), some (aI v4), some (aI v5), some (aI (rI M1 ((k0 + 3) + 2) ((0 : Int32)).toNatClampNeg))], [aI ((0 : Int32)), aR 4 (k0 + 9), aR 13 k2, aR 18 (k0 + 3)], M2)) tc_106 rfl 6 (fun u => ⟨_, rfl⟩) ⟨trivial, trivial, trivial, trivial, trivial, trivial, trivial⟩ ?_
      refine gd_callN (ml := 9) (as := [aR 18 (k0 + 3), aR 13 k2, aR 4 (k0 + 9), aI ((0 : Int32))]) (rest := []) tc_106 rfl rfl rfl rfl rfl (by omega) (by omega) (Nat.le_of_ble_eq_true rfl) rfl (g_Vd_judge (by omega) (by omega) h) (fun r9 M3 h => ?_)
      obtain ⟨rfl, h⟩ := h
      show Gd d w 106 _ (95, [some (aR 19 k0), some (aR 13 k1), some (aR 13 k2), some (aI v3), some (aI v4), some (aI v5), some (aI (rI M1 ((k0 + 3) + 2) ((0 : Int32)).toNatClampNeg))], [], M3)
      obtain ⟨c0, c1, c2, h⟩ := h
      refine gd_s (P := True ∧ True ∧ True ∧ True ∧ True ∧ True ∧ True ∧ True ∧ True ∧ (vp_in ((0 : Int32)) (rK M3 ((k0 + 3) + 2)).2) ∧ True ∧ True ∧ (vp_in (((rI M1 ((k0 + 3) + 2) ((0 : Int32)).toNatClampNeg) * ((6 : Int32))) + (rI M3 ((k0 + 3) + 2) ((0 : Int32)).toNatClampNeg)) (rK M3 (k0 + 1)).2) ∧ True ∧ True ∧ (vp_in (((rI M1 ((k0 + 3) + 2) ((0 : Int32)).toNatClampNeg) * ((6 : Int32))) + (rI M3 ((k0 + 3) + 2) ((0 : Int32)).toNatClampNeg)) (rK M3 (k0 + 1)).2) ∧ True ∧ True) (σ1 := (120, [some (aR 19 k0), some (aR 13 k1), some (aR 13 k2), some (aI v3), some (aI v4), some (aI v5), some (aI (rI M1 ((k0 + 3) + 2) ((0 : Int32)).toNatClampNeg))], [aI v3], wI M3 (k0 + 1) (((rI M1 ((k0 + 3) + 2) ((0 : Int32)).toNatClampNeg) * ((6 : Int32))) + (rI M3 ((k0 + 3) + 2) ((0 : Int32)).toNatClampNeg)).toNatClampNeg ((rI M3 (k0 + 1) (((rI M1 ((k0 + 3) + 2) ((0 : Int32)).toNatClampNeg) * ((6 : Int32))) + (rI M3 ((k0 + 3) + 2) ((0 : Int32)).toNatClampNeg)).toNatClampNeg) + ((1 : Int32))))) tc_106 rfl 17 (fun u => ⟨_, rfl⟩) ⟨trivial, trivial, trivial, trivial, trivial, trivial, trivial, trivial, trivial, c0, trivial, trivial, c1, trivial, trivial, c2, trivial, trivial⟩ ?_
      refine gd_br (c := v3 = ((0 : Int32))) (st1 := []) tc_106 rfl rfl (fun _ => rfl) ⟨fun hc => ?_, fun hc => ?_⟩
      · have h := h.1 hc
        exact g_Sv_compare_J150 hd hw ih k0 k1 k2 v3 v4 v5 (some (aI (rI M1 ((k0 + 3) + 2) ((0 : Int32)).toNatClampNeg))) (wI M3 (k0 + 1) (((rI M1 ((k0 + 3) + 2) ((0 : Int32)).toNatClampNeg) * ((6 : Int32))) + (rI M3 ((k0 + 3) + 2) ((0 : Int32)).toNatClampNeg)).toNatClampNeg ((rI M3 (k0 + 1) (((rI M1 ((k0 + 3) + 2) ((0 : Int32)).toNatClampNeg) * ((6 : Int32))) + (rI M3 ((k0 + 3) + 2) ((0 : Int32)).toNatClampNeg)).toNatClampNeg) + ((1 : Int32)))) h
      · have h := h.2 hc
        show Gd d w 106 _ (123, [some (aR 19 k0), some (aR 13 k1), some (aR 13 k2), some (aI v3), some (aI v4), some (aI v5), some (aI (rI M1 ((k0 + 3) + 2) ((0 : Int32)).toNatClampNeg))], [], wI M3 (k0 + 1) (((rI M1 ((k0 + 3) + 2) ((0 : Int32)).toNatClampNeg) * ((6 : Int32))) + (rI M3 ((k0 + 3) + 2) ((0 : Int32)).toNatClampNeg)).toNatClampNeg ((rI M3 (k0 + 1) (((rI M1 ((k0 + 3) + 2) ((0 : Int32)).toNatClampNeg) * ((6 : Int32))) + (rI M3 ((k0 + 3) + 2) ((0 : Int32)).toNatClampNeg)).toNatClampNeg) + ((1 : Int32))))
        obtain ⟨c0, h⟩ := h
        refine gd_s (P := True ∧ True ∧ True ∧ True ∧ True ∧ (vp_in ((0 : Int32)) (rK M3 ((k0 + 3) + 2)).2) ∧ True) (σ1 := (134, [some (aR 19 k0), some (aR 13 k1), some (aR 13 k2), some (aI v3), some (aI v4), some (aI v5), some (aI (rI M1 ((k0 + 3) + 2) ((0 : Int32)).toNatClampNeg))], [aI (rI (wI M3 (k0 + 1) (((rI M1 ((k0 + 3) + 2) ((0 : Int32)).toNatClampNeg) * ((6 : Int32))) + (rI M3 ((k0 + 3) + 2) ((0 : Int32)).toNatClampNeg)).toNatClampNeg ((rI M3 (k0 + 1) (((rI M1 ((k0 + 3) + 2) ((0 : Int32)).toNatClampNeg) * ((6 : Int32))) + (rI M3 ((k0 + 3) + 2) ((0 : Int32)).toNatClampNeg)).toNatClampNeg) + ((1 : Int32)))) ((k0 + 3) + 2) ((0 : Int32)).toNatClampNeg), aI (rI M1 ((k0 + 3) + 2) ((0 : Int32)).toNatClampNeg)], wI M3 (k0 + 1) (((rI M1 ((k0 + 3) + 2) ((0 : Int32)).toNatClampNeg) * ((6 : Int32))) + (rI M3 ((k0 + 3) + 2) ((0 : Int32)).toNatClampNeg)).toNatClampNeg ((rI M3 (k0 + 1) (((rI M1 ((k0 + 3) + 2) ((0 : Int32)).toNatClampNeg) * ((6 : Int32))) + (rI M3 ((k0 + 3) + 2) ((0 : Int32)).toNatClampNeg)).toNatClampNeg) + ((1 : Int32))))) tc_106 rfl 6 (fun u => ⟨_, rfl⟩) ⟨trivial, trivial, trivial, trivial, trivial, c0, trivial⟩ ?_
        refine gd_br (c := (rI M1 ((k0 + 3) + 2) ((0 : Int32)).toNatClampNeg) = (rI (wI M3 (k0 + 1) (((rI M1 ((k0 + 3) + 2) ((0 : Int32)).toNatClampNeg) * ((6 : Int32))) + (rI M3 ((k0 + 3) + 2) ((0 : Int32)).toNatClampNeg)).toNatClampNeg ((rI M3 (k0 + 1) (((rI M1 ((k0 + 3) + 2) ((0 : Int32)).toNatClampNeg) * ((6 : Int32))) + (rI M3 ((k0 + 3) + 2) ((0 : Int32)).toNatClampNeg)).toNatClampNeg) + ((1 : Int32)))) ((k0 + 3) + 2) ((0 : Int32)).toNatClampNeg)) (st1 := []) tc_106 rfl rfl (fun _ => rfl) ⟨fun hc => ?_, fun hc => ?_⟩
        · have h := h.1 hc
          exact g_Sv_compare_J150 hd hw ih k0 k1 k2 v3 v4 v5 (some (aI (rI M1 ((k0 + 3) + 2) ((0 : Int32)).toNatClampNeg))) (wI M3 (k0 + 1) (((rI M1 ((k0 + 3) + 2) ((0 : Int32)).toNatClampNeg) * ((6 : Int32))) + (rI M3 ((k0 + 3) + 2) ((0 : Int32)).toNatClampNeg)).toNatClampNeg ((rI M3 (k0 + 1) (((rI M1 ((k0 + 3) + 2) ((0 : Int32)).toNatClampNeg) * ((6 : Int32))) + (rI M3 ((k0 + 3) + 2) ((0 : Int32)).toNatClampNeg)).toNatClampNeg) + ((1 : Int32)))) h
        · have h := h.2 hc
          show Gd d w 106 _ (137, [some (aR 19 k0), some (aR 13 k1), some (aR 13 k2), some (aI v3), some (aI v4), some (aI v5), some (aI (rI M1 ((k0 + 3) + 2) ((0 : Int32)).toNatClampNeg))], [], wI M3 (k0 + 1) (((rI M1 ((k0 + 3) + 2) ((0 : Int32)).toNatClampNeg) * ((6 : Int32))) + (rI M3 ((k0 + 3) + 2) ((0 : Int32)).toNatClampNeg)).toNatClampNeg ((rI M3 (k0 + 1) (((rI M1 ((k0 + 3) + 2) ((0 : Int32)).toNatClampNeg) * ((6 : Int32))) + (rI M3 ((k0 + 3) + 2) ((0 : Int32)).toNatClampNeg)).toNatClampNeg) + ((1 : Int32))))
          refine gd_s (P := True ∧ True ∧ True ∧ True ∧ True ∧ True ∧ True) (σ1 := (147, [some (aR 19 k0), some (aR 13 k1), some (aR 13 k2), some (aI ((0 : Int32))), some (aI v4), some (aI v5), some (aI (rI M1 ((k0 + 3) + 2) ((0 : Int32)).toNatClampNeg))], [aI (rI (wI M3 (k0 + 1) (((rI M1 ((k0 + 3) + 2) ((0 : Int32)).toNatClampNeg) * ((6 : Int32))) + (rI M3 ((k0 + 3) + 2) ((0 : Int32)).toNatClampNeg)).toNatClampNeg ((rI M3 (k0 + 1) (((rI M1 ((k0 + 3) + 2) ((0 : Int32)).toNatClampNeg) * ((6 : Int32))) + (rI M3 ((k0 + 3) + 2) ((0 : Int32)).toNatClampNeg)).toNatClampNeg) + ((1 : Int32)))) (k1 + 1) 0), aR 19 k0], wI M3 (k0 + 1) (((rI M1 ((k0 + 3) + 2) ((0 : Int32)).toNatClampNeg) * ((6 : Int32))) + (rI M3 ((k0 + 3) + 2) ((0 : Int32)).toNatClampNeg)).toNatClampNeg ((rI M3 (k0 + 1) (((rI M1 ((k0 + 3) + 2) ((0 : Int32)).toNatClampNeg) * ((6 : Int32))) + (rI M3 ((k0 + 3) + 2) ((0 : Int32)).toNatClampNeg)).toNatClampNeg) + ((1 : Int32))))) tc_106 rfl 6 (fun u => ⟨_, rfl⟩) ⟨trivial, trivial, trivial, trivial, trivial, trivial, trivial⟩ ?_
          refine gd_callN (ml := 2) (as := [aR 19 k0, aI (rI (wI M3 (k0 + 1) (((rI M1 ((k0 + 3) + 2) ((0 : Int32)).toNatClampNeg) * ((6 : Int32))) + (rI M3 ((k0 + 3) + 2) ((0 : Int32)).toNatClampNeg)).toNatClampNeg ((rI M3 (k0 + 1) (((rI M1 ((k0 + 3) + 2) ((0 : Int32)).toNatClampNeg) * ((6 : Int32))) + (rI M3 ((k0 + 3) + 2) ((0 : Int32)).toNatClampNeg)).toNatClampNeg) + ((1 : Int32)))) (k1 + 1) 0)]) (rest := []) tc_106 rfl rfl rfl rfl rfl (by omega) (by omega) (Nat.le_of_ble_eq_true rfl) rfl (g_Sv_keepWitness (by omega) (by omega) h) (fun r9 M4 h => ?_)
          obtain ⟨rfl, h⟩ := h
          exact g_Sv_compare_J150 hd hw ih k0 k1 k2 ((0 : Int32)) v4 v5 (some (aI (rI M1 ((k0 + 3) + 2) ((0 : Int32)).toNatClampNeg))) M4 h
/-- PolicyJudge$Survey.compare(LPolicyJudge$Text;LPolicyJudge$Text;)Z -/
def w_Sv_compare (post : Int32 → aM → Prop) (k0 : Nat) (k1 : Nat) (k2 : Nat) (M : aM) : Prop := w_Ar_fill (fun M1 => w_Ar_fill (fun M2 => (((1 : Int32)) = 0 ∨ ((1 : Int32)) = 1) ∧ (w_At_requests (fun x3 => ∃ n9, w_Sv_compare_L40 post n9 k0 k1 k2 ((1 : Int32)) x3 ((0 : Int32)) (wI (wI M2 k0 0 ((1 : Int32))) k0 2 ((0 : Int32)))) (k1 + 1) (wI (wI M2 k0 0 ((1 : Int32))) k0 2 ((0 : Int32))))) (k0 + 8) ((0 : Int32)) M1) (k0 + 1) ((0 : Int32)) M
theorem g_Sv_compare {d w : Nat} (hd : 104 ≤ d) (hw : 3001 ≤ w) {post : Int32 → aM → Prop} {k0 : Nat} {k1 : Nat} {k2 : Nat} {M : aM} (h : w_Sv_compare post k0 k1 k2 M) : Gd d w 106 (pI post) (0, aEnt 106 [aR 19 k0, aR 13 k1, aR 13 k2], [], M) := by
  unfold w_Sv_compare at h
  show Gd d w 106 _ (0, [some (aR 19 k0), some (aR 13 k1), some (aR 13 k2), none, none, none, none], [], M)
  refine gd_s (P := True ∧ True ∧ True ∧ True) (σ1 := (5, [some (aR 19 k0), some (aR 13 k1), some (aR 13 k2), none, none, none, none], [aI ((0 : Int32)), aR 4 (k0 + 1)], M)) tc_106 rfl 3 (fun u => ⟨_, rfl⟩) ⟨trivial, trivial, trivial, trivial⟩ ?_
  refine gd_callN (ml := 4) (as := [aR 4 (k0 + 1), aI ((0 : Int32))]) (rest := []) tc_106 rfl rfl rfl rfl rfl (by omega) (by omega) (Nat.le_of_ble_eq_true rfl) rfl (g_Ar_fill (by omega) (by omega) h) (fun r9 M1 h => ?_)
  obtain ⟨rfl, h⟩ := h
  show Gd d w 106 _ (8, [some (aR 19 k0), some (aR 13 k1), some (aR 13 k2), none, none, none, none], [], M1)
  refine gd_s (P := True ∧ True ∧ True ∧ True) (σ1 := (13, [some (aR 19 k0), some (aR 13 k1), some (aR 13 k2), none, none, none, none], [aI ((0 : Int32)), aR 4 (k0 + 8)], M1)) tc_106 rfl 3 (fun u => ⟨_, rfl⟩) ⟨trivial, trivial, trivial, trivial⟩ ?_
  refine gd_callN (ml := 4) (as := [aR 4 (k0 + 8), aI ((0 : Int32))]) (rest := []) tc_106 rfl rfl rfl rfl rfl (by omega) (by omega) (Nat.le_of_ble_eq_true rfl) rfl (g_Ar_fill (by omega) (by omega) h) (fun r9 M2 h => ?_)
  obtain ⟨rfl, h⟩ := h
  show Gd d w 106 _ (16, [some (aR 19 k0), some (aR 13 k1), some (aR 13 k2), none, none, none, none], [], M2)
  obtain ⟨c0, h⟩ := h
  refine gd_s (P := True ∧ True ∧ (((1 : Int32)) = 0 ∨ ((1 : Int32)) = 1) ∧ True ∧ True ∧ True ∧ True ∧ True ∧ True ∧ True ∧ True) (σ1 := (32, [some (aR 19 k0), some (aR 13 k1), some (aR 13 k2), some (aI ((1 : Int32))), none, none, none], [aR 14 (k1 + 1)], wI (wI M2 k0 0 ((1 : Int32))) k0 2 ((0 : Int32)))) tc_106 rfl 10 (fun u => ⟨_, rfl⟩) ⟨trivial, trivial, c0, trivial, trivial, trivial, trivial, trivial, trivial, trivial, trivial⟩ ?_
  refine gd_callN (ml := 3) (as := [aR 14 (k1 + 1)]) (rest := []) tc_106 rfl rfl rfl rfl rfl (by omega) (by omega) (Nat.le_of_ble_eq_true rfl) rfl (g_At_requests (by omega) (by omega) h) (fun r9 M9 h => ?_)
  obtain ⟨x3, rfl, e9, h⟩ := h
  subst M9
  show Gd d w 106 _ (35, [some (aR 19 k0), some (aR 13 k1), some (aR 13 k2), some (aI ((1 : Int32))), none, none, none], [aI x3], wI (wI M2 k0 0 ((1 : Int32))) k0 2 ((0 : Int32)))
  refine gd_s (P := True ∧ True ∧ True ∧ True) (σ1 := (40, [some (aR 19 k0), some (aR 13 k1), some (aR 13 k2), some (aI ((1 : Int32))), some (aI x3), some (aI ((0 : Int32))), none], [], wI (wI M2 k0 0 ((1 : Int32))) k0 2 ((0 : Int32)))) tc_106 rfl 3 (fun u => ⟨_, rfl⟩) ⟨trivial, trivial, trivial, trivial⟩ ?_
  obtain ⟨n9, h⟩ := h
  exact g_Sv_compare_L40 hd hw n9 k0 k1 k2 ((1 : Int32)) x3 ((0 : Int32)) none (wI (wI M2 k0 0 ((1 : Int32))) k0 2 ((0 : Int32))) h
theorem tc_110 : tC 110 = c110 := rfl
def w_Sv_search_L25 (post : Int32 → aM → Prop) : Nat → Nat → Nat → Int32 → Int32 → Int32 → Int32 → aM → Prop
  | 0, _, _, _, _, _, _, _ => False
  | n + 1, k0, k1, v2, v3, v4, v5, M => ((v4 ≤ v5) → (((0 : Int32)) = 0 ∨ ((0 : Int32)) = 1) ∧ post ((0 : Int32)) M) ∧ (¬ (v4 ≤ v5) → w_Vd_judge (fun M1 => (vp_in v2 (rK M1 ((k0 + 3) + 2)).2) ∧ (((¬ (rI M1 ((k0 + 3) + 2) v2.toNatClampNeg) = v3) → w_Sv_step (fun M2 => w_Sv_search_L25 post n k0 k1 v2 v3 v4 (v5 + (1 : Int32)) M2) k0 (k1 + 1) M1) ∧ (¬ (¬ (rI M1 ((k0 + 3) + 2) v2.toNatClampNeg) = v3) → w_Sv_keepWitness (fun M3 => (((1 : Int32)) = 0 ∨ ((1 : Int32)) = 1) ∧ post ((1 : Int32)) M3) k0 (rI M1 (k1 + 1) 0) M1))) (k0 + 3) k1 (k0 + 8) v2 M)
theorem g_Sv_search_L25 {d w : Nat} (hd : 104 ≤ d) (hw : 3001 ≤ w) {post : Int32 → aM → Prop} : ∀ (n : Nat) (k0 : Nat) (k1 : Nat) (v2 : Int32) (v3 : Int32) (v4 : Int32) (v5 : Int32) (M : aM), w_Sv_search_L25 post n k0 k1 v2 v3 v4 v5 M → Gd d w 110 (pI post) (25, [some (aR 19 k0), some (aR 13 k1), some (aI v2), some (aI v3), some (aI v4), some (aI v5)], [], M) := by
  intro n
  induction n with
  | zero => intro k0 k1 v2 v3 v4 v5 M h; exact h.elim
  | succ n ih =>
    intro k0 k1 v2 v3 v4 v5 M h
    show Gd d w 110 _ (25, [some (aR 19 k0), some (aR 13 k1), some (aI v2), some (aI v3), some (aI v4), some (aI v5)], [], M)
    refine gd_s (P := True ∧ True ∧ True) (σ1 := (29, [some (aR 19 k0), some (aR 13 k1), some (aI v2), some (aI v3), some (aI v4), some (aI v5)], [aI v4, aI v5], M)) tc_110 rfl 2 (fun u => ⟨_, rfl⟩) ⟨trivial, trivial, trivial⟩ ?_
    refine gd_br (c := v4 ≤ v5) (st1 := []) tc_110 rfl rfl (fun _ => rfl) ⟨fun hc => ?_, fun hc => ?_⟩
    · have h := h.1 hc
      show Gd d w 110 _ (85, [some (aR 19 k0), some (aR 13 k1), some (aI v2), some (aI v3), some (aI v4), some (aI v5)], [], M)
      refine gd_s (P := True ∧ True) (σ1 := (86, [some (aR 19 k0), some (aR 13 k1), some (aI v2), some (aI v3), some (aI v4), some (aI v5)], [aI ((0 : Int32))], M)) tc_110 rfl 1 (fun u => ⟨_, rfl⟩) ⟨trivial, trivial⟩ ?_
      exact gd_ret tc_110 rfl rfl h.1 (fun _ => rfl) ⟨_, rfl, h.2⟩
    · have h := h.2 hc
      show Gd d w 110 _ (32, [some (aR 19 k0), some (aR 13 k1), some (aI v2), some (aI v3), some (aI v4), some (aI v5)], [], M)
      refine gd_s (P := True ∧ True ∧ True ∧ True ∧ True ∧ True ∧ True) (σ1 := (42, [some (aR 19 k0), some (aR 13 k1), some (aI v2), some (aI v3), some (aI v4), some (aI v5)], [aI v2, aR 4 (k0 + 8), aR 13 k1, aR 18 (k0 + 3)], M)) tc_110 rfl 6 (fun u => ⟨_, rfl⟩) ⟨trivial, trivial, trivial, trivial, trivial, trivial, trivial⟩ ?_
      refine gd_callN (ml := 9) (as := [aR 18 (k0 + 3), aR 13 k1, aR 4 (k0 + 8), aI v2]) (rest := []) tc_110 rfl rfl rfl rfl rfl (by omega) (by omega) (Nat.le_of_ble_eq_true rfl) rfl (g_Vd_judge (by omega) (by omega) h) (fun r9 M1 h => ?_)
      obtain ⟨rfl, h⟩ := h
      show Gd d w 110 _ (45, [some (aR 19 k0), some (aR 13 k1), some (aI v2), some (aI v3), some (aI v4), some (aI v5)], [], M1)
      obtain ⟨c0, h⟩ := h
      refine gd_s (P := True ∧ True ∧ True ∧ True ∧ (vp_in v2 (rK M1 ((k0 + 3) + 2)).2) ∧ True ∧ True) (σ1 := (55, [some (aR 19 k0), some (aR 13 k1), some (aI v2), some (aI v3), some (aI v4), some (aI v5)], [aI v3, aI (rI M1 ((k0 + 3) + 2) v2.toNatClampNeg)], M1)) tc_110 rfl 6 (fun u => ⟨_, rfl⟩) ⟨trivial, trivial, trivial, trivial, c0, trivial, trivial⟩ ?_
      refine gd_br (c := ¬ (rI M1 ((k0 + 3) + 2) v2.toNatClampNeg) = v3) (st1 := []) tc_110 rfl rfl (fun _ => rfl) ⟨fun hc => ?_, fun hc => ?_⟩
      · have h := h.1 hc
        show Gd d w 110 _ (71, [some (aR 19 k0), some (aR 13 k1), some (aI v2), some (aI v3), some (aI v4), some (aI v5)], [], M1)
        refine gd_s (P := True ∧ True ∧ True ∧ True) (σ1 := (76, [some (aR 19 k0), some (aR 13 k1), some (aI v2), some (aI v3), some (aI v4), some (aI v5)], [aR 14 (k1 + 1), aR 19 k0], M1)) tc_110 rfl 3 (fun u => ⟨_, rfl⟩) ⟨trivial, trivial, trivial, trivial⟩ ?_
        refine gd_callN (ml := 3) (as := [aR 19 k0, aR 14 (k1 + 1)]) (rest := []) tc_110 rfl rfl rfl rfl rfl (by omega) (by omega) (Nat.le_of_ble_eq_true rfl) rfl (g_Sv_step (by omega) (by omega) h) (fun r9 M2 h => ?_)
        obtain ⟨rfl, h⟩ := h
        show Gd d w 110 _ (79, [some (aR 19 k0), some (aR 13 k1), some (aI v2), some (aI v3), some (aI v4), some (aI v5)], [], M2)
        refine gd_s (P := True ∧ True ∧ True) (σ1 := (25, [some (aR 19 k0), some (aR 13 k1), some (aI v2), some (aI v3), some (aI v4), some (aI (v5 + (1 : Int32)))], [], M2)) tc_110 rfl 2 (fun u => ⟨_, rfl⟩) ⟨trivial, trivial, trivial⟩ ?_
        exact ih k0 k1 v2 v3 v4 (v5 + (1 : Int32)) M2 h
      · have h := h.2 hc
        show Gd d w 110 _ (58, [some (aR 19 k0), some (aR 13 k1), some (aI v2), some (aI v3), some (aI v4), some (aI v5)], [], M1)
        refine gd_s (P := True ∧ True ∧ True ∧ True ∧ True) (σ1 := (66, [some (aR 19 k0), some (aR 13 k1), some (aI v2), some (aI v3), some (aI v4), some (aI v5)], [aI (rI M1 (k1 + 1) 0), aR 19 k0], M1)) tc_110 rfl 4 (fun u => ⟨_, rfl⟩) ⟨trivial, trivial, trivial, trivial, trivial⟩ ?_
        refine gd_callN (ml := 2) (as := [aR 19 k0, aI (rI M1 (k1 + 1) 0)]) (rest := []) tc_110 rfl rfl rfl rfl rfl (by omega) (by omega) (Nat.le_of_ble_eq_true rfl) rfl (g_Sv_keepWitness (by omega) (by omega) h) (fun r9 M3 h => ?_)
        obtain ⟨rfl, h⟩ := h
        show Gd d w 110 _ (69, [some (aR 19 k0), some (aR 13 k1), some (aI v2), some (aI v3), some (aI v4), some (aI v5)], [], M3)
        refine gd_s (P := True ∧ True) (σ1 := (70, [some (aR 19 k0), some (aR 13 k1), some (aI v2), some (aI v3), some (aI v4), some (aI v5)], [aI ((1 : Int32))], M3)) tc_110 rfl 1 (fun u => ⟨_, rfl⟩) ⟨trivial, trivial⟩ ?_
        exact gd_ret tc_110 rfl rfl h.1 (fun _ => rfl) ⟨_, rfl, h.2⟩
/-- PolicyJudge$Survey.search(LPolicyJudge$Text;II)Z -/
def w_Sv_search (post : Int32 → aM → Prop) (k0 : Nat) (k1 : Nat) (v2 : Int32) (v3 : Int32) (M : aM) : Prop := w_Ar_fill (fun M1 => w_At_requests (fun x2 => ∃ n9, w_Sv_search_L25 post n9 k0 k1 v2 v3 x2 ((0 : Int32)) (wI M1 k0 2 ((0 : Int32)))) (k1 + 1) (wI M1 k0 2 ((0 : Int32)))) (k0 + 8) ((0 : Int32)) M
theorem g_Sv_search {d w : Nat} (hd : 104 ≤ d) (hw : 3001 ≤ w) {post : Int32 → aM → Prop} {k0 : Nat} {k1 : Nat} {v2 : Int32} {v3 : Int32} {M : aM} (h : w_Sv_search post k0 k1 v2 v3 M) : Gd d w 110 (pI post) (0, aEnt 110 [aR 19 k0, aR 13 k1, aI v2, aI v3], [], M) := by
  unfold w_Sv_search at h
  show Gd d w 110 _ (0, [some (aR 19 k0), some (aR 13 k1), some (aI v2), some (aI v3), none, none], [], M)
  refine gd_s (P := True ∧ True ∧ True ∧ True) (σ1 := (5, [some (aR 19 k0), some (aR 13 k1), some (aI v2), some (aI v3), none, none], [aI ((0 : Int32)), aR 4 (k0 + 8)], M)) tc_110 rfl 3 (fun u => ⟨_, rfl⟩) ⟨trivial, trivial, trivial, trivial⟩ ?_
  refine gd_callN (ml := 4) (as := [aR 4 (k0 + 8), aI ((0 : Int32))]) (rest := []) tc_110 rfl rfl rfl rfl rfl (by omega) (by omega) (Nat.le_of_ble_eq_true rfl) rfl (g_Ar_fill (by omega) (by omega) h) (fun r9 M1 h => ?_)
  obtain ⟨rfl, h⟩ := h
  show Gd d w 110 _ (8, [some (aR 19 k0), some (aR 13 k1), some (aI v2), some (aI v3), none, none], [], M1)
  refine gd_s (P := True ∧ True ∧ True ∧ True ∧ True ∧ True) (σ1 := (17, [some (aR 19 k0), some (aR 13 k1), some (aI v2), some (aI v3), none, none], [aR 14 (k1 + 1)], wI M1 k0 2 ((0 : Int32)))) tc_110 rfl 5 (fun u => ⟨_, rfl⟩) ⟨trivial, trivial, trivial, trivial, trivial, trivial⟩ ?_
  refine gd_callN (ml := 3) (as := [aR 14 (k1 + 1)]) (rest := []) tc_110 rfl rfl rfl rfl rfl (by omega) (by omega) (Nat.le_of_ble_eq_true rfl) rfl (g_At_requests (by omega) (by omega) h) (fun r9 M9 h => ?_)
  obtain ⟨x2, rfl, e9, h⟩ := h
  subst M9
  show Gd d w 110 _ (20, [some (aR 19 k0), some (aR 13 k1), some (aI v2), some (aI v3), none, none], [aI x2], wI M1 k0 2 ((0 : Int32)))
  refine gd_s (P := True ∧ True ∧ True ∧ True) (σ1 := (25, [some (aR 19 k0), some (aR 13 k1), some (aI v2), some (aI v3), some (aI x2), some (aI ((0 : Int32)))], [], wI M1 k0 2 ((0 : Int32)))) tc_110 rfl 3 (fun u => ⟨_, rfl⟩) ⟨trivial, trivial, trivial, trivial⟩ ?_
  obtain ⟨n9, h⟩ := h
  exact g_Sv_search_L25 hd hw n9 k0 k1 v2 v3 x2 ((0 : Int32)) (wI M1 k0 2 ((0 : Int32))) h
theorem tc_116 : tC 116 = c116 := rfl
/-- PolicyJudge$Printer.put(I)V -/
def w_Pr_put (post : aM → Prop) (k0 : Nat) (v1 : Int32) (M : aM) : Prop := ((((22000 : Int32)) ≤ (rI M k0 1)) → post M) ∧ (¬ (((22000 : Int32)) ≤ (rI M k0 1)) → (vp_in (rI M k0 1) (rK M (k0 + 1)).2) ∧ post (wI (wI M (k0 + 1) (rI M k0 1).toNatClampNeg v1) k0 1 ((rI (wI M (k0 + 1) (rI M k0 1).toNatClampNeg v1) k0 1) + ((1 : Int32)))))
theorem g_Pr_put {d w : Nat} (hd : 0 ≤ d) (hw : 0 ≤ w) {post : aM → Prop} {k0 : Nat} {v1 : Int32} {M : aM} (h : w_Pr_put post k0 v1 M) : Gd d w 116 (pV post) (0, aEnt 116 [aR 20 k0, aI v1], [], M) := by
  unfold w_Pr_put at h
  show Gd d w 116 _ (0, [some (aR 20 k0), some (aI v1)], [], M)
  refine gd_s (P := True ∧ True ∧ True ∧ True) (σ1 := (7, [some (aR 20 k0), some (aI v1)], [aI ((22000 : Int32)), aI (rI M k0 1)], M)) tc_116 rfl 3 (fun u => ⟨_, rfl⟩) ⟨trivial, trivial, trivial, trivial⟩ ?_
  refine gd_br (c := ((22000 : Int32)) ≤ (rI M k0 1)) (st1 := []) tc_116 rfl rfl (fun _ => rfl) ⟨fun hc => ?_, fun hc => ?_⟩
  · have h := h.1 hc
    show Gd d w 116 _ (30, [some (aR 20 k0), some (aI v1)], [], M)
    exact gd_ret tc_116 rfl rfl trivial (fun _ => rfl) ⟨rfl, h⟩
  · have h := h.2 hc
    show Gd d w 116 _ (10, [some (aR 20 k0), some (aI v1)], [], M)
    obtain ⟨c0, h⟩ := h
    refine gd_s (P := True ∧ True ∧ True ∧ True ∧ True ∧ (vp_in (rI M k0 1) (rK M (k0 + 1)).2) ∧ True ∧ True ∧ True ∧ True ∧ True ∧ True ∧ True) (σ1 := (30, [some (aR 20 k0), some (aI v1)], [], wI (wI M (k0 + 1) (rI M k0 1).toNatClampNeg v1) k0 1 ((rI (wI M (k0 + 1) (rI M k0 1).toNatClampNeg v1) k0 1) + ((1 : Int32))))) tc_116 rfl 12 (fun u => ⟨_, rfl⟩) ⟨trivial, trivial, trivial, trivial, trivial, c0, trivial, trivial, trivial, trivial, trivial, trivial, trivial⟩ ?_
    exact gd_ret tc_116 rfl rfl trivial (fun _ => rfl) ⟨rfl, h⟩
theorem tc_115 : tC 115 = c115 := rfl
def w_Pr_putName_L2 (post : aM → Prop) : Nat → Nat → Nat → Int32 → Int32 → aM → Prop
  | 0, _, _, _, _, _ => False
  | n + 1, k0, k1, v2, v3, M => (vp_in v2 (rK M (k1 + 1)).2) ∧ ((((rI M (k1 + 1) v2.toNatClampNeg) ≤ v3) → post M) ∧ (¬ ((rI M (k1 + 1) v2.toNatClampNeg) ≤ v3) → w_Nm_letter (fun x1 => w_Pr_put (fun M2 => w_Pr_putName_L2 post n k0 k1 v2 (v3 + (1 : Int32)) M2) k0 x1 M) k1 v2 v3 M))
theorem g_Pr_putName_L2 {d w : Nat} (hd : 1 ≤ d) (hw : 22 ≤ w) {post : aM → Prop} : ∀ (n : Nat) (k0 : Nat) (k1 : Nat) (v2 : Int32) (v3 : Int32) (M : aM), w_Pr_putName_L2 post n k0 k1 v2 v3 M → Gd d w 115 (pV post) (2, [some (aR 20 k0), some (aR 15 k1), some (aI v2), some (aI v3)], [], M) := by
  intro n
  induction n with
  | zero => intro k0 k1 v2 v3 M h; exact h.elim
  | succ n ih =>
    intro k0 k1 v2 v3 M h
    show Gd d w 115 _ (2, [some (aR 20 k0), some (aR 15 k1), some (aI v2), some (aI v3)], [], M)
    obtain ⟨c0, h⟩ := h
    refine gd_s (P := True ∧ True ∧ True ∧ True ∧ (vp_in v2 (rK M (k1 + 1)).2) ∧ True) (σ1 := (9, [some (aR 20 k0), some (aR 15 k1), some (aI v2), some (aI v3)], [aI (rI M (k1 + 1) v2.toNatClampNeg), aI v3], M)) tc_115 rfl 5 (fun u => ⟨_, rfl⟩) ⟨trivial, trivial, trivial, trivial, c0, trivial⟩ ?_
    refine gd_br (c := (rI M (k1 + 1) v2.toNatClampNeg) ≤ v3) (st1 := []) tc_115 rfl rfl (fun _ => rfl) ⟨fun hc => ?_, fun hc => ?_⟩
    · have h := h.1 hc
      show Gd d w 115 _ (28, [some (aR 20 k0), some (aR 15 k1), some (aI v2), some (aI v3)], [], M)
      exact gd_ret tc_115 rfl rfl trivial (fun _ => rfl) ⟨rfl, h⟩
    · have h := h.2 hc
      show Gd d w 115 _ (12, [some (aR 20 k0), some (aR 15 k1), some (aI v2), some (aI v3)], [], M)
      refine gd_s (P := True ∧ True ∧ True ∧ True ∧ True) (σ1 := (16, [some (aR 20 k0), some (aR 15 k1), some (aI v2), some (aI v3)], [aI v3, aI v2, aR 15 k1, aR 20 k0], M)) tc_115 rfl 4 (fun u => ⟨_, rfl⟩) ⟨trivial, trivial, trivial, trivial, trivial⟩ ?_
      refine gd_callN (ml := 3) (as := [aR 15 k1, aI v2, aI v3]) (rest := [aR 20 k0]) tc_115 rfl rfl rfl rfl rfl (by omega) (by omega) (Nat.le_of_ble_eq_true rfl) rfl (g_Nm_letter (by omega) (by omega) h) (fun r9 M9 h => ?_)
      obtain ⟨x1, rfl, e9, h⟩ := h
      subst M9
      show Gd d w 115 _ (19, [some (aR 20 k0), some (aR 15 k1), some (aI v2), some (aI v3)], [aI x1, aR 20 k0], M)
      refine gd_callN (ml := 2) (as := [aR 20 k0, aI x1]) (rest := []) tc_115 rfl rfl rfl rfl rfl (by omega) (by omega) (Nat.le_of_ble_eq_true rfl) rfl (g_Pr_put (by omega) (by omega) h) (fun r9 M2 h => ?_)
      obtain ⟨rfl, h⟩ := h
      show Gd d w 115 _ (22, [some (aR 20 k0), some (aR 15 k1), some (aI v2), some (aI v3)], [], M2)
      refine gd_s (P := True ∧ True ∧ True) (σ1 := (2, [some (aR 20 k0), some (aR 15 k1), some (aI v2), some (aI (v3 + (1 : Int32)))], [], M2)) tc_115 rfl 2 (fun u => ⟨_, rfl⟩) ⟨trivial, trivial, trivial⟩ ?_
      exact ih k0 k1 v2 (v3 + (1 : Int32)) M2 h
/-- PolicyJudge$Printer.putName(LPolicyJudge$Names;I)V -/
def w_Pr_putName (post : aM → Prop) (k0 : Nat) (k1 : Nat) (v2 : Int32) (M : aM) : Prop := ∃ n9, w_Pr_putName_L2 post n9 k0 k1 v2 ((0 : Int32)) M
theorem g_Pr_putName {d w : Nat} (hd : 1 ≤ d) (hw : 22 ≤ w) {post : aM → Prop} {k0 : Nat} {k1 : Nat} {v2 : Int32} {M : aM} (h : w_Pr_putName post k0 k1 v2 M) : Gd d w 115 (pV post) (0, aEnt 115 [aR 20 k0, aR 15 k1, aI v2], [], M) := by
  unfold w_Pr_putName at h
  show Gd d w 115 _ (0, [some (aR 20 k0), some (aR 15 k1), some (aI v2), none], [], M)
  refine gd_s (P := True ∧ True ∧ True) (σ1 := (2, [some (aR 20 k0), some (aR 15 k1), some (aI v2), some (aI ((0 : Int32)))], [], M)) tc_115 rfl 2 (fun u => ⟨_, rfl⟩) ⟨trivial, trivial, trivial⟩ ?_
  obtain ⟨n9, h⟩ := h
  exact g_Pr_putName_L2 hd hw n9 k0 k1 v2 ((0 : Int32)) M h
theorem tc_114 : tC 114 = c114 := rfl
/-- PolicyJudge$Printer.putToken(I)V -/
def w_Pr_putToken (post : aM → Prop) (k0 : Nat) (v1 : Int32) (M : aM) : Prop := ((((27 : Int32)) < v1) → w_Pr_put (fun M1 => post M1) k0 v1 M) ∧ (¬ (((27 : Int32)) < v1) → w_Pr_putName (fun M2 => post M2) k0 (k0 + 2) v1 M)
theorem g_Pr_putToken {d w : Nat} (hd : 2 ≤ d) (hw : 45 ≤ w) {post : aM → Prop} {k0 : Nat} {v1 : Int32} {M : aM} (h : w_Pr_putToken post k0 v1 M) : Gd d w 114 (pV post) (0, aEnt 114 [aR 20 k0, aI v1], [], M) := by
  unfold w_Pr_putToken at h
  show Gd d w 114 _ (0, [some (aR 20 k0), some (aI v1)], [], M)
  refine gd_s (P := True ∧ True ∧ True) (σ1 := (3, [some (aR 20 k0), some (aI v1)], [aI ((27 : Int32)), aI v1], M)) tc_114 rfl 2 (fun u => ⟨_, rfl⟩) ⟨trivial, trivial, trivial⟩ ?_
  refine gd_br (c := ((27 : Int32)) < v1) (st1 := []) tc_114 rfl rfl (fun _ => rfl) ⟨fun hc => ?_, fun hc => ?_⟩
  · have h := h.1 hc
    show Gd d w 114 _ (18, [some (aR 20 k0), some (aI v1)], [], M)
    refine gd_s (P := True ∧ True ∧ True) (σ1 := (20, [some (aR 20 k0), some (aI v1)], [aI v1, aR 20 k0], M)) tc_114 rfl 2 (fun u => ⟨_, rfl⟩) ⟨trivial, trivial, trivial⟩ ?_
    refine gd_callN (ml := 2) (as := [aR 20 k0, aI v1]) (rest := []) tc_114 rfl rfl rfl rfl rfl (by omega) (by omega) (Nat.le_of_ble_eq_true rfl) rfl (g_Pr_put (by omega) (by omega) h) (fun r9 M1 h => ?_)
    obtain ⟨rfl, h⟩ := h
    show Gd d w 114 _ (23, [some (aR 20 k0), some (aI v1)], [], M1)
    exact gd_ret tc_114 rfl rfl trivial (fun _ => rfl) ⟨rfl, h⟩
  · have h := h.2 hc
    show Gd d w 114 _ (6, [some (aR 20 k0), some (aI v1)], [], M)
    refine gd_s (P := True ∧ True ∧ True ∧ True ∧ True) (σ1 := (12, [some (aR 20 k0), some (aI v1)], [aI v1, aR 15 (k0 + 2), aR 20 k0], M)) tc_114 rfl 4 (fun u => ⟨_, rfl⟩) ⟨trivial, trivial, trivial, trivial, trivial⟩ ?_
    refine gd_callN (ml := 4) (as := [aR 20 k0, aR 15 (k0 + 2), aI v1]) (rest := []) tc_114 rfl rfl rfl rfl rfl (by omega) (by omega) (Nat.le_of_ble_eq_true rfl) rfl (g_Pr_putName (by omega) (by omega) h) (fun r9 M2 h => ?_)
    obtain ⟨rfl, h⟩ := h
    show Gd d w 114 _ (15, [some (aR 20 k0), some (aI v1)], [], M2)
    refine gd_s (P := True ∧ True) (σ1 := (23, [some (aR 20 k0), some (aI v1)], [], M2)) tc_114 rfl 1 (fun u => ⟨_, rfl⟩) ⟨trivial, trivial⟩ ?_
    exact gd_ret tc_114 rfl rfl trivial (fun _ => rfl) ⟨rfl, h⟩
theorem tc_117 : tC 117 = c117 := rfl
def w_Pr_putNumber_J40 (post : aM → Prop) (k0 : Nat) (v1 : Int32) (M : aM) : Prop := (¬ ((10 : Int32)) = 0) ∧ (w_Pr_put (fun M1 => post M1) k0 (((48 : Int32)) + (v1 - v1 / ((10 : Int32)) * ((10 : Int32)))) M)
theorem g_Pr_putNumber_J40 {d w : Nat} (hd : 1 ≤ d) (hw : 21 ≤ w) {post : aM → Prop} (k0 : Nat) (v1 : Int32) (M : aM) (h : w_Pr_putNumber_J40 post k0 v1 M) : Gd d w 117 (pV post) (40, [some (aR 20 k0), some (aI v1)], [], M) := by
  unfold w_Pr_putNumber_J40 at h
  show Gd d w 117 _ (40, [some (aR 20 k0), some (aI v1)], [], M)
  obtain ⟨c0, h⟩ := h
  refine gd_s (P := True ∧ True ∧ True ∧ True ∧ (¬ ((10 : Int32)) = 0) ∧ True ∧ True) (σ1 := (48, [some (aR 20 k0), some (aI v1)], [aI (((48 : Int32)) + (v1 - v1 / ((10 : Int32)) * ((10 : Int32)))), aR 20 k0], M)) tc_117 rfl 6 (fun u => ⟨_, rfl⟩) ⟨trivial, trivial, trivial, trivial, c0, trivial, trivial⟩ ?_
  refine gd_callN (ml := 2) (as := [aR 20 k0, aI (((48 : Int32)) + (v1 - v1 / ((10 : Int32)) * ((10 : Int32))))]) (rest := []) tc_117 rfl rfl rfl rfl rfl (by omega) (by omega) (Nat.le_of_ble_eq_true rfl) rfl (g_Pr_put (by omega) (by omega) h) (fun r9 M1 h => ?_)
  obtain ⟨rfl, h⟩ := h
  show Gd d w 117 _ (51, [some (aR 20 k0), some (aI v1)], [], M1)
  exact gd_ret tc_117 rfl rfl trivial (fun _ => rfl) ⟨rfl, h⟩
def w_Pr_putNumber_J20 (post : aM → Prop) (k0 : Nat) (v1 : Int32) (M : aM) : Prop := ((v1 < ((10 : Int32))) → w_Pr_putNumber_J40 post k0 v1 M) ∧ (¬ (v1 < ((10 : Int32))) → (¬ ((10 : Int32)) = 0) ∧ (¬ ((10 : Int32)) = 0) ∧ (w_Pr_put (fun M1 => w_Pr_putNumber_J40 post k0 v1 M1) k0 (((48 : Int32)) + ((v1 / ((10 : Int32))) - (v1 / ((10 : Int32))) / ((10 : Int32)) * ((10 : Int32)))) M))
theorem g_Pr_putNumber_J20 {d w : Nat} (hd : 1 ≤ d) (hw : 21 ≤ w) {post : aM → Prop} (k0 : Nat) (v1 : Int32) (M : aM) (h : w_Pr_putNumber_J20 post k0 v1 M) : Gd d w 117 (pV post) (20, [some (aR 20 k0), some (aI v1)], [], M) := by
  unfold w_Pr_putNumber_J20 at h
  show Gd d w 117 _ (20, [some (aR 20 k0), some (aI v1)], [], M)
  refine gd_s (P := True ∧ True ∧ True) (σ1 := (23, [some (aR 20 k0), some (aI v1)], [aI ((10 : Int32)), aI v1], M)) tc_117 rfl 2 (fun u => ⟨_, rfl⟩) ⟨trivial, trivial, trivial⟩ ?_
  refine gd_br (c := v1 < ((10 : Int32))) (st1 := []) tc_117 rfl rfl (fun _ => rfl) ⟨fun hc => ?_, fun hc => ?_⟩
  · have h := h.1 hc
    exact g_Pr_putNumber_J40 hd hw k0 v1 M h
  · have h := h.2 hc
    show Gd d w 117 _ (26, [some (aR 20 k0), some (aI v1)], [], M)
    obtain ⟨c0, c1, h⟩ := h
    refine gd_s (P := True ∧ True ∧ True ∧ True ∧ (¬ ((10 : Int32)) = 0) ∧ True ∧ (¬ ((10 : Int32)) = 0) ∧ True ∧ True) (σ1 := (37, [some (aR 20 k0), some (aI v1)], [aI (((48 : Int32)) + ((v1 / ((10 : Int32))) - (v1 / ((10 : Int32))) / ((10 : Int32)) * ((10 : Int32)))), aR 20 k0], M)) tc_117 rfl 8 (fun u => ⟨_, rfl⟩) ⟨trivial, trivial, trivial, trivial, c0, trivial, c1, trivial, trivial⟩ ?_
    refine gd_callN (ml := 2) (as := [aR 20 k0, aI (((48 : Int32)) + ((v1 / ((10 : Int32))) - (v1 / ((10 : Int32))) / ((10 : Int32)) * ((10 : Int32))))]) (rest := []) tc_117 rfl rfl rfl rfl rfl (by omega) (by omega) (Nat.le_of_ble_eq_true rfl) rfl (g_Pr_put (by omega) (by omega) h) (fun r9 M1 h => ?_)
    obtain ⟨rfl, h⟩ := h
    exact g_Pr_putNumber_J40 hd hw k0 v1 M1 h
/-- PolicyJudge$Printer.putNumber(I)V -/
def w_Pr_putNumber (post : aM → Prop) (k0 : Nat) (v1 : Int32) (M : aM) : Prop := ((v1 < ((100 : Int32))) → w_Pr_putNumber_J20 post k0 v1 M) ∧ (¬ (v1 < ((100 : Int32))) → (¬ ((100 : Int32)) = 0) ∧ (¬ ((10 : Int32)) = 0) ∧ (w_Pr_put (fun M1 => w_Pr_putNumber_J20 post k0 v1 M1) k0 (((48 : Int32)) + ((v1 / ((100 : Int32))) - (v1 / ((100 : Int32))) / ((10 : Int32)) * ((10 : Int32)))) M))
theorem g_Pr_putNumber {d w : Nat} (hd : 1 ≤ d) (hw : 21 ≤ w) {post : aM → Prop} {k0 : Nat} {v1 : Int32} {M : aM} (h : w_Pr_putNumber post k0 v1 M) : Gd d w 117 (pV post) (0, aEnt 117 [aR 20 k0, aI v1], [], M) := by
  unfold w_Pr_putNumber at h
  show Gd d w 117 _ (0, [some (aR 20 k0), some (aI v1)], [], M)
  refine gd_s (P := True ∧ True ∧ True) (σ1 := (3, [some (aR 20 k0), some (aI v1)], [aI ((100 : Int32)), aI v1], M)) tc_117 rfl 2 (fun u => ⟨_, rfl⟩) ⟨trivial, trivial, trivial⟩ ?_
  refine gd_br (c := v1 < ((100 : Int32))) (st1 := []) tc_117 rfl rfl (fun _ => rfl) ⟨fun hc => ?_, fun hc => ?_⟩
  · have h := h.1 hc
    exact g_Pr_putNumber_J20 hd hw k0 v1 M h
  · have h := h.2 hc
    show Gd d w 117 _ (6, [some (aR 20 k0), some (aI v1)], [], M)
    obtain ⟨c0, c1, h⟩ := h
    refine gd_s (P := True ∧ True ∧ True ∧ True ∧ (¬ ((100 : Int32)) = 0) ∧ True ∧ (¬ ((10 : Int32)) = 0) ∧ True ∧ True) (σ1 := (17, [some (aR 20 k0), some (aI v1)], [aI (((48 : Int32)) + ((v1 / ((100 : Int32))) - (v1 / ((100 : Int32))) / ((10 : Int32)) * ((10 : Int32)))), aR 20 k0], M)) tc_117 rfl 8 (fun u => ⟨_, rfl⟩) ⟨trivial, trivial, trivial, trivial, c0, trivial, c1, trivial, trivial⟩ ?_
    refine gd_callN (ml := 2) (as := [aR 20 k0, aI (((48 : Int32)) + ((v1 / ((100 : Int32))) - (v1 / ((100 : Int32))) / ((10 : Int32)) * ((10 : Int32))))]) (rest := []) tc_117 rfl rfl rfl rfl rfl (by omega) (by omega) (Nat.le_of_ble_eq_true rfl) rfl (g_Pr_put (by omega) (by omega) h) (fun r9 M1 h => ?_)
    obtain ⟨rfl, h⟩ := h
    exact g_Pr_putNumber_J20 hd hw k0 v1 M1 h
theorem tc_118 : tC 118 = c118 := rfl
/-- PolicyJudge$Printer.endLine(I)V -/
def w_Pr_endLine (post : aM → Prop) (k0 : Nat) (v1 : Int32) (M : aM) : Prop := w_Pr_put (fun M1 => w_Pr_put (fun M2 => post M2) k0 ((10 : Int32)) M1) k0 v1 M
theorem g_Pr_endLine {d w : Nat} (hd : 1 ≤ d) (hw : 21 ≤ w) {post : aM → Prop} {k0 : Nat} {v1 : Int32} {M : aM} (h : w_Pr_endLine post k0 v1 M) : Gd d w 118 (pV post) (0, aEnt 118 [aR 20 k0, aI v1], [], M) := by
  unfold w_Pr_endLine at h
  show Gd d w 118 _ (0, [some (aR 20 k0), some (aI v1)], [], M)
  refine gd_s (P := True ∧ True ∧ True) (σ1 := (2, [some (aR 20 k0), some (aI v1)], [aI v1, aR 20 k0], M)) tc_118 rfl 2 (fun u => ⟨_, rfl⟩) ⟨trivial, trivial, trivial⟩ ?_
  refine gd_callN (ml := 2) (as := [aR 20 k0, aI v1]) (rest := []) tc_118 rfl rfl rfl rfl rfl (by omega) (by omega) (Nat.le_of_ble_eq_true rfl) rfl (g_Pr_put (by omega) (by omega) h) (fun r9 M1 h => ?_)
  obtain ⟨rfl, h⟩ := h
  show Gd d w 118 _ (5, [some (aR 20 k0), some (aI v1)], [], M1)
  refine gd_s (P := True ∧ True ∧ True) (σ1 := (8, [some (aR 20 k0), some (aI v1)], [aI ((10 : Int32)), aR 20 k0], M1)) tc_118 rfl 2 (fun u => ⟨_, rfl⟩) ⟨trivial, trivial, trivial⟩ ?_
  refine gd_callN (ml := 2) (as := [aR 20 k0, aI ((10 : Int32))]) (rest := []) tc_118 rfl rfl rfl rfl rfl (by omega) (by omega) (Nat.le_of_ble_eq_true rfl) rfl (g_Pr_put (by omega) (by omega) h) (fun r9 M2 h => ?_)
  obtain ⟨rfl, h⟩ := h
  show Gd d w 118 _ (11, [some (aR 20 k0), some (aI v1)], [], M2)
  exact gd_ret tc_118 rfl rfl trivial (fun _ => rfl) ⟨rfl, h⟩
theorem tc_113 : tC 113 = c113 := rfl
def w_Pr_writeAttribute_J76 (post : aM → Prop) (k0 : Nat) (M : aM) : Prop := w_Pr_endLine (fun M1 => post M1) k0 ((59 : Int32)) M
theorem g_Pr_writeAttribute_J76 {d w : Nat} (hd : 3 ≤ d) (hw : 66 ≤ w) {post : aM → Prop} (k0 : Nat) (o1 o2 : Option aV) (M : aM) (h : w_Pr_writeAttribute_J76 post k0 M) : Gd d w 113 (pV post) (76, [some (aR 20 k0), o1, o2], [], M) := by
  unfold w_Pr_writeAttribute_J76 at h
  show Gd d w 113 _ (76, [some (aR 20 k0), o1, o2], [], M)
  refine gd_s (P := True ∧ True ∧ True) (σ1 := (79, [some (aR 20 k0), o1, o2], [aI ((59 : Int32)), aR 20 k0], M)) tc_113 rfl 2 (fun u => ⟨_, rfl⟩) ⟨trivial, trivial, trivial⟩ ?_
  refine gd_callN (ml := 2) (as := [aR 20 k0, aI ((59 : Int32))]) (rest := []) tc_113 rfl rfl rfl rfl rfl (by omega) (by omega) (Nat.le_of_ble_eq_true rfl) rfl (g_Pr_endLine (by omega) (by omega) h) (fun r9 M1 h => ?_)
  obtain ⟨rfl, h⟩ := h
  show Gd d w 113 _ (82, [some (aR 20 k0), o1, o2], [], M1)
  exact gd_ret tc_113 rfl rfl trivial (fun _ => rfl) ⟨rfl, h⟩
def w_Pr_writeAttribute_J56 (post : aM → Prop) (k0 : Nat) (k1 : Nat) (v2 : Int32) (M : aM) : Prop := (vp_in v2 (rK M (k1 + 6)).2) ∧ ((((rI M (k1 + 6) v2.toNatClampNeg) = ((0 : Int32))) → w_Pr_writeAttribute_J76 post k0 M) ∧ (¬ ((rI M (k1 + 6) v2.toNatClampNeg) = ((0 : Int32))) → w_Pr_put (fun M1 => w_Pr_putToken (fun M2 => w_Pr_writeAttribute_J76 post k0 M2) k0 ((3 : Int32)) M1) k0 ((32 : Int32)) M))
theorem g_Pr_writeAttribute_J56 {d w : Nat} (hd : 3 ≤ d) (hw : 66 ≤ w) {post : aM → Prop} (k0 : Nat) (k1 : Nat) (v2 : Int32) (M : aM) (h : w_Pr_writeAttribute_J56 post k0 k1 v2 M) : Gd d w 113 (pV post) (56, [some (aR 20 k0), some (aR 14 k1), some (aI v2)], [], M) := by
  unfold w_Pr_writeAttribute_J56 at h
  show Gd d w 113 _ (56, [some (aR 20 k0), some (aR 14 k1), some (aI v2)], [], M)
  obtain ⟨c0, h⟩ := h
  refine gd_s (P := True ∧ True ∧ True ∧ (vp_in v2 (rK M (k1 + 6)).2) ∧ True) (σ1 := (62, [some (aR 20 k0), some (aR 14 k1), some (aI v2)], [aI (rI M (k1 + 6) v2.toNatClampNeg)], M)) tc_113 rfl 4 (fun u => ⟨_, rfl⟩) ⟨trivial, trivial, trivial, c0, trivial⟩ ?_
  refine gd_br (c := (rI M (k1 + 6) v2.toNatClampNeg) = ((0 : Int32))) (st1 := []) tc_113 rfl rfl (fun _ => rfl) ⟨fun hc => ?_, fun hc => ?_⟩
  · have h := h.1 hc
    exact g_Pr_writeAttribute_J76 hd hw k0 (some (aR 14 k1)) (some (aI v2)) M h
  · have h := h.2 hc
    show Gd d w 113 _ (65, [some (aR 20 k0), some (aR 14 k1), some (aI v2)], [], M)
    refine gd_s (P := True ∧ True ∧ True) (σ1 := (68, [some (aR 20 k0), some (aR 14 k1), some (aI v2)], [aI ((32 : Int32)), aR 20 k0], M)) tc_113 rfl 2 (fun u => ⟨_, rfl⟩) ⟨trivial, trivial, trivial⟩ ?_
    refine gd_callN (ml := 2) (as := [aR 20 k0, aI ((32 : Int32))]) (rest := []) tc_113 rfl rfl rfl rfl rfl (by omega) (by omega) (Nat.le_of_ble_eq_true rfl) rfl (g_Pr_put (by omega) (by omega) h) (fun r9 M1 h => ?_)
    obtain ⟨rfl, h⟩ := h
    show Gd d w 113 _ (71, [some (aR 20 k0), some (aR 14 k1), some (aI v2)], [], M1)
    refine gd_s (P := True ∧ True ∧ True) (σ1 := (73, [some (aR 20 k0), some (aR 14 k1), some (aI v2)], [aI ((3 : Int32)), aR 20 k0], M1)) tc_113 rfl 2 (fun u => ⟨_, rfl⟩) ⟨trivial, trivial, trivial⟩ ?_
    refine gd_callN (ml := 2) (as := [aR 20 k0, aI ((3 : Int32))]) (rest := []) tc_113 rfl rfl rfl rfl rfl (by omega) (by omega) (Nat.le_of_ble_eq_true rfl) rfl (g_Pr_putToken (by omega) (by omega) h) (fun r9 M2 h => ?_)
    obtain ⟨rfl, h⟩ := h
    exact g_Pr_writeAttribute_J76 hd hw k0 (some (aR 14 k1)) (some (aI v2)) M2 h
/-- PolicyJudge$Printer.writeAttribute(LPolicyJudge$Attributes;I)V -/
def w_Pr_writeAttribute (post : aM → Prop) (k0 : Nat) (k1 : Nat) (v2 : Int32) (M : aM) : Prop := w_Pr_putToken (fun M1 => w_Pr_put (fun M2 => w_Pr_putName (fun M3 => w_Pr_put (fun M4 => (vp_in v2 (rK M4 (k1 + 4)).2) ∧ (w_Pr_putNumber (fun M5 => (vp_in v2 (rK M5 (k1 + 5)).2) ∧ ((((rI M5 (k1 + 5) v2.toNatClampNeg) = ((0 : Int32))) → w_Pr_writeAttribute_J56 post k0 k1 v2 M5) ∧ (¬ ((rI M5 (k1 + 5) v2.toNatClampNeg) = ((0 : Int32))) → w_Pr_put (fun M6 => w_Pr_putToken (fun M7 => w_Pr_writeAttribute_J56 post k0 k1 v2 M7) k0 ((2 : Int32)) M6) k0 ((32 : Int32)) M5))) k0 (rI M4 (k1 + 4) v2.toNatClampNeg) M4)) k0 ((32 : Int32)) M3) k0 (k1 + 1) v2 M2) k0 ((32 : Int32)) M1) k0 ((1 : Int32)) M
theorem g_Pr_writeAttribute {d w : Nat} (hd : 3 ≤ d) (hw : 66 ≤ w) {post : aM → Prop} {k0 : Nat} {k1 : Nat} {v2 : Int32} {M : aM} (h : w_Pr_writeAttribute post k0 k1 v2 M) : Gd d w 113 (pV post) (0, aEnt 113 [aR 20 k0, aR 14 k1, aI v2], [], M) := by
  unfold w_Pr_writeAttribute at h
  show Gd d w 113 _ (0, [some (aR 20 k0), some (aR 14 k1), some (aI v2)], [], M)
  refine gd_s (P := True ∧ True ∧ True) (σ1 := (2, [some (aR 20 k0), some (aR 14 k1), some (aI v2)], [aI ((1 : Int32)), aR 20 k0], M)) tc_113 rfl 2 (fun u => ⟨_, rfl⟩) ⟨trivial, trivial, trivial⟩ ?_
  refine gd_callN (ml := 2) (as := [aR 20 k0, aI ((1 : Int32))]) (rest := []) tc_113 rfl rfl rfl rfl rfl (by omega) (by omega) (Nat.le_of_ble_eq_true rfl) rfl (g_Pr_putToken (by omega) (by omega) h) (fun r9 M1 h => ?_)
  obtain ⟨rfl, h⟩ := h
  show Gd d w 113 _ (5, [some (aR 20 k0), some (aR 14 k1), some (aI v2)], [], M1)
  refine gd_s (P := True ∧ True ∧ True) (σ1 := (8, [some (aR 20 k0), some (aR 14 k1), some (aI v2)], [aI ((32 : Int32)), aR 20 k0], M1)) tc_113 rfl 2 (fun u => ⟨_, rfl⟩) ⟨trivial, trivial, trivial⟩ ?_
  refine gd_callN (ml := 2) (as := [aR 20 k0, aI ((32 : Int32))]) (rest := []) tc_113 rfl rfl rfl rfl rfl (by omega) (by omega) (Nat.le_of_ble_eq_true rfl) rfl (g_Pr_put (by omega) (by omega) h) (fun r9 M2 h => ?_)
  obtain ⟨rfl, h⟩ := h
  show Gd d w 113 _ (11, [some (aR 20 k0), some (aR 14 k1), some (aI v2)], [], M2)
  refine gd_s (P := True ∧ True ∧ True ∧ True ∧ True) (σ1 := (17, [some (aR 20 k0), some (aR 14 k1), some (aI v2)], [aI v2, aR 15 (k1 + 1), aR 20 k0], M2)) tc_113 rfl 4 (fun u => ⟨_, rfl⟩) ⟨trivial, trivial, trivial, trivial, trivial⟩ ?_
  refine gd_callN (ml := 4) (as := [aR 20 k0, aR 15 (k1 + 1), aI v2]) (rest := []) tc_113 rfl rfl rfl rfl rfl (by omega) (by omega) (Nat.le_of_ble_eq_true rfl) rfl (g_Pr_putName (by omega) (by omega) h) (fun r9 M3 h => ?_)
  obtain ⟨rfl, h⟩ := h
  show Gd d w 113 _ (20, [some (aR 20 k0), some (aR 14 k1), some (aI v2)], [], M3)
  refine gd_s (P := True ∧ True ∧ True) (σ1 := (23, [some (aR 20 k0), some (aR 14 k1), some (aI v2)], [aI ((32 : Int32)), aR 20 k0], M3)) tc_113 rfl 2 (fun u => ⟨_, rfl⟩) ⟨trivial, trivial, trivial⟩ ?_
  refine gd_callN (ml := 2) (as := [aR 20 k0, aI ((32 : Int32))]) (rest := []) tc_113 rfl rfl rfl rfl rfl (by omega) (by omega) (Nat.le_of_ble_eq_true rfl) rfl (g_Pr_put (by omega) (by omega) h) (fun r9 M4 h => ?_)
  obtain ⟨rfl, h⟩ := h
  show Gd d w 113 _ (26, [some (aR 20 k0), some (aR 14 k1), some (aI v2)], [], M4)
  obtain ⟨c0, h⟩ := h
  refine gd_s (P := True ∧ True ∧ True ∧ True ∧ (vp_in v2 (rK M4 (k1 + 4)).2) ∧ True) (σ1 := (33, [some (aR 20 k0), some (aR 14 k1), some (aI v2)], [aI (rI M4 (k1 + 4) v2.toNatClampNeg), aR 20 k0], M4)) tc_113 rfl 5 (fun u => ⟨_, rfl⟩) ⟨trivial, trivial, trivial, trivial, c0, trivial⟩ ?_
  refine gd_callN (ml := 2) (as := [aR 20 k0, aI (rI M4 (k1 + 4) v2.toNatClampNeg)]) (rest := []) tc_113 rfl rfl rfl rfl rfl (by omega) (by omega) (Nat.le_of_ble_eq_true rfl) rfl (g_Pr_putNumber (by omega) (by omega) h) (fun r9 M5 h => ?_)
  obtain ⟨rfl, h⟩ := h
  show Gd d w 113 _ (36, [some (aR 20 k0), some (aR 14 k1), some (aI v2)], [], M5)
  obtain ⟨c0, h⟩ := h
  refine gd_s (P := True ∧ True ∧ True ∧ (vp_in v2 (rK M5 (k1 + 5)).2) ∧ True) (σ1 := (42, [some (aR 20 k0), some (aR 14 k1), some (aI v2)], [aI (rI M5 (k1 + 5) v2.toNatClampNeg)], M5)) tc_113 rfl 4 (fun u => ⟨_, rfl⟩) ⟨trivial, trivial, trivial, c0, trivial⟩ ?_
  refine gd_br (c := (rI M5 (k1 + 5) v2.toNatClampNeg) = ((0 : Int32))) (st1 := []) tc_113 rfl rfl (fun _ => rfl) ⟨fun hc => ?_, fun hc => ?_⟩
  · have h := h.1 hc
    exact g_Pr_writeAttribute_J56 hd hw k0 k1 v2 M5 h
  · have h := h.2 hc
    show Gd d w 113 _ (45, [some (aR 20 k0), some (aR 14 k1), some (aI v2)], [], M5)
    refine gd_s (P := True ∧ True ∧ True) (σ1 := (48, [some (aR 20 k0), some (aR 14 k1), some (aI v2)], [aI ((32 : Int32)), aR 20 k0], M5)) tc_113 rfl 2 (fun u => ⟨_, rfl⟩) ⟨trivial, trivial, trivial⟩ ?_
    refine gd_callN (ml := 2) (as := [aR 20 k0, aI ((32 : Int32))]) (rest := []) tc_113 rfl rfl rfl rfl rfl (by omega) (by omega) (Nat.le_of_ble_eq_true rfl) rfl (g_Pr_put (by omega) (by omega) h) (fun r9 M6 h => ?_)
    obtain ⟨rfl, h⟩ := h
    show Gd d w 113 _ (51, [some (aR 20 k0), some (aR 14 k1), some (aI v2)], [], M6)
    refine gd_s (P := True ∧ True ∧ True) (σ1 := (53, [some (aR 20 k0), some (aR 14 k1), some (aI v2)], [aI ((2 : Int32)), aR 20 k0], M6)) tc_113 rfl 2 (fun u => ⟨_, rfl⟩) ⟨trivial, trivial, trivial⟩ ?_
    refine gd_callN (ml := 2) (as := [aR 20 k0, aI ((2 : Int32))]) (rest := []) tc_113 rfl rfl rfl rfl rfl (by omega) (by omega) (Nat.le_of_ble_eq_true rfl) rfl (g_Pr_putToken (by omega) (by omega) h) (fun r9 M7 h => ?_)
    obtain ⟨rfl, h⟩ := h
    exact g_Pr_writeAttribute_J56 hd hw k0 k1 v2 M7 h
theorem tc_120 : tC 120 = c120 := rfl
def w_Pr_indent_L2 (post : aM → Prop) : Nat → Nat → Int32 → aM → Prop
  | 0, _, _, _ => False
  | n + 1, k0, v1, M => (((rI M k0 4) ≤ v1) → post M) ∧ (¬ ((rI M k0 4) ≤ v1) → w_Pr_put (fun M1 => w_Pr_put (fun M2 => w_Pr_indent_L2 post n k0 (v1 + (1 : Int32)) M2) k0 ((32 : Int32)) M1) k0 ((32 : Int32)) M)
theorem g_Pr_indent_L2 {d w : Nat} (hd : 1 ≤ d) (hw : 21 ≤ w) {post : aM → Prop} : ∀ (n : Nat) (k0 : Nat) (v1 : Int32) (M : aM), w_Pr_indent_L2 post n k0 v1 M → Gd d w 120 (pV post) (2, [some (aR 20 k0), some (aI v1)], [], M) := by
  intro n
  induction n with
  | zero => intro k0 v1 M h; exact h.elim
  | succ n ih =>
    intro k0 v1 M h
    show Gd d w 120 _ (2, [some (aR 20 k0), some (aI v1)], [], M)
    refine gd_s (P := True ∧ True ∧ True ∧ True) (σ1 := (7, [some (aR 20 k0), some (aI v1)], [aI (rI M k0 4), aI v1], M)) tc_120 rfl 3 (fun u => ⟨_, rfl⟩) ⟨trivial, trivial, trivial, trivial⟩ ?_
    refine gd_br (c := (rI M k0 4) ≤ v1) (st1 := []) tc_120 rfl rfl (fun _ => rfl) ⟨fun hc => ?_, fun hc => ?_⟩
    · have h := h.1 hc
      show Gd d w 120 _ (28, [some (aR 20 k0), some (aI v1)], [], M)
      exact gd_ret tc_120 rfl rfl trivial (fun _ => rfl) ⟨rfl, h⟩
    · have h := h.2 hc
      show Gd d w 120 _ (10, [some (aR 20 k0), some (aI v1)], [], M)
      refine gd_s (P := True ∧ True ∧ True) (σ1 := (13, [some (aR 20 k0), some (aI v1)], [aI ((32 : Int32)), aR 20 k0], M)) tc_120 rfl 2 (fun u => ⟨_, rfl⟩) ⟨trivial, trivial, trivial⟩ ?_
      refine gd_callN (ml := 2) (as := [aR 20 k0, aI ((32 : Int32))]) (rest := []) tc_120 rfl rfl rfl rfl rfl (by omega) (by omega) (Nat.le_of_ble_eq_true rfl) rfl (g_Pr_put (by omega) (by omega) h) (fun r9 M1 h => ?_)
      obtain ⟨rfl, h⟩ := h
      show Gd d w 120 _ (16, [some (aR 20 k0), some (aI v1)], [], M1)
      refine gd_s (P := True ∧ True ∧ True) (σ1 := (19, [some (aR 20 k0), some (aI v1)], [aI ((32 : Int32)), aR 20 k0], M1)) tc_120 rfl 2 (fun u => ⟨_, rfl⟩) ⟨trivial, trivial, trivial⟩ ?_
      refine gd_callN (ml := 2) (as := [aR 20 k0, aI ((32 : Int32))]) (rest := []) tc_120 rfl rfl rfl rfl rfl (by omega) (by omega) (Nat.le_of_ble_eq_true rfl) rfl (g_Pr_put (by omega) (by omega) h) (fun r9 M2 h => ?_)
      obtain ⟨rfl, h⟩ := h
      show Gd d w 120 _ (22, [some (aR 20 k0), some (aI v1)], [], M2)
      refine gd_s (P := True ∧ True ∧ True) (σ1 := (2, [some (aR 20 k0), some (aI (v1 + (1 : Int32)))], [], M2)) tc_120 rfl 2 (fun u => ⟨_, rfl⟩) ⟨trivial, trivial, trivial⟩ ?_
      exact ih k0 (v1 + (1 : Int32)) M2 h
/-- PolicyJudge$Printer.indent()V -/
def w_Pr_indent (post : aM → Prop) (k0 : Nat) (M : aM) : Prop := ∃ n9, w_Pr_indent_L2 post n9 k0 ((0 : Int32)) M
theorem g_Pr_indent {d w : Nat} (hd : 1 ≤ d) (hw : 21 ≤ w) {post : aM → Prop} {k0 : Nat} {M : aM} (h : w_Pr_indent post k0 M) : Gd d w 120 (pV post) (0, aEnt 120 [aR 20 k0], [], M) := by
  unfold w_Pr_indent at h
  show Gd d w 120 _ (0, [some (aR 20 k0), none], [], M)
  refine gd_s (P := True ∧ True ∧ True) (σ1 := (2, [some (aR 20 k0), some (aI ((0 : Int32)))], [], M)) tc_120 rfl 2 (fun u => ⟨_, rfl⟩) ⟨trivial, trivial, trivial⟩ ?_
  obtain ⟨n9, h⟩ := h
  exact g_Pr_indent_L2 hd hw n9 k0 ((0 : Int32)) M h
theorem tc_119 : tC 119 = c119 := rfl
def w_Pr_closeSets_L3 (post : aM → Prop) : Nat → Nat → Nat → Int32 → Int32 → aM → Prop
  | 0, _, _, _, _, _ => False
  | n + 1, k0, k1, v2, v3, M => ((v3 ≤ ((0 : Int32))) → post M) ∧ (¬ (v3 ≤ ((0 : Int32))) → (((rI M k0 3) = v2) → post M) ∧ (¬ ((rI M k0 3) = v2) → (((rI M k0 3) = ((-1 : Int32))) → post M) ∧ (¬ ((rI M k0 3) = ((-1 : Int32))) → (vp_in (rI (wI M k0 4 ((rI M k0 4) - ((1 : Int32)))) k0 3) (rK M (k1 + 6)).2) ∧ (w_Pr_indent (fun M1 => w_Pr_endLine (fun M2 => w_Pr_closeSets_L3 post n k0 k1 v2 (v3 + (-1 : Int32)) M2) k0 ((125 : Int32)) M1) k0 (wI (wI M k0 4 ((rI M k0 4) - ((1 : Int32)))) k0 3 (rI (wI M k0 4 ((rI M k0 4) - ((1 : Int32)))) (k1 + 6) (rI (wI M k0 4 ((rI M k0 4) - ((1 : Int32)))) k0 3).toNatClampNeg))))))
theorem g_Pr_closeSets_L3 {d w : Nat} (hd : 2 ≤ d) (hw : 42 ≤ w) {post : aM → Prop} : ∀ (n : Nat) (k0 : Nat) (k1 : Nat) (v2 : Int32) (v3 : Int32) (M : aM), w_Pr_closeSets_L3 post n k0 k1 v2 v3 M → Gd d w 119 (pV post) (3, [some (aR 20 k0), some (aR 16 k1), some (aI v2), some (aI v3)], [], M) := by
  intro n
  induction n with
  | zero => intro k0 k1 v2 v3 M h; exact h.elim
  | succ n ih =>
    intro k0 k1 v2 v3 M h
    show Gd d w 119 _ (3, [some (aR 20 k0), some (aR 16 k1), some (aI v2), some (aI v3)], [], M)
    refine gd_s (P := True ∧ True) (σ1 := (4, [some (aR 20 k0), some (aR 16 k1), some (aI v2), some (aI v3)], [aI v3], M)) tc_119 rfl 1 (fun u => ⟨_, rfl⟩) ⟨trivial, trivial⟩ ?_
    refine gd_br (c := v3 ≤ ((0 : Int32))) (st1 := []) tc_119 rfl rfl (fun _ => rfl) ⟨fun hc => ?_, fun hc => ?_⟩
    · have h := h.1 hc
      show Gd d w 119 _ (62, [some (aR 20 k0), some (aR 16 k1), some (aI v2), some (aI v3)], [], M)
      exact gd_ret tc_119 rfl rfl trivial (fun _ => rfl) ⟨rfl, h⟩
    · have h := h.2 hc
      show Gd d w 119 _ (7, [some (aR 20 k0), some (aR 16 k1), some (aI v2), some (aI v3)], [], M)
      refine gd_s (P := True ∧ True ∧ True ∧ True) (σ1 := (12, [some (aR 20 k0), some (aR 16 k1), some (aI v2), some (aI v3)], [aI v2, aI (rI M k0 3)], M)) tc_119 rfl 3 (fun u => ⟨_, rfl⟩) ⟨trivial, trivial, trivial, trivial⟩ ?_
      refine gd_br (c := (rI M k0 3) = v2) (st1 := []) tc_119 rfl rfl (fun _ => rfl) ⟨fun hc => ?_, fun hc => ?_⟩
      · have h := h.1 hc
        show Gd d w 119 _ (62, [some (aR 20 k0), some (aR 16 k1), some (aI v2), some (aI v3)], [], M)
        exact gd_ret tc_119 rfl rfl trivial (fun _ => rfl) ⟨rfl, h⟩
      · have h := h.2 hc
        show Gd d w 119 _ (15, [some (aR 20 k0), some (aR 16 k1), some (aI v2), some (aI v3)], [], M)
        refine gd_s (P := True ∧ True ∧ True ∧ True) (σ1 := (20, [some (aR 20 k0), some (aR 16 k1), some (aI v2), some (aI v3)], [aI ((-1 : Int32)), aI (rI M k0 3)], M)) tc_119 rfl 3 (fun u => ⟨_, rfl⟩) ⟨trivial, trivial, trivial, trivial⟩ ?_
        refine gd_br (c := (rI M k0 3) = ((-1 : Int32))) (st1 := []) tc_119 rfl rfl (fun _ => rfl) ⟨fun hc => ?_, fun hc => ?_⟩
        · have h := h.1 hc
          show Gd d w 119 _ (62, [some (aR 20 k0), some (aR 16 k1), some (aI v2), some (aI v3)], [], M)
          exact gd_ret tc_119 rfl rfl trivial (fun _ => rfl) ⟨rfl, h⟩
        · have h := h.2 hc
          show Gd d w 119 _ (23, [some (aR 20 k0), some (aR 16 k1), some (aI v2), some (aI v3)], [], M)
          obtain ⟨c0, h⟩ := h
          refine gd_s (P := True ∧ True ∧ True ∧ True ∧ True ∧ True ∧ True ∧ True ∧ True ∧ True ∧ True ∧ (vp_in (rI (wI M k0 4 ((rI M k0 4) - ((1 : Int32)))) k0 3) (rK M (k1 + 6)).2) ∧ True ∧ True ∧ True) (σ1 := (47, [some (aR 20 k0), some (aR 16 k1), some (aI v2), some (aI v3)], [aR 20 k0], wI (wI M k0 4 ((rI M k0 4) - ((1 : Int32)))) k0 3 (rI (wI M k0 4 ((rI M k0 4) - ((1 : Int32)))) (k1 + 6) (rI (wI M k0 4 ((rI M k0 4) - ((1 : Int32)))) k0 3).toNatClampNeg))) tc_119 rfl 14 (fun u => ⟨_, rfl⟩) ⟨trivial, trivial, trivial, trivial, trivial, trivial, trivial, trivial, trivial, trivial, trivial, c0, trivial, trivial, trivial⟩ ?_
          refine gd_callN (ml := 2) (as := [aR 20 k0]) (rest := []) tc_119 rfl rfl rfl rfl rfl (by omega) (by omega) (Nat.le_of_ble_eq_true rfl) rfl (g_Pr_indent (by omega) (by omega) h) (fun r9 M1 h => ?_)
          obtain ⟨rfl, h⟩ := h
          show Gd d w 119 _ (50, [some (aR 20 k0), some (aR 16 k1), some (aI v2), some (aI v3)], [], M1)
          refine gd_s (P := True ∧ True ∧ True) (σ1 := (53, [some (aR 20 k0), some (aR 16 k1), some (aI v2), some (aI v3)], [aI ((125 : Int32)), aR 20 k0], M1)) tc_119 rfl 2 (fun u => ⟨_, rfl⟩) ⟨trivial, trivial, trivial⟩ ?_
          refine gd_callN (ml := 2) (as := [aR 20 k0, aI ((125 : Int32))]) (rest := []) tc_119 rfl rfl rfl rfl rfl (by omega) (by omega) (Nat.le_of_ble_eq_true rfl) rfl (g_Pr_endLine (by omega) (by omega) h) (fun r9 M2 h => ?_)
          obtain ⟨rfl, h⟩ := h
          show Gd d w 119 _ (56, [some (aR 20 k0), some (aR 16 k1), some (aI v2), some (aI v3)], [], M2)
          refine gd_s (P := True ∧ True ∧ True) (σ1 := (3, [some (aR 20 k0), some (aR 16 k1), some (aI v2), some (aI (v3 + (-1 : Int32)))], [], M2)) tc_119 rfl 2 (fun u => ⟨_, rfl⟩) ⟨trivial, trivial, trivial⟩ ?_
          exact ih k0 k1 v2 (v3 + (-1 : Int32)) M2 h
/-- PolicyJudge$Printer.closeSets(LPolicyJudge$Nodes;I)V -/
def w_Pr_closeSets (post : aM → Prop) (k0 : Nat) (k1 : Nat) (v2 : Int32) (M : aM) : Prop := ∃ n9, w_Pr_closeSets_L3 post n9 k0 k1 v2 ((20 : Int32)) M
theorem g_Pr_closeSets {d w : Nat} (hd : 2 ≤ d) (hw : 42 ≤ w) {post : aM → Prop} {k0 : Nat} {k1 : Nat} {v2 : Int32} {M : aM} (h : w_Pr_closeSets post k0 k1 v2 M) : Gd d w 119 (pV post) (0, aEnt 119 [aR 20 k0, aR 16 k1, aI v2], [], M) := by
  unfold w_Pr_closeSets at h
  show Gd d w 119 _ (0, [some (aR 20 k0), some (aR 16 k1), some (aI v2), none], [], M)
  refine gd_s (P := True ∧ True ∧ True) (σ1 := (3, [some (aR 20 k0), some (aR 16 k1), some (aI v2), some (aI ((20 : Int32)))], [], M)) tc_119 rfl 2 (fun u => ⟨_, rfl⟩) ⟨trivial, trivial, trivial⟩ ?_
  obtain ⟨n9, h⟩ := h
  exact g_Pr_closeSets_L3 hd hw n9 k0 k1 v2 ((20 : Int32)) M h
theorem tc_122 : tC 122 = c122 := rfl
/-- PolicyJudge$Printer.putBetweenBlanks(I)V -/
def w_Pr_putBetweenBlanks (post : aM → Prop) (k0 : Nat) (v1 : Int32) (M : aM) : Prop := w_Pr_put (fun M1 => w_Pr_putToken (fun M2 => w_Pr_put (fun M3 => post M3) k0 ((32 : Int32)) M2) k0 v1 M1) k0 ((32 : Int32)) M
theorem g_Pr_putBetweenBlanks {d w : Nat} (hd : 3 ≤ d) (hw : 66 ≤ w) {post : aM → Prop} {k0 : Nat} {v1 : Int32} {M : aM} (h : w_Pr_putBetweenBlanks post k0 v1 M) : Gd d w 122 (pV post) (0, aEnt 122 [aR 20 k0, aI v1], [], M) := by
  unfold w_Pr_putBetweenBlanks at h
  show Gd d w 122 _ (0, [some (aR 20 k0), some (aI v1)], [], M)
  refine gd_s (P := True ∧ True ∧ True) (σ1 := (3, [some (aR 20 k0), some (aI v1)], [aI ((32 : Int32)), aR 20 k0], M)) tc_122 rfl 2 (fun u => ⟨_, rfl⟩) ⟨trivial, trivial, trivial⟩ ?_
  refine gd_callN (ml := 2) (as := [aR 20 k0, aI ((32 : Int32))]) (rest := []) tc_122 rfl rfl rfl rfl rfl (by omega) (by omega) (Nat.le_of_ble_eq_true rfl) rfl (g_Pr_put (by omega) (by omega) h) (fun r9 M1 h => ?_)
  obtain ⟨rfl, h⟩ := h
  show Gd d w 122 _ (6, [some (aR 20 k0), some (aI v1)], [], M1)
  refine gd_s (P := True ∧ True ∧ True) (σ1 := (8, [some (aR 20 k0), some (aI v1)], [aI v1, aR 20 k0], M1)) tc_122 rfl 2 (fun u => ⟨_, rfl⟩) ⟨trivial, trivial, trivial⟩ ?_
  refine gd_callN (ml := 2) (as := [aR 20 k0, aI v1]) (rest := []) tc_122 rfl rfl rfl rfl rfl (by omega) (by omega) (Nat.le_of_ble_eq_true rfl) rfl (g_Pr_putToken (by omega) (by omega) h) (fun r9 M2 h => ?_)
  obtain ⟨rfl, h⟩ := h
  show Gd d w 122 _ (11, [some (aR 20 k0), some (aI v1)], [], M2)
  refine gd_s (P := True ∧ True ∧ True) (σ1 := (14, [some (aR 20 k0), some (aI v1)], [aI ((32 : Int32)), aR 20 k0], M2)) tc_122 rfl 2 (fun u => ⟨_, rfl⟩) ⟨trivial, trivial, trivial⟩ ?_
  refine gd_callN (ml := 2) (as := [aR 20 k0, aI ((32 : Int32))]) (rest := []) tc_122 rfl rfl rfl rfl rfl (by omega) (by omega) (Nat.le_of_ble_eq_true rfl) rfl (g_Pr_put (by omega) (by omega) h) (fun r9 M3 h => ?_)
  obtain ⟨rfl, h⟩ := h
  show Gd d w 122 _ (17, [some (aR 20 k0), some (aI v1)], [], M3)
  exact gd_ret tc_122 rfl rfl trivial (fun _ => rfl) ⟨rfl, h⟩
theorem tc_88 : tC 88 = c88 := rfl
/-- PolicyJudge$Parts.isJoint(I)Z -/
def w_Pt_isJoint (post : Int32 → Prop) (k0 : Nat) (v1 : Int32) (M : aM) : Prop := (vp_in v1 (rK M (k0 + 1)).2) ∧ ((((rI M (k0 + 1) v1.toNatClampNeg) = ((10 : Int32))) → (((1 : Int32)) = 0 ∨ ((1 : Int32)) = 1) ∧ post ((1 : Int32))) ∧ (¬ ((rI M (k0 + 1) v1.toNatClampNeg) = ((10 : Int32))) → (vp_in v1 (rK M (k0 + 1)).2) ∧ (((¬ (rI M (k0 + 1) v1.toNatClampNeg) = ((11 : Int32))) → (((0 : Int32)) = 0 ∨ ((0 : Int32)) = 1) ∧ post ((0 : Int32))) ∧ (¬ (¬ (rI M (k0 + 1) v1.toNatClampNeg) = ((11 : Int32))) → (((1 : Int32)) = 0 ∨ ((1 : Int32)) = 1) ∧ post ((1 : Int32))))))
theorem g_Pt_isJoint {d w : Nat} (hd : 0 ≤ d) (hw : 0 ≤ w) {post : Int32 → Prop} {k0 : Nat} {v1 : Int32} {M : aM} (h : w_Pt_isJoint post k0 v1 M) : Gd d w 88 (pIn M post) (0, aEnt 88 [aR 17 k0, aI v1], [], M) := by
  unfold w_Pt_isJoint at h
  show Gd d w 88 _ (0, [some (aR 17 k0), some (aI v1)], [], M)
  obtain ⟨c0, h⟩ := h
  refine gd_s (P := True ∧ True ∧ True ∧ (vp_in v1 (rK M (k0 + 1)).2) ∧ True ∧ True) (σ1 := (8, [some (aR 17 k0), some (aI v1)], [aI ((10 : Int32)), aI (rI M (k0 + 1) v1.toNatClampNeg)], M)) tc_88 rfl 5 (fun u => ⟨_, rfl⟩) ⟨trivial, trivial, trivial, c0, trivial, trivial⟩ ?_
  refine gd_br (c := (rI M (k0 + 1) v1.toNatClampNeg) = ((10 : Int32))) (st1 := []) tc_88 rfl rfl (fun _ => rfl) ⟨fun hc => ?_, fun hc => ?_⟩
  · have h := h.1 hc
    show Gd d w 88 _ (22, [some (aR 17 k0), some (aI v1)], [], M)
    refine gd_s (P := True ∧ True ∧ True) (σ1 := (27, [some (aR 17 k0), some (aI v1)], [aI ((1 : Int32))], M)) tc_88 rfl 2 (fun u => ⟨_, rfl⟩) ⟨trivial, trivial, trivial⟩ ?_
    exact gd_ret tc_88 rfl rfl h.1 (fun _ => rfl) ⟨_, rfl, rfl, h.2⟩
  · have h := h.2 hc
    show Gd d w 88 _ (11, [some (aR 17 k0), some (aI v1)], [], M)
    obtain ⟨c0, h⟩ := h
    refine gd_s (P := True ∧ True ∧ True ∧ (vp_in v1 (rK M (k0 + 1)).2) ∧ True ∧ True) (σ1 := (19, [some (aR 17 k0), some (aI v1)], [aI ((11 : Int32)), aI (rI M (k0 + 1) v1.toNatClampNeg)], M)) tc_88 rfl 5 (fun u => ⟨_, rfl⟩) ⟨trivial, trivial, trivial, c0, trivial, trivial⟩ ?_
    refine gd_br (c := ¬ (rI M (k0 + 1) v1.toNatClampNeg) = ((11 : Int32))) (st1 := []) tc_88 rfl rfl (fun _ => rfl) ⟨fun hc => ?_, fun hc => ?_⟩
    · have h := h.1 hc
      show Gd d w 88 _ (26, [some (aR 17 k0), some (aI v1)], [], M)
      refine gd_s (P := True ∧ True) (σ1 := (27, [some (aR 17 k0), some (aI v1)], [aI ((0 : Int32))], M)) tc_88 rfl 1 (fun u => ⟨_, rfl⟩) ⟨trivial, trivial⟩ ?_
      exact gd_ret tc_88 rfl rfl h.1 (fun _ => rfl) ⟨_, rfl, rfl, h.2⟩
    · have h := h.2 hc
      show Gd d w 88 _ (22, [some (aR 17 k0), some (aI v1)], [], M)
      refine gd_s (P := True ∧ True ∧ True) (σ1 := (27, [some (aR 17 k0), some (aI v1)], [aI ((1 : Int32))], M)) tc_88 rfl 2 (fun u => ⟨_, rfl⟩) ⟨trivial, trivial, trivial⟩ ?_
      exact gd_ret tc_88 rfl rfl h.1 (fun _ => rfl) ⟨_, rfl, rfl, h.2⟩
theorem tc_124 : tC 124 = c124 := rfl
def w_Pr_writeJoined_J83 (post : aM → Prop) (R_Pr_writeExpression : (aM → Prop) → Nat → Nat → Int32 → Int32 → aM → Prop) (R_Pr_writeJoined : (aM → Prop) → Nat → Nat → Int32 → Int32 → Int32 → aM → Prop) (R_Pr_writeJoint : (aM → Prop) → Nat → Nat → Int32 → Int32 → aM → Prop) (k0 : Nat) (k1 : Nat) (v3 : Int32) (v4 : Int32) (v7 : Int32) (M : aM) : Prop := R_Pr_writeExpression (fun M1 => ((v7 = ((0 : Int32))) → post M1) ∧ (¬ (v7 = ((0 : Int32))) → w_Pr_put (fun M2 => post M2) k0 ((41 : Int32)) M1)) k0 k1 v3 (v4 + ((1 : Int32))) M
theorem g_Pr_writeJoined_J83 {d w : Nat} (hd : 5 ≤ d) (hw : 116 ≤ w) {post : aM → Prop} {R_Pr_writeExpression : (aM → Prop) → Nat → Nat → Int32 → Int32 → aM → Prop} (hR_Pr_writeExpression : ∀ (post : aM → Prop) (k0 : Nat) (k1 : Nat) (v2 : Int32) (v3 : Int32) (M : aM), R_Pr_writeExpression post k0 k1 v2 v3 M → Gd (d - 1) (w - (5 + 19)) 123 (pV post) (0, aEnt 123 [aR 20 k0, aR 13 k1, aI v2, aI v3], [], M)) {R_Pr_writeJoined : (aM → Prop) → Nat → Nat → Int32 → Int32 → Int32 → aM → Prop} (hR_Pr_writeJoined : ∀ (post : aM → Prop) (k0 : Nat) (k1 : Nat) (v2 : Int32) (v3 : Int32) (v4 : Int32) (M : aM), R_Pr_writeJoined post k0 k1 v2 v3 v4 M → Gd (d - 1) (w - (8 + 19)) 124 (pV post) (0, aEnt 124 [aR 20 k0, aR 13 k1, aI v2, aI v3, aI v4], [], M)) {R_Pr_writeJoint : (aM → Prop) → Nat → Nat → Int32 → Int32 → aM → Prop} (hR_Pr_writeJoint : ∀ (post : aM → Prop) (k0 : Nat) (k1 : Nat) (v2 : Int32) (v3 : Int32) (M : aM), R_Pr_writeJoint post k0 k1 v2 v3 M → Gd (d - 1) (w - (7 + 19)) 125 (pV post) (0, aEnt 125 [aR 20 k0, aR 13 k1, aI v2, aI v3], [], M)) (k0 : Nat) (k1 : Nat) (v3 : Int32) (v4 : Int32) (v7 : Int32) (o2 o5 o6 : Option aV) (M : aM) (h : w_Pr_writeJoined_J83 post R_Pr_writeExpression R_Pr_writeJoined R_Pr_writeJoint k0 k1 v3 v4 v7 M) : Gd d w 124 (pV post) (83, [some (aR 20 k0), some (aR 13 k1), o2, some (aI v3), some (aI v4), o5, o6, some (aI v7)], [], M) := by
  unfold w_Pr_writeJoined_J83 at h
  show Gd d w 124 _ (83, [some (aR 20 k0), some (aR 13 k1), o2, some (aI v3), some (aI v4), o5, o6, some (aI v7)], [], M)
  refine gd_s (P := True ∧ True ∧ True ∧ True ∧ True ∧ True ∧ True) (σ1 := (90, [some (aR 20 k0), some (aR 13 k1), o2, some (aI v3), some (aI v4), o5, o6, some (aI v7)], [aI (v4 + ((1 : Int32))), aI v3, aR 13 k1, aR 20 k0], M)) tc_124 rfl 6 (fun u => ⟨_, rfl⟩) ⟨trivial, trivial, trivial, trivial, trivial, trivial, trivial⟩ ?_
  refine gd_callN (ml := 5) (as := [aR 20 k0, aR 13 k1, aI v3, aI (v4 + ((1 : Int32)))]) (rest := []) tc_124 rfl rfl rfl rfl rfl (by omega) (by omega) (Nat.le_of_ble_eq_true rfl) rfl (hR_Pr_writeExpression _ k0 k1 v3 (v4 + ((1 : Int32))) _ h) (fun r9 M1 h => ?_)
  obtain ⟨rfl, h⟩ := h
  show Gd d w 124 _ (93, [some (aR 20 k0), some (aR 13 k1), o2, some (aI v3), some (aI v4), o5, o6, some (aI v7)], [], M1)
  refine gd_s (P := True ∧ True) (σ1 := (95, [some (aR 20 k0), some (aR 13 k1), o2, some (aI v3), some (aI v4), o5, o6, some (aI v7)], [aI v7], M1)) tc_124 rfl 1 (fun u => ⟨_, rfl⟩) ⟨trivial, trivial⟩ ?_
  refine gd_br (c := v7 = ((0 : Int32))) (st1 := []) tc_124 rfl rfl (fun _ => rfl) ⟨fun hc => ?_, fun hc => ?_⟩
  · have h := h.1 hc
    show Gd d w 124 _ (104, [some (aR 20 k0), some (aR 13 k1), o2, some (aI v3), some (aI v4), o5, o6, some (aI v7)], [], M1)
    exact gd_ret tc_124 rfl rfl trivial (fun _ => rfl) ⟨rfl, h⟩
  · have h := h.2 hc
    show Gd d w 124 _ (98, [some (aR 20 k0), some (aR 13 k1), o2, some (aI v3), some (aI v4), o5, o6, some (aI v7)], [], M1)
    refine gd_s (P := True ∧ True ∧ True) (σ1 := (101, [some (aR 20 k0), some (aR 13 k1), o2, some (aI v3), some (aI v4), o5, o6, some (aI v7)], [aI ((41 : Int32)), aR 20 k0], M1)) tc_124 rfl 2 (fun u => ⟨_, rfl⟩) ⟨trivial, trivial, trivial⟩ ?_
    refine gd_callN (ml := 2) (as := [aR 20 k0, aI ((41 : Int32))]) (rest := []) tc_124 rfl rfl rfl rfl rfl (by omega) (by omega) (Nat.le_of_ble_eq_true rfl) rfl (g_Pr_put (by omega) (by omega) h) (fun r9 M2 h => ?_)
    obtain ⟨rfl, h⟩ := h
    show Gd d w 124 _ (104, [some (aR 20 k0), some (aR 13 k1), o2, some (aI v3), some (aI v4), o5, o6, some (aI v7)], [], M2)
    exact gd_ret tc_124 rfl rfl trivial (fun _ => rfl) ⟨rfl, h⟩
def w_Pr_writeJoined_J70 (post : aM → Prop) (R_Pr_writeExpression : (aM → Prop) → Nat → Nat → Int32 → Int32 → aM → Prop) (R_Pr_writeJoined : (aM → Prop) → Nat → Nat → Int32 → Int32 → Int32 → aM → Prop) (R_Pr_writeJoint : (aM → Prop) → Nat → Nat → Int32 → Int32 → aM → Prop) (k0 : Nat) (k1 : Nat) (v3 : Int32) (v4 : Int32) (s0 : Int32) (M : aM) : Prop := ((s0 = ((0 : Int32))) → w_Pr_writeJoined_J83 post R_Pr_writeExpression R_Pr_writeJoined R_Pr_writeJoint k0 k1 v3 v4 s0 M) ∧ (¬ (s0 = ((0 : Int32))) → w_Pr_put (fun M1 => w_Pr_writeJoined_J83 post R_Pr_writeExpression R_Pr_writeJoined R_Pr_writeJoint k0 k1 v3 v4 s0 M1) k0 ((40 : Int32)) M)
theorem g_Pr_writeJoined_J70 {d w : Nat} (hd : 5 ≤ d) (hw : 116 ≤ w) {post : aM → Prop} {R_Pr_writeExpression : (aM → Prop) → Nat → Nat → Int32 → Int32 → aM → Prop} (hR_Pr_writeExpression : ∀ (post : aM → Prop) (k0 : Nat) (k1 : Nat) (v2 : Int32) (v3 : Int32) (M : aM), R_Pr_writeExpression post k0 k1 v2 v3 M → Gd (d - 1) (w - (5 + 19)) 123 (pV post) (0, aEnt 123 [aR 20 k0, aR 13 k1, aI v2, aI v3], [], M)) {R_Pr_writeJoined : (aM → Prop) → Nat → Nat → Int32 → Int32 → Int32 → aM → Prop} (hR_Pr_writeJoined : ∀ (post : aM → Prop) (k0 : Nat) (k1 : Nat) (v2 : Int32) (v3 : Int32) (v4 : Int32) (M : aM), R_Pr_writeJoined post k0 k1 v2 v3 v4 M → Gd (d - 1) (w - (8 + 19)) 124 (pV post) (0, aEnt 124 [aR 20 k0, aR 13 k1, aI v2, aI v3, aI v4], [], M)) {R_Pr_writeJoint : (aM → Prop) → Nat → Nat → Int32 → Int32 → aM → Prop} (hR_Pr_writeJoint : ∀ (post : aM → Prop) (k0 : Nat) (k1 : Nat) (v2 : Int32) (v3 : Int32) (M : aM), R_Pr_writeJoint post k0 k1 v2 v3 M → Gd (d - 1) (w - (7 + 19)) 125 (pV post) (0, aEnt 125 [aR 20 k0, aR 13 k1, aI v2, aI v3], [], M)) (k0 : Nat) (k1 : Nat) (v3 : Int32) (v4 : Int32) (s0 : Int32) (o2 o5 o6 o7 : Option aV) (M : aM) (h : w_Pr_writeJoined_J70 post R_Pr_writeExpression R_Pr_writeJoined R_Pr_writeJoint k0 k1 v3 v4 s0 M) : Gd d w 124 (pV post) (70, [some (aR 20 k0), some (aR 13 k1), o2, some (aI v3), some (aI v4), o5, o6, o7], [aI s0], M) := by
  unfold w_Pr_writeJoined_J70 at h
  show Gd d w 124 _ (70, [some (aR 20 k0), some (aR 13 k1), o2, some (aI v3), some (aI v4), o5, o6, o7], [aI s0], M)
  refine gd_s (P := True ∧ True ∧ True) (σ1 := (74, [some (aR 20 k0), some (aR 13 k1), o2, some (aI v3), some (aI v4), o5, o6, some (aI s0)], [aI s0], M)) tc_124 rfl 2 (fun u => ⟨_, rfl⟩) ⟨trivial, trivial, trivial⟩ ?_
  refine gd_br (c := s0 = ((0 : Int32))) (st1 := []) tc_124 rfl rfl (fun _ => rfl) ⟨fun hc => ?_, fun hc => ?_⟩
  · have h := h.1 hc
    exact g_Pr_writeJoined_J83 hd hw hR_Pr_writeExpression hR_Pr_writeJoined hR_Pr_writeJoint k0 k1 v3 v4 s0 o2 o5 o6 M h
  · have h := h.2 hc
    show Gd d w 124 _ (77, [some (aR 20 k0), some (aR 13 k1), o2, some (aI v3), some (aI v4), o5, o6, some (aI s0)], [], M)
    refine gd_s (P := True ∧ True ∧ True) (σ1 := (80, [some (aR 20 k0), some (aR 13 k1), o2, some (aI v3), some (aI v4), o5, o6, some (aI s0)], [aI ((40 : Int32)), aR 20 k0], M)) tc_124 rfl 2 (fun u => ⟨_, rfl⟩) ⟨trivial, trivial, trivial⟩ ?_
    refine gd_callN (ml := 2) (as := [aR 20 k0, aI ((40 : Int32))]) (rest := []) tc_124 rfl rfl rfl rfl rfl (by omega) (by omega) (Nat.le_of_ble_eq_true rfl) rfl (g_Pr_put (by omega) (by omega) h) (fun r9 M1 h => ?_)
    obtain ⟨rfl, h⟩ := h
    exact g_Pr_writeJoined_J83 hd hw hR_Pr_writeExpression hR_Pr_writeJoined hR_Pr_writeJoint k0 k1 v3 v4 s0 o2 o5 o6 M1 h
def w_Pr_writeJoined_J69 (post : aM → Prop) (R_Pr_writeExpression : (aM → Prop) → Nat → Nat → Int32 → Int32 → aM → Prop) (R_Pr_writeJoined : (aM → Prop) → Nat → Nat → Int32 → Int32 → Int32 → aM → Prop) (R_Pr_writeJoint : (aM → Prop) → Nat → Nat → Int32 → Int32 → aM → Prop) (k0 : Nat) (k1 : Nat) (v3 : Int32) (v4 : Int32) (M : aM) : Prop := w_Pr_writeJoined_J70 post R_Pr_writeExpression R_Pr_writeJoined R_Pr_writeJoint k0 k1 v3 v4 ((0 : Int32)) M
theorem g_Pr_writeJoined_J69 {d w : Nat} (hd : 5 ≤ d) (hw : 116 ≤ w) {post : aM → Prop} {R_Pr_writeExpression : (aM → Prop) → Nat → Nat → Int32 → Int32 → aM → Prop} (hR_Pr_writeExpression : ∀ (post : aM → Prop) (k0 : Nat) (k1 : Nat) (v2 : Int32) (v3 : Int32) (M : aM), R_Pr_writeExpression post k0 k1 v2 v3 M → Gd (d - 1) (w - (5 + 19)) 123 (pV post) (0, aEnt 123 [aR 20 k0, aR 13 k1, aI v2, aI v3], [], M)) {R_Pr_writeJoined : (aM → Prop) → Nat → Nat → Int32 → Int32 → Int32 → aM → Prop} (hR_Pr_writeJoined : ∀ (post : aM → Prop) (k0 : Nat) (k1 : Nat) (v2 : Int32) (v3 : Int32) (v4 : Int32) (M : aM), R_Pr_writeJoined post k0 k1 v2 v3 v4 M → Gd (d - 1) (w - (8 + 19)) 124 (pV post) (0, aEnt 124 [aR 20 k0, aR 13 k1, aI v2, aI v3, aI v4], [], M)) {R_Pr_writeJoint : (aM → Prop) → Nat → Nat → Int32 → Int32 → aM → Prop} (hR_Pr_writeJoint : ∀ (post : aM → Prop) (k0 : Nat) (k1 : Nat) (v2 : Int32) (v3 : Int32) (M : aM), R_Pr_writeJoint post k0 k1 v2 v3 M → Gd (d - 1) (w - (7 + 19)) 125 (pV post) (0, aEnt 125 [aR 20 k0, aR 13 k1, aI v2, aI v3], [], M)) (k0 : Nat) (k1 : Nat) (v3 : Int32) (v4 : Int32) (o2 o5 o6 o7 : Option aV) (M : aM) (h : w_Pr_writeJoined_J69 post R_Pr_writeExpression R_Pr_writeJoined R_Pr_writeJoint k0 k1 v3 v4 M) : Gd d w 124 (pV post) (69, [some (aR 20 k0), some (aR 13 k1), o2, some (aI v3), some (aI v4), o5, o6, o7], [], M) := by
  unfold w_Pr_writeJoined_J69 at h
  show Gd d w 124 _ (69, [some (aR 20 k0), some (aR 13 k1), o2, some (aI v3), some (aI v4), o5, o6, o7], [], M)
  refine gd_s (P := True ∧ True) (σ1 := (70, [some (aR 20 k0), some (aR 13 k1), o2, some (aI v3), some (aI v4), o5, o6, o7], [aI ((0 : Int32))], M)) tc_124 rfl 1 (fun u => ⟨_, rfl⟩) ⟨trivial, trivial⟩ ?_
  exact g_Pr_writeJoined_J70 hd hw hR_Pr_writeExpression hR_Pr_writeJoined hR_Pr_writeJoint k0 k1 v3 v4 ((0 : Int32)) o2 o5 o6 o7 M h
def w_Pr_writeJoined_J49 (post : aM → Prop) (R_Pr_writeExpression : (aM → Prop) → Nat → Nat → Int32 → Int32 → aM → Prop) (R_Pr_writeJoined : (aM → Prop) → Nat → Nat → Int32 → Int32 → Int32 → aM → Prop) (R_Pr_writeJoint : (aM → Prop) → Nat → Nat → Int32 → Int32 → aM → Prop) (k0 : Nat) (k1 : Nat) (v3 : Int32) (v4 : Int32) (k5 : Nat) (s0 : Int32) (M : aM) : Prop := w_Pt_isJoint (fun x1 => ((x1 = ((0 : Int32))) → w_Pr_writeJoined_J69 post R_Pr_writeExpression R_Pr_writeJoined R_Pr_writeJoint k0 k1 v3 v4 M) ∧ (¬ (x1 = ((0 : Int32))) → ((¬ s0 = ((0 : Int32))) → w_Pr_writeJoined_J69 post R_Pr_writeExpression R_Pr_writeJoined R_Pr_writeJoint k0 k1 v3 v4 M) ∧ (¬ (¬ s0 = ((0 : Int32))) → w_Pr_writeJoined_J70 post R_Pr_writeExpression R_Pr_writeJoined R_Pr_writeJoint k0 k1 v3 v4 ((1 : Int32)) M))) k5 v3 M
theorem g_Pr_writeJoined_J49 {d w : Nat} (hd : 5 ≤ d) (hw : 116 ≤ w) {post : aM → Prop} {R_Pr_writeExpression : (aM → Prop) → Nat → Nat → Int32 → Int32 → aM → Prop} (hR_Pr_writeExpression : ∀ (post : aM → Prop) (k0 : Nat) (k1 : Nat) (v2 : Int32) (v3 : Int32) (M : aM), R_Pr_writeExpression post k0 k1 v2 v3 M → Gd (d - 1) (w - (5 + 19)) 123 (pV post) (0, aEnt 123 [aR 20 k0, aR 13 k1, aI v2, aI v3], [], M)) {R_Pr_writeJoined : (aM → Prop) → Nat → Nat → Int32 → Int32 → Int32 → aM → Prop} (hR_Pr_writeJoined : ∀ (post : aM → Prop) (k0 : Nat) (k1 : Nat) (v2 : Int32) (v3 : Int32) (v4 : Int32) (M : aM), R_Pr_writeJoined post k0 k1 v2 v3 v4 M → Gd (d - 1) (w - (8 + 19)) 124 (pV post) (0, aEnt 124 [aR 20 k0, aR 13 k1, aI v2, aI v3, aI v4], [], M)) {R_Pr_writeJoint : (aM → Prop) → Nat → Nat → Int32 → Int32 → aM → Prop} (hR_Pr_writeJoint : ∀ (post : aM → Prop) (k0 : Nat) (k1 : Nat) (v2 : Int32) (v3 : Int32) (M : aM), R_Pr_writeJoint post k0 k1 v2 v3 M → Gd (d - 1) (w - (7 + 19)) 125 (pV post) (0, aEnt 125 [aR 20 k0, aR 13 k1, aI v2, aI v3], [], M)) (k0 : Nat) (k1 : Nat) (v3 : Int32) (v4 : Int32) (k5 : Nat) (s0 : Int32) (o2 o6 o7 : Option aV) (M : aM) (h : w_Pr_writeJoined_J49 post R_Pr_writeExpression R_Pr_writeJoined R_Pr_writeJoint k0 k1 v3 v4 k5 s0 M) : Gd d w 124 (pV post) (49, [some (aR 20 k0), some (aR 13 k1), o2, some (aI v3), some (aI v4), some (aR 17 k5), o6, o7], [aI s0], M) := by
  unfold w_Pr_writeJoined_J49 at h
  show Gd d w 124 _ (49, [some (aR 20 k0), some (aR 13 k1), o2, some (aI v3), some (aI v4), some (aR 17 k5), o6, o7], [aI s0], M)
  refine gd_s (P := True ∧ True ∧ True ∧ True) (σ1 := (54, [some (aR 20 k0), some (aR 13 k1), o2, some (aI v3), some (aI v4), some (aR 17 k5), some (aI s0), o7], [aI v3, aR 17 k5], M)) tc_124 rfl 3 (fun u => ⟨_, rfl⟩) ⟨trivial, trivial, trivial, trivial⟩ ?_
  refine gd_callN (ml := 2) (as := [aR 17 k5, aI v3]) (rest := []) tc_124 rfl rfl rfl rfl rfl (by omega) (by omega) (Nat.le_of_ble_eq_true rfl) rfl (g_Pt_isJoint (by omega) (by omega) h) (fun r9 M9 h => ?_)
  obtain ⟨x1, rfl, e9, h⟩ := h
  subst M9
  show Gd d w 124 _ (57, [some (aR 20 k0), some (aR 13 k1), o2, some (aI v3), some (aI v4), some (aR 17 k5), some (aI s0), o7], [aI x1], M)
  refine gd_br (c := x1 = ((0 : Int32))) (st1 := []) tc_124 rfl rfl (fun _ => rfl) ⟨fun hc => ?_, fun hc => ?_⟩
  · have h := h.1 hc
    exact g_Pr_writeJoined_J69 hd hw hR_Pr_writeExpression hR_Pr_writeJoined hR_Pr_writeJoint k0 k1 v3 v4 o2 (some (aR 17 k5)) (some (aI s0)) o7 M h
  · have h := h.2 hc
    show Gd d w 124 _ (60, [some (aR 20 k0), some (aR 13 k1), o2, some (aI v3), some (aI v4), some (aR 17 k5), some (aI s0), o7], [], M)
    refine gd_s (P := True ∧ True) (σ1 := (62, [some (aR 20 k0), some (aR 13 k1), o2, some (aI v3), some (aI v4), some (aR 17 k5), some (aI s0), o7], [aI s0], M)) tc_124 rfl 1 (fun u => ⟨_, rfl⟩) ⟨trivial, trivial⟩ ?_
    refine gd_br (c := ¬ s0 = ((0 : Int32))) (st1 := []) tc_124 rfl rfl (fun _ => rfl) ⟨fun hc => ?_, fun hc => ?_⟩
    · have h := h.1 hc
      exact g_Pr_writeJoined_J69 hd hw hR_Pr_writeExpression hR_Pr_writeJoined hR_Pr_writeJoint k0 k1 v3 v4 o2 (some (aR 17 k5)) (some (aI s0)) o7 M h
    · have h := h.2 hc
      show Gd d w 124 _ (65, [some (aR 20 k0), some (aR 13 k1), o2, some (aI v3), some (aI v4), some (aR 17 k5), some (aI s0), o7], [], M)
      refine gd_s (P := True ∧ True ∧ True) (σ1 := (70, [some (aR 20 k0), some (aR 13 k1), o2, some (aI v3), some (aI v4), some (aR 17 k5), some (aI s0), o7], [aI ((1 : Int32))], M)) tc_124 rfl 2 (fun u => ⟨_, rfl⟩) ⟨trivial, trivial, trivial⟩ ?_
      exact g_Pr_writeJoined_J70 hd hw hR_Pr_writeExpression hR_Pr_writeJoined hR_Pr_writeJoint k0 k1 v3 v4 ((1 : Int32)) o2 (some (aR 17 k5)) (some (aI s0)) o7 M h
def w_Pr_writeJoined_J48 (post : aM → Prop) (R_Pr_writeExpression : (aM → Prop) → Nat → Nat → Int32 → Int32 → aM → Prop) (R_Pr_writeJoined : (aM → Prop) → Nat → Nat → Int32 → Int32 → Int32 → aM → Prop) (R_Pr_writeJoint : (aM → Prop) → Nat → Nat → Int32 → Int32 → aM → Prop) (k0 : Nat) (k1 : Nat) (v3 : Int32) (v4 : Int32) (k5 : Nat) (M : aM) : Prop := w_Pr_writeJoined_J49 post R_Pr_writeExpression R_Pr_writeJoined R_Pr_writeJoint k0 k1 v3 v4 k5 ((0 : Int32)) M
theorem g_Pr_writeJoined_J48 {d w : Nat} (hd : 5 ≤ d) (hw : 116 ≤ w) {post : aM → Prop} {R_Pr_writeExpression : (aM → Prop) → Nat → Nat → Int32 → Int32 → aM → Prop} (hR_Pr_writeExpression : ∀ (post : aM → Prop) (k0 : Nat) (k1 : Nat) (v2 : Int32) (v3 : Int32) (M : aM), R_Pr_writeExpression post k0 k1 v2 v3 M → Gd (d - 1) (w - (5 + 19)) 123 (pV post) (0, aEnt 123 [aR 20 k0, aR 13 k1, aI v2, aI v3], [], M)) {R_Pr_writeJoined : (aM → Prop) → Nat → Nat → Int32 → Int32 → Int32 → aM → Prop} (hR_Pr_writeJoined : ∀ (post : aM → Prop) (k0 : Nat) (k1 : Nat) (v2 : Int32) (v3 : Int32) (v4 : Int32) (M : aM), R_Pr_writeJoined post k0 k1 v2 v3 v4 M → Gd (d - 1) (w - (8 + 19)) 124 (pV post) (0, aEnt 124 [aR 20 k0, aR 13 k1, aI v2, aI v3, aI v4], [], M)) {R_Pr_writeJoint : (aM → Prop) → Nat → Nat → Int32 → Int32 → aM → Prop} (hR_Pr_writeJoint : ∀ (post : aM → Prop) (k0 : Nat) (k1 : Nat) (v2 : Int32) (v3 : Int32) (M : aM), R_Pr_writeJoint post k0 k1 v2 v3 M → Gd (d - 1) (w - (7 + 19)) 125 (pV post) (0, aEnt 125 [aR 20 k0, aR 13 k1, aI v2, aI v3], [], M)) (k0 : Nat) (k1 : Nat) (v3 : Int32) (v4 : Int32) (k5 : Nat) (o2 o6 o7 : Option aV) (M : aM) (h : w_Pr_writeJoined_J48 post R_Pr_writeExpression R_Pr_writeJoined R_Pr_writeJoint k0 k1 v3 v4 k5 M) : Gd d w 124 (pV post) (48, [some (aR 20 k0), some (aR 13 k1), o2, some (aI v3), some (aI v4), some (aR 17 k5), o6, o7], [], M) := by
  unfold w_Pr_writeJoined_J48 at h
  show Gd d w 124 _ (48, [some (aR 20 k0), some (aR 13 k1), o2, some (aI v3), some (aI v4), some (aR 17 k5), o6, o7], [], M)
  refine gd_s (P := True ∧ True) (σ1 := (49, [some (aR 20 k0), some (aR 13 k1), o2, some (aI v3), some (aI v4), some (aR 17 k5), o6, o7], [aI ((0 : Int32))], M)) tc_124 rfl 1 (fun u => ⟨_, rfl⟩) ⟨trivial, trivial⟩ ?_
  exact g_Pr_writeJoined_J49 hd hw hR_Pr_writeExpression hR_Pr_writeJoined hR_Pr_writeJoint k0 k1 v3 v4 k5 ((0 : Int32)) o2 o6 o7 M h
/-- PolicyJudge$Printer.writeJoined(LPolicyJudge$Text;III)V -/
def w_Pr_writeJoined_r (R_Pr_writeExpression : (aM → Prop) → Nat → Nat → Int32 → Int32 → aM → Prop) (R_Pr_writeJoined : (aM → Prop) → Nat → Nat → Int32 → Int32 → Int32 → aM → Prop) (R_Pr_writeJoint : (aM → Prop) → Nat → Nat → Int32 → Int32 → aM → Prop) (post : aM → Prop) (k0 : Nat) (k1 : Nat) (v2 : Int32) (v3 : Int32) (v4 : Int32) (M : aM) : Prop := ((v3 < ((0 : Int32))) → post M) ∧ (¬ (v3 < ((0 : Int32))) → ((v3 < (rI M (k1 + 24) 0)) → (vp_in v2 (rK M ((k1 + 24) + 1)).2) ∧ (((¬ (rI M ((k1 + 24) + 1) v2.toNatClampNeg) = ((10 : Int32))) → w_Pr_writeJoined_J48 post R_Pr_writeExpression R_Pr_writeJoined R_Pr_writeJoint k0 k1 v3 v4 (k1 + 24) M) ∧ (¬ (¬ (rI M ((k1 + 24) + 1) v2.toNatClampNeg) = ((10 : Int32))) → (vp_in v3 (rK M ((k1 + 24) + 1)).2) ∧ (((¬ (rI M ((k1 + 24) + 1) v3.toNatClampNeg) = ((11 : Int32))) → w_Pr_writeJoined_J48 post R_Pr_writeExpression R_Pr_writeJoined R_Pr_writeJoint k0 k1 v3 v4 (k1 + 24) M) ∧ (¬ (¬ (rI M ((k1 + 24) + 1) v3.toNatClampNeg) = ((11 : Int32))) → w_Pr_writeJoined_J49 post R_Pr_writeExpression R_Pr_writeJoined R_Pr_writeJoint k0 k1 v3 v4 (k1 + 24) ((1 : Int32)) M))))) ∧ (¬ (v3 < (rI M (k1 + 24) 0)) → post M))
theorem g_Pr_writeJoined_r {d w : Nat} (hd : 5 ≤ d) (hw : 116 ≤ w) {R_Pr_writeExpression : (aM → Prop) → Nat → Nat → Int32 → Int32 → aM → Prop} (hR_Pr_writeExpression : ∀ (post : aM → Prop) (k0 : Nat) (k1 : Nat) (v2 : Int32) (v3 : Int32) (M : aM), R_Pr_writeExpression post k0 k1 v2 v3 M → Gd (d - 1) (w - (5 + 19)) 123 (pV post) (0, aEnt 123 [aR 20 k0, aR 13 k1, aI v2, aI v3], [], M)) {R_Pr_writeJoined : (aM → Prop) → Nat → Nat → Int32 → Int32 → Int32 → aM → Prop} (hR_Pr_writeJoined : ∀ (post : aM → Prop) (k0 : Nat) (k1 : Nat) (v2 : Int32) (v3 : Int32) (v4 : Int32) (M : aM), R_Pr_writeJoined post k0 k1 v2 v3 v4 M → Gd (d - 1) (w - (8 + 19)) 124 (pV post) (0, aEnt 124 [aR 20 k0, aR 13 k1, aI v2, aI v3, aI v4], [], M)) {R_Pr_writeJoint : (aM → Prop) → Nat → Nat → Int32 → Int32 → aM → Prop} (hR_Pr_writeJoint : ∀ (post : aM → Prop) (k0 : Nat) (k1 : Nat) (v2 : Int32) (v3 : Int32) (M : aM), R_Pr_writeJoint post k0 k1 v2 v3 M → Gd (d - 1) (w - (7 + 19)) 125 (pV post) (0, aEnt 125 [aR 20 k0, aR 13 k1, aI v2, aI v3], [], M)) {post : aM → Prop} {k0 : Nat} {k1 : Nat} {v2 : Int32} {v3 : Int32} {v4 : Int32} {M : aM} (h : w_Pr_writeJoined_r R_Pr_writeExpression R_Pr_writeJoined R_Pr_writeJoint post k0 k1 v2 v3 v4 M) : Gd d w 124 (pV post) (0, aEnt 124 [aR 20 k0, aR 13 k1, aI v2, aI v3, aI v4], [], M) := by
  unfold w_Pr_writeJoined_r at h
  show Gd d w 124 _ (0, [some (aR 20 k0), some (aR 13 k1), some (aI v2), some (aI v3), some (aI v4), none, none, none], [], M)
  refine gd_s (P := True ∧ True ∧ True ∧ True ∧ True) (σ1 := (7, [some (aR 20 k0), some (aR 13 k1), some (aI v2), some (aI v3), some (aI v4), some (aR 17 (k1 + 24)), none, none], [aI v3], M)) tc_124 rfl 4 (fun u => ⟨_, rfl⟩) ⟨trivial, trivial, trivial, trivial, trivial⟩ ?_
  refine gd_br (c := v3 < ((0 : Int32))) (st1 := []) tc_124 rfl rfl (fun _ => rfl) ⟨fun hc => ?_, fun hc => ?_⟩
  · have h := h.1 hc
    show Gd d w 124 _ (19, [some (aR 20 k0), some (aR 13 k1), some (aI v2), some (aI v3), some (aI v4), some (aR 17 (k1 + 24)), none, none], [], M)
    exact gd_ret tc_124 rfl rfl trivial (fun _ => rfl) ⟨rfl, h⟩
  · have h := h.2 hc
    show Gd d w 124 _ (10, [some (aR 20 k0), some (aR 13 k1), some (aI v2), some (aI v3), some (aI v4), some (aR 17 (k1 + 24)), none, none], [], M)
    refine gd_s (P := True ∧ True ∧ True ∧ True) (σ1 := (16, [some (aR 20 k0), some (aR 13 k1), some (aI v2), some (aI v3), some (aI v4), some (aR 17 (k1 + 24)), none, none], [aI (rI M (k1 + 24) 0), aI v3], M)) tc_124 rfl 3 (fun u => ⟨_, rfl⟩) ⟨trivial, trivial, trivial, trivial⟩ ?_
    refine gd_br (c := v3 < (rI M (k1 + 24) 0)) (st1 := []) tc_124 rfl rfl (fun _ => rfl) ⟨fun hc => ?_, fun hc => ?_⟩
    · have h := h.1 hc
      show Gd d w 124 _ (20, [some (aR 20 k0), some (aR 13 k1), some (aI v2), some (aI v3), some (aI v4), some (aR 17 (k1 + 24)), none, none], [], M)
      obtain ⟨c0, h⟩ := h
      refine gd_s (P := True ∧ True ∧ True ∧ (vp_in v2 (rK M ((k1 + 24) + 1)).2) ∧ True ∧ True) (σ1 := (29, [some (aR 20 k0), some (aR 13 k1), some (aI v2), some (aI v3), some (aI v4), some (aR 17 (k1 + 24)), none, none], [aI ((10 : Int32)), aI (rI M ((k1 + 24) + 1) v2.toNatClampNeg)], M)) tc_124 rfl 5 (fun u => ⟨_, rfl⟩) ⟨trivial, trivial, trivial, c0, trivial, trivial⟩ ?_
      refine gd_br (c := ¬ (rI M ((k1 + 24) + 1) v2.toNatClampNeg) = ((10 : Int32))) (st1 := []) tc_124 rfl rfl (fun _ => rfl) ⟨fun hc => ?_, fun hc => ?_⟩
      · have h := h.1 hc
        exact g_Pr_writeJoined_J48 hd hw hR_Pr_writeExpression hR_Pr_writeJoined hR_Pr_writeJoint k0 k1 v3 v4 (k1 + 24) (some (aI v2)) none none M h
      · have h := h.2 hc
        show Gd d w 124 _ (32, [some (aR 20 k0), some (aR 13 k1), some (aI v2), some (aI v3), some (aI v4), some (aR 17 (k1 + 24)), none, none], [], M)
        obtain ⟨c0, h⟩ := h
        refine gd_s (P := True ∧ True ∧ True ∧ (vp_in v3 (rK M ((k1 + 24) + 1)).2) ∧ True ∧ True) (σ1 := (41, [some (aR 20 k0), some (aR 13 k1), some (aI v2), some (aI v3), some (aI v4), some (aR 17 (k1 + 24)), none, none], [aI ((11 : Int32)), aI (rI M ((k1 + 24) + 1) v3.toNatClampNeg)], M)) tc_124 rfl 5 (fun u => ⟨_, rfl⟩) ⟨trivial, trivial, trivial, c0, trivial, trivial⟩ ?_
        refine gd_br (c := ¬ (rI M ((k1 + 24) + 1) v3.toNatClampNeg) = ((11 : Int32))) (st1 := []) tc_124 rfl rfl (fun _ => rfl) ⟨fun hc => ?_, fun hc => ?_⟩
        · have h := h.1 hc
          exact g_Pr_writeJoined_J48 hd hw hR_Pr_writeExpression hR_Pr_writeJoined hR_Pr_writeJoint k0 k1 v3 v4 (k1 + 24) (some (aI v2)) none none M h
        · have h := h.2 hc
          show Gd d w 124 _ (44, [some (aR 20 k0), some (aR 13 k1), some (aI v2), some (aI v3), some (aI v4), some (aR 17 (k1 + 24)), none, none], [], M)
          refine gd_s (P := True ∧ True ∧ True) (σ1 := (49, [some (aR 20 k0), some (aR 13 k1), some (aI v2), some (aI v3), some (aI v4), some (aR 17 (k1 + 24)), none, none], [aI ((1 : Int32))], M)) tc_124 rfl 2 (fun u => ⟨_, rfl⟩) ⟨trivial, trivial, trivial⟩ ?_
          exact g_Pr_writeJoined_J49 hd hw hR_Pr_writeExpression hR_Pr_writeJoined hR_Pr_writeJoint k0 k1 v3 v4 (k1 + 24) ((1 : Int32)) (some (aI v2)) none none M h
    · have h := h.2 hc
      show Gd d w 124 _ (19, [some (aR 20 k0), some (aR 13 k1), some (aI v2), some (aI v3), some (aI v4), some (aR 17 (k1 + 24)), none, none], [], M)
      exact gd_ret tc_124 rfl rfl trivial (fun _ => rfl) ⟨rfl, h⟩
theorem tc_125 : tC 125 = c125 := rfl
def w_Pr_writeJoint_J64 (post : aM → Prop) (R_Pr_writeExpression : (aM → Prop) → Nat → Nat → Int32 → Int32 → aM → Prop) (R_Pr_writeJoined : (aM → Prop) → Nat → Nat → Int32 → Int32 → Int32 → aM → Prop) (R_Pr_writeJoint : (aM → Prop) → Nat → Nat → Int32 → Int32 → aM → Prop) (K18 : Nat → Nat → Int32 → Int32 → Nat → Int32 → Int32 → aM → Prop) (k0 : Nat) (k1 : Nat) (v2 : Int32) (v3 : Int32) (k4 : Nat) (v5 : Int32) (v6 : Int32) (M : aM) : Prop := R_Pr_writeJoined (fun M1 => (vp_in v5 (rK M1 (k4 + 6)).2) ∧ (K18 k0 k1 v2 v3 k4 (rI M1 (k4 + 6) v5.toNatClampNeg) (v6 + (1 : Int32)) M1)) k0 k1 v2 v5 v3 M
theorem g_Pr_writeJoint_J64 {d w : Nat} (hd : 5 ≤ d) (hw : 116 ≤ w) {post : aM → Prop} {R_Pr_writeExpression : (aM → Prop) → Nat → Nat → Int32 → Int32 → aM → Prop} (hR_Pr_writeExpression : ∀ (post : aM → Prop) (k0 : Nat) (k1 : Nat) (v2 : Int32) (v3 : Int32) (M : aM), R_Pr_writeExpression post k0 k1 v2 v3 M → Gd (d - 1) (w - (5 + 19)) 123 (pV post) (0, aEnt 123 [aR 20 k0, aR 13 k1, aI v2, aI v3], [], M)) {R_Pr_writeJoined : (aM → Prop) → Nat → Nat → Int32 → Int32 → Int32 → aM → Prop} (hR_Pr_writeJoined : ∀ (post : aM → Prop) (k0 : Nat) (k1 : Nat) (v2 : Int32) (v3 : Int32) (v4 : Int32) (M : aM), R_Pr_writeJoined post k0 k1 v2 v3 v4 M → Gd (d - 1) (w - (8 + 19)) 124 (pV post) (0, aEnt 124 [aR 20 k0, aR 13 k1, aI v2, aI v3, aI v4], [], M)) {R_Pr_writeJoint : (aM → Prop) → Nat → Nat → Int32 → Int32 → aM → Prop} (hR_Pr_writeJoint : ∀ (post : aM → Prop) (k0 : Nat) (k1 : Nat) (v2 : Int32) (v3 : Int32) (M : aM), R_Pr_writeJoint post k0 k1 v2 v3 M → Gd (d - 1) (w - (7 + 19)) 125 (pV post) (0, aEnt 125 [aR 20 k0, aR 13 k1, aI v2, aI v3], [], M)) {K18 : Nat → Nat → Int32 → Int32 → Nat → Int32 → Int32 → aM → Prop} (hK18 : ∀ (k0 : Nat) (k1 : Nat) (v2 : Int32) (v3 : Int32) (k4 : Nat) (v5 : Int32) (v6 : Int32) (M : aM), K18 k0 k1 v2 v3 k4 v5 v6 M → Gd d w 125 (pV post) (18, [some (aR 20 k0), some (aR 13 k1), some (aI v2), some (aI v3), some (aR 17 k4), some (aI v5), some (aI v6)], [], M)) (k0 : Nat) (k1 : Nat) (v2 : Int32) (v3 : Int32) (k4 : Nat) (v5 : Int32) (v6 : Int32) (M : aM) (h : w_Pr_writeJoint_J64 post R_Pr_writeExpression R_Pr_writeJoined R_Pr_writeJoint K18 k0 k1 v2 v3 k4 v5 v6 M) : Gd d w 125 (pV post) (64, [some (aR 20 k0), some (aR 13 k1), some (aI v2), some (aI v3), some (aR 17 k4), some (aI v5), some (aI v6)], [], M) := by
  unfold w_Pr_writeJoint_J64 at h
  show Gd d w 125 _ (64, [some (aR 20 k0), some (aR 13 k1), some (aI v2), some (aI v3), some (aR 17 k4), some (aI v5), some (aI v6)], [], M)
  refine gd_s (P := True ∧ True ∧ True ∧ True ∧ True ∧ True) (σ1 := (70, [some (aR 20 k0), some (aR 13 k1), some (aI v2), some (aI v3), some (aR 17 k4), some (aI v5), some (aI v6)], [aI v3, aI v5, aI v2, aR 13 k1, aR 20 k0], M)) tc_125 rfl 5 (fun u => ⟨_, rfl⟩) ⟨trivial, trivial, trivial, trivial, trivial, trivial⟩ ?_
  refine gd_callN (ml := 8) (as := [aR 20 k0, aR 13 k1, aI v2, aI v5, aI v3]) (rest := []) tc_125 rfl rfl rfl rfl rfl (by omega) (by omega) (Nat.le_of_ble_eq_true rfl) rfl (hR_Pr_writeJoined _ k0 k1 v2 v5 v3 _ h) (fun r9 M1 h => ?_)
  obtain ⟨rfl, h⟩ := h
  show Gd d w 125 _ (73, [some (aR 20 k0), some (aR 13 k1), some (aI v2), some (aI v3), some (aR 17 k4), some (aI v5), some (aI v6)], [], M1)
  obtain ⟨c0, h⟩ := h
  refine gd_s (P := True ∧ True ∧ True ∧ (vp_in v5 (rK M1 (k4 + 6)).2) ∧ True ∧ True ∧ True ∧ True) (σ1 := (18, [some (aR 20 k0), some (aR 13 k1), some (aI v2), some (aI v3), some (aR 17 k4), some (aI (rI M1 (k4 + 6) v5.toNatClampNeg)), some (aI (v6 + (1 : Int32)))], [], M1)) tc_125 rfl 7 (fun u => ⟨_, rfl⟩) ⟨trivial, trivial, trivial, c0, trivial, trivial, trivial, trivial⟩ ?_
  exact hK18 k0 k1 v2 v3 k4 (rI M1 (k4 + 6) v5.toNatClampNeg) (v6 + (1 : Int32)) M1 h
def w_Pr_writeJoint_L18 (post : aM → Prop) (R_Pr_writeExpression : (aM → Prop) → Nat → Nat → Int32 → Int32 → aM → Prop) (R_Pr_writeJoined : (aM → Prop) → Nat → Nat → Int32 → Int32 → Int32 → aM → Prop) (R_Pr_writeJoint : (aM → Prop) → Nat → Nat → Int32 → Int32 → aM → Prop) : Nat → Nat → Nat → Int32 → Int32 → Nat → Int32 → Int32 → aM → Prop
  | 0, _, _, _, _, _, _, _, _ => False
  | n + 1, k0, k1, v2, v3, k4, v5, v6, M => (vp_in v2 (rK M (k4 + 4)).2) ∧ ((((rI M (k4 + 4) v2.toNatClampNeg) ≤ v6) → post M) ∧ (¬ ((rI M (k4 + 4) v2.toNatClampNeg) ≤ v6) → ((v5 = ((-1 : Int32))) → post M) ∧ (¬ (v5 = ((-1 : Int32))) → ((v6 ≤ ((0 : Int32))) → w_Pr_writeJoint_J64 post R_Pr_writeExpression R_Pr_writeJoined R_Pr_writeJoint (w_Pr_writeJoint_L18 post R_Pr_writeExpression R_Pr_writeJoined R_Pr_writeJoint n) k0 k1 v2 v3 k4 v5 v6 M) ∧ (¬ (v6 ≤ ((0 : Int32))) → w_Pr_put (fun M1 => (vp_in v2 (rK M1 (k4 + 1)).2) ∧ (w_Pr_putToken (fun M2 => w_Pr_put (fun M3 => w_Pr_writeJoint_J64 post R_Pr_writeExpression R_Pr_writeJoined R_Pr_writeJoint (w_Pr_writeJoint_L18 post R_Pr_writeExpression R_Pr_writeJoined R_Pr_writeJoint n) k0 k1 v2 v3 k4 v5 v6 M3) k0 ((32 : Int32)) M2) k0 (rI M1 (k4 + 1) v2.toNatClampNeg) M1)) k0 ((32 : Int32)) M))))
theorem g_Pr_writeJoint_L18 {d w : Nat} (hd : 5 ≤ d) (hw : 116 ≤ w) {post : aM → Prop} {R_Pr_writeExpression : (aM → Prop) → Nat → Nat → Int32 → Int32 → aM → Prop} (hR_Pr_writeExpression : ∀ (post : aM → Prop) (k0 : Nat) (k1 : Nat) (v2 : Int32) (v3 : Int32) (M : aM), R_Pr_writeExpression post k0 k1 v2 v3 M → Gd (d - 1) (w - (5 + 19)) 123 (pV post) (0, aEnt 123 [aR 20 k0, aR 13 k1, aI v2, aI v3], [], M)) {R_Pr_writeJoined : (aM → Prop) → Nat → Nat → Int32 → Int32 → Int32 → aM → Prop} (hR_Pr_writeJoined : ∀ (post : aM → Prop) (k0 : Nat) (k1 : Nat) (v2 : Int32) (v3 : Int32) (v4 : Int32) (M : aM), R_Pr_writeJoined post k0 k1 v2 v3 v4 M → Gd (d - 1) (w - (8 + 19)) 124 (pV post) (0, aEnt 124 [aR 20 k0, aR 13 k1, aI v2, aI v3, aI v4], [], M)) {R_Pr_writeJoint : (aM → Prop) → Nat → Nat → Int32 → Int32 → aM → Prop} (hR_Pr_writeJoint : ∀ (post : aM → Prop) (k0 : Nat) (k1 : Nat) (v2 : Int32) (v3 : Int32) (M : aM), R_Pr_writeJoint post k0 k1 v2 v3 M → Gd (d - 1) (w - (7 + 19)) 125 (pV post) (0, aEnt 125 [aR 20 k0, aR 13 k1, aI v2, aI v3], [], M)) : ∀ (n : Nat) (k0 : Nat) (k1 : Nat) (v2 : Int32) (v3 : Int32) (k4 : Nat) (v5 : Int32) (v6 : Int32) (M : aM), w_Pr_writeJoint_L18 post R_Pr_writeExpression R_Pr_writeJoined R_Pr_writeJoint n k0 k1 v2 v3 k4 v5 v6 M → Gd d w 125 (pV post) (18, [some (aR 20 k0), some (aR 13 k1), some (aI v2), some (aI v3), some (aR 17 k4), some (aI v5), some (aI v6)], [], M) := by
  intro n
  induction n with
  | zero => intro k0 k1 v2 v3 k4 v5 v6 M h; exact h.elim
  | succ n ih =>
    intro k0 k1 v2 v3 k4 v5 v6 M h
    show Gd d w 125 _ (18, [some (aR 20 k0), some (aR 13 k1), some (aI v2), some (aI v3), some (aR 17 k4), some (aI v5), some (aI v6)], [], M)
    obtain ⟨c0, h⟩ := h
    refine gd_s (P := True ∧ True ∧ True ∧ True ∧ (vp_in v2 (rK M (k4 + 4)).2) ∧ True) (σ1 := (27, [some (aR 20 k0), some (aR 13 k1), some (aI v2), some (aI v3), some (aR 17 k4), some (aI v5), some (aI v6)], [aI (rI M (k4 + 4) v2.toNatClampNeg), aI v6], M)) tc_125 rfl 5 (fun u => ⟨_, rfl⟩) ⟨trivial, trivial, trivial, trivial, c0, trivial⟩ ?_
    refine gd_br (c := (rI M (k4 + 4) v2.toNatClampNeg) ≤ v6) (st1 := []) tc_125 rfl rfl (fun _ => rfl) ⟨fun hc => ?_, fun hc => ?_⟩
    · have h := h.1 hc
      show Gd d w 125 _ (89, [some (aR 20 k0), some (aR 13 k1), some (aI v2), some (aI v3), some (aR 17 k4), some (aI v5), some (aI v6)], [], M)
      exact gd_ret tc_125 rfl rfl trivial (fun _ => rfl) ⟨rfl, h⟩
    · have h := h.2 hc
      show Gd d w 125 _ (30, [some (aR 20 k0), some (aR 13 k1), some (aI v2), some (aI v3), some (aR 17 k4), some (aI v5), some (aI v6)], [], M)
      refine gd_s (P := True ∧ True ∧ True) (σ1 := (33, [some (aR 20 k0), some (aR 13 k1), some (aI v2), some (aI v3), some (aR 17 k4), some (aI v5), some (aI v6)], [aI ((-1 : Int32)), aI v5], M)) tc_125 rfl 2 (fun u => ⟨_, rfl⟩) ⟨trivial, trivial, trivial⟩ ?_
      refine gd_br (c := v5 = ((-1 : Int32))) (st1 := []) tc_125 rfl rfl (fun _ => rfl) ⟨fun hc => ?_, fun hc => ?_⟩
      · have h := h.1 hc
        show Gd d w 125 _ (89, [some (aR 20 k0), some (aR 13 k1), some (aI v2), some (aI v3), some (aR 17 k4), some (aI v5), some (aI v6)], [], M)
        exact gd_ret tc_125 rfl rfl trivial (fun _ => rfl) ⟨rfl, h⟩
      · have h := h.2 hc
        show Gd d w 125 _ (36, [some (aR 20 k0), some (aR 13 k1), some (aI v2), some (aI v3), some (aR 17 k4), some (aI v5), some (aI v6)], [], M)
        refine gd_s (P := True ∧ True) (σ1 := (38, [some (aR 20 k0), some (aR 13 k1), some (aI v2), some (aI v3), some (aR 17 k4), some (aI v5), some (aI v6)], [aI v6], M)) tc_125 rfl 1 (fun u => ⟨_, rfl⟩) ⟨trivial, trivial⟩ ?_
        refine gd_br (c := v6 ≤ ((0 : Int32))) (st1 := []) tc_125 rfl rfl (fun _ => rfl) ⟨fun hc => ?_, fun hc => ?_⟩
        · have h := h.1 hc
          exact g_Pr_writeJoint_J64 hd hw hR_Pr_writeExpression hR_Pr_writeJoined hR_Pr_writeJoint ih k0 k1 v2 v3 k4 v5 v6 M h
        · have h := h.2 hc
          show Gd d w 125 _ (41, [some (aR 20 k0), some (aR 13 k1), some (aI v2), some (aI v3), some (aR 17 k4), some (aI v5), some (aI v6)], [], M)
          refine gd_s (P := True ∧ True ∧ True) (σ1 := (44, [some (aR 20 k0), some (aR 13 k1), some (aI v2), some (aI v3), some (aR 17 k4), some (aI v5), some (aI v6)], [aI ((32 : Int32)), aR 20 k0], M)) tc_125 rfl 2 (fun u => ⟨_, rfl⟩) ⟨trivial, trivial, trivial⟩ ?_
          refine gd_callN (ml := 2) (as := [aR 20 k0, aI ((32 : Int32))]) (rest := []) tc_125 rfl rfl rfl rfl rfl (by omega) (by omega) (Nat.le_of_ble_eq_true rfl) rfl (g_Pr_put (by omega) (by omega) h) (fun r9 M1 h => ?_)
          obtain ⟨rfl, h⟩ := h
          show Gd d w 125 _ (47, [some (aR 20 k0), some (aR 13 k1), some (aI v2), some (aI v3), some (aR 17 k4), some (aI v5), some (aI v6)], [], M1)
          obtain ⟨c0, h⟩ := h
          refine gd_s (P := True ∧ True ∧ True ∧ True ∧ (vp_in v2 (rK M1 (k4 + 1)).2) ∧ True) (σ1 := (55, [some (aR 20 k0), some (aR 13 k1), some (aI v2), some (aI v3), some (aR 17 k4), some (aI v5), some (aI v6)], [aI (rI M1 (k4 + 1) v2.toNatClampNeg), aR 20 k0], M1)) tc_125 rfl 5 (fun u => ⟨_, rfl⟩) ⟨trivial, trivial, trivial, trivial, c0, trivial⟩ ?_
          refine gd_callN (ml := 2) (as := [aR 20 k0, aI (rI M1 (k4 + 1) v2.toNatClampNeg)]) (rest := []) tc_125 rfl rfl rfl rfl rfl (by omega) (by omega) (Nat.le_of_ble_eq_true rfl) rfl (g_Pr_putToken (by omega) (by omega) h) (fun r9 M2 h => ?_)
          obtain ⟨rfl, h⟩ := h
          show Gd d w 125 _ (58, [some (aR 20 k0), some (aR 13 k1), some (aI v2), some (aI v3), some (aR 17 k4), some (aI v5), some (aI v6)], [], M2)
          refine gd_s (P := True ∧ True ∧ True) (σ1 := (61, [some (aR 20 k0), some (aR 13 k1), some (aI v2), some (aI v3), some (aR 17 k4), some (aI v5), some (aI v6)], [aI ((32 : Int32)), aR 20 k0], M2)) tc_125 rfl 2 (fun u => ⟨_, rfl⟩) ⟨trivial, trivial, trivial⟩ ?_
          refine gd_callN (ml := 2) (as := [aR 20 k0, aI ((32 : Int32))]) (rest := []) tc_125 rfl rfl rfl rfl rfl (by omega) (by omega) (Nat.le_of_ble_eq_true rfl) rfl (g_Pr_put (by omega) (by omega) h) (fun r9 M3 h => ?_)
          obtain ⟨rfl, h⟩ := h
          exact g_Pr_writeJoint_J64 hd hw hR_Pr_writeExpression hR_Pr_writeJoined hR_Pr_writeJoint ih k0 k1 v2 v3 k4 v5 v6 M3 h
/-- PolicyJudge$Printer.writeJoint(LPolicyJudge$Text;II)V -/
def w_Pr_writeJoint_r (R_Pr_writeExpression : (aM → Prop) → Nat → Nat → Int32 → Int32 → aM → Prop) (R_Pr_writeJoined : (aM → Prop) → Nat → Nat → Int32 → Int32 → Int32 → aM → Prop) (R_Pr_writeJoint : (aM → Prop) → Nat → Nat → Int32 → Int32 → aM → Prop) (post : aM → Prop) (k0 : Nat) (k1 : Nat) (v2 : Int32) (v3 : Int32) (M : aM) : Prop := (vp_in v2 (rK M ((k1 + 24) + 5)).2) ∧ (∃ n9, w_Pr_writeJoint_L18 post R_Pr_writeExpression R_Pr_writeJoined R_Pr_writeJoint n9 k0 k1 v2 v3 (k1 + 24) (rI M ((k1 + 24) + 5) v2.toNatClampNeg) ((0 : Int32)) M)
theorem g_Pr_writeJoint_r {d w : Nat} (hd : 5 ≤ d) (hw : 116 ≤ w) {R_Pr_writeExpression : (aM → Prop) → Nat → Nat → Int32 → Int32 → aM → Prop} (hR_Pr_writeExpression : ∀ (post : aM → Prop) (k0 : Nat) (k1 : Nat) (v2 : Int32) (v3 : Int32) (M : aM), R_Pr_writeExpression post k0 k1 v2 v3 M → Gd (d - 1) (w - (5 + 19)) 123 (pV post) (0, aEnt 123 [aR 20 k0, aR 13 k1, aI v2, aI v3], [], M)) {R_Pr_writeJoined : (aM → Prop) → Nat → Nat → Int32 → Int32 → Int32 → aM → Prop} (hR_Pr_writeJoined : ∀ (post : aM → Prop) (k0 : Nat) (k1 : Nat) (v2 : Int32) (v3 : Int32) (v4 : Int32) (M : aM), R_Pr_writeJoined post k0 k1 v2 v3 v4 M → Gd (d - 1) (w - (8 + 19)) 124 (pV post) (0, aEnt 124 [aR 20 k0, aR 13 k1, aI v2, aI v3, aI v4], [], M)) {R_Pr_writeJoint : (aM → Prop) → Nat → Nat → Int32 → Int32 → aM → Prop} (hR_Pr_writeJoint : ∀ (post : aM → Prop) (k0 : Nat) (k1 : Nat) (v2 : Int32) (v3 : Int32) (M : aM), R_Pr_writeJoint post k0 k1 v2 v3 M → Gd (d - 1) (w - (7 + 19)) 125 (pV post) (0, aEnt 125 [aR 20 k0, aR 13 k1, aI v2, aI v3], [], M)) {post : aM → Prop} {k0 : Nat} {k1 : Nat} {v2 : Int32} {v3 : Int32} {M : aM} (h : w_Pr_writeJoint_r R_Pr_writeExpression R_Pr_writeJoined R_Pr_writeJoint post k0 k1 v2 v3 M) : Gd d w 125 (pV post) (0, aEnt 125 [aR 20 k0, aR 13 k1, aI v2, aI v3], [], M) := by
  unfold w_Pr_writeJoint_r at h
  show Gd d w 125 _ (0, [some (aR 20 k0), some (aR 13 k1), some (aI v2), some (aI v3), none, none, none], [], M)
  obtain ⟨c0, h⟩ := h
  refine gd_s (P := True ∧ True ∧ True ∧ True ∧ True ∧ True ∧ (vp_in v2 (rK M ((k1 + 24) + 5)).2) ∧ True ∧ True ∧ True ∧ True) (σ1 := (18, [some (aR 20 k0), some (aR 13 k1), some (aI v2), some (aI v3), some (aR 17 (k1 + 24)), some (aI (rI M ((k1 + 24) + 5) v2.toNatClampNeg)), some (aI ((0 : Int32)))], [], M)) tc_125 rfl 10 (fun u => ⟨_, rfl⟩) ⟨trivial, trivial, trivial, trivial, trivial, trivial, c0, trivial, trivial, trivial, trivial⟩ ?_
  obtain ⟨n9, h⟩ := h
  exact g_Pr_writeJoint_L18 hd hw hR_Pr_writeExpression hR_Pr_writeJoined hR_Pr_writeJoint n9 k0 k1 v2 v3 (k1 + 24) (rI M ((k1 + 24) + 5) v2.toNatClampNeg) ((0 : Int32)) M h
theorem tc_127 : tC 127 = c127 := rfl
def w_Pr_writeList_J40 (post : aM → Prop) (K10 : Nat → Int32 → Int32 → Int32 → aM → Prop) (k0 : Nat) (v1 : Int32) (v3 : Int32) (M : aM) : Prop := w_Pr_putNumber (fun M1 => K10 k0 v1 ((1 : Int32)) (v3 + (1 : Int32)) M1) k0 v3 M
theorem g_Pr_writeList_J40 {d w : Nat} (hd : 2 ≤ d) (hw : 42 ≤ w) {post : aM → Prop} {K10 : Nat → Int32 → Int32 → Int32 → aM → Prop} (hK10 : ∀ (k0 : Nat) (v1 : Int32) (v2 : Int32) (v3 : Int32) (M : aM), K10 k0 v1 v2 v3 M → Gd d w 127 (pV post) (10, [some (aR 20 k0), some (aI v1), some (aI v2), some (aI v3)], [], M)) (k0 : Nat) (v1 : Int32) (v3 : Int32) (o2 : Option aV) (M : aM) (h : w_Pr_writeList_J40 post K10 k0 v1 v3 M) : Gd d w 127 (pV post) (40, [some (aR 20 k0), some (aI v1), o2, some (aI v3)], [], M) := by
  unfold w_Pr_writeList_J40 at h
  show Gd d w 127 _ (40, [some (aR 20 k0), some (aI v1), o2, some (aI v3)], [], M)
  refine gd_s (P := True ∧ True ∧ True) (σ1 := (42, [some (aR 20 k0), some (aI v1), o2, some (aI v3)], [aI v3, aR 20 k0], M)) tc_127 rfl 2 (fun u => ⟨_, rfl⟩) ⟨trivial, trivial, trivial⟩ ?_
  refine gd_callN (ml := 2) (as := [aR 20 k0, aI v3]) (rest := []) tc_127 rfl rfl rfl rfl rfl (by omega) (by omega) (Nat.le_of_ble_eq_true rfl) rfl (g_Pr_putNumber (by omega) (by omega) h) (fun r9 M1 h => ?_)
  obtain ⟨rfl, h⟩ := h
  show Gd d w 127 _ (45, [some (aR 20 k0), some (aI v1), o2, some (aI v3)], [], M1)
  refine gd_s (P := True ∧ True ∧ True ∧ True ∧ True) (σ1 := (10, [some (aR 20 k0), some (aI v1), some (aI ((1 : Int32))), some (aI (v3 + (1 : Int32)))], [], M1)) tc_127 rfl 4 (fun u => ⟨_, rfl⟩) ⟨trivial, trivial, trivial, trivial, trivial⟩ ?_
  exact hK10 k0 v1 ((1 : Int32)) (v3 + (1 : Int32)) M1 h
def w_Pr_writeList_L10 (post : aM → Prop) : Nat → Nat → Int32 → Int32 → Int32 → aM → Prop
  | 0, _, _, _, _, _ => False
  | n + 1, k0, v1, v2, v3, M => ((((8 : Int32)) ≤ v3) → w_Pr_put (fun M1 => post M1) k0 ((125 : Int32)) M) ∧ (¬ (((8 : Int32)) ≤ v3) → ((((v1 >>> (v3 &&& 31)) &&& ((1 : Int32))) = ((0 : Int32))) → w_Pr_writeList_L10 post n k0 v1 v2 (v3 + (1 : Int32)) M) ∧ (¬ (((v1 >>> (v3 &&& 31)) &&& ((1 : Int32))) = ((0 : Int32))) → ((v2 = ((0 : Int32))) → w_Pr_writeList_J40 post (w_Pr_writeList_L10 post n) k0 v1 v3 M) ∧ (¬ (v2 = ((0 : Int32))) → w_Pr_put (fun M2 => w_Pr_put (fun M3 => w_Pr_writeList_J40 post (w_Pr_writeList_L10 post n) k0 v1 v3 M3) k0 ((32 : Int32)) M2) k0 ((44 : Int32)) M)))
theorem g_Pr_writeList_L10 {d w : Nat} (hd : 2 ≤ d) (hw : 42 ≤ w) {post : aM → Prop} : ∀ (n : Nat) (k0 : Nat) (v1 : Int32) (v2 : Int32) (v3 : Int32) (M : aM), w_Pr_writeList_L10 post n k0 v1 v2 v3 M → Gd d w 127 (pV post) (10, [some (aR 20 k0), some (aI v1), some (aI v2), some (aI v3)], [], M) := by
  intro n
  induction n with
  | zero => intro k0 v1 v2 v3 M h; exact h.elim
  | succ n ih =>
    intro k0 v1 v2 v3 M h
    show Gd d w 127 _ (10, [some (aR 20 k0), some (aI v1), some (aI v2), some (aI v3)], [], M)
    refine gd_s (P := True ∧ True ∧ True) (σ1 := (13, [some (aR 20 k0), some (aI v1), some (aI v2), some (aI v3)], [aI ((8 : Int32)), aI v3], M)) tc_127 rfl 2 (fun u => ⟨_, rfl⟩) ⟨trivial, trivial, trivial⟩ ?_
    refine gd_br (c := ((8 : Int32)) ≤ v3) (st1 := []) tc_127 rfl rfl (fun _ => rfl) ⟨fun hc => ?_, fun hc => ?_⟩
    · have h := h.1 hc
      show Gd d w 127 _ (53, [some (aR 20 k0), some (aI v1), some (aI v2), some (aI v3)], [], M)
      refine gd_s (P := True ∧ True ∧ True) (σ1 := (56, [some (aR 20 k0), some (aI v1), some (aI v2), some (aI v3)], [aI ((125 : Int32)), aR 20 k0], M)) tc_127 rfl 2 (fun u => ⟨_, rfl⟩) ⟨trivial, trivial, trivial⟩ ?_
      refine gd_callN (ml := 2) (as := [aR 20 k0, aI ((125 : Int32))]) (rest := []) tc_127 rfl rfl rfl rfl rfl (by omega) (by omega) (Nat.le_of_ble_eq_true rfl) rfl (g_Pr_put (by omega) (by omega) h) (fun r9 M1 h => ?_)
      obtain ⟨rfl, h⟩ := h
      show Gd d w 127 _ (59, [some (aR 20 k0), some (aI v1), some (aI v2), some (aI v3)], [], M1)
      exact gd_ret tc_127 rfl rfl trivial (fun _ => rfl) ⟨rfl, h⟩
    · have h := h.2 hc
      show Gd d w 127 _ (16, [some (aR 20 k0), some (aI v1), some (aI v2), some (aI v3)], [], M)
      refine gd_s (P := True ∧ True ∧ True ∧ True ∧ True ∧ True) (σ1 := (21, [some (aR 20 k0), some (aI v1), some (aI v2), some (aI v3)], [aI ((v1 >>> (v3 &&& 31)) &&& ((1 : Int32)))], M)) tc_127 rfl 5 (fun u => ⟨_, rfl⟩) ⟨trivial, trivial, trivial, trivial, trivial, trivial⟩ ?_
      refine gd_br (c := ((v1 >>> (v3 &&& 31)) &&& ((1 : Int32))) = ((0 : Int32))) (st1 := []) tc_127 rfl rfl (fun _ => rfl) ⟨fun hc => ?_, fun hc => ?_⟩
      · have h := h.1 hc
        show Gd d w 127 _ (47, [some (aR 20 k0), some (aI v1), some (aI v2), some (aI v3)], [], M)
        refine gd_s (P := True ∧ True ∧ True) (σ1 := (10, [some (aR 20 k0), some (aI v1), some (aI v2), some (aI (v3 + (1 : Int32)))], [], M)) tc_127 rfl 2 (fun u => ⟨_, rfl⟩) ⟨trivial, trivial, trivial⟩ ?_
        exact ih k0 v1 v2 (v3 + (1 : Int32)) M h
      · have h := h.2 hc
        show Gd d w 127 _ (24, [some (aR 20 k0), some (aI v1), some (aI v2), some (aI v3)], [], M)
        refine gd_s (P := True ∧ True) (σ1 := (25, [some (aR 20 k0), some (aI v1), some (aI v2), some (aI v3)], [aI v2], M)) tc_127 rfl 1 (fun u => ⟨_, rfl⟩) ⟨trivial, trivial⟩ ?_
        refine gd_br (c := v2 = ((0 : Int32))) (st1 := []) tc_127 rfl rfl (fun _ => rfl) ⟨fun hc => ?_, fun hc => ?_⟩
        · have h := h.1 hc
          exact g_Pr_writeList_J40 hd hw ih k0 v1 v3 (some (aI v2)) M h
        · have h := h.2 hc
          show Gd d w 127 _ (28, [some (aR 20 k0), some (aI v1), some (aI v2), some (aI v3)], [], M)
          refine gd_s (P := True ∧ True ∧ True) (σ1 := (31, [some (aR 20 k0), some (aI v1), some (aI v2), some (aI v3)], [aI ((44 : Int32)), aR 20 k0], M)) tc_127 rfl 2 (fun u => ⟨_, rfl⟩) ⟨trivial, trivial, trivial⟩ ?_
          refine gd_callN (ml := 2) (as := [aR 20 k0, aI ((44 : Int32))]) (rest := []) tc_127 rfl rfl rfl rfl rfl (by omega) (by omega) (Nat.le_of_ble_eq_true rfl) rfl (g_Pr_put (by omega) (by omega) h) (fun r9 M2 h => ?_)
          obtain ⟨rfl, h⟩ := h
          show Gd d w 127 _ (34, [some (aR 20 k0), some (aI v1), some (aI v2), some (aI v3)], [], M2)
          refine gd_s (P := True ∧ True ∧ True) (σ1 := (37, [some (aR 20 k0), some (aI v1), some (aI v2), some (aI v3)], [aI ((32 : Int32)), aR 20 k0], M2)) tc_127 rfl 2 (fun u => ⟨_, rfl⟩) ⟨trivial, trivial, trivial⟩ ?_
          refine gd_callN (ml := 2) (as := [aR 20 k0, aI ((32 : Int32))]) (rest := []) tc_127 rfl rfl rfl rfl rfl (by omega) (by omega) (Nat.le_of_ble_eq_true rfl) rfl (g_Pr_put (by omega) (by omega) h) (fun r9 M3 h => ?_)
          obtain ⟨rfl, h⟩ := h
          exact g_Pr_writeList_J40 hd hw ih k0 v1 v3 (some (aI v2)) M3 h
/-- PolicyJudge$Printer.writeList(I)V -/
def w_Pr_writeList (post : aM → Prop) (k0 : Nat) (v1 : Int32) (M : aM) : Prop := w_Pr_put (fun M1 => ∃ n9, w_Pr_writeList_L10 post n9 k0 v1 ((0 : Int32)) ((0 : Int32)) M1) k0 ((123 : Int32)) M
theorem g_Pr_writeList {d w : Nat} (hd : 2 ≤ d) (hw : 42 ≤ w) {post : aM → Prop} {k0 : Nat} {v1 : Int32} {M : aM} (h : w_Pr_writeList post k0 v1 M) : Gd d w 127 (pV post) (0, aEnt 127 [aR 20 k0, aI v1], [], M) := by
  unfold w_Pr_writeList at h
  show Gd d w 127 _ (0, [some (aR 20 k0), some (aI v1), none, none], [], M)
  refine gd_s (P := True ∧ True ∧ True) (σ1 := (3, [some (aR 20 k0), some (aI v1), none, none], [aI ((123 : Int32)), aR 20 k0], M)) tc_127 rfl 2 (fun u => ⟨_, rfl⟩) ⟨trivial, trivial, trivial⟩ ?_
  refine gd_callN (ml := 2) (as := [aR 20 k0, aI ((123 : Int32))]) (rest := []) tc_127 rfl rfl rfl rfl rfl (by omega) (by omega) (Nat.le_of_ble_eq_true rfl) rfl (g_Pr_put (by omega) (by omega) h) (fun r9 M1 h => ?_)
  obtain ⟨rfl, h⟩ := h
  show Gd d w 127 _ (6, [some (aR 20 k0), some (aI v1), none, none], [], M1)
  refine gd_s (P := True ∧ True ∧ True ∧ True ∧ True) (σ1 := (10, [some (aR 20 k0), some (aI v1), some (aI ((0 : Int32))), some (aI ((0 : Int32)))], [], M1)) tc_127 rfl 4 (fun u => ⟨_, rfl⟩) ⟨trivial, trivial, trivial, trivial, trivial⟩ ?_
  obtain ⟨n9, h⟩ := h
  exact g_Pr_writeList_L10 hd hw n9 k0 v1 ((0 : Int32)) ((0 : Int32)) M1 h
theorem tc_126 : tC 126 = c126 := rfl
/-- PolicyJudge$Printer.writeTest(LPolicyJudge$Text;I)V -/
def w_Pr_writeTest (post : aM → Prop) (k0 : Nat) (k1 : Nat) (v2 : Int32) (M : aM) : Prop := (vp_in v2 (rK M ((k1 + 24) + 2)).2) ∧ (w_Pr_putName (fun M1 => w_Pr_put (fun M2 => (vp_in v2 (rK M2 ((k1 + 24) + 1)).2) ∧ (w_Pr_putToken (fun M3 => (vp_in v2 (rK M3 ((k1 + 24) + 1)).2) ∧ ((((rI M3 ((k1 + 24) + 1) v2.toNatClampNeg) = (17 : Int32)) → w_Pr_put (fun M4 => (vp_in v2 (rK M4 ((k1 + 24) + 3)).2) ∧ (w_Pr_writeList (fun M5 => post M5) k0 (rI M4 ((k1 + 24) + 3) v2.toNatClampNeg) M4)) k0 ((32 : Int32)) M3) ∧ (¬ ((rI M3 ((k1 + 24) + 1) v2.toNatClampNeg) = (17 : Int32)) → (((rI M3 ((k1 + 24) + 1) v2.toNatClampNeg) = (18 : Int32)) → w_Pr_put (fun M6 => (vp_in v2 (rK M6 ((k1 + 24) + 3)).2) ∧ (w_Pr_writeList (fun M7 => post M7) k0 (rI M6 ((k1 + 24) + 3) v2.toNatClampNeg) M6)) k0 ((32 : Int32)) M3) ∧ (¬ ((rI M3 ((k1 + 24) + 1) v2.toNatClampNeg) = (18 : Int32)) → (((rI M3 ((k1 + 24) + 1) v2.toNatClampNeg) = (19 : Int32)) → w_Pr_put (fun M8 => (vp_in v2 (rK M8 ((k1 + 24) + 3)).2) ∧ (w_Pr_putName (fun M9 => post M9) k0 ((k1 + 1) + 1) (rI M8 ((k1 + 24) + 3) v2.toNatClampNeg) M8)) k0 ((32 : Int32)) M3) ∧ (¬ ((rI M3 ((k1 + 24) + 1) v2.toNatClampNeg) = (19 : Int32)) → (((rI M3 ((k1 + 24) + 1) v2.toNatClampNeg) = (20 : Int32)) → w_Pr_put (fun M10 => (vp_in v2 (rK M10 ((k1 + 24) + 3)).2) ∧ (w_Pr_putNumber (fun M11 => post M11) k0 (rI M10 ((k1 + 24) + 3) v2.toNatClampNeg) M10)) k0 ((32 : Int32)) M3) ∧ (¬ ((rI M3 ((k1 + 24) + 1) v2.toNatClampNeg) = (20 : Int32)) → (((rI M3 ((k1 + 24) + 1) v2.toNatClampNeg) = (21 : Int32)) → post M3) ∧ (¬ ((rI M3 ((k1 + 24) + 1) v2.toNatClampNeg) = (21 : Int32)) → w_Pr_put (fun M12 => (vp_in v2 (rK M12 ((k1 + 24) + 3)).2) ∧ (w_Pr_putNumber (fun M13 => post M13) k0 (rI M12 ((k1 + 24) + 3) v2.toNatClampNeg) M12)) k0 ((32 : Int32)) M3))))))) k0 (rI M2 ((k1 + 24) + 1) v2.toNatClampNeg) M2)) k0 ((32 : Int32)) M1) k0 ((k1 + 1) + 1) (rI M ((k1 + 24) + 2) v2.toNatClampNeg) M)
theorem g_Pr_writeTest {d w : Nat} (hd : 3 ≤ d) (hw : 66 ≤ w) {post : aM → Prop} {k0 : Nat} {k1 : Nat} {v2 : Int32} {M : aM} (h : w_Pr_writeTest post k0 k1 v2 M) : Gd d w 126 (pV post) (0, aEnt 126 [aR 20 k0, aR 13 k1, aI v2], [], M) := by
  unfold w_Pr_writeTest at h
  show Gd d w 126 _ (0, [some (aR 20 k0), some (aR 13 k1), some (aI v2), none], [], M)
  obtain ⟨c0, h⟩ := h
  refine gd_s (P := True ∧ True ∧ True ∧ True ∧ True ∧ True ∧ True ∧ True ∧ True ∧ True ∧ (vp_in v2 (rK M ((k1 + 24) + 2)).2) ∧ True) (σ1 := (19, [some (aR 20 k0), some (aR 13 k1), some (aI v2), some (aR 17 (k1 + 24))], [aI (rI M ((k1 + 24) + 2) v2.toNatClampNeg), aR 15 ((k1 + 1) + 1), aR 20 k0], M)) tc_126 rfl 11 (fun u => ⟨_, rfl⟩) ⟨trivial, trivial, trivial, trivial, trivial, trivial, trivial, trivial, trivial, trivial, c0, trivial⟩ ?_
  refine gd_callN (ml := 4) (as := [aR 20 k0, aR 15 ((k1 + 1) + 1), aI (rI M ((k1 + 24) + 2) v2.toNatClampNeg)]) (rest := []) tc_126 rfl rfl rfl rfl rfl (by omega) (by omega) (Nat.le_of_ble_eq_true rfl) rfl (g_Pr_putName (by omega) (by omega) h) (fun r9 M1 h => ?_)
  obtain ⟨rfl, h⟩ := h
  show Gd d w 126 _ (22, [some (aR 20 k0), some (aR 13 k1), some (aI v2), some (aR 17 (k1 + 24))], [], M1)
  refine gd_s (P := True ∧ True ∧ True) (σ1 := (25, [some (aR 20 k0), some (aR 13 k1), some (aI v2), some (aR 17 (k1 + 24))], [aI ((32 : Int32)), aR 20 k0], M1)) tc_126 rfl 2 (fun u => ⟨_, rfl⟩) ⟨trivial, trivial, trivial⟩ ?_
  refine gd_callN (ml := 2) (as := [aR 20 k0, aI ((32 : Int32))]) (rest := []) tc_126 rfl rfl rfl rfl rfl (by omega) (by omega) (Nat.le_of_ble_eq_true rfl) rfl (g_Pr_put (by omega) (by omega) h) (fun r9 M2 h => ?_)
  obtain ⟨rfl, h⟩ := h
  show Gd d w 126 _ (28, [some (aR 20 k0), some (aR 13 k1), some (aI v2), some (aR 17 (k1 + 24))], [], M2)
  obtain ⟨c0, h⟩ := h
  refine gd_s (P := True ∧ True ∧ True ∧ True ∧ (vp_in v2 (rK M2 ((k1 + 24) + 1)).2) ∧ True) (σ1 := (35, [some (aR 20 k0), some (aR 13 k1), some (aI v2), some (aR 17 (k1 + 24))], [aI (rI M2 ((k1 + 24) + 1) v2.toNatClampNeg), aR 20 k0], M2)) tc_126 rfl 5 (fun u => ⟨_, rfl⟩) ⟨trivial, trivial, trivial, trivial, c0, trivial⟩ ?_
  refine gd_callN (ml := 2) (as := [aR 20 k0, aI (rI M2 ((k1 + 24) + 1) v2.toNatClampNeg)]) (rest := []) tc_126 rfl rfl rfl rfl rfl (by omega) (by omega) (Nat.le_of_ble_eq_true rfl) rfl (g_Pr_putToken (by omega) (by omega) h) (fun r9 M3 h => ?_)
  obtain ⟨rfl, h⟩ := h
  show Gd d w 126 _ (38, [some (aR 20 k0), some (aR 13 k1), some (aI v2), some (aR 17 (k1 + 24))], [], M3)
  obtain ⟨c0, h⟩ := h
  refine gd_s (P := True ∧ True ∧ True ∧ (vp_in v2 (rK M3 ((k1 + 24) + 1)).2) ∧ True) (σ1 := (44, [some (aR 20 k0), some (aR 13 k1), some (aI v2), some (aR 17 (k1 + 24))], [aI (rI M3 ((k1 + 24) + 1) v2.toNatClampNeg)], M3)) tc_126 rfl 4 (fun u => ⟨_, rfl⟩) ⟨trivial, trivial, trivial, c0, trivial⟩ ?_
  refine gd_sw tc_126 rfl rfl (fun _ => rfl) ?_
  refine gd_case ⟨fun hc => ?_, fun hc => ?_⟩
  · have h := h.1 hc
    show Gd d w 126 _ (83, [some (aR 20 k0), some (aR 13 k1), some (aI v2), some (aR 17 (k1 + 24))], [], M3)
    refine gd_s (P := True ∧ True ∧ True) (σ1 := (86, [some (aR 20 k0), some (aR 13 k1), some (aI v2), some (aR 17 (k1 + 24))], [aI ((32 : Int32)), aR 20 k0], M3)) tc_126 rfl 2 (fun u => ⟨_, rfl⟩) ⟨trivial, trivial, trivial⟩ ?_
    refine gd_callN (ml := 2) (as := [aR 20 k0, aI ((32 : Int32))]) (rest := []) tc_126 rfl rfl rfl rfl rfl (by omega) (by omega) (Nat.le_of_ble_eq_true rfl) rfl (g_Pr_put (by omega) (by omega) h) (fun r9 M4 h => ?_)
    obtain ⟨rfl, h⟩ := h
    show Gd d w 126 _ (89, [some (aR 20 k0), some (aR 13 k1), some (aI v2), some (aR 17 (k1 + 24))], [], M4)
    obtain ⟨c0, h⟩ := h
    refine gd_s (P := True ∧ True ∧ True ∧ True ∧ (vp_in v2 (rK M4 ((k1 + 24) + 3)).2) ∧ True) (σ1 := (96, [some (aR 20 k0), some (aR 13 k1), some (aI v2), some (aR 17 (k1 + 24))], [aI (rI M4 ((k1 + 24) + 3) v2.toNatClampNeg), aR 20 k0], M4)) tc_126 rfl 5 (fun u => ⟨_, rfl⟩) ⟨trivial, trivial, trivial, trivial, c0, trivial⟩ ?_
    refine gd_callN (ml := 4) (as := [aR 20 k0, aI (rI M4 ((k1 + 24) + 3) v2.toNatClampNeg)]) (rest := []) tc_126 rfl rfl rfl rfl rfl (by omega) (by omega) (Nat.le_of_ble_eq_true rfl) rfl (g_Pr_writeList (by omega) (by omega) h) (fun r9 M5 h => ?_)
    obtain ⟨rfl, h⟩ := h
    show Gd d w 126 _ (99, [some (aR 20 k0), some (aR 13 k1), some (aI v2), some (aR 17 (k1 + 24))], [], M5)
    refine gd_s (P := True ∧ True) (σ1 := (144, [some (aR 20 k0), some (aR 13 k1), some (aI v2), some (aR 17 (k1 + 24))], [], M5)) tc_126 rfl 1 (fun u => ⟨_, rfl⟩) ⟨trivial, trivial⟩ ?_
    exact gd_ret tc_126 rfl rfl trivial (fun _ => rfl) ⟨rfl, h⟩
  have h := h.2 hc
  refine gd_case ⟨fun hc => ?_, fun hc => ?_⟩
  · have h := h.1 hc
    show Gd d w 126 _ (83, [some (aR 20 k0), some (aR 13 k1), some (aI v2), some (aR 17 (k1 + 24))], [], M3)
    refine gd_s (P := True ∧ True ∧ True) (σ1 := (86, [some (aR 20 k0), some (aR 13 k1), some (aI v2), some (aR 17 (k1 + 24))], [aI ((32 : Int32)), aR 20 k0], M3)) tc_126 rfl 2 (fun u => ⟨_, rfl⟩) ⟨trivial, trivial, trivial⟩ ?_
    refine gd_callN (ml := 2) (as := [aR 20 k0, aI ((32 : Int32))]) (rest := []) tc_126 rfl rfl rfl rfl rfl (by omega) (by omega) (Nat.le_of_ble_eq_true rfl) rfl (g_Pr_put (by omega) (by omega) h) (fun r9 M6 h => ?_)
    obtain ⟨rfl, h⟩ := h
    show Gd d w 126 _ (89, [some (aR 20 k0), some (aR 13 k1), some (aI v2), some (aR 17 (k1 + 24))], [], M6)
    obtain ⟨c0, h⟩ := h
    refine gd_s (P := True ∧ True ∧ True ∧ True ∧ (vp_in v2 (rK M6 ((k1 + 24) + 3)).2) ∧ True) (σ1 := (96, [some (aR 20 k0), some (aR 13 k1), some (aI v2), some (aR 17 (k1 + 24))], [aI (rI M6 ((k1 + 24) + 3) v2.toNatClampNeg), aR 20 k0], M6)) tc_126 rfl 5 (fun u => ⟨_, rfl⟩) ⟨trivial, trivial, trivial, trivial, c0, trivial⟩ ?_
    refine gd_callN (ml := 4) (as := [aR 20 k0, aI (rI M6 ((k1 + 24) + 3) v2.toNatClampNeg)]) (rest := []) tc_126 rfl rfl rfl rfl rfl (by omega) (by omega) (Nat.le_of_ble_eq_true rfl) rfl (g_Pr_writeList (by omega) (by omega) h) (fun r9 M7 h => ?_)
    obtain ⟨rfl, h⟩ := h
    show Gd d w 126 _ (99, [some (aR 20 k0), some (aR 13 k1), some (aI v2), some (aR 17 (k1 + 24))], [], M7)
    refine gd_s (P := True ∧ True) (σ1 := (144, [some (aR 20 k0), some (aR 13 k1), some (aI v2), some (aR 17 (k1 + 24))], [], M7)) tc_126 rfl 1 (fun u => ⟨_, rfl⟩) ⟨trivial, trivial⟩ ?_
    exact gd_ret tc_126 rfl rfl trivial (fun _ => rfl) ⟨rfl, h⟩
  have h := h.2 hc
  refine gd_case ⟨fun hc => ?_, fun hc => ?_⟩
  · have h := h.1 hc
    show Gd d w 126 _ (102, [some (aR 20 k0), some (aR 13 k1), some (aI v2), some (aR 17 (k1 + 24))], [], M3)
    refine gd_s (P := True ∧ True ∧ True) (σ1 := (105, [some (aR 20 k0), some (aR 13 k1), some (aI v2), some (aR 17 (k1 + 24))], [aI ((32 : Int32)), aR 20 k0], M3)) tc_126 rfl 2 (fun u => ⟨_, rfl⟩) ⟨trivial, trivial, trivial⟩ ?_
    refine gd_callN (ml := 2) (as := [aR 20 k0, aI ((32 : Int32))]) (rest := []) tc_126 rfl rfl rfl rfl rfl (by omega) (by omega) (Nat.le_of_ble_eq_true rfl) rfl (g_Pr_put (by omega) (by omega) h) (fun r9 M8 h => ?_)
    obtain ⟨rfl, h⟩ := h
    show Gd d w 126 _ (108, [some (aR 20 k0), some (aR 13 k1), some (aI v2), some (aR 17 (k1 + 24))], [], M8)
    obtain ⟨c0, h⟩ := h
    refine gd_s (P := True ∧ True ∧ True ∧ True ∧ True ∧ True ∧ True ∧ (vp_in v2 (rK M8 ((k1 + 24) + 3)).2) ∧ True) (σ1 := (122, [some (aR 20 k0), some (aR 13 k1), some (aI v2), some (aR 17 (k1 + 24))], [aI (rI M8 ((k1 + 24) + 3) v2.toNatClampNeg), aR 15 ((k1 + 1) + 1), aR 20 k0], M8)) tc_126 rfl 8 (fun u => ⟨_, rfl⟩) ⟨trivial, trivial, trivial, trivial, trivial, trivial, trivial, c0, trivial⟩ ?_
    refine gd_callN (ml := 4) (as := [aR 20 k0, aR 15 ((k1 + 1) + 1), aI (rI M8 ((k1 + 24) + 3) v2.toNatClampNeg)]) (rest := []) tc_126 rfl rfl rfl rfl rfl (by omega) (by omega) (Nat.le_of_ble_eq_true rfl) rfl (g_Pr_putName (by omega) (by omega) h) (fun r9 M9 h => ?_)
    obtain ⟨rfl, h⟩ := h
    show Gd d w 126 _ (125, [some (aR 20 k0), some (aR 13 k1), some (aI v2), some (aR 17 (k1 + 24))], [], M9)
    refine gd_s (P := True ∧ True) (σ1 := (144, [some (aR 20 k0), some (aR 13 k1), some (aI v2), some (aR 17 (k1 + 24))], [], M9)) tc_126 rfl 1 (fun u => ⟨_, rfl⟩) ⟨trivial, trivial⟩ ?_
    exact gd_ret tc_126 rfl rfl trivial (fun _ => rfl) ⟨rfl, h⟩
  have h := h.2 hc
  refine gd_case ⟨fun hc => ?_, fun hc => ?_⟩
  · have h := h.1 hc
    show Gd d w 126 _ (128, [some (aR 20 k0), some (aR 13 k1), some (aI v2), some (aR 17 (k1 + 24))], [], M3)
    refine gd_s (P := True ∧ True ∧ True) (σ1 := (131, [some (aR 20 k0), some (aR 13 k1), some (aI v2), some (aR 17 (k1 + 24))], [aI ((32 : Int32)), aR 20 k0], M3)) tc_126 rfl 2 (fun u => ⟨_, rfl⟩) ⟨trivial, trivial, trivial⟩ ?_
    refine gd_callN (ml := 2) (as := [aR 20 k0, aI ((32 : Int32))]) (rest := []) tc_126 rfl rfl rfl rfl rfl (by omega) (by omega) (Nat.le_of_ble_eq_true rfl) rfl (g_Pr_put (by omega) (by omega) h) (fun r9 M10 h => ?_)
    obtain ⟨rfl, h⟩ := h
    show Gd d w 126 _ (134, [some (aR 20 k0), some (aR 13 k1), some (aI v2), some (aR 17 (k1 + 24))], [], M10)
    obtain ⟨c0, h⟩ := h
    refine gd_s (P := True ∧ True ∧ True ∧ True ∧ (vp_in v2 (rK M10 ((k1 + 24) + 3)).2) ∧ True) (σ1 := (141, [some (aR 20 k0), some (aR 13 k1), some (aI v2), some (aR 17 (k1 + 24))], [aI (rI M10 ((k1 + 24) + 3) v2.toNatClampNeg), aR 20 k0], M10)) tc_126 rfl 5 (fun u => ⟨_, rfl⟩) ⟨trivial, trivial, trivial, trivial, c0, trivial⟩ ?_
    refine gd_callN (ml := 2) (as := [aR 20 k0, aI (rI M10 ((k1 + 24) + 3) v2.toNatClampNeg)]) (rest := []) tc_126 rfl rfl rfl rfl rfl (by omega) (by omega) (Nat.le_of_ble_eq_true rfl) rfl (g_Pr_putNumber (by omega) (by omega) h) (fun r9 M11 h => ?_)
    obtain ⟨rfl, h⟩ := h
    show Gd d w 126 _ (144, [some (aR 20 k0), some (aR 13 k1), some (aI v2), some (aR 17 (k1 + 24))], [], M11)
    exact gd_ret tc_126 rfl rfl trivial (fun _ => rfl) ⟨rfl, h⟩
  have h := h.2 hc
  refine gd_case ⟨fun hc => ?_, fun hc => ?_⟩
  · have h := h.1 hc
    show Gd d w 126 _ (80, [some (aR 20 k0), some (aR 13 k1), some (aI v2), some (aR 17 (k1 + 24))], [], M3)
    refine gd_s (P := True ∧ True) (σ1 := (144, [some (aR 20 k0), some (aR 13 k1), some (aI v2), some (aR 17 (k1 + 24))], [], M3)) tc_126 rfl 1 (fun u => ⟨_, rfl⟩) ⟨trivial, trivial⟩ ?_
    exact gd_ret tc_126 rfl rfl trivial (fun _ => rfl) ⟨rfl, h⟩
  have h := h.2 hc
  show Gd d w 126 _ (128, [some (aR 20 k0), some (aR 13 k1), some (aI v2), some (aR 17 (k1 + 24))], [], M3)
  refine gd_s (P := True ∧ True ∧ True) (σ1 := (131, [some (aR 20 k0), some (aR 13 k1), some (aI v2), some (aR 17 (k1 + 24))], [aI ((32 : Int32)), aR 20 k0], M3)) tc_126 rfl 2 (fun u => ⟨_, rfl⟩) ⟨trivial, trivial, trivial⟩ ?_
  refine gd_callN (ml := 2) (as := [aR 20 k0, aI ((32 : Int32))]) (rest := []) tc_126 rfl rfl rfl rfl rfl (by omega) (by omega) (Nat.le_of_ble_eq_true rfl) rfl (g_Pr_put (by omega) (by omega) h) (fun r9 M12 h => ?_)
  obtain ⟨rfl, h⟩ := h
  show Gd d w 126 _ (134, [some (aR 20 k0), some (aR 13 k1), some (aI v2), some (aR 17 (k1 + 24))], [], M12)
  obtain ⟨c0, h⟩ := h
  refine gd_s (P := True ∧ True ∧ True ∧ True ∧ (vp_in v2 (rK M12 ((k1 + 24) + 3)).2) ∧ True) (σ1 := (141, [some (aR 20 k0), some (aR 13 k1), some (aI v2), some (aR 17 (k1 + 24))], [aI (rI M12 ((k1 + 24) + 3) v2.toNatClampNeg), aR 20 k0], M12)) tc_126 rfl 5 (fun u => ⟨_, rfl⟩) ⟨trivial, trivial, trivial, trivial, c0, trivial⟩ ?_
  refine gd_callN (ml := 2) (as := [aR 20 k0, aI (rI M12 ((k1 + 24) + 3) v2.toNatClampNeg)]) (rest := []) tc_126 rfl rfl rfl rfl rfl (by omega) (by omega) (Nat.le_of_ble_eq_true rfl) rfl (g_Pr_putNumber (by omega) (by omega) h) (fun r9 M13 h => ?_)
  obtain ⟨rfl, h⟩ := h
  show Gd d w 126 _ (144, [some (aR 20 k0), some (aR 13 k1), some (aI v2), some (aR 17 (k1 + 24))], [], M13)
  exact gd_ret tc_126 rfl rfl trivial (fun _ => rfl) ⟨rfl, h⟩
theorem tc_123 : tC 123 = c123 := rfl
/-- PolicyJudge$Printer.writeExpression(LPolicyJudge$Text;II)V -/
def w_Pr_writeExpression_r (R_Pr_writeExpression : (aM → Prop) → Nat → Nat → Int32 → Int32 → aM → Prop) (R_Pr_writeJoined : (aM → Prop) → Nat → Nat → Int32 → Int32 → Int32 → aM → Prop) (R_Pr_writeJoint : (aM → Prop) → Nat → Nat → Int32 → Int32 → aM → Prop) (post : aM → Prop) (k0 : Nat) (k1 : Nat) (v2 : Int32) (v3 : Int32) (M : aM) : Prop := ((v2 < ((0 : Int32))) → post M) ∧ (¬ (v2 < ((0 : Int32))) → (((rI M (k1 + 24) 0) ≤ v2) → post M) ∧ (¬ ((rI M (k1 + 24) 0) ≤ v2) → ((v3 < ((43 : Int32))) → (vp_in v2 (rK M ((k1 + 24) + 1)).2) ∧ ((((rI M ((k1 + 24) + 1) v2.toNatClampNeg) = (10 : Int32)) → R_Pr_writeJoint (fun M1 => post M1) k0 k1 v2 v3 M) ∧ (¬ ((rI M ((k1 + 24) + 1) v2.toNatClampNeg) = (10 : Int32)) → (((rI M ((k1 + 24) + 1) v2.toNatClampNeg) = (11 : Int32)) → R_Pr_writeJoint (fun M2 => post M2) k0 k1 v2 v3 M) ∧ (¬ ((rI M ((k1 + 24) + 1) v2.toNatClampNeg) = (11 : Int32)) → (((rI M ((k1 + 24) + 1) v2.toNatClampNeg) = (12 : Int32)) → w_Pr_putToken (fun M3 => w_Pr_put (fun M4 => (vp_in v2 (rK M4 ((k1 + 24) + 5)).2) ∧ (R_Pr_writeJoined (fun M5 => post M5) k0 k1 v2 (rI M4 ((k1 + 24) + 5) v2.toNatClampNeg) v3 M4)) k0 ((32 : Int32)) M3) k0 ((12 : Int32)) M) ∧ (¬ ((rI M ((k1 + 24) + 1) v2.toNatClampNeg) = (12 : Int32)) → (((rI M ((k1 + 24) + 1) v2.toNatClampNeg) = (13 : Int32)) → (vp_in v2 (rK M ((k1 + 24) + 1)).2) ∧ (w_Pr_putToken (fun M6 => post M6) k0 (rI M ((k1 + 24) + 1) v2.toNatClampNeg) M)) ∧ (¬ ((rI M ((k1 + 24) + 1) v2.toNatClampNeg) = (13 : Int32)) → (((rI M ((k1 + 24) + 1) v2.toNatClampNeg) = (14 : Int32)) → (vp_in v2 (rK M ((k1 + 24) + 1)).2) ∧ (w_Pr_putToken (fun M7 => post M7) k0 (rI M ((k1 + 24) + 1) v2.toNatClampNeg) M)) ∧ (¬ ((rI M ((k1 + 24) + 1) v2.toNatClampNeg) = (14 : Int32)) → (((rI M ((k1 + 24) + 1) v2.toNatClampNeg) = (15 : Int32)) → (vp_in v2 (rK M ((k1 + 24) + 1)).2) ∧ (w_Pr_putToken (fun M8 => post M8) k0 (rI M ((k1 + 24) + 1) v2.toNatClampNeg) M)) ∧ (¬ ((rI M ((k1 + 24) + 1) v2.toNatClampNeg) = (15 : Int32)) → w_Pr_writeTest (fun M9 => post M9) k0 k1 v2 M)))))))) ∧ (¬ (v3 < ((43 : Int32))) → post M)))
theorem g_Pr_writeExpression_r {d w : Nat} (hd : 5 ≤ d) (hw : 116 ≤ w) {R_Pr_writeExpression : (aM → Prop) → Nat → Nat → Int32 → Int32 → aM → Prop} (hR_Pr_writeExpression : ∀ (post : aM → Prop) (k0 : Nat) (k1 : Nat) (v2 : Int32) (v3 : Int32) (M : aM), R_Pr_writeExpression post k0 k1 v2 v3 M → Gd (d - 1) (w - (5 + 19)) 123 (pV post) (0, aEnt 123 [aR 20 k0, aR 13 k1, aI v2, aI v3], [], M)) {R_Pr_writeJoined : (aM → Prop) → Nat → Nat → Int32 → Int32 → Int32 → aM → Prop} (hR_Pr_writeJoined : ∀ (post : aM → Prop) (k0 : Nat) (k1 : Nat) (v2 : Int32) (v3 : Int32) (v4 : Int32) (M : aM), R_Pr_writeJoined post k0 k1 v2 v3 v4 M → Gd (d - 1) (w - (8 + 19)) 124 (pV post) (0, aEnt 124 [aR 20 k0, aR 13 k1, aI v2, aI v3, aI v4], [], M)) {R_Pr_writeJoint : (aM → Prop) → Nat → Nat → Int32 → Int32 → aM → Prop} (hR_Pr_writeJoint : ∀ (post : aM → Prop) (k0 : Nat) (k1 : Nat) (v2 : Int32) (v3 : Int32) (M : aM), R_Pr_writeJoint post k0 k1 v2 v3 M → Gd (d - 1) (w - (7 + 19)) 125 (pV post) (0, aEnt 125 [aR 20 k0, aR 13 k1, aI v2, aI v3], [], M)) {post : aM → Prop} {k0 : Nat} {k1 : Nat} {v2 : Int32} {v3 : Int32} {M : aM} (h : w_Pr_writeExpression_r R_Pr_writeExpression R_Pr_writeJoined R_Pr_writeJoint post k0 k1 v2 v3 M) : Gd d w 123 (pV post) (0, aEnt 123 [aR 20 k0, aR 13 k1, aI v2, aI v3], [], M) := by
  unfold w_Pr_writeExpression_r at h
  show Gd d w 123 _ (0, [some (aR 20 k0), some (aR 13 k1), some (aI v2), some (aI v3), none], [], M)
  refine gd_s (P := True ∧ True ∧ True ∧ True ∧ True) (σ1 := (7, [some (aR 20 k0), some (aR 13 k1), some (aI v2), some (aI v3), some (aR 17 (k1 + 24))], [aI v2], M)) tc_123 rfl 4 (fun u => ⟨_, rfl⟩) ⟨trivial, trivial, trivial, trivial, trivial⟩ ?_
  refine gd_br (c := v2 < ((0 : Int32))) (st1 := []) tc_123 rfl rfl (fun _ => rfl) ⟨fun hc => ?_, fun hc => ?_⟩
  · have h := h.1 hc
    show Gd d w 123 _ (25, [some (aR 20 k0), some (aR 13 k1), some (aI v2), some (aI v3), some (aR 17 (k1 + 24))], [], M)
    exact gd_ret tc_123 rfl rfl trivial (fun _ => rfl) ⟨rfl, h⟩
  · have h := h.2 hc
    show Gd d w 123 _ (10, [some (aR 20 k0), some (aR 13 k1), some (aI v2), some (aI v3), some (aR 17 (k1 + 24))], [], M)
    refine gd_s (P := True ∧ True ∧ True ∧ True) (σ1 := (16, [some (aR 20 k0), some (aR 13 k1), some (aI v2), some (aI v3), some (aR 17 (k1 + 24))], [aI (rI M (k1 + 24) 0), aI v2], M)) tc_123 rfl 3 (fun u => ⟨_, rfl⟩) ⟨trivial, trivial, trivial, trivial⟩ ?_
    refine gd_br (c := (rI M (k1 + 24) 0) ≤ v2) (st1 := []) tc_123 rfl rfl (fun _ => rfl) ⟨fun hc => ?_, fun hc => ?_⟩
    · have h := h.1 hc
      show Gd d w 123 _ (25, [some (aR 20 k0), some (aR 13 k1), some (aI v2), some (aI v3), some (aR 17 (k1 + 24))], [], M)
      exact gd_ret tc_123 rfl rfl trivial (fun _ => rfl) ⟨rfl, h⟩
    · have h := h.2 hc
      show Gd d w 123 _ (19, [some (aR 20 k0), some (aR 13 k1), some (aI v2), some (aI v3), some (aR 17 (k1 + 24))], [], M)
      refine gd_s (P := True ∧ True ∧ True) (σ1 := (22, [some (aR 20 k0), some (aR 13 k1), some (aI v2), some (aI v3), some (aR 17 (k1 + 24))], [aI ((43 : Int32)), aI v3], M)) tc_123 rfl 2 (fun u => ⟨_, rfl⟩) ⟨trivial, trivial, trivial⟩ ?_
      refine gd_br (c := v3 < ((43 : Int32))) (st1 := []) tc_123 rfl rfl (fun _ => rfl) ⟨fun hc => ?_, fun hc => ?_⟩
      · have h := h.1 hc
        show Gd d w 123 _ (26, [some (aR 20 k0), some (aR 13 k1), some (aI v2), some (aI v3), some (aR 17 (k1 + 24))], [], M)
        obtain ⟨c0, h⟩ := h
        refine gd_s (P := True ∧ True ∧ True ∧ (vp_in v2 (rK M ((k1 + 24) + 1)).2) ∧ True) (σ1 := (33, [some (aR 20 k0), some (aR 13 k1), some (aI v2), some (aI v3), some (aR 17 (k1 + 24))], [aI (rI M ((k1 + 24) + 1) v2.toNatClampNeg)], M)) tc_123 rfl 4 (fun u => ⟨_, rfl⟩) ⟨trivial, trivial, trivial, c0, trivial⟩ ?_
        refine gd_sw tc_123 rfl rfl (fun _ => rfl) ?_
        refine gd_case ⟨fun hc => ?_, fun hc => ?_⟩
        · have h := h.1 hc
          show Gd d w 123 _ (115, [some (aR 20 k0), some (aR 13 k1), some (aI v2), some (aI v3), some (aR 17 (k1 + 24))], [], M)
          refine gd_s (P := True ∧ True ∧ True ∧ True ∧ True) (σ1 := (119, [some (aR 20 k0), some (aR 13 k1), some (aI v2), some (aI v3), some (aR 17 (k1 + 24))], [aI v3, aI v2, aR 13 k1, aR 20 k0], M)) tc_123 rfl 4 (fun u => ⟨_, rfl⟩) ⟨trivial, trivial, trivial, trivial, trivial⟩ ?_
          refine gd_callN (ml := 7) (as := [aR 20 k0, aR 13 k1, aI v2, aI v3]) (rest := []) tc_123 rfl rfl rfl rfl rfl (by omega) (by omega) (Nat.le_of_ble_eq_true rfl) rfl (hR_Pr_writeJoint _ k0 k1 v2 v3 _ h) (fun r9 M1 h => ?_)
          obtain ⟨rfl, h⟩ := h
          show Gd d w 123 _ (122, [some (aR 20 k0), some (aR 13 k1), some (aI v2), some (aI v3), some (aR 17 (k1 + 24))], [], M1)
          refine gd_s (P := True ∧ True) (σ1 := (131, [some (aR 20 k0), some (aR 13 k1), some (aI v2), some (aI v3), some (aR 17 (k1 + 24))], [], M1)) tc_123 rfl 1 (fun u => ⟨_, rfl⟩) ⟨trivial, trivial⟩ ?_
          exact gd_ret tc_123 rfl rfl trivial (fun _ => rfl) ⟨rfl, h⟩
        have h := h.2 hc
        refine gd_case ⟨fun hc => ?_, fun hc => ?_⟩
        · have h := h.1 hc
          show Gd d w 123 _ (115, [some (aR 20 k0), some (aR 13 k1), some (aI v2), some (aI v3), some (aR 17 (k1 + 24))], [], M)
          refine gd_s (P := True ∧ True ∧ True ∧ True ∧ True) (σ1 := (119, [some (aR 20 k0), some (aR 13 k1), some (aI v2), some (aI v3), some (aR 17 (k1 + 24))], [aI v3, aI v2, aR 13 k1, aR 20 k0], M)) tc_123 rfl 4 (fun u => ⟨_, rfl⟩) ⟨trivial, trivial, trivial, trivial, trivial⟩ ?_
          refine gd_callN (ml := 7) (as := [aR 20 k0, aR 13 k1, aI v2, aI v3]) (rest := []) tc_123 rfl rfl rfl rfl rfl (by omega) (by omega) (Nat.le_of_ble_eq_true rfl) rfl (hR_Pr_writeJoint _ k0 k1 v2 v3 _ h) (fun r9 M2 h => ?_)
          obtain ⟨rfl, h⟩ := h
          show Gd d w 123 _ (122, [some (aR 20 k0), some (aR 13 k1), some (aI v2), some (aI v3), some (aR 17 (k1 + 24))], [], M2)
          refine gd_s (P := True ∧ True) (σ1 := (131, [some (aR 20 k0), some (aR 13 k1), some (aI v2), some (aI v3), some (aR 17 (k1 + 24))], [], M2)) tc_123 rfl 1 (fun u => ⟨_, rfl⟩) ⟨trivial, trivial⟩ ?_
          exact gd_ret tc_123 rfl rfl trivial (fun _ => rfl) ⟨rfl, h⟩
        have h := h.2 hc
        refine gd_case ⟨fun hc => ?_, fun hc => ?_⟩
        · have h := h.1 hc
          show Gd d w 123 _ (86, [some (aR 20 k0), some (aR 13 k1), some (aI v2), some (aI v3), some (aR 17 (k1 + 24))], [], M)
          refine gd_s (P := True ∧ True ∧ True) (σ1 := (89, [some (aR 20 k0), some (aR 13 k1), some (aI v2), some (aI v3), some (aR 17 (k1 + 24))], [aI ((12 : Int32)), aR 20 k0], M)) tc_123 rfl 2 (fun u => ⟨_, rfl⟩) ⟨trivial, trivial, trivial⟩ ?_
          refine gd_callN (ml := 2) (as := [aR 20 k0, aI ((12 : Int32))]) (rest := []) tc_123 rfl rfl rfl rfl rfl (by omega) (by omega) (Nat.le_of_ble_eq_true rfl) rfl (g_Pr_putToken (by omega) (by omega) h) (fun r9 M3 h => ?_)
          obtain ⟨rfl, h⟩ := h
          show Gd d w 123 _ (92, [some (aR 20 k0), some (aR 13 k1), some (aI v2), some (aI v3), some (aR 17 (k1 + 24))], [], M3)
          refine gd_s (P := True ∧ True ∧ True) (σ1 := (95, [some (aR 20 k0), some (aR 13 k1), some (aI v2), some (aI v3), some (aR 17 (k1 + 24))], [aI ((32 : Int32)), aR 20 k0], M3)) tc_123 rfl 2 (fun u => ⟨_, rfl⟩) ⟨trivial, trivial, trivial⟩ ?_
          refine gd_callN (ml := 2) (as := [aR 20 k0, aI ((32 : Int32))]) (rest := []) tc_123 rfl rfl rfl rfl rfl (by omega) (by omega) (Nat.le_of_ble_eq_true rfl) rfl (g_Pr_put (by omega) (by omega) h) (fun r9 M4 h => ?_)
          obtain ⟨rfl, h⟩ := h
          show Gd d w 123 _ (98, [some (aR 20 k0), some (aR 13 k1), some (aI v2), some (aI v3), some (aR 17 (k1 + 24))], [], M4)
          obtain ⟨c0, h⟩ := h
          refine gd_s (P := True ∧ True ∧ True ∧ True ∧ True ∧ True ∧ (vp_in v2 (rK M4 ((k1 + 24) + 5)).2) ∧ True ∧ True) (σ1 := (109, [some (aR 20 k0), some (aR 13 k1), some (aI v2), some (aI v3), some (aR 17 (k1 + 24))], [aI v3, aI (rI M4 ((k1 + 24) + 5) v2.toNatClampNeg), aI v2, aR 13 k1, aR 20 k0], M4)) tc_123 rfl 8 (fun u => ⟨_, rfl⟩) ⟨trivial, trivial, trivial, trivial, trivial, trivial, c0, trivial, trivial⟩ ?_
          refine gd_callN (ml := 8) (as := [aR 20 k0, aR 13 k1, aI v2, aI (rI M4 ((k1 + 24) + 5) v2.toNatClampNeg), aI v3]) (rest := []) tc_123 rfl rfl rfl rfl rfl (by omega) (by omega) (Nat.le_of_ble_eq_true rfl) rfl (hR_Pr_writeJoined _ k0 k1 v2 (rI M4 ((k1 + 24) + 5) v2.toNatClampNeg) v3 _ h) (fun r9 M5 h => ?_)
          obtain ⟨rfl, h⟩ := h
          show Gd d w 123 _ (112, [some (aR 20 k0), some (aR 13 k1), some (aI v2), some (aI v3), some (aR 17 (k1 + 24))], [], M5)
          refine gd_s (P := True ∧ True) (σ1 := (131, [some (aR 20 k0), some (aR 13 k1), some (aI v2), some (aI v3), some (aR 17 (k1 + 24))], [], M5)) tc_123 rfl 1 (fun u => ⟨_, rfl⟩) ⟨trivial, trivial⟩ ?_
          exact gd_ret tc_123 rfl rfl trivial (fun _ => rfl) ⟨rfl, h⟩
        have h := h.2 hc
        refine gd_case ⟨fun hc => ?_, fun hc => ?_⟩
        · have h := h.1 hc
          show Gd d w 123 _ (72, [some (aR 20 k0), some (aR 13 k1), some (aI v2), some (aI v3), some (aR 17 (k1 + 24))], [], M)
          obtain ⟨c0, h⟩ := h
          refine gd_s (P := True ∧ True ∧ True ∧ True ∧ (vp_in v2 (rK M ((k1 + 24) + 1)).2) ∧ True) (σ1 := (80, [some (aR 20 k0), some (aR 13 k1), some (aI v2), some (aI v3), some (aR 17 (k1 + 24))], [aI (rI M ((k1 + 24) + 1) v2.toNatClampNeg), aR 20 k0], M)) tc_123 rfl 5 (fun u => ⟨_, rfl⟩) ⟨trivial, trivial, trivial, trivial, c0, trivial⟩ ?_
          refine gd_callN (ml := 2) (as := [aR 20 k0, aI (rI M ((k1 + 24) + 1) v2.toNatClampNeg)]) (rest := []) tc_123 rfl rfl rfl rfl rfl (by omega) (by omega) (Nat.le_of_ble_eq_true rfl) rfl (g_Pr_putToken (by omega) (by omega) h) (fun r9 M6 h => ?_)
          obtain ⟨rfl, h⟩ := h
          show Gd d w 123 _ (83, [some (aR 20 k0), some (aR 13 k1), some (aI v2), some (aI v3), some (aR 17 (k1 + 24))], [], M6)
          refine gd_s (P := True ∧ True) (σ1 := (131, [some (aR 20 k0), some (aR 13 k1), some (aI v2), some (aI v3), some (aR 17 (k1 + 24))], [], M6)) tc_123 rfl 1 (fun u => ⟨_, rfl⟩) ⟨trivial, trivial⟩ ?_
          exact gd_ret tc_123 rfl rfl trivial (fun _ => rfl) ⟨rfl, h⟩
        have h := h.2 hc
        refine gd_case ⟨fun hc => ?_, fun hc => ?_⟩
        · have h := h.1 hc
          show Gd d w 123 _ (72, [some (aR 20 k0), some (aR 13 k1), some (aI v2), some (aI v3), some (aR 17 (k1 + 24))], [], M)
          obtain ⟨c0, h⟩ := h
          refine gd_s (P := True ∧ True ∧ True ∧ True ∧ (vp_in v2 (rK M ((k1 + 24) + 1)).2) ∧ True) (σ1 := (80, [some (aR 20 k0), some (aR 13 k1), some (aI v2), some (aI v3), some (aR 17 (k1 + 24))], [aI (rI M ((k1 + 24) + 1) v2.toNatClampNeg), aR 20 k0], M)) tc_123 rfl 5 (fun u => ⟨_, rfl⟩) ⟨trivial, trivial, trivial, trivial, c0, trivial⟩ ?_
          refine gd_callN (ml := 2) (as := [aR 20 k0, aI (rI M ((k1 + 24) + 1) v2.toNatClampNeg)]) (rest := []) tc_123 rfl rfl rfl rfl rfl (by omega) (by omega) (Nat.le_of_ble_eq_true rfl) rfl (g_Pr_putToken (by omega) (by omega) h) (fun r9 M7 h => ?_)
          obtain ⟨rfl, h⟩ := h
          show Gd d w 123 _ (83, [some (aR 20 k0), some (aR 13 k1), some (aI v2), some (aI v3), some (aR 17 (k1 + 24))], [], M7)
          refine gd_s (P := True ∧ True) (σ1 := (131, [some (aR 20 k0), some (aR 13 k1), some (aI v2), some (aI v3), some (aR 17 (k1 + 24))], [], M7)) tc_123 rfl 1 (fun u => ⟨_, rfl⟩) ⟨trivial, trivial⟩ ?_
          exact gd_ret tc_123 rfl rfl trivial (fun _ => rfl) ⟨rfl, h⟩
        have h := h.2 hc
        refine gd_case ⟨fun hc => ?_, fun hc => ?_⟩
        · have h := h.1 hc
          show Gd d w 123 _ (72, [some (aR 20 k0), some (aR 13 k1), some (aI v2), some (aI v3), some (aR 17 (k1 + 24))], [], M)
          obtain ⟨c0, h⟩ := h
          refine gd_s (P := True ∧ True ∧ True ∧ True ∧ (vp_in v2 (rK M ((k1 + 24) + 1)).2) ∧ True) (σ1 := (80, [some (aR 20 k0), some (aR 13 k1), some (aI v2), some (aI v3), some (aR 17 (k1 + 24))], [aI (rI M ((k1 + 24) + 1) v2.toNatClampNeg), aR 20 k0], M)) tc_123 rfl 5 (fun u => ⟨_, rfl⟩) ⟨trivial, trivial, trivial, trivial, c0, trivial⟩ ?_
          refine gd_callN (ml := 2) (as := [aR 20 k0, aI (rI M ((k1 + 24) + 1) v2.toNatClampNeg)]) (rest := []) tc_123 rfl rfl rfl rfl rfl (by omega) (by omega) (Nat.le_of_ble_eq_true rfl) rfl (g_Pr_putToken (by omega) (by omega) h) (fun r9 M8 h => ?_)
          obtain ⟨rfl, h⟩ := h
          show Gd d w 123 _ (83, [some (aR 20 k0), some (aR 13 k1), some (aI v2), some (aI v3), some (aR 17 (k1 + 24))], [], M8)
          refine gd_s (P := True ∧ True) (σ1 := (131, [some (aR 20 k0), some (aR 13 k1), some (aI v2), some (aI v3), some (aR 17 (k1 + 24))], [], M8)) tc_123 rfl 1 (fun u => ⟨_, rfl⟩) ⟨trivial, trivial⟩ ?_
          exact gd_ret tc_123 rfl rfl trivial (fun _ => rfl) ⟨rfl, h⟩
        have h := h.2 hc
        show Gd d w 123 _ (125, [some (aR 20 k0), some (aR 13 k1), some (aI v2), some (aI v3), some (aR 17 (k1 + 24))], [], M)
        refine gd_s (P := True ∧ True ∧ True ∧ True) (σ1 := (128, [some (aR 20 k0), some (aR 13 k1), some (aI v2), some (aI v3), some (aR 17 (k1 + 24))], [aI v2, aR 13 k1, aR 20 k0], M)) tc_123 rfl 3 (fun u => ⟨_, rfl⟩) ⟨trivial, trivial, trivial, trivial⟩ ?_
        refine gd_callN (ml := 4) (as := [aR 20 k0, aR 13 k1, aI v2]) (rest := []) tc_123 rfl rfl rfl rfl rfl (by omega) (by omega) (Nat.le_of_ble_eq_true rfl) rfl (g_Pr_writeTest (by omega) (by omega) h) (fun r9 M9 h => ?_)
        obtain ⟨rfl, h⟩ := h
        show Gd d w 123 _ (131, [some (aR 20 k0), some (aR 13 k1), some (aI v2), some (aI v3), some (aR 17 (k1 + 24))], [], M9)
        exact gd_ret tc_123 rfl rfl trivial (fun _ => rfl) ⟨rfl, h⟩
      · have h := h.2 hc
        show Gd d w 123 _ (25, [some (aR 20 k0), some (aR 13 k1), some (aI v2), some (aI v3), some (aR 17 (k1 + 24))], [], M)
        exact gd_ret tc_123 rfl rfl trivial (fun _ => rfl) ⟨rfl, h⟩
def S_Pr : Nat → ((aM → Prop) → Nat → Nat → Int32 → Int32 → aM → Prop) × ((aM → Prop) → Nat → Nat → Int32 → Int32 → Int32 → aM → Prop) × ((aM → Prop) → Nat → Nat → Int32 → Int32 → aM → Prop)
  | 0 => (fun _ _ _ _ _ _ => False, fun _ _ _ _ _ _ _ => False, fun _ _ _ _ _ _ => False)
  | D + 1 => (w_Pr_writeExpression_r ((S_Pr D).1) ((S_Pr D).2.1) ((S_Pr D).2.2), w_Pr_writeJoined_r ((S_Pr D).1) ((S_Pr D).2.1) ((S_Pr D).2.2), w_Pr_writeJoint_r ((S_Pr D).1) ((S_Pr D).2.1) ((S_Pr D).2.2))
theorem gS_Pr : ∀ (D d w : Nat), 4 + D ≤ d → 89 + D * 27 ≤ w → (∀ (post : aM → Prop) (k0 : Nat) (k1 : Nat) (v2 : Int32) (v3 : Int32) (M : aM), (S_Pr D).1 post k0 k1 v2 v3 M → Gd d w 123 (pV post) (0, aEnt 123 [aR 20 k0, aR 13 k1, aI v2, aI v3], [], M)) ∧ (∀ (post : aM → Prop) (k0 : Nat) (k1 : Nat) (v2 : Int32) (v3 : Int32) (v4 : Int32) (M : aM), (S_Pr D).2.1 post k0 k1 v2 v3 v4 M → Gd d w 124 (pV post) (0, aEnt 124 [aR 20 k0, aR 13 k1, aI v2, aI v3, aI v4], [], M)) ∧ (∀ (post : aM → Prop) (k0 : Nat) (k1 : Nat) (v2 : Int32) (v3 : Int32) (M : aM), (S_Pr D).2.2 post k0 k1 v2 v3 M → Gd d w 125 (pV post) (0, aEnt 125 [aR 20 k0, aR 13 k1, aI v2, aI v3], [], M)) := by
  intro D
  induction D with
  | zero =>
    intro d w hd hw
    exact ⟨fun post k0 k1 v2 v3 M h => h.elim, fun post k0 k1 v2 v3 v4 M h => h.elim, fun post k0 k1 v2 v3 M h => h.elim⟩
  | succ D ih =>
    intro d w hd hw
    have ih123 := ih (d - 1) (w - (5 + 19)) (by omega) (by omega)
    have ih124 := ih (d - 1) (w - (8 + 19)) (by omega) (by omega)
    have ih125 := ih (d - 1) (w - (7 + 19)) (by omega) (by omega)
    exact ⟨fun post k0 k1 v2 v3 M h => g_Pr_writeExpression_r (by omega) (by omega) ih123.1 ih124.2.1 ih125.2.2 h, fun post k0 k1 v2 v3 v4 M h => g_Pr_writeJoined_r (by omega) (by omega) ih123.1 ih124.2.1 ih125.2.2 h, fun post k0 k1 v2 v3 M h => g_Pr_writeJoint_r (by omega) (by omega) ih123.1 ih124.2.1 ih125.2.2 h⟩
/-- PolicyJudge$Printer.writeExpression(LPolicyJudge$Text;II)V, to depth D -/
def w_Pr_writeExpression (D : Nat) (post : aM → Prop) (k0 : Nat) (k1 : Nat) (v2 : Int32) (v3 : Int32) (M : aM) : Prop := (S_Pr D).1 post k0 k1 v2 v3 M
theorem g_Pr_writeExpression {D d w : Nat} (hd : 4 + D ≤ d) (hw : 89 + D * 27 ≤ w) {post : aM → Prop} {k0 : Nat} {k1 : Nat} {v2 : Int32} {v3 : Int32} {M : aM} (h : w_Pr_writeExpression D post k0 k1 v2 v3 M) : Gd d w 123 (pV post) (0, aEnt 123 [aR 20 k0, aR 13 k1, aI v2, aI v3], [], M) := (gS_Pr D d w hd hw).1 _ _ _ _ _ _ h
/-- PolicyJudge$Printer.writeJoined(LPolicyJudge$Text;III)V, to depth D -/
def w_Pr_writeJoined (D : Nat) (post : aM → Prop) (k0 : Nat) (k1 : Nat) (v2 : Int32) (v3 : Int32) (v4 : Int32) (M : aM) : Prop := (S_Pr D).2.1 post k0 k1 v2 v3 v4 M
theorem g_Pr_writeJoined {D d w : Nat} (hd : 4 + D ≤ d) (hw : 89 + D * 27 ≤ w) {post : aM → Prop} {k0 : Nat} {k1 : Nat} {v2 : Int32} {v3 : Int32} {v4 : Int32} {M : aM} (h : w_Pr_writeJoined D post k0 k1 v2 v3 v4 M) : Gd d w 124 (pV post) (0, aEnt 124 [aR 20 k0, aR 13 k1, aI v2, aI v3, aI v4], [], M) := (gS_Pr D d w hd hw).2.1 _ _ _ _ _ _ _ h
/-- PolicyJudge$Printer.writeJoint(LPolicyJudge$Text;II)V, to depth D -/
def w_Pr_writeJoint (D : Nat) (post : aM → Prop) (k0 : Nat) (k1 : Nat) (v2 : Int32) (v3 : Int32) (M : aM) : Prop := (S_Pr D).2.2 post k0 k1 v2 v3 M
theorem g_Pr_writeJoint {D d w : Nat} (hd : 4 + D ≤ d) (hw : 89 + D * 27 ≤ w) {post : aM → Prop} {k0 : Nat} {k1 : Nat} {v2 : Int32} {v3 : Int32} {M : aM} (h : w_Pr_writeJoint D post k0 k1 v2 v3 M) : Gd d w 125 (pV post) (0, aEnt 125 [aR 20 k0, aR 13 k1, aI v2, aI v3], [], M) := (gS_Pr D d w hd hw).2.2 _ _ _ _ _ _ h
theorem tc_128 : tC 128 = c128 := rfl
def w_Pr_writeDuty_J34 (post : aM → Prop) (k0 : Nat) (k1 : Nat) (v2 : Int32) (t0 : Nat) (s1 : Int32) (M : aM) : Prop := w_Pr_putToken (fun M1 => w_Pr_put (fun M2 => (vp_in v2 (rK M2 (k1 + 12)).2) ∧ (w_Pr_putNumber (fun M3 => w_Pr_endLine (fun M4 => post M4) k0 ((59 : Int32)) M3) k0 (rI M2 (k1 + 12) v2.toNatClampNeg) M2)) k0 ((32 : Int32)) M1) t0 s1 M
theorem g_Pr_writeDuty_J34 {d w : Nat} (hd : 3 ≤ d) (hw : 66 ≤ w) {post : aM → Prop} (k0 : Nat) (k1 : Nat) (v2 : Int32) (t0 : Nat) (s1 : Int32) (M : aM) (h : w_Pr_writeDuty_J34 post k0 k1 v2 t0 s1 M) : Gd d w 128 (pV post) (34, [some (aR 20 k0), some (aR 16 k1), some (aI v2)], [aI s1, aR 20 t0], M) := by
  unfold w_Pr_writeDuty_J34 at h
  show Gd d w 128 _ (34, [some (aR 20 k0), some (aR 16 k1), some (aI v2)], [aI s1, aR 20 t0], M)
  refine gd_callN (ml := 2) (as := [aR 20 t0, aI s1]) (rest := []) tc_128 rfl rfl rfl rfl rfl (by omega) (by omega) (Nat.le_of_ble_eq_true rfl) rfl (g_Pr_putToken (by omega) (by omega) h) (fun r9 M1 h => ?_)
  obtain ⟨rfl, h⟩ := h
  show Gd d w 128 _ (37, [some (aR 20 k0), some (aR 16 k1), some (aI v2)], [], M1)
  refine gd_s (P := True ∧ True ∧ True) (σ1 := (40, [some (aR 20 k0), some (aR 16 k1), some (aI v2)], [aI ((32 : Int32)), aR 20 k0], M1)) tc_128 rfl 2 (fun u => ⟨_, rfl⟩) ⟨trivial, trivial, trivial⟩ ?_
  refine gd_callN (ml := 2) (as := [aR 20 k0, aI ((32 : Int32))]) (rest := []) tc_128 rfl rfl rfl rfl rfl (by omega) (by omega) (Nat.le_of_ble_eq_true rfl) rfl (g_Pr_put (by omega) (by omega) h) (fun r9 M2 h => ?_)
  obtain ⟨rfl, h⟩ := h
  show Gd d w 128 _ (43, [some (aR 20 k0), some (aR 16 k1), some (aI v2)], [], M2)
  obtain ⟨c0, h⟩ := h
  refine gd_s (P := True ∧ True ∧ True ∧ True ∧ (vp_in v2 (rK M2 (k1 + 12)).2) ∧ True) (σ1 := (50, [some (aR 20 k0), some (aR 16 k1), some (aI v2)], [aI (rI M2 (k1 + 12) v2.toNatClampNeg), aR 20 k0], M2)) tc_128 rfl 5 (fun u => ⟨_, rfl⟩) ⟨trivial, trivial, trivial, trivial, c0, trivial⟩ ?_
  refine gd_callN (ml := 2) (as := [aR 20 k0, aI (rI M2 (k1 + 12) v2.toNatClampNeg)]) (rest := []) tc_128 rfl rfl rfl rfl rfl (by omega) (by omega) (Nat.le_of_ble_eq_true rfl) rfl (g_Pr_putNumber (by omega) (by omega) h) (fun r9 M3 h => ?_)
  obtain ⟨rfl, h⟩ := h
  show Gd d w 128 _ (53, [some (aR 20 k0), some (aR 16 k1), some (aI v2)], [], M3)
  refine gd_s (P := True ∧ True ∧ True) (σ1 := (56, [some (aR 20 k0), some (aR 16 k1), some (aI v2)], [aI ((59 : Int32)), aR 20 k0], M3)) tc_128 rfl 2 (fun u => ⟨_, rfl⟩) ⟨trivial, trivial, trivial⟩ ?_
  refine gd_callN (ml := 2) (as := [aR 20 k0, aI ((59 : Int32))]) (rest := []) tc_128 rfl rfl rfl rfl rfl (by omega) (by omega) (Nat.le_of_ble_eq_true rfl) rfl (g_Pr_endLine (by omega) (by omega) h) (fun r9 M4 h => ?_)
  obtain ⟨rfl, h⟩ := h
  show Gd d w 128 _ (59, [some (aR 20 k0), some (aR 16 k1), some (aI v2)], [], M4)
  exact gd_ret tc_128 rfl rfl trivial (fun _ => rfl) ⟨rfl, h⟩
/-- PolicyJudge$Printer.writeDuty(LPolicyJudge$Nodes;I)V -/
def w_Pr_writeDuty (post : aM → Prop) (k0 : Nat) (k1 : Nat) (v2 : Int32) (M : aM) : Prop := w_Pr_indent (fun M1 => w_Pr_putToken (fun M2 => w_Pr_put (fun M3 => (vp_in v2 (rK M3 (k1 + 14)).2) ∧ (((¬ (rI M3 (k1 + 14) v2.toNatClampNeg) = ((1 : Int32))) → w_Pr_writeDuty_J34 post k0 k1 v2 k0 ((7 : Int32)) M3) ∧ (¬ (¬ (rI M3 (k1 + 14) v2.toNatClampNeg) = ((1 : Int32))) → w_Pr_writeDuty_J34 post k0 k1 v2 k0 ((6 : Int32)) M3))) k0 ((32 : Int32)) M2) k0 ((9 : Int32)) M1) k0 M
theorem g_Pr_writeDuty {d w : Nat} (hd : 3 ≤ d) (hw : 66 ≤ w) {post : aM → Prop} {k0 : Nat} {k1 : Nat} {v2 : Int32} {M : aM} (h : w_Pr_writeDuty post k0 k1 v2 M) : Gd d w 128 (pV post) (0, aEnt 128 [aR 20 k0, aR 16 k1, aI v2], [], M) := by
  unfold w_Pr_writeDuty at h
  show Gd d w 128 _ (0, [some (aR 20 k0), some (aR 16 k1), some (aI v2)], [], M)
  refine gd_s (P := True ∧ True) (σ1 := (1, [some (aR 20 k0), some (aR 16 k1), some (aI v2)], [aR 20 k0], M)) tc_128 rfl 1 (fun u => ⟨_, rfl⟩) ⟨trivial, trivial⟩ ?_
  refine gd_callN (ml := 2) (as := [aR 20 k0]) (rest := []) tc_128 rfl rfl rfl rfl rfl (by omega) (by omega) (Nat.le_of_ble_eq_true rfl) rfl (g_Pr_indent (by omega) (by omega) h) (fun r9 M1 h => ?_)
  obtain ⟨rfl, h⟩ := h
  show Gd d w 128 _ (4, [some (aR 20 k0), some (aR 16 k1), some (aI v2)], [], M1)
  refine gd_s (P := True ∧ True ∧ True) (σ1 := (7, [some (aR 20 k0), some (aR 16 k1), some (aI v2)], [aI ((9 : Int32)), aR 20 k0], M1)) tc_128 rfl 2 (fun u => ⟨_, rfl⟩) ⟨trivial, trivial, trivial⟩ ?_
  refine gd_callN (ml := 2) (as := [aR 20 k0, aI ((9 : Int32))]) (rest := []) tc_128 rfl rfl rfl rfl rfl (by omega) (by omega) (Nat.le_of_ble_eq_true rfl) rfl (g_Pr_putToken (by omega) (by omega) h) (fun r9 M2 h => ?_)
  obtain ⟨rfl, h⟩ := h
  show Gd d w 128 _ (10, [some (aR 20 k0), some (aR 16 k1), some (aI v2)], [], M2)
  refine gd_s (P := True ∧ True ∧ True) (σ1 := (13, [some (aR 20 k0), some (aR 16 k1), some (aI v2)], [aI ((32 : Int32)), aR 20 k0], M2)) tc_128 rfl 2 (fun u => ⟨_, rfl⟩) ⟨trivial, trivial, trivial⟩ ?_
  refine gd_callN (ml := 2) (as := [aR 20 k0, aI ((32 : Int32))]) (rest := []) tc_128 rfl rfl rfl rfl rfl (by omega) (by omega) (Nat.le_of_ble_eq_true rfl) rfl (g_Pr_put (by omega) (by omega) h) (fun r9 M3 h => ?_)
  obtain ⟨rfl, h⟩ := h
  show Gd d w 128 _ (16, [some (aR 20 k0), some (aR 16 k1), some (aI v2)], [], M3)
  obtain ⟨c0, h⟩ := h
  refine gd_s (P := True ∧ True ∧ True ∧ True ∧ (vp_in v2 (rK M3 (k1 + 14)).2) ∧ True ∧ True) (σ1 := (24, [some (aR 20 k0), some (aR 16 k1), some (aI v2)], [aI ((1 : Int32)), aI (rI M3 (k1 + 14) v2.toNatClampNeg), aR 20 k0], M3)) tc_128 rfl 6 (fun u => ⟨_, rfl⟩) ⟨trivial, trivial, trivial, trivial, c0, trivial, trivial⟩ ?_
  refine gd_br (c := ¬ (rI M3 (k1 + 14) v2.toNatClampNeg) = ((1 : Int32))) (st1 := [aR 20 k0]) tc_128 rfl rfl (fun _ => rfl) ⟨fun hc => ?_, fun hc => ?_⟩
  · have h := h.1 hc
    show Gd d w 128 _ (32, [some (aR 20 k0), some (aR 16 k1), some (aI v2)], [aR 20 k0], M3)
    refine gd_s (P := True ∧ True) (σ1 := (34, [some (aR 20 k0), some (aR 16 k1), some (aI v2)], [aI ((7 : Int32)), aR 20 k0], M3)) tc_128 rfl 1 (fun u => ⟨_, rfl⟩) ⟨trivial, trivial⟩ ?_
    exact g_Pr_writeDuty_J34 hd hw k0 k1 v2 k0 ((7 : Int32)) M3 h
  · have h := h.2 hc
    show Gd d w 128 _ (27, [some (aR 20 k0), some (aR 16 k1), some (aI v2)], [aR 20 k0], M3)
    refine gd_s (P := True ∧ True ∧ True) (σ1 := (34, [some (aR 20 k0), some (aR 16 k1), some (aI v2)], [aI ((6 : Int32)), aR 20 k0], M3)) tc_128 rfl 2 (fun u => ⟨_, rfl⟩) ⟨trivial, trivial, trivial⟩ ?_
    exact g_Pr_writeDuty_J34 hd hw k0 k1 v2 k0 ((6 : Int32)) M3 h
theorem tc_121 : tC 121 = c121 := rfl
def w_Pr_writeSetHead_L101 (post : aM → Prop) : Nat → Nat → Int32 → Nat → Int32 → aM → Prop
  | 0, _, _, _, _, _ => False
  | n + 1, k0, v2, k3, v4, M => (((rI M k3 10) ≤ v4) → post M) ∧ (¬ ((rI M k3 10) ≤ v4) → (vp_in v4 (rK M (k3 + 13)).2) ∧ (((¬ (rI M (k3 + 13) v4.toNatClampNeg) = v2) → w_Pr_writeSetHead_L101 post n k0 v2 k3 (v4 + (1 : Int32)) M) ∧ (¬ (¬ (rI M (k3 + 13) v4.toNatClampNeg) = v2) → w_Pr_writeDuty (fun M1 => w_Pr_writeSetHead_L101 post n k0 v2 k3 (v4 + (1 : Int32)) M1) k0 k3 v4 M)))
theorem g_Pr_writeSetHead_L101 {d w : Nat} (hd : 155 ≤ d) (hw : 4163 ≤ w) {post : aM → Prop} : ∀ (n : Nat) (k0 : Nat) (v2 : Int32) (k3 : Nat) (v4 : Int32) (o1 : Option aV) (M : aM), w_Pr_writeSetHead_L101 post n k0 v2 k3 v4 M → Gd d w 121 (pV post) (101, [some (aR 20 k0), o1, some (aI v2), some (aR 16 k3), some (aI v4)], [], M) := by
  intro n
  induction n with
  | zero => intro k0 v2 k3 v4 o1 M h; exact h.elim
  | succ n ih =>
    intro k0 v2 k3 v4 o1 M h
    show Gd d w 121 _ (101, [some (aR 20 k0), o1, some (aI v2), some (aR 16 k3), some (aI v4)], [], M)
    refine gd_s (P := True ∧ True ∧ True ∧ True) (σ1 := (107, [some (aR 20 k0), o1, some (aI v2), some (aR 16 k3), some (aI v4)], [aI (rI M k3 10), aI v4], M)) tc_121 rfl 3 (fun u => ⟨_, rfl⟩) ⟨trivial, trivial, trivial, trivial⟩ ?_
    refine gd_br (c := (rI M k3 10) ≤ v4) (st1 := []) tc_121 rfl rfl (fun _ => rfl) ⟨fun hc => ?_, fun hc => ?_⟩
    · have h := h.1 hc
      show Gd d w 121 _ (134, [some (aR 20 k0), o1, some (aI v2), some (aR 16 k3), some (aI v4)], [], M)
      exact gd_ret tc_121 rfl rfl trivial (fun _ => rfl) ⟨rfl, h⟩
    · have h := h.2 hc
      show Gd d w 121 _ (110, [some (aR 20 k0), o1, some (aI v2), some (aR 16 k3), some (aI v4)], [], M)
      obtain ⟨c0, h⟩ := h
      refine gd_s (P := True ∧ True ∧ True ∧ (vp_in v4 (rK M (k3 + 13)).2) ∧ True ∧ True) (σ1 := (118, [some (aR 20 k0), o1, some (aI v2), some (aR 16 k3), some (aI v4)], [aI v2, aI (rI M (k3 + 13) v4.toNatClampNeg)], M)) tc_121 rfl 5 (fun u => ⟨_, rfl⟩) ⟨trivial, trivial, trivial, c0, trivial, trivial⟩ ?_
      refine gd_br (c := ¬ (rI M (k3 + 13) v4.toNatClampNeg) = v2) (st1 := []) tc_121 rfl rfl (fun _ => rfl) ⟨fun hc => ?_, fun hc => ?_⟩
      · have h := h.1 hc
        show Gd d w 121 _ (128, [some (aR 20 k0), o1, some (aI v2), some (aR 16 k3), some (aI v4)], [], M)
        refine gd_s (P := True ∧ True ∧ True) (σ1 := (101, [some (aR 20 k0), o1, some (aI v2), some (aR 16 k3), some (aI (v4 + (1 : Int32)))], [], M)) tc_121 rfl 2 (fun u => ⟨_, rfl⟩) ⟨trivial, trivial, trivial⟩ ?_
        exact ih k0 v2 k3 (v4 + (1 : Int32)) o1 M h
      · have h := h.2 hc
        show Gd d w 121 _ (121, [some (aR 20 k0), o1, some (aI v2), some (aR 16 k3), some (aI v4)], [], M)
        refine gd_s (P := True ∧ True ∧ True ∧ True) (σ1 := (125, [some (aR 20 k0), o1, some (aI v2), some (aR 16 k3), some (aI v4)], [aI v4, aR 16 k3, aR 20 k0], M)) tc_121 rfl 3 (fun u => ⟨_, rfl⟩) ⟨trivial, trivial, trivial, trivial⟩ ?_
        refine gd_callN (ml := 3) (as := [aR 20 k0, aR 16 k3, aI v4]) (rest := []) tc_121 rfl rfl rfl rfl rfl (by omega) (by omega) (Nat.le_of_ble_eq_true rfl) rfl (g_Pr_writeDuty (by omega) (by omega) h) (fun r9 M1 h => ?_)
        obtain ⟨rfl, h⟩ := h
        show Gd d w 121 _ (128, [some (aR 20 k0), o1, some (aI v2), some (aR 16 k3), some (aI v4)], [], M1)
        refine gd_s (P := True ∧ True ∧ True) (σ1 := (101, [some (aR 20 k0), o1, some (aI v2), some (aR 16 k3), some (aI (v4 + (1 : Int32)))], [], M1)) tc_121 rfl 2 (fun u => ⟨_, rfl⟩) ⟨trivial, trivial, trivial⟩ ?_
        exact ih k0 v2 k3 (v4 + (1 : Int32)) o1 M1 h
def w_Pr_writeSetHead_J71 (post : aM → Prop) (k0 : Nat) (v2 : Int32) (k3 : Nat) (M : aM) : Prop := w_Pr_put (fun M1 => w_Pr_endLine (fun M2 => ∃ n9, w_Pr_writeSetHead_L101 post n9 k0 v2 k3 ((0 : Int32)) (wI (wI M2 k0 3 v2) k0 4 ((rI (wI M2 k0 3 v2) k0 4) + ((1 : Int32))))) k0 ((123 : Int32)) M1) k0 ((32 : Int32)) M
theorem g_Pr_writeSetHead_J71 {d w : Nat} (hd : 155 ≤ d) (hw : 4163 ≤ w) {post : aM → Prop} (k0 : Nat) (v2 : Int32) (k3 : Nat) (o1 o4 : Option aV) (M : aM) (h : w_Pr_writeSetHead_J71 post k0 v2 k3 M) : Gd d w 121 (pV post) (71, [some (aR 20 k0), o1, some (aI v2), some (aR 16 k3), o4], [], M) := by
  unfold w_Pr_writeSetHead_J71 at h
  show Gd d w 121 _ (71, [some (aR 20 k0), o1, some (aI v2), some (aR 16 k3), o4], [], M)
  refine gd_s (P := True ∧ True ∧ True) (σ1 := (74, [some (aR 20 k0), o1, some (aI v2), some (aR 16 k3), o4], [aI ((32 : Int32)), aR 20 k0], M)) tc_121 rfl 2 (fun u => ⟨_, rfl⟩) ⟨trivial, trivial, trivial⟩ ?_
  refine gd_callN (ml := 2) (as := [aR 20 k0, aI ((32 : Int32))]) (rest := []) tc_121 rfl rfl rfl rfl rfl (by omega) (by omega) (Nat.le_of_ble_eq_true rfl) rfl (g_Pr_put (by omega) (by omega) h) (fun r9 M1 h => ?_)
  obtain ⟨rfl, h⟩ := h
  show Gd d w 121 _ (77, [some (aR 20 k0), o1, some (aI v2), some (aR 16 k3), o4], [], M1)
  refine gd_s (P := True ∧ True ∧ True) (σ1 := (80, [some (aR 20 k0), o1, some (aI v2), some (aR 16 k3), o4], [aI ((123 : Int32)), aR 20 k0], M1)) tc_121 rfl 2 (fun u => ⟨_, rfl⟩) ⟨trivial, trivial, trivial⟩ ?_
  refine gd_callN (ml := 2) (as := [aR 20 k0, aI ((123 : Int32))]) (rest := []) tc_121 rfl rfl rfl rfl rfl (by omega) (by omega) (Nat.le_of_ble_eq_true rfl) rfl (g_Pr_endLine (by omega) (by omega) h) (fun r9 M2 h => ?_)
  obtain ⟨rfl, h⟩ := h
  show Gd d w 121 _ (83, [some (aR 20 k0), o1, some (aI v2), some (aR 16 k3), o4], [], M2)
  refine gd_s (P := True ∧ True ∧ True ∧ True ∧ True ∧ True ∧ True ∧ True ∧ True ∧ True ∧ True ∧ True) (σ1 := (101, [some (aR 20 k0), o1, some (aI v2), some (aR 16 k3), some (aI ((0 : Int32)))], [], wI (wI M2 k0 3 v2) k0 4 ((rI (wI M2 k0 3 v2) k0 4) + ((1 : Int32))))) tc_121 rfl 11 (fun u => ⟨_, rfl⟩) ⟨trivial, trivial, trivial, trivial, trivial, trivial, trivial, trivial, trivial, trivial, trivial, trivial⟩ ?_
  obtain ⟨n9, h⟩ := h
  exact g_Pr_writeSetHead_L101 hd hw n9 k0 v2 k3 ((0 : Int32)) o1 (wI (wI M2 k0 3 v2) k0 4 ((rI (wI M2 k0 3 v2) k0 4) + ((1 : Int32)))) h
/-- PolicyJudge$Printer.writeSetHead(LPolicyJudge$Text;I)V -/
def w_Pr_writeSetHead (post : aM → Prop) (k0 : Nat) (k1 : Nat) (v2 : Int32) (M : aM) : Prop := w_Pr_putToken (fun M1 => w_Pr_put (fun M2 => w_Pr_putName (fun M3 => w_Pr_put (fun M4 => (vp_in v2 (rK M4 ((k1 + 9) + 5)).2) ∧ (w_Pr_putToken (fun M5 => (vp_in v2 (rK M5 ((k1 + 9) + 7)).2) ∧ ((((rI M5 ((k1 + 9) + 7) v2.toNatClampNeg) = ((-1 : Int32))) → w_Pr_writeSetHead_J71 post k0 v2 (k1 + 9) M5) ∧ (¬ ((rI M5 ((k1 + 9) + 7) v2.toNatClampNeg) = ((-1 : Int32))) → w_Pr_putBetweenBlanks (fun M6 => (vp_in v2 (rK M6 ((k1 + 9) + 7)).2) ∧ (∃ D, D ≤ 150 ∧ w_Pr_writeExpression D (fun M7 => w_Pr_writeSetHead_J71 post k0 v2 (k1 + 9) M7) k0 k1 (rI M6 ((k1 + 9) + 7) v2.toNatClampNeg) ((0 : Int32)) M6)) k0 ((5 : Int32)) M5))) k0 (((22 : Int32)) + (rI M4 ((k1 + 9) + 5) v2.toNatClampNeg)) M4)) k0 ((32 : Int32)) M3) k0 ((k1 + 9) + 1) v2 M2) k0 ((32 : Int32)) M1) k0 ((4 : Int32)) M
theorem g_Pr_writeSetHead {d w : Nat} (hd : 155 ≤ d) (hw : 4163 ≤ w) {post : aM → Prop} {k0 : Nat} {k1 : Nat} {v2 : Int32} {M : aM} (h : w_Pr_writeSetHead post k0 k1 v2 M) : Gd d w 121 (pV post) (0, aEnt 121 [aR 20 k0, aR 13 k1, aI v2], [], M) := by
  unfold w_Pr_writeSetHead at h
  show Gd d w 121 _ (0, [some (aR 20 k0), some (aR 13 k1), some (aI v2), none, none], [], M)
  refine gd_s (P := True ∧ True ∧ True ∧ True ∧ True ∧ True) (σ1 := (7, [some (aR 20 k0), some (aR 13 k1), some (aI v2), some (aR 16 (k1 + 9)), none], [aI ((4 : Int32)), aR 20 k0], M)) tc_121 rfl 5 (fun u => ⟨_, rfl⟩) ⟨trivial, trivial, trivial, trivial, trivial, trivial⟩ ?_
  refine gd_callN (ml := 2) (as := [aR 20 k0, aI ((4 : Int32))]) (rest := []) tc_121 rfl rfl rfl rfl rfl (by omega) (by omega) (Nat.le_of_ble_eq_true rfl) rfl (g_Pr_putToken (by omega) (by omega) h) (fun r9 M1 h => ?_)
  obtain ⟨rfl, h⟩ := h
  show Gd d w 121 _ (10, [some (aR 20 k0), some (aR 13 k1), some (aI v2), some (aR 16 (k1 + 9)), none], [], M1)
  refine gd_s (P := True ∧ True ∧ True) (σ1 := (13, [some (aR 20 k0), some (aR 13 k1), some (aI v2), some (aR 16 (k1 + 9)), none], [aI ((32 : Int32)), aR 20 k0], M1)) tc_121 rfl 2 (fun u => ⟨_, rfl⟩) ⟨trivial, trivial, trivial⟩ ?_
  refine gd_callN (ml := 2) (as := [aR 20 k0, aI ((32 : Int32))]) (rest := []) tc_121 rfl rfl rfl rfl rfl (by omega) (by omega) (Nat.le_of_ble_eq_true rfl) rfl (g_Pr_put (by omega) (by omega) h) (fun r9 M2 h => ?_)
  obtain ⟨rfl, h⟩ := h
  show Gd d w 121 _ (16, [some (aR 20 k0), some (aR 13 k1), some (aI v2), some (aR 16 (k1 + 9)), none], [], M2)
  refine gd_s (P := True ∧ True ∧ True ∧ True ∧ True) (σ1 := (22, [some (aR 20 k0), some (aR 13 k1), some (aI v2), some (aR 16 (k1 + 9)), none], [aI v2, aR 15 ((k1 + 9) + 1), aR 20 k0], M2)) tc_121 rfl 4 (fun u => ⟨_, rfl⟩) ⟨trivial, trivial, trivial, trivial, trivial⟩ ?_
  refine gd_callN (ml := 4) (as := [aR 20 k0, aR 15 ((k1 + 9) + 1), aI v2]) (rest := []) tc_121 rfl rfl rfl rfl rfl (by omega) (by omega) (Nat.le_of_ble_eq_true rfl) rfl (g_Pr_putName (by omega) (by omega) h) (fun r9 M3 h => ?_)
  obtain ⟨rfl, h⟩ := h
  show Gd d w 121 _ (25, [some (aR 20 k0), some (aR 13 k1), some (aI v2), some (aR 16 (k1 + 9)), none], [], M3)
  refine gd_s (P := True ∧ True ∧ True) (σ1 := (28, [some (aR 20 k0), some (aR 13 k1), some (aI v2), some (aR 16 (k1 + 9)), none], [aI ((32 : Int32)), aR 20 k0], M3)) tc_121 rfl 2 (fun u => ⟨_, rfl⟩) ⟨trivial, trivial, trivial⟩ ?_
  refine gd_callN (ml := 2) (as := [aR 20 k0, aI ((32 : Int32))]) (rest := []) tc_121 rfl rfl rfl rfl rfl (by omega) (by omega) (Nat.le_of_ble_eq_true rfl) rfl (g_Pr_put (by omega) (by omega) h) (fun r9 M4 h => ?_)
  obtain ⟨rfl, h⟩ := h
  show Gd d w 121 _ (31, [some (aR 20 k0), some (aR 13 k1), some (aI v2), some (aR 16 (k1 + 9)), none], [], M4)
  obtain ⟨c0, h⟩ := h
  refine gd_s (P := True ∧ True ∧ True ∧ True ∧ True ∧ (vp_in v2 (rK M4 ((k1 + 9) + 5)).2) ∧ True ∧ True) (σ1 := (41, [some (aR 20 k0), some (aR 13 k1), some (aI v2), some (aR 16 (k1 + 9)), none], [aI (((22 : Int32)) + (rI M4 ((k1 + 9) + 5) v2.toNatClampNeg)), aR 20 k0], M4)) tc_121 rfl 7 (fun u => ⟨_, rfl⟩) ⟨trivial, trivial, trivial, trivial, trivial, c0, trivial, trivial⟩ ?_
  refine gd_callN (ml := 2) (as := [aR 20 k0, aI (((22 : Int32)) + (rI M4 ((k1 + 9) + 5) v2.toNatClampNeg))]) (rest := []) tc_121 rfl rfl rfl rfl rfl (by omega) (by omega) (Nat.le_of_ble_eq_true rfl) rfl (g_Pr_putToken (by omega) (by omega) h) (fun r9 M5 h => ?_)
  obtain ⟨rfl, h⟩ := h
  show Gd d w 121 _ (44, [some (aR 20 k0), some (aR 13 k1), some (aI v2), some (aR 16 (k1 + 9)), none], [], M5)
  obtain ⟨c0, h⟩ := h
  refine gd_s (P := True ∧ True ∧ True ∧ (vp_in v2 (rK M5 ((k1 + 9) + 7)).2) ∧ True ∧ True) (σ1 := (51, [some (aR 20 k0), some (aR 13 k1), some (aI v2), some (aR 16 (k1 + 9)), none], [aI ((-1 : Int32)), aI (rI M5 ((k1 + 9) + 7) v2.toNatClampNeg)], M5)) tc_121 rfl 5 (fun u => ⟨_, rfl⟩) ⟨trivial, trivial, trivial, c0, trivial, trivial⟩ ?_
  refine gd_br (c := (rI M5 ((k1 + 9) + 7) v2.toNatClampNeg) = ((-1 : Int32))) (st1 := []) tc_121 rfl rfl (fun _ => rfl) ⟨fun hc => ?_, fun hc => ?_⟩
  · have h := h.1 hc
    exact g_Pr_writeSetHead_J71 hd hw k0 v2 (k1 + 9) (some (aR 13 k1)) none M5 h
  · have h := h.2 hc
    show Gd d w 121 _ (54, [some (aR 20 k0), some (aR 13 k1), some (aI v2), some (aR 16 (k1 + 9)), none], [], M5)
    refine gd_s (P := True ∧ True ∧ True) (σ1 := (56, [some (aR 20 k0), some (aR 13 k1), some (aI v2), some (aR 16 (k1 + 9)), none], [aI ((5 : Int32)), aR 20 k0], M5)) tc_121 rfl 2 (fun u => ⟨_, rfl⟩) ⟨trivial, trivial, trivial⟩ ?_
    refine gd_callN (ml := 2) (as := [aR 20 k0, aI ((5 : Int32))]) (rest := []) tc_121 rfl rfl rfl rfl rfl (by omega) (by omega) (Nat.le_of_ble_eq_true rfl) rfl (g_Pr_putBetweenBlanks (by omega) (by omega) h) (fun r9 M6 h => ?_)
    obtain ⟨rfl, h⟩ := h
    show Gd d w 121 _ (59, [some (aR 20 k0), some (aR 13 k1), some (aI v2), some (aR 16 (k1 + 9)), none], [], M6)
    obtain ⟨c0, h⟩ := h
    refine gd_s (P := True ∧ True ∧ True ∧ True ∧ True ∧ (vp_in v2 (rK M6 ((k1 + 9) + 7)).2) ∧ True ∧ True) (σ1 := (68, [some (aR 20 k0), some (aR 13 k1), some (aI v2), some (aR 16 (k1 + 9)), none], [aI ((0 : Int32)), aI (rI M6 ((k1 + 9) + 7) v2.toNatClampNeg), aR 13 k1, aR 20 k0], M6)) tc_121 rfl 7 (fun u => ⟨_, rfl⟩) ⟨trivial, trivial, trivial, trivial, trivial, c0, trivial, trivial⟩ ?_
    obtain ⟨D9, hD9, h⟩ := h
    refine gd_callN (ml := 5) (as := [aR 20 k0, aR 13 k1, aI (rI M6 ((k1 + 9) + 7) v2.toNatClampNeg), aI ((0 : Int32))]) (rest := []) tc_121 rfl rfl rfl rfl rfl (by omega) (by omega) (Nat.le_of_ble_eq_true rfl) rfl (g_Pr_writeExpression (D := D9) (by omega) (by omega) h) (fun r9 M7 h => ?_)
    obtain ⟨rfl, h⟩ := h
    exact g_Pr_writeSetHead_J71 hd hw k0 v2 (k1 + 9) (some (aR 13 k1)) none M7 h
theorem tc_130 : tC 130 = c130 := rfl
def w_Pr_writeRuleDuties_J50 (post : aM → Prop) (K5 : Nat → Nat → Int32 → Int32 → Int32 → aM → Prop) (k0 : Nat) (k1 : Nat) (v2 : Int32) (v4 : Int32) (M : aM) : Prop := (vp_in v4 (rK M (k1 + 12)).2) ∧ (w_Pr_putNumber (fun M1 => K5 k0 k1 v2 ((1 : Int32)) (v4 + (1 : Int32)) M1) k0 (rI M (k1 + 12) v4.toNatClampNeg) M)
theorem g_Pr_writeRuleDuties_J50 {d w : Nat} (hd : 4 ≤ d) (hw : 87 ≤ w) {post : aM → Prop} {K5 : Nat → Nat → Int32 → Int32 → Int32 → aM → Prop} (hK5 : ∀ (k0 : Nat) (k1 : Nat) (v2 : Int32) (v3 : Int32) (v4 : Int32) (M : aM), K5 k0 k1 v2 v3 v4 M → Gd d w 130 (pV post) (5, [some (aR 20 k0), some (aR 16 k1), some (aI v2), some (aI v3), some (aI v4)], [], M)) (k0 : Nat) (k1 : Nat) (v2 : Int32) (v4 : Int32) (o3 : Option aV) (M : aM) (h : w_Pr_writeRuleDuties_J50 post K5 k0 k1 v2 v4 M) : Gd d w 130 (pV post) (50, [some (aR 20 k0), some (aR 16 k1), some (aI v2), o3, some (aI v4)], [], M) := by
  unfold w_Pr_writeRuleDuties_J50 at h
  show Gd d w 130 _ (50, [some (aR 20 k0), some (aR 16 k1), some (aI v2), o3, some (aI v4)], [], M)
  obtain ⟨c0, h⟩ := h
  refine gd_s (P := True ∧ True ∧ True ∧ True ∧ (vp_in v4 (rK M (k1 + 12)).2) ∧ True) (σ1 := (58, [some (aR 20 k0), some (aR 16 k1), some (aI v2), o3, some (aI v4)], [aI (rI M (k1 + 12) v4.toNatClampNeg), aR 20 k0], M)) tc_130 rfl 5 (fun u => ⟨_, rfl⟩) ⟨trivial, trivial, trivial, trivial, c0, trivial⟩ ?_
  refine gd_callN (ml := 2) (as := [aR 20 k0, aI (rI M (k1 + 12) v4.toNatClampNeg)]) (rest := []) tc_130 rfl rfl rfl rfl rfl (by omega) (by omega) (Nat.le_of_ble_eq_true rfl) rfl (g_Pr_putNumber (by omega) (by omega) h) (fun r9 M1 h => ?_)
  obtain ⟨rfl, h⟩ := h
  show Gd d w 130 _ (61, [some (aR 20 k0), some (aR 16 k1), some (aI v2), o3, some (aI v4)], [], M1)
  refine gd_s (P := True ∧ True ∧ True ∧ True ∧ True) (σ1 := (5, [some (aR 20 k0), some (aR 16 k1), some (aI v2), some (aI ((1 : Int32))), some (aI (v4 + (1 : Int32)))], [], M1)) tc_130 rfl 4 (fun u => ⟨_, rfl⟩) ⟨trivial, trivial, trivial, trivial, trivial⟩ ?_
  exact hK5 k0 k1 v2 ((1 : Int32)) (v4 + (1 : Int32)) M1 h
def w_Pr_writeRuleDuties_L5 (post : aM → Prop) : Nat → Nat → Nat → Int32 → Int32 → Int32 → aM → Prop
  | 0, _, _, _, _, _, _ => False
  | n + 1, k0, k1, v2, v3, v4, M => (((rI M k1 10) ≤ v4) → post M) ∧ (¬ ((rI M k1 10) ≤ v4) → (vp_in v4 (rK M (k1 + 13)).2) ∧ (((¬ (rI M (k1 + 13) v4.toNatClampNeg) = v2) → w_Pr_writeRuleDuties_L5 post n k0 k1 v2 v3 (v4 + (1 : Int32)) M) ∧ (¬ (¬ (rI M (k1 + 13) v4.toNatClampNeg) = v2) → ((v3 = ((0 : Int32))) → w_Pr_putBetweenBlanks (fun M1 => w_Pr_writeRuleDuties_J50 post (w_Pr_writeRuleDuties_L5 post n) k0 k1 v2 v4 M1) k0 ((8 : Int32)) M) ∧ (¬ (v3 = ((0 : Int32))) → w_Pr_put (fun M2 => w_Pr_put (fun M3 => w_Pr_writeRuleDuties_J50 post (w_Pr_writeRuleDuties_L5 post n) k0 k1 v2 v4 M3) k0 ((32 : Int32)) M2) k0 ((44 : Int32)) M))))
theorem g_Pr_writeRuleDuties_L5 {d w : Nat} (hd : 4 ≤ d) (hw : 87 ≤ w) {post : aM → Prop} : ∀ (n : Nat) (k0 : Nat) (k1 : Nat) (v2 : Int32) (v3 : Int32) (v4 : Int32) (M : aM), w_Pr_writeRuleDuties_L5 post n k0 k1 v2 v3 v4 M → Gd d w 130 (pV post) (5, [some (aR 20 k0), some (aR 16 k1), some (aI v2), some (aI v3), some (aI v4)], [], M) := by
  intro n
  induction n with
  | zero => intro k0 k1 v2 v3 v4 M h; exact h.elim
  | succ n ih =>
    intro k0 k1 v2 v3 v4 M h
    show Gd d w 130 _ (5, [some (aR 20 k0), some (aR 16 k1), some (aI v2), some (aI v3), some (aI v4)], [], M)
    refine gd_s (P := True ∧ True ∧ True ∧ True) (σ1 := (11, [some (aR 20 k0), some (aR 16 k1), some (aI v2), some (aI v3), some (aI v4)], [aI (rI M k1 10), aI v4], M)) tc_130 rfl 3 (fun u => ⟨_, rfl⟩) ⟨trivial, trivial, trivial, trivial⟩ ?_
    refine gd_br (c := (rI M k1 10) ≤ v4) (st1 := []) tc_130 rfl rfl (fun _ => rfl) ⟨fun hc => ?_, fun hc => ?_⟩
    · have h := h.1 hc
      show Gd d w 130 _ (69, [some (aR 20 k0), some (aR 16 k1), some (aI v2), some (aI v3), some (aI v4)], [], M)
      exact gd_ret tc_130 rfl rfl trivial (fun _ => rfl) ⟨rfl, h⟩
    · have h := h.2 hc
      show Gd d w 130 _ (14, [some (aR 20 k0), some (aR 16 k1), some (aI v2), some (aI v3), some (aI v4)], [], M)
      obtain ⟨c0, h⟩ := h
      refine gd_s (P := True ∧ True ∧ True ∧ (vp_in v4 (rK M (k1 + 13)).2) ∧ True ∧ True) (σ1 := (22, [some (aR 20 k0), some (aR 16 k1), some (aI v2), some (aI v3), some (aI v4)], [aI v2, aI (rI M (k1 + 13) v4.toNatClampNeg)], M)) tc_130 rfl 5 (fun u => ⟨_, rfl⟩) ⟨trivial, trivial, trivial, c0, trivial, trivial⟩ ?_
      refine gd_br (c := ¬ (rI M (k1 + 13) v4.toNatClampNeg) = v2) (st1 := []) tc_130 rfl rfl (fun _ => rfl) ⟨fun hc => ?_, fun hc => ?_⟩
      · have h := h.1 hc
        show Gd d w 130 _ (63, [some (aR 20 k0), some (aR 16 k1), some (aI v2), some (aI v3), some (aI v4)], [], M)
        refine gd_s (P := True ∧ True ∧ True) (σ1 := (5, [some (aR 20 k0), some (aR 16 k1), some (aI v2), some (aI v3), some (aI (v4 + (1 : Int32)))], [], M)) tc_130 rfl 2 (fun u => ⟨_, rfl⟩) ⟨trivial, trivial, trivial⟩ ?_
        exact ih k0 k1 v2 v3 (v4 + (1 : Int32)) M h
      · have h := h.2 hc
        show Gd d w 130 _ (25, [some (aR 20 k0), some (aR 16 k1), some (aI v2), some (aI v3), some (aI v4)], [], M)
        refine gd_s (P := True ∧ True) (σ1 := (26, [some (aR 20 k0), some (aR 16 k1), some (aI v2), some (aI v3), some (aI v4)], [aI v3], M)) tc_130 rfl 1 (fun u => ⟨_, rfl⟩) ⟨trivial, trivial⟩ ?_
        refine gd_br (c := v3 = ((0 : Int32))) (st1 := []) tc_130 rfl rfl (fun _ => rfl) ⟨fun hc => ?_, fun hc => ?_⟩
        · have h := h.1 hc
          show Gd d w 130 _ (44, [some (aR 20 k0), some (aR 16 k1), some (aI v2), some (aI v3), some (aI v4)], [], M)
          refine gd_s (P := True ∧ True ∧ True) (σ1 := (47, [some (aR 20 k0), some (aR 16 k1), some (aI v2), some (aI v3), some (aI v4)], [aI ((8 : Int32)), aR 20 k0], M)) tc_130 rfl 2 (fun u => ⟨_, rfl⟩) ⟨trivial, trivial, trivial⟩ ?_
          refine gd_callN (ml := 2) (as := [aR 20 k0, aI ((8 : Int32))]) (rest := []) tc_130 rfl rfl rfl rfl rfl (by omega) (by omega) (Nat.le_of_ble_eq_true rfl) rfl (g_Pr_putBetweenBlanks (by omega) (by omega) h) (fun r9 M1 h => ?_)
          obtain ⟨rfl, h⟩ := h
          exact g_Pr_writeRuleDuties_J50 hd hw ih k0 k1 v2 v4 (some (aI v3)) M1 h
        · have h := h.2 hc
          show Gd d w 130 _ (29, [some (aR 20 k0), some (aR 16 k1), some (aI v2), some (aI v3), some (aI v4)], [], M)
          refine gd_s (P := True ∧ True ∧ True) (σ1 := (32, [some (aR 20 k0), some (aR 16 k1), some (aI v2), some (aI v3), some (aI v4)], [aI ((44 : Int32)), aR 20 k0], M)) tc_130 rfl 2 (fun u => ⟨_, rfl⟩) ⟨trivial, trivial, trivial⟩ ?_
          refine gd_callN (ml := 2) (as := [aR 20 k0, aI ((44 : Int32))]) (rest := []) tc_130 rfl rfl rfl rfl rfl (by omega) (by omega) (Nat.le_of_ble_eq_true rfl) rfl (g_Pr_put (by omega) (by omega) h) (fun r9 M2 h => ?_)
          obtain ⟨rfl, h⟩ := h
          show Gd d w 130 _ (35, [some (aR 20 k0), some (aR 16 k1), some (aI v2), some (aI v3), some (aI v4)], [], M2)
          refine gd_s (P := True ∧ True ∧ True) (σ1 := (38, [some (aR 20 k0), some (aR 16 k1), some (aI v2), some (aI v3), some (aI v4)], [aI ((32 : Int32)), aR 20 k0], M2)) tc_130 rfl 2 (fun u => ⟨_, rfl⟩) ⟨trivial, trivial, trivial⟩ ?_
          refine gd_callN (ml := 2) (as := [aR 20 k0, aI ((32 : Int32))]) (rest := []) tc_130 rfl rfl rfl rfl rfl (by omega) (by omega) (Nat.le_of_ble_eq_true rfl) rfl (g_Pr_put (by omega) (by omega) h) (fun r9 M3 h => ?_)
          obtain ⟨rfl, h⟩ := h
          show Gd d w 130 _ (41, [some (aR 20 k0), some (aR 16 k1), some (aI v2), some (aI v3), some (aI v4)], [], M3)
          refine gd_s (P := True ∧ True) (σ1 := (50, [some (aR 20 k0), some (aR 16 k1), some (aI v2), some (aI v3), some (aI v4)], [], M3)) tc_130 rfl 1 (fun u => ⟨_, rfl⟩) ⟨trivial, trivial⟩ ?_
          exact g_Pr_writeRuleDuties_J50 hd hw ih k0 k1 v2 v4 (some (aI v3)) M3 h
/-- PolicyJudge$Printer.writeRuleDuties(LPolicyJudge$Nodes;I)V -/
def w_Pr_writeRuleDuties (post : aM → Prop) (k0 : Nat) (k1 : Nat) (v2 : Int32) (M : aM) : Prop := ∃ n9, w_Pr_writeRuleDuties_L5 post n9 k0 k1 v2 ((0 : Int32)) ((0 : Int32)) M
theorem g_Pr_writeRuleDuties {d w : Nat} (hd : 4 ≤ d) (hw : 87 ≤ w) {post : aM → Prop} {k0 : Nat} {k1 : Nat} {v2 : Int32} {M : aM} (h : w_Pr_writeRuleDuties post k0 k1 v2 M) : Gd d w 130 (pV post) (0, aEnt 130 [aR 20 k0, aR 16 k1, aI v2], [], M) := by
  unfold w_Pr_writeRuleDuties at h
  show Gd d w 130 _ (0, [some (aR 20 k0), some (aR 16 k1), some (aI v2), none, none], [], M)
  refine gd_s (P := True ∧ True ∧ True ∧ True ∧ True) (σ1 := (5, [some (aR 20 k0), some (aR 16 k1), some (aI v2), some (aI ((0 : Int32))), some (aI ((0 : Int32)))], [], M)) tc_130 rfl 4 (fun u => ⟨_, rfl⟩) ⟨trivial, trivial, trivial, trivial, trivial⟩ ?_
  obtain ⟨n9, h⟩ := h
  exact g_Pr_writeRuleDuties_L5 hd hw n9 k0 k1 v2 ((0 : Int32)) ((0 : Int32)) M h
theorem tc_129 : tC 129 = c129 := rfl
def w_Pr_writeRule_J79 (post : aM → Prop) (k0 : Nat) (v2 : Int32) (k3 : Nat) (M : aM) : Prop := w_Pr_writeRuleDuties (fun M1 => w_Pr_endLine (fun M2 => post M2) k0 ((59 : Int32)) M1) k0 k3 v2 M
theorem g_Pr_writeRule_J79 {d w : Nat} (hd : 155 ≤ d) (hw : 4163 ≤ w) {post : aM → Prop} (k0 : Nat) (v2 : Int32) (k3 : Nat) (o1 : Option aV) (M : aM) (h : w_Pr_writeRule_J79 post k0 v2 k3 M) : Gd d w 129 (pV post) (79, [some (aR 20 k0), o1, some (aI v2), some (aR 16 k3)], [], M) := by
  unfold w_Pr_writeRule_J79 at h
  show Gd d w 129 _ (79, [some (aR 20 k0), o1, some (aI v2), some (aR 16 k3)], [], M)
  refine gd_s (P := True ∧ True ∧ True ∧ True) (σ1 := (82, [some (aR 20 k0), o1, some (aI v2), some (aR 16 k3)], [aI v2, aR 16 k3, aR 20 k0], M)) tc_129 rfl 3 (fun u => ⟨_, rfl⟩) ⟨trivial, trivial, trivial, trivial⟩ ?_
  refine gd_callN (ml := 5) (as := [aR 20 k0, aR 16 k3, aI v2]) (rest := []) tc_129 rfl rfl rfl rfl rfl (by omega) (by omega) (Nat.le_of_ble_eq_true rfl) rfl (g_Pr_writeRuleDuties (by omega) (by omega) h) (fun r9 M1 h => ?_)
  obtain ⟨rfl, h⟩ := h
  show Gd d w 129 _ (85, [some (aR 20 k0), o1, some (aI v2), some (aR 16 k3)], [], M1)
  refine gd_s (P := True ∧ True ∧ True) (σ1 := (88, [some (aR 20 k0), o1, some (aI v2), some (aR 16 k3)], [aI ((59 : Int32)), aR 20 k0], M1)) tc_129 rfl 2 (fun u => ⟨_, rfl⟩) ⟨trivial, trivial, trivial⟩ ?_
  refine gd_callN (ml := 2) (as := [aR 20 k0, aI ((59 : Int32))]) (rest := []) tc_129 rfl rfl rfl rfl rfl (by omega) (by omega) (Nat.le_of_ble_eq_true rfl) rfl (g_Pr_endLine (by omega) (by omega) h) (fun r9 M2 h => ?_)
  obtain ⟨rfl, h⟩ := h
  show Gd d w 129 _ (91, [some (aR 20 k0), o1, some (aI v2), some (aR 16 k3)], [], M2)
  exact gd_ret tc_129 rfl rfl trivial (fun _ => rfl) ⟨rfl, h⟩
def w_Pr_writeRule_J52 (post : aM → Prop) (k0 : Nat) (k1 : Nat) (v2 : Int32) (k3 : Nat) (M : aM) : Prop := (vp_in v2 (rK M (k3 + 7)).2) ∧ ((((rI M (k3 + 7) v2.toNatClampNeg) = ((-1 : Int32))) → w_Pr_writeRule_J79 post k0 v2 k3 M) ∧ (¬ ((rI M (k3 + 7) v2.toNatClampNeg) = ((-1 : Int32))) → w_Pr_putBetweenBlanks (fun M1 => (vp_in v2 (rK M1 (k3 + 7)).2) ∧ (∃ D, D ≤ 150 ∧ w_Pr_writeExpression D (fun M2 => w_Pr_writeRule_J79 post k0 v2 k3 M2) k0 k1 (rI M1 (k3 + 7) v2.toNatClampNeg) ((0 : Int32)) M1)) k0 ((5 : Int32)) M))
theorem g_Pr_writeRule_J52 {d w : Nat} (hd : 155 ≤ d) (hw : 4163 ≤ w) {post : aM → Prop} (k0 : Nat) (k1 : Nat) (v2 : Int32) (k3 : Nat) (M : aM) (h : w_Pr_writeRule_J52 post k0 k1 v2 k3 M) : Gd d w 129 (pV post) (52, [some (aR 20 k0), some (aR 13 k1), some (aI v2), some (aR 16 k3)], [], M) := by
  unfold w_Pr_writeRule_J52 at h
  show Gd d w 129 _ (52, [some (aR 20 k0), some (aR 13 k1), some (aI v2), some (aR 16 k3)], [], M)
  obtain ⟨c0, h⟩ := h
  refine gd_s (P := True ∧ True ∧ True ∧ (vp_in v2 (rK M (k3 + 7)).2) ∧ True ∧ True) (σ1 := (59, [some (aR 20 k0), some (aR 13 k1), some (aI v2), some (aR 16 k3)], [aI ((-1 : Int32)), aI (rI M (k3 + 7) v2.toNatClampNeg)], M)) tc_129 rfl 5 (fun u => ⟨_, rfl⟩) ⟨trivial, trivial, trivial, c0, trivial, trivial⟩ ?_
  refine gd_br (c := (rI M (k3 + 7) v2.toNatClampNeg) = ((-1 : Int32))) (st1 := []) tc_129 rfl rfl (fun _ => rfl) ⟨fun hc => ?_, fun hc => ?_⟩
  · have h := h.1 hc
    exact g_Pr_writeRule_J79 hd hw k0 v2 k3 (some (aR 13 k1)) M h
  · have h := h.2 hc
    show Gd d w 129 _ (62, [some (aR 20 k0), some (aR 13 k1), some (aI v2), some (aR 16 k3)], [], M)
    refine gd_s (P := True ∧ True ∧ True) (σ1 := (64, [some (aR 20 k0), some (aR 13 k1), some (aI v2), some (aR 16 k3)], [aI ((5 : Int32)), aR 20 k0], M)) tc_129 rfl 2 (fun u => ⟨_, rfl⟩) ⟨trivial, trivial, trivial⟩ ?_
    refine gd_callN (ml := 2) (as := [aR 20 k0, aI ((5 : Int32))]) (rest := []) tc_129 rfl rfl rfl rfl rfl (by omega) (by omega) (Nat.le_of_ble_eq_true rfl) rfl (g_Pr_putBetweenBlanks (by omega) (by omega) h) (fun r9 M1 h => ?_)
    obtain ⟨rfl, h⟩ := h
    show Gd d w 129 _ (67, [some (aR 20 k0), some (aR 13 k1), some (aI v2), some (aR 16 k3)], [], M1)
    obtain ⟨c0, h⟩ := h
    refine gd_s (P := True ∧ True ∧ True ∧ True ∧ True ∧ (vp_in v2 (rK M1 (k3 + 7)).2) ∧ True ∧ True) (σ1 := (76, [some (aR 20 k0), some (aR 13 k1), some (aI v2), some (aR 16 k3)], [aI ((0 : Int32)), aI (rI M1 (k3 + 7) v2.toNatClampNeg), aR 13 k1, aR 20 k0], M1)) tc_129 rfl 7 (fun u => ⟨_, rfl⟩) ⟨trivial, trivial, trivial, trivial, trivial, c0, trivial, trivial⟩ ?_
    obtain ⟨D9, hD9, h⟩ := h
    refine gd_callN (ml := 5) (as := [aR 20 k0, aR 13 k1, aI (rI M1 (k3 + 7) v2.toNatClampNeg), aI ((0 : Int32))]) (rest := []) tc_129 rfl rfl rfl rfl rfl (by omega) (by omega) (Nat.le_of_ble_eq_true rfl) rfl (g_Pr_writeExpression (D := D9) (by omega) (by omega) h) (fun r9 M2 h => ?_)
    obtain ⟨rfl, h⟩ := h
    exact g_Pr_writeRule_J79 hd hw k0 v2 k3 (some (aR 13 k1)) M2 h
def w_Pr_writeRule_J22 (post : aM → Prop) (k0 : Nat) (k1 : Nat) (v2 : Int32) (k3 : Nat) (t0 : Nat) (s1 : Int32) (M : aM) : Prop := w_Pr_putToken (fun M1 => (vp_in v2 (rK M1 ((k3 + 1) + 1)).2) ∧ ((((rI M1 ((k3 + 1) + 1) v2.toNatClampNeg) ≤ ((0 : Int32))) → w_Pr_writeRule_J52 post k0 k1 v2 k3 M1) ∧ (¬ ((rI M1 ((k3 + 1) + 1) v2.toNatClampNeg) ≤ ((0 : Int32))) → w_Pr_put (fun M2 => w_Pr_putName (fun M3 => w_Pr_writeRule_J52 post k0 k1 v2 k3 M3) k0 (k3 + 1) v2 M2) k0 ((32 : Int32)) M1))) t0 s1 M
theorem g_Pr_writeRule_J22 {d w : Nat} (hd : 155 ≤ d) (hw : 4163 ≤ w) {post : aM → Prop} (k0 : Nat) (k1 : Nat) (v2 : Int32) (k3 : Nat) (t0 : Nat) (s1 : Int32) (M : aM) (h : w_Pr_writeRule_J22 post k0 k1 v2 k3 t0 s1 M) : Gd d w 129 (pV post) (22, [some (aR 20 k0), some (aR 13 k1), some (aI v2), some (aR 16 k3)], [aI s1, aR 20 t0], M) := by
  unfold w_Pr_writeRule_J22 at h
  show Gd d w 129 _ (22, [some (aR 20 k0), some (aR 13 k1), some (aI v2), some (aR 16 k3)], [aI s1, aR 20 t0], M)
  refine gd_callN (ml := 2) (as := [aR 20 t0, aI s1]) (rest := []) tc_129 rfl rfl rfl rfl rfl (by omega) (by omega) (Nat.le_of_ble_eq_true rfl) rfl (g_Pr_putToken (by omega) (by omega) h) (fun r9 M1 h => ?_)
  obtain ⟨rfl, h⟩ := h
  show Gd d w 129 _ (25, [some (aR 20 k0), some (aR 13 k1), some (aI v2), some (aR 16 k3)], [], M1)
  obtain ⟨c0, h⟩ := h
  refine gd_s (P := True ∧ True ∧ True ∧ True ∧ (vp_in v2 (rK M1 ((k3 + 1) + 1)).2) ∧ True) (σ1 := (34, [some (aR 20 k0), some (aR 13 k1), some (aI v2), some (aR 16 k3)], [aI (rI M1 ((k3 + 1) + 1) v2.toNatClampNeg)], M1)) tc_129 rfl 5 (fun u => ⟨_, rfl⟩) ⟨trivial, trivial, trivial, trivial, c0, trivial⟩ ?_
  refine gd_br (c := (rI M1 ((k3 + 1) + 1) v2.toNatClampNeg) ≤ ((0 : Int32))) (st1 := []) tc_129 rfl rfl (fun _ => rfl) ⟨fun hc => ?_, fun hc => ?_⟩
  · have h := h.1 hc
    exact g_Pr_writeRule_J52 hd hw k0 k1 v2 k3 M1 h
  · have h := h.2 hc
    show Gd d w 129 _ (37, [some (aR 20 k0), some (aR 13 k1), some (aI v2), some (aR 16 k3)], [], M1)
    refine gd_s (P := True ∧ True ∧ True) (σ1 := (40, [some (aR 20 k0), some (aR 13 k1), some (aI v2), some (aR 16 k3)], [aI ((32 : Int32)), aR 20 k0], M1)) tc_129 rfl 2 (fun u => ⟨_, rfl⟩) ⟨trivial, trivial, trivial⟩ ?_
    refine gd_callN (ml := 2) (as := [aR 20 k0, aI ((32 : Int32))]) (rest := []) tc_129 rfl rfl rfl rfl rfl (by omega) (by omega) (Nat.le_of_ble_eq_true rfl) rfl (g_Pr_put (by omega) (by omega) h) (fun r9 M2 h => ?_)
    obtain ⟨rfl, h⟩ := h
    show Gd d w 129 _ (43, [some (aR 20 k0), some (aR 13 k1), some (aI v2), some (aR 16 k3)], [], M2)
    refine gd_s (P := True ∧ True ∧ True ∧ True ∧ True) (σ1 := (49, [some (aR 20 k0), some (aR 13 k1), some (aI v2), some (aR 16 k3)], [aI v2, aR 15 (k3 + 1), aR 20 k0], M2)) tc_129 rfl 4 (fun u => ⟨_, rfl⟩) ⟨trivial, trivial, trivial, trivial, trivial⟩ ?_
    refine gd_callN (ml := 4) (as := [aR 20 k0, aR 15 (k3 + 1), aI v2]) (rest := []) tc_129 rfl rfl rfl rfl rfl (by omega) (by omega) (Nat.le_of_ble_eq_true rfl) rfl (g_Pr_putName (by omega) (by omega) h) (fun r9 M3 h => ?_)
    obtain ⟨rfl, h⟩ := h
    exact g_Pr_writeRule_J52 hd hw k0 k1 v2 k3 M3 h
/-- PolicyJudge$Printer.writeRule(LPolicyJudge$Text;I)V -/
def w_Pr_writeRule (post : aM → Prop) (k0 : Nat) (k1 : Nat) (v2 : Int32) (M : aM) : Prop := (vp_in v2 (rK M ((k1 + 9) + 4)).2) ∧ (((¬ (rI M ((k1 + 9) + 4) v2.toNatClampNeg) = ((0 : Int32))) → w_Pr_writeRule_J22 post k0 k1 v2 (k1 + 9) k0 ((7 : Int32)) M) ∧ (¬ (¬ (rI M ((k1 + 9) + 4) v2.toNatClampNeg) = ((0 : Int32))) → w_Pr_writeRule_J22 post k0 k1 v2 (k1 + 9) k0 ((6 : Int32)) M))
theorem g_Pr_writeRule {d w : Nat} (hd : 155 ≤ d) (hw : 4163 ≤ w) {post : aM → Prop} {k0 : Nat} {k1 : Nat} {v2 : Int32} {M : aM} (h : w_Pr_writeRule post k0 k1 v2 M) : Gd d w 129 (pV post) (0, aEnt 129 [aR 20 k0, aR 13 k1, aI v2], [], M) := by
  unfold w_Pr_writeRule at h
  show Gd d w 129 _ (0, [some (aR 20 k0), some (aR 13 k1), some (aI v2), none], [], M)
  obtain ⟨c0, h⟩ := h
  refine gd_s (P := True ∧ True ∧ True ∧ True ∧ True ∧ True ∧ True ∧ (vp_in v2 (rK M ((k1 + 9) + 4)).2) ∧ True) (σ1 := (12, [some (aR 20 k0), some (aR 13 k1), some (aI v2), some (aR 16 (k1 + 9))], [aI (rI M ((k1 + 9) + 4) v2.toNatClampNeg), aR 20 k0], M)) tc_129 rfl 8 (fun u => ⟨_, rfl⟩) ⟨trivial, trivial, trivial, trivial, trivial, trivial, trivial, c0, trivial⟩ ?_
  refine gd_br (c := ¬ (rI M ((k1 + 9) + 4) v2.toNatClampNeg) = ((0 : Int32))) (st1 := [aR 20 k0]) tc_129 rfl rfl (fun _ => rfl) ⟨fun hc => ?_, fun hc => ?_⟩
  · have h := h.1 hc
    show Gd d w 129 _ (20, [some (aR 20 k0), some (aR 13 k1), some (aI v2), some (aR 16 (k1 + 9))], [aR 20 k0], M)
    refine gd_s (P := True ∧ True) (σ1 := (22, [some (aR 20 k0), some (aR 13 k1), some (aI v2), some (aR 16 (k1 + 9))], [aI ((7 : Int32)), aR 20 k0], M)) tc_129 rfl 1 (fun u => ⟨_, rfl⟩) ⟨trivial, trivial⟩ ?_
    exact g_Pr_writeRule_J22 hd hw k0 k1 v2 (k1 + 9) k0 ((7 : Int32)) M h
  · have h := h.2 hc
    show Gd d w 129 _ (15, [some (aR 20 k0), some (aR 13 k1), some (aI v2), some (aR 16 (k1 + 9))], [aR 20 k0], M)
    refine gd_s (P := True ∧ True ∧ True) (σ1 := (22, [some (aR 20 k0), some (aR 13 k1), some (aI v2), some (aR 16 (k1 + 9))], [aI ((6 : Int32)), aR 20 k0], M)) tc_129 rfl 2 (fun u => ⟨_, rfl⟩) ⟨trivial, trivial, trivial⟩ ?_
    exact g_Pr_writeRule_J22 hd hw k0 k1 v2 (k1 + 9) k0 ((6 : Int32)) M h
theorem tc_112 : tC 112 = c112 := rfl
def w_Pr_write_L45 (post : aM → Prop) : Nat → Nat → Nat → Int32 → aM → Prop
  | 0, _, _, _, _ => False
  | n + 1, k0, k1, v2, M => (((rI M (k1 + 9) 0) ≤ v2) → w_Pr_closeSets (fun M1 => post M1) k0 (k1 + 9) ((-1 : Int32)) M) ∧ (¬ ((rI M (k1 + 9) 0) ≤ v2) → (vp_in v2 (rK M ((k1 + 9) + 6)).2) ∧ (w_Pr_closeSets (fun M2 => w_Pr_indent (fun M3 => (vp_in v2 (rK M3 ((k1 + 9) + 4)).2) ∧ (((¬ (rI M3 ((k1 + 9) + 4) v2.toNatClampNeg) = ((2 : Int32))) → w_Pr_writeRule (fun M4 => w_Pr_write_L45 post n k0 k1 (v2 + (1 : Int32)) M4) k0 k1 v2 M3) ∧ (¬ (¬ (rI M3 ((k1 + 9) + 4) v2.toNatClampNeg) = ((2 : Int32))) → w_Pr_writeSetHead (fun M5 => w_Pr_write_L45 post n k0 k1 (v2 + (1 : Int32)) M5) k0 k1 v2 M3))) k0 M2) k0 (k1 + 9) (rI M ((k1 + 9) + 6) v2.toNatClampNeg) M))
theorem g_Pr_write_L45 {d w : Nat} (hd : 156 ≤ d) (hw : 4187 ≤ w) {post : aM → Prop} : ∀ (n : Nat) (k0 : Nat) (k1 : Nat) (v2 : Int32) (M : aM), w_Pr_write_L45 post n k0 k1 v2 M → Gd d w 112 (pV post) (45, [some (aR 20 k0), some (aR 13 k1), some (aI v2)], [], M) := by
  intro n
  induction n with
  | zero => intro k0 k1 v2 M h; exact h.elim
  | succ n ih =>
    intro k0 k1 v2 M h
    show Gd d w 112 _ (45, [some (aR 20 k0), some (aR 13 k1), some (aI v2)], [], M)
    refine gd_s (P := True ∧ True ∧ True ∧ True ∧ True) (σ1 := (53, [some (aR 20 k0), some (aR 13 k1), some (aI v2)], [aI (rI M (k1 + 9) 0), aI v2], M)) tc_112 rfl 4 (fun u => ⟨_, rfl⟩) ⟨trivial, trivial, trivial, trivial, trivial⟩ ?_
    refine gd_br (c := (rI M (k1 + 9) 0) ≤ v2) (st1 := []) tc_112 rfl rfl (fun _ => rfl) ⟨fun hc => ?_, fun hc => ?_⟩
    · have h := h.1 hc
      show Gd d w 112 _ (111, [some (aR 20 k0), some (aR 13 k1), some (aI v2)], [], M)
      refine gd_s (P := True ∧ True ∧ True ∧ True ∧ True) (σ1 := (117, [some (aR 20 k0), some (aR 13 k1), some (aI v2)], [aI ((-1 : Int32)), aR 16 (k1 + 9), aR 20 k0], M)) tc_112 rfl 4 (fun u => ⟨_, rfl⟩) ⟨trivial, trivial, trivial, trivial, trivial⟩ ?_
      refine gd_callN (ml := 4) (as := [aR 20 k0, aR 16 (k1 + 9), aI ((-1 : Int32))]) (rest := []) tc_112 rfl rfl rfl rfl rfl (by omega) (by omega) (Nat.le_of_ble_eq_true rfl) rfl (g_Pr_closeSets (by omega) (by omega) h) (fun r9 M1 h => ?_)
      obtain ⟨rfl, h⟩ := h
      show Gd d w 112 _ (120, [some (aR 20 k0), some (aR 13 k1), some (aI v2)], [], M1)
      exact gd_ret tc_112 rfl rfl trivial (fun _ => rfl) ⟨rfl, h⟩
    · have h := h.2 hc
      show Gd d w 112 _ (56, [some (aR 20 k0), some (aR 13 k1), some (aI v2)], [], M)
      obtain ⟨c0, h⟩ := h
      refine gd_s (P := True ∧ True ∧ True ∧ True ∧ True ∧ True ∧ True ∧ (vp_in v2 (rK M ((k1 + 9) + 6)).2) ∧ True) (σ1 := (70, [some (aR 20 k0), some (aR 13 k1), some (aI v2)], [aI (rI M ((k1 + 9) + 6) v2.toNatClampNeg), aR 16 (k1 + 9), aR 20 k0], M)) tc_112 rfl 8 (fun u => ⟨_, rfl⟩) ⟨trivial, trivial, trivial, trivial, trivial, trivial, trivial, c0, trivial⟩ ?_
      refine gd_callN (ml := 4) (as := [aR 20 k0, aR 16 (k1 + 9), aI (rI M ((k1 + 9) + 6) v2.toNatClampNeg)]) (rest := []) tc_112 rfl rfl rfl rfl rfl (by omega) (by omega) (Nat.le_of_ble_eq_true rfl) rfl (g_Pr_closeSets (by omega) (by omega) h) (fun r9 M2 h => ?_)
      obtain ⟨rfl, h⟩ := h
      show Gd d w 112 _ (73, [some (aR 20 k0), some (aR 13 k1), some (aI v2)], [], M2)
      refine gd_s (P := True ∧ True) (σ1 := (74, [some (aR 20 k0), some (aR 13 k1), some (aI v2)], [aR 20 k0], M2)) tc_112 rfl 1 (fun u => ⟨_, rfl⟩) ⟨trivial, trivial⟩ ?_
      refine gd_callN (ml := 2) (as := [aR 20 k0]) (rest := []) tc_112 rfl rfl rfl rfl rfl (by omega) (by omega) (Nat.le_of_ble_eq_true rfl) rfl (g_Pr_indent (by omega) (by omega) h) (fun r9 M3 h => ?_)
      obtain ⟨rfl, h⟩ := h
      show Gd d w 112 _ (77, [some (aR 20 k0), some (aR 13 k1), some (aI v2)], [], M3)
      obtain ⟨c0, h⟩ := h
      refine gd_s (P := True ∧ True ∧ True ∧ True ∧ (vp_in v2 (rK M3 ((k1 + 9) + 4)).2) ∧ True ∧ True) (σ1 := (87, [some (aR 20 k0), some (aR 13 k1), some (aI v2)], [aI ((2 : Int32)), aI (rI M3 ((k1 + 9) + 4) v2.toNatClampNeg)], M3)) tc_112 rfl 6 (fun u => ⟨_, rfl⟩) ⟨trivial, trivial, trivial, trivial, c0, trivial, trivial⟩ ?_
      refine gd_br (c := ¬ (rI M3 ((k1 + 9) + 4) v2.toNatClampNeg) = ((2 : Int32))) (st1 := []) tc_112 rfl rfl (fun _ => rfl) ⟨fun hc => ?_, fun hc => ?_⟩
      · have h := h.1 hc
        show Gd d w 112 _ (99, [some (aR 20 k0), some (aR 13 k1), some (aI v2)], [], M3)
        refine gd_s (P := True ∧ True ∧ True ∧ True) (σ1 := (102, [some (aR 20 k0), some (aR 13 k1), some (aI v2)], [aI v2, aR 13 k1, aR 20 k0], M3)) tc_112 rfl 3 (fun u => ⟨_, rfl⟩) ⟨trivial, trivial, trivial, trivial⟩ ?_
        refine gd_callN (ml := 4) (as := [aR 20 k0, aR 13 k1, aI v2]) (rest := []) tc_112 rfl rfl rfl rfl rfl (by omega) (by omega) (Nat.le_of_ble_eq_true rfl) rfl (g_Pr_writeRule (by omega) (by omega) h) (fun r9 M4 h => ?_)
        obtain ⟨rfl, h⟩ := h
        show Gd d w 112 _ (105, [some (aR 20 k0), some (aR 13 k1), some (aI v2)], [], M4)
        refine gd_s (P := True ∧ True ∧ True) (σ1 := (45, [some (aR 20 k0), some (aR 13 k1), some (aI (v2 + (1 : Int32)))], [], M4)) tc_112 rfl 2 (fun u => ⟨_, rfl⟩) ⟨trivial, trivial, trivial⟩ ?_
        exact ih k0 k1 (v2 + (1 : Int32)) M4 h
      · have h := h.2 hc
        show Gd d w 112 _ (90, [some (aR 20 k0), some (aR 13 k1), some (aI v2)], [], M3)
        refine gd_s (P := True ∧ True ∧ True ∧ True) (σ1 := (93, [some (aR 20 k0), some (aR 13 k1), some (aI v2)], [aI v2, aR 13 k1, aR 20 k0], M3)) tc_112 rfl 3 (fun u => ⟨_, rfl⟩) ⟨trivial, trivial, trivial, trivial⟩ ?_
        refine gd_callN (ml := 5) (as := [aR 20 k0, aR 13 k1, aI v2]) (rest := []) tc_112 rfl rfl rfl rfl rfl (by omega) (by omega) (Nat.le_of_ble_eq_true rfl) rfl (g_Pr_writeSetHead (by omega) (by omega) h) (fun r9 M5 h => ?_)
        obtain ⟨rfl, h⟩ := h
        show Gd d w 112 _ (96, [some (aR 20 k0), some (aR 13 k1), some (aI v2)], [], M5)
        refine gd_s (P := True ∧ True ∧ True ∧ True) (σ1 := (45, [some (aR 20 k0), some (aR 13 k1), some (aI (v2 + (1 : Int32)))], [], M5)) tc_112 rfl 3 (fun u => ⟨_, rfl⟩) ⟨trivial, trivial, trivial, trivial⟩ ?_
        exact ih k0 k1 (v2 + (1 : Int32)) M5 h
def w_Pr_write_L17 (post : aM → Prop) : Nat → Nat → Nat → Int32 → aM → Prop
  | 0, _, _, _, _ => False
  | n + 1, k0, k1, v2, M => (((rI M (k1 + 1) 0) ≤ v2) → ∃ n9, w_Pr_write_L45 post n9 k0 k1 ((0 : Int32)) M) ∧ (¬ ((rI M (k1 + 1) 0) ≤ v2) → w_Pr_writeAttribute (fun M1 => w_Pr_write_L17 post n k0 k1 (v2 + (1 : Int32)) M1) k0 (k1 + 1) v2 M)
theorem g_Pr_write_L17 {d w : Nat} (hd : 156 ≤ d) (hw : 4187 ≤ w) {post : aM → Prop} : ∀ (n : Nat) (k0 : Nat) (k1 : Nat) (v2 : Int32) (M : aM), w_Pr_write_L17 post n k0 k1 v2 M → Gd d w 112 (pV post) (17, [some (aR 20 k0), some (aR 13 k1), some (aI v2)], [], M) := by
  intro n
  induction n with
  | zero => intro k0 k1 v2 M h; exact h.elim
  | succ n ih =>
    intro k0 k1 v2 M h
    show Gd d w 112 _ (17, [some (aR 20 k0), some (aR 13 k1), some (aI v2)], [], M)
    refine gd_s (P := True ∧ True ∧ True ∧ True ∧ True) (σ1 := (25, [some (aR 20 k0), some (aR 13 k1), some (aI v2)], [aI (rI M (k1 + 1) 0), aI v2], M)) tc_112 rfl 4 (fun u => ⟨_, rfl⟩) ⟨trivial, trivial, trivial, trivial, trivial⟩ ?_
    refine gd_br (c := (rI M (k1 + 1) 0) ≤ v2) (st1 := []) tc_112 rfl rfl (fun _ => rfl) ⟨fun hc => ?_, fun hc => ?_⟩
    · have h := h.1 hc
      show Gd d w 112 _ (43, [some (aR 20 k0), some (aR 13 k1), some (aI v2)], [], M)
      refine gd_s (P := True ∧ True ∧ True) (σ1 := (45, [some (aR 20 k0), some (aR 13 k1), some (aI ((0 : Int32)))], [], M)) tc_112 rfl 2 (fun u => ⟨_, rfl⟩) ⟨trivial, trivial, trivial⟩ ?_
      obtain ⟨n9, h⟩ := h
      exact g_Pr_write_L45 hd hw n9 k0 k1 ((0 : Int32)) M h
    · have h := h.2 hc
      show Gd d w 112 _ (28, [some (aR 20 k0), some (aR 13 k1), some (aI v2)], [], M)
      refine gd_s (P := True ∧ True ∧ True ∧ True ∧ True) (σ1 := (34, [some (aR 20 k0), some (aR 13 k1), some (aI v2)], [aI v2, aR 14 (k1 + 1), aR 20 k0], M)) tc_112 rfl 4 (fun u => ⟨_, rfl⟩) ⟨trivial, trivial, trivial, trivial, trivial⟩ ?_
      refine gd_callN (ml := 3) (as := [aR 20 k0, aR 14 (k1 + 1), aI v2]) (rest := []) tc_112 rfl rfl rfl rfl rfl (by omega) (by omega) (Nat.le_of_ble_eq_true rfl) rfl (g_Pr_writeAttribute (by omega) (by omega) h) (fun r9 M1 h => ?_)
      obtain ⟨rfl, h⟩ := h
      show Gd d w 112 _ (37, [some (aR 20 k0), some (aR 13 k1), some (aI v2)], [], M1)
      refine gd_s (P := True ∧ True ∧ True) (σ1 := (17, [some (aR 20 k0), some (aR 13 k1), some (aI (v2 + (1 : Int32)))], [], M1)) tc_112 rfl 2 (fun u => ⟨_, rfl⟩) ⟨trivial, trivial, trivial⟩ ?_
      exact ih k0 k1 (v2 + (1 : Int32)) M1 h
def w_Pr_write_J15 (post : aM → Prop) (k0 : Nat) (k1 : Nat) (M : aM) : Prop := ∃ n9, w_Pr_write_L17 post n9 k0 k1 ((0 : Int32)) M
theorem g_Pr_write_J15 {d w : Nat} (hd : 156 ≤ d) (hw : 4187 ≤ w) {post : aM → Prop} (k0 : Nat) (k1 : Nat) (o2 : Option aV) (M : aM) (h : w_Pr_write_J15 post k0 k1 M) : Gd d w 112 (pV post) (15, [some (aR 20 k0), some (aR 13 k1), o2], [], M) := by
  unfold w_Pr_write_J15 at h
  show Gd d w 112 _ (15, [some (aR 20 k0), some (aR 13 k1), o2], [], M)
  refine gd_s (P := True ∧ True ∧ True) (σ1 := (17, [some (aR 20 k0), some (aR 13 k1), some (aI ((0 : Int32)))], [], M)) tc_112 rfl 2 (fun u => ⟨_, rfl⟩) ⟨trivial, trivial, trivial⟩ ?_
  obtain ⟨n9, h⟩ := h
  exact g_Pr_write_L17 hd hw n9 k0 k1 ((0 : Int32)) M h
def w_Pr_write_J10 (post : aM → Prop) (k0 : Nat) (k1 : Nat) (M : aM) : Prop := w_Pr_write_J15 post k0 k1 (wI M k0 4 ((0 : Int32)))
theorem g_Pr_write_J10 {d w : Nat} (hd : 156 ≤ d) (hw : 4187 ≤ w) {post : aM → Prop} (k0 : Nat) (k1 : Nat) (o2 : Option aV) (M : aM) (h : w_Pr_write_J10 post k0 k1 M) : Gd d w 112 (pV post) (10, [some (aR 20 k0), some (aR 13 k1), o2], [], M) := by
  unfold w_Pr_write_J10 at h
  show Gd d w 112 _ (10, [some (aR 20 k0), some (aR 13 k1), o2], [], M)
  refine gd_s (P := True ∧ True ∧ True ∧ True) (σ1 := (15, [some (aR 20 k0), some (aR 13 k1), o2], [], wI M k0 4 ((0 : Int32)))) tc_112 rfl 3 (fun u => ⟨_, rfl⟩) ⟨trivial, trivial, trivial, trivial⟩ ?_
  exact g_Pr_write_J15 hd hw k0 k1 o2 (wI M k0 4 ((0 : Int32))) h
def w_Pr_write_J5 (post : aM → Prop) (k0 : Nat) (k1 : Nat) (M : aM) : Prop := w_Pr_write_J10 post k0 k1 (wI M k0 3 ((-1 : Int32)))
theorem g_Pr_write_J5 {d w : Nat} (hd : 156 ≤ d) (hw : 4187 ≤ w) {post : aM → Prop} (k0 : Nat) (k1 : Nat) (o2 : Option aV) (M : aM) (h : w_Pr_write_J5 post k0 k1 M) : Gd d w 112 (pV post) (5, [some (aR 20 k0), some (aR 13 k1), o2], [], M) := by
  unfold w_Pr_write_J5 at h
  show Gd d w 112 _ (5, [some (aR 20 k0), some (aR 13 k1), o2], [], M)
  refine gd_s (P := True ∧ True ∧ True ∧ True) (σ1 := (10, [some (aR 20 k0), some (aR 13 k1), o2], [], wI M k0 3 ((-1 : Int32)))) tc_112 rfl 3 (fun u => ⟨_, rfl⟩) ⟨trivial, trivial, trivial, trivial⟩ ?_
  exact g_Pr_write_J10 hd hw k0 k1 o2 (wI M k0 3 ((-1 : Int32))) h
/-- PolicyJudge$Printer.write(LPolicyJudge$Text;)V -/
def w_Pr_write (post : aM → Prop) (k0 : Nat) (k1 : Nat) (M : aM) : Prop := w_Pr_write_J5 post k0 k1 (wI M k0 1 ((0 : Int32)))
theorem g_Pr_write {d w : Nat} (hd : 156 ≤ d) (hw : 4187 ≤ w) {post : aM → Prop} {k0 : Nat} {k1 : Nat} {M : aM} (h : w_Pr_write post k0 k1 M) : Gd d w 112 (pV post) (0, aEnt 112 [aR 20 k0, aR 13 k1], [], M) := by
  unfold w_Pr_write at h
  show Gd d w 112 _ (0, [some (aR 20 k0), some (aR 13 k1), none], [], M)
  refine gd_s (P := True ∧ True ∧ True ∧ True) (σ1 := (5, [some (aR 20 k0), some (aR 13 k1), none], [], wI M k0 1 ((0 : Int32)))) tc_112 rfl 3 (fun u => ⟨_, rfl⟩) ⟨trivial, trivial, trivial, trivial⟩ ?_
  exact g_Pr_write_J5 hd hw k0 k1 none (wI M k0 1 ((0 : Int32))) h
theorem tc_69 : tC 69 = c69 := rfl
/-- PolicyJudge$Tape.replace([II)V -/
def w_Tp_replace (post : aM → Prop) (k0 : Nat) (k1 : Nat) (v2 : Int32) (M : aM) : Prop := (¬ ((0 : Int32)) < 0 ∧ ¬ ((0 : Int32)) < 0 ∧ ¬ (rI (wI M k0 1 (if ((0 : Int32)) < (if (if (Int32.ofNat (rK M k1).2) < ((6000 : Int32)) then (Int32.ofNat (rK M k1).2) else ((6000 : Int32))) < v2 then (if (Int32.ofNat (rK M k1).2) < ((6000 : Int32)) then (Int32.ofNat (rK M k1).2) else ((6000 : Int32))) else v2) then (if (if (Int32.ofNat (rK M k1).2) < ((6000 : Int32)) then (Int32.ofNat (rK M k1).2) else ((6000 : Int32))) < v2 then (if (Int32.ofNat (rK M k1).2) < ((6000 : Int32)) then (Int32.ofNat (rK M k1).2) else ((6000 : Int32))) else v2) else ((0 : Int32)))) k0 1) < 0 ∧ ((0 : Int32)).toNatClampNeg + (rI (wI M k0 1 (if ((0 : Int32)) < (if (if (Int32.ofNat (rK M k1).2) < ((6000 : Int32)) then (Int32.ofNat (rK M k1).2) else ((6000 : Int32))) < v2 then (if (Int32.ofNat (rK M k1).2) < ((6000 : Int32)) then (Int32.ofNat (rK M k1).2) else ((6000 : Int32))) else v2) then (if (if (Int32.ofNat (rK M k1).2) < ((6000 : Int32)) then (Int32.ofNat (rK M k1).2) else ((6000 : Int32))) < v2 then (if (Int32.ofNat (rK M k1).2) < ((6000 : Int32)) then (Int32.ofNat (rK M k1).2) else ((6000 : Int32))) else v2) else ((0 : Int32)))) k0 1).toNatClampNeg ≤ (rK M k1).2 ∧ ((0 : Int32)).toNatClampNeg + (rI (wI M k0 1 (if ((0 : Int32)) < (if (if (Int32.ofNat (rK M k1).2) < ((6000 : Int32)) then (Int32.ofNat (rK M k1).2) else ((6000 : Int32))) < v2 then (if (Int32.ofNat (rK M k1).2) < ((6000 : Int32)) then (Int32.ofNat (rK M k1).2) else ((6000 : Int32))) else v2) then (if (if (Int32.ofNat (rK M k1).2) < ((6000 : Int32)) then (Int32.ofNat (rK M k1).2) else ((6000 : Int32))) < v2 then (if (Int32.ofNat (rK M k1).2) < ((6000 : Int32)) then (Int32.ofNat (rK M k1).2) else ((6000 : Int32))) else v2) else ((0 : Int32)))) k0 1).toNatClampNeg ≤ (rK M (k0 + 1)).2) ∧ post (aCpy (wI M k0 1 (if ((0 : Int32)) < (if (if (Int32.ofNat (rK M k1).2) < ((6000 : Int32)) then (Int32.ofNat (rK M k1).2) else ((6000 : Int32))) < v2 then (if (Int32.ofNat (rK M k1).2) < ((6000 : Int32)) then (Int32.ofNat (rK M k1).2) else ((6000 : Int32))) else v2) then (if (if (Int32.ofNat (rK M k1).2) < ((6000 : Int32)) then (Int32.ofNat (rK M k1).2) else ((6000 : Int32))) < v2 then (if (Int32.ofNat (rK M k1).2) < ((6000 : Int32)) then (Int32.ofNat (rK M k1).2) else ((6000 : Int32))) else v2) else ((0 : Int32)))) k1 (k0 + 1) ((0 : Int32)).toNatClampNeg ((0 : Int32)).toNatClampNeg (rI (wI M k0 1 (if ((0 : Int32)) < (if (if (Int32.ofNat (rK M k1).2) < ((6000 : Int32)) then (Int32.ofNat (rK M k1).2) else ((6000 : Int32))) < v2 then (if (Int32.ofNat (rK M k1).2) < ((6000 : Int32)) then (Int32.ofNat (rK M k1).2) else ((6000 : Int32))) else v2) then (if (if (Int32.ofNat (rK M k1).2) < ((6000 : Int32)) then (Int32.ofNat (rK M k1).2) else ((6000 : Int32))) < v2 then (if (Int32.ofNat (rK M k1).2) < ((6000 : Int32)) then (Int32.ofNat (rK M k1).2) else ((6000 : Int32))) else v2) else ((0 : Int32)))) k0 1).toNatClampNeg)
theorem g_Tp_replace {d w : Nat} (hd : 6 ≤ d) (hw : 200 ≤ w) {post : aM → Prop} {k0 : Nat} {k1 : Nat} {v2 : Int32} {M : aM} (h : w_Tp_replace post k0 k1 v2 M) : Gd d w 69 (pV post) (0, aEnt 69 [aR 12 k0, aR 4 k1, aI v2], [], M) := by
  unfold w_Tp_replace at h
  show Gd d w 69 _ (0, [some (aR 12 k0), some (aR 4 k1), some (aI v2)], [], M)
  refine gd_s (P := True ∧ True ∧ True ∧ True ∧ True ∧ True ∧ True) (σ1 := (8, [some (aR 12 k0), some (aR 4 k1), some (aI v2)], [aI (Int32.ofNat (rK M k1).2), aI ((6000 : Int32)), aI v2, aI ((0 : Int32)), aR 12 k0], M)) tc_69 rfl 6 (fun u => ⟨_, rfl⟩) ⟨trivial, trivial, trivial, trivial, trivial, trivial, trivial⟩ ?_
  refine gd_prim (P := True) (σ1 := (11, [some (aR 12 k0), some (aR 4 k1), some (aI v2)], [aI (if (Int32.ofNat (rK M k1).2) < ((6000 : Int32)) then (Int32.ofNat (rK M k1).2) else ((6000 : Int32))), aI v2, aI ((0 : Int32)), aR 12 k0], M)) tc_69 rfl rfl rfl rfl trivial (by omega) (by omega) (Nat.le_of_ble_eq_true rfl) ?_
  show Gd d w 69 _ (11, [some (aR 12 k0), some (aR 4 k1), some (aI v2)], [aI (if (Int32.ofNat (rK M k1).2) < ((6000 : Int32)) then (Int32.ofNat (rK M k1).2) else ((6000 : Int32))), aI v2, aI ((0 : Int32)), aR 12 k0], M)
  refine gd_prim (P := True) (σ1 := (14, [some (aR 12 k0), some (aR 4 k1), some (aI v2)], [aI (if (if (Int32.ofNat (rK M k1).2) < ((6000 : Int32)) then (Int32.ofNat (rK M k1).2) else ((6000 : Int32))) < v2 then (if (Int32.ofNat (rK M k1).2) < ((6000 : Int32)) then (Int32.ofNat (rK M k1).2) else ((6000 : Int32))) else v2), aI ((0 : Int32)), aR 12 k0], M)) tc_69 rfl rfl rfl rfl trivial (by omega) (by omega) (Nat.le_of_ble_eq_true rfl) ?_
  show Gd d w 69 _ (14, [some (aR 12 k0), some (aR 4 k1), some (aI v2)], [aI (if (if (Int32.ofNat (rK M k1).2) < ((6000 : Int32)) then (Int32.ofNat (rK M k1).2) else ((6000 : Int32))) < v2 then (if (Int32.ofNat (rK M k1).2) < ((6000 : Int32)) then (Int32.ofNat (rK M k1).2) else ((6000 : Int32))) else v2), aI ((0 : Int32)), aR 12 k0], M)
  refine gd_prim (P := True) (σ1 := (17, [some (aR 12 k0), some (aR 4 k1), some (aI v2)], [aI (if ((0 : Int32)) < (if (if (Int32.ofNat (rK M k1).2) < ((6000 : Int32)) then (Int32.ofNat (rK M k1).2) else ((6000 : Int32))) < v2 then (if (Int32.ofNat (rK M k1).2) < ((6000 : Int32)) then (Int32.ofNat (rK M k1).2) else ((6000 : Int32))) else v2) then (if (if (Int32.ofNat (rK M k1).2) < ((6000 : Int32)) then (Int32.ofNat (rK M k1).2) else ((6000 : Int32))) < v2 then (if (Int32.ofNat (rK M k1).2) < ((6000 : Int32)) then (Int32.ofNat (rK M k1).2) else ((6000 : Int32))) else v2) else ((0 : Int32))), aR 12 k0], M)) tc_69 rfl rfl rfl rfl trivial (by omega) (by omega) (Nat.le_of_ble_eq_true rfl) ?_
  show Gd d w 69 _ (17, [some (aR 12 k0), some (aR 4 k1), some (aI v2)], [aI (if ((0 : Int32)) < (if (if (Int32.ofNat (rK M k1).2) < ((6000 : Int32)) then (Int32.ofNat (rK M k1).2) else ((6000 : Int32))) < v2 then (if (Int32.ofNat (rK M k1).2) < ((6000 : Int32)) then (Int32.ofNat (rK M k1).2) else ((6000 : Int32))) else v2) then (if (if (Int32.ofNat (rK M k1).2) < ((6000 : Int32)) then (Int32.ofNat (rK M k1).2) else ((6000 : Int32))) < v2 then (if (Int32.ofNat (rK M k1).2) < ((6000 : Int32)) then (Int32.ofNat (rK M k1).2) else ((6000 : Int32))) else v2) else ((0 : Int32))), aR 12 k0], M)
  refine gd_s (P := True ∧ True ∧ True ∧ True ∧ True ∧ True ∧ True ∧ True ∧ True) (σ1 := (31, [some (aR 12 k0), some (aR 4 k1), some (aI v2)], [aI (rI (wI M k0 1 (if ((0 : Int32)) < (if (if (Int32.ofNat (rK M k1).2) < ((6000 : Int32)) then (Int32.ofNat (rK M k1).2) else ((6000 : Int32))) < v2 then (if (Int32.ofNat (rK M k1).2) < ((6000 : Int32)) then (Int32.ofNat (rK M k1).2) else ((6000 : Int32))) else v2) then (if (if (Int32.ofNat (rK M k1).2) < ((6000 : Int32)) then (Int32.ofNat (rK M k1).2) else ((6000 : Int32))) < v2 then (if (Int32.ofNat (rK M k1).2) < ((6000 : Int32)) then (Int32.ofNat (rK M k1).2) else ((6000 : Int32))) else v2) else ((0 : Int32)))) k0 1), aI ((0 : Int32)), aR 4 (k0 + 1), aI ((0 : Int32)), aR 4 k1], wI M k0 1 (if ((0 : Int32)) < (if (if (Int32.ofNat (rK M k1).2) < ((6000 : Int32)) then (Int32.ofNat (rK M k1).2) else ((6000 : Int32))) < v2 then (if (Int32.ofNat (rK M k1).2) < ((6000 : Int32)) then (Int32.ofNat (rK M k1).2) else ((6000 : Int32))) else v2) then (if (if (Int32.ofNat (rK M k1).2) < ((6000 : Int32)) then (Int32.ofNat (rK M k1).2) else ((6000 : Int32))) < v2 then (if (Int32.ofNat (rK M k1).2) < ((6000 : Int32)) then (Int32.ofNat (rK M k1).2) else ((6000 : Int32))) else v2) else ((0 : Int32))))) tc_69 rfl 8 (fun u => ⟨_, rfl⟩) ⟨trivial, trivial, trivial, trivial, trivial, trivial, trivial, trivial, trivial⟩ ?_
  obtain ⟨c0, h⟩ := h
  refine gd_prim (P := ¬ ((0 : Int32)) < 0 ∧ ¬ ((0 : Int32)) < 0 ∧ ¬ (rI (wI M k0 1 (if ((0 : Int32)) < (if (if (Int32.ofNat (rK M k1).2) < ((6000 : Int32)) then (Int32.ofNat (rK M k1).2) else ((6000 : Int32))) < v2 then (if (Int32.ofNat (rK M k1).2) < ((6000 : Int32)) then (Int32.ofNat (rK M k1).2) else ((6000 : Int32))) else v2) then (if (if (Int32.ofNat (rK M k1).2) < ((6000 : Int32)) then (Int32.ofNat (rK M k1).2) else ((6000 : Int32))) < v2 then (if (Int32.ofNat (rK M k1).2) < ((6000 : Int32)) then (Int32.ofNat (rK M k1).2) else ((6000 : Int32))) else v2) else ((0 : Int32)))) k0 1) < 0 ∧ ((0 : Int32)).toNatClampNeg + (rI (wI M k0 1 (if ((0 : Int32)) < (if (if (Int32.ofNat (rK M k1).2) < ((6000 : Int32)) then (Int32.ofNat (rK M k1).2) else ((6000 : Int32))) < v2 then (if (Int32.ofNat (rK M k1).2) < ((6000 : Int32)) then (Int32.ofNat (rK M k1).2) else ((6000 : Int32))) else v2) then (if (if (Int32.ofNat (rK M k1).2) < ((6000 : Int32)) then (Int32.ofNat (rK M k1).2) else ((6000 : Int32))) < v2 then (if (Int32.ofNat (rK M k1).2) < ((6000 : Int32)) then (Int32.ofNat (rK M k1).2) else ((6000 : Int32))) else v2) else ((0 : Int32)))) k0 1).toNatClampNeg ≤ (rK M k1).2 ∧ ((0 : Int32)).toNatClampNeg + (rI (wI M k0 1 (if ((0 : Int32)) < (if (if (Int32.ofNat (rK M k1).2) < ((6000 : Int32)) then (Int32.ofNat (rK M k1).2) else ((6000 : Int32))) < v2 then (if (Int32.ofNat (rK M k1).2) < ((6000 : Int32)) then (Int32.ofNat (rK M k1).2) else ((6000 : Int32))) else v2) then (if (if (Int32.ofNat (rK M k1).2) < ((6000 : Int32)) then (Int32.ofNat (rK M k1).2) else ((6000 : Int32))) < v2 then (if (Int32.ofNat (rK M k1).2) < ((6000 : Int32)) then (Int32.ofNat (rK M k1).2) else ((6000 : Int32))) else v2) else ((0 : Int32)))) k0 1).toNatClampNeg ≤ (rK M (k0 + 1)).2) (σ1 := (34, [some (aR 12 k0), some (aR 4 k1), some (aI v2)], [], aCpy (wI M k0 1 (if ((0 : Int32)) < (if (if (Int32.ofNat (rK M k1).2) < ((6000 : Int32)) then (Int32.ofNat (rK M k1).2) else ((6000 : Int32))) < v2 then (if (Int32.ofNat (rK M k1).2) < ((6000 : Int32)) then (Int32.ofNat (rK M k1).2) else ((6000 : Int32))) else v2) then (if (if (Int32.ofNat (rK M k1).2) < ((6000 : Int32)) then (Int32.ofNat (rK M k1).2) else ((6000 : Int32))) < v2 then (if (Int32.ofNat (rK M k1).2) < ((6000 : Int32)) then (Int32.ofNat (rK M k1).2) else ((6000 : Int32))) else v2) else ((0 : Int32)))) k1 (k0 + 1) ((0 : Int32)).toNatClampNeg ((0 : Int32)).toNatClampNeg (rI (wI M k0 1 (if ((0 : Int32)) < (if (if (Int32.ofNat (rK M k1).2) < ((6000 : Int32)) then (Int32.ofNat (rK M k1).2) else ((6000 : Int32))) < v2 then (if (Int32.ofNat (rK M k1).2) < ((6000 : Int32)) then (Int32.ofNat (rK M k1).2) else ((6000 : Int32))) else v2) then (if (if (Int32.ofNat (rK M k1).2) < ((6000 : Int32)) then (Int32.ofNat (rK M k1).2) else ((6000 : Int32))) < v2 then (if (Int32.ofNat (rK M k1).2) < ((6000 : Int32)) then (Int32.ofNat (rK M k1).2) else ((6000 : Int32))) else v2) else ((0 : Int32)))) k0 1).toNatClampNeg)) tc_69 rfl rfl rfl rfl c0 (by omega) (by omega) (Nat.le_of_ble_eq_true rfl) ?_
  show Gd d w 69 _ (34, [some (aR 12 k0), some (aR 4 k1), some (aI v2)], [], aCpy (wI M k0 1 (if ((0 : Int32)) < (if (if (Int32.ofNat (rK M k1).2) < ((6000 : Int32)) then (Int32.ofNat (rK M k1).2) else ((6000 : Int32))) < v2 then (if (Int32.ofNat (rK M k1).2) < ((6000 : Int32)) then (Int32.ofNat (rK M k1).2) else ((6000 : Int32))) else v2) then (if (if (Int32.ofNat (rK M k1).2) < ((6000 : Int32)) then (Int32.ofNat (rK M k1).2) else ((6000 : Int32))) < v2 then (if (Int32.ofNat (rK M k1).2) < ((6000 : Int32)) then (Int32.ofNat (rK M k1).2) else ((6000 : Int32))) else v2) else ((0 : Int32)))) k1 (k0 + 1) ((0 : Int32)).toNatClampNeg ((0 : Int32)).toNatClampNeg (rI (wI M k0 1 (if ((0 : Int32)) < (if (if (Int32.ofNat (rK M k1).2) < ((6000 : Int32)) then (Int32.ofNat (rK M k1).2) else ((6000 : Int32))) < v2 then (if (Int32.ofNat (rK M k1).2) < ((6000 : Int32)) then (Int32.ofNat (rK M k1).2) else ((6000 : Int32))) else v2) then (if (if (Int32.ofNat (rK M k1).2) < ((6000 : Int32)) then (Int32.ofNat (rK M k1).2) else ((6000 : Int32))) < v2 then (if (Int32.ofNat (rK M k1).2) < ((6000 : Int32)) then (Int32.ofNat (rK M k1).2) else ((6000 : Int32))) else v2) else ((0 : Int32)))) k0 1).toNatClampNeg)
  exact gd_ret tc_69 rfl rfl trivial (fun _ => rfl) ⟨rfl, h⟩
theorem tc_132 : tC 132 = c132 := rfl
/-- PolicyJudgeModel.thrown()I -/
def w_Mo_thrown (post : Int32 → Prop) (k0 : Nat) (M : aM) : Prop := post (rI M k0 0)
theorem g_Mo_thrown {d w : Nat} (hd : 0 ≤ d) (hw : 0 ≤ w) {post : Int32 → Prop} {k0 : Nat} {M : aM} (h : w_Mo_thrown post k0 M) : Gd d w 132 (pIn M post) (0, aEnt 132 [aR 21 k0], [], M) := by
  unfold w_Mo_thrown at h
  show Gd d w 132 _ (0, [some (aR 21 k0)], [], M)
  refine gd_s (P := True ∧ True ∧ True) (σ1 := (4, [some (aR 21 k0)], [aI (rI M k0 0)], M)) tc_132 rfl 2 (fun u => ⟨_, rfl⟩) ⟨trivial, trivial, trivial⟩ ?_
  exact gd_ret tc_132 rfl rfl trivial (fun _ => rfl) ⟨_, rfl, rfl, h⟩
theorem tc_134 : tC 134 = c134 := rfl
/-- PolicyJudgeModel.goes(Z)Z -/
def w_Mo_goes (post : Int32 → aM → Prop) (k0 : Nat) (v1 : Int32) (M : aM) : Prop := ((v1 = ((0 : Int32))) → (v1 = 0 ∨ v1 = 1) ∧ post v1 (wI M k0 0 ((1 : Int32)))) ∧ (¬ (v1 = ((0 : Int32))) → (v1 = 0 ∨ v1 = 1) ∧ post v1 (wI M k0 0 ((0 : Int32))))
theorem g_Mo_goes {d w : Nat} (hd : 0 ≤ d) (hw : 0 ≤ w) {post : Int32 → aM → Prop} {k0 : Nat} {v1 : Int32} {M : aM} (h : w_Mo_goes post k0 v1 M) : Gd d w 134 (pI post) (0, aEnt 134 [aR 21 k0, aI v1], [], M) := by
  unfold w_Mo_goes at h
  show Gd d w 134 _ (0, [some (aR 21 k0), some (aI v1)], [], M)
  refine gd_s (P := True ∧ True ∧ True) (σ1 := (2, [some (aR 21 k0), some (aI v1)], [aI v1, aR 21 k0], M)) tc_134 rfl 2 (fun u => ⟨_, rfl⟩) ⟨trivial, trivial, trivial⟩ ?_
  refine gd_br (c := v1 = ((0 : Int32))) (st1 := [aR 21 k0]) tc_134 rfl rfl (fun _ => rfl) ⟨fun hc => ?_, fun hc => ?_⟩
  · have h := h.1 hc
    show Gd d w 134 _ (9, [some (aR 21 k0), some (aI v1)], [aR 21 k0], M)
    refine gd_s (P := True ∧ True ∧ True ∧ True) (σ1 := (14, [some (aR 21 k0), some (aI v1)], [aI v1], wI M k0 0 ((1 : Int32)))) tc_134 rfl 3 (fun u => ⟨_, rfl⟩) ⟨trivial, trivial, trivial, trivial⟩ ?_
    exact gd_ret tc_134 rfl rfl h.1 (fun _ => rfl) ⟨_, rfl, h.2⟩
  · have h := h.2 hc
    show Gd d w 134 _ (5, [some (aR 21 k0), some (aI v1)], [aR 21 k0], M)
    refine gd_s (P := True ∧ True ∧ True ∧ True ∧ True) (σ1 := (14, [some (aR 21 k0), some (aI v1)], [aI v1], wI M k0 0 ((0 : Int32)))) tc_134 rfl 4 (fun u => ⟨_, rfl⟩) ⟨trivial, trivial, trivial, trivial, trivial⟩ ?_
    exact gd_ret tc_134 rfl rfl h.1 (fun _ => rfl) ⟨_, rfl, h.2⟩
theorem tc_133 : tC 133 = c133 := rfl
def w_Mo_feed_J83 (post : Int32 → aM → Prop) (K30 : Nat → Int32 → Int32 → Int32 → Int32 → Int32 → Int32 → aM → Prop) (k0 : Nat) (v1 : Int32) (v2 : Int32) (v3 : Int32) (v4 : Int32) (v5 : Int32) (v6 : Int32) (s0 : Int32) (M : aM) : Prop := (¬ ((4 : Int32)) = 0) ∧ (vp_in (rI M k0 2) (rK M (k0 + 1)).2) ∧ (K30 k0 v1 v2 v3 v4 v5 (v6 + (1 : Int32)) (wI (wI M (k0 + 1) (rI M k0 2).toNatClampNeg ((s0 >>> ((((24 : Int32)) - (((8 : Int32)) * (v6 - v6 / ((4 : Int32)) * ((4 : Int32))))) &&& 31)).toInt8.toInt32).toInt8.toInt32) k0 2 ((rI (wI M (k0 + 1) (rI M k0 2).toNatClampNeg ((s0 >>> ((((24 : Int32)) - (((8 : Int32)) * (v6 - v6 / ((4 : Int32)) * ((4 : Int32))))) &&& 31)).toInt8.toInt32).toInt8.toInt32) k0 2) + ((1 : Int32)))))
theorem g_Mo_feed_J83 {d w : Nat} (hd : 1 ≤ d) (hw : 21 ≤ w) {post : Int32 → aM → Prop} {K30 : Nat → Int32 → Int32 → Int32 → Int32 → Int32 → Int32 → aM → Prop} (hK30 : ∀ (k0 : Nat) (v1 : Int32) (v2 : Int32) (v3 : Int32) (v4 : Int32) (v5 : Int32) (v6 : Int32) (o7 : Option aV) (M : aM), K30 k0 v1 v2 v3 v4 v5 v6 M → Gd d w 133 (pI post) (30, [some (aR 21 k0), some (aI v1), some (aI v2), some (aI v3), some (aI v4), some (aI v5), some (aI v6), o7], [], M)) (k0 : Nat) (v1 : Int32) (v2 : Int32) (v3 : Int32) (v4 : Int32) (v5 : Int32) (v6 : Int32) (s0 : Int32) (o7 : Option aV) (M : aM) (h : w_Mo_feed_J83 post K30 k0 v1 v2 v3 v4 v5 v6 s0 M) : Gd d w 133 (pI post) (83, [some (aR 21 k0), some (aI v1), some (aI v2), some (aI v3), some (aI v4), some (aI v5), some (aI v6), o7], [aI s0], M) := by
  unfold w_Mo_feed_J83 at h
  show Gd d w 133 _ (83, [some (aR 21 k0), some (aI v1), some (aI v2), some (aI v3), some (aI v4), some (aI v5), some (aI v6), o7], [aI s0], M)
  obtain ⟨c0, c1, h⟩ := h
  refine gd_s (P := True ∧ True ∧ True ∧ True ∧ True ∧ True ∧ True ∧ True ∧ True ∧ True ∧ (¬ ((4 : Int32)) = 0) ∧ True ∧ True ∧ True ∧ True ∧ (vp_in (rI M k0 2) (rK M (k0 + 1)).2) ∧ True ∧ True ∧ True ∧ True ∧ True ∧ True ∧ True ∧ True ∧ True) (σ1 := (30, [some (aR 21 k0), some (aI v1), some (aI v2), some (aI v3), some (aI v4), some (aI v5), some (aI (v6 + (1 : Int32))), some (aI s0)], [], wI (wI M (k0 + 1) (rI M k0 2).toNatClampNeg ((s0 >>> ((((24 : Int32)) - (((8 : Int32)) * (v6 - v6 / ((4 : Int32)) * ((4 : Int32))))) &&& 31)).toInt8.toInt32).toInt8.toInt32) k0 2 ((rI (wI M (k0 + 1) (rI M k0 2).toNatClampNeg ((s0 >>> ((((24 : Int32)) - (((8 : Int32)) * (v6 - v6 / ((4 : Int32)) * ((4 : Int32))))) &&& 31)).toInt8.toInt32).toInt8.toInt32) k0 2) + ((1 : Int32))))) tc_133 rfl 24 (fun u => ⟨_, rfl⟩) ⟨trivial, trivial, trivial, trivial, trivial, trivial, trivial, trivial, trivial, trivial, c0, trivial, trivial, trivial, trivial, c1, trivial, trivial, trivial, trivial, trivial, trivial, trivial, trivial, trivial⟩ ?_
  exact hK30 k0 v1 v2 v3 v4 v5 (v6 + (1 : Int32)) (some (aI s0)) (wI (wI M (k0 + 1) (rI M k0 2).toNatClampNeg ((s0 >>> ((((24 : Int32)) - (((8 : Int32)) * (v6 - v6 / ((4 : Int32)) * ((4 : Int32))))) &&& 31)).toInt8.toInt32).toInt8.toInt32) k0 2 ((rI (wI M (k0 + 1) (rI M k0 2).toNatClampNeg ((s0 >>> ((((24 : Int32)) - (((8 : Int32)) * (v6 - v6 / ((4 : Int32)) * ((4 : Int32))))) &&& 31)).toInt8.toInt32).toInt8.toInt32) k0 2) + ((1 : Int32)))) h
def w_Mo_feed_L30 (post : Int32 → aM → Prop) : Nat → Nat → Int32 → Int32 → Int32 → Int32 → Int32 → Int32 → aM → Prop
  | 0, _, _, _, _, _, _, _, _ => False
  | n + 1, k0, v1, v2, v3, v4, v5, v6, M => ((((20 : Int32)) ≤ v6) → post (rI M k0 2) M) ∧ (¬ (((20 : Int32)) ≤ v6) → ((((4 : Int32)) ≤ v6) → ((((8 : Int32)) ≤ v6) → ((((12 : Int32)) ≤ v6) → ((((16 : Int32)) ≤ v6) → w_Mo_feed_J83 post (w_Mo_feed_L30 post n) k0 v1 v2 v3 v4 v5 v6 v5 M) ∧ (¬ (((16 : Int32)) ≤ v6) → w_Mo_feed_J83 post (w_Mo_feed_L30 post n) k0 v1 v2 v3 v4 v5 v6 v4 M)) ∧ (¬ (((12 : Int32)) ≤ v6) → w_Mo_feed_J83 post (w_Mo_feed_L30 post n) k0 v1 v2 v3 v4 v5 v6 v3 M)) ∧ (¬ (((8 : Int32)) ≤ v6) → w_Mo_feed_J83 post (w_Mo_feed_L30 post n) k0 v1 v2 v3 v4 v5 v6 v2 M)) ∧ (¬ (((4 : Int32)) ≤ v6) → w_Mo_feed_J83 post (w_Mo_feed_L30 post n) k0 v1 v2 v3 v4 v5 v6 v1 M))
theorem g_Mo_feed_L30 {d w : Nat} (hd : 1 ≤ d) (hw : 21 ≤ w) {post : Int32 → aM → Prop} : ∀ (n : Nat) (k0 : Nat) (v1 : Int32) (v2 : Int32) (v3 : Int32) (v4 : Int32) (v5 : Int32) (v6 : Int32) (o7 : Option aV) (M : aM), w_Mo_feed_L30 post n k0 v1 v2 v3 v4 v5 v6 M → Gd d w 133 (pI post) (30, [some (aR 21 k0), some (aI v1), some (aI v2), some (aI v3), some (aI v4), some (aI v5), some (aI v6), o7], [], M) := by
  intro n
  induction n with
  | zero => intro k0 v1 v2 v3 v4 v5 v6 o7 M h; exact h.elim
  | succ n ih =>
    intro k0 v1 v2 v3 v4 v5 v6 o7 M h
    show Gd d w 133 _ (30, [some (aR 21 k0), some (aI v1), some (aI v2), some (aI v3), some (aI v4), some (aI v5), some (aI v6), o7], [], M)
    refine gd_s (P := True ∧ True ∧ True) (σ1 := (34, [some (aR 21 k0), some (aI v1), some (aI v2), some (aI v3), some (aI v4), some (aI v5), some (aI v6), o7], [aI ((20 : Int32)), aI v6], M)) tc_133 rfl 2 (fun u => ⟨_, rfl⟩) ⟨trivial, trivial, trivial⟩ ?_
    refine gd_br (c := ((20 : Int32)) ≤ v6) (st1 := []) tc_133 rfl rfl (fun _ => rfl) ⟨fun hc => ?_, fun hc => ?_⟩
    · have h := h.1 hc
      show Gd d w 133 _ (124, [some (aR 21 k0), some (aI v1), some (aI v2), some (aI v3), some (aI v4), some (aI v5), some (aI v6), o7], [], M)
      refine gd_s (P := True ∧ True ∧ True) (σ1 := (128, [some (aR 21 k0), some (aI v1), some (aI v2), some (aI v3), some (aI v4), some (aI v5), some (aI v6), o7], [aI (rI M k0 2)], M)) tc_133 rfl 2 (fun u => ⟨_, rfl⟩) ⟨trivial, trivial, trivial⟩ ?_
      exact gd_ret tc_133 rfl rfl trivial (fun _ => rfl) ⟨_, rfl, h⟩
    · have h := h.2 hc
      show Gd d w 133 _ (37, [some (aR 21 k0), some (aI v1), some (aI v2), some (aI v3), some (aI v4), some (aI v5), some (aI v6), o7], [], M)
      refine gd_s (P := True ∧ True ∧ True) (σ1 := (40, [some (aR 21 k0), some (aI v1), some (aI v2), some (aI v3), some (aI v4), some (aI v5), some (aI v6), o7], [aI ((4 : Int32)), aI v6], M)) tc_133 rfl 2 (fun u => ⟨_, rfl⟩) ⟨trivial, trivial, trivial⟩ ?_
      refine gd_br (c := ((4 : Int32)) ≤ v6) (st1 := []) tc_133 rfl rfl (fun _ => rfl) ⟨fun hc => ?_, fun hc => ?_⟩
      · have h := h.1 hc
        show Gd d w 133 _ (47, [some (aR 21 k0), some (aI v1), some (aI v2), some (aI v3), some (aI v4), some (aI v5), some (aI v6), o7], [], M)
        refine gd_s (P := True ∧ True ∧ True) (σ1 := (51, [some (aR 21 k0), some (aI v1), some (aI v2), some (aI v3), some (aI v4), some (aI v5), some (aI v6), o7], [aI ((8 : Int32)), aI v6], M)) tc_133 rfl 2 (fun u => ⟨_, rfl⟩) ⟨trivial, trivial, trivial⟩ ?_
        refine gd_br (c := ((8 : Int32)) ≤ v6) (st1 := []) tc_133 rfl rfl (fun _ => rfl) ⟨fun hc => ?_, fun hc => ?_⟩
        · have h := h.1 hc
          show Gd d w 133 _ (58, [some (aR 21 k0), some (aI v1), some (aI v2), some (aI v3), some (aI v4), some (aI v5), some (aI v6), o7], [], M)
          refine gd_s (P := True ∧ True ∧ True) (σ1 := (62, [some (aR 21 k0), some (aI v1), some (aI v2), some (aI v3), some (aI v4), some (aI v5), some (aI v6), o7], [aI ((12 : Int32)), aI v6], M)) tc_133 rfl 2 (fun u => ⟨_, rfl⟩) ⟨trivial, trivial, trivial⟩ ?_
          refine gd_br (c := ((12 : Int32)) ≤ v6) (st1 := []) tc_133 rfl rfl (fun _ => rfl) ⟨fun hc => ?_, fun hc => ?_⟩
          · have h := h.1 hc
            show Gd d w 133 _ (69, [some (aR 21 k0), some (aI v1), some (aI v2), some (aI v3), some (aI v4), some (aI v5), some (aI v6), o7], [], M)
            refine gd_s (P := True ∧ True ∧ True) (σ1 := (73, [some (aR 21 k0), some (aI v1), some (aI v2), some (aI v3), some (aI v4), some (aI v5), some (aI v6), o7], [aI ((16 : Int32)), aI v6], M)) tc_133 rfl 2 (fun u => ⟨_, rfl⟩) ⟨trivial, trivial, trivial⟩ ?_
            refine gd_br (c := ((16 : Int32)) ≤ v6) (st1 := []) tc_133 rfl rfl (fun _ => rfl) ⟨fun hc => ?_, fun hc => ?_⟩
            · have h := h.1 hc
              show Gd d w 133 _ (81, [some (aR 21 k0), some (aI v1), some (aI v2), some (aI v3), some (aI v4), some (aI v5), some (aI v6), o7], [], M)
              refine gd_s (P := True ∧ True) (σ1 := (83, [some (aR 21 k0), some (aI v1), some (aI v2), some (aI v3), some (aI v4), some (aI v5), some (aI v6), o7], [aI v5], M)) tc_133 rfl 1 (fun u => ⟨_, rfl⟩) ⟨trivial, trivial⟩ ?_
              exact g_Mo_feed_J83 hd hw ih k0 v1 v2 v3 v4 v5 v6 v5 o7 M h
            · have h := h.2 hc
              show Gd d w 133 _ (76, [some (aR 21 k0), some (aI v1), some (aI v2), some (aI v3), some (aI v4), some (aI v5), some (aI v6), o7], [], M)
              refine gd_s (P := True ∧ True ∧ True) (σ1 := (83, [some (aR 21 k0), some (aI v1), some (aI v2), some (aI v3), some (aI v4), some (aI v5), some (aI v6), o7], [aI v4], M)) tc_133 rfl 2 (fun u => ⟨_, rfl⟩) ⟨trivial, trivial, trivial⟩ ?_
              exact g_Mo_feed_J83 hd hw ih k0 v1 v2 v3 v4 v5 v6 v4 o7 M h
          · have h := h.2 hc
            show Gd d w 133 _ (65, [some (aR 21 k0), some (aI v1), some (aI v2), some (aI v3), some (aI v4), some (aI v5), some (aI v6), o7], [], M)
            refine gd_s (P := True ∧ True ∧ True) (σ1 := (83, [some (aR 21 k0), some (aI v1), some (aI v2), some (aI v3), some (aI v4), some (aI v5), some (aI v6), o7], [aI v3], M)) tc_133 rfl 2 (fun u => ⟨_, rfl⟩) ⟨trivial, trivial, trivial⟩ ?_
            exact g_Mo_feed_J83 hd hw ih k0 v1 v2 v3 v4 v5 v6 v3 o7 M h
        · have h := h.2 hc
          show Gd d w 133 _ (54, [some (aR 21 k0), some (aI v1), some (aI v2), some (aI v3), some (aI v4), some (aI v5), some (aI v6), o7], [], M)
          refine gd_s (P := True ∧ True ∧ True) (σ1 := (83, [some (aR 21 k0), some (aI v1), some (aI v2), some (aI v3), some (aI v4), some (aI v5), some (aI v6), o7], [aI v2], M)) tc_133 rfl 2 (fun u => ⟨_, rfl⟩) ⟨trivial, trivial, trivial⟩ ?_
          exact g_Mo_feed_J83 hd hw ih k0 v1 v2 v3 v4 v5 v6 v2 o7 M h
      · have h := h.2 hc
        show Gd d w 133 _ (43, [some (aR 21 k0), some (aI v1), some (aI v2), some (aI v3), some (aI v4), some (aI v5), some (aI v6), o7], [], M)
        refine gd_s (P := True ∧ True ∧ True) (σ1 := (83, [some (aR 21 k0), some (aI v1), some (aI v2), some (aI v3), some (aI v4), some (aI v5), some (aI v6), o7], [aI v1], M)) tc_133 rfl 2 (fun u => ⟨_, rfl⟩) ⟨trivial, trivial, trivial⟩ ?_
        exact g_Mo_feed_J83 hd hw ih k0 v1 v2 v3 v4 v5 v6 v1 o7 M h
def w_Mo_feed_J19 (post : Int32 → aM → Prop) (k0 : Nat) (v1 : Int32) (v2 : Int32) (v3 : Int32) (v4 : Int32) (v5 : Int32) (t0 : Nat) (s1 : Int32) (M : aM) : Prop := w_Mo_goes (fun x1 M1 => ((¬ x1 = ((0 : Int32))) → ∃ n9, w_Mo_feed_L30 post n9 k0 v1 v2 v3 v4 v5 ((0 : Int32)) M1) ∧ (¬ (¬ x1 = ((0 : Int32))) → post ((0 : Int32)) M1)) t0 s1 M
theorem g_Mo_feed_J19 {d w : Nat} (hd : 1 ≤ d) (hw : 21 ≤ w) {post : Int32 → aM → Prop} (k0 : Nat) (v1 : Int32) (v2 : Int32) (v3 : Int32) (v4 : Int32) (v5 : Int32) (t0 : Nat) (s1 : Int32) (o6 o7 : Option aV) (M : aM) (h : w_Mo_feed_J19 post k0 v1 v2 v3 v4 v5 t0 s1 M) : Gd d w 133 (pI post) (19, [some (aR 21 k0), some (aI v1), some (aI v2), some (aI v3), some (aI v4), some (aI v5), o6, o7], [aI s1, aR 21 t0], M) := by
  unfold w_Mo_feed_J19 at h
  show Gd d w 133 _ (19, [some (aR 21 k0), some (aI v1), some (aI v2), some (aI v3), some (aI v4), some (aI v5), o6, o7], [aI s1, aR 21 t0], M)
  refine gd_callN (ml := 2) (as := [aR 21 t0, aI s1]) (rest := []) tc_133 rfl rfl rfl rfl rfl (by omega) (by omega) (Nat.le_of_ble_eq_true rfl) rfl (g_Mo_goes (by omega) (by omega) h) (fun r9 M1 h => ?_)
  obtain ⟨x1, rfl, h⟩ := h
  show Gd d w 133 _ (22, [some (aR 21 k0), some (aI v1), some (aI v2), some (aI v3), some (aI v4), some (aI v5), o6, o7], [aI x1], M1)
  refine gd_br (c := ¬ x1 = ((0 : Int32))) (st1 := []) tc_133 rfl rfl (fun _ => rfl) ⟨fun hc => ?_, fun hc => ?_⟩
  · have h := h.1 hc
    show Gd d w 133 _ (27, [some (aR 21 k0), some (aI v1), some (aI v2), some (aI v3), some (aI v4), some (aI v5), o6, o7], [], M1)
    refine gd_s (P := True ∧ True ∧ True) (σ1 := (30, [some (aR 21 k0), some (aI v1), some (aI v2), some (aI v3), some (aI v4), some (aI v5), some (aI ((0 : Int32))), o7], [], M1)) tc_133 rfl 2 (fun u => ⟨_, rfl⟩) ⟨trivial, trivial, trivial⟩ ?_
    obtain ⟨n9, h⟩ := h
    exact g_Mo_feed_L30 hd hw n9 k0 v1 v2 v3 v4 v5 ((0 : Int32)) o7 M1 h
  · have h := h.2 hc
    show Gd d w 133 _ (25, [some (aR 21 k0), some (aI v1), some (aI v2), some (aI v3), some (aI v4), some (aI v5), o6, o7], [], M1)
    refine gd_s (P := True ∧ True) (σ1 := (26, [some (aR 21 k0), some (aI v1), some (aI v2), some (aI v3), some (aI v4), some (aI v5), o6, o7], [aI ((0 : Int32))], M1)) tc_133 rfl 1 (fun u => ⟨_, rfl⟩) ⟨trivial, trivial⟩ ?_
    exact gd_ret tc_133 rfl rfl trivial (fun _ => rfl) ⟨_, rfl, h⟩
/-- PolicyJudgeModel.feed(IIIII)I -/
def w_Mo_feed (post : Int32 → aM → Prop) (k0 : Nat) (v1 : Int32) (v2 : Int32) (v3 : Int32) (v4 : Int32) (v5 : Int32) (M : aM) : Prop := ((((6000 : Int32)) < ((rI M k0 2) + ((20 : Int32)))) → w_Mo_feed_J19 post k0 v1 v2 v3 v4 v5 k0 ((0 : Int32)) M) ∧ (¬ (((6000 : Int32)) < ((rI M k0 2) + ((20 : Int32)))) → w_Mo_feed_J19 post k0 v1 v2 v3 v4 v5 k0 ((1 : Int32)) M)
theorem g_Mo_feed {d w : Nat} (hd : 1 ≤ d) (hw : 21 ≤ w) {post : Int32 → aM → Prop} {k0 : Nat} {v1 : Int32} {v2 : Int32} {v3 : Int32} {v4 : Int32} {v5 : Int32} {M : aM} (h : w_Mo_feed post k0 v1 v2 v3 v4 v5 M) : Gd d w 133 (pI post) (0, aEnt 133 [aR 21 k0, aI v1, aI v2, aI v3, aI v4, aI v5], [], M) := by
  unfold w_Mo_feed at h
  show Gd d w 133 _ (0, [some (aR 21 k0), some (aI v1), some (aI v2), some (aI v3), some (aI v4), some (aI v5), none, none], [], M)
  refine gd_s (P := True ∧ True ∧ True ∧ True ∧ True ∧ True ∧ True) (σ1 := (11, [some (aR 21 k0), some (aI v1), some (aI v2), some (aI v3), some (aI v4), some (aI v5), none, none], [aI ((6000 : Int32)), aI ((rI M k0 2) + ((20 : Int32))), aR 21 k0], M)) tc_133 rfl 6 (fun u => ⟨_, rfl⟩) ⟨trivial, trivial, trivial, trivial, trivial, trivial, trivial⟩ ?_
  refine gd_br (c := ((6000 : Int32)) < ((rI M k0 2) + ((20 : Int32)))) (st1 := [aR 21 k0]) tc_133 rfl rfl (fun _ => rfl) ⟨fun hc => ?_, fun hc => ?_⟩
  · have h := h.1 hc
    show Gd d w 133 _ (18, [some (aR 21 k0), some (aI v1), some (aI v2), some (aI v3), some (aI v4), some (aI v5), none, none], [aR 21 k0], M)
    refine gd_s (P := True ∧ True) (σ1 := (19, [some (aR 21 k0), some (aI v1), some (aI v2), some (aI v3), some (aI v4), some (aI v5), none, none], [aI ((0 : Int32)), aR 21 k0], M)) tc_133 rfl 1 (fun u => ⟨_, rfl⟩) ⟨trivial, trivial⟩ ?_
    exact g_Mo_feed_J19 hd hw k0 v1 v2 v3 v4 v5 k0 ((0 : Int32)) none none M h
  · have h := h.2 hc
    show Gd d w 133 _ (14, [some (aR 21 k0), some (aI v1), some (aI v2), some (aI v3), some (aI v4), some (aI v5), none, none], [aR 21 k0], M)
    refine gd_s (P := True ∧ True ∧ True) (σ1 := (19, [some (aR 21 k0), some (aI v1), some (aI v2), some (aI v3), some (aI v4), some (aI v5), none, none], [aI ((1 : Int32)), aR 21 k0], M)) tc_133 rfl 2 (fun u => ⟨_, rfl⟩) ⟨trivial, trivial, trivial⟩ ?_
    exact g_Mo_feed_J19 hd hw k0 v1 v2 v3 v4 v5 k0 ((1 : Int32)) none none M h
theorem tc_136 : tC 136 = c136 := rfl
/-- PolicyJudgeModel.in(III)Z -/
def w_Mo_in (post : Int32 → Prop) (v0 : Int32) (v1 : Int32) (v2 : Int32) (M : aM) : Prop := ((v0 < v1) → (((0 : Int32)) = 0 ∨ ((0 : Int32)) = 1) ∧ post ((0 : Int32))) ∧ (¬ (v0 < v1) → ((v2 < v0) → (((0 : Int32)) = 0 ∨ ((0 : Int32)) = 1) ∧ post ((0 : Int32))) ∧ (¬ (v2 < v0) → (((1 : Int32)) = 0 ∨ ((1 : Int32)) = 1) ∧ post ((1 : Int32))))
theorem g_Mo_in {d w : Nat} (hd : 0 ≤ d) (hw : 0 ≤ w) {post : Int32 → Prop} {v0 : Int32} {v1 : Int32} {v2 : Int32} {M : aM} (h : w_Mo_in post v0 v1 v2 M) : Gd d w 136 (pIn M post) (0, aEnt 136 [aI v0, aI v1, aI v2], [], M) := by
  unfold w_Mo_in at h
  show Gd d w 136 _ (0, [some (aI v0), some (aI v1), some (aI v2)], [], M)
  refine gd_s (P := True ∧ True ∧ True) (σ1 := (2, [some (aI v0), some (aI v1), some (aI v2)], [aI v1, aI v0], M)) tc_136 rfl 2 (fun u => ⟨_, rfl⟩) ⟨trivial, trivial, trivial⟩ ?_
  refine gd_br (c := v0 < v1) (st1 := []) tc_136 rfl rfl (fun _ => rfl) ⟨fun hc => ?_, fun hc => ?_⟩
  · have h := h.1 hc
    show Gd d w 136 _ (14, [some (aI v0), some (aI v1), some (aI v2)], [], M)
    refine gd_s (P := True ∧ True) (σ1 := (15, [some (aI v0), some (aI v1), some (aI v2)], [aI ((0 : Int32))], M)) tc_136 rfl 1 (fun u => ⟨_, rfl⟩) ⟨trivial, trivial⟩ ?_
    exact gd_ret tc_136 rfl rfl h.1 (fun _ => rfl) ⟨_, rfl, rfl, h.2⟩
  · have h := h.2 hc
    show Gd d w 136 _ (5, [some (aI v0), some (aI v1), some (aI v2)], [], M)
    refine gd_s (P := True ∧ True ∧ True) (σ1 := (7, [some (aI v0), some (aI v1), some (aI v2)], [aI v2, aI v0], M)) tc_136 rfl 2 (fun u => ⟨_, rfl⟩) ⟨trivial, trivial, trivial⟩ ?_
    refine gd_br (c := v2 < v0) (st1 := []) tc_136 rfl rfl (fun _ => rfl) ⟨fun hc => ?_, fun hc => ?_⟩
    · have h := h.1 hc
      show Gd d w 136 _ (14, [some (aI v0), some (aI v1), some (aI v2)], [], M)
      refine gd_s (P := True ∧ True) (σ1 := (15, [some (aI v0), some (aI v1), some (aI v2)], [aI ((0 : Int32))], M)) tc_136 rfl 1 (fun u => ⟨_, rfl⟩) ⟨trivial, trivial⟩ ?_
      exact gd_ret tc_136 rfl rfl h.1 (fun _ => rfl) ⟨_, rfl, rfl, h.2⟩
    · have h := h.2 hc
      show Gd d w 136 _ (10, [some (aI v0), some (aI v1), some (aI v2)], [], M)
      refine gd_s (P := True ∧ True ∧ True) (σ1 := (15, [some (aI v0), some (aI v1), some (aI v2)], [aI ((1 : Int32))], M)) tc_136 rfl 2 (fun u => ⟨_, rfl⟩) ⟨trivial, trivial, trivial⟩ ?_
      exact gd_ret tc_136 rfl rfl h.1 (fun _ => rfl) ⟨_, rfl, rfl, h.2⟩
theorem tc_135 : tC 135 = c135 := rfl
/-- PolicyJudgeModel.end(I)V -/
def w_Mo_end (post : aM → Prop) (k0 : Nat) (v1 : Int32) (M : aM) : Prop := w_Mo_in (fun x1 => w_Mo_goes (fun x2 M2 => ((x2 = ((0 : Int32))) → post (wI M2 k0 2 (rI M2 k0 2))) ∧ (¬ (x2 = ((0 : Int32))) → post (wI M2 k0 2 v1))) k0 x1 M) v1 ((0 : Int32)) (rI M k0 2) M
theorem g_Mo_end {d w : Nat} (hd : 1 ≤ d) (hw : 22 ≤ w) {post : aM → Prop} {k0 : Nat} {v1 : Int32} {M : aM} (h : w_Mo_end post k0 v1 M) : Gd d w 135 (pV post) (0, aEnt 135 [aR 21 k0, aI v1], [], M) := by
  unfold w_Mo_end at h
  show Gd d w 135 _ (0, [some (aR 21 k0), some (aI v1)], [], M)
  refine gd_s (P := True ∧ True ∧ True ∧ True ∧ True ∧ True ∧ True) (σ1 := (8, [some (aR 21 k0), some (aI v1)], [aI (rI M k0 2), aI ((0 : Int32)), aI v1, aR 21 k0, aR 21 k0], M)) tc_135 rfl 6 (fun u => ⟨_, rfl⟩) ⟨trivial, trivial, trivial, trivial, trivial, trivial, trivial⟩ ?_
  refine gd_callN (ml := 3) (as := [aI v1, aI ((0 : Int32)), aI (rI M k0 2)]) (rest := [aR 21 k0, aR 21 k0]) tc_135 rfl rfl rfl rfl rfl (by omega) (by omega) (Nat.le_of_ble_eq_true rfl) rfl (g_Mo_in (by omega) (by omega) h) (fun r9 M9 h => ?_)
  obtain ⟨x1, rfl, e9, h⟩ := h
  subst M9
  show Gd d w 135 _ (11, [some (aR 21 k0), some (aI v1)], [aI x1, aR 21 k0, aR 21 k0], M)
  refine gd_callN (ml := 2) (as := [aR 21 k0, aI x1]) (rest := [aR 21 k0]) tc_135 rfl rfl rfl rfl rfl (by omega) (by omega) (Nat.le_of_ble_eq_true rfl) rfl (g_Mo_goes (by omega) (by omega) h) (fun r9 M2 h => ?_)
  obtain ⟨x2, rfl, h⟩ := h
  show Gd d w 135 _ (14, [some (aR 21 k0), some (aI v1)], [aI x2, aR 21 k0], M2)
  refine gd_br (c := x2 = ((0 : Int32))) (st1 := [aR 21 k0]) tc_135 rfl rfl (fun _ => rfl) ⟨fun hc => ?_, fun hc => ?_⟩
  · have h := h.1 hc
    show Gd d w 135 _ (21, [some (aR 21 k0), some (aI v1)], [aR 21 k0], M2)
    refine gd_s (P := True ∧ True ∧ True ∧ True) (σ1 := (28, [some (aR 21 k0), some (aI v1)], [], wI M2 k0 2 (rI M2 k0 2))) tc_135 rfl 3 (fun u => ⟨_, rfl⟩) ⟨trivial, trivial, trivial, trivial⟩ ?_
    exact gd_ret tc_135 rfl rfl trivial (fun _ => rfl) ⟨rfl, h⟩
  · have h := h.2 hc
    show Gd d w 135 _ (17, [some (aR 21 k0), some (aI v1)], [aR 21 k0], M2)
    refine gd_s (P := True ∧ True ∧ True ∧ True) (σ1 := (28, [some (aR 21 k0), some (aI v1)], [], wI M2 k0 2 v1)) tc_135 rfl 3 (fun u => ⟨_, rfl⟩) ⟨trivial, trivial, trivial, trivial⟩ ?_
    exact gd_ret tc_135 rfl rfl trivial (fun _ => rfl) ⟨rfl, h⟩
theorem tc_138 : tC 138 = c138 := rfl
/-- PolicyJudgeModel.isText(I)Z -/
def w_Mo_isText (post : Int32 → Prop) (v0 : Int32) (M : aM) : Prop := w_Mo_in (fun x1 => (x1 = 0 ∨ x1 = 1) ∧ post x1) v0 ((0 : Int32)) ((1 : Int32)) M
theorem g_Mo_isText {d w : Nat} (hd : 1 ≤ d) (hw : 22 ≤ w) {post : Int32 → Prop} {v0 : Int32} {M : aM} (h : w_Mo_isText post v0 M) : Gd d w 138 (pIn M post) (0, aEnt 138 [aI v0], [], M) := by
  unfold w_Mo_isText at h
  show Gd d w 138 _ (0, [some (aI v0)], [], M)
  refine gd_s (P := True ∧ True ∧ True ∧ True) (σ1 := (3, [some (aI v0)], [aI ((1 : Int32)), aI ((0 : Int32)), aI v0], M)) tc_138 rfl 3 (fun u => ⟨_, rfl⟩) ⟨trivial, trivial, trivial, trivial⟩ ?_
  refine gd_callN (ml := 3) (as := [aI v0, aI ((0 : Int32)), aI ((1 : Int32))]) (rest := []) tc_138 rfl rfl rfl rfl rfl (by omega) (by omega) (Nat.le_of_ble_eq_true rfl) rfl (g_Mo_in (by omega) (by omega) h) (fun r9 M9 h => ?_)
  obtain ⟨x1, rfl, e9, h⟩ := h
  subst M9
  show Gd d w 138 _ (6, [some (aI v0)], [aI x1], M)
  exact gd_ret tc_138 rfl rfl h.1 (fun _ => rfl) ⟨_, rfl, rfl, h.2⟩
theorem tc_141 : tC 141 = c141 := rfl
/-- PolicyJudgeModel.at(I)I -/
def w_Mo_at (post : Int32 → Prop) (k0 : Nat) (v1 : Int32) (M : aM) : Prop := (((rI M k0 2) ≤ v1) → post ((-1 : Int32))) ∧ (¬ ((rI M k0 2) ≤ v1) → (vp_in v1 (rK M (k0 + 1)).2) ∧ post ((rI M (k0 + 1) v1.toNatClampNeg) &&& ((255 : Int32))))
theorem g_Mo_at {d w : Nat} (hd : 0 ≤ d) (hw : 0 ≤ w) {post : Int32 → Prop} {k0 : Nat} {v1 : Int32} {M : aM} (h : w_Mo_at post k0 v1 M) : Gd d w 141 (pIn M post) (0, aEnt 141 [aR 21 k0, aI v1], [], M) := by
  unfold w_Mo_at at h
  show Gd d w 141 _ (0, [some (aR 21 k0), some (aI v1)], [], M)
  refine gd_s (P := True ∧ True ∧ True ∧ True) (σ1 := (5, [some (aR 21 k0), some (aI v1)], [aI (rI M k0 2), aI v1], M)) tc_141 rfl 3 (fun u => ⟨_, rfl⟩) ⟨trivial, trivial, trivial, trivial⟩ ?_
  refine gd_br (c := (rI M k0 2) ≤ v1) (st1 := []) tc_141 rfl rfl (fun _ => rfl) ⟨fun hc => ?_, fun hc => ?_⟩
  · have h := h.1 hc
    show Gd d w 141 _ (21, [some (aR 21 k0), some (aI v1)], [], M)
    refine gd_s (P := True ∧ True) (σ1 := (22, [some (aR 21 k0), some (aI v1)], [aI ((-1 : Int32))], M)) tc_141 rfl 1 (fun u => ⟨_, rfl⟩) ⟨trivial, trivial⟩ ?_
    exact gd_ret tc_141 rfl rfl trivial (fun _ => rfl) ⟨_, rfl, rfl, h⟩
  · have h := h.2 hc
    show Gd d w 141 _ (8, [some (aR 21 k0), some (aI v1)], [], M)
    obtain ⟨c0, h⟩ := h
    refine gd_s (P := True ∧ True ∧ True ∧ (vp_in v1 (rK M (k0 + 1)).2) ∧ True ∧ True ∧ True ∧ True) (σ1 := (22, [some (aR 21 k0), some (aI v1)], [aI ((rI M (k0 + 1) v1.toNatClampNeg) &&& ((255 : Int32)))], M)) tc_141 rfl 7 (fun u => ⟨_, rfl⟩) ⟨trivial, trivial, trivial, c0, trivial, trivial, trivial, trivial⟩ ?_
    exact gd_ret tc_141 rfl rfl trivial (fun _ => rfl) ⟨_, rfl, rfl, h⟩
theorem tc_142 : tC 142 = c142 := rfl
/-- PolicyJudgeModel.isLetter(I)Z -/
def w_Mo_isLetter (post : Int32 → Prop) (v0 : Int32) (M : aM) : Prop := w_Mo_in (fun x1 => ((¬ x1 = ((0 : Int32))) → (((1 : Int32)) = 0 ∨ ((1 : Int32)) = 1) ∧ post ((1 : Int32))) ∧ (¬ (¬ x1 = ((0 : Int32))) → w_Mo_in (fun x2 => ((x2 = ((0 : Int32))) → (((0 : Int32)) = 0 ∨ ((0 : Int32)) = 1) ∧ post ((0 : Int32))) ∧ (¬ (x2 = ((0 : Int32))) → (((1 : Int32)) = 0 ∨ ((1 : Int32)) = 1) ∧ post ((1 : Int32)))) v0 ((65 : Int32)) ((90 : Int32)) M)) v0 ((97 : Int32)) ((122 : Int32)) M
theorem g_Mo_isLetter {d w : Nat} (hd : 1 ≤ d) (hw : 22 ≤ w) {post : Int32 → Prop} {v0 : Int32} {M : aM} (h : w_Mo_isLetter post v0 M) : Gd d w 142 (pIn M post) (0, aEnt 142 [aI v0], [], M) := by
  unfold w_Mo_isLetter at h
  show Gd d w 142 _ (0, [some (aI v0)], [], M)
  refine gd_s (P := True ∧ True ∧ True ∧ True) (σ1 := (5, [some (aI v0)], [aI ((122 : Int32)), aI ((97 : Int32)), aI v0], M)) tc_142 rfl 3 (fun u => ⟨_, rfl⟩) ⟨trivial, trivial, trivial, trivial⟩ ?_
  refine gd_callN (ml := 3) (as := [aI v0, aI ((97 : Int32)), aI ((122 : Int32))]) (rest := []) tc_142 rfl rfl rfl rfl rfl (by omega) (by omega) (Nat.le_of_ble_eq_true rfl) rfl (g_Mo_in (by omega) (by omega) h) (fun r9 M9 h => ?_)
  obtain ⟨x1, rfl, e9, h⟩ := h
  subst M9
  show Gd d w 142 _ (8, [some (aI v0)], [aI x1], M)
  refine gd_br (c := ¬ x1 = ((0 : Int32))) (st1 := []) tc_142 rfl rfl (fun _ => rfl) ⟨fun hc => ?_, fun hc => ?_⟩
  · have h := h.1 hc
    show Gd d w 142 _ (22, [some (aI v0)], [], M)
    refine gd_s (P := True ∧ True ∧ True) (σ1 := (27, [some (aI v0)], [aI ((1 : Int32))], M)) tc_142 rfl 2 (fun u => ⟨_, rfl⟩) ⟨trivial, trivial, trivial⟩ ?_
    exact gd_ret tc_142 rfl rfl h.1 (fun _ => rfl) ⟨_, rfl, rfl, h.2⟩
  · have h := h.2 hc
    show Gd d w 142 _ (11, [some (aI v0)], [], M)
    refine gd_s (P := True ∧ True ∧ True ∧ True) (σ1 := (16, [some (aI v0)], [aI ((90 : Int32)), aI ((65 : Int32)), aI v0], M)) tc_142 rfl 3 (fun u => ⟨_, rfl⟩) ⟨trivial, trivial, trivial, trivial⟩ ?_
    refine gd_callN (ml := 3) (as := [aI v0, aI ((65 : Int32)), aI ((90 : Int32))]) (rest := []) tc_142 rfl rfl rfl rfl rfl (by omega) (by omega) (Nat.le_of_ble_eq_true rfl) rfl (g_Mo_in (by omega) (by omega) h) (fun r9 M9 h => ?_)
    obtain ⟨x2, rfl, e9, h⟩ := h
    subst M9
    show Gd d w 142 _ (19, [some (aI v0)], [aI x2], M)
    refine gd_br (c := x2 = ((0 : Int32))) (st1 := []) tc_142 rfl rfl (fun _ => rfl) ⟨fun hc => ?_, fun hc => ?_⟩
    · have h := h.1 hc
      show Gd d w 142 _ (26, [some (aI v0)], [], M)
      refine gd_s (P := True ∧ True) (σ1 := (27, [some (aI v0)], [aI ((0 : Int32))], M)) tc_142 rfl 1 (fun u => ⟨_, rfl⟩) ⟨trivial, trivial⟩ ?_
      exact gd_ret tc_142 rfl rfl h.1 (fun _ => rfl) ⟨_, rfl, rfl, h.2⟩
    · have h := h.2 hc
      show Gd d w 142 _ (22, [some (aI v0)], [], M)
      refine gd_s (P := True ∧ True ∧ True) (σ1 := (27, [some (aI v0)], [aI ((1 : Int32))], M)) tc_142 rfl 2 (fun u => ⟨_, rfl⟩) ⟨trivial, trivial, trivial⟩ ?_
      exact gd_ret tc_142 rfl rfl h.1 (fun _ => rfl) ⟨_, rfl, rfl, h.2⟩
theorem tc_144 : tC 144 = c144 := rfl
/-- PolicyJudgeModel.isDigit(I)Z -/
def w_Mo_isDigit (post : Int32 → Prop) (v0 : Int32) (M : aM) : Prop := w_Mo_in (fun x1 => (x1 = 0 ∨ x1 = 1) ∧ post x1) v0 ((48 : Int32)) ((57 : Int32)) M
theorem g_Mo_isDigit {d w : Nat} (hd : 1 ≤ d) (hw : 22 ≤ w) {post : Int32 → Prop} {v0 : Int32} {M : aM} (h : w_Mo_isDigit post v0 M) : Gd d w 144 (pIn M post) (0, aEnt 144 [aI v0], [], M) := by
  unfold w_Mo_isDigit at h
  show Gd d w 144 _ (0, [some (aI v0)], [], M)
  refine gd_s (P := True ∧ True ∧ True ∧ True) (σ1 := (5, [some (aI v0)], [aI ((57 : Int32)), aI ((48 : Int32)), aI v0], M)) tc_144 rfl 3 (fun u => ⟨_, rfl⟩) ⟨trivial, trivial, trivial, trivial⟩ ?_
  refine gd_callN (ml := 3) (as := [aI v0, aI ((48 : Int32)), aI ((57 : Int32))]) (rest := []) tc_144 rfl rfl rfl rfl rfl (by omega) (by omega) (Nat.le_of_ble_eq_true rfl) rfl (g_Mo_in (by omega) (by omega) h) (fun r9 M9 h => ?_)
  obtain ⟨x1, rfl, e9, h⟩ := h
  subst M9
  show Gd d w 144 _ (8, [some (aI v0)], [aI x1], M)
  exact gd_ret tc_144 rfl rfl h.1 (fun _ => rfl) ⟨_, rfl, rfl, h.2⟩
