/-! Mirrors, on. -/
theorem tc_143 : tC 143 = c143 := rfl
/-- PolicyJudgeModel.goesOn(I)Z -/
def w_Mo_goesOn (post : Int32 → Prop) (v0 : Int32) (M : aM) : Prop := w_Mo_isLetter (fun x1 => ((¬ x1 = ((0 : Int32))) → (((1 : Int32)) = 0 ∨ ((1 : Int32)) = 1) ∧ post ((1 : Int32))) ∧ (¬ (¬ x1 = ((0 : Int32))) → w_Mo_isDigit (fun x2 => ((¬ x2 = ((0 : Int32))) → (((1 : Int32)) = 0 ∨ ((1 : Int32)) = 1) ∧ post ((1 : Int32))) ∧ (¬ (¬ x2 = ((0 : Int32))) → ((¬ v0 = ((95 : Int32))) → (((0 : Int32)) = 0 ∨ ((0 : Int32)) = 1) ∧ post ((0 : Int32))) ∧ (¬ (¬ v0 = ((95 : Int32))) → (((1 : Int32)) = 0 ∨ ((1 : Int32)) = 1) ∧ post ((1 : Int32))))) v0 M)) v0 M
theorem g_Mo_goesOn {d w : Nat} (hd : 2 ≤ d) (hw : 42 ≤ w) {post : Int32 → Prop} {v0 : Int32} {M : aM} (h : w_Mo_goesOn post v0 M) : Gd d w 143 (pIn M post) (0, aEnt 143 [aI v0], [], M) := by
  unfold w_Mo_goesOn at h
  show Gd d w 143 _ (0, [some (aI v0)], [], M)
  refine gd_s (P := True ∧ True) (σ1 := (1, [some (aI v0)], [aI v0], M)) tc_143 rfl 1 (fun u => ⟨_, rfl⟩) ⟨trivial, trivial⟩ ?_
  refine gd_callN (ml := 1) (as := [aI v0]) (rest := []) tc_143 rfl rfl rfl rfl rfl (by omega) (by omega) (Nat.le_of_ble_eq_true rfl) rfl (g_Mo_isLetter (by omega) (by omega) h) (fun r9 M9 h => ?_)
  obtain ⟨x1, rfl, e9, h⟩ := h
  subst M9
  show Gd d w 143 _ (4, [some (aI v0)], [aI x1], M)
  refine gd_br (c := ¬ x1 = ((0 : Int32))) (st1 := []) tc_143 rfl rfl (fun _ => rfl) ⟨fun hc => ?_, fun hc => ?_⟩
  · have h := h.1 hc
    show Gd d w 143 _ (20, [some (aI v0)], [], M)
    refine gd_s (P := True ∧ True ∧ True) (σ1 := (25, [some (aI v0)], [aI ((1 : Int32))], M)) tc_143 rfl 2 (fun u => ⟨_, rfl⟩) ⟨trivial, trivial, trivial⟩ ?_
    exact gd_ret tc_143 rfl rfl h.1 (fun _ => rfl) ⟨_, rfl, rfl, h.2⟩
  · have h := h.2 hc
    show Gd d w 143 _ (7, [some (aI v0)], [], M)
    refine gd_s (P := True ∧ True) (σ1 := (8, [some (aI v0)], [aI v0], M)) tc_143 rfl 1 (fun u => ⟨_, rfl⟩) ⟨trivial, trivial⟩ ?_
    refine gd_callN (ml := 1) (as := [aI v0]) (rest := []) tc_143 rfl rfl rfl rfl rfl (by omega) (by omega) (Nat.le_of_ble_eq_true rfl) rfl (g_Mo_isDigit (by omega) (by omega) h) (fun r9 M9 h => ?_)
    obtain ⟨x2, rfl, e9, h⟩ := h
    subst M9
    show Gd d w 143 _ (11, [some (aI v0)], [aI x2], M)
    refine gd_br (c := ¬ x2 = ((0 : Int32))) (st1 := []) tc_143 rfl rfl (fun _ => rfl) ⟨fun hc => ?_, fun hc => ?_⟩
    · have h := h.1 hc
      show Gd d w 143 _ (20, [some (aI v0)], [], M)
      refine gd_s (P := True ∧ True ∧ True) (σ1 := (25, [some (aI v0)], [aI ((1 : Int32))], M)) tc_143 rfl 2 (fun u => ⟨_, rfl⟩) ⟨trivial, trivial, trivial⟩ ?_
      exact gd_ret tc_143 rfl rfl h.1 (fun _ => rfl) ⟨_, rfl, rfl, h.2⟩
    · have h := h.2 hc
      show Gd d w 143 _ (14, [some (aI v0)], [], M)
      refine gd_s (P := True ∧ True ∧ True) (σ1 := (17, [some (aI v0)], [aI ((95 : Int32)), aI v0], M)) tc_143 rfl 2 (fun u => ⟨_, rfl⟩) ⟨trivial, trivial, trivial⟩ ?_
      refine gd_br (c := ¬ v0 = ((95 : Int32))) (st1 := []) tc_143 rfl rfl (fun _ => rfl) ⟨fun hc => ?_, fun hc => ?_⟩
      · have h := h.1 hc
        show Gd d w 143 _ (24, [some (aI v0)], [], M)
        refine gd_s (P := True ∧ True) (σ1 := (25, [some (aI v0)], [aI ((0 : Int32))], M)) tc_143 rfl 1 (fun u => ⟨_, rfl⟩) ⟨trivial, trivial⟩ ?_
        exact gd_ret tc_143 rfl rfl h.1 (fun _ => rfl) ⟨_, rfl, rfl, h.2⟩
      · have h := h.2 hc
        show Gd d w 143 _ (20, [some (aI v0)], [], M)
        refine gd_s (P := True ∧ True ∧ True) (σ1 := (25, [some (aI v0)], [aI ((1 : Int32))], M)) tc_143 rfl 2 (fun u => ⟨_, rfl⟩) ⟨trivial, trivial, trivial⟩ ?_
        exact gd_ret tc_143 rfl rfl h.1 (fun _ => rfl) ⟨_, rfl, rfl, h.2⟩
theorem tc_145 : tC 145 = c145 := rfl
/-- PolicyJudgeModel.bad(I)V -/
def w_Mo_bad (post : aM → Prop) (k0 : Nat) (v1 : Int32) (M : aM) : Prop := ((¬ (rI M k0 38) = ((-1 : Int32))) → post M) ∧ (¬ (¬ (rI M k0 38) = ((-1 : Int32))) → post (wI (wI M k0 38 (rI M k0 35)) k0 32 v1))
theorem g_Mo_bad {d w : Nat} (hd : 0 ≤ d) (hw : 0 ≤ w) {post : aM → Prop} {k0 : Nat} {v1 : Int32} {M : aM} (h : w_Mo_bad post k0 v1 M) : Gd d w 145 (pV post) (0, aEnt 145 [aR 21 k0, aI v1], [], M) := by
  unfold w_Mo_bad at h
  show Gd d w 145 _ (0, [some (aR 21 k0), some (aI v1)], [], M)
  refine gd_s (P := True ∧ True ∧ True ∧ True) (σ1 := (5, [some (aR 21 k0), some (aI v1)], [aI ((-1 : Int32)), aI (rI M k0 38)], M)) tc_145 rfl 3 (fun u => ⟨_, rfl⟩) ⟨trivial, trivial, trivial, trivial⟩ ?_
  refine gd_br (c := ¬ (rI M k0 38) = ((-1 : Int32))) (st1 := []) tc_145 rfl rfl (fun _ => rfl) ⟨fun hc => ?_, fun hc => ?_⟩
  · have h := h.1 hc
    show Gd d w 145 _ (21, [some (aR 21 k0), some (aI v1)], [], M)
    exact gd_ret tc_145 rfl rfl trivial (fun _ => rfl) ⟨rfl, h⟩
  · have h := h.2 hc
    show Gd d w 145 _ (8, [some (aR 21 k0), some (aI v1)], [], M)
    refine gd_s (P := True ∧ True ∧ True ∧ True ∧ True ∧ True ∧ True ∧ True) (σ1 := (21, [some (aR 21 k0), some (aI v1)], [], wI (wI M k0 38 (rI M k0 35)) k0 32 v1)) tc_145 rfl 7 (fun u => ⟨_, rfl⟩) ⟨trivial, trivial, trivial, trivial, trivial, trivial, trivial, trivial⟩ ?_
    exact gd_ret tc_145 rfl rfl trivial (fun _ => rfl) ⟨rfl, h⟩
theorem tc_146 : tC 146 = c146 := rfl
/-- PolicyJudgeModel.isSign(I)Z -/
def w_Mo_isSign (post : Int32 → Prop) (v0 : Int32) (M : aM) : Prop := ((v0 = ((40 : Int32))) → (((1 : Int32)) = 0 ∨ ((1 : Int32)) = 1) ∧ post ((1 : Int32))) ∧ (¬ (v0 = ((40 : Int32))) → ((v0 = ((41 : Int32))) → (((1 : Int32)) = 0 ∨ ((1 : Int32)) = 1) ∧ post ((1 : Int32))) ∧ (¬ (v0 = ((41 : Int32))) → ((v0 = ((123 : Int32))) → (((1 : Int32)) = 0 ∨ ((1 : Int32)) = 1) ∧ post ((1 : Int32))) ∧ (¬ (v0 = ((123 : Int32))) → ((v0 = ((125 : Int32))) → (((1 : Int32)) = 0 ∨ ((1 : Int32)) = 1) ∧ post ((1 : Int32))) ∧ (¬ (v0 = ((125 : Int32))) → ((v0 = ((59 : Int32))) → (((1 : Int32)) = 0 ∨ ((1 : Int32)) = 1) ∧ post ((1 : Int32))) ∧ (¬ (v0 = ((59 : Int32))) → ((v0 = ((44 : Int32))) → (((1 : Int32)) = 0 ∨ ((1 : Int32)) = 1) ∧ post ((1 : Int32))) ∧ (¬ (v0 = ((44 : Int32))) → ((v0 = ((60 : Int32))) → (((1 : Int32)) = 0 ∨ ((1 : Int32)) = 1) ∧ post ((1 : Int32))) ∧ (¬ (v0 = ((60 : Int32))) → ((v0 = ((61 : Int32))) → (((1 : Int32)) = 0 ∨ ((1 : Int32)) = 1) ∧ post ((1 : Int32))) ∧ (¬ (v0 = ((61 : Int32))) → ((¬ v0 = ((62 : Int32))) → (((0 : Int32)) = 0 ∨ ((0 : Int32)) = 1) ∧ post ((0 : Int32))) ∧ (¬ (¬ v0 = ((62 : Int32))) → (((1 : Int32)) = 0 ∨ ((1 : Int32)) = 1) ∧ post ((1 : Int32)))))))))))
theorem g_Mo_isSign {d w : Nat} (hd : 0 ≤ d) (hw : 0 ≤ w) {post : Int32 → Prop} {v0 : Int32} {M : aM} (h : w_Mo_isSign post v0 M) : Gd d w 146 (pIn M post) (0, aEnt 146 [aI v0], [], M) := by
  unfold w_Mo_isSign at h
  show Gd d w 146 _ (0, [some (aI v0)], [], M)
  refine gd_s (P := True ∧ True ∧ True) (σ1 := (3, [some (aI v0)], [aI ((40 : Int32)), aI v0], M)) tc_146 rfl 2 (fun u => ⟨_, rfl⟩) ⟨trivial, trivial, trivial⟩ ?_
  refine gd_br (c := v0 = ((40 : Int32))) (st1 := []) tc_146 rfl rfl (fun _ => rfl) ⟨fun hc => ?_, fun hc => ?_⟩
  · have h := h.1 hc
    show Gd d w 146 _ (54, [some (aI v0)], [], M)
    refine gd_s (P := True ∧ True ∧ True) (σ1 := (59, [some (aI v0)], [aI ((1 : Int32))], M)) tc_146 rfl 2 (fun u => ⟨_, rfl⟩) ⟨trivial, trivial, trivial⟩ ?_
    exact gd_ret tc_146 rfl rfl h.1 (fun _ => rfl) ⟨_, rfl, rfl, h.2⟩
  · have h := h.2 hc
    show Gd d w 146 _ (6, [some (aI v0)], [], M)
    refine gd_s (P := True ∧ True ∧ True) (σ1 := (9, [some (aI v0)], [aI ((41 : Int32)), aI v0], M)) tc_146 rfl 2 (fun u => ⟨_, rfl⟩) ⟨trivial, trivial, trivial⟩ ?_
    refine gd_br (c := v0 = ((41 : Int32))) (st1 := []) tc_146 rfl rfl (fun _ => rfl) ⟨fun hc => ?_, fun hc => ?_⟩
    · have h := h.1 hc
      show Gd d w 146 _ (54, [some (aI v0)], [], M)
      refine gd_s (P := True ∧ True ∧ True) (σ1 := (59, [some (aI v0)], [aI ((1 : Int32))], M)) tc_146 rfl 2 (fun u => ⟨_, rfl⟩) ⟨trivial, trivial, trivial⟩ ?_
      exact gd_ret tc_146 rfl rfl h.1 (fun _ => rfl) ⟨_, rfl, rfl, h.2⟩
    · have h := h.2 hc
      show Gd d w 146 _ (12, [some (aI v0)], [], M)
      refine gd_s (P := True ∧ True ∧ True) (σ1 := (15, [some (aI v0)], [aI ((123 : Int32)), aI v0], M)) tc_146 rfl 2 (fun u => ⟨_, rfl⟩) ⟨trivial, trivial, trivial⟩ ?_
      refine gd_br (c := v0 = ((123 : Int32))) (st1 := []) tc_146 rfl rfl (fun _ => rfl) ⟨fun hc => ?_, fun hc => ?_⟩
      · have h := h.1 hc
        show Gd d w 146 _ (54, [some (aI v0)], [], M)
        refine gd_s (P := True ∧ True ∧ True) (σ1 := (59, [some (aI v0)], [aI ((1 : Int32))], M)) tc_146 rfl 2 (fun u => ⟨_, rfl⟩) ⟨trivial, trivial, trivial⟩ ?_
        exact gd_ret tc_146 rfl rfl h.1 (fun _ => rfl) ⟨_, rfl, rfl, h.2⟩
      · have h := h.2 hc
        show Gd d w 146 _ (18, [some (aI v0)], [], M)
        refine gd_s (P := True ∧ True ∧ True) (σ1 := (21, [some (aI v0)], [aI ((125 : Int32)), aI v0], M)) tc_146 rfl 2 (fun u => ⟨_, rfl⟩) ⟨trivial, trivial, trivial⟩ ?_
        refine gd_br (c := v0 = ((125 : Int32))) (st1 := []) tc_146 rfl rfl (fun _ => rfl) ⟨fun hc => ?_, fun hc => ?_⟩
        · have h := h.1 hc
          show Gd d w 146 _ (54, [some (aI v0)], [], M)
          refine gd_s (P := True ∧ True ∧ True) (σ1 := (59, [some (aI v0)], [aI ((1 : Int32))], M)) tc_146 rfl 2 (fun u => ⟨_, rfl⟩) ⟨trivial, trivial, trivial⟩ ?_
          exact gd_ret tc_146 rfl rfl h.1 (fun _ => rfl) ⟨_, rfl, rfl, h.2⟩
        · have h := h.2 hc
          show Gd d w 146 _ (24, [some (aI v0)], [], M)
          refine gd_s (P := True ∧ True ∧ True) (σ1 := (27, [some (aI v0)], [aI ((59 : Int32)), aI v0], M)) tc_146 rfl 2 (fun u => ⟨_, rfl⟩) ⟨trivial, trivial, trivial⟩ ?_
          refine gd_br (c := v0 = ((59 : Int32))) (st1 := []) tc_146 rfl rfl (fun _ => rfl) ⟨fun hc => ?_, fun hc => ?_⟩
          · have h := h.1 hc
            show Gd d w 146 _ (54, [some (aI v0)], [], M)
            refine gd_s (P := True ∧ True ∧ True) (σ1 := (59, [some (aI v0)], [aI ((1 : Int32))], M)) tc_146 rfl 2 (fun u => ⟨_, rfl⟩) ⟨trivial, trivial, trivial⟩ ?_
            exact gd_ret tc_146 rfl rfl h.1 (fun _ => rfl) ⟨_, rfl, rfl, h.2⟩
          · have h := h.2 hc
            show Gd d w 146 _ (30, [some (aI v0)], [], M)
            refine gd_s (P := True ∧ True ∧ True) (σ1 := (33, [some (aI v0)], [aI ((44 : Int32)), aI v0], M)) tc_146 rfl 2 (fun u => ⟨_, rfl⟩) ⟨trivial, trivial, trivial⟩ ?_
            refine gd_br (c := v0 = ((44 : Int32))) (st1 := []) tc_146 rfl rfl (fun _ => rfl) ⟨fun hc => ?_, fun hc => ?_⟩
            · have h := h.1 hc
              show Gd d w 146 _ (54, [some (aI v0)], [], M)
              refine gd_s (P := True ∧ True ∧ True) (σ1 := (59, [some (aI v0)], [aI ((1 : Int32))], M)) tc_146 rfl 2 (fun u => ⟨_, rfl⟩) ⟨trivial, trivial, trivial⟩ ?_
              exact gd_ret tc_146 rfl rfl h.1 (fun _ => rfl) ⟨_, rfl, rfl, h.2⟩
            · have h := h.2 hc
              show Gd d w 146 _ (36, [some (aI v0)], [], M)
              refine gd_s (P := True ∧ True ∧ True) (σ1 := (39, [some (aI v0)], [aI ((60 : Int32)), aI v0], M)) tc_146 rfl 2 (fun u => ⟨_, rfl⟩) ⟨trivial, trivial, trivial⟩ ?_
              refine gd_br (c := v0 = ((60 : Int32))) (st1 := []) tc_146 rfl rfl (fun _ => rfl) ⟨fun hc => ?_, fun hc => ?_⟩
              · have h := h.1 hc
                show Gd d w 146 _ (54, [some (aI v0)], [], M)
                refine gd_s (P := True ∧ True ∧ True) (σ1 := (59, [some (aI v0)], [aI ((1 : Int32))], M)) tc_146 rfl 2 (fun u => ⟨_, rfl⟩) ⟨trivial, trivial, trivial⟩ ?_
                exact gd_ret tc_146 rfl rfl h.1 (fun _ => rfl) ⟨_, rfl, rfl, h.2⟩
              · have h := h.2 hc
                show Gd d w 146 _ (42, [some (aI v0)], [], M)
                refine gd_s (P := True ∧ True ∧ True) (σ1 := (45, [some (aI v0)], [aI ((61 : Int32)), aI v0], M)) tc_146 rfl 2 (fun u => ⟨_, rfl⟩) ⟨trivial, trivial, trivial⟩ ?_
                refine gd_br (c := v0 = ((61 : Int32))) (st1 := []) tc_146 rfl rfl (fun _ => rfl) ⟨fun hc => ?_, fun hc => ?_⟩
                · have h := h.1 hc
                  show Gd d w 146 _ (54, [some (aI v0)], [], M)
                  refine gd_s (P := True ∧ True ∧ True) (σ1 := (59, [some (aI v0)], [aI ((1 : Int32))], M)) tc_146 rfl 2 (fun u => ⟨_, rfl⟩) ⟨trivial, trivial, trivial⟩ ?_
                  exact gd_ret tc_146 rfl rfl h.1 (fun _ => rfl) ⟨_, rfl, rfl, h.2⟩
                · have h := h.2 hc
                  show Gd d w 146 _ (48, [some (aI v0)], [], M)
                  refine gd_s (P := True ∧ True ∧ True) (σ1 := (51, [some (aI v0)], [aI ((62 : Int32)), aI v0], M)) tc_146 rfl 2 (fun u => ⟨_, rfl⟩) ⟨trivial, trivial, trivial⟩ ?_
                  refine gd_br (c := ¬ v0 = ((62 : Int32))) (st1 := []) tc_146 rfl rfl (fun _ => rfl) ⟨fun hc => ?_, fun hc => ?_⟩
                  · have h := h.1 hc
                    show Gd d w 146 _ (58, [some (aI v0)], [], M)
                    refine gd_s (P := True ∧ True) (σ1 := (59, [some (aI v0)], [aI ((0 : Int32))], M)) tc_146 rfl 1 (fun u => ⟨_, rfl⟩) ⟨trivial, trivial⟩ ?_
                    exact gd_ret tc_146 rfl rfl h.1 (fun _ => rfl) ⟨_, rfl, rfl, h.2⟩
                  · have h := h.2 hc
                    show Gd d w 146 _ (54, [some (aI v0)], [], M)
                    refine gd_s (P := True ∧ True ∧ True) (σ1 := (59, [some (aI v0)], [aI ((1 : Int32))], M)) tc_146 rfl 2 (fun u => ⟨_, rfl⟩) ⟨trivial, trivial, trivial⟩ ?_
                    exact gd_ret tc_146 rfl rfl h.1 (fun _ => rfl) ⟨_, rfl, rfl, h.2⟩
theorem tc_140 : tC 140 = c140 := rfl
def w_Mo_nextToken_J61 (post : aM → Prop) (K9 : Nat → aM → Prop) (k0 : Nat) (M : aM) : Prop := K9 k0 (wI M k0 33 ((rI M k0 33) + ((1 : Int32))))
theorem g_Mo_nextToken_J61 {d w : Nat} (hd : 3 ≤ d) (hw : 62 ≤ w) {post : aM → Prop} {K9 : Nat → aM → Prop} (hK9 : ∀ (k0 : Nat) (o1 : Option aV) (M : aM), K9 k0 M → Gd d w 140 (pV post) (9, [some (aR 21 k0), o1], [], M)) (k0 : Nat) (o1 : Option aV) (M : aM) (h : w_Mo_nextToken_J61 post K9 k0 M) : Gd d w 140 (pV post) (61, [some (aR 21 k0), o1], [], M) := by
  unfold w_Mo_nextToken_J61 at h
  show Gd d w 140 _ (61, [some (aR 21 k0), o1], [], M)
  refine gd_s (P := True ∧ True ∧ True ∧ True ∧ True ∧ True ∧ True ∧ True) (σ1 := (9, [some (aR 21 k0), o1], [], wI M k0 33 ((rI M k0 33) + ((1 : Int32))))) tc_140 rfl 7 (fun u => ⟨_, rfl⟩) ⟨trivial, trivial, trivial, trivial, trivial, trivial, trivial, trivial⟩ ?_
  exact hK9 k0 o1 (wI M k0 33 ((rI M k0 33) + ((1 : Int32)))) h
def w_Mo_nextToken_J297 (post : aM → Prop) (k0 : Nat) (M : aM) : Prop := post (wI M k0 33 ((rI M k0 33) + ((1 : Int32))))
theorem g_Mo_nextToken_J297 {d w : Nat} (hd : 3 ≤ d) (hw : 62 ≤ w) {post : aM → Prop} (k0 : Nat) (o1 : Option aV) (M : aM) (h : w_Mo_nextToken_J297 post k0 M) : Gd d w 140 (pV post) (297, [some (aR 21 k0), o1], [], M) := by
  unfold w_Mo_nextToken_J297 at h
  show Gd d w 140 _ (297, [some (aR 21 k0), o1], [], M)
  refine gd_s (P := True ∧ True ∧ True ∧ True ∧ True ∧ True ∧ True ∧ True) (σ1 := (315, [some (aR 21 k0), o1], [], wI M k0 33 ((rI M k0 33) + ((1 : Int32))))) tc_140 rfl 7 (fun u => ⟨_, rfl⟩) ⟨trivial, trivial, trivial, trivial, trivial, trivial, trivial, trivial⟩ ?_
  exact gd_ret tc_140 rfl rfl trivial (fun _ => rfl) ⟨rfl, h⟩
def w_Mo_nextToken_J292 (post : aM → Prop) (k0 : Nat) (M : aM) : Prop := w_Mo_nextToken_J297 post k0 (wI M k0 36 ((1 : Int32)))
theorem g_Mo_nextToken_J292 {d w : Nat} (hd : 3 ≤ d) (hw : 62 ≤ w) {post : aM → Prop} (k0 : Nat) (o1 : Option aV) (M : aM) (h : w_Mo_nextToken_J292 post k0 M) : Gd d w 140 (pV post) (292, [some (aR 21 k0), o1], [], M) := by
  unfold w_Mo_nextToken_J292 at h
  show Gd d w 140 _ (292, [some (aR 21 k0), o1], [], M)
  refine gd_s (P := True ∧ True ∧ True ∧ True) (σ1 := (297, [some (aR 21 k0), o1], [], wI M k0 36 ((1 : Int32)))) tc_140 rfl 3 (fun u => ⟨_, rfl⟩) ⟨trivial, trivial, trivial, trivial⟩ ?_
  exact g_Mo_nextToken_J297 hd hw k0 o1 (wI M k0 36 ((1 : Int32))) h
def w_Mo_nextToken_J258 (post : aM → Prop) (k0 : Nat) (M : aM) : Prop := w_Mo_at (fun x1 => w_Mo_goesOn (fun x2 => ((x2 = ((0 : Int32))) → post M) ∧ (¬ (x2 = ((0 : Int32))) → w_Mo_bad (fun M3 => post M3) k0 ((1 : Int32)) M)) x1 M) k0 (rI M k0 33) M
theorem g_Mo_nextToken_J258 {d w : Nat} (hd : 3 ≤ d) (hw : 62 ≤ w) {post : aM → Prop} (k0 : Nat) (o1 : Option aV) (M : aM) (h : w_Mo_nextToken_J258 post k0 M) : Gd d w 140 (pV post) (258, [some (aR 21 k0), o1], [], M) := by
  unfold w_Mo_nextToken_J258 at h
  show Gd d w 140 _ (258, [some (aR 21 k0), o1], [], M)
  refine gd_s (P := True ∧ True ∧ True ∧ True) (σ1 := (263, [some (aR 21 k0), o1], [aI (rI M k0 33), aR 21 k0], M)) tc_140 rfl 3 (fun u => ⟨_, rfl⟩) ⟨trivial, trivial, trivial, trivial⟩ ?_
  refine gd_callN (ml := 2) (as := [aR 21 k0, aI (rI M k0 33)]) (rest := []) tc_140 rfl rfl rfl rfl rfl (by omega) (by omega) (Nat.le_of_ble_eq_true rfl) rfl (g_Mo_at (by omega) (by omega) h) (fun r9 M9 h => ?_)
  obtain ⟨x1, rfl, e9, h⟩ := h
  subst M9
  show Gd d w 140 _ (266, [some (aR 21 k0), o1], [aI x1], M)
  refine gd_callN (ml := 1) (as := [aI x1]) (rest := []) tc_140 rfl rfl rfl rfl rfl (by omega) (by omega) (Nat.le_of_ble_eq_true rfl) rfl (g_Mo_goesOn (by omega) (by omega) h) (fun r9 M9 h => ?_)
  obtain ⟨x2, rfl, e9, h⟩ := h
  subst M9
  show Gd d w 140 _ (269, [some (aR 21 k0), o1], [aI x2], M)
  refine gd_br (c := x2 = ((0 : Int32))) (st1 := []) tc_140 rfl rfl (fun _ => rfl) ⟨fun hc => ?_, fun hc => ?_⟩
  · have h := h.1 hc
    show Gd d w 140 _ (315, [some (aR 21 k0), o1], [], M)
    exact gd_ret tc_140 rfl rfl trivial (fun _ => rfl) ⟨rfl, h⟩
  · have h := h.2 hc
    show Gd d w 140 _ (272, [some (aR 21 k0), o1], [], M)
    refine gd_s (P := True ∧ True ∧ True) (σ1 := (274, [some (aR 21 k0), o1], [aI ((1 : Int32)), aR 21 k0], M)) tc_140 rfl 2 (fun u => ⟨_, rfl⟩) ⟨trivial, trivial, trivial⟩ ?_
    refine gd_callN (ml := 2) (as := [aR 21 k0, aI ((1 : Int32))]) (rest := []) tc_140 rfl rfl rfl rfl rfl (by omega) (by omega) (Nat.le_of_ble_eq_true rfl) rfl (g_Mo_bad (by omega) (by omega) h) (fun r9 M3 h => ?_)
    obtain ⟨rfl, h⟩ := h
    show Gd d w 140 _ (277, [some (aR 21 k0), o1], [], M3)
    refine gd_s (P := True ∧ True) (σ1 := (315, [some (aR 21 k0), o1], [], M3)) tc_140 rfl 1 (fun u => ⟨_, rfl⟩) ⟨trivial, trivial⟩ ?_
    exact gd_ret tc_140 rfl rfl trivial (fun _ => rfl) ⟨rfl, h⟩
def w_Mo_nextToken_L195 (post : aM → Prop) : Nat → Nat → aM → Prop
  | 0, _, _ => False
  | n + 1, k0, M => w_Mo_at (fun x1 => w_Mo_isDigit (fun x2 => ((x2 = ((0 : Int32))) → w_Mo_nextToken_J258 post k0 M) ∧ (¬ (x2 = ((0 : Int32))) → ((((3 : Int32)) ≤ ((rI M k0 33) - (rI M k0 35))) → w_Mo_nextToken_J258 post k0 M) ∧ (¬ (((3 : Int32)) ≤ ((rI M k0 33) - (rI M k0 35))) → w_Mo_at (fun x3 => w_Mo_nextToken_L195 post n k0 (wI (wI M k0 37 (((((10 : Int32)) * (rI M k0 37)) + x3) - ((48 : Int32)))) k0 33 ((rI (wI M k0 37 (((((10 : Int32)) * (rI M k0 37)) + x3) - ((48 : Int32)))) k0 33) + ((1 : Int32))))) k0 (rI M k0 33) M))) x1 M) k0 (rI M k0 33) M
theorem g_Mo_nextToken_L195 {d w : Nat} (hd : 3 ≤ d) (hw : 62 ≤ w) {post : aM → Prop} : ∀ (n : Nat) (k0 : Nat) (o1 : Option aV) (M : aM), w_Mo_nextToken_L195 post n k0 M → Gd d w 140 (pV post) (195, [some (aR 21 k0), o1], [], M) := by
  intro n
  induction n with
  | zero => intro k0 o1 M h; exact h.elim
  | succ n ih =>
    intro k0 o1 M h
    show Gd d w 140 _ (195, [some (aR 21 k0), o1], [], M)
    refine gd_s (P := True ∧ True ∧ True ∧ True) (σ1 := (200, [some (aR 21 k0), o1], [aI (rI M k0 33), aR 21 k0], M)) tc_140 rfl 3 (fun u => ⟨_, rfl⟩) ⟨trivial, trivial, trivial, trivial⟩ ?_
    refine gd_callN (ml := 2) (as := [aR 21 k0, aI (rI M k0 33)]) (rest := []) tc_140 rfl rfl rfl rfl rfl (by omega) (by omega) (Nat.le_of_ble_eq_true rfl) rfl (g_Mo_at (by omega) (by omega) h) (fun r9 M9 h => ?_)
    obtain ⟨x1, rfl, e9, h⟩ := h
    subst M9
    show Gd d w 140 _ (203, [some (aR 21 k0), o1], [aI x1], M)
    refine gd_callN (ml := 1) (as := [aI x1]) (rest := []) tc_140 rfl rfl rfl rfl rfl (by omega) (by omega) (Nat.le_of_ble_eq_true rfl) rfl (g_Mo_isDigit (by omega) (by omega) h) (fun r9 M9 h => ?_)
    obtain ⟨x2, rfl, e9, h⟩ := h
    subst M9
    show Gd d w 140 _ (206, [some (aR 21 k0), o1], [aI x2], M)
    refine gd_br (c := x2 = ((0 : Int32))) (st1 := []) tc_140 rfl rfl (fun _ => rfl) ⟨fun hc => ?_, fun hc => ?_⟩
    · have h := h.1 hc
      exact g_Mo_nextToken_J258 hd hw k0 o1 M h
    · have h := h.2 hc
      show Gd d w 140 _ (209, [some (aR 21 k0), o1], [], M)
      refine gd_s (P := True ∧ True ∧ True ∧ True ∧ True ∧ True ∧ True) (σ1 := (219, [some (aR 21 k0), o1], [aI ((3 : Int32)), aI ((rI M k0 33) - (rI M k0 35))], M)) tc_140 rfl 6 (fun u => ⟨_, rfl⟩) ⟨trivial, trivial, trivial, trivial, trivial, trivial, trivial⟩ ?_
      refine gd_br (c := ((3 : Int32)) ≤ ((rI M k0 33) - (rI M k0 35))) (st1 := []) tc_140 rfl rfl (fun _ => rfl) ⟨fun hc => ?_, fun hc => ?_⟩
      · have h := h.1 hc
        exact g_Mo_nextToken_J258 hd hw k0 o1 M h
      · have h := h.2 hc
        show Gd d w 140 _ (222, [some (aR 21 k0), o1], [], M)
        refine gd_s (P := True ∧ True ∧ True ∧ True ∧ True ∧ True ∧ True ∧ True ∧ True) (σ1 := (235, [some (aR 21 k0), o1], [aI (rI M k0 33), aR 21 k0, aI (((10 : Int32)) * (rI M k0 37)), aR 21 k0], M)) tc_140 rfl 8 (fun u => ⟨_, rfl⟩) ⟨trivial, trivial, trivial, trivial, trivial, trivial, trivial, trivial, trivial⟩ ?_
        refine gd_callN (ml := 2) (as := [aR 21 k0, aI (rI M k0 33)]) (rest := [aI (((10 : Int32)) * (rI M k0 37)), aR 21 k0]) tc_140 rfl rfl rfl rfl rfl (by omega) (by omega) (Nat.le_of_ble_eq_true rfl) rfl (g_Mo_at (by omega) (by omega) h) (fun r9 M9 h => ?_)
        obtain ⟨x3, rfl, e9, h⟩ := h
        subst M9
        show Gd d w 140 _ (238, [some (aR 21 k0), o1], [aI x3, aI (((10 : Int32)) * (rI M k0 37)), aR 21 k0], M)
        refine gd_s (P := True ∧ True ∧ True ∧ True ∧ True ∧ True ∧ True ∧ True ∧ True ∧ True ∧ True ∧ True) (σ1 := (195, [some (aR 21 k0), o1], [], wI (wI M k0 37 (((((10 : Int32)) * (rI M k0 37)) + x3) - ((48 : Int32)))) k0 33 ((rI (wI M k0 37 (((((10 : Int32)) * (rI M k0 37)) + x3) - ((48 : Int32)))) k0 33) + ((1 : Int32))))) tc_140 rfl 11 (fun u => ⟨_, rfl⟩) ⟨trivial, trivial, trivial, trivial, trivial, trivial, trivial, trivial, trivial, trivial, trivial, trivial⟩ ?_
        exact ih k0 o1 (wI (wI M k0 37 (((((10 : Int32)) * (rI M k0 37)) + x3) - ((48 : Int32)))) k0 33 ((rI (wI M k0 37 (((((10 : Int32)) * (rI M k0 37)) + x3) - ((48 : Int32)))) k0 33) + ((1 : Int32)))) h
def w_Mo_nextToken_L121 (post : aM → Prop) : Nat → Nat → aM → Prop
  | 0, _, _ => False
  | n + 1, k0, M => w_Mo_at (fun x1 => w_Mo_goesOn (fun x2 => ((x2 = ((0 : Int32))) → (((rI (wI M k0 36 ((rI M k0 33) - (rI M k0 35))) k0 36) ≤ ((12 : Int32))) → post (wI M k0 36 ((rI M k0 33) - (rI M k0 35)))) ∧ (¬ ((rI (wI M k0 36 ((rI M k0 33) - (rI M k0 35))) k0 36) ≤ ((12 : Int32))) → w_Mo_bad (fun M3 => post M3) k0 ((1 : Int32)) (wI M k0 36 ((rI M k0 33) - (rI M k0 35))))) ∧ (¬ (x2 = ((0 : Int32))) → w_Mo_nextToken_L121 post n k0 (wI M k0 33 ((rI M k0 33) + ((1 : Int32)))))) x1 M) k0 (rI M k0 33) M
theorem g_Mo_nextToken_L121 {d w : Nat} (hd : 3 ≤ d) (hw : 62 ≤ w) {post : aM → Prop} : ∀ (n : Nat) (k0 : Nat) (o1 : Option aV) (M : aM), w_Mo_nextToken_L121 post n k0 M → Gd d w 140 (pV post) (121, [some (aR 21 k0), o1], [], M) := by
  intro n
  induction n with
  | zero => intro k0 o1 M h; exact h.elim
  | succ n ih =>
    intro k0 o1 M h
    show Gd d w 140 _ (121, [some (aR 21 k0), o1], [], M)
    refine gd_s (P := True ∧ True ∧ True ∧ True) (σ1 := (126, [some (aR 21 k0), o1], [aI (rI M k0 33), aR 21 k0], M)) tc_140 rfl 3 (fun u => ⟨_, rfl⟩) ⟨trivial, trivial, trivial, trivial⟩ ?_
    refine gd_callN (ml := 2) (as := [aR 21 k0, aI (rI M k0 33)]) (rest := []) tc_140 rfl rfl rfl rfl rfl (by omega) (by omega) (Nat.le_of_ble_eq_true rfl) rfl (g_Mo_at (by omega) (by omega) h) (fun r9 M9 h => ?_)
    obtain ⟨x1, rfl, e9, h⟩ := h
    subst M9
    show Gd d w 140 _ (129, [some (aR 21 k0), o1], [aI x1], M)
    refine gd_callN (ml := 1) (as := [aI x1]) (rest := []) tc_140 rfl rfl rfl rfl rfl (by omega) (by omega) (Nat.le_of_ble_eq_true rfl) rfl (g_Mo_goesOn (by omega) (by omega) h) (fun r9 M9 h => ?_)
    obtain ⟨x2, rfl, e9, h⟩ := h
    subst M9
    show Gd d w 140 _ (132, [some (aR 21 k0), o1], [aI x2], M)
    refine gd_br (c := x2 = ((0 : Int32))) (st1 := []) tc_140 rfl rfl (fun _ => rfl) ⟨fun hc => ?_, fun hc => ?_⟩
    · have h := h.1 hc
      show Gd d w 140 _ (148, [some (aR 21 k0), o1], [], M)
      refine gd_s (P := True ∧ True ∧ True ∧ True ∧ True ∧ True ∧ True ∧ True ∧ True ∧ True ∧ True) (σ1 := (167, [some (aR 21 k0), o1], [aI ((12 : Int32)), aI (rI (wI M k0 36 ((rI M k0 33) - (rI M k0 35))) k0 36)], wI M k0 36 ((rI M k0 33) - (rI M k0 35)))) tc_140 rfl 10 (fun u => ⟨_, rfl⟩) ⟨trivial, trivial, trivial, trivial, trivial, trivial, trivial, trivial, trivial, trivial, trivial⟩ ?_
      refine gd_br (c := (rI (wI M k0 36 ((rI M k0 33) - (rI M k0 35))) k0 36) ≤ ((12 : Int32))) (st1 := []) tc_140 rfl rfl (fun _ => rfl) ⟨fun hc => ?_, fun hc => ?_⟩
      · have h := h.1 hc
        show Gd d w 140 _ (315, [some (aR 21 k0), o1], [], wI M k0 36 ((rI M k0 33) - (rI M k0 35)))
        exact gd_ret tc_140 rfl rfl trivial (fun _ => rfl) ⟨rfl, h⟩
      · have h := h.2 hc
        show Gd d w 140 _ (170, [some (aR 21 k0), o1], [], wI M k0 36 ((rI M k0 33) - (rI M k0 35)))
        refine gd_s (P := True ∧ True ∧ True) (σ1 := (172, [some (aR 21 k0), o1], [aI ((1 : Int32)), aR 21 k0], wI M k0 36 ((rI M k0 33) - (rI M k0 35)))) tc_140 rfl 2 (fun u => ⟨_, rfl⟩) ⟨trivial, trivial, trivial⟩ ?_
        refine gd_callN (ml := 2) (as := [aR 21 k0, aI ((1 : Int32))]) (rest := []) tc_140 rfl rfl rfl rfl rfl (by omega) (by omega) (Nat.le_of_ble_eq_true rfl) rfl (g_Mo_bad (by omega) (by omega) h) (fun r9 M3 h => ?_)
        obtain ⟨rfl, h⟩ := h
        show Gd d w 140 _ (175, [some (aR 21 k0), o1], [], M3)
        refine gd_s (P := True ∧ True) (σ1 := (315, [some (aR 21 k0), o1], [], M3)) tc_140 rfl 1 (fun u => ⟨_, rfl⟩) ⟨trivial, trivial⟩ ?_
        exact gd_ret tc_140 rfl rfl trivial (fun _ => rfl) ⟨rfl, h⟩
    · have h := h.2 hc
      show Gd d w 140 _ (135, [some (aR 21 k0), o1], [], M)
      refine gd_s (P := True ∧ True ∧ True ∧ True ∧ True ∧ True ∧ True ∧ True) (σ1 := (121, [some (aR 21 k0), o1], [], wI M k0 33 ((rI M k0 33) + ((1 : Int32))))) tc_140 rfl 7 (fun u => ⟨_, rfl⟩) ⟨trivial, trivial, trivial, trivial, trivial, trivial, trivial, trivial⟩ ?_
      exact ih k0 o1 (wI M k0 33 ((rI M k0 33) + ((1 : Int32)))) h
def w_Mo_nextToken_L9 (post : aM → Prop) : Nat → Nat → aM → Prop
  | 0, _, _ => False
  | n + 1, k0, M => w_Mo_at (fun x1 => ((x1 = ((9 : Int32))) → w_Mo_nextToken_J61 post (w_Mo_nextToken_L9 post n) k0 M) ∧ (¬ (x1 = ((9 : Int32))) → w_Mo_at (fun x2 => ((x2 = ((10 : Int32))) → w_Mo_nextToken_J61 post (w_Mo_nextToken_L9 post n) k0 M) ∧ (¬ (x2 = ((10 : Int32))) → w_Mo_at (fun x3 => ((x3 = ((13 : Int32))) → w_Mo_nextToken_J61 post (w_Mo_nextToken_L9 post n) k0 M) ∧ (¬ (x3 = ((13 : Int32))) → w_Mo_at (fun x4 => ((¬ x4 = ((32 : Int32))) → w_Mo_at (fun x5 => ((¬ x5 = ((-1 : Int32))) → w_Mo_isLetter (fun x6 => ((x6 = ((0 : Int32))) → w_Mo_isDigit (fun x7 => ((x7 = ((0 : Int32))) → w_Mo_isSign (fun x8 => ((x8 = ((0 : Int32))) → w_Mo_bad (fun M9 => post M9) k0 ((1 : Int32)) (wI M k0 35 (rI M k0 33))) ∧ (¬ (x8 = ((0 : Int32))) → w_Mo_nextToken_J292 post k0 (wI (wI M k0 35 (rI M k0 33)) k0 34 ((3 : Int32))))) x5 (wI M k0 35 (rI M k0 33))) ∧ (¬ (x7 = ((0 : Int32))) → ∃ n9, w_Mo_nextToken_L195 post n9 k0 (wI (wI (wI M k0 35 (rI M k0 33)) k0 34 ((2 : Int32))) k0 37 ((0 : Int32))))) x5 (wI M k0 35 (rI M k0 33))) ∧ (¬ (x6 = ((0 : Int32))) → ∃ n9, w_Mo_nextToken_L121 post n9 k0 (wI (wI M k0 35 (rI M k0 33)) k0 34 ((1 : Int32))))) x5 (wI M k0 35 (rI M k0 33))) ∧ (¬ (¬ x5 = ((-1 : Int32))) → post (wI (wI (wI M k0 35 (rI M k0 33)) k0 34 ((4 : Int32))) k0 36 ((0 : Int32))))) k0 (rI (wI M k0 35 (rI M k0 33)) k0 33) (wI M k0 35 (rI M k0 33))) ∧ (¬ (¬ x4 = ((32 : Int32))) → w_Mo_nextToken_J61 post (w_Mo_nextToken_L9 post n) k0 M)) k0 (rI M k0 33) M)) k0 (rI M k0 33) M)) k0 (rI M k0 33) M)) k0 (rI M k0 33) M
theorem g_Mo_nextToken_L9 {d w : Nat} (hd : 3 ≤ d) (hw : 62 ≤ w) {post : aM → Prop} : ∀ (n : Nat) (k0 : Nat) (o1 : Option aV) (M : aM), w_Mo_nextToken_L9 post n k0 M → Gd d w 140 (pV post) (9, [some (aR 21 k0), o1], [], M) := by
  intro n
  induction n with
  | zero => intro k0 o1 M h; exact h.elim
  | succ n ih =>
    intro k0 o1 M h
    show Gd d w 140 _ (9, [some (aR 21 k0), o1], [], M)
    refine gd_s (P := True ∧ True ∧ True ∧ True) (σ1 := (14, [some (aR 21 k0), o1], [aI (rI M k0 33), aR 21 k0], M)) tc_140 rfl 3 (fun u => ⟨_, rfl⟩) ⟨trivial, trivial, trivial, trivial⟩ ?_
    refine gd_callN (ml := 2) (as := [aR 21 k0, aI (rI M k0 33)]) (rest := []) tc_140 rfl rfl rfl rfl rfl (by omega) (by omega) (Nat.le_of_ble_eq_true rfl) rfl (g_Mo_at (by omega) (by omega) h) (fun r9 M9 h => ?_)
    obtain ⟨x1, rfl, e9, h⟩ := h
    subst M9
    show Gd d w 140 _ (17, [some (aR 21 k0), o1], [aI x1], M)
    refine gd_s (P := True ∧ True) (σ1 := (19, [some (aR 21 k0), o1], [aI ((9 : Int32)), aI x1], M)) tc_140 rfl 1 (fun u => ⟨_, rfl⟩) ⟨trivial, trivial⟩ ?_
    refine gd_br (c := x1 = ((9 : Int32))) (st1 := []) tc_140 rfl rfl (fun _ => rfl) ⟨fun hc => ?_, fun hc => ?_⟩
    · have h := h.1 hc
      exact g_Mo_nextToken_J61 hd hw ih k0 o1 M h
    · have h := h.2 hc
      show Gd d w 140 _ (22, [some (aR 21 k0), o1], [], M)
      refine gd_s (P := True ∧ True ∧ True ∧ True) (σ1 := (27, [some (aR 21 k0), o1], [aI (rI M k0 33), aR 21 k0], M)) tc_140 rfl 3 (fun u => ⟨_, rfl⟩) ⟨trivial, trivial, trivial, trivial⟩ ?_
      refine gd_callN (ml := 2) (as := [aR 21 k0, aI (rI M k0 33)]) (rest := []) tc_140 rfl rfl rfl rfl rfl (by omega) (by omega) (Nat.le_of_ble_eq_true rfl) rfl (g_Mo_at (by omega) (by omega) h) (fun r9 M9 h => ?_)
      obtain ⟨x2, rfl, e9, h⟩ := h
      subst M9
      show Gd d w 140 _ (30, [some (aR 21 k0), o1], [aI x2], M)
      refine gd_s (P := True ∧ True) (σ1 := (32, [some (aR 21 k0), o1], [aI ((10 : Int32)), aI x2], M)) tc_140 rfl 1 (fun u => ⟨_, rfl⟩) ⟨trivial, trivial⟩ ?_
      refine gd_br (c := x2 = ((10 : Int32))) (st1 := []) tc_140 rfl rfl (fun _ => rfl) ⟨fun hc => ?_, fun hc => ?_⟩
      · have h := h.1 hc
        exact g_Mo_nextToken_J61 hd hw ih k0 o1 M h
      · have h := h.2 hc
        show Gd d w 140 _ (35, [some (aR 21 k0), o1], [], M)
        refine gd_s (P := True ∧ True ∧ True ∧ True) (σ1 := (40, [some (aR 21 k0), o1], [aI (rI M k0 33), aR 21 k0], M)) tc_140 rfl 3 (fun u => ⟨_, rfl⟩) ⟨trivial, trivial, trivial, trivial⟩ ?_
        refine gd_callN (ml := 2) (as := [aR 21 k0, aI (rI M k0 33)]) (rest := []) tc_140 rfl rfl rfl rfl rfl (by omega) (by omega) (Nat.le_of_ble_eq_true rfl) rfl (g_Mo_at (by omega) (by omega) h) (fun r9 M9 h => ?_)
        obtain ⟨x3, rfl, e9, h⟩ := h
        subst M9
        show Gd d w 140 _ (43, [some (aR 21 k0), o1], [aI x3], M)
        refine gd_s (P := True ∧ True) (σ1 := (45, [some (aR 21 k0), o1], [aI ((13 : Int32)), aI x3], M)) tc_140 rfl 1 (fun u => ⟨_, rfl⟩) ⟨trivial, trivial⟩ ?_
        refine gd_br (c := x3 = ((13 : Int32))) (st1 := []) tc_140 rfl rfl (fun _ => rfl) ⟨fun hc => ?_, fun hc => ?_⟩
        · have h := h.1 hc
          exact g_Mo_nextToken_J61 hd hw ih k0 o1 M h
        · have h := h.2 hc
          show Gd d w 140 _ (48, [some (aR 21 k0), o1], [], M)
          refine gd_s (P := True ∧ True ∧ True ∧ True) (σ1 := (53, [some (aR 21 k0), o1], [aI (rI M k0 33), aR 21 k0], M)) tc_140 rfl 3 (fun u => ⟨_, rfl⟩) ⟨trivial, trivial, trivial, trivial⟩ ?_
          refine gd_callN (ml := 2) (as := [aR 21 k0, aI (rI M k0 33)]) (rest := []) tc_140 rfl rfl rfl rfl rfl (by omega) (by omega) (Nat.le_of_ble_eq_true rfl) rfl (g_Mo_at (by omega) (by omega) h) (fun r9 M9 h => ?_)
          obtain ⟨x4, rfl, e9, h⟩ := h
          subst M9
          show Gd d w 140 _ (56, [some (aR 21 k0), o1], [aI x4], M)
          refine gd_s (P := True ∧ True) (σ1 := (58, [some (aR 21 k0), o1], [aI ((32 : Int32)), aI x4], M)) tc_140 rfl 1 (fun u => ⟨_, rfl⟩) ⟨trivial, trivial⟩ ?_
          refine gd_br (c := ¬ x4 = ((32 : Int32))) (st1 := []) tc_140 rfl rfl (fun _ => rfl) ⟨fun hc => ?_, fun hc => ?_⟩
          · have h := h.1 hc
            show Gd d w 140 _ (74, [some (aR 21 k0), o1], [], M)
            refine gd_s (P := True ∧ True ∧ True ∧ True ∧ True ∧ True ∧ True ∧ True) (σ1 := (87, [some (aR 21 k0), o1], [aI (rI (wI M k0 35 (rI M k0 33)) k0 33), aR 21 k0], wI M k0 35 (rI M k0 33))) tc_140 rfl 7 (fun u => ⟨_, rfl⟩) ⟨trivial, trivial, trivial, trivial, trivial, trivial, trivial, trivial⟩ ?_
            refine gd_callN (ml := 2) (as := [aR 21 k0, aI (rI (wI M k0 35 (rI M k0 33)) k0 33)]) (rest := []) tc_140 rfl rfl rfl rfl rfl (by omega) (by omega) (Nat.le_of_ble_eq_true rfl) rfl (g_Mo_at (by omega) (by omega) h) (fun r9 M9 h => ?_)
            obtain ⟨x5, rfl, e9, h⟩ := h
            subst M9
            show Gd d w 140 _ (90, [some (aR 21 k0), o1], [aI x5], wI M k0 35 (rI M k0 33))
            refine gd_s (P := True ∧ True ∧ True ∧ True) (σ1 := (93, [some (aR 21 k0), some (aI x5)], [aI ((-1 : Int32)), aI x5], wI M k0 35 (rI M k0 33))) tc_140 rfl 3 (fun u => ⟨_, rfl⟩) ⟨trivial, trivial, trivial, trivial⟩ ?_
            refine gd_br (c := ¬ x5 = ((-1 : Int32))) (st1 := []) tc_140 rfl rfl (fun _ => rfl) ⟨fun hc => ?_, fun hc => ?_⟩
            · have h := h.1 hc
              show Gd d w 140 _ (109, [some (aR 21 k0), some (aI x5)], [], wI M k0 35 (rI M k0 33))
              refine gd_s (P := True ∧ True) (σ1 := (110, [some (aR 21 k0), some (aI x5)], [aI x5], wI M k0 35 (rI M k0 33))) tc_140 rfl 1 (fun u => ⟨_, rfl⟩) ⟨trivial, trivial⟩ ?_
              refine gd_callN (ml := 1) (as := [aI x5]) (rest := []) tc_140 rfl rfl rfl rfl rfl (by omega) (by omega) (Nat.le_of_ble_eq_true rfl) rfl (g_Mo_isLetter (by omega) (by omega) h) (fun r9 M9 h => ?_)
              obtain ⟨x6, rfl, e9, h⟩ := h
              subst M9
              show Gd d w 140 _ (113, [some (aR 21 k0), some (aI x5)], [aI x6], wI M k0 35 (rI M k0 33))
              refine gd_br (c := x6 = ((0 : Int32))) (st1 := []) tc_140 rfl rfl (fun _ => rfl) ⟨fun hc => ?_, fun hc => ?_⟩
              · have h := h.1 hc
                show Gd d w 140 _ (178, [some (aR 21 k0), some (aI x5)], [], wI M k0 35 (rI M k0 33))
                refine gd_s (P := True ∧ True) (σ1 := (179, [some (aR 21 k0), some (aI x5)], [aI x5], wI M k0 35 (rI M k0 33))) tc_140 rfl 1 (fun u => ⟨_, rfl⟩) ⟨trivial, trivial⟩ ?_
                refine gd_callN (ml := 1) (as := [aI x5]) (rest := []) tc_140 rfl rfl rfl rfl rfl (by omega) (by omega) (Nat.le_of_ble_eq_true rfl) rfl (g_Mo_isDigit (by omega) (by omega) h) (fun r9 M9 h => ?_)
                obtain ⟨x7, rfl, e9, h⟩ := h
                subst M9
                show Gd d w 140 _ (182, [some (aR 21 k0), some (aI x5)], [aI x7], wI M k0 35 (rI M k0 33))
                refine gd_br (c := x7 = ((0 : Int32))) (st1 := []) tc_140 rfl rfl (fun _ => rfl) ⟨fun hc => ?_, fun hc => ?_⟩
                · have h := h.1 hc
                  show Gd d w 140 _ (280, [some (aR 21 k0), some (aI x5)], [], wI M k0 35 (rI M k0 33))
                  refine gd_s (P := True ∧ True) (σ1 := (281, [some (aR 21 k0), some (aI x5)], [aI x5], wI M k0 35 (rI M k0 33))) tc_140 rfl 1 (fun u => ⟨_, rfl⟩) ⟨trivial, trivial⟩ ?_
                  refine gd_callN (ml := 1) (as := [aI x5]) (rest := []) tc_140 rfl rfl rfl rfl rfl (by omega) (by omega) (Nat.le_of_ble_eq_true rfl) rfl (g_Mo_isSign (by omega) (by omega) h) (fun r9 M9 h => ?_)
                  obtain ⟨x8, rfl, e9, h⟩ := h
                  subst M9
                  show Gd d w 140 _ (284, [some (aR 21 k0), some (aI x5)], [aI x8], wI M k0 35 (rI M k0 33))
                  refine gd_br (c := x8 = ((0 : Int32))) (st1 := []) tc_140 rfl rfl (fun _ => rfl) ⟨fun hc => ?_, fun hc => ?_⟩
                  · have h := h.1 hc
                    show Gd d w 140 _ (310, [some (aR 21 k0), some (aI x5)], [], wI M k0 35 (rI M k0 33))
                    refine gd_s (P := True ∧ True ∧ True) (σ1 := (312, [some (aR 21 k0), some (aI x5)], [aI ((1 : Int32)), aR 21 k0], wI M k0 35 (rI M k0 33))) tc_140 rfl 2 (fun u => ⟨_, rfl⟩) ⟨trivial, trivial, trivial⟩ ?_
                    refine gd_callN (ml := 2) (as := [aR 21 k0, aI ((1 : Int32))]) (rest := []) tc_140 rfl rfl rfl rfl rfl (by omega) (by omega) (Nat.le_of_ble_eq_true rfl) rfl (g_Mo_bad (by omega) (by omega) h) (fun r9 M9 h => ?_)
                    obtain ⟨rfl, h⟩ := h
                    show Gd d w 140 _ (315, [some (aR 21 k0), some (aI x5)], [], M9)
                    exact gd_ret tc_140 rfl rfl trivial (fun _ => rfl) ⟨rfl, h⟩
                  · have h := h.2 hc
                    show Gd d w 140 _ (287, [some (aR 21 k0), some (aI x5)], [], wI M k0 35 (rI M k0 33))
                    refine gd_s (P := True ∧ True ∧ True ∧ True) (σ1 := (292, [some (aR 21 k0), some (aI x5)], [], wI (wI M k0 35 (rI M k0 33)) k0 34 ((3 : Int32)))) tc_140 rfl 3 (fun u => ⟨_, rfl⟩) ⟨trivial, trivial, trivial, trivial⟩ ?_
                    exact g_Mo_nextToken_J292 hd hw k0 (some (aI x5)) (wI (wI M k0 35 (rI M k0 33)) k0 34 ((3 : Int32))) h
                · have h := h.2 hc
                  show Gd d w 140 _ (185, [some (aR 21 k0), some (aI x5)], [], wI M k0 35 (rI M k0 33))
                  refine gd_s (P := True ∧ True ∧ True ∧ True ∧ True ∧ True ∧ True) (σ1 := (195, [some (aR 21 k0), some (aI x5)], [], wI (wI (wI M k0 35 (rI M k0 33)) k0 34 ((2 : Int32))) k0 37 ((0 : Int32)))) tc_140 rfl 6 (fun u => ⟨_, rfl⟩) ⟨trivial, trivial, trivial, trivial, trivial, trivial, trivial⟩ ?_
                  obtain ⟨n9, h⟩ := h
                  exact g_Mo_nextToken_L195 hd hw n9 k0 (some (aI x5)) (wI (wI (wI M k0 35 (rI M k0 33)) k0 34 ((2 : Int32))) k0 37 ((0 : Int32))) h
              · have h := h.2 hc
                show Gd d w 140 _ (116, [some (aR 21 k0), some (aI x5)], [], wI M k0 35 (rI M k0 33))
                refine gd_s (P := True ∧ True ∧ True ∧ True) (σ1 := (121, [some (aR 21 k0), some (aI x5)], [], wI (wI M k0 35 (rI M k0 33)) k0 34 ((1 : Int32)))) tc_140 rfl 3 (fun u => ⟨_, rfl⟩) ⟨trivial, trivial, trivial, trivial⟩ ?_
                obtain ⟨n9, h⟩ := h
                exact g_Mo_nextToken_L121 hd hw n9 k0 (some (aI x5)) (wI (wI M k0 35 (rI M k0 33)) k0 34 ((1 : Int32))) h
            · have h := h.2 hc
              show Gd d w 140 _ (96, [some (aR 21 k0), some (aI x5)], [], wI M k0 35 (rI M k0 33))
              refine gd_s (P := True ∧ True ∧ True ∧ True ∧ True ∧ True ∧ True ∧ True) (σ1 := (315, [some (aR 21 k0), some (aI x5)], [], wI (wI (wI M k0 35 (rI M k0 33)) k0 34 ((4 : Int32))) k0 36 ((0 : Int32)))) tc_140 rfl 7 (fun u => ⟨_, rfl⟩) ⟨trivial, trivial, trivial, trivial, trivial, trivial, trivial, trivial⟩ ?_
              exact gd_ret tc_140 rfl rfl trivial (fun _ => rfl) ⟨rfl, h⟩
          · have h := h.2 hc
            exact g_Mo_nextToken_J61 hd hw ih k0 o1 M h
/-- PolicyJudgeModel.nextToken()V -/
def w_Mo_nextToken (post : aM → Prop) (k0 : Nat) (M : aM) : Prop := (((rI M k0 38) = ((-1 : Int32))) → ∃ n9, w_Mo_nextToken_L9 post n9 k0 M) ∧ (¬ ((rI M k0 38) = ((-1 : Int32))) → post M)
theorem g_Mo_nextToken {d w : Nat} (hd : 3 ≤ d) (hw : 62 ≤ w) {post : aM → Prop} {k0 : Nat} {M : aM} (h : w_Mo_nextToken post k0 M) : Gd d w 140 (pV post) (0, aEnt 140 [aR 21 k0], [], M) := by
  unfold w_Mo_nextToken at h
  show Gd d w 140 _ (0, [some (aR 21 k0), none], [], M)
  refine gd_s (P := True ∧ True ∧ True ∧ True) (σ1 := (5, [some (aR 21 k0), none], [aI ((-1 : Int32)), aI (rI M k0 38)], M)) tc_140 rfl 3 (fun u => ⟨_, rfl⟩) ⟨trivial, trivial, trivial, trivial⟩ ?_
  refine gd_br (c := (rI M k0 38) = ((-1 : Int32))) (st1 := []) tc_140 rfl rfl (fun _ => rfl) ⟨fun hc => ?_, fun hc => ?_⟩
  · have h := h.1 hc
    obtain ⟨n9, h⟩ := h
    exact g_Mo_nextToken_L9 hd hw n9 k0 none M h
  · have h := h.2 hc
    show Gd d w 140 _ (8, [some (aR 21 k0), none], [], M)
    exact gd_ret tc_140 rfl rfl trivial (fun _ => rfl) ⟨rfl, h⟩
theorem tc_147 : tC 147 = c147 := rfl
def w_Mo_isWord_L27 (M : aM) (post : Int32 → Prop) : Nat → Nat → Nat → Int32 → Int32 → Prop
  | 0, _, _, _, _ => False
  | n + 1, k0, k1, v2, v3 => (((rI M k0 36) ≤ v3) → (v2 = 0 ∨ v2 = 1) ∧ post v2) ∧ (¬ ((rI M k0 36) ≤ v3) → ((v2 = ((0 : Int32))) → (v2 = 0 ∨ v2 = 1) ∧ post v2) ∧ (¬ (v2 = ((0 : Int32))) → w_Mo_at (fun x1 => (k1 < 59 ∧ vp_in v3 (tStr.getD k1 []).length) ∧ ((¬ x1 = ((tStr.getD k1 []).getD v3.toNatClampNeg 0)) → w_Mo_isWord_L27 M post n k0 k1 ((0 : Int32)) (v3 + (1 : Int32))) ∧ (¬ (¬ x1 = ((tStr.getD k1 []).getD v3.toNatClampNeg 0)) → w_Mo_isWord_L27 M post n k0 k1 ((1 : Int32)) (v3 + (1 : Int32)))) k0 ((rI M k0 35) + v3) M))
theorem g_Mo_isWord_L27 {d w : Nat} (hd : 6 ≤ d) (hw : 200 ≤ w) {M : aM} {post : Int32 → Prop} : ∀ (n : Nat) (k0 : Nat) (k1 : Nat) (v2 : Int32) (v3 : Int32), w_Mo_isWord_L27 M post n k0 k1 v2 v3 → Gd d w 147 (pIn M post) (27, [some (aR 21 k0), some (aR 1 k1), some (aI v2), some (aI v3)], [], M) := by
  intro n
  induction n with
  | zero => intro k0 k1 v2 v3 h; exact h.elim
  | succ n ih =>
    intro k0 k1 v2 v3 h
    show Gd d w 147 _ (27, [some (aR 21 k0), some (aR 1 k1), some (aI v2), some (aI v3)], [], M)
    refine gd_s (P := True ∧ True ∧ True ∧ True) (σ1 := (32, [some (aR 21 k0), some (aR 1 k1), some (aI v2), some (aI v3)], [aI (rI M k0 36), aI v3], M)) tc_147 rfl 3 (fun u => ⟨_, rfl⟩) ⟨trivial, trivial, trivial, trivial⟩ ?_
    refine gd_br (c := (rI M k0 36) ≤ v3) (st1 := []) tc_147 rfl rfl (fun _ => rfl) ⟨fun hc => ?_, fun hc => ?_⟩
    · have h := h.1 hc
      show Gd d w 147 _ (69, [some (aR 21 k0), some (aR 1 k1), some (aI v2), some (aI v3)], [], M)
      refine gd_s (P := True ∧ True) (σ1 := (70, [some (aR 21 k0), some (aR 1 k1), some (aI v2), some (aI v3)], [aI v2], M)) tc_147 rfl 1 (fun u => ⟨_, rfl⟩) ⟨trivial, trivial⟩ ?_
      exact gd_ret tc_147 rfl rfl h.1 (fun _ => rfl) ⟨_, rfl, rfl, h.2⟩
    · have h := h.2 hc
      show Gd d w 147 _ (35, [some (aR 21 k0), some (aR 1 k1), some (aI v2), some (aI v3)], [], M)
      refine gd_s (P := True ∧ True) (σ1 := (36, [some (aR 21 k0), some (aR 1 k1), some (aI v2), some (aI v3)], [aI v2], M)) tc_147 rfl 1 (fun u => ⟨_, rfl⟩) ⟨trivial, trivial⟩ ?_
      refine gd_br (c := v2 = ((0 : Int32))) (st1 := []) tc_147 rfl rfl (fun _ => rfl) ⟨fun hc => ?_, fun hc => ?_⟩
      · have h := h.1 hc
        show Gd d w 147 _ (69, [some (aR 21 k0), some (aR 1 k1), some (aI v2), some (aI v3)], [], M)
        refine gd_s (P := True ∧ True) (σ1 := (70, [some (aR 21 k0), some (aR 1 k1), some (aI v2), some (aI v3)], [aI v2], M)) tc_147 rfl 1 (fun u => ⟨_, rfl⟩) ⟨trivial, trivial⟩ ?_
        exact gd_ret tc_147 rfl rfl h.1 (fun _ => rfl) ⟨_, rfl, rfl, h.2⟩
      · have h := h.2 hc
        show Gd d w 147 _ (39, [some (aR 21 k0), some (aR 1 k1), some (aI v2), some (aI v3)], [], M)
        refine gd_s (P := True ∧ True ∧ True ∧ True ∧ True ∧ True) (σ1 := (46, [some (aR 21 k0), some (aR 1 k1), some (aI v2), some (aI v3)], [aI ((rI M k0 35) + v3), aR 21 k0], M)) tc_147 rfl 5 (fun u => ⟨_, rfl⟩) ⟨trivial, trivial, trivial, trivial, trivial, trivial⟩ ?_
        refine gd_callN (ml := 2) (as := [aR 21 k0, aI ((rI M k0 35) + v3)]) (rest := []) tc_147 rfl rfl rfl rfl rfl (by omega) (by omega) (Nat.le_of_ble_eq_true rfl) rfl (g_Mo_at (by omega) (by omega) h) (fun r9 M9 h => ?_)
        obtain ⟨x1, rfl, e9, h⟩ := h
        subst M9
        show Gd d w 147 _ (49, [some (aR 21 k0), some (aR 1 k1), some (aI v2), some (aI v3)], [aI x1], M)
        refine gd_s (P := True ∧ True ∧ True) (σ1 := (51, [some (aR 21 k0), some (aR 1 k1), some (aI v2), some (aI v3)], [aI v3, aR 1 k1, aI x1], M)) tc_147 rfl 2 (fun u => ⟨_, rfl⟩) ⟨trivial, trivial, trivial⟩ ?_
        obtain ⟨c0, h⟩ := h
        refine gd_prim (P := k1 < 59 ∧ vp_in v3 (tStr.getD k1 []).length) (σ1 := (54, [some (aR 21 k0), some (aR 1 k1), some (aI v2), some (aI v3)], [aI ((tStr.getD k1 []).getD v3.toNatClampNeg 0), aI x1], M)) tc_147 rfl rfl rfl rfl c0 (by omega) (by omega) (Nat.le_of_ble_eq_true rfl) ?_
        show Gd d w 147 _ (54, [some (aR 21 k0), some (aR 1 k1), some (aI v2), some (aI v3)], [aI ((tStr.getD k1 []).getD v3.toNatClampNeg 0), aI x1], M)
        refine gd_br (c := ¬ x1 = ((tStr.getD k1 []).getD v3.toNatClampNeg 0)) (st1 := []) tc_147 rfl rfl (fun _ => rfl) ⟨fun hc => ?_, fun hc => ?_⟩
        · have h := h.1 hc
          show Gd d w 147 _ (61, [some (aR 21 k0), some (aR 1 k1), some (aI v2), some (aI v3)], [], M)
          refine gd_s (P := True ∧ True ∧ True ∧ True ∧ True) (σ1 := (27, [some (aR 21 k0), some (aR 1 k1), some (aI ((0 : Int32))), some (aI (v3 + (1 : Int32)))], [], M)) tc_147 rfl 4 (fun u => ⟨_, rfl⟩) ⟨trivial, trivial, trivial, trivial, trivial⟩ ?_
          exact ih k0 k1 ((0 : Int32)) (v3 + (1 : Int32)) h
        · have h := h.2 hc
          show Gd d w 147 _ (57, [some (aR 21 k0), some (aR 1 k1), some (aI v2), some (aI v3)], [], M)
          refine gd_s (P := True ∧ True ∧ True ∧ True ∧ True ∧ True) (σ1 := (27, [some (aR 21 k0), some (aR 1 k1), some (aI ((1 : Int32))), some (aI (v3 + (1 : Int32)))], [], M)) tc_147 rfl 5 (fun u => ⟨_, rfl⟩) ⟨trivial, trivial, trivial, trivial, trivial, trivial⟩ ?_
          exact ih k0 k1 ((1 : Int32)) (v3 + (1 : Int32)) h
/-- PolicyJudgeModel.isWord(Ljava/lang/String;)Z -/
def w_Mo_isWord (post : Int32 → Prop) (k0 : Nat) (k1 : Nat) (M : aM) : Prop := ((¬ (rI M k0 34) = ((1 : Int32))) → ∃ n9, w_Mo_isWord_L27 M post n9 k0 k1 ((0 : Int32)) ((0 : Int32))) ∧ (¬ (¬ (rI M k0 34) = ((1 : Int32))) → (k1 < 59) ∧ ((¬ (rI M k0 36) = (Int32.ofNat (tStr.getD k1 []).length)) → ∃ n9, w_Mo_isWord_L27 M post n9 k0 k1 ((0 : Int32)) ((0 : Int32))) ∧ (¬ (¬ (rI M k0 36) = (Int32.ofNat (tStr.getD k1 []).length)) → ∃ n9, w_Mo_isWord_L27 M post n9 k0 k1 ((1 : Int32)) ((0 : Int32))))
theorem g_Mo_isWord {d w : Nat} (hd : 6 ≤ d) (hw : 200 ≤ w) {post : Int32 → Prop} {k0 : Nat} {k1 : Nat} {M : aM} (h : w_Mo_isWord post k0 k1 M) : Gd d w 147 (pIn M post) (0, aEnt 147 [aR 21 k0, aR 1 k1], [], M) := by
  unfold w_Mo_isWord at h
  show Gd d w 147 _ (0, [some (aR 21 k0), some (aR 1 k1), none, none], [], M)
  refine gd_s (P := True ∧ True ∧ True ∧ True) (σ1 := (5, [some (aR 21 k0), some (aR 1 k1), none, none], [aI ((1 : Int32)), aI (rI M k0 34)], M)) tc_147 rfl 3 (fun u => ⟨_, rfl⟩) ⟨trivial, trivial, trivial, trivial⟩ ?_
  refine gd_br (c := ¬ (rI M k0 34) = ((1 : Int32))) (st1 := []) tc_147 rfl rfl (fun _ => rfl) ⟨fun hc => ?_, fun hc => ?_⟩
  · have h := h.1 hc
    show Gd d w 147 _ (23, [some (aR 21 k0), some (aR 1 k1), none, none], [], M)
    refine gd_s (P := True ∧ True ∧ True ∧ True ∧ True) (σ1 := (27, [some (aR 21 k0), some (aR 1 k1), some (aI ((0 : Int32))), some (aI ((0 : Int32)))], [], M)) tc_147 rfl 4 (fun u => ⟨_, rfl⟩) ⟨trivial, trivial, trivial, trivial, trivial⟩ ?_
    obtain ⟨n9, h⟩ := h
    exact g_Mo_isWord_L27 hd hw n9 k0 k1 ((0 : Int32)) ((0 : Int32)) h
  · have h := h.2 hc
    show Gd d w 147 _ (8, [some (aR 21 k0), some (aR 1 k1), none, none], [], M)
    refine gd_s (P := True ∧ True ∧ True ∧ True) (σ1 := (13, [some (aR 21 k0), some (aR 1 k1), none, none], [aR 1 k1, aI (rI M k0 36)], M)) tc_147 rfl 3 (fun u => ⟨_, rfl⟩) ⟨trivial, trivial, trivial, trivial⟩ ?_
    obtain ⟨c0, h⟩ := h
    refine gd_prim (P := k1 < 59) (σ1 := (16, [some (aR 21 k0), some (aR 1 k1), none, none], [aI (Int32.ofNat (tStr.getD k1 []).length), aI (rI M k0 36)], M)) tc_147 rfl rfl rfl rfl c0 (by omega) (by omega) (Nat.le_of_ble_eq_true rfl) ?_
    show Gd d w 147 _ (16, [some (aR 21 k0), some (aR 1 k1), none, none], [aI (Int32.ofNat (tStr.getD k1 []).length), aI (rI M k0 36)], M)
    refine gd_br (c := ¬ (rI M k0 36) = (Int32.ofNat (tStr.getD k1 []).length)) (st1 := []) tc_147 rfl rfl (fun _ => rfl) ⟨fun hc => ?_, fun hc => ?_⟩
    · have h := h.1 hc
      show Gd d w 147 _ (23, [some (aR 21 k0), some (aR 1 k1), none, none], [], M)
      refine gd_s (P := True ∧ True ∧ True ∧ True ∧ True) (σ1 := (27, [some (aR 21 k0), some (aR 1 k1), some (aI ((0 : Int32))), some (aI ((0 : Int32)))], [], M)) tc_147 rfl 4 (fun u => ⟨_, rfl⟩) ⟨trivial, trivial, trivial, trivial, trivial⟩ ?_
      obtain ⟨n9, h⟩ := h
      exact g_Mo_isWord_L27 hd hw n9 k0 k1 ((0 : Int32)) ((0 : Int32)) h
    · have h := h.2 hc
      show Gd d w 147 _ (19, [some (aR 21 k0), some (aR 1 k1), none, none], [], M)
      refine gd_s (P := True ∧ True ∧ True ∧ True ∧ True ∧ True) (σ1 := (27, [some (aR 21 k0), some (aR 1 k1), some (aI ((1 : Int32))), some (aI ((0 : Int32)))], [], M)) tc_147 rfl 5 (fun u => ⟨_, rfl⟩) ⟨trivial, trivial, trivial, trivial, trivial, trivial⟩ ?_
      obtain ⟨n9, h⟩ := h
      exact g_Mo_isWord_L27 hd hw n9 k0 k1 ((1 : Int32)) ((0 : Int32)) h
theorem tc_150 : tC 150 = c150 := rfl
def w_Mo_among_J114 (M : aM) (post : Int32 → Prop) (K7 : Nat → Nat → Int32 → Int32 → Int32 → Prop) (k0 : Nat) (k1 : Nat) (v2 : Int32) (v4 : Int32) (v5 : Int32) : Prop := ((v5 = ((0 : Int32))) → K7 k0 k1 (v2 + (1 : Int32)) (v4 + ((1 : Int32))) (v4 + (1 : Int32))) ∧ (¬ (v5 = ((0 : Int32))) → post v2)
theorem g_Mo_among_J114 {d w : Nat} (hd : 6 ≤ d) (hw : 200 ≤ w) {M : aM} {post : Int32 → Prop} {K7 : Nat → Nat → Int32 → Int32 → Int32 → Prop} (hK7 : ∀ (k0 : Nat) (k1 : Nat) (v2 : Int32) (v3 : Int32) (v4 : Int32) (o5 o6 : Option aV), K7 k0 k1 v2 v3 v4 → Gd d w 150 (pIn M post) (7, [some (aR 21 k0), some (aR 1 k1), some (aI v2), some (aI v3), some (aI v4), o5, o6], [], M)) (k0 : Nat) (k1 : Nat) (v2 : Int32) (v4 : Int32) (v5 : Int32) (o3 o6 : Option aV) (h : w_Mo_among_J114 M post K7 k0 k1 v2 v4 v5) : Gd d w 150 (pIn M post) (114, [some (aR 21 k0), some (aR 1 k1), some (aI v2), o3, some (aI v4), some (aI v5), o6], [], M) := by
  unfold w_Mo_among_J114 at h
  show Gd d w 150 _ (114, [some (aR 21 k0), some (aR 1 k1), some (aI v2), o3, some (aI v4), some (aI v5), o6], [], M)
  refine gd_s (P := True ∧ True) (σ1 := (116, [some (aR 21 k0), some (aR 1 k1), some (aI v2), o3, some (aI v4), some (aI v5), o6], [aI v5], M)) tc_150 rfl 1 (fun u => ⟨_, rfl⟩) ⟨trivial, trivial⟩ ?_
  refine gd_br (c := v5 = ((0 : Int32))) (st1 := []) tc_150 rfl rfl (fun _ => rfl) ⟨fun hc => ?_, fun hc => ?_⟩
  · have h := h.1 hc
    show Gd d w 150 _ (121, [some (aR 21 k0), some (aR 1 k1), some (aI v2), o3, some (aI v4), some (aI v5), o6], [], M)
    refine gd_s (P := True ∧ True ∧ True ∧ True ∧ True ∧ True ∧ True ∧ True) (σ1 := (7, [some (aR 21 k0), some (aR 1 k1), some (aI (v2 + (1 : Int32))), some (aI (v4 + ((1 : Int32)))), some (aI (v4 + (1 : Int32))), some (aI v5), o6], [], M)) tc_150 rfl 7 (fun u => ⟨_, rfl⟩) ⟨trivial, trivial, trivial, trivial, trivial, trivial, trivial, trivial⟩ ?_
    exact hK7 k0 k1 (v2 + (1 : Int32)) (v4 + ((1 : Int32))) (v4 + (1 : Int32)) (some (aI v5)) o6 h
  · have h := h.2 hc
    show Gd d w 150 _ (119, [some (aR 21 k0), some (aR 1 k1), some (aI v2), o3, some (aI v4), some (aI v5), o6], [], M)
    refine gd_s (P := True ∧ True) (σ1 := (120, [some (aR 21 k0), some (aR 1 k1), some (aI v2), o3, some (aI v4), some (aI v5), o6], [aI v2], M)) tc_150 rfl 1 (fun u => ⟨_, rfl⟩) ⟨trivial, trivial⟩ ?_
    exact gd_ret tc_150 rfl rfl trivial (fun _ => rfl) ⟨_, rfl, rfl, h⟩
def w_Mo_among_L65 (M : aM) (post : Int32 → Prop) (K7 : Nat → Nat → Int32 → Int32 → Int32 → Prop) : Nat → Nat → Nat → Int32 → Int32 → Int32 → Int32 → Int32 → Prop
  | 0, _, _, _, _, _, _, _ => False
  | n + 1, k0, k1, v2, v3, v4, v5, v6 => (((rI M k0 36) ≤ v6) → w_Mo_among_J114 M post K7 k0 k1 v2 v4 v5) ∧ (¬ ((rI M k0 36) ≤ v6) → ((v5 = ((0 : Int32))) → w_Mo_among_J114 M post K7 k0 k1 v2 v4 v5) ∧ (¬ (v5 = ((0 : Int32))) → w_Mo_at (fun x1 => (k1 < 59 ∧ vp_in (v3 + v6) (tStr.getD k1 []).length) ∧ ((¬ x1 = ((tStr.getD k1 []).getD (v3 + v6).toNatClampNeg 0)) → w_Mo_among_L65 M post K7 n k0 k1 v2 v3 v4 ((0 : Int32)) (v6 + (1 : Int32))) ∧ (¬ (¬ x1 = ((tStr.getD k1 []).getD (v3 + v6).toNatClampNeg 0)) → w_Mo_among_L65 M post K7 n k0 k1 v2 v3 v4 ((1 : Int32)) (v6 + (1 : Int32)))) k0 ((rI M k0 35) + v6) M))
theorem g_Mo_among_L65 {d w : Nat} (hd : 6 ≤ d) (hw : 200 ≤ w) {M : aM} {post : Int32 → Prop} {K7 : Nat → Nat → Int32 → Int32 → Int32 → Prop} (hK7 : ∀ (k0 : Nat) (k1 : Nat) (v2 : Int32) (v3 : Int32) (v4 : Int32) (o5 o6 : Option aV), K7 k0 k1 v2 v3 v4 → Gd d w 150 (pIn M post) (7, [some (aR 21 k0), some (aR 1 k1), some (aI v2), some (aI v3), some (aI v4), o5, o6], [], M)) : ∀ (n : Nat) (k0 : Nat) (k1 : Nat) (v2 : Int32) (v3 : Int32) (v4 : Int32) (v5 : Int32) (v6 : Int32), w_Mo_among_L65 M post K7 n k0 k1 v2 v3 v4 v5 v6 → Gd d w 150 (pIn M post) (65, [some (aR 21 k0), some (aR 1 k1), some (aI v2), some (aI v3), some (aI v4), some (aI v5), some (aI v6)], [], M) := by
  intro n
  induction n with
  | zero => intro k0 k1 v2 v3 v4 v5 v6 h; exact h.elim
  | succ n ih =>
    intro k0 k1 v2 v3 v4 v5 v6 h
    show Gd d w 150 _ (65, [some (aR 21 k0), some (aR 1 k1), some (aI v2), some (aI v3), some (aI v4), some (aI v5), some (aI v6)], [], M)
    refine gd_s (P := True ∧ True ∧ True ∧ True) (σ1 := (71, [some (aR 21 k0), some (aR 1 k1), some (aI v2), some (aI v3), some (aI v4), some (aI v5), some (aI v6)], [aI (rI M k0 36), aI v6], M)) tc_150 rfl 3 (fun u => ⟨_, rfl⟩) ⟨trivial, trivial, trivial, trivial⟩ ?_
    refine gd_br (c := (rI M k0 36) ≤ v6) (st1 := []) tc_150 rfl rfl (fun _ => rfl) ⟨fun hc => ?_, fun hc => ?_⟩
    · have h := h.1 hc
      exact g_Mo_among_J114 hd hw hK7 k0 k1 v2 v4 v5 (some (aI v3)) (some (aI v6)) h
    · have h := h.2 hc
      show Gd d w 150 _ (74, [some (aR 21 k0), some (aR 1 k1), some (aI v2), some (aI v3), some (aI v4), some (aI v5), some (aI v6)], [], M)
      refine gd_s (P := True ∧ True) (σ1 := (76, [some (aR 21 k0), some (aR 1 k1), some (aI v2), some (aI v3), some (aI v4), some (aI v5), some (aI v6)], [aI v5], M)) tc_150 rfl 1 (fun u => ⟨_, rfl⟩) ⟨trivial, trivial⟩ ?_
      refine gd_br (c := v5 = ((0 : Int32))) (st1 := []) tc_150 rfl rfl (fun _ => rfl) ⟨fun hc => ?_, fun hc => ?_⟩
      · have h := h.1 hc
        exact g_Mo_among_J114 hd hw hK7 k0 k1 v2 v4 v5 (some (aI v3)) (some (aI v6)) h
      · have h := h.2 hc
        show Gd d w 150 _ (79, [some (aR 21 k0), some (aR 1 k1), some (aI v2), some (aI v3), some (aI v4), some (aI v5), some (aI v6)], [], M)
        refine gd_s (P := True ∧ True ∧ True ∧ True ∧ True ∧ True) (σ1 := (87, [some (aR 21 k0), some (aR 1 k1), some (aI v2), some (aI v3), some (aI v4), some (aI v5), some (aI v6)], [aI ((rI M k0 35) + v6), aR 21 k0], M)) tc_150 rfl 5 (fun u => ⟨_, rfl⟩) ⟨trivial, trivial, trivial, trivial, trivial, trivial⟩ ?_
        refine gd_callN (ml := 2) (as := [aR 21 k0, aI ((rI M k0 35) + v6)]) (rest := []) tc_150 rfl rfl rfl rfl rfl (by omega) (by omega) (Nat.le_of_ble_eq_true rfl) rfl (g_Mo_at (by omega) (by omega) h) (fun r9 M9 h => ?_)
        obtain ⟨x1, rfl, e9, h⟩ := h
        subst M9
        show Gd d w 150 _ (90, [some (aR 21 k0), some (aR 1 k1), some (aI v2), some (aI v3), some (aI v4), some (aI v5), some (aI v6)], [aI x1], M)
        refine gd_s (P := True ∧ True ∧ True ∧ True ∧ True) (σ1 := (95, [some (aR 21 k0), some (aR 1 k1), some (aI v2), some (aI v3), some (aI v4), some (aI v5), some (aI v6)], [aI (v3 + v6), aR 1 k1, aI x1], M)) tc_150 rfl 4 (fun u => ⟨_, rfl⟩) ⟨trivial, trivial, trivial, trivial, trivial⟩ ?_
        obtain ⟨c0, h⟩ := h
        refine gd_prim (P := k1 < 59 ∧ vp_in (v3 + v6) (tStr.getD k1 []).length) (σ1 := (98, [some (aR 21 k0), some (aR 1 k1), some (aI v2), some (aI v3), some (aI v4), some (aI v5), some (aI v6)], [aI ((tStr.getD k1 []).getD (v3 + v6).toNatClampNeg 0), aI x1], M)) tc_150 rfl rfl rfl rfl c0 (by omega) (by omega) (Nat.le_of_ble_eq_true rfl) ?_
        show Gd d w 150 _ (98, [some (aR 21 k0), some (aR 1 k1), some (aI v2), some (aI v3), some (aI v4), some (aI v5), some (aI v6)], [aI ((tStr.getD k1 []).getD (v3 + v6).toNatClampNeg 0), aI x1], M)
        refine gd_br (c := ¬ x1 = ((tStr.getD k1 []).getD (v3 + v6).toNatClampNeg 0)) (st1 := []) tc_150 rfl rfl (fun _ => rfl) ⟨fun hc => ?_, fun hc => ?_⟩
        · have h := h.1 hc
          show Gd d w 150 _ (105, [some (aR 21 k0), some (aR 1 k1), some (aI v2), some (aI v3), some (aI v4), some (aI v5), some (aI v6)], [], M)
          refine gd_s (P := True ∧ True ∧ True ∧ True ∧ True) (σ1 := (65, [some (aR 21 k0), some (aR 1 k1), some (aI v2), some (aI v3), some (aI v4), some (aI ((0 : Int32))), some (aI (v6 + (1 : Int32)))], [], M)) tc_150 rfl 4 (fun u => ⟨_, rfl⟩) ⟨trivial, trivial, trivial, trivial, trivial⟩ ?_
          exact ih k0 k1 v2 v3 v4 ((0 : Int32)) (v6 + (1 : Int32)) h
        · have h := h.2 hc
          show Gd d w 150 _ (101, [some (aR 21 k0), some (aR 1 k1), some (aI v2), some (aI v3), some (aI v4), some (aI v5), some (aI v6)], [], M)
          refine gd_s (P := True ∧ True ∧ True ∧ True ∧ True ∧ True) (σ1 := (65, [some (aR 21 k0), some (aR 1 k1), some (aI v2), some (aI v3), some (aI v4), some (aI ((1 : Int32))), some (aI (v6 + (1 : Int32)))], [], M)) tc_150 rfl 5 (fun u => ⟨_, rfl⟩) ⟨trivial, trivial, trivial, trivial, trivial, trivial⟩ ?_
          exact ih k0 k1 v2 v3 v4 ((1 : Int32)) (v6 + (1 : Int32)) h
def w_Mo_among_J36 (M : aM) (post : Int32 → Prop) (K7 : Nat → Nat → Int32 → Int32 → Int32 → Prop) (k0 : Nat) (k1 : Nat) (v2 : Int32) (v3 : Int32) (v4 : Int32) : Prop := ((¬ (rI M k0 34) = ((1 : Int32))) → ∃ n9, w_Mo_among_L65 M post K7 n9 k0 k1 v2 v3 v4 ((0 : Int32)) ((0 : Int32))) ∧ (¬ (¬ (rI M k0 34) = ((1 : Int32))) → ((¬ (rI M k0 36) = (v4 - v3)) → ∃ n9, w_Mo_among_L65 M post K7 n9 k0 k1 v2 v3 v4 ((0 : Int32)) ((0 : Int32))) ∧ (¬ (¬ (rI M k0 36) = (v4 - v3)) → ∃ n9, w_Mo_among_L65 M post K7 n9 k0 k1 v2 v3 v4 ((1 : Int32)) ((0 : Int32))))
theorem g_Mo_among_J36 {d w : Nat} (hd : 6 ≤ d) (hw : 200 ≤ w) {M : aM} {post : Int32 → Prop} {K7 : Nat → Nat → Int32 → Int32 → Int32 → Prop} (hK7 : ∀ (k0 : Nat) (k1 : Nat) (v2 : Int32) (v3 : Int32) (v4 : Int32) (o5 o6 : Option aV), K7 k0 k1 v2 v3 v4 → Gd d w 150 (pIn M post) (7, [some (aR 21 k0), some (aR 1 k1), some (aI v2), some (aI v3), some (aI v4), o5, o6], [], M)) (k0 : Nat) (k1 : Nat) (v2 : Int32) (v3 : Int32) (v4 : Int32) (o5 o6 : Option aV) (h : w_Mo_among_J36 M post K7 k0 k1 v2 v3 v4) : Gd d w 150 (pIn M post) (36, [some (aR 21 k0), some (aR 1 k1), some (aI v2), some (aI v3), some (aI v4), o5, o6], [], M) := by
  unfold w_Mo_among_J36 at h
  show Gd d w 150 _ (36, [some (aR 21 k0), some (aR 1 k1), some (aI v2), some (aI v3), some (aI v4), o5, o6], [], M)
  refine gd_s (P := True ∧ True ∧ True ∧ True) (σ1 := (41, [some (aR 21 k0), some (aR 1 k1), some (aI v2), some (aI v3), some (aI v4), o5, o6], [aI ((1 : Int32)), aI (rI M k0 34)], M)) tc_150 rfl 3 (fun u => ⟨_, rfl⟩) ⟨trivial, trivial, trivial, trivial⟩ ?_
  refine gd_br (c := ¬ (rI M k0 34) = ((1 : Int32))) (st1 := []) tc_150 rfl rfl (fun _ => rfl) ⟨fun hc => ?_, fun hc => ?_⟩
  · have h := h.1 hc
    show Gd d w 150 _ (59, [some (aR 21 k0), some (aR 1 k1), some (aI v2), some (aI v3), some (aI v4), o5, o6], [], M)
    refine gd_s (P := True ∧ True ∧ True ∧ True ∧ True) (σ1 := (65, [some (aR 21 k0), some (aR 1 k1), some (aI v2), some (aI v3), some (aI v4), some (aI ((0 : Int32))), some (aI ((0 : Int32)))], [], M)) tc_150 rfl 4 (fun u => ⟨_, rfl⟩) ⟨trivial, trivial, trivial, trivial, trivial⟩ ?_
    obtain ⟨n9, h⟩ := h
    exact g_Mo_among_L65 hd hw hK7 n9 k0 k1 v2 v3 v4 ((0 : Int32)) ((0 : Int32)) h
  · have h := h.2 hc
    show Gd d w 150 _ (44, [some (aR 21 k0), some (aR 1 k1), some (aI v2), some (aI v3), some (aI v4), o5, o6], [], M)
    refine gd_s (P := True ∧ True ∧ True ∧ True ∧ True ∧ True) (σ1 := (52, [some (aR 21 k0), some (aR 1 k1), some (aI v2), some (aI v3), some (aI v4), o5, o6], [aI (v4 - v3), aI (rI M k0 36)], M)) tc_150 rfl 5 (fun u => ⟨_, rfl⟩) ⟨trivial, trivial, trivial, trivial, trivial, trivial⟩ ?_
    refine gd_br (c := ¬ (rI M k0 36) = (v4 - v3)) (st1 := []) tc_150 rfl rfl (fun _ => rfl) ⟨fun hc => ?_, fun hc => ?_⟩
    · have h := h.1 hc
      show Gd d w 150 _ (59, [some (aR 21 k0), some (aR 1 k1), some (aI v2), some (aI v3), some (aI v4), o5, o6], [], M)
      refine gd_s (P := True ∧ True ∧ True ∧ True ∧ True) (σ1 := (65, [some (aR 21 k0), some (aR 1 k1), some (aI v2), some (aI v3), some (aI v4), some (aI ((0 : Int32))), some (aI ((0 : Int32)))], [], M)) tc_150 rfl 4 (fun u => ⟨_, rfl⟩) ⟨trivial, trivial, trivial, trivial, trivial⟩ ?_
      obtain ⟨n9, h⟩ := h
      exact g_Mo_among_L65 hd hw hK7 n9 k0 k1 v2 v3 v4 ((0 : Int32)) ((0 : Int32)) h
    · have h := h.2 hc
      show Gd d w 150 _ (55, [some (aR 21 k0), some (aR 1 k1), some (aI v2), some (aI v3), some (aI v4), o5, o6], [], M)
      refine gd_s (P := True ∧ True ∧ True ∧ True ∧ True ∧ True) (σ1 := (65, [some (aR 21 k0), some (aR 1 k1), some (aI v2), some (aI v3), some (aI v4), some (aI ((1 : Int32))), some (aI ((0 : Int32)))], [], M)) tc_150 rfl 5 (fun u => ⟨_, rfl⟩) ⟨trivial, trivial, trivial, trivial, trivial, trivial⟩ ?_
      obtain ⟨n9, h⟩ := h
      exact g_Mo_among_L65 hd hw hK7 n9 k0 k1 v2 v3 v4 ((1 : Int32)) ((0 : Int32)) h
def w_Mo_among_L7 (M : aM) (post : Int32 → Prop) : Nat → Nat → Nat → Int32 → Int32 → Int32 → Prop
  | 0, _, _, _, _, _ => False
  | n + 1, k0, k1, v2, v3, v4 => (k1 < 59) ∧ (((Int32.ofNat (tStr.getD k1 []).length) < v4) → post ((-1 : Int32))) ∧ (¬ ((Int32.ofNat (tStr.getD k1 []).length) < v4) → (k1 < 59) ∧ ((v4 = (Int32.ofNat (tStr.getD k1 []).length)) → w_Mo_among_J36 M post (w_Mo_among_L7 M post n) k0 k1 v2 v3 v4) ∧ (¬ (v4 = (Int32.ofNat (tStr.getD k1 []).length)) → (k1 < 59 ∧ vp_in v4 (tStr.getD k1 []).length) ∧ ((¬ ((tStr.getD k1 []).getD v4.toNatClampNeg 0) = ((32 : Int32))) → w_Mo_among_L7 M post n k0 k1 v2 v3 (v4 + (1 : Int32))) ∧ (¬ (¬ ((tStr.getD k1 []).getD v4.toNatClampNeg 0) = ((32 : Int32))) → w_Mo_among_J36 M post (w_Mo_among_L7 M post n) k0 k1 v2 v3 v4)))
theorem g_Mo_among_L7 {d w : Nat} (hd : 6 ≤ d) (hw : 200 ≤ w) {M : aM} {post : Int32 → Prop} : ∀ (n : Nat) (k0 : Nat) (k1 : Nat) (v2 : Int32) (v3 : Int32) (v4 : Int32) (o5 o6 : Option aV), w_Mo_among_L7 M post n k0 k1 v2 v3 v4 → Gd d w 150 (pIn M post) (7, [some (aR 21 k0), some (aR 1 k1), some (aI v2), some (aI v3), some (aI v4), o5, o6], [], M) := by
  intro n
  induction n with
  | zero => intro k0 k1 v2 v3 v4 o5 o6 h; exact h.elim
  | succ n ih =>
    intro k0 k1 v2 v3 v4 o5 o6 h
    show Gd d w 150 _ (7, [some (aR 21 k0), some (aR 1 k1), some (aI v2), some (aI v3), some (aI v4), o5, o6], [], M)
    refine gd_s (P := True ∧ True ∧ True) (σ1 := (10, [some (aR 21 k0), some (aR 1 k1), some (aI v2), some (aI v3), some (aI v4), o5, o6], [aR 1 k1, aI v4], M)) tc_150 rfl 2 (fun u => ⟨_, rfl⟩) ⟨trivial, trivial, trivial⟩ ?_
    obtain ⟨c0, h⟩ := h
    refine gd_prim (P := k1 < 59) (σ1 := (13, [some (aR 21 k0), some (aR 1 k1), some (aI v2), some (aI v3), some (aI v4), o5, o6], [aI (Int32.ofNat (tStr.getD k1 []).length), aI v4], M)) tc_150 rfl rfl rfl rfl c0 (by omega) (by omega) (Nat.le_of_ble_eq_true rfl) ?_
    show Gd d w 150 _ (13, [some (aR 21 k0), some (aR 1 k1), some (aI v2), some (aI v3), some (aI v4), o5, o6], [aI (Int32.ofNat (tStr.getD k1 []).length), aI v4], M)
    refine gd_br (c := (Int32.ofNat (tStr.getD k1 []).length) < v4) (st1 := []) tc_150 rfl rfl (fun _ => rfl) ⟨fun hc => ?_, fun hc => ?_⟩
    · have h := h.1 hc
      show Gd d w 150 _ (135, [some (aR 21 k0), some (aR 1 k1), some (aI v2), some (aI v3), some (aI v4), o5, o6], [], M)
      refine gd_s (P := True ∧ True) (σ1 := (136, [some (aR 21 k0), some (aR 1 k1), some (aI v2), some (aI v3), some (aI v4), o5, o6], [aI ((-1 : Int32))], M)) tc_150 rfl 1 (fun u => ⟨_, rfl⟩) ⟨trivial, trivial⟩ ?_
      exact gd_ret tc_150 rfl rfl trivial (fun _ => rfl) ⟨_, rfl, rfl, h⟩
    · have h := h.2 hc
      show Gd d w 150 _ (16, [some (aR 21 k0), some (aR 1 k1), some (aI v2), some (aI v3), some (aI v4), o5, o6], [], M)
      refine gd_s (P := True ∧ True ∧ True) (σ1 := (19, [some (aR 21 k0), some (aR 1 k1), some (aI v2), some (aI v3), some (aI v4), o5, o6], [aR 1 k1, aI v4], M)) tc_150 rfl 2 (fun u => ⟨_, rfl⟩) ⟨trivial, trivial, trivial⟩ ?_
      obtain ⟨c0, h⟩ := h
      refine gd_prim (P := k1 < 59) (σ1 := (22, [some (aR 21 k0), some (aR 1 k1), some (aI v2), some (aI v3), some (aI v4), o5, o6], [aI (Int32.ofNat (tStr.getD k1 []).length), aI v4], M)) tc_150 rfl rfl rfl rfl c0 (by omega) (by omega) (Nat.le_of_ble_eq_true rfl) ?_
      show Gd d w 150 _ (22, [some (aR 21 k0), some (aR 1 k1), some (aI v2), some (aI v3), some (aI v4), o5, o6], [aI (Int32.ofNat (tStr.getD k1 []).length), aI v4], M)
      refine gd_br (c := v4 = (Int32.ofNat (tStr.getD k1 []).length)) (st1 := []) tc_150 rfl rfl (fun _ => rfl) ⟨fun hc => ?_, fun hc => ?_⟩
      · have h := h.1 hc
        exact g_Mo_among_J36 hd hw ih k0 k1 v2 v3 v4 o5 o6 h
      · have h := h.2 hc
        show Gd d w 150 _ (25, [some (aR 21 k0), some (aR 1 k1), some (aI v2), some (aI v3), some (aI v4), o5, o6], [], M)
        refine gd_s (P := True ∧ True ∧ True) (σ1 := (28, [some (aR 21 k0), some (aR 1 k1), some (aI v2), some (aI v3), some (aI v4), o5, o6], [aI v4, aR 1 k1], M)) tc_150 rfl 2 (fun u => ⟨_, rfl⟩) ⟨trivial, trivial, trivial⟩ ?_
        obtain ⟨c0, h⟩ := h
        refine gd_prim (P := k1 < 59 ∧ vp_in v4 (tStr.getD k1 []).length) (σ1 := (31, [some (aR 21 k0), some (aR 1 k1), some (aI v2), some (aI v3), some (aI v4), o5, o6], [aI ((tStr.getD k1 []).getD v4.toNatClampNeg 0)], M)) tc_150 rfl rfl rfl rfl c0 (by omega) (by omega) (Nat.le_of_ble_eq_true rfl) ?_
        show Gd d w 150 _ (31, [some (aR 21 k0), some (aR 1 k1), some (aI v2), some (aI v3), some (aI v4), o5, o6], [aI ((tStr.getD k1 []).getD v4.toNatClampNeg 0)], M)
        refine gd_s (P := True ∧ True) (σ1 := (33, [some (aR 21 k0), some (aR 1 k1), some (aI v2), some (aI v3), some (aI v4), o5, o6], [aI ((32 : Int32)), aI ((tStr.getD k1 []).getD v4.toNatClampNeg 0)], M)) tc_150 rfl 1 (fun u => ⟨_, rfl⟩) ⟨trivial, trivial⟩ ?_
        refine gd_br (c := ¬ ((tStr.getD k1 []).getD v4.toNatClampNeg 0) = ((32 : Int32))) (st1 := []) tc_150 rfl rfl (fun _ => rfl) ⟨fun hc => ?_, fun hc => ?_⟩
        · have h := h.1 hc
          show Gd d w 150 _ (129, [some (aR 21 k0), some (aR 1 k1), some (aI v2), some (aI v3), some (aI v4), o5, o6], [], M)
          refine gd_s (P := True ∧ True ∧ True) (σ1 := (7, [some (aR 21 k0), some (aR 1 k1), some (aI v2), some (aI v3), some (aI (v4 + (1 : Int32))), o5, o6], [], M)) tc_150 rfl 2 (fun u => ⟨_, rfl⟩) ⟨trivial, trivial, trivial⟩ ?_
          exact ih k0 k1 v2 v3 (v4 + (1 : Int32)) o5 o6 h
        · have h := h.2 hc
          exact g_Mo_among_J36 hd hw ih k0 k1 v2 v3 v4 o5 o6 h
/-- PolicyJudgeModel.among(Ljava/lang/String;)I -/
def w_Mo_among (post : Int32 → Prop) (k0 : Nat) (k1 : Nat) (M : aM) : Prop := ∃ n9, w_Mo_among_L7 M post n9 k0 k1 ((0 : Int32)) ((0 : Int32)) ((0 : Int32))
theorem g_Mo_among {d w : Nat} (hd : 6 ≤ d) (hw : 200 ≤ w) {post : Int32 → Prop} {k0 : Nat} {k1 : Nat} {M : aM} (h : w_Mo_among post k0 k1 M) : Gd d w 150 (pIn M post) (0, aEnt 150 [aR 21 k0, aR 1 k1], [], M) := by
  unfold w_Mo_among at h
  show Gd d w 150 _ (0, [some (aR 21 k0), some (aR 1 k1), none, none, none, none, none], [], M)
  refine gd_s (P := True ∧ True ∧ True ∧ True ∧ True ∧ True ∧ True) (σ1 := (7, [some (aR 21 k0), some (aR 1 k1), some (aI ((0 : Int32))), some (aI ((0 : Int32))), some (aI ((0 : Int32))), none, none], [], M)) tc_150 rfl 6 (fun u => ⟨_, rfl⟩) ⟨trivial, trivial, trivial, trivial, trivial, trivial, trivial⟩ ?_
  obtain ⟨n9, h⟩ := h
  exact g_Mo_among_L7 hd hw n9 k0 k1 ((0 : Int32)) ((0 : Int32)) ((0 : Int32)) none none h
theorem tc_149 : tC 149 = c149 := rfl
/-- PolicyJudgeModel.isName()Z -/
def w_Mo_isName (post : Int32 → Prop) (k0 : Nat) (M : aM) : Prop := ((¬ (rI M k0 34) = ((1 : Int32))) → (((0 : Int32)) = 0 ∨ ((0 : Int32)) = 1) ∧ post ((0 : Int32))) ∧ (¬ (¬ (rI M k0 34) = ((1 : Int32))) → w_Mo_among (fun x1 => ((¬ x1 = ((-1 : Int32))) → (((0 : Int32)) = 0 ∨ ((0 : Int32)) = 1) ∧ post ((0 : Int32))) ∧ (¬ (¬ x1 = ((-1 : Int32))) → (((1 : Int32)) = 0 ∨ ((1 : Int32)) = 1) ∧ post ((1 : Int32)))) k0 16 M)
theorem g_Mo_isName {d w : Nat} (hd : 7 ≤ d) (hw : 226 ≤ w) {post : Int32 → Prop} {k0 : Nat} {M : aM} (h : w_Mo_isName post k0 M) : Gd d w 149 (pIn M post) (0, aEnt 149 [aR 21 k0], [], M) := by
  unfold w_Mo_isName at h
  show Gd d w 149 _ (0, [some (aR 21 k0)], [], M)
  refine gd_s (P := True ∧ True ∧ True ∧ True) (σ1 := (5, [some (aR 21 k0)], [aI ((1 : Int32)), aI (rI M k0 34)], M)) tc_149 rfl 3 (fun u => ⟨_, rfl⟩) ⟨trivial, trivial, trivial, trivial⟩ ?_
  refine gd_br (c := ¬ (rI M k0 34) = ((1 : Int32))) (st1 := []) tc_149 rfl rfl (fun _ => rfl) ⟨fun hc => ?_, fun hc => ?_⟩
  · have h := h.1 hc
    show Gd d w 149 _ (22, [some (aR 21 k0)], [], M)
    refine gd_s (P := True ∧ True) (σ1 := (23, [some (aR 21 k0)], [aI ((0 : Int32))], M)) tc_149 rfl 1 (fun u => ⟨_, rfl⟩) ⟨trivial, trivial⟩ ?_
    exact gd_ret tc_149 rfl rfl h.1 (fun _ => rfl) ⟨_, rfl, rfl, h.2⟩
  · have h := h.2 hc
    show Gd d w 149 _ (8, [some (aR 21 k0)], [], M)
    refine gd_s (P := True ∧ True ∧ True) (σ1 := (11, [some (aR 21 k0)], [aR 1 16, aR 21 k0], M)) tc_149 rfl 2 (fun u => ⟨_, rfl⟩) ⟨trivial, trivial, trivial⟩ ?_
    refine gd_callN (ml := 7) (as := [aR 21 k0, aR 1 16]) (rest := []) tc_149 rfl rfl rfl rfl rfl (by omega) (by omega) (Nat.le_of_ble_eq_true rfl) rfl (g_Mo_among (by omega) (by omega) h) (fun r9 M9 h => ?_)
    obtain ⟨x1, rfl, e9, h⟩ := h
    subst M9
    show Gd d w 149 _ (14, [some (aR 21 k0)], [aI x1], M)
    refine gd_s (P := True ∧ True) (σ1 := (15, [some (aR 21 k0)], [aI ((-1 : Int32)), aI x1], M)) tc_149 rfl 1 (fun u => ⟨_, rfl⟩) ⟨trivial, trivial⟩ ?_
    refine gd_br (c := ¬ x1 = ((-1 : Int32))) (st1 := []) tc_149 rfl rfl (fun _ => rfl) ⟨fun hc => ?_, fun hc => ?_⟩
    · have h := h.1 hc
      show Gd d w 149 _ (22, [some (aR 21 k0)], [], M)
      refine gd_s (P := True ∧ True) (σ1 := (23, [some (aR 21 k0)], [aI ((0 : Int32))], M)) tc_149 rfl 1 (fun u => ⟨_, rfl⟩) ⟨trivial, trivial⟩ ?_
      exact gd_ret tc_149 rfl rfl h.1 (fun _ => rfl) ⟨_, rfl, rfl, h.2⟩
    · have h := h.2 hc
      show Gd d w 149 _ (18, [some (aR 21 k0)], [], M)
      refine gd_s (P := True ∧ True ∧ True) (σ1 := (23, [some (aR 21 k0)], [aI ((1 : Int32))], M)) tc_149 rfl 2 (fun u => ⟨_, rfl⟩) ⟨trivial, trivial, trivial⟩ ?_
      exact gd_ret tc_149 rfl rfl h.1 (fun _ => rfl) ⟨_, rfl, rfl, h.2⟩
theorem tc_151 : tC 151 = c151 := rfl
/-- PolicyJudgeModel.need(Z)V -/
def w_Mo_need (post : aM → Prop) (k0 : Nat) (v1 : Int32) (M : aM) : Prop := ((¬ (rI M k0 38) = ((-1 : Int32))) → post M) ∧ (¬ (¬ (rI M k0 38) = ((-1 : Int32))) → ((¬ v1 = ((0 : Int32))) → post M) ∧ (¬ (¬ v1 = ((0 : Int32))) → w_Mo_bad (fun M1 => post M1) k0 ((2 : Int32)) M))
theorem g_Mo_need {d w : Nat} (hd : 1 ≤ d) (hw : 21 ≤ w) {post : aM → Prop} {k0 : Nat} {v1 : Int32} {M : aM} (h : w_Mo_need post k0 v1 M) : Gd d w 151 (pV post) (0, aEnt 151 [aR 21 k0, aI v1], [], M) := by
  unfold w_Mo_need at h
  show Gd d w 151 _ (0, [some (aR 21 k0), some (aI v1)], [], M)
  refine gd_s (P := True ∧ True ∧ True ∧ True) (σ1 := (5, [some (aR 21 k0), some (aI v1)], [aI ((-1 : Int32)), aI (rI M k0 38)], M)) tc_151 rfl 3 (fun u => ⟨_, rfl⟩) ⟨trivial, trivial, trivial, trivial⟩ ?_
  refine gd_br (c := ¬ (rI M k0 38) = ((-1 : Int32))) (st1 := []) tc_151 rfl rfl (fun _ => rfl) ⟨fun hc => ?_, fun hc => ?_⟩
  · have h := h.1 hc
    show Gd d w 151 _ (17, [some (aR 21 k0), some (aI v1)], [], M)
    exact gd_ret tc_151 rfl rfl trivial (fun _ => rfl) ⟨rfl, h⟩
  · have h := h.2 hc
    show Gd d w 151 _ (8, [some (aR 21 k0), some (aI v1)], [], M)
    refine gd_s (P := True ∧ True) (σ1 := (9, [some (aR 21 k0), some (aI v1)], [aI v1], M)) tc_151 rfl 1 (fun u => ⟨_, rfl⟩) ⟨trivial, trivial⟩ ?_
    refine gd_br (c := ¬ v1 = ((0 : Int32))) (st1 := []) tc_151 rfl rfl (fun _ => rfl) ⟨fun hc => ?_, fun hc => ?_⟩
    · have h := h.1 hc
      show Gd d w 151 _ (17, [some (aR 21 k0), some (aI v1)], [], M)
      exact gd_ret tc_151 rfl rfl trivial (fun _ => rfl) ⟨rfl, h⟩
    · have h := h.2 hc
      show Gd d w 151 _ (12, [some (aR 21 k0), some (aI v1)], [], M)
      refine gd_s (P := True ∧ True ∧ True) (σ1 := (14, [some (aR 21 k0), some (aI v1)], [aI ((2 : Int32)), aR 21 k0], M)) tc_151 rfl 2 (fun u => ⟨_, rfl⟩) ⟨trivial, trivial, trivial⟩ ?_
      refine gd_callN (ml := 2) (as := [aR 21 k0, aI ((2 : Int32))]) (rest := []) tc_151 rfl rfl rfl rfl rfl (by omega) (by omega) (Nat.le_of_ble_eq_true rfl) rfl (g_Mo_bad (by omega) (by omega) h) (fun r9 M1 h => ?_)
      obtain ⟨rfl, h⟩ := h
      show Gd d w 151 _ (17, [some (aR 21 k0), some (aI v1)], [], M1)
      exact gd_ret tc_151 rfl rfl trivial (fun _ => rfl) ⟨rfl, h⟩
theorem tc_153 : tC 153 = c153 := rfl
/-- PolicyJudgeModel.nameOf(III)I -/
def w_Mo_nameOf (post : Int32 → Prop) (v0 : Int32) (v1 : Int32) (v2 : Int32) (M : aM) : Prop := ((¬ v1 = ((0 : Int32))) → post ((((108 : Int32)) * v0) + (((8 : Int32)) + v2))) ∧ (¬ (¬ v1 = ((0 : Int32))) → post ((((108 : Int32)) * v0) + v2))
theorem g_Mo_nameOf {d w : Nat} (hd : 0 ≤ d) (hw : 0 ≤ w) {post : Int32 → Prop} {v0 : Int32} {v1 : Int32} {v2 : Int32} {M : aM} (h : w_Mo_nameOf post v0 v1 v2 M) : Gd d w 153 (pIn M post) (0, aEnt 153 [aI v0, aI v1, aI v2], [], M) := by
  unfold w_Mo_nameOf at h
  show Gd d w 153 _ (0, [some (aI v0), some (aI v1), some (aI v2)], [], M)
  refine gd_s (P := True ∧ True ∧ True ∧ True ∧ True) (σ1 := (5, [some (aI v0), some (aI v1), some (aI v2)], [aI v1, aI (((108 : Int32)) * v0)], M)) tc_153 rfl 4 (fun u => ⟨_, rfl⟩) ⟨trivial, trivial, trivial, trivial, trivial⟩ ?_
  refine gd_br (c := ¬ v1 = ((0 : Int32))) (st1 := [aI (((108 : Int32)) * v0)]) tc_153 rfl rfl (fun _ => rfl) ⟨fun hc => ?_, fun hc => ?_⟩
  · have h := h.1 hc
    show Gd d w 153 _ (12, [some (aI v0), some (aI v1), some (aI v2)], [aI (((108 : Int32)) * v0)], M)
    refine gd_s (P := True ∧ True ∧ True ∧ True ∧ True) (σ1 := (17, [some (aI v0), some (aI v1), some (aI v2)], [aI ((((108 : Int32)) * v0) + (((8 : Int32)) + v2))], M)) tc_153 rfl 4 (fun u => ⟨_, rfl⟩) ⟨trivial, trivial, trivial, trivial, trivial⟩ ?_
    exact gd_ret tc_153 rfl rfl trivial (fun _ => rfl) ⟨_, rfl, rfl, h⟩
  · have h := h.2 hc
    show Gd d w 153 _ (8, [some (aI v0), some (aI v1), some (aI v2)], [aI (((108 : Int32)) * v0)], M)
    refine gd_s (P := True ∧ True ∧ True ∧ True) (σ1 := (17, [some (aI v0), some (aI v1), some (aI v2)], [aI ((((108 : Int32)) * v0) + v2)], M)) tc_153 rfl 3 (fun u => ⟨_, rfl⟩) ⟨trivial, trivial, trivial, trivial⟩ ?_
    exact gd_ret tc_153 rfl rfl trivial (fun _ => rfl) ⟨_, rfl, rfl, h⟩
theorem tc_152 : tC 152 = c152 := rfl
def w_Mo_attributeHere_J93 (M : aM) (post : Int32 → Prop) (K2 : Nat → Int32 → Prop) (k0 : Nat) (v1 : Int32) (v3 : Int32) : Prop := ((v3 = ((0 : Int32))) → K2 k0 (v1 + (1 : Int32))) ∧ (¬ (v3 = ((0 : Int32))) → post v1)
theorem g_Mo_attributeHere_J93 {d w : Nat} (hd : 1 ≤ d) (hw : 22 ≤ w) {M : aM} {post : Int32 → Prop} {K2 : Nat → Int32 → Prop} (hK2 : ∀ (k0 : Nat) (v1 : Int32) (o2 o3 o4 : Option aV), K2 k0 v1 → Gd d w 152 (pIn M post) (2, [some (aR 21 k0), some (aI v1), o2, o3, o4], [], M)) (k0 : Nat) (v1 : Int32) (v3 : Int32) (o2 o4 : Option aV) (h : w_Mo_attributeHere_J93 M post K2 k0 v1 v3) : Gd d w 152 (pIn M post) (93, [some (aR 21 k0), some (aI v1), o2, some (aI v3), o4], [], M) := by
  unfold w_Mo_attributeHere_J93 at h
  show Gd d w 152 _ (93, [some (aR 21 k0), some (aI v1), o2, some (aI v3), o4], [], M)
  refine gd_s (P := True ∧ True) (σ1 := (94, [some (aR 21 k0), some (aI v1), o2, some (aI v3), o4], [aI v3], M)) tc_152 rfl 1 (fun u => ⟨_, rfl⟩) ⟨trivial, trivial⟩ ?_
  refine gd_br (c := v3 = ((0 : Int32))) (st1 := []) tc_152 rfl rfl (fun _ => rfl) ⟨fun hc => ?_, fun hc => ?_⟩
  · have h := h.1 hc
    show Gd d w 152 _ (99, [some (aR 21 k0), some (aI v1), o2, some (aI v3), o4], [], M)
    refine gd_s (P := True ∧ True ∧ True) (σ1 := (2, [some (aR 21 k0), some (aI (v1 + (1 : Int32))), o2, some (aI v3), o4], [], M)) tc_152 rfl 2 (fun u => ⟨_, rfl⟩) ⟨trivial, trivial, trivial⟩ ?_
    exact hK2 k0 (v1 + (1 : Int32)) o2 (some (aI v3)) o4 h
  · have h := h.2 hc
    show Gd d w 152 _ (97, [some (aR 21 k0), some (aI v1), o2, some (aI v3), o4], [], M)
    refine gd_s (P := True ∧ True) (σ1 := (98, [some (aR 21 k0), some (aI v1), o2, some (aI v3), o4], [aI v1], M)) tc_152 rfl 1 (fun u => ⟨_, rfl⟩) ⟨trivial, trivial⟩ ?_
    exact gd_ret tc_152 rfl rfl trivial (fun _ => rfl) ⟨_, rfl, rfl, h⟩
def w_Mo_attributeHere_L41 (M : aM) (post : Int32 → Prop) (K2 : Nat → Int32 → Prop) : Nat → Nat → Int32 → Int32 → Int32 → Int32 → Prop
  | 0, _, _, _, _, _ => False
  | n + 1, k0, v1, v2, v3, v4 => (((rI M k0 36) ≤ v4) → w_Mo_attributeHere_J93 M post K2 k0 v1 v3) ∧ (¬ ((rI M k0 36) ≤ v4) → ((v3 = ((0 : Int32))) → w_Mo_attributeHere_J93 M post K2 k0 v1 v3) ∧ (¬ (v3 = ((0 : Int32))) → (vp_in ((((12 : Int32)) * v2) + v4) (rK M (k0 + 9)).2) ∧ (vp_in ((rI M k0 35) + v4) (rK M (k0 + 1)).2) ∧ (((¬ (rI M (k0 + 9) ((((12 : Int32)) * v2) + v4).toNatClampNeg) = (rI M (k0 + 1) ((rI M k0 35) + v4).toNatClampNeg)) → w_Mo_attributeHere_L41 M post K2 n k0 v1 v2 ((0 : Int32)) (v4 + (1 : Int32))) ∧ (¬ (¬ (rI M (k0 + 9) ((((12 : Int32)) * v2) + v4).toNatClampNeg) = (rI M (k0 + 1) ((rI M k0 35) + v4).toNatClampNeg)) → w_Mo_attributeHere_L41 M post K2 n k0 v1 v2 ((1 : Int32)) (v4 + (1 : Int32))))))
theorem g_Mo_attributeHere_L41 {d w : Nat} (hd : 1 ≤ d) (hw : 22 ≤ w) {M : aM} {post : Int32 → Prop} {K2 : Nat → Int32 → Prop} (hK2 : ∀ (k0 : Nat) (v1 : Int32) (o2 o3 o4 : Option aV), K2 k0 v1 → Gd d w 152 (pIn M post) (2, [some (aR 21 k0), some (aI v1), o2, o3, o4], [], M)) : ∀ (n : Nat) (k0 : Nat) (v1 : Int32) (v2 : Int32) (v3 : Int32) (v4 : Int32), w_Mo_attributeHere_L41 M post K2 n k0 v1 v2 v3 v4 → Gd d w 152 (pIn M post) (41, [some (aR 21 k0), some (aI v1), some (aI v2), some (aI v3), some (aI v4)], [], M) := by
  intro n
  induction n with
  | zero => intro k0 v1 v2 v3 v4 h; exact h.elim
  | succ n ih =>
    intro k0 v1 v2 v3 v4 h
    show Gd d w 152 _ (41, [some (aR 21 k0), some (aI v1), some (aI v2), some (aI v3), some (aI v4)], [], M)
    refine gd_s (P := True ∧ True ∧ True ∧ True) (σ1 := (47, [some (aR 21 k0), some (aI v1), some (aI v2), some (aI v3), some (aI v4)], [aI (rI M k0 36), aI v4], M)) tc_152 rfl 3 (fun u => ⟨_, rfl⟩) ⟨trivial, trivial, trivial, trivial⟩ ?_
    refine gd_br (c := (rI M k0 36) ≤ v4) (st1 := []) tc_152 rfl rfl (fun _ => rfl) ⟨fun hc => ?_, fun hc => ?_⟩
    · have h := h.1 hc
      exact g_Mo_attributeHere_J93 hd hw hK2 k0 v1 v3 (some (aI v2)) (some (aI v4)) h
    · have h := h.2 hc
      show Gd d w 152 _ (50, [some (aR 21 k0), some (aI v1), some (aI v2), some (aI v3), some (aI v4)], [], M)
      refine gd_s (P := True ∧ True) (σ1 := (51, [some (aR 21 k0), some (aI v1), some (aI v2), some (aI v3), some (aI v4)], [aI v3], M)) tc_152 rfl 1 (fun u => ⟨_, rfl⟩) ⟨trivial, trivial⟩ ?_
      refine gd_br (c := v3 = ((0 : Int32))) (st1 := []) tc_152 rfl rfl (fun _ => rfl) ⟨fun hc => ?_, fun hc => ?_⟩
      · have h := h.1 hc
        exact g_Mo_attributeHere_J93 hd hw hK2 k0 v1 v3 (some (aI v2)) (some (aI v4)) h
      · have h := h.2 hc
        show Gd d w 152 _ (54, [some (aR 21 k0), some (aI v1), some (aI v2), some (aI v3), some (aI v4)], [], M)
        obtain ⟨c0, c1, h⟩ := h
        refine gd_s (P := True ∧ True ∧ True ∧ True ∧ True ∧ True ∧ True ∧ (vp_in ((((12 : Int32)) * v2) + v4) (rK M (k0 + 9)).2) ∧ True ∧ True ∧ True ∧ True ∧ True ∧ True ∧ (vp_in ((rI M k0 35) + v4) (rK M (k0 + 1)).2) ∧ True) (σ1 := (78, [some (aR 21 k0), some (aI v1), some (aI v2), some (aI v3), some (aI v4)], [aI (rI M (k0 + 1) ((rI M k0 35) + v4).toNatClampNeg), aI (rI M (k0 + 9) ((((12 : Int32)) * v2) + v4).toNatClampNeg)], M)) tc_152 rfl 15 (fun u => ⟨_, rfl⟩) ⟨trivial, trivial, trivial, trivial, trivial, trivial, trivial, c0, trivial, trivial, trivial, trivial, trivial, trivial, c1, trivial⟩ ?_
        refine gd_br (c := ¬ (rI M (k0 + 9) ((((12 : Int32)) * v2) + v4).toNatClampNeg) = (rI M (k0 + 1) ((rI M k0 35) + v4).toNatClampNeg)) (st1 := []) tc_152 rfl rfl (fun _ => rfl) ⟨fun hc => ?_, fun hc => ?_⟩
        · have h := h.1 hc
          show Gd d w 152 _ (85, [some (aR 21 k0), some (aI v1), some (aI v2), some (aI v3), some (aI v4)], [], M)
          refine gd_s (P := True ∧ True ∧ True ∧ True ∧ True) (σ1 := (41, [some (aR 21 k0), some (aI v1), some (aI v2), some (aI ((0 : Int32))), some (aI (v4 + (1 : Int32)))], [], M)) tc_152 rfl 4 (fun u => ⟨_, rfl⟩) ⟨trivial, trivial, trivial, trivial, trivial⟩ ?_
          exact ih k0 v1 v2 ((0 : Int32)) (v4 + (1 : Int32)) h
        · have h := h.2 hc
          show Gd d w 152 _ (81, [some (aR 21 k0), some (aI v1), some (aI v2), some (aI v3), some (aI v4)], [], M)
          refine gd_s (P := True ∧ True ∧ True ∧ True ∧ True ∧ True) (σ1 := (41, [some (aR 21 k0), some (aI v1), some (aI v2), some (aI ((1 : Int32))), some (aI (v4 + (1 : Int32)))], [], M)) tc_152 rfl 5 (fun u => ⟨_, rfl⟩) ⟨trivial, trivial, trivial, trivial, trivial, trivial⟩ ?_
          exact ih k0 v1 v2 ((1 : Int32)) (v4 + (1 : Int32)) h
def w_Mo_attributeHere_L2 (M : aM) (post : Int32 → Prop) : Nat → Nat → Int32 → Prop
  | 0, _, _ => False
  | n + 1, k0, v1 => (vp_in ((2 : Int32)) (rK M (k0 + 3)).2) ∧ ((((rI M (k0 + 3) ((2 : Int32)).toNatClampNeg) ≤ v1) → post ((-1 : Int32))) ∧ (¬ ((rI M (k0 + 3) ((2 : Int32)).toNatClampNeg) ≤ v1) → w_Mo_nameOf (fun x1 => (vp_in x1 (rK M (k0 + 8)).2) ∧ (((¬ (rI M (k0 + 8) x1.toNatClampNeg) = (rI M k0 36)) → ∃ n9, w_Mo_attributeHere_L41 M post (w_Mo_attributeHere_L2 M post n) n9 k0 v1 x1 ((0 : Int32)) ((0 : Int32))) ∧ (¬ (¬ (rI M (k0 + 8) x1.toNatClampNeg) = (rI M k0 36)) → ∃ n9, w_Mo_attributeHere_L41 M post (w_Mo_attributeHere_L2 M post n) n9 k0 v1 x1 ((1 : Int32)) ((0 : Int32))))) ((2 : Int32)) ((0 : Int32)) v1 M))
theorem g_Mo_attributeHere_L2 {d w : Nat} (hd : 1 ≤ d) (hw : 22 ≤ w) {M : aM} {post : Int32 → Prop} : ∀ (n : Nat) (k0 : Nat) (v1 : Int32) (o2 o3 o4 : Option aV), w_Mo_attributeHere_L2 M post n k0 v1 → Gd d w 152 (pIn M post) (2, [some (aR 21 k0), some (aI v1), o2, o3, o4], [], M) := by
  intro n
  induction n with
  | zero => intro k0 v1 o2 o3 o4 h; exact h.elim
  | succ n ih =>
    intro k0 v1 o2 o3 o4 h
    show Gd d w 152 _ (2, [some (aR 21 k0), some (aI v1), o2, o3, o4], [], M)
    obtain ⟨c0, h⟩ := h
    refine gd_s (P := True ∧ True ∧ True ∧ True ∧ (vp_in ((2 : Int32)) (rK M (k0 + 3)).2) ∧ True) (σ1 := (9, [some (aR 21 k0), some (aI v1), o2, o3, o4], [aI (rI M (k0 + 3) ((2 : Int32)).toNatClampNeg), aI v1], M)) tc_152 rfl 5 (fun u => ⟨_, rfl⟩) ⟨trivial, trivial, trivial, trivial, c0, trivial⟩ ?_
    refine gd_br (c := (rI M (k0 + 3) ((2 : Int32)).toNatClampNeg) ≤ v1) (st1 := []) tc_152 rfl rfl (fun _ => rfl) ⟨fun hc => ?_, fun hc => ?_⟩
    · have h := h.1 hc
      show Gd d w 152 _ (105, [some (aR 21 k0), some (aI v1), o2, o3, o4], [], M)
      refine gd_s (P := True ∧ True) (σ1 := (106, [some (aR 21 k0), some (aI v1), o2, o3, o4], [aI ((-1 : Int32))], M)) tc_152 rfl 1 (fun u => ⟨_, rfl⟩) ⟨trivial, trivial⟩ ?_
      exact gd_ret tc_152 rfl rfl trivial (fun _ => rfl) ⟨_, rfl, rfl, h⟩
    · have h := h.2 hc
      show Gd d w 152 _ (12, [some (aR 21 k0), some (aI v1), o2, o3, o4], [], M)
      refine gd_s (P := True ∧ True ∧ True ∧ True) (σ1 := (15, [some (aR 21 k0), some (aI v1), o2, o3, o4], [aI v1, aI ((0 : Int32)), aI ((2 : Int32))], M)) tc_152 rfl 3 (fun u => ⟨_, rfl⟩) ⟨trivial, trivial, trivial, trivial⟩ ?_
      refine gd_callN (ml := 3) (as := [aI ((2 : Int32)), aI ((0 : Int32)), aI v1]) (rest := []) tc_152 rfl rfl rfl rfl rfl (by omega) (by omega) (Nat.le_of_ble_eq_true rfl) rfl (g_Mo_nameOf (by omega) (by omega) h) (fun r9 M9 h => ?_)
      obtain ⟨x1, rfl, e9, h⟩ := h
      subst M9
      show Gd d w 152 _ (18, [some (aR 21 k0), some (aI v1), o2, o3, o4], [aI x1], M)
      obtain ⟨c0, h⟩ := h
      refine gd_s (P := True ∧ True ∧ True ∧ True ∧ (vp_in x1 (rK M (k0 + 8)).2) ∧ True ∧ True ∧ True) (σ1 := (29, [some (aR 21 k0), some (aI v1), some (aI x1), o3, o4], [aI (rI M k0 36), aI (rI M (k0 + 8) x1.toNatClampNeg)], M)) tc_152 rfl 7 (fun u => ⟨_, rfl⟩) ⟨trivial, trivial, trivial, trivial, c0, trivial, trivial, trivial⟩ ?_
      refine gd_br (c := ¬ (rI M (k0 + 8) x1.toNatClampNeg) = (rI M k0 36)) (st1 := []) tc_152 rfl rfl (fun _ => rfl) ⟨fun hc => ?_, fun hc => ?_⟩
      · have h := h.1 hc
        show Gd d w 152 _ (36, [some (aR 21 k0), some (aI v1), some (aI x1), o3, o4], [], M)
        refine gd_s (P := True ∧ True ∧ True ∧ True ∧ True) (σ1 := (41, [some (aR 21 k0), some (aI v1), some (aI x1), some (aI ((0 : Int32))), some (aI ((0 : Int32)))], [], M)) tc_152 rfl 4 (fun u => ⟨_, rfl⟩) ⟨trivial, trivial, trivial, trivial, trivial⟩ ?_
        obtain ⟨n9, h⟩ := h
        exact g_Mo_attributeHere_L41 hd hw ih n9 k0 v1 x1 ((0 : Int32)) ((0 : Int32)) h
      · have h := h.2 hc
        show Gd d w 152 _ (32, [some (aR 21 k0), some (aI v1), some (aI x1), o3, o4], [], M)
        refine gd_s (P := True ∧ True ∧ True ∧ True ∧ True ∧ True) (σ1 := (41, [some (aR 21 k0), some (aI v1), some (aI x1), some (aI ((1 : Int32))), some (aI ((0 : Int32)))], [], M)) tc_152 rfl 5 (fun u => ⟨_, rfl⟩) ⟨trivial, trivial, trivial, trivial, trivial, trivial⟩ ?_
        obtain ⟨n9, h⟩ := h
        exact g_Mo_attributeHere_L41 hd hw ih n9 k0 v1 x1 ((1 : Int32)) ((0 : Int32)) h
/-- PolicyJudgeModel.attributeHere()I -/
def w_Mo_attributeHere (post : Int32 → Prop) (k0 : Nat) (M : aM) : Prop := ∃ n9, w_Mo_attributeHere_L2 M post n9 k0 ((0 : Int32))
theorem g_Mo_attributeHere {d w : Nat} (hd : 1 ≤ d) (hw : 22 ≤ w) {post : Int32 → Prop} {k0 : Nat} {M : aM} (h : w_Mo_attributeHere post k0 M) : Gd d w 152 (pIn M post) (0, aEnt 152 [aR 21 k0], [], M) := by
  unfold w_Mo_attributeHere at h
  show Gd d w 152 _ (0, [some (aR 21 k0), none, none, none, none], [], M)
  refine gd_s (P := True ∧ True ∧ True) (σ1 := (2, [some (aR 21 k0), some (aI ((0 : Int32))), none, none, none], [], M)) tc_152 rfl 2 (fun u => ⟨_, rfl⟩) ⟨trivial, trivial, trivial⟩ ?_
  obtain ⟨n9, h⟩ := h
  exact g_Mo_attributeHere_L2 hd hw n9 k0 ((0 : Int32)) none none none h
theorem tc_154 : tC 154 = c154 := rfl
def w_Mo_keepName_L12 (post : aM → Prop) : Nat → Nat → Int32 → Int32 → aM → Prop
  | 0, _, _, _, _ => False
  | n + 1, k0, v1, v2, M => (((rI M k0 36) ≤ v2) → post M) ∧ (¬ ((rI M k0 36) ≤ v2) → (vp_in ((rI M k0 35) + v2) (rK M (k0 + 1)).2) ∧ (vp_in ((((12 : Int32)) * v1) + v2) (rK M (k0 + 9)).2) ∧ (w_Mo_keepName_L12 post n k0 v1 (v2 + (1 : Int32)) (wI M (k0 + 9) ((((12 : Int32)) * v1) + v2).toNatClampNeg (rI M (k0 + 1) ((rI M k0 35) + v2).toNatClampNeg).toInt8.toInt32)))
theorem g_Mo_keepName_L12 {d w : Nat} (hd : 0 ≤ d) (hw : 0 ≤ w) {post : aM → Prop} : ∀ (n : Nat) (k0 : Nat) (v1 : Int32) (v2 : Int32) (M : aM), w_Mo_keepName_L12 post n k0 v1 v2 M → Gd d w 154 (pV post) (12, [some (aR 21 k0), some (aI v1), some (aI v2)], [], M) := by
  intro n
  induction n with
  | zero => intro k0 v1 v2 M h; exact h.elim
  | succ n ih =>
    intro k0 v1 v2 M h
    show Gd d w 154 _ (12, [some (aR 21 k0), some (aI v1), some (aI v2)], [], M)
    refine gd_s (P := True ∧ True ∧ True ∧ True) (σ1 := (17, [some (aR 21 k0), some (aI v1), some (aI v2)], [aI (rI M k0 36), aI v2], M)) tc_154 rfl 3 (fun u => ⟨_, rfl⟩) ⟨trivial, trivial, trivial, trivial⟩ ?_
    refine gd_br (c := (rI M k0 36) ≤ v2) (st1 := []) tc_154 rfl rfl (fun _ => rfl) ⟨fun hc => ?_, fun hc => ?_⟩
    · have h := h.1 hc
      show Gd d w 154 _ (48, [some (aR 21 k0), some (aI v1), some (aI v2)], [], M)
      exact gd_ret tc_154 rfl rfl trivial (fun _ => rfl) ⟨rfl, h⟩
    · have h := h.2 hc
      show Gd d w 154 _ (20, [some (aR 21 k0), some (aI v1), some (aI v2)], [], M)
      obtain ⟨c0, c1, h⟩ := h
      refine gd_s (P := True ∧ True ∧ True ∧ True ∧ True ∧ True ∧ True ∧ True ∧ True ∧ True ∧ True ∧ True ∧ True ∧ (vp_in ((rI M k0 35) + v2) (rK M (k0 + 1)).2) ∧ (vp_in ((((12 : Int32)) * v1) + v2) (rK M (k0 + 9)).2) ∧ True ∧ True ∧ True) (σ1 := (12, [some (aR 21 k0), some (aI v1), some (aI (v2 + (1 : Int32)))], [], wI M (k0 + 9) ((((12 : Int32)) * v1) + v2).toNatClampNeg (rI M (k0 + 1) ((rI M k0 35) + v2).toNatClampNeg).toInt8.toInt32)) tc_154 rfl 17 (fun u => ⟨_, rfl⟩) ⟨trivial, trivial, trivial, trivial, trivial, trivial, trivial, trivial, trivial, trivial, trivial, trivial, trivial, c0, c1, trivial, trivial, trivial⟩ ?_
      exact ih k0 v1 (v2 + (1 : Int32)) (wI M (k0 + 9) ((((12 : Int32)) * v1) + v2).toNatClampNeg (rI M (k0 + 1) ((rI M k0 35) + v2).toNatClampNeg).toInt8.toInt32) h
/-- PolicyJudgeModel.keepName(I)V -/
def w_Mo_keepName (post : aM → Prop) (k0 : Nat) (v1 : Int32) (M : aM) : Prop := (vp_in v1 (rK M (k0 + 8)).2) ∧ (∃ n9, w_Mo_keepName_L12 post n9 k0 v1 ((0 : Int32)) (wI M (k0 + 8) v1.toNatClampNeg (rI M k0 36)))
theorem g_Mo_keepName {d w : Nat} (hd : 0 ≤ d) (hw : 0 ≤ w) {post : aM → Prop} {k0 : Nat} {v1 : Int32} {M : aM} (h : w_Mo_keepName post k0 v1 M) : Gd d w 154 (pV post) (0, aEnt 154 [aR 21 k0, aI v1], [], M) := by
  unfold w_Mo_keepName at h
  show Gd d w 154 _ (0, [some (aR 21 k0), some (aI v1), none], [], M)
  obtain ⟨c0, h⟩ := h
  refine gd_s (P := True ∧ True ∧ True ∧ True ∧ True ∧ (vp_in v1 (rK M (k0 + 8)).2) ∧ True ∧ True ∧ True) (σ1 := (12, [some (aR 21 k0), some (aI v1), some (aI ((0 : Int32)))], [], wI M (k0 + 8) v1.toNatClampNeg (rI M k0 36))) tc_154 rfl 8 (fun u => ⟨_, rfl⟩) ⟨trivial, trivial, trivial, trivial, trivial, c0, trivial, trivial, trivial⟩ ?_
  obtain ⟨n9, h⟩ := h
  exact g_Mo_keepName_L12 hd hw n9 k0 v1 ((0 : Int32)) (wI M (k0 + 8) v1.toNatClampNeg (rI M k0 36)) h
theorem tc_156 : tC 156 = c156 := rfl
/-- PolicyJudgeModel.is(I)Z -/
def w_Mo_is (post : Int32 → Prop) (k0 : Nat) (v1 : Int32) (M : aM) : Prop := ((¬ (rI M k0 34) = ((3 : Int32))) → (((0 : Int32)) = 0 ∨ ((0 : Int32)) = 1) ∧ post ((0 : Int32))) ∧ (¬ (¬ (rI M k0 34) = ((3 : Int32))) → w_Mo_at (fun x1 => ((¬ x1 = v1) → (((0 : Int32)) = 0 ∨ ((0 : Int32)) = 1) ∧ post ((0 : Int32))) ∧ (¬ (¬ x1 = v1) → (((1 : Int32)) = 0 ∨ ((1 : Int32)) = 1) ∧ post ((1 : Int32)))) k0 (rI M k0 35) M)
theorem g_Mo_is {d w : Nat} (hd : 1 ≤ d) (hw : 21 ≤ w) {post : Int32 → Prop} {k0 : Nat} {v1 : Int32} {M : aM} (h : w_Mo_is post k0 v1 M) : Gd d w 156 (pIn M post) (0, aEnt 156 [aR 21 k0, aI v1], [], M) := by
  unfold w_Mo_is at h
  show Gd d w 156 _ (0, [some (aR 21 k0), some (aI v1)], [], M)
  refine gd_s (P := True ∧ True ∧ True ∧ True) (σ1 := (5, [some (aR 21 k0), some (aI v1)], [aI ((3 : Int32)), aI (rI M k0 34)], M)) tc_156 rfl 3 (fun u => ⟨_, rfl⟩) ⟨trivial, trivial, trivial, trivial⟩ ?_
  refine gd_br (c := ¬ (rI M k0 34) = ((3 : Int32))) (st1 := []) tc_156 rfl rfl (fun _ => rfl) ⟨fun hc => ?_, fun hc => ?_⟩
  · have h := h.1 hc
    show Gd d w 156 _ (24, [some (aR 21 k0), some (aI v1)], [], M)
    refine gd_s (P := True ∧ True) (σ1 := (25, [some (aR 21 k0), some (aI v1)], [aI ((0 : Int32))], M)) tc_156 rfl 1 (fun u => ⟨_, rfl⟩) ⟨trivial, trivial⟩ ?_
    exact gd_ret tc_156 rfl rfl h.1 (fun _ => rfl) ⟨_, rfl, rfl, h.2⟩
  · have h := h.2 hc
    show Gd d w 156 _ (8, [some (aR 21 k0), some (aI v1)], [], M)
    refine gd_s (P := True ∧ True ∧ True ∧ True) (σ1 := (13, [some (aR 21 k0), some (aI v1)], [aI (rI M k0 35), aR 21 k0], M)) tc_156 rfl 3 (fun u => ⟨_, rfl⟩) ⟨trivial, trivial, trivial, trivial⟩ ?_
    refine gd_callN (ml := 2) (as := [aR 21 k0, aI (rI M k0 35)]) (rest := []) tc_156 rfl rfl rfl rfl rfl (by omega) (by omega) (Nat.le_of_ble_eq_true rfl) rfl (g_Mo_at (by omega) (by omega) h) (fun r9 M9 h => ?_)
    obtain ⟨x1, rfl, e9, h⟩ := h
    subst M9
    show Gd d w 156 _ (16, [some (aR 21 k0), some (aI v1)], [aI x1], M)
    refine gd_s (P := True ∧ True) (σ1 := (17, [some (aR 21 k0), some (aI v1)], [aI v1, aI x1], M)) tc_156 rfl 1 (fun u => ⟨_, rfl⟩) ⟨trivial, trivial⟩ ?_
    refine gd_br (c := ¬ x1 = v1) (st1 := []) tc_156 rfl rfl (fun _ => rfl) ⟨fun hc => ?_, fun hc => ?_⟩
    · have h := h.1 hc
      show Gd d w 156 _ (24, [some (aR 21 k0), some (aI v1)], [], M)
      refine gd_s (P := True ∧ True) (σ1 := (25, [some (aR 21 k0), some (aI v1)], [aI ((0 : Int32))], M)) tc_156 rfl 1 (fun u => ⟨_, rfl⟩) ⟨trivial, trivial⟩ ?_
      exact gd_ret tc_156 rfl rfl h.1 (fun _ => rfl) ⟨_, rfl, rfl, h.2⟩
    · have h := h.2 hc
      show Gd d w 156 _ (20, [some (aR 21 k0), some (aI v1)], [], M)
      refine gd_s (P := True ∧ True ∧ True) (σ1 := (25, [some (aR 21 k0), some (aI v1)], [aI ((1 : Int32))], M)) tc_156 rfl 2 (fun u => ⟨_, rfl⟩) ⟨trivial, trivial, trivial⟩ ?_
      exact gd_ret tc_156 rfl rfl h.1 (fun _ => rfl) ⟨_, rfl, rfl, h.2⟩
theorem tc_155 : tC 155 = c155 := rfl
/-- PolicyJudgeModel.eat(I)V -/
def w_Mo_eat (post : aM → Prop) (k0 : Nat) (v1 : Int32) (M : aM) : Prop := w_Mo_is (fun x1 => w_Mo_need (fun M2 => w_Mo_nextToken (fun M3 => post M3) k0 M2) k0 x1 M) k0 v1 M
theorem g_Mo_eat {d w : Nat} (hd : 4 ≤ d) (hw : 83 ≤ w) {post : aM → Prop} {k0 : Nat} {v1 : Int32} {M : aM} (h : w_Mo_eat post k0 v1 M) : Gd d w 155 (pV post) (0, aEnt 155 [aR 21 k0, aI v1], [], M) := by
  unfold w_Mo_eat at h
  show Gd d w 155 _ (0, [some (aR 21 k0), some (aI v1)], [], M)
  refine gd_s (P := True ∧ True ∧ True ∧ True) (σ1 := (3, [some (aR 21 k0), some (aI v1)], [aI v1, aR 21 k0, aR 21 k0], M)) tc_155 rfl 3 (fun u => ⟨_, rfl⟩) ⟨trivial, trivial, trivial, trivial⟩ ?_
  refine gd_callN (ml := 2) (as := [aR 21 k0, aI v1]) (rest := [aR 21 k0]) tc_155 rfl rfl rfl rfl rfl (by omega) (by omega) (Nat.le_of_ble_eq_true rfl) rfl (g_Mo_is (by omega) (by omega) h) (fun r9 M9 h => ?_)
  obtain ⟨x1, rfl, e9, h⟩ := h
  subst M9
  show Gd d w 155 _ (6, [some (aR 21 k0), some (aI v1)], [aI x1, aR 21 k0], M)
  refine gd_callN (ml := 2) (as := [aR 21 k0, aI x1]) (rest := []) tc_155 rfl rfl rfl rfl rfl (by omega) (by omega) (Nat.le_of_ble_eq_true rfl) rfl (g_Mo_need (by omega) (by omega) h) (fun r9 M2 h => ?_)
  obtain ⟨rfl, h⟩ := h
  show Gd d w 155 _ (9, [some (aR 21 k0), some (aI v1)], [], M2)
  refine gd_s (P := True ∧ True) (σ1 := (10, [some (aR 21 k0), some (aI v1)], [aR 21 k0], M2)) tc_155 rfl 1 (fun u => ⟨_, rfl⟩) ⟨trivial, trivial⟩ ?_
  refine gd_callN (ml := 2) (as := [aR 21 k0]) (rest := []) tc_155 rfl rfl rfl rfl rfl (by omega) (by omega) (Nat.le_of_ble_eq_true rfl) rfl (g_Mo_nextToken (by omega) (by omega) h) (fun r9 M3 h => ?_)
  obtain ⟨rfl, h⟩ := h
  show Gd d w 155 _ (13, [some (aR 21 k0), some (aI v1)], [], M3)
  exact gd_ret tc_155 rfl rfl trivial (fun _ => rfl) ⟨rfl, h⟩
theorem tc_148 : tC 148 = c148 := rfl
def w_Mo_readAttribute_J232 (post : aM → Prop) (k0 : Nat) (M : aM) : Prop := w_Mo_eat (fun M1 => (vp_in ((2 : Int32)) (rK M1 (k0 + 3)).2) ∧ (vp_in ((2 : Int32)) (rK M1 (k0 + 3)).2) ∧ post (wI M1 (k0 + 3) ((2 : Int32)).toNatClampNeg ((rI M1 (k0 + 3) ((2 : Int32)).toNatClampNeg) + ((1 : Int32))))) k0 ((59 : Int32)) M
theorem g_Mo_readAttribute_J232 {d w : Nat} (hd : 8 ≤ d) (hw : 246 ≤ w) {post : aM → Prop} (k0 : Nat) (o1 o2 : Option aV) (M : aM) (h : w_Mo_readAttribute_J232 post k0 M) : Gd d w 148 (pV post) (232, [some (aR 21 k0), o1, o2], [], M) := by
  unfold w_Mo_readAttribute_J232 at h
  show Gd d w 148 _ (232, [some (aR 21 k0), o1, o2], [], M)
  refine gd_s (P := True ∧ True ∧ True) (σ1 := (235, [some (aR 21 k0), o1, o2], [aI ((59 : Int32)), aR 21 k0], M)) tc_148 rfl 2 (fun u => ⟨_, rfl⟩) ⟨trivial, trivial, trivial⟩ ?_
  refine gd_callN (ml := 2) (as := [aR 21 k0, aI ((59 : Int32))]) (rest := []) tc_148 rfl rfl rfl rfl rfl (by omega) (by omega) (Nat.le_of_ble_eq_true rfl) rfl (g_Mo_eat (by omega) (by omega) h) (fun r9 M1 h => ?_)
  obtain ⟨rfl, h⟩ := h
  show Gd d w 148 _ (238, [some (aR 21 k0), o1, o2], [], M1)
  obtain ⟨c0, c1, h⟩ := h
  refine gd_s (P := True ∧ True ∧ True ∧ True ∧ (vp_in ((2 : Int32)) (rK M1 (k0 + 3)).2) ∧ True ∧ True ∧ (vp_in ((2 : Int32)) (rK M1 (k0 + 3)).2) ∧ True) (σ1 := (248, [some (aR 21 k0), o1, o2], [], wI M1 (k0 + 3) ((2 : Int32)).toNatClampNeg ((rI M1 (k0 + 3) ((2 : Int32)).toNatClampNeg) + ((1 : Int32))))) tc_148 rfl 8 (fun u => ⟨_, rfl⟩) ⟨trivial, trivial, trivial, trivial, c0, trivial, trivial, c1, trivial⟩ ?_
  exact gd_ret tc_148 rfl rfl trivial (fun _ => rfl) ⟨rfl, h⟩
def w_Mo_readAttribute_J218 (post : aM → Prop) (k0 : Nat) (v2 : Int32) (t0 : Nat) (s1 : Int32) (s2 : Int32) (M : aM) : Prop := (vp_in s1 (rK M t0).2 ∧ (s2 = 0 ∨ s2 = 1)) ∧ (vp_in v2 (rK M (k0 + 6)).2) ∧ ((((rI (wI M t0 s1.toNatClampNeg s2) (k0 + 6) v2.toNatClampNeg) = ((0 : Int32))) → w_Mo_readAttribute_J232 post k0 (wI M t0 s1.toNatClampNeg s2)) ∧ (¬ ((rI (wI M t0 s1.toNatClampNeg s2) (k0 + 6) v2.toNatClampNeg) = ((0 : Int32))) → w_Mo_nextToken (fun M1 => w_Mo_readAttribute_J232 post k0 M1) k0 (wI M t0 s1.toNatClampNeg s2)))
theorem g_Mo_readAttribute_J218 {d w : Nat} (hd : 8 ≤ d) (hw : 246 ≤ w) {post : aM → Prop} (k0 : Nat) (v2 : Int32) (t0 : Nat) (s1 : Int32) (s2 : Int32) (o1 : Option aV) (M : aM) (h : w_Mo_readAttribute_J218 post k0 v2 t0 s1 s2 M) : Gd d w 148 (pV post) (218, [some (aR 21 k0), o1, some (aI v2)], [aI s2, aI s1, aR 5 t0], M) := by
  unfold w_Mo_readAttribute_J218 at h
  show Gd d w 148 _ (218, [some (aR 21 k0), o1, some (aI v2)], [aI s2, aI s1, aR 5 t0], M)
  obtain ⟨c0, c1, h⟩ := h
  refine gd_s (P := (vp_in s1 (rK M t0).2 ∧ (s2 = 0 ∨ s2 = 1)) ∧ True ∧ True ∧ True ∧ (vp_in v2 (rK M (k0 + 6)).2) ∧ True) (σ1 := (225, [some (aR 21 k0), o1, some (aI v2)], [aI (rI (wI M t0 s1.toNatClampNeg s2) (k0 + 6) v2.toNatClampNeg)], wI M t0 s1.toNatClampNeg s2)) tc_148 rfl 5 (fun u => ⟨_, rfl⟩) ⟨c0, trivial, trivial, trivial, c1, trivial⟩ ?_
  refine gd_br (c := (rI (wI M t0 s1.toNatClampNeg s2) (k0 + 6) v2.toNatClampNeg) = ((0 : Int32))) (st1 := []) tc_148 rfl rfl (fun _ => rfl) ⟨fun hc => ?_, fun hc => ?_⟩
  · have h := h.1 hc
    exact g_Mo_readAttribute_J232 hd hw k0 o1 (some (aI v2)) (wI M t0 s1.toNatClampNeg s2) h
  · have h := h.2 hc
    show Gd d w 148 _ (228, [some (aR 21 k0), o1, some (aI v2)], [], wI M t0 s1.toNatClampNeg s2)
    refine gd_s (P := True ∧ True) (σ1 := (229, [some (aR 21 k0), o1, some (aI v2)], [aR 21 k0], wI M t0 s1.toNatClampNeg s2)) tc_148 rfl 1 (fun u => ⟨_, rfl⟩) ⟨trivial, trivial⟩ ?_
    refine gd_callN (ml := 2) (as := [aR 21 k0]) (rest := []) tc_148 rfl rfl rfl rfl rfl (by omega) (by omega) (Nat.le_of_ble_eq_true rfl) rfl (g_Mo_nextToken (by omega) (by omega) h) (fun r9 M1 h => ?_)
    obtain ⟨rfl, h⟩ := h
    exact g_Mo_readAttribute_J232 hd hw k0 o1 (some (aI v2)) M1 h
def w_Mo_readAttribute_J217 (post : aM → Prop) (k0 : Nat) (v2 : Int32) (t0 : Nat) (s1 : Int32) (M : aM) : Prop := w_Mo_readAttribute_J218 post k0 v2 t0 s1 ((0 : Int32)) M
theorem g_Mo_readAttribute_J217 {d w : Nat} (hd : 8 ≤ d) (hw : 246 ≤ w) {post : aM → Prop} (k0 : Nat) (v2 : Int32) (t0 : Nat) (s1 : Int32) (o1 : Option aV) (M : aM) (h : w_Mo_readAttribute_J217 post k0 v2 t0 s1 M) : Gd d w 148 (pV post) (217, [some (aR 21 k0), o1, some (aI v2)], [aI s1, aR 5 t0], M) := by
  unfold w_Mo_readAttribute_J217 at h
  show Gd d w 148 _ (217, [some (aR 21 k0), o1, some (aI v2)], [aI s1, aR 5 t0], M)
  refine gd_s (P := True ∧ True) (σ1 := (218, [some (aR 21 k0), o1, some (aI v2)], [aI ((0 : Int32)), aI s1, aR 5 t0], M)) tc_148 rfl 1 (fun u => ⟨_, rfl⟩) ⟨trivial, trivial⟩ ?_
  exact g_Mo_readAttribute_J218 hd hw k0 v2 t0 s1 ((0 : Int32)) o1 M h
def w_Mo_readAttribute_J190 (post : aM → Prop) (k0 : Nat) (v2 : Int32) (M : aM) : Prop := ((¬ (rI M k0 38) = ((-1 : Int32))) → w_Mo_readAttribute_J217 post k0 v2 (k0 + 6) v2 M) ∧ (¬ (¬ (rI M k0 38) = ((-1 : Int32))) → w_Mo_isWord (fun x1 => ((x1 = ((0 : Int32))) → w_Mo_readAttribute_J217 post k0 v2 (k0 + 6) v2 M) ∧ (¬ (x1 = ((0 : Int32))) → w_Mo_readAttribute_J218 post k0 v2 (k0 + 6) v2 ((1 : Int32)) M)) k0 18 M)
theorem g_Mo_readAttribute_J190 {d w : Nat} (hd : 8 ≤ d) (hw : 246 ≤ w) {post : aM → Prop} (k0 : Nat) (v2 : Int32) (o1 : Option aV) (M : aM) (h : w_Mo_readAttribute_J190 post k0 v2 M) : Gd d w 148 (pV post) (190, [some (aR 21 k0), o1, some (aI v2)], [], M) := by
  unfold w_Mo_readAttribute_J190 at h
  show Gd d w 148 _ (190, [some (aR 21 k0), o1, some (aI v2)], [], M)
  refine gd_s (P := True ∧ True ∧ True ∧ True ∧ True ∧ True ∧ True) (σ1 := (200, [some (aR 21 k0), o1, some (aI v2)], [aI ((-1 : Int32)), aI (rI M k0 38), aI v2, aR 5 (k0 + 6)], M)) tc_148 rfl 6 (fun u => ⟨_, rfl⟩) ⟨trivial, trivial, trivial, trivial, trivial, trivial, trivial⟩ ?_
  refine gd_br (c := ¬ (rI M k0 38) = ((-1 : Int32))) (st1 := [aI v2, aR 5 (k0 + 6)]) tc_148 rfl rfl (fun _ => rfl) ⟨fun hc => ?_, fun hc => ?_⟩
  · have h := h.1 hc
    exact g_Mo_readAttribute_J217 hd hw k0 v2 (k0 + 6) v2 o1 M h
  · have h := h.2 hc
    show Gd d w 148 _ (203, [some (aR 21 k0), o1, some (aI v2)], [aI v2, aR 5 (k0 + 6)], M)
    refine gd_s (P := True ∧ True ∧ True) (σ1 := (207, [some (aR 21 k0), o1, some (aI v2)], [aR 1 18, aR 21 k0, aI v2, aR 5 (k0 + 6)], M)) tc_148 rfl 2 (fun u => ⟨_, rfl⟩) ⟨trivial, trivial, trivial⟩ ?_
    refine gd_callN (ml := 4) (as := [aR 21 k0, aR 1 18]) (rest := [aI v2, aR 5 (k0 + 6)]) tc_148 rfl rfl rfl rfl rfl (by omega) (by omega) (Nat.le_of_ble_eq_true rfl) rfl (g_Mo_isWord (by omega) (by omega) h) (fun r9 M9 h => ?_)
    obtain ⟨x1, rfl, e9, h⟩ := h
    subst M9
    show Gd d w 148 _ (210, [some (aR 21 k0), o1, some (aI v2)], [aI x1, aI v2, aR 5 (k0 + 6)], M)
    refine gd_br (c := x1 = ((0 : Int32))) (st1 := [aI v2, aR 5 (k0 + 6)]) tc_148 rfl rfl (fun _ => rfl) ⟨fun hc => ?_, fun hc => ?_⟩
    · have h := h.1 hc
      exact g_Mo_readAttribute_J217 hd hw k0 v2 (k0 + 6) v2 o1 M h
    · have h := h.2 hc
      show Gd d w 148 _ (213, [some (aR 21 k0), o1, some (aI v2)], [aI v2, aR 5 (k0 + 6)], M)
      refine gd_s (P := True ∧ True ∧ True) (σ1 := (218, [some (aR 21 k0), o1, some (aI v2)], [aI ((1 : Int32)), aI v2, aR 5 (k0 + 6)], M)) tc_148 rfl 2 (fun u => ⟨_, rfl⟩) ⟨trivial, trivial, trivial⟩ ?_
      exact g_Mo_readAttribute_J218 hd hw k0 v2 (k0 + 6) v2 ((1 : Int32)) o1 M h
def w_Mo_readAttribute_J176 (post : aM → Prop) (k0 : Nat) (v2 : Int32) (t0 : Nat) (s1 : Int32) (s2 : Int32) (M : aM) : Prop := (vp_in s1 (rK M t0).2 ∧ (s2 = 0 ∨ s2 = 1)) ∧ (vp_in v2 (rK M (k0 + 5)).2) ∧ ((((rI (wI M t0 s1.toNatClampNeg s2) (k0 + 5) v2.toNatClampNeg) = ((0 : Int32))) → w_Mo_readAttribute_J190 post k0 v2 (wI M t0 s1.toNatClampNeg s2)) ∧ (¬ ((rI (wI M t0 s1.toNatClampNeg s2) (k0 + 5) v2.toNatClampNeg) = ((0 : Int32))) → w_Mo_nextToken (fun M1 => w_Mo_readAttribute_J190 post k0 v2 M1) k0 (wI M t0 s1.toNatClampNeg s2)))
theorem g_Mo_readAttribute_J176 {d w : Nat} (hd : 8 ≤ d) (hw : 246 ≤ w) {post : aM → Prop} (k0 : Nat) (v2 : Int32) (t0 : Nat) (s1 : Int32) (s2 : Int32) (o1 : Option aV) (M : aM) (h : w_Mo_readAttribute_J176 post k0 v2 t0 s1 s2 M) : Gd d w 148 (pV post) (176, [some (aR 21 k0), o1, some (aI v2)], [aI s2, aI s1, aR 5 t0], M) := by
  unfold w_Mo_readAttribute_J176 at h
  show Gd d w 148 _ (176, [some (aR 21 k0), o1, some (aI v2)], [aI s2, aI s1, aR 5 t0], M)
  obtain ⟨c0, c1, h⟩ := h
  refine gd_s (P := (vp_in s1 (rK M t0).2 ∧ (s2 = 0 ∨ s2 = 1)) ∧ True ∧ True ∧ True ∧ (vp_in v2 (rK M (k0 + 5)).2) ∧ True) (σ1 := (183, [some (aR 21 k0), o1, some (aI v2)], [aI (rI (wI M t0 s1.toNatClampNeg s2) (k0 + 5) v2.toNatClampNeg)], wI M t0 s1.toNatClampNeg s2)) tc_148 rfl 5 (fun u => ⟨_, rfl⟩) ⟨c0, trivial, trivial, trivial, c1, trivial⟩ ?_
  refine gd_br (c := (rI (wI M t0 s1.toNatClampNeg s2) (k0 + 5) v2.toNatClampNeg) = ((0 : Int32))) (st1 := []) tc_148 rfl rfl (fun _ => rfl) ⟨fun hc => ?_, fun hc => ?_⟩
  · have h := h.1 hc
    exact g_Mo_readAttribute_J190 hd hw k0 v2 o1 (wI M t0 s1.toNatClampNeg s2) h
  · have h := h.2 hc
    show Gd d w 148 _ (186, [some (aR 21 k0), o1, some (aI v2)], [], wI M t0 s1.toNatClampNeg s2)
    refine gd_s (P := True ∧ True) (σ1 := (187, [some (aR 21 k0), o1, some (aI v2)], [aR 21 k0], wI M t0 s1.toNatClampNeg s2)) tc_148 rfl 1 (fun u => ⟨_, rfl⟩) ⟨trivial, trivial⟩ ?_
    refine gd_callN (ml := 2) (as := [aR 21 k0]) (rest := []) tc_148 rfl rfl rfl rfl rfl (by omega) (by omega) (Nat.le_of_ble_eq_true rfl) rfl (g_Mo_nextToken (by omega) (by omega) h) (fun r9 M1 h => ?_)
    obtain ⟨rfl, h⟩ := h
    exact g_Mo_readAttribute_J190 hd hw k0 v2 o1 M1 h
def w_Mo_readAttribute_J175 (post : aM → Prop) (k0 : Nat) (v2 : Int32) (t0 : Nat) (s1 : Int32) (M : aM) : Prop := w_Mo_readAttribute_J176 post k0 v2 t0 s1 ((0 : Int32)) M
theorem g_Mo_readAttribute_J175 {d w : Nat} (hd : 8 ≤ d) (hw : 246 ≤ w) {post : aM → Prop} (k0 : Nat) (v2 : Int32) (t0 : Nat) (s1 : Int32) (o1 : Option aV) (M : aM) (h : w_Mo_readAttribute_J175 post k0 v2 t0 s1 M) : Gd d w 148 (pV post) (175, [some (aR 21 k0), o1, some (aI v2)], [aI s1, aR 5 t0], M) := by
  unfold w_Mo_readAttribute_J175 at h
  show Gd d w 148 _ (175, [some (aR 21 k0), o1, some (aI v2)], [aI s1, aR 5 t0], M)
  refine gd_s (P := True ∧ True) (σ1 := (176, [some (aR 21 k0), o1, some (aI v2)], [aI ((0 : Int32)), aI s1, aR 5 t0], M)) tc_148 rfl 1 (fun u => ⟨_, rfl⟩) ⟨trivial, trivial⟩ ?_
  exact g_Mo_readAttribute_J176 hd hw k0 v2 t0 s1 ((0 : Int32)) o1 M h
def w_Mo_readAttribute_J122 (post : aM → Prop) (k0 : Nat) (v1 : Int32) (M : aM) : Prop := (vp_in (((16 : Int32)) + v1) (rK M (k0 + 4)).2) ∧ (vp_in (((16 : Int32)) + v1) (rK M (k0 + 7)).2) ∧ (w_Mo_nextToken (fun M1 => ((¬ (rI M1 k0 38) = ((-1 : Int32))) → w_Mo_readAttribute_J175 post k0 (((16 : Int32)) + v1) (k0 + 5) (((16 : Int32)) + v1) M1) ∧ (¬ (¬ (rI M1 k0 38) = ((-1 : Int32))) → w_Mo_isWord (fun x2 => ((x2 = ((0 : Int32))) → w_Mo_readAttribute_J175 post k0 (((16 : Int32)) + v1) (k0 + 5) (((16 : Int32)) + v1) M1) ∧ (¬ (x2 = ((0 : Int32))) → w_Mo_readAttribute_J176 post k0 (((16 : Int32)) + v1) (k0 + 5) (((16 : Int32)) + v1) ((1 : Int32)) M1)) k0 17 M1)) k0 (wI (wI M (k0 + 4) (((16 : Int32)) + v1).toNatClampNeg (rI M k0 37)) (k0 + 7) (((16 : Int32)) + v1).toNatClampNeg ((0 : Int32))))
theorem g_Mo_readAttribute_J122 {d w : Nat} (hd : 8 ≤ d) (hw : 246 ≤ w) {post : aM → Prop} (k0 : Nat) (v1 : Int32) (o2 : Option aV) (M : aM) (h : w_Mo_readAttribute_J122 post k0 v1 M) : Gd d w 148 (pV post) (122, [some (aR 21 k0), some (aI v1), o2], [], M) := by
  unfold w_Mo_readAttribute_J122 at h
  show Gd d w 148 _ (122, [some (aR 21 k0), some (aI v1), o2], [], M)
  obtain ⟨c0, c1, h⟩ := h
  refine gd_s (P := True ∧ True ∧ True ∧ True ∧ True ∧ True ∧ True ∧ True ∧ True ∧ (vp_in (((16 : Int32)) + v1) (rK M (k0 + 4)).2) ∧ True ∧ True ∧ True ∧ True ∧ (vp_in (((16 : Int32)) + v1) (rK M (k0 + 7)).2) ∧ True ∧ True) (σ1 := (145, [some (aR 21 k0), some (aI v1), some (aI (((16 : Int32)) + v1))], [aR 21 k0], wI (wI M (k0 + 4) (((16 : Int32)) + v1).toNatClampNeg (rI M k0 37)) (k0 + 7) (((16 : Int32)) + v1).toNatClampNeg ((0 : Int32)))) tc_148 rfl 16 (fun u => ⟨_, rfl⟩) ⟨trivial, trivial, trivial, trivial, trivial, trivial, trivial, trivial, trivial, c0, trivial, trivial, trivial, trivial, c1, trivial, trivial⟩ ?_
  refine gd_callN (ml := 2) (as := [aR 21 k0]) (rest := []) tc_148 rfl rfl rfl rfl rfl (by omega) (by omega) (Nat.le_of_ble_eq_true rfl) rfl (g_Mo_nextToken (by omega) (by omega) h) (fun r9 M1 h => ?_)
  obtain ⟨rfl, h⟩ := h
  show Gd d w 148 _ (148, [some (aR 21 k0), some (aI v1), some (aI (((16 : Int32)) + v1))], [], M1)
  refine gd_s (P := True ∧ True ∧ True ∧ True ∧ True ∧ True ∧ True) (σ1 := (158, [some (aR 21 k0), some (aI v1), some (aI (((16 : Int32)) + v1))], [aI ((-1 : Int32)), aI (rI M1 k0 38), aI (((16 : Int32)) + v1), aR 5 (k0 + 5)], M1)) tc_148 rfl 6 (fun u => ⟨_, rfl⟩) ⟨trivial, trivial, trivial, trivial, trivial, trivial, trivial⟩ ?_
  refine gd_br (c := ¬ (rI M1 k0 38) = ((-1 : Int32))) (st1 := [aI (((16 : Int32)) + v1), aR 5 (k0 + 5)]) tc_148 rfl rfl (fun _ => rfl) ⟨fun hc => ?_, fun hc => ?_⟩
  · have h := h.1 hc
    exact g_Mo_readAttribute_J175 hd hw k0 (((16 : Int32)) + v1) (k0 + 5) (((16 : Int32)) + v1) (some (aI v1)) M1 h
  · have h := h.2 hc
    show Gd d w 148 _ (161, [some (aR 21 k0), some (aI v1), some (aI (((16 : Int32)) + v1))], [aI (((16 : Int32)) + v1), aR 5 (k0 + 5)], M1)
    refine gd_s (P := True ∧ True ∧ True) (σ1 := (165, [some (aR 21 k0), some (aI v1), some (aI (((16 : Int32)) + v1))], [aR 1 17, aR 21 k0, aI (((16 : Int32)) + v1), aR 5 (k0 + 5)], M1)) tc_148 rfl 2 (fun u => ⟨_, rfl⟩) ⟨trivial, trivial, trivial⟩ ?_
    refine gd_callN (ml := 4) (as := [aR 21 k0, aR 1 17]) (rest := [aI (((16 : Int32)) + v1), aR 5 (k0 + 5)]) tc_148 rfl rfl rfl rfl rfl (by omega) (by omega) (Nat.le_of_ble_eq_true rfl) rfl (g_Mo_isWord (by omega) (by omega) h) (fun r9 M9 h => ?_)
    obtain ⟨x2, rfl, e9, h⟩ := h
    subst M9
    show Gd d w 148 _ (168, [some (aR 21 k0), some (aI v1), some (aI (((16 : Int32)) + v1))], [aI x2, aI (((16 : Int32)) + v1), aR 5 (k0 + 5)], M1)
    refine gd_br (c := x2 = ((0 : Int32))) (st1 := [aI (((16 : Int32)) + v1), aR 5 (k0 + 5)]) tc_148 rfl rfl (fun _ => rfl) ⟨fun hc => ?_, fun hc => ?_⟩
    · have h := h.1 hc
      exact g_Mo_readAttribute_J175 hd hw k0 (((16 : Int32)) + v1) (k0 + 5) (((16 : Int32)) + v1) (some (aI v1)) M1 h
    · have h := h.2 hc
      show Gd d w 148 _ (171, [some (aR 21 k0), some (aI v1), some (aI (((16 : Int32)) + v1))], [aI (((16 : Int32)) + v1), aR 5 (k0 + 5)], M1)
      refine gd_s (P := True ∧ True ∧ True) (σ1 := (176, [some (aR 21 k0), some (aI v1), some (aI (((16 : Int32)) + v1))], [aI ((1 : Int32)), aI (((16 : Int32)) + v1), aR 5 (k0 + 5)], M1)) tc_148 rfl 2 (fun u => ⟨_, rfl⟩) ⟨trivial, trivial, trivial⟩ ?_
      exact g_Mo_readAttribute_J176 hd hw k0 (((16 : Int32)) + v1) (k0 + 5) (((16 : Int32)) + v1) ((1 : Int32)) (some (aI v1)) M1 h
def w_Mo_readAttribute_J93 (post : aM → Prop) (k0 : Nat) (v1 : Int32) (t0 : Nat) (s1 : Int32) (M : aM) : Prop := w_Mo_need (fun M1 => ((¬ (rI M1 k0 38) = ((-1 : Int32))) → w_Mo_readAttribute_J122 post k0 v1 M1) ∧ (¬ (¬ (rI M1 k0 38) = ((-1 : Int32))) → w_Mo_in (fun x2 => ((¬ x2 = ((0 : Int32))) → w_Mo_readAttribute_J122 post k0 v1 M1) ∧ (¬ (¬ x2 = ((0 : Int32))) → w_Mo_bad (fun M3 => w_Mo_readAttribute_J122 post k0 v1 M3) k0 ((4 : Int32)) M1)) (rI M1 k0 37) ((1 : Int32)) ((8 : Int32)) M1)) t0 s1 M
theorem g_Mo_readAttribute_J93 {d w : Nat} (hd : 8 ≤ d) (hw : 246 ≤ w) {post : aM → Prop} (k0 : Nat) (v1 : Int32) (t0 : Nat) (s1 : Int32) (o2 : Option aV) (M : aM) (h : w_Mo_readAttribute_J93 post k0 v1 t0 s1 M) : Gd d w 148 (pV post) (93, [some (aR 21 k0), some (aI v1), o2], [aI s1, aR 21 t0], M) := by
  unfold w_Mo_readAttribute_J93 at h
  show Gd d w 148 _ (93, [some (aR 21 k0), some (aI v1), o2], [aI s1, aR 21 t0], M)
  refine gd_callN (ml := 2) (as := [aR 21 t0, aI s1]) (rest := []) tc_148 rfl rfl rfl rfl rfl (by omega) (by omega) (Nat.le_of_ble_eq_true rfl) rfl (g_Mo_need (by omega) (by omega) h) (fun r9 M1 h => ?_)
  obtain ⟨rfl, h⟩ := h
  show Gd d w 148 _ (96, [some (aR 21 k0), some (aI v1), o2], [], M1)
  refine gd_s (P := True ∧ True ∧ True ∧ True) (σ1 := (101, [some (aR 21 k0), some (aI v1), o2], [aI ((-1 : Int32)), aI (rI M1 k0 38)], M1)) tc_148 rfl 3 (fun u => ⟨_, rfl⟩) ⟨trivial, trivial, trivial, trivial⟩ ?_
  refine gd_br (c := ¬ (rI M1 k0 38) = ((-1 : Int32))) (st1 := []) tc_148 rfl rfl (fun _ => rfl) ⟨fun hc => ?_, fun hc => ?_⟩
  · have h := h.1 hc
    exact g_Mo_readAttribute_J122 hd hw k0 v1 o2 M1 h
  · have h := h.2 hc
    show Gd d w 148 _ (104, [some (aR 21 k0), some (aI v1), o2], [], M1)
    refine gd_s (P := True ∧ True ∧ True ∧ True ∧ True) (σ1 := (111, [some (aR 21 k0), some (aI v1), o2], [aI ((8 : Int32)), aI ((1 : Int32)), aI (rI M1 k0 37)], M1)) tc_148 rfl 4 (fun u => ⟨_, rfl⟩) ⟨trivial, trivial, trivial, trivial, trivial⟩ ?_
    refine gd_callN (ml := 3) (as := [aI (rI M1 k0 37), aI ((1 : Int32)), aI ((8 : Int32))]) (rest := []) tc_148 rfl rfl rfl rfl rfl (by omega) (by omega) (Nat.le_of_ble_eq_true rfl) rfl (g_Mo_in (by omega) (by omega) h) (fun r9 M9 h => ?_)
    obtain ⟨x2, rfl, e9, h⟩ := h
    subst M9
    show Gd d w 148 _ (114, [some (aR 21 k0), some (aI v1), o2], [aI x2], M1)
    refine gd_br (c := ¬ x2 = ((0 : Int32))) (st1 := []) tc_148 rfl rfl (fun _ => rfl) ⟨fun hc => ?_, fun hc => ?_⟩
    · have h := h.1 hc
      exact g_Mo_readAttribute_J122 hd hw k0 v1 o2 M1 h
    · have h := h.2 hc
      show Gd d w 148 _ (117, [some (aR 21 k0), some (aI v1), o2], [], M1)
      refine gd_s (P := True ∧ True ∧ True) (σ1 := (119, [some (aR 21 k0), some (aI v1), o2], [aI ((4 : Int32)), aR 21 k0], M1)) tc_148 rfl 2 (fun u => ⟨_, rfl⟩) ⟨trivial, trivial, trivial⟩ ?_
      refine gd_callN (ml := 2) (as := [aR 21 k0, aI ((4 : Int32))]) (rest := []) tc_148 rfl rfl rfl rfl rfl (by omega) (by omega) (Nat.le_of_ble_eq_true rfl) rfl (g_Mo_bad (by omega) (by omega) h) (fun r9 M3 h => ?_)
      obtain ⟨rfl, h⟩ := h
      exact g_Mo_readAttribute_J122 hd hw k0 v1 o2 M3 h
def w_Mo_readAttribute_J49 (post : aM → Prop) (k0 : Nat) (M : aM) : Prop := (((rI M k0 38) = ((-1 : Int32))) → (vp_in ((2 : Int32)) (rK M (k0 + 3)).2) ∧ (w_Mo_nameOf (fun x1 => w_Mo_keepName (fun M2 => w_Mo_nextToken (fun M3 => ((¬ (rI M3 k0 34) = ((2 : Int32))) → w_Mo_readAttribute_J93 post k0 (rI M (k0 + 3) ((2 : Int32)).toNatClampNeg) k0 ((0 : Int32)) M3) ∧ (¬ (¬ (rI M3 k0 34) = ((2 : Int32))) → w_Mo_readAttribute_J93 post k0 (rI M (k0 + 3) ((2 : Int32)).toNatClampNeg) k0 ((1 : Int32)) M3)) k0 M2) k0 x1 M) ((2 : Int32)) ((0 : Int32)) (rI M (k0 + 3) ((2 : Int32)).toNatClampNeg) M)) ∧ (¬ ((rI M k0 38) = ((-1 : Int32))) → post M)
theorem g_Mo_readAttribute_J49 {d w : Nat} (hd : 8 ≤ d) (hw : 246 ≤ w) {post : aM → Prop} (k0 : Nat) (o1 o2 : Option aV) (M : aM) (h : w_Mo_readAttribute_J49 post k0 M) : Gd d w 148 (pV post) (49, [some (aR 21 k0), o1, o2], [], M) := by
  unfold w_Mo_readAttribute_J49 at h
  show Gd d w 148 _ (49, [some (aR 21 k0), o1, o2], [], M)
  refine gd_s (P := True ∧ True ∧ True ∧ True) (σ1 := (54, [some (aR 21 k0), o1, o2], [aI ((-1 : Int32)), aI (rI M k0 38)], M)) tc_148 rfl 3 (fun u => ⟨_, rfl⟩) ⟨trivial, trivial, trivial, trivial⟩ ?_
  refine gd_br (c := (rI M k0 38) = ((-1 : Int32))) (st1 := []) tc_148 rfl rfl (fun _ => rfl) ⟨fun hc => ?_, fun hc => ?_⟩
  · have h := h.1 hc
    show Gd d w 148 _ (58, [some (aR 21 k0), o1, o2], [], M)
    obtain ⟨c0, h⟩ := h
    refine gd_s (P := True ∧ True ∧ True ∧ (vp_in ((2 : Int32)) (rK M (k0 + 3)).2) ∧ True ∧ True ∧ True ∧ True ∧ True ∧ True) (σ1 := (69, [some (aR 21 k0), some (aI (rI M (k0 + 3) ((2 : Int32)).toNatClampNeg)), o2], [aI (rI M (k0 + 3) ((2 : Int32)).toNatClampNeg), aI ((0 : Int32)), aI ((2 : Int32)), aR 21 k0], M)) tc_148 rfl 9 (fun u => ⟨_, rfl⟩) ⟨trivial, trivial, trivial, c0, trivial, trivial, trivial, trivial, trivial, trivial⟩ ?_
    refine gd_callN (ml := 3) (as := [aI ((2 : Int32)), aI ((0 : Int32)), aI (rI M (k0 + 3) ((2 : Int32)).toNatClampNeg)]) (rest := [aR 21 k0]) tc_148 rfl rfl rfl rfl rfl (by omega) (by omega) (Nat.le_of_ble_eq_true rfl) rfl (g_Mo_nameOf (by omega) (by omega) h) (fun r9 M9 h => ?_)
    obtain ⟨x1, rfl, e9, h⟩ := h
    subst M9
    show Gd d w 148 _ (72, [some (aR 21 k0), some (aI (rI M (k0 + 3) ((2 : Int32)).toNatClampNeg)), o2], [aI x1, aR 21 k0], M)
    refine gd_callN (ml := 3) (as := [aR 21 k0, aI x1]) (rest := []) tc_148 rfl rfl rfl rfl rfl (by omega) (by omega) (Nat.le_of_ble_eq_true rfl) rfl (g_Mo_keepName (by omega) (by omega) h) (fun r9 M2 h => ?_)
    obtain ⟨rfl, h⟩ := h
    show Gd d w 148 _ (75, [some (aR 21 k0), some (aI (rI M (k0 + 3) ((2 : Int32)).toNatClampNeg)), o2], [], M2)
    refine gd_s (P := True ∧ True) (σ1 := (76, [some (aR 21 k0), some (aI (rI M (k0 + 3) ((2 : Int32)).toNatClampNeg)), o2], [aR 21 k0], M2)) tc_148 rfl 1 (fun u => ⟨_, rfl⟩) ⟨trivial, trivial⟩ ?_
    refine gd_callN (ml := 2) (as := [aR 21 k0]) (rest := []) tc_148 rfl rfl rfl rfl rfl (by omega) (by omega) (Nat.le_of_ble_eq_true rfl) rfl (g_Mo_nextToken (by omega) (by omega) h) (fun r9 M3 h => ?_)
    obtain ⟨rfl, h⟩ := h
    show Gd d w 148 _ (79, [some (aR 21 k0), some (aI (rI M (k0 + 3) ((2 : Int32)).toNatClampNeg)), o2], [], M3)
    refine gd_s (P := True ∧ True ∧ True ∧ True ∧ True) (σ1 := (85, [some (aR 21 k0), some (aI (rI M (k0 + 3) ((2 : Int32)).toNatClampNeg)), o2], [aI ((2 : Int32)), aI (rI M3 k0 34), aR 21 k0], M3)) tc_148 rfl 4 (fun u => ⟨_, rfl⟩) ⟨trivial, trivial, trivial, trivial, trivial⟩ ?_
    refine gd_br (c := ¬ (rI M3 k0 34) = ((2 : Int32))) (st1 := [aR 21 k0]) tc_148 rfl rfl (fun _ => rfl) ⟨fun hc => ?_, fun hc => ?_⟩
    · have h := h.1 hc
      show Gd d w 148 _ (92, [some (aR 21 k0), some (aI (rI M (k0 + 3) ((2 : Int32)).toNatClampNeg)), o2], [aR 21 k0], M3)
      refine gd_s (P := True ∧ True) (σ1 := (93, [some (aR 21 k0), some (aI (rI M (k0 + 3) ((2 : Int32)).toNatClampNeg)), o2], [aI ((0 : Int32)), aR 21 k0], M3)) tc_148 rfl 1 (fun u => ⟨_, rfl⟩) ⟨trivial, trivial⟩ ?_
      exact g_Mo_readAttribute_J93 hd hw k0 (rI M (k0 + 3) ((2 : Int32)).toNatClampNeg) k0 ((0 : Int32)) o2 M3 h
    · have h := h.2 hc
      show Gd d w 148 _ (88, [some (aR 21 k0), some (aI (rI M (k0 + 3) ((2 : Int32)).toNatClampNeg)), o2], [aR 21 k0], M3)
      refine gd_s (P := True ∧ True ∧ True) (σ1 := (93, [some (aR 21 k0), some (aI (rI M (k0 + 3) ((2 : Int32)).toNatClampNeg)), o2], [aI ((1 : Int32)), aR 21 k0], M3)) tc_148 rfl 2 (fun u => ⟨_, rfl⟩) ⟨trivial, trivial, trivial⟩ ?_
      exact g_Mo_readAttribute_J93 hd hw k0 (rI M (k0 + 3) ((2 : Int32)).toNatClampNeg) k0 ((1 : Int32)) o2 M3 h
  · have h := h.2 hc
    show Gd d w 148 _ (57, [some (aR 21 k0), o1, o2], [], M)
    exact gd_ret tc_148 rfl rfl trivial (fun _ => rfl) ⟨rfl, h⟩
def w_Mo_readAttribute_J16 (post : aM → Prop) (k0 : Nat) (M : aM) : Prop := w_Mo_nextToken (fun M1 => w_Mo_isName (fun x2 => w_Mo_need (fun M3 => ((¬ (rI M3 k0 38) = ((-1 : Int32))) → w_Mo_readAttribute_J49 post k0 M3) ∧ (¬ (¬ (rI M3 k0 38) = ((-1 : Int32))) → w_Mo_attributeHere (fun x4 => ((x4 = ((-1 : Int32))) → w_Mo_readAttribute_J49 post k0 M3) ∧ (¬ (x4 = ((-1 : Int32))) → w_Mo_bad (fun M5 => w_Mo_readAttribute_J49 post k0 M5) k0 ((3 : Int32)) M3)) k0 M3)) k0 x2 M1) k0 M1) k0 M
theorem g_Mo_readAttribute_J16 {d w : Nat} (hd : 8 ≤ d) (hw : 246 ≤ w) {post : aM → Prop} (k0 : Nat) (o1 o2 : Option aV) (M : aM) (h : w_Mo_readAttribute_J16 post k0 M) : Gd d w 148 (pV post) (16, [some (aR 21 k0), o1, o2], [], M) := by
  unfold w_Mo_readAttribute_J16 at h
  show Gd d w 148 _ (16, [some (aR 21 k0), o1, o2], [], M)
  refine gd_s (P := True ∧ True) (σ1 := (17, [some (aR 21 k0), o1, o2], [aR 21 k0], M)) tc_148 rfl 1 (fun u => ⟨_, rfl⟩) ⟨trivial, trivial⟩ ?_
  refine gd_callN (ml := 2) (as := [aR 21 k0]) (rest := []) tc_148 rfl rfl rfl rfl rfl (by omega) (by omega) (Nat.le_of_ble_eq_true rfl) rfl (g_Mo_nextToken (by omega) (by omega) h) (fun r9 M1 h => ?_)
  obtain ⟨rfl, h⟩ := h
  show Gd d w 148 _ (20, [some (aR 21 k0), o1, o2], [], M1)
  refine gd_s (P := True ∧ True ∧ True) (σ1 := (22, [some (aR 21 k0), o1, o2], [aR 21 k0, aR 21 k0], M1)) tc_148 rfl 2 (fun u => ⟨_, rfl⟩) ⟨trivial, trivial, trivial⟩ ?_
  refine gd_callN (ml := 1) (as := [aR 21 k0]) (rest := [aR 21 k0]) tc_148 rfl rfl rfl rfl rfl (by omega) (by omega) (Nat.le_of_ble_eq_true rfl) rfl (g_Mo_isName (by omega) (by omega) h) (fun r9 M9 h => ?_)
  obtain ⟨x2, rfl, e9, h⟩ := h
  subst M9
  show Gd d w 148 _ (25, [some (aR 21 k0), o1, o2], [aI x2, aR 21 k0], M1)
  refine gd_callN (ml := 2) (as := [aR 21 k0, aI x2]) (rest := []) tc_148 rfl rfl rfl rfl rfl (by omega) (by omega) (Nat.le_of_ble_eq_true rfl) rfl (g_Mo_need (by omega) (by omega) h) (fun r9 M3 h => ?_)
  obtain ⟨rfl, h⟩ := h
  show Gd d w 148 _ (28, [some (aR 21 k0), o1, o2], [], M3)
  refine gd_s (P := True ∧ True ∧ True ∧ True) (σ1 := (33, [some (aR 21 k0), o1, o2], [aI ((-1 : Int32)), aI (rI M3 k0 38)], M3)) tc_148 rfl 3 (fun u => ⟨_, rfl⟩) ⟨trivial, trivial, trivial, trivial⟩ ?_
  refine gd_br (c := ¬ (rI M3 k0 38) = ((-1 : Int32))) (st1 := []) tc_148 rfl rfl (fun _ => rfl) ⟨fun hc => ?_, fun hc => ?_⟩
  · have h := h.1 hc
    exact g_Mo_readAttribute_J49 hd hw k0 o1 o2 M3 h
  · have h := h.2 hc
    show Gd d w 148 _ (36, [some (aR 21 k0), o1, o2], [], M3)
    refine gd_s (P := True ∧ True) (σ1 := (37, [some (aR 21 k0), o1, o2], [aR 21 k0], M3)) tc_148 rfl 1 (fun u => ⟨_, rfl⟩) ⟨trivial, trivial⟩ ?_
    refine gd_callN (ml := 5) (as := [aR 21 k0]) (rest := []) tc_148 rfl rfl rfl rfl rfl (by omega) (by omega) (Nat.le_of_ble_eq_true rfl) rfl (g_Mo_attributeHere (by omega) (by omega) h) (fun r9 M9 h => ?_)
    obtain ⟨x4, rfl, e9, h⟩ := h
    subst M9
    show Gd d w 148 _ (40, [some (aR 21 k0), o1, o2], [aI x4], M3)
    refine gd_s (P := True ∧ True) (σ1 := (41, [some (aR 21 k0), o1, o2], [aI ((-1 : Int32)), aI x4], M3)) tc_148 rfl 1 (fun u => ⟨_, rfl⟩) ⟨trivial, trivial⟩ ?_
    refine gd_br (c := x4 = ((-1 : Int32))) (st1 := []) tc_148 rfl rfl (fun _ => rfl) ⟨fun hc => ?_, fun hc => ?_⟩
    · have h := h.1 hc
      exact g_Mo_readAttribute_J49 hd hw k0 o1 o2 M3 h
    · have h := h.2 hc
      show Gd d w 148 _ (44, [some (aR 21 k0), o1, o2], [], M3)
      refine gd_s (P := True ∧ True ∧ True) (σ1 := (46, [some (aR 21 k0), o1, o2], [aI ((3 : Int32)), aR 21 k0], M3)) tc_148 rfl 2 (fun u => ⟨_, rfl⟩) ⟨trivial, trivial, trivial⟩ ?_
      refine gd_callN (ml := 2) (as := [aR 21 k0, aI ((3 : Int32))]) (rest := []) tc_148 rfl rfl rfl rfl rfl (by omega) (by omega) (Nat.le_of_ble_eq_true rfl) rfl (g_Mo_bad (by omega) (by omega) h) (fun r9 M5 h => ?_)
      obtain ⟨rfl, h⟩ := h
      exact g_Mo_readAttribute_J49 hd hw k0 o1 o2 M5 h
/-- PolicyJudgeModel.readAttribute()V -/
def w_Mo_readAttribute (post : aM → Prop) (k0 : Nat) (M : aM) : Prop := (vp_in ((2 : Int32)) (rK M (k0 + 3)).2) ∧ (((¬ (rI M (k0 + 3) ((2 : Int32)).toNatClampNeg) = ((8 : Int32))) → w_Mo_readAttribute_J16 post k0 M) ∧ (¬ (¬ (rI M (k0 + 3) ((2 : Int32)).toNatClampNeg) = ((8 : Int32))) → w_Mo_bad (fun M1 => w_Mo_readAttribute_J16 post k0 M1) k0 ((5 : Int32)) M))
theorem g_Mo_readAttribute {d w : Nat} (hd : 8 ≤ d) (hw : 246 ≤ w) {post : aM → Prop} {k0 : Nat} {M : aM} (h : w_Mo_readAttribute post k0 M) : Gd d w 148 (pV post) (0, aEnt 148 [aR 21 k0], [], M) := by
  unfold w_Mo_readAttribute at h
  show Gd d w 148 _ (0, [some (aR 21 k0), none, none], [], M)
  obtain ⟨c0, h⟩ := h
  refine gd_s (P := True ∧ True ∧ True ∧ (vp_in ((2 : Int32)) (rK M (k0 + 3)).2) ∧ True ∧ True) (σ1 := (8, [some (aR 21 k0), none, none], [aI ((8 : Int32)), aI (rI M (k0 + 3) ((2 : Int32)).toNatClampNeg)], M)) tc_148 rfl 5 (fun u => ⟨_, rfl⟩) ⟨trivial, trivial, trivial, c0, trivial, trivial⟩ ?_
  refine gd_br (c := ¬ (rI M (k0 + 3) ((2 : Int32)).toNatClampNeg) = ((8 : Int32))) (st1 := []) tc_148 rfl rfl (fun _ => rfl) ⟨fun hc => ?_, fun hc => ?_⟩
  · have h := h.1 hc
    exact g_Mo_readAttribute_J16 hd hw k0 none none M h
  · have h := h.2 hc
    show Gd d w 148 _ (11, [some (aR 21 k0), none, none], [], M)
    refine gd_s (P := True ∧ True ∧ True) (σ1 := (13, [some (aR 21 k0), none, none], [aI ((5 : Int32)), aR 21 k0], M)) tc_148 rfl 2 (fun u => ⟨_, rfl⟩) ⟨trivial, trivial, trivial⟩ ?_
    refine gd_callN (ml := 2) (as := [aR 21 k0, aI ((5 : Int32))]) (rest := []) tc_148 rfl rfl rfl rfl rfl (by omega) (by omega) (Nat.le_of_ble_eq_true rfl) rfl (g_Mo_bad (by omega) (by omega) h) (fun r9 M1 h => ?_)
    obtain ⟨rfl, h⟩ := h
    exact g_Mo_readAttribute_J16 hd hw k0 none none M1 h
theorem tc_158 : tC 158 = c158 := rfl
def w_Mo_newNode_J67 (post : Int32 → aM → Prop) (k0 : Nat) (v3 : Int32) (M : aM) : Prop := w_Mo_nameOf (fun x1 => (vp_in x1 (rK M (k0 + 8)).2) ∧ post (v3 - ((200 : Int32))) (wI M (k0 + 8) x1.toNatClampNeg ((0 : Int32)))) ((2 : Int32)) ((1 : Int32)) (v3 - ((200 : Int32))) M
theorem g_Mo_newNode_J67 {d w : Nat} (hd : 1 ≤ d) (hw : 22 ≤ w) {post : Int32 → aM → Prop} (k0 : Nat) (v3 : Int32) (o1 o2 : Option aV) (M : aM) (h : w_Mo_newNode_J67 post k0 v3 M) : Gd d w 158 (pI post) (67, [some (aR 21 k0), o1, o2, some (aI v3)], [], M) := by
  unfold w_Mo_newNode_J67 at h
  show Gd d w 158 _ (67, [some (aR 21 k0), o1, o2, some (aI v3)], [], M)
  refine gd_s (P := True ∧ True ∧ True ∧ True ∧ True ∧ True ∧ True ∧ True) (σ1 := (78, [some (aR 21 k0), o1, o2, some (aI v3)], [aI (v3 - ((200 : Int32))), aI ((1 : Int32)), aI ((2 : Int32)), aR 4 (k0 + 8)], M)) tc_158 rfl 7 (fun u => ⟨_, rfl⟩) ⟨trivial, trivial, trivial, trivial, trivial, trivial, trivial, trivial⟩ ?_
  refine gd_callN (ml := 3) (as := [aI ((2 : Int32)), aI ((1 : Int32)), aI (v3 - ((200 : Int32)))]) (rest := [aR 4 (k0 + 8)]) tc_158 rfl rfl rfl rfl rfl (by omega) (by omega) (Nat.le_of_ble_eq_true rfl) rfl (g_Mo_nameOf (by omega) (by omega) h) (fun r9 M9 h => ?_)
  obtain ⟨x1, rfl, e9, h⟩ := h
  subst M9
  show Gd d w 158 _ (81, [some (aR 21 k0), o1, o2, some (aI v3)], [aI x1, aR 4 (k0 + 8)], M)
  obtain ⟨c0, h⟩ := h
  refine gd_s (P := True ∧ (vp_in x1 (rK M (k0 + 8)).2) ∧ True ∧ True ∧ True ∧ True) (σ1 := (88, [some (aR 21 k0), o1, o2, some (aI v3)], [aI (v3 - ((200 : Int32)))], wI M (k0 + 8) x1.toNatClampNeg ((0 : Int32)))) tc_158 rfl 5 (fun u => ⟨_, rfl⟩) ⟨trivial, c0, trivial, trivial, trivial, trivial⟩ ?_
  exact gd_ret tc_158 rfl rfl trivial (fun _ => rfl) ⟨_, rfl, h⟩
def w_Mo_newNode_J60 (post : Int32 → aM → Prop) (k0 : Nat) (v3 : Int32) (M : aM) : Prop := (vp_in v3 (rK M (k0 + 14)).2) ∧ (w_Mo_newNode_J67 post k0 v3 (wI M (k0 + 14) v3.toNatClampNeg ((-1 : Int32))))
theorem g_Mo_newNode_J60 {d w : Nat} (hd : 1 ≤ d) (hw : 22 ≤ w) {post : Int32 → aM → Prop} (k0 : Nat) (v3 : Int32) (o1 o2 : Option aV) (M : aM) (h : w_Mo_newNode_J60 post k0 v3 M) : Gd d w 158 (pI post) (60, [some (aR 21 k0), o1, o2, some (aI v3)], [], M) := by
  unfold w_Mo_newNode_J60 at h
  show Gd d w 158 _ (60, [some (aR 21 k0), o1, o2, some (aI v3)], [], M)
  obtain ⟨c0, h⟩ := h
  refine gd_s (P := True ∧ True ∧ True ∧ True ∧ (vp_in v3 (rK M (k0 + 14)).2) ∧ True) (σ1 := (67, [some (aR 21 k0), o1, o2, some (aI v3)], [], wI M (k0 + 14) v3.toNatClampNeg ((-1 : Int32)))) tc_158 rfl 5 (fun u => ⟨_, rfl⟩) ⟨trivial, trivial, trivial, trivial, c0, trivial⟩ ?_
  exact g_Mo_newNode_J67 hd hw k0 v3 o1 o2 (wI M (k0 + 14) v3.toNatClampNeg ((-1 : Int32))) h
def w_Mo_newNode_J53 (post : Int32 → aM → Prop) (k0 : Nat) (v2 : Int32) (v3 : Int32) (M : aM) : Prop := (vp_in v3 (rK M (k0 + 13)).2) ∧ (w_Mo_newNode_J60 post k0 v3 (wI M (k0 + 13) v3.toNatClampNeg v2))
theorem g_Mo_newNode_J53 {d w : Nat} (hd : 1 ≤ d) (hw : 22 ≤ w) {post : Int32 → aM → Prop} (k0 : Nat) (v2 : Int32) (v3 : Int32) (o1 : Option aV) (M : aM) (h : w_Mo_newNode_J53 post k0 v2 v3 M) : Gd d w 158 (pI post) (53, [some (aR 21 k0), o1, some (aI v2), some (aI v3)], [], M) := by
  unfold w_Mo_newNode_J53 at h
  show Gd d w 158 _ (53, [some (aR 21 k0), o1, some (aI v2), some (aI v3)], [], M)
  obtain ⟨c0, h⟩ := h
  refine gd_s (P := True ∧ True ∧ True ∧ True ∧ (vp_in v3 (rK M (k0 + 13)).2) ∧ True) (σ1 := (60, [some (aR 21 k0), o1, some (aI v2), some (aI v3)], [], wI M (k0 + 13) v3.toNatClampNeg v2)) tc_158 rfl 5 (fun u => ⟨_, rfl⟩) ⟨trivial, trivial, trivial, trivial, c0, trivial⟩ ?_
  exact g_Mo_newNode_J60 hd hw k0 v3 o1 (some (aI v2)) (wI M (k0 + 13) v3.toNatClampNeg v2) h
def w_Mo_newNode_J46 (post : Int32 → aM → Prop) (k0 : Nat) (v2 : Int32) (v3 : Int32) (M : aM) : Prop := (vp_in v3 (rK M (k0 + 12)).2) ∧ (w_Mo_newNode_J53 post k0 v2 v3 (wI M (k0 + 12) v3.toNatClampNeg ((-1 : Int32))))
theorem g_Mo_newNode_J46 {d w : Nat} (hd : 1 ≤ d) (hw : 22 ≤ w) {post : Int32 → aM → Prop} (k0 : Nat) (v2 : Int32) (v3 : Int32) (o1 : Option aV) (M : aM) (h : w_Mo_newNode_J46 post k0 v2 v3 M) : Gd d w 158 (pI post) (46, [some (aR 21 k0), o1, some (aI v2), some (aI v3)], [], M) := by
  unfold w_Mo_newNode_J46 at h
  show Gd d w 158 _ (46, [some (aR 21 k0), o1, some (aI v2), some (aI v3)], [], M)
  obtain ⟨c0, h⟩ := h
  refine gd_s (P := True ∧ True ∧ True ∧ True ∧ (vp_in v3 (rK M (k0 + 12)).2) ∧ True) (σ1 := (53, [some (aR 21 k0), o1, some (aI v2), some (aI v3)], [], wI M (k0 + 12) v3.toNatClampNeg ((-1 : Int32)))) tc_158 rfl 5 (fun u => ⟨_, rfl⟩) ⟨trivial, trivial, trivial, trivial, c0, trivial⟩ ?_
  exact g_Mo_newNode_J53 hd hw k0 v2 v3 o1 (wI M (k0 + 12) v3.toNatClampNeg ((-1 : Int32))) h
def w_Mo_newNode_J39 (post : Int32 → aM → Prop) (k0 : Nat) (v1 : Int32) (v2 : Int32) (v3 : Int32) (M : aM) : Prop := (vp_in v3 (rK M (k0 + 11)).2) ∧ (w_Mo_newNode_J46 post k0 v2 v3 (wI M (k0 + 11) v3.toNatClampNeg v1))
theorem g_Mo_newNode_J39 {d w : Nat} (hd : 1 ≤ d) (hw : 22 ≤ w) {post : Int32 → aM → Prop} (k0 : Nat) (v1 : Int32) (v2 : Int32) (v3 : Int32) (M : aM) (h : w_Mo_newNode_J39 post k0 v1 v2 v3 M) : Gd d w 158 (pI post) (39, [some (aR 21 k0), some (aI v1), some (aI v2), some (aI v3)], [], M) := by
  unfold w_Mo_newNode_J39 at h
  show Gd d w 158 _ (39, [some (aR 21 k0), some (aI v1), some (aI v2), some (aI v3)], [], M)
  obtain ⟨c0, h⟩ := h
  refine gd_s (P := True ∧ True ∧ True ∧ True ∧ (vp_in v3 (rK M (k0 + 11)).2) ∧ True) (σ1 := (46, [some (aR 21 k0), some (aI v1), some (aI v2), some (aI v3)], [], wI M (k0 + 11) v3.toNatClampNeg v1)) tc_158 rfl 5 (fun u => ⟨_, rfl⟩) ⟨trivial, trivial, trivial, trivial, c0, trivial⟩ ?_
  exact g_Mo_newNode_J46 hd hw k0 v2 v3 (some (aI v1)) (wI M (k0 + 11) v3.toNatClampNeg v1) h
/-- PolicyJudgeModel.newNode(II)I -/
def w_Mo_newNode (post : Int32 → aM → Prop) (k0 : Nat) (v1 : Int32) (v2 : Int32) (M : aM) : Prop := (vp_in ((2 : Int32)) (rK M (k0 + 10)).2) ∧ (((¬ (rI M (k0 + 10) ((2 : Int32)).toNatClampNeg) = ((100 : Int32))) → (vp_in ((2 : Int32)) (rK M (k0 + 10)).2) ∧ (vp_in ((2 : Int32)) (rK M (k0 + 10)).2) ∧ (vp_in ((2 : Int32)) (rK M (k0 + 10)).2) ∧ (w_Mo_newNode_J39 post k0 v1 v2 (((200 : Int32)) + (rI M (k0 + 10) ((2 : Int32)).toNatClampNeg)) (wI M (k0 + 10) ((2 : Int32)).toNatClampNeg ((rI M (k0 + 10) ((2 : Int32)).toNatClampNeg) + ((1 : Int32)))))) ∧ (¬ (¬ (rI M (k0 + 10) ((2 : Int32)).toNatClampNeg) = ((100 : Int32))) → w_Mo_bad (fun M1 => post ((0 : Int32)) M1) k0 ((5 : Int32)) M))
theorem g_Mo_newNode {d w : Nat} (hd : 1 ≤ d) (hw : 22 ≤ w) {post : Int32 → aM → Prop} {k0 : Nat} {v1 : Int32} {v2 : Int32} {M : aM} (h : w_Mo_newNode post k0 v1 v2 M) : Gd d w 158 (pI post) (0, aEnt 158 [aR 21 k0, aI v1, aI v2], [], M) := by
  unfold w_Mo_newNode at h
  show Gd d w 158 _ (0, [some (aR 21 k0), some (aI v1), some (aI v2), none], [], M)
  obtain ⟨c0, h⟩ := h
  refine gd_s (P := True ∧ True ∧ True ∧ (vp_in ((2 : Int32)) (rK M (k0 + 10)).2) ∧ True ∧ True) (σ1 := (8, [some (aR 21 k0), some (aI v1), some (aI v2), none], [aI ((100 : Int32)), aI (rI M (k0 + 10) ((2 : Int32)).toNatClampNeg)], M)) tc_158 rfl 5 (fun u => ⟨_, rfl⟩) ⟨trivial, trivial, trivial, c0, trivial, trivial⟩ ?_
  refine gd_br (c := ¬ (rI M (k0 + 10) ((2 : Int32)).toNatClampNeg) = ((100 : Int32))) (st1 := []) tc_158 rfl rfl (fun _ => rfl) ⟨fun hc => ?_, fun hc => ?_⟩
  · have h := h.1 hc
    show Gd d w 158 _ (18, [some (aR 21 k0), some (aI v1), some (aI v2), none], [], M)
    obtain ⟨c0, c1, c2, h⟩ := h
    refine gd_s (P := True ∧ True ∧ True ∧ True ∧ (vp_in ((2 : Int32)) (rK M (k0 + 10)).2) ∧ True ∧ True ∧ True ∧ True ∧ True ∧ True ∧ (vp_in ((2 : Int32)) (rK M (k0 + 10)).2) ∧ True ∧ True ∧ (vp_in ((2 : Int32)) (rK M (k0 + 10)).2) ∧ True) (σ1 := (39, [some (aR 21 k0), some (aI v1), some (aI v2), some (aI (((200 : Int32)) + (rI M (k0 + 10) ((2 : Int32)).toNatClampNeg)))], [], wI M (k0 + 10) ((2 : Int32)).toNatClampNeg ((rI M (k0 + 10) ((2 : Int32)).toNatClampNeg) + ((1 : Int32))))) tc_158 rfl 15 (fun u => ⟨_, rfl⟩) ⟨trivial, trivial, trivial, trivial, c0, trivial, trivial, trivial, trivial, trivial, trivial, c1, trivial, trivial, c2, trivial⟩ ?_
    exact g_Mo_newNode_J39 hd hw k0 v1 v2 (((200 : Int32)) + (rI M (k0 + 10) ((2 : Int32)).toNatClampNeg)) (wI M (k0 + 10) ((2 : Int32)).toNatClampNeg ((rI M (k0 + 10) ((2 : Int32)).toNatClampNeg) + ((1 : Int32)))) h
  · have h := h.2 hc
    show Gd d w 158 _ (11, [some (aR 21 k0), some (aI v1), some (aI v2), none], [], M)
    refine gd_s (P := True ∧ True ∧ True) (σ1 := (13, [some (aR 21 k0), some (aI v1), some (aI v2), none], [aI ((5 : Int32)), aR 21 k0], M)) tc_158 rfl 2 (fun u => ⟨_, rfl⟩) ⟨trivial, trivial, trivial⟩ ?_
    refine gd_callN (ml := 2) (as := [aR 21 k0, aI ((5 : Int32))]) (rest := []) tc_158 rfl rfl rfl rfl rfl (by omega) (by omega) (Nat.le_of_ble_eq_true rfl) rfl (g_Mo_bad (by omega) (by omega) h) (fun r9 M1 h => ?_)
    obtain ⟨rfl, h⟩ := h
    show Gd d w 158 _ (16, [some (aR 21 k0), some (aI v1), some (aI v2), none], [], M1)
    refine gd_s (P := True ∧ True) (σ1 := (17, [some (aR 21 k0), some (aI v1), some (aI v2), none], [aI ((0 : Int32))], M1)) tc_158 rfl 1 (fun u => ⟨_, rfl⟩) ⟨trivial, trivial⟩ ?_
    exact gd_ret tc_158 rfl rfl trivial (fun _ => rfl) ⟨_, rfl, h⟩
theorem tc_161 : tC 161 = c161 := rfl
def w_Mo_pile_J50 (post : aM → Prop) (k0 : Nat) (M : aM) : Prop := post (wI M k0 40 ((rI M k0 40) + ((1 : Int32))))
theorem g_Mo_pile_J50 {d w : Nat} (hd : 0 ≤ d) (hw : 0 ≤ w) {post : aM → Prop} (k0 : Nat) (o1 : Option aV) (M : aM) (h : w_Mo_pile_J50 post k0 M) : Gd d w 161 (pV post) (50, [some (aR 21 k0), o1], [], M) := by
  unfold w_Mo_pile_J50 at h
  show Gd d w 161 _ (50, [some (aR 21 k0), o1], [], M)
  refine gd_s (P := True ∧ True ∧ True ∧ True ∧ True ∧ True ∧ True) (σ1 := (60, [some (aR 21 k0), o1], [], wI M k0 40 ((rI M k0 40) + ((1 : Int32))))) tc_161 rfl 6 (fun u => ⟨_, rfl⟩) ⟨trivial, trivial, trivial, trivial, trivial, trivial, trivial⟩ ?_
  exact gd_ret tc_161 rfl rfl trivial (fun _ => rfl) ⟨rfl, h⟩
def w_Mo_pile_J40 (post : aM → Prop) (k0 : Nat) (M : aM) : Prop := (vp_in (rI M k0 40) (rK M (k0 + 35)).2) ∧ (w_Mo_pile_J50 post k0 (wI M (k0 + 35) (rI M k0 40).toNatClampNeg ((-1 : Int32))))
theorem g_Mo_pile_J40 {d w : Nat} (hd : 0 ≤ d) (hw : 0 ≤ w) {post : aM → Prop} (k0 : Nat) (o1 : Option aV) (M : aM) (h : w_Mo_pile_J40 post k0 M) : Gd d w 161 (pV post) (40, [some (aR 21 k0), o1], [], M) := by
  unfold w_Mo_pile_J40 at h
  show Gd d w 161 _ (40, [some (aR 21 k0), o1], [], M)
  obtain ⟨c0, h⟩ := h
  refine gd_s (P := True ∧ True ∧ True ∧ True ∧ True ∧ (vp_in (rI M k0 40) (rK M (k0 + 35)).2) ∧ True) (σ1 := (50, [some (aR 21 k0), o1], [], wI M (k0 + 35) (rI M k0 40).toNatClampNeg ((-1 : Int32)))) tc_161 rfl 6 (fun u => ⟨_, rfl⟩) ⟨trivial, trivial, trivial, trivial, trivial, c0, trivial⟩ ?_
  exact g_Mo_pile_J50 hd hw k0 o1 (wI M (k0 + 35) (rI M k0 40).toNatClampNeg ((-1 : Int32))) h
def w_Mo_pile_J30 (post : aM → Prop) (k0 : Nat) (M : aM) : Prop := (vp_in (rI M k0 40) (rK M (k0 + 34)).2) ∧ (w_Mo_pile_J40 post k0 (wI M (k0 + 34) (rI M k0 40).toNatClampNeg ((-1 : Int32))))
theorem g_Mo_pile_J30 {d w : Nat} (hd : 0 ≤ d) (hw : 0 ≤ w) {post : aM → Prop} (k0 : Nat) (o1 : Option aV) (M : aM) (h : w_Mo_pile_J30 post k0 M) : Gd d w 161 (pV post) (30, [some (aR 21 k0), o1], [], M) := by
  unfold w_Mo_pile_J30 at h
  show Gd d w 161 _ (30, [some (aR 21 k0), o1], [], M)
  obtain ⟨c0, h⟩ := h
  refine gd_s (P := True ∧ True ∧ True ∧ True ∧ True ∧ (vp_in (rI M k0 40) (rK M (k0 + 34)).2) ∧ True) (σ1 := (40, [some (aR 21 k0), o1], [], wI M (k0 + 34) (rI M k0 40).toNatClampNeg ((-1 : Int32)))) tc_161 rfl 6 (fun u => ⟨_, rfl⟩) ⟨trivial, trivial, trivial, trivial, trivial, c0, trivial⟩ ?_
  exact g_Mo_pile_J40 hd hw k0 o1 (wI M (k0 + 34) (rI M k0 40).toNatClampNeg ((-1 : Int32))) h
def w_Mo_pile_J20 (post : aM → Prop) (k0 : Nat) (M : aM) : Prop := (vp_in (rI M k0 40) (rK M (k0 + 33)).2) ∧ (w_Mo_pile_J30 post k0 (wI M (k0 + 33) (rI M k0 40).toNatClampNeg ((-1 : Int32))))
theorem g_Mo_pile_J20 {d w : Nat} (hd : 0 ≤ d) (hw : 0 ≤ w) {post : aM → Prop} (k0 : Nat) (o1 : Option aV) (M : aM) (h : w_Mo_pile_J20 post k0 M) : Gd d w 161 (pV post) (20, [some (aR 21 k0), o1], [], M) := by
  unfold w_Mo_pile_J20 at h
  show Gd d w 161 _ (20, [some (aR 21 k0), o1], [], M)
  obtain ⟨c0, h⟩ := h
  refine gd_s (P := True ∧ True ∧ True ∧ True ∧ True ∧ (vp_in (rI M k0 40) (rK M (k0 + 33)).2) ∧ True) (σ1 := (30, [some (aR 21 k0), o1], [], wI M (k0 + 33) (rI M k0 40).toNatClampNeg ((-1 : Int32)))) tc_161 rfl 6 (fun u => ⟨_, rfl⟩) ⟨trivial, trivial, trivial, trivial, trivial, c0, trivial⟩ ?_
  exact g_Mo_pile_J30 hd hw k0 o1 (wI M (k0 + 33) (rI M k0 40).toNatClampNeg ((-1 : Int32))) h
def w_Mo_pile_J10 (post : aM → Prop) (k0 : Nat) (M : aM) : Prop := (vp_in (rI M k0 40) (rK M (k0 + 32)).2) ∧ (w_Mo_pile_J20 post k0 (wI M (k0 + 32) (rI M k0 40).toNatClampNeg ((-1 : Int32))))
theorem g_Mo_pile_J10 {d w : Nat} (hd : 0 ≤ d) (hw : 0 ≤ w) {post : aM → Prop} (k0 : Nat) (o1 : Option aV) (M : aM) (h : w_Mo_pile_J10 post k0 M) : Gd d w 161 (pV post) (10, [some (aR 21 k0), o1], [], M) := by
  unfold w_Mo_pile_J10 at h
  show Gd d w 161 _ (10, [some (aR 21 k0), o1], [], M)
  obtain ⟨c0, h⟩ := h
  refine gd_s (P := True ∧ True ∧ True ∧ True ∧ True ∧ (vp_in (rI M k0 40) (rK M (k0 + 32)).2) ∧ True) (σ1 := (20, [some (aR 21 k0), o1], [], wI M (k0 + 32) (rI M k0 40).toNatClampNeg ((-1 : Int32)))) tc_161 rfl 6 (fun u => ⟨_, rfl⟩) ⟨trivial, trivial, trivial, trivial, trivial, c0, trivial⟩ ?_
  exact g_Mo_pile_J20 hd hw k0 o1 (wI M (k0 + 32) (rI M k0 40).toNatClampNeg ((-1 : Int32))) h
/-- PolicyJudgeModel.pile(I)V -/
def w_Mo_pile (post : aM → Prop) (k0 : Nat) (v1 : Int32) (M : aM) : Prop := (vp_in (rI M k0 40) (rK M (k0 + 31)).2) ∧ (w_Mo_pile_J10 post k0 (wI M (k0 + 31) (rI M k0 40).toNatClampNeg v1))
theorem g_Mo_pile {d w : Nat} (hd : 0 ≤ d) (hw : 0 ≤ w) {post : aM → Prop} {k0 : Nat} {v1 : Int32} {M : aM} (h : w_Mo_pile post k0 v1 M) : Gd d w 161 (pV post) (0, aEnt 161 [aR 21 k0, aI v1], [], M) := by
  unfold w_Mo_pile at h
  show Gd d w 161 _ (0, [some (aR 21 k0), some (aI v1)], [], M)
  obtain ⟨c0, h⟩ := h
  refine gd_s (P := True ∧ True ∧ True ∧ True ∧ True ∧ (vp_in (rI M k0 40) (rK M (k0 + 31)).2) ∧ True) (σ1 := (10, [some (aR 21 k0), some (aI v1)], [], wI M (k0 + 31) (rI M k0 40).toNatClampNeg v1)) tc_161 rfl 6 (fun u => ⟨_, rfl⟩) ⟨trivial, trivial, trivial, trivial, trivial, c0, trivial⟩ ?_
  exact g_Mo_pile_J10 hd hw k0 (some (aI v1)) (wI M (k0 + 31) (rI M k0 40).toNatClampNeg v1) h
theorem tc_163 : tC 163 = c163 := rfl
def w_Mo_open_J22 (post : aM → Prop) (k0 : Nat) (M : aM) : Prop := post (wI M k0 39 ((rI M k0 39) + ((1 : Int32))))
theorem g_Mo_open_J22 {d w : Nat} (hd : 1 ≤ d) (hw : 21 ≤ w) {post : aM → Prop} (k0 : Nat) (M : aM) (h : w_Mo_open_J22 post k0 M) : Gd d w 163 (pV post) (22, [some (aR 21 k0)], [], M) := by
  unfold w_Mo_open_J22 at h
  show Gd d w 163 _ (22, [some (aR 21 k0)], [], M)
  refine gd_s (P := True ∧ True ∧ True ∧ True ∧ True ∧ True ∧ True) (σ1 := (32, [some (aR 21 k0)], [], wI M k0 39 ((rI M k0 39) + ((1 : Int32))))) tc_163 rfl 6 (fun u => ⟨_, rfl⟩) ⟨trivial, trivial, trivial, trivial, trivial, trivial, trivial⟩ ?_
  exact gd_ret tc_163 rfl rfl trivial (fun _ => rfl) ⟨rfl, h⟩
/-- PolicyJudgeModel.open()V -/
def w_Mo_open (post : aM → Prop) (k0 : Nat) (M : aM) : Prop := ((¬ (rI M k0 38) = ((-1 : Int32))) → w_Mo_open_J22 post k0 M) ∧ (¬ (¬ (rI M k0 38) = ((-1 : Int32))) → ((¬ (rI M k0 39) = ((20 : Int32))) → w_Mo_open_J22 post k0 M) ∧ (¬ (¬ (rI M k0 39) = ((20 : Int32))) → w_Mo_bad (fun M1 => w_Mo_open_J22 post k0 M1) k0 ((5 : Int32)) M))
theorem g_Mo_open {d w : Nat} (hd : 1 ≤ d) (hw : 21 ≤ w) {post : aM → Prop} {k0 : Nat} {M : aM} (h : w_Mo_open post k0 M) : Gd d w 163 (pV post) (0, aEnt 163 [aR 21 k0], [], M) := by
  unfold w_Mo_open at h
  show Gd d w 163 _ (0, [some (aR 21 k0)], [], M)
  refine gd_s (P := True ∧ True ∧ True ∧ True) (σ1 := (5, [some (aR 21 k0)], [aI ((-1 : Int32)), aI (rI M k0 38)], M)) tc_163 rfl 3 (fun u => ⟨_, rfl⟩) ⟨trivial, trivial, trivial, trivial⟩ ?_
  refine gd_br (c := ¬ (rI M k0 38) = ((-1 : Int32))) (st1 := []) tc_163 rfl rfl (fun _ => rfl) ⟨fun hc => ?_, fun hc => ?_⟩
  · have h := h.1 hc
    exact g_Mo_open_J22 hd hw k0 M h
  · have h := h.2 hc
    show Gd d w 163 _ (8, [some (aR 21 k0)], [], M)
    refine gd_s (P := True ∧ True ∧ True ∧ True) (σ1 := (14, [some (aR 21 k0)], [aI ((20 : Int32)), aI (rI M k0 39)], M)) tc_163 rfl 3 (fun u => ⟨_, rfl⟩) ⟨trivial, trivial, trivial, trivial⟩ ?_
    refine gd_br (c := ¬ (rI M k0 39) = ((20 : Int32))) (st1 := []) tc_163 rfl rfl (fun _ => rfl) ⟨fun hc => ?_, fun hc => ?_⟩
    · have h := h.1 hc
      exact g_Mo_open_J22 hd hw k0 M h
    · have h := h.2 hc
      show Gd d w 163 _ (17, [some (aR 21 k0)], [], M)
      refine gd_s (P := True ∧ True ∧ True) (σ1 := (19, [some (aR 21 k0)], [aI ((5 : Int32)), aR 21 k0], M)) tc_163 rfl 2 (fun u => ⟨_, rfl⟩) ⟨trivial, trivial, trivial⟩ ?_
      refine gd_callN (ml := 2) (as := [aR 21 k0, aI ((5 : Int32))]) (rest := []) tc_163 rfl rfl rfl rfl rfl (by omega) (by omega) (Nat.le_of_ble_eq_true rfl) rfl (g_Mo_bad (by omega) (by omega) h) (fun r9 M1 h => ?_)
      obtain ⟨rfl, h⟩ := h
      exact g_Mo_open_J22 hd hw k0 M1 h
theorem tc_164 : tC 164 = c164 := rfl
def w_Mo_newPart_J98 (post : Int32 → aM → Prop) (v2 : Int32) (M : aM) : Prop := post (v2 - ((800 : Int32))) M
theorem g_Mo_newPart_J98 {d w : Nat} (hd : 1 ≤ d) (hw : 21 ≤ w) {post : Int32 → aM → Prop} (v2 : Int32) (o0 o1 : Option aV) (M : aM) (h : w_Mo_newPart_J98 post v2 M) : Gd d w 164 (pI post) (98, [o0, o1, some (aI v2)], [], M) := by
  unfold w_Mo_newPart_J98 at h
  show Gd d w 164 _ (98, [o0, o1, some (aI v2)], [], M)
  refine gd_s (P := True ∧ True ∧ True ∧ True) (σ1 := (103, [o0, o1, some (aI v2)], [aI (v2 - ((800 : Int32)))], M)) tc_164 rfl 3 (fun u => ⟨_, rfl⟩) ⟨trivial, trivial, trivial, trivial⟩ ?_
  exact gd_ret tc_164 rfl rfl trivial (fun _ => rfl) ⟨_, rfl, h⟩
def w_Mo_newPart_J91 (post : Int32 → aM → Prop) (k0 : Nat) (v2 : Int32) (M : aM) : Prop := (vp_in v2 (rK M (k0 + 21)).2) ∧ (w_Mo_newPart_J98 post v2 (wI M (k0 + 21) v2.toNatClampNeg ((-1 : Int32))))
theorem g_Mo_newPart_J91 {d w : Nat} (hd : 1 ≤ d) (hw : 21 ≤ w) {post : Int32 → aM → Prop} (k0 : Nat) (v2 : Int32) (o1 : Option aV) (M : aM) (h : w_Mo_newPart_J91 post k0 v2 M) : Gd d w 164 (pI post) (91, [some (aR 21 k0), o1, some (aI v2)], [], M) := by
  unfold w_Mo_newPart_J91 at h
  show Gd d w 164 _ (91, [some (aR 21 k0), o1, some (aI v2)], [], M)
  obtain ⟨c0, h⟩ := h
  refine gd_s (P := True ∧ True ∧ True ∧ True ∧ (vp_in v2 (rK M (k0 + 21)).2) ∧ True) (σ1 := (98, [some (aR 21 k0), o1, some (aI v2)], [], wI M (k0 + 21) v2.toNatClampNeg ((-1 : Int32)))) tc_164 rfl 5 (fun u => ⟨_, rfl⟩) ⟨trivial, trivial, trivial, trivial, c0, trivial⟩ ?_
  exact g_Mo_newPart_J98 hd hw v2 (some (aR 21 k0)) o1 (wI M (k0 + 21) v2.toNatClampNeg ((-1 : Int32))) h
def w_Mo_newPart_J84 (post : Int32 → aM → Prop) (k0 : Nat) (v2 : Int32) (M : aM) : Prop := (vp_in v2 (rK M (k0 + 20)).2) ∧ (w_Mo_newPart_J91 post k0 v2 (wI M (k0 + 20) v2.toNatClampNeg ((-1 : Int32))))
theorem g_Mo_newPart_J84 {d w : Nat} (hd : 1 ≤ d) (hw : 21 ≤ w) {post : Int32 → aM → Prop} (k0 : Nat) (v2 : Int32) (o1 : Option aV) (M : aM) (h : w_Mo_newPart_J84 post k0 v2 M) : Gd d w 164 (pI post) (84, [some (aR 21 k0), o1, some (aI v2)], [], M) := by
  unfold w_Mo_newPart_J84 at h
  show Gd d w 164 _ (84, [some (aR 21 k0), o1, some (aI v2)], [], M)
  obtain ⟨c0, h⟩ := h
  refine gd_s (P := True ∧ True ∧ True ∧ True ∧ (vp_in v2 (rK M (k0 + 20)).2) ∧ True) (σ1 := (91, [some (aR 21 k0), o1, some (aI v2)], [], wI M (k0 + 20) v2.toNatClampNeg ((-1 : Int32)))) tc_164 rfl 5 (fun u => ⟨_, rfl⟩) ⟨trivial, trivial, trivial, trivial, c0, trivial⟩ ?_
  exact g_Mo_newPart_J91 hd hw k0 v2 o1 (wI M (k0 + 20) v2.toNatClampNeg ((-1 : Int32))) h
def w_Mo_newPart_J77 (post : Int32 → aM → Prop) (k0 : Nat) (v2 : Int32) (M : aM) : Prop := (vp_in v2 (rK M (k0 + 19)).2) ∧ (w_Mo_newPart_J84 post k0 v2 (wI M (k0 + 19) v2.toNatClampNeg ((0 : Int32))))
theorem g_Mo_newPart_J77 {d w : Nat} (hd : 1 ≤ d) (hw : 21 ≤ w) {post : Int32 → aM → Prop} (k0 : Nat) (v2 : Int32) (o1 : Option aV) (M : aM) (h : w_Mo_newPart_J77 post k0 v2 M) : Gd d w 164 (pI post) (77, [some (aR 21 k0), o1, some (aI v2)], [], M) := by
  unfold w_Mo_newPart_J77 at h
  show Gd d w 164 _ (77, [some (aR 21 k0), o1, some (aI v2)], [], M)
  obtain ⟨c0, h⟩ := h
  refine gd_s (P := True ∧ True ∧ True ∧ True ∧ (vp_in v2 (rK M (k0 + 19)).2) ∧ True) (σ1 := (84, [some (aR 21 k0), o1, some (aI v2)], [], wI M (k0 + 19) v2.toNatClampNeg ((0 : Int32)))) tc_164 rfl 5 (fun u => ⟨_, rfl⟩) ⟨trivial, trivial, trivial, trivial, c0, trivial⟩ ?_
  exact g_Mo_newPart_J84 hd hw k0 v2 o1 (wI M (k0 + 19) v2.toNatClampNeg ((0 : Int32))) h
def w_Mo_newPart_J70 (post : Int32 → aM → Prop) (k0 : Nat) (v2 : Int32) (M : aM) : Prop := (vp_in v2 (rK M (k0 + 18)).2) ∧ (w_Mo_newPart_J77 post k0 v2 (wI M (k0 + 18) v2.toNatClampNeg ((0 : Int32))))
theorem g_Mo_newPart_J70 {d w : Nat} (hd : 1 ≤ d) (hw : 21 ≤ w) {post : Int32 → aM → Prop} (k0 : Nat) (v2 : Int32) (o1 : Option aV) (M : aM) (h : w_Mo_newPart_J70 post k0 v2 M) : Gd d w 164 (pI post) (70, [some (aR 21 k0), o1, some (aI v2)], [], M) := by
  unfold w_Mo_newPart_J70 at h
  show Gd d w 164 _ (70, [some (aR 21 k0), o1, some (aI v2)], [], M)
  obtain ⟨c0, h⟩ := h
  refine gd_s (P := True ∧ True ∧ True ∧ True ∧ (vp_in v2 (rK M (k0 + 18)).2) ∧ True) (σ1 := (77, [some (aR 21 k0), o1, some (aI v2)], [], wI M (k0 + 18) v2.toNatClampNeg ((0 : Int32)))) tc_164 rfl 5 (fun u => ⟨_, rfl⟩) ⟨trivial, trivial, trivial, trivial, c0, trivial⟩ ?_
  exact g_Mo_newPart_J77 hd hw k0 v2 o1 (wI M (k0 + 18) v2.toNatClampNeg ((0 : Int32))) h
def w_Mo_newPart_J63 (post : Int32 → aM → Prop) (k0 : Nat) (v2 : Int32) (M : aM) : Prop := (vp_in v2 (rK M (k0 + 17)).2) ∧ (w_Mo_newPart_J70 post k0 v2 (wI M (k0 + 17) v2.toNatClampNeg ((-1 : Int32))))
theorem g_Mo_newPart_J63 {d w : Nat} (hd : 1 ≤ d) (hw : 21 ≤ w) {post : Int32 → aM → Prop} (k0 : Nat) (v2 : Int32) (o1 : Option aV) (M : aM) (h : w_Mo_newPart_J63 post k0 v2 M) : Gd d w 164 (pI post) (63, [some (aR 21 k0), o1, some (aI v2)], [], M) := by
  unfold w_Mo_newPart_J63 at h
  show Gd d w 164 _ (63, [some (aR 21 k0), o1, some (aI v2)], [], M)
  obtain ⟨c0, h⟩ := h
  refine gd_s (P := True ∧ True ∧ True ∧ True ∧ (vp_in v2 (rK M (k0 + 17)).2) ∧ True) (σ1 := (70, [some (aR 21 k0), o1, some (aI v2)], [], wI M (k0 + 17) v2.toNatClampNeg ((-1 : Int32)))) tc_164 rfl 5 (fun u => ⟨_, rfl⟩) ⟨trivial, trivial, trivial, trivial, c0, trivial⟩ ?_
  exact g_Mo_newPart_J70 hd hw k0 v2 o1 (wI M (k0 + 17) v2.toNatClampNeg ((-1 : Int32))) h
def w_Mo_newPart_J56 (post : Int32 → aM → Prop) (k0 : Nat) (v1 : Int32) (v2 : Int32) (M : aM) : Prop := (vp_in v2 (rK M (k0 + 16)).2) ∧ (w_Mo_newPart_J63 post k0 v2 (wI M (k0 + 16) v2.toNatClampNeg v1))
theorem g_Mo_newPart_J56 {d w : Nat} (hd : 1 ≤ d) (hw : 21 ≤ w) {post : Int32 → aM → Prop} (k0 : Nat) (v1 : Int32) (v2 : Int32) (M : aM) (h : w_Mo_newPart_J56 post k0 v1 v2 M) : Gd d w 164 (pI post) (56, [some (aR 21 k0), some (aI v1), some (aI v2)], [], M) := by
  unfold w_Mo_newPart_J56 at h
  show Gd d w 164 _ (56, [some (aR 21 k0), some (aI v1), some (aI v2)], [], M)
  obtain ⟨c0, h⟩ := h
  refine gd_s (P := True ∧ True ∧ True ∧ True ∧ (vp_in v2 (rK M (k0 + 16)).2) ∧ True) (σ1 := (63, [some (aR 21 k0), some (aI v1), some (aI v2)], [], wI M (k0 + 16) v2.toNatClampNeg v1)) tc_164 rfl 5 (fun u => ⟨_, rfl⟩) ⟨trivial, trivial, trivial, trivial, c0, trivial⟩ ?_
  exact g_Mo_newPart_J63 hd hw k0 v2 (some (aI v1)) (wI M (k0 + 16) v2.toNatClampNeg v1) h
def w_Mo_newPart_J25 (post : Int32 → aM → Prop) (k0 : Nat) (v1 : Int32) (M : aM) : Prop := (((rI M k0 38) = ((-1 : Int32))) → (vp_in ((2 : Int32)) (rK M (k0 + 15)).2) ∧ (vp_in ((2 : Int32)) (rK M (k0 + 15)).2) ∧ (vp_in ((2 : Int32)) (rK M (k0 + 15)).2) ∧ (w_Mo_newPart_J56 post k0 v1 (((800 : Int32)) + (rI M (k0 + 15) ((2 : Int32)).toNatClampNeg)) (wI M (k0 + 15) ((2 : Int32)).toNatClampNeg ((rI M (k0 + 15) ((2 : Int32)).toNatClampNeg) + ((1 : Int32)))))) ∧ (¬ ((rI M k0 38) = ((-1 : Int32))) → post ((0 : Int32)) M)
theorem g_Mo_newPart_J25 {d w : Nat} (hd : 1 ≤ d) (hw : 21 ≤ w) {post : Int32 → aM → Prop} (k0 : Nat) (v1 : Int32) (o2 : Option aV) (M : aM) (h : w_Mo_newPart_J25 post k0 v1 M) : Gd d w 164 (pI post) (25, [some (aR 21 k0), some (aI v1), o2], [], M) := by
  unfold w_Mo_newPart_J25 at h
  show Gd d w 164 _ (25, [some (aR 21 k0), some (aI v1), o2], [], M)
  refine gd_s (P := True ∧ True ∧ True ∧ True) (σ1 := (30, [some (aR 21 k0), some (aI v1), o2], [aI ((-1 : Int32)), aI (rI M k0 38)], M)) tc_164 rfl 3 (fun u => ⟨_, rfl⟩) ⟨trivial, trivial, trivial, trivial⟩ ?_
  refine gd_br (c := (rI M k0 38) = ((-1 : Int32))) (st1 := []) tc_164 rfl rfl (fun _ => rfl) ⟨fun hc => ?_, fun hc => ?_⟩
  · have h := h.1 hc
    show Gd d w 164 _ (35, [some (aR 21 k0), some (aI v1), o2], [], M)
    obtain ⟨c0, c1, c2, h⟩ := h
    refine gd_s (P := True ∧ True ∧ True ∧ True ∧ (vp_in ((2 : Int32)) (rK M (k0 + 15)).2) ∧ True ∧ True ∧ True ∧ True ∧ True ∧ True ∧ (vp_in ((2 : Int32)) (rK M (k0 + 15)).2) ∧ True ∧ True ∧ (vp_in ((2 : Int32)) (rK M (k0 + 15)).2) ∧ True) (σ1 := (56, [some (aR 21 k0), some (aI v1), some (aI (((800 : Int32)) + (rI M (k0 + 15) ((2 : Int32)).toNatClampNeg)))], [], wI M (k0 + 15) ((2 : Int32)).toNatClampNeg ((rI M (k0 + 15) ((2 : Int32)).toNatClampNeg) + ((1 : Int32))))) tc_164 rfl 15 (fun u => ⟨_, rfl⟩) ⟨trivial, trivial, trivial, trivial, c0, trivial, trivial, trivial, trivial, trivial, trivial, c1, trivial, trivial, c2, trivial⟩ ?_
    exact g_Mo_newPart_J56 hd hw k0 v1 (((800 : Int32)) + (rI M (k0 + 15) ((2 : Int32)).toNatClampNeg)) (wI M (k0 + 15) ((2 : Int32)).toNatClampNeg ((rI M (k0 + 15) ((2 : Int32)).toNatClampNeg) + ((1 : Int32)))) h
  · have h := h.2 hc
    show Gd d w 164 _ (33, [some (aR 21 k0), some (aI v1), o2], [], M)
    refine gd_s (P := True ∧ True) (σ1 := (34, [some (aR 21 k0), some (aI v1), o2], [aI ((0 : Int32))], M)) tc_164 rfl 1 (fun u => ⟨_, rfl⟩) ⟨trivial, trivial⟩ ?_
    exact gd_ret tc_164 rfl rfl trivial (fun _ => rfl) ⟨_, rfl, h⟩
/-- PolicyJudgeModel.newPart(I)I -/
def w_Mo_newPart (post : Int32 → aM → Prop) (k0 : Nat) (v1 : Int32) (M : aM) : Prop := ((¬ (rI M k0 38) = ((-1 : Int32))) → w_Mo_newPart_J25 post k0 v1 M) ∧ (¬ (¬ (rI M k0 38) = ((-1 : Int32))) → (vp_in ((2 : Int32)) (rK M (k0 + 15)).2) ∧ (((¬ (rI M (k0 + 15) ((2 : Int32)).toNatClampNeg) = ((400 : Int32))) → w_Mo_newPart_J25 post k0 v1 M) ∧ (¬ (¬ (rI M (k0 + 15) ((2 : Int32)).toNatClampNeg) = ((400 : Int32))) → w_Mo_bad (fun M1 => w_Mo_newPart_J25 post k0 v1 M1) k0 ((5 : Int32)) M)))
theorem g_Mo_newPart {d w : Nat} (hd : 1 ≤ d) (hw : 21 ≤ w) {post : Int32 → aM → Prop} {k0 : Nat} {v1 : Int32} {M : aM} (h : w_Mo_newPart post k0 v1 M) : Gd d w 164 (pI post) (0, aEnt 164 [aR 21 k0, aI v1], [], M) := by
  unfold w_Mo_newPart at h
  show Gd d w 164 _ (0, [some (aR 21 k0), some (aI v1), none], [], M)
  refine gd_s (P := True ∧ True ∧ True ∧ True) (σ1 := (5, [some (aR 21 k0), some (aI v1), none], [aI ((-1 : Int32)), aI (rI M k0 38)], M)) tc_164 rfl 3 (fun u => ⟨_, rfl⟩) ⟨trivial, trivial, trivial, trivial⟩ ?_
  refine gd_br (c := ¬ (rI M k0 38) = ((-1 : Int32))) (st1 := []) tc_164 rfl rfl (fun _ => rfl) ⟨fun hc => ?_, fun hc => ?_⟩
  · have h := h.1 hc
    exact g_Mo_newPart_J25 hd hw k0 v1 none M h
  · have h := h.2 hc
    show Gd d w 164 _ (8, [some (aR 21 k0), some (aI v1), none], [], M)
    obtain ⟨c0, h⟩ := h
    refine gd_s (P := True ∧ True ∧ True ∧ (vp_in ((2 : Int32)) (rK M (k0 + 15)).2) ∧ True ∧ True) (σ1 := (17, [some (aR 21 k0), some (aI v1), none], [aI ((400 : Int32)), aI (rI M (k0 + 15) ((2 : Int32)).toNatClampNeg)], M)) tc_164 rfl 5 (fun u => ⟨_, rfl⟩) ⟨trivial, trivial, trivial, c0, trivial, trivial⟩ ?_
    refine gd_br (c := ¬ (rI M (k0 + 15) ((2 : Int32)).toNatClampNeg) = ((400 : Int32))) (st1 := []) tc_164 rfl rfl (fun _ => rfl) ⟨fun hc => ?_, fun hc => ?_⟩
    · have h := h.1 hc
      exact g_Mo_newPart_J25 hd hw k0 v1 none M h
    · have h := h.2 hc
      show Gd d w 164 _ (20, [some (aR 21 k0), some (aI v1), none], [], M)
      refine gd_s (P := True ∧ True ∧ True) (σ1 := (22, [some (aR 21 k0), some (aI v1), none], [aI ((5 : Int32)), aR 21 k0], M)) tc_164 rfl 2 (fun u => ⟨_, rfl⟩) ⟨trivial, trivial, trivial⟩ ?_
      refine gd_callN (ml := 2) (as := [aR 21 k0, aI ((5 : Int32))]) (rest := []) tc_164 rfl rfl rfl rfl rfl (by omega) (by omega) (Nat.le_of_ble_eq_true rfl) rfl (g_Mo_bad (by omega) (by omega) h) (fun r9 M1 h => ?_)
      obtain ⟨rfl, h⟩ := h
      exact g_Mo_newPart_J25 hd hw k0 v1 none M1 h
theorem tc_165 : tC 165 = c165 := rfl
/-- PolicyJudgeModel.complete(I)V -/
def w_Mo_complete (post : aM → Prop) (k0 : Nat) (v1 : Int32) (M : aM) : Prop := (vp_in ((2 : Int32)) (rK M (k0 + 23)).2) ∧ (vp_in (((800 : Int32)) + (rI M (k0 + 23) ((2 : Int32)).toNatClampNeg)) (rK M (k0 + 22)).2) ∧ (vp_in ((2 : Int32)) (rK M (k0 + 23)).2) ∧ (vp_in ((2 : Int32)) (rK M (k0 + 23)).2) ∧ post (wI (wI M (k0 + 22) (((800 : Int32)) + (rI M (k0 + 23) ((2 : Int32)).toNatClampNeg)).toNatClampNeg v1) (k0 + 23) ((2 : Int32)).toNatClampNeg ((rI (wI M (k0 + 22) (((800 : Int32)) + (rI M (k0 + 23) ((2 : Int32)).toNatClampNeg)).toNatClampNeg v1) (k0 + 23) ((2 : Int32)).toNatClampNeg) + ((1 : Int32))))
theorem g_Mo_complete {d w : Nat} (hd : 0 ≤ d) (hw : 0 ≤ w) {post : aM → Prop} {k0 : Nat} {v1 : Int32} {M : aM} (h : w_Mo_complete post k0 v1 M) : Gd d w 165 (pV post) (0, aEnt 165 [aR 21 k0, aI v1], [], M) := by
  unfold w_Mo_complete at h
  show Gd d w 165 _ (0, [some (aR 21 k0), some (aI v1)], [], M)
  obtain ⟨c0, c1, c2, c3, h⟩ := h
  refine gd_s (P := True ∧ True ∧ True ∧ True ∧ True ∧ True ∧ (vp_in ((2 : Int32)) (rK M (k0 + 23)).2) ∧ True ∧ True ∧ (vp_in (((800 : Int32)) + (rI M (k0 + 23) ((2 : Int32)).toNatClampNeg)) (rK M (k0 + 22)).2) ∧ True ∧ True ∧ True ∧ True ∧ (vp_in ((2 : Int32)) (rK M (k0 + 23)).2) ∧ True ∧ True ∧ (vp_in ((2 : Int32)) (rK M (k0 + 23)).2) ∧ True) (σ1 := (26, [some (aR 21 k0), some (aI v1)], [], wI (wI M (k0 + 22) (((800 : Int32)) + (rI M (k0 + 23) ((2 : Int32)).toNatClampNeg)).toNatClampNeg v1) (k0 + 23) ((2 : Int32)).toNatClampNeg ((rI (wI M (k0 + 22) (((800 : Int32)) + (rI M (k0 + 23) ((2 : Int32)).toNatClampNeg)).toNatClampNeg v1) (k0 + 23) ((2 : Int32)).toNatClampNeg) + ((1 : Int32))))) tc_165 rfl 18 (fun u => ⟨_, rfl⟩) ⟨trivial, trivial, trivial, trivial, trivial, trivial, c0, trivial, trivial, c1, trivial, trivial, trivial, trivial, c2, trivial, trivial, c3, trivial⟩ ?_
  exact gd_ret tc_165 rfl rfl trivial (fun _ => rfl) ⟨rfl, h⟩
theorem tc_167 : tC 167 = c167 := rfl
/-- PolicyJudgeModel.join(III)V -/
def w_Mo_join (post : aM → Prop) (k0 : Nat) (v1 : Int32) (v2 : Int32) (v3 : Int32) (M : aM) : Prop := ((¬ v2 = ((-1 : Int32))) → (vp_in (((800 : Int32)) + v2) (rK M (k0 + 21)).2) ∧ post (wI M (k0 + 21) (((800 : Int32)) + v2).toNatClampNeg v3)) ∧ (¬ (¬ v2 = ((-1 : Int32))) → (vp_in (((800 : Int32)) + v1) (rK M (k0 + 20)).2) ∧ post (wI M (k0 + 20) (((800 : Int32)) + v1).toNatClampNeg v3))
theorem g_Mo_join {d w : Nat} (hd : 0 ≤ d) (hw : 0 ≤ w) {post : aM → Prop} {k0 : Nat} {v1 : Int32} {v2 : Int32} {v3 : Int32} {M : aM} (h : w_Mo_join post k0 v1 v2 v3 M) : Gd d w 167 (pV post) (0, aEnt 167 [aR 21 k0, aI v1, aI v2, aI v3], [], M) := by
  unfold w_Mo_join at h
  show Gd d w 167 _ (0, [some (aR 21 k0), some (aI v1), some (aI v2), some (aI v3)], [], M)
  refine gd_s (P := True ∧ True ∧ True) (σ1 := (2, [some (aR 21 k0), some (aI v1), some (aI v2), some (aI v3)], [aI ((-1 : Int32)), aI v2], M)) tc_167 rfl 2 (fun u => ⟨_, rfl⟩) ⟨trivial, trivial, trivial⟩ ?_
  refine gd_br (c := ¬ v2 = ((-1 : Int32))) (st1 := []) tc_167 rfl rfl (fun _ => rfl) ⟨fun hc => ?_, fun hc => ?_⟩
  · have h := h.1 hc
    show Gd d w 167 _ (19, [some (aR 21 k0), some (aI v1), some (aI v2), some (aI v3)], [], M)
    obtain ⟨c0, h⟩ := h
    refine gd_s (P := True ∧ True ∧ True ∧ True ∧ True ∧ True ∧ (vp_in (((800 : Int32)) + v2) (rK M (k0 + 21)).2) ∧ True) (σ1 := (30, [some (aR 21 k0), some (aI v1), some (aI v2), some (aI v3)], [], wI M (k0 + 21) (((800 : Int32)) + v2).toNatClampNeg v3)) tc_167 rfl 7 (fun u => ⟨_, rfl⟩) ⟨trivial, trivial, trivial, trivial, trivial, trivial, c0, trivial⟩ ?_
    exact gd_ret tc_167 rfl rfl trivial (fun _ => rfl) ⟨rfl, h⟩
  · have h := h.2 hc
    show Gd d w 167 _ (5, [some (aR 21 k0), some (aI v1), some (aI v2), some (aI v3)], [], M)
    obtain ⟨c0, h⟩ := h
    refine gd_s (P := True ∧ True ∧ True ∧ True ∧ True ∧ True ∧ (vp_in (((800 : Int32)) + v1) (rK M (k0 + 20)).2) ∧ True ∧ True) (σ1 := (30, [some (aR 21 k0), some (aI v1), some (aI v2), some (aI v3)], [], wI M (k0 + 20) (((800 : Int32)) + v1).toNatClampNeg v3)) tc_167 rfl 8 (fun u => ⟨_, rfl⟩) ⟨trivial, trivial, trivial, trivial, trivial, trivial, c0, trivial, trivial⟩ ?_
    exact gd_ret tc_167 rfl rfl trivial (fun _ => rfl) ⟨rfl, h⟩
theorem tc_166 : tC 166 = c166 := rfl
def w_Mo_give_L2 (post : aM → Prop) : Nat → Nat → Int32 → aM → Prop
  | 0, _, _, _ => False
  | n + 1, k0, v2, M => (vp_in ((rI M k0 40) - ((1 : Int32))) (rK M (k0 + 31)).2) ∧ ((((rI M (k0 + 31) ((rI M k0 40) - ((1 : Int32))).toNatClampNeg) = ((-1 : Int32))) → (vp_in ((rI M k0 40) - ((1 : Int32))) (rK M (k0 + 34)).2) ∧ ((((rI M (k0 + 34) ((rI M k0 40) - ((1 : Int32))).toNatClampNeg) = ((-1 : Int32))) → (vp_in ((rI M k0 40) - ((1 : Int32))) (rK M (k0 + 35)).2) ∧ post (wI M (k0 + 35) ((rI M k0 40) - ((1 : Int32))).toNatClampNeg v2)) ∧ (¬ ((rI M (k0 + 34) ((rI M k0 40) - ((1 : Int32))).toNatClampNeg) = ((-1 : Int32))) → (vp_in ((rI M k0 40) - ((1 : Int32))) (rK M (k0 + 34)).2) ∧ (vp_in ((rI M k0 40) - ((1 : Int32))) (rK M (k0 + 35)).2) ∧ (w_Mo_join (fun M1 => (vp_in ((rI M k0 40) - ((1 : Int32))) (rK M1 (k0 + 35)).2) ∧ post (wI M1 (k0 + 35) ((rI M k0 40) - ((1 : Int32))).toNatClampNeg v2)) k0 (rI M (k0 + 34) ((rI M k0 40) - ((1 : Int32))).toNatClampNeg) (rI M (k0 + 35) ((rI M k0 40) - ((1 : Int32))).toNatClampNeg) v2 M)))) ∧ (¬ ((rI M (k0 + 31) ((rI M k0 40) - ((1 : Int32))).toNatClampNeg) = ((-1 : Int32))) → (vp_in ((rI M k0 40) - ((1 : Int32))) (rK M (k0 + 31)).2) ∧ (w_Mo_join (fun M2 => w_Mo_complete (fun M3 => w_Mo_give_L2 post n k0 (rI M (k0 + 31) ((rI M k0 40) - ((1 : Int32))).toNatClampNeg) (wI (wI M3 k0 40 ((rI M3 k0 40) - ((1 : Int32)))) k0 39 ((rI (wI M3 k0 40 ((rI M3 k0 40) - ((1 : Int32)))) k0 39) - ((1 : Int32))))) k0 (rI M (k0 + 31) ((rI M k0 40) - ((1 : Int32))).toNatClampNeg) M2) k0 (rI M (k0 + 31) ((rI M k0 40) - ((1 : Int32))).toNatClampNeg) ((-1 : Int32)) v2 M)))
theorem g_Mo_give_L2 {d w : Nat} (hd : 1 ≤ d) (hw : 23 ≤ w) {post : aM → Prop} : ∀ (n : Nat) (k0 : Nat) (v2 : Int32) (o1 o3 : Option aV) (M : aM), w_Mo_give_L2 post n k0 v2 M → Gd d w 166 (pV post) (2, [some (aR 21 k0), o1, some (aI v2), o3], [], M) := by
  intro n
  induction n with
  | zero => intro k0 v2 o1 o3 M h; exact h.elim
  | succ n ih =>
    intro k0 v2 o1 o3 M h
    show Gd d w 166 _ (2, [some (aR 21 k0), o1, some (aI v2), o3], [], M)
    obtain ⟨c0, h⟩ := h
    refine gd_s (P := True ∧ True ∧ True ∧ True ∧ True ∧ True ∧ (vp_in ((rI M k0 40) - ((1 : Int32))) (rK M (k0 + 31)).2) ∧ True ∧ True) (σ1 := (14, [some (aR 21 k0), o1, some (aI v2), o3], [aI ((-1 : Int32)), aI (rI M (k0 + 31) ((rI M k0 40) - ((1 : Int32))).toNatClampNeg)], M)) tc_166 rfl 8 (fun u => ⟨_, rfl⟩) ⟨trivial, trivial, trivial, trivial, trivial, trivial, c0, trivial, trivial⟩ ?_
    refine gd_br (c := (rI M (k0 + 31) ((rI M k0 40) - ((1 : Int32))).toNatClampNeg) = ((-1 : Int32))) (st1 := []) tc_166 rfl rfl (fun _ => rfl) ⟨fun hc => ?_, fun hc => ?_⟩
    · have h := h.1 hc
      show Gd d w 166 _ (66, [some (aR 21 k0), o1, some (aI v2), o3], [], M)
      obtain ⟨c0, h⟩ := h
      refine gd_s (P := True ∧ True ∧ True ∧ True ∧ True ∧ True ∧ True ∧ True ∧ (vp_in ((rI M k0 40) - ((1 : Int32))) (rK M (k0 + 34)).2) ∧ True ∧ True) (σ1 := (80, [some (aR 21 k0), o1, some (aI v2), some (aI ((rI M k0 40) - ((1 : Int32))))], [aI ((-1 : Int32)), aI (rI M (k0 + 34) ((rI M k0 40) - ((1 : Int32))).toNatClampNeg)], M)) tc_166 rfl 10 (fun u => ⟨_, rfl⟩) ⟨trivial, trivial, trivial, trivial, trivial, trivial, trivial, trivial, c0, trivial, trivial⟩ ?_
      refine gd_br (c := (rI M (k0 + 34) ((rI M k0 40) - ((1 : Int32))).toNatClampNeg) = ((-1 : Int32))) (st1 := []) tc_166 rfl rfl (fun _ => rfl) ⟨fun hc => ?_, fun hc => ?_⟩
      · have h := h.1 hc
        show Gd d w 166 _ (100, [some (aR 21 k0), o1, some (aI v2), some (aI ((rI M k0 40) - ((1 : Int32))))], [], M)
        obtain ⟨c0, h⟩ := h
        refine gd_s (P := True ∧ True ∧ True ∧ True ∧ (vp_in ((rI M k0 40) - ((1 : Int32))) (rK M (k0 + 35)).2) ∧ True) (σ1 := (107, [some (aR 21 k0), o1, some (aI v2), some (aI ((rI M k0 40) - ((1 : Int32))))], [], wI M (k0 + 35) ((rI M k0 40) - ((1 : Int32))).toNatClampNeg v2)) tc_166 rfl 5 (fun u => ⟨_, rfl⟩) ⟨trivial, trivial, trivial, trivial, c0, trivial⟩ ?_
        exact gd_ret tc_166 rfl rfl trivial (fun _ => rfl) ⟨rfl, h⟩
      · have h := h.2 hc
        show Gd d w 166 _ (83, [some (aR 21 k0), o1, some (aI v2), some (aI ((rI M k0 40) - ((1 : Int32))))], [], M)
        obtain ⟨c0, c1, h⟩ := h
        refine gd_s (P := True ∧ True ∧ True ∧ True ∧ (vp_in ((rI M k0 40) - ((1 : Int32))) (rK M (k0 + 34)).2) ∧ True ∧ True ∧ True ∧ (vp_in ((rI M k0 40) - ((1 : Int32))) (rK M (k0 + 35)).2) ∧ True ∧ True) (σ1 := (97, [some (aR 21 k0), o1, some (aI v2), some (aI ((rI M k0 40) - ((1 : Int32))))], [aI v2, aI (rI M (k0 + 35) ((rI M k0 40) - ((1 : Int32))).toNatClampNeg), aI (rI M (k0 + 34) ((rI M k0 40) - ((1 : Int32))).toNatClampNeg), aR 21 k0], M)) tc_166 rfl 10 (fun u => ⟨_, rfl⟩) ⟨trivial, trivial, trivial, trivial, c0, trivial, trivial, trivial, c1, trivial, trivial⟩ ?_
        refine gd_callN (ml := 4) (as := [aR 21 k0, aI (rI M (k0 + 34) ((rI M k0 40) - ((1 : Int32))).toNatClampNeg), aI (rI M (k0 + 35) ((rI M k0 40) - ((1 : Int32))).toNatClampNeg), aI v2]) (rest := []) tc_166 rfl rfl rfl rfl rfl (by omega) (by omega) (Nat.le_of_ble_eq_true rfl) rfl (g_Mo_join (by omega) (by omega) h) (fun r9 M1 h => ?_)
        obtain ⟨rfl, h⟩ := h
        show Gd d w 166 _ (100, [some (aR 21 k0), o1, some (aI v2), some (aI ((rI M k0 40) - ((1 : Int32))))], [], M1)
        obtain ⟨c0, h⟩ := h
        refine gd_s (P := True ∧ True ∧ True ∧ True ∧ (vp_in ((rI M k0 40) - ((1 : Int32))) (rK M1 (k0 + 35)).2) ∧ True) (σ1 := (107, [some (aR 21 k0), o1, some (aI v2), some (aI ((rI M k0 40) - ((1 : Int32))))], [], wI M1 (k0 + 35) ((rI M k0 40) - ((1 : Int32))).toNatClampNeg v2)) tc_166 rfl 5 (fun u => ⟨_, rfl⟩) ⟨trivial, trivial, trivial, trivial, c0, trivial⟩ ?_
        exact gd_ret tc_166 rfl rfl trivial (fun _ => rfl) ⟨rfl, h⟩
    · have h := h.2 hc
      show Gd d w 166 _ (17, [some (aR 21 k0), o1, some (aI v2), o3], [], M)
      obtain ⟨c0, h⟩ := h
      refine gd_s (P := True ∧ True ∧ True ∧ True ∧ True ∧ True ∧ (vp_in ((rI M k0 40) - ((1 : Int32))) (rK M (k0 + 31)).2) ∧ True ∧ True ∧ True ∧ True ∧ True ∧ True) (σ1 := (33, [some (aR 21 k0), o1, some (aI v2), some (aI (rI M (k0 + 31) ((rI M k0 40) - ((1 : Int32))).toNatClampNeg))], [aI v2, aI ((-1 : Int32)), aI (rI M (k0 + 31) ((rI M k0 40) - ((1 : Int32))).toNatClampNeg), aR 21 k0], M)) tc_166 rfl 12 (fun u => ⟨_, rfl⟩) ⟨trivial, trivial, trivial, trivial, trivial, trivial, c0, trivial, trivial, trivial, trivial, trivial, trivial⟩ ?_
      refine gd_callN (ml := 4) (as := [aR 21 k0, aI (rI M (k0 + 31) ((rI M k0 40) - ((1 : Int32))).toNatClampNeg), aI ((-1 : Int32)), aI v2]) (rest := []) tc_166 rfl rfl rfl rfl rfl (by omega) (by omega) (Nat.le_of_ble_eq_true rfl) rfl (g_Mo_join (by omega) (by omega) h) (fun r9 M2 h => ?_)
      obtain ⟨rfl, h⟩ := h
      show Gd d w 166 _ (36, [some (aR 21 k0), o1, some (aI v2), some (aI (rI M (k0 + 31) ((rI M k0 40) - ((1 : Int32))).toNatClampNeg))], [], M2)
      refine gd_s (P := True ∧ True ∧ True) (σ1 := (38, [some (aR 21 k0), o1, some (aI v2), some (aI (rI M (k0 + 31) ((rI M k0 40) - ((1 : Int32))).toNatClampNeg))], [aI (rI M (k0 + 31) ((rI M k0 40) - ((1 : Int32))).toNatClampNeg), aR 21 k0], M2)) tc_166 rfl 2 (fun u => ⟨_, rfl⟩) ⟨trivial, trivial, trivial⟩ ?_
      refine gd_callN (ml := 2) (as := [aR 21 k0, aI (rI M (k0 + 31) ((rI M k0 40) - ((1 : Int32))).toNatClampNeg)]) (rest := []) tc_166 rfl rfl rfl rfl rfl (by omega) (by omega) (Nat.le_of_ble_eq_true rfl) rfl (g_Mo_complete (by omega) (by omega) h) (fun r9 M3 h => ?_)
      obtain ⟨rfl, h⟩ := h
      show Gd d w 166 _ (41, [some (aR 21 k0), o1, some (aI v2), some (aI (rI M (k0 + 31) ((rI M k0 40) - ((1 : Int32))).toNatClampNeg))], [], M3)
      refine gd_s (P := True ∧ True ∧ True ∧ True ∧ True ∧ True ∧ True ∧ True ∧ True ∧ True ∧ True ∧ True ∧ True ∧ True ∧ True ∧ True) (σ1 := (2, [some (aR 21 k0), o1, some (aI (rI M (k0 + 31) ((rI M k0 40) - ((1 : Int32))).toNatClampNeg)), some (aI (rI M (k0 + 31) ((rI M k0 40) - ((1 : Int32))).toNatClampNeg))], [], wI (wI M3 k0 40 ((rI M3 k0 40) - ((1 : Int32)))) k0 39 ((rI (wI M3 k0 40 ((rI M3 k0 40) - ((1 : Int32)))) k0 39) - ((1 : Int32))))) tc_166 rfl 15 (fun u => ⟨_, rfl⟩) ⟨trivial, trivial, trivial, trivial, trivial, trivial, trivial, trivial, trivial, trivial, trivial, trivial, trivial, trivial, trivial, trivial⟩ ?_
      exact ih k0 (rI M (k0 + 31) ((rI M k0 40) - ((1 : Int32))).toNatClampNeg) o1 (some (aI (rI M (k0 + 31) ((rI M k0 40) - ((1 : Int32))).toNatClampNeg))) (wI (wI M3 k0 40 ((rI M3 k0 40) - ((1 : Int32)))) k0 39 ((rI (wI M3 k0 40 ((rI M3 k0 40) - ((1 : Int32)))) k0 39) - ((1 : Int32)))) h
/-- PolicyJudgeModel.give(I)V -/
def w_Mo_give (post : aM → Prop) (k0 : Nat) (v1 : Int32) (M : aM) : Prop := ∃ n9, w_Mo_give_L2 post n9 k0 v1 M
theorem g_Mo_give {d w : Nat} (hd : 1 ≤ d) (hw : 23 ≤ w) {post : aM → Prop} {k0 : Nat} {v1 : Int32} {M : aM} (h : w_Mo_give post k0 v1 M) : Gd d w 166 (pV post) (0, aEnt 166 [aR 21 k0, aI v1], [], M) := by
  unfold w_Mo_give at h
  show Gd d w 166 _ (0, [some (aR 21 k0), some (aI v1), none, none], [], M)
  refine gd_s (P := True ∧ True ∧ True) (σ1 := (2, [some (aR 21 k0), some (aI v1), some (aI v1), none], [], M)) tc_166 rfl 2 (fun u => ⟨_, rfl⟩) ⟨trivial, trivial, trivial⟩ ?_
  obtain ⟨n9, h⟩ := h
  exact g_Mo_give_L2 hd hw n9 k0 v1 (some (aI v1)) none M h
theorem tc_170 : tC 170 = c170 := rfl
def w_Mo_value_J14 (post : aM → Prop) (k0 : Nat) (v1 : Int32) (t0 : Nat) (s1 : Int32) (M : aM) : Prop := w_Mo_need (fun M1 => ((¬ (rI M1 k0 38) = ((-1 : Int32))) → post M1) ∧ (¬ (¬ (rI M1 k0 38) = ((-1 : Int32))) → (vp_in (((16 : Int32)) + v1) (rK M1 (k0 + 4)).2) ∧ ((((rI M1 k0 37) < (rI M1 (k0 + 4) (((16 : Int32)) + v1).toNatClampNeg)) → post M1) ∧ (¬ ((rI M1 k0 37) < (rI M1 (k0 + 4) (((16 : Int32)) + v1).toNatClampNeg)) → w_Mo_bad (fun M2 => post M2) k0 ((4 : Int32)) M1)))) t0 s1 M
theorem g_Mo_value_J14 {d w : Nat} (hd : 2 ≤ d) (hw : 42 ≤ w) {post : aM → Prop} (k0 : Nat) (v1 : Int32) (t0 : Nat) (s1 : Int32) (M : aM) (h : w_Mo_value_J14 post k0 v1 t0 s1 M) : Gd d w 170 (pV post) (14, [some (aR 21 k0), some (aI v1)], [aI s1, aR 21 t0], M) := by
  unfold w_Mo_value_J14 at h
  show Gd d w 170 _ (14, [some (aR 21 k0), some (aI v1)], [aI s1, aR 21 t0], M)
  refine gd_callN (ml := 2) (as := [aR 21 t0, aI s1]) (rest := []) tc_170 rfl rfl rfl rfl rfl (by omega) (by omega) (Nat.le_of_ble_eq_true rfl) rfl (g_Mo_need (by omega) (by omega) h) (fun r9 M1 h => ?_)
  obtain ⟨rfl, h⟩ := h
  show Gd d w 170 _ (17, [some (aR 21 k0), some (aI v1)], [], M1)
  refine gd_s (P := True ∧ True ∧ True ∧ True) (σ1 := (22, [some (aR 21 k0), some (aI v1)], [aI ((-1 : Int32)), aI (rI M1 k0 38)], M1)) tc_170 rfl 3 (fun u => ⟨_, rfl⟩) ⟨trivial, trivial, trivial, trivial⟩ ?_
  refine gd_br (c := ¬ (rI M1 k0 38) = ((-1 : Int32))) (st1 := []) tc_170 rfl rfl (fun _ => rfl) ⟨fun hc => ?_, fun hc => ?_⟩
  · have h := h.1 hc
    show Gd d w 170 _ (46, [some (aR 21 k0), some (aI v1)], [], M1)
    exact gd_ret tc_170 rfl rfl trivial (fun _ => rfl) ⟨rfl, h⟩
  · have h := h.2 hc
    show Gd d w 170 _ (25, [some (aR 21 k0), some (aI v1)], [], M1)
    obtain ⟨c0, h⟩ := h
    refine gd_s (P := True ∧ True ∧ True ∧ True ∧ True ∧ True ∧ True ∧ (vp_in (((16 : Int32)) + v1) (rK M1 (k0 + 4)).2) ∧ True) (σ1 := (38, [some (aR 21 k0), some (aI v1)], [aI (rI M1 (k0 + 4) (((16 : Int32)) + v1).toNatClampNeg), aI (rI M1 k0 37)], M1)) tc_170 rfl 8 (fun u => ⟨_, rfl⟩) ⟨trivial, trivial, trivial, trivial, trivial, trivial, trivial, c0, trivial⟩ ?_
    refine gd_br (c := (rI M1 k0 37) < (rI M1 (k0 + 4) (((16 : Int32)) + v1).toNatClampNeg)) (st1 := []) tc_170 rfl rfl (fun _ => rfl) ⟨fun hc => ?_, fun hc => ?_⟩
    · have h := h.1 hc
      show Gd d w 170 _ (46, [some (aR 21 k0), some (aI v1)], [], M1)
      exact gd_ret tc_170 rfl rfl trivial (fun _ => rfl) ⟨rfl, h⟩
    · have h := h.2 hc
      show Gd d w 170 _ (41, [some (aR 21 k0), some (aI v1)], [], M1)
      refine gd_s (P := True ∧ True ∧ True) (σ1 := (43, [some (aR 21 k0), some (aI v1)], [aI ((4 : Int32)), aR 21 k0], M1)) tc_170 rfl 2 (fun u => ⟨_, rfl⟩) ⟨trivial, trivial, trivial⟩ ?_
      refine gd_callN (ml := 2) (as := [aR 21 k0, aI ((4 : Int32))]) (rest := []) tc_170 rfl rfl rfl rfl rfl (by omega) (by omega) (Nat.le_of_ble_eq_true rfl) rfl (g_Mo_bad (by omega) (by omega) h) (fun r9 M2 h => ?_)
      obtain ⟨rfl, h⟩ := h
      show Gd d w 170 _ (46, [some (aR 21 k0), some (aI v1)], [], M2)
      exact gd_ret tc_170 rfl rfl trivial (fun _ => rfl) ⟨rfl, h⟩
/-- PolicyJudgeModel.value(I)V -/
def w_Mo_value (post : aM → Prop) (k0 : Nat) (v1 : Int32) (M : aM) : Prop := ((¬ (rI M k0 34) = ((2 : Int32))) → w_Mo_value_J14 post k0 v1 k0 ((0 : Int32)) M) ∧ (¬ (¬ (rI M k0 34) = ((2 : Int32))) → w_Mo_value_J14 post k0 v1 k0 ((1 : Int32)) M)
theorem g_Mo_value {d w : Nat} (hd : 2 ≤ d) (hw : 42 ≤ w) {post : aM → Prop} {k0 : Nat} {v1 : Int32} {M : aM} (h : w_Mo_value post k0 v1 M) : Gd d w 170 (pV post) (0, aEnt 170 [aR 21 k0, aI v1], [], M) := by
  unfold w_Mo_value at h
  show Gd d w 170 _ (0, [some (aR 21 k0), some (aI v1)], [], M)
  refine gd_s (P := True ∧ True ∧ True ∧ True ∧ True) (σ1 := (6, [some (aR 21 k0), some (aI v1)], [aI ((2 : Int32)), aI (rI M k0 34), aR 21 k0], M)) tc_170 rfl 4 (fun u => ⟨_, rfl⟩) ⟨trivial, trivial, trivial, trivial, trivial⟩ ?_
  refine gd_br (c := ¬ (rI M k0 34) = ((2 : Int32))) (st1 := [aR 21 k0]) tc_170 rfl rfl (fun _ => rfl) ⟨fun hc => ?_, fun hc => ?_⟩
  · have h := h.1 hc
    show Gd d w 170 _ (13, [some (aR 21 k0), some (aI v1)], [aR 21 k0], M)
    refine gd_s (P := True ∧ True) (σ1 := (14, [some (aR 21 k0), some (aI v1)], [aI ((0 : Int32)), aR 21 k0], M)) tc_170 rfl 1 (fun u => ⟨_, rfl⟩) ⟨trivial, trivial⟩ ?_
    exact g_Mo_value_J14 hd hw k0 v1 k0 ((0 : Int32)) M h
  · have h := h.2 hc
    show Gd d w 170 _ (9, [some (aR 21 k0), some (aI v1)], [aR 21 k0], M)
    refine gd_s (P := True ∧ True ∧ True) (σ1 := (14, [some (aR 21 k0), some (aI v1)], [aI ((1 : Int32)), aR 21 k0], M)) tc_170 rfl 2 (fun u => ⟨_, rfl⟩) ⟨trivial, trivial, trivial⟩ ?_
    exact g_Mo_value_J14 hd hw k0 v1 k0 ((1 : Int32)) M h
theorem tc_169 : tC 169 = c169 := rfl
def w_Mo_readList_J151 (post : aM → Prop) (k0 : Nat) (M : aM) : Prop := w_Mo_eat (fun M1 => post M1) k0 ((125 : Int32)) M
theorem g_Mo_readList_J151 {d w : Nat} (hd : 5 ≤ d) (hw : 104 ≤ w) {post : aM → Prop} (k0 : Nat) (o1 o2 o3 o4 : Option aV) (M : aM) (h : w_Mo_readList_J151 post k0 M) : Gd d w 169 (pV post) (151, [some (aR 21 k0), o1, o2, o3, o4], [], M) := by
  unfold w_Mo_readList_J151 at h
  show Gd d w 169 _ (151, [some (aR 21 k0), o1, o2, o3, o4], [], M)
  refine gd_s (P := True ∧ True ∧ True) (σ1 := (154, [some (aR 21 k0), o1, o2, o3, o4], [aI ((125 : Int32)), aR 21 k0], M)) tc_169 rfl 2 (fun u => ⟨_, rfl⟩) ⟨trivial, trivial, trivial⟩ ?_
  refine gd_callN (ml := 2) (as := [aR 21 k0, aI ((125 : Int32))]) (rest := []) tc_169 rfl rfl rfl rfl rfl (by omega) (by omega) (Nat.le_of_ble_eq_true rfl) rfl (g_Mo_eat (by omega) (by omega) h) (fun r9 M1 h => ?_)
  obtain ⟨rfl, h⟩ := h
  show Gd d w 169 _ (157, [some (aR 21 k0), o1, o2, o3, o4], [], M1)
  exact gd_ret tc_169 rfl rfl trivial (fun _ => rfl) ⟨rfl, h⟩
def w_Mo_readList_J137 (post : aM → Prop) (K15 : Nat → Int32 → Int32 → Int32 → Int32 → aM → Prop) (k0 : Nat) (v1 : Int32) (v2 : Int32) (v3 : Int32) (s0 : Int32) (M : aM) : Prop := ((s0 = ((0 : Int32))) → K15 k0 v1 v2 v3 s0 M) ∧ (¬ (s0 = ((0 : Int32))) → w_Mo_nextToken (fun M1 => K15 k0 v1 v2 v3 s0 M1) k0 M)
theorem g_Mo_readList_J137 {d w : Nat} (hd : 5 ≤ d) (hw : 104 ≤ w) {post : aM → Prop} {K15 : Nat → Int32 → Int32 → Int32 → Int32 → aM → Prop} (hK15 : ∀ (k0 : Nat) (v1 : Int32) (v2 : Int32) (v3 : Int32) (v4 : Int32) (M : aM), K15 k0 v1 v2 v3 v4 M → Gd d w 169 (pV post) (15, [some (aR 21 k0), some (aI v1), some (aI v2), some (aI v3), some (aI v4)], [], M)) (k0 : Nat) (v1 : Int32) (v2 : Int32) (v3 : Int32) (s0 : Int32) (o4 : Option aV) (M : aM) (h : w_Mo_readList_J137 post K15 k0 v1 v2 v3 s0 M) : Gd d w 169 (pV post) (137, [some (aR 21 k0), some (aI v1), some (aI v2), some (aI v3), o4], [aI s0], M) := by
  unfold w_Mo_readList_J137 at h
  show Gd d w 169 _ (137, [some (aR 21 k0), some (aI v1), some (aI v2), some (aI v3), o4], [aI s0], M)
  refine gd_s (P := True ∧ True ∧ True) (σ1 := (141, [some (aR 21 k0), some (aI v1), some (aI v2), some (aI v3), some (aI s0)], [aI s0], M)) tc_169 rfl 2 (fun u => ⟨_, rfl⟩) ⟨trivial, trivial, trivial⟩ ?_
  refine gd_br (c := s0 = ((0 : Int32))) (st1 := []) tc_169 rfl rfl (fun _ => rfl) ⟨fun hc => ?_, fun hc => ?_⟩
  · have h := h.1 hc
    exact hK15 k0 v1 v2 v3 s0 M h
  · have h := h.2 hc
    show Gd d w 169 _ (144, [some (aR 21 k0), some (aI v1), some (aI v2), some (aI v3), some (aI s0)], [], M)
    refine gd_s (P := True ∧ True) (σ1 := (145, [some (aR 21 k0), some (aI v1), some (aI v2), some (aI v3), some (aI s0)], [aR 21 k0], M)) tc_169 rfl 1 (fun u => ⟨_, rfl⟩) ⟨trivial, trivial⟩ ?_
    refine gd_callN (ml := 2) (as := [aR 21 k0]) (rest := []) tc_169 rfl rfl rfl rfl rfl (by omega) (by omega) (Nat.le_of_ble_eq_true rfl) rfl (g_Mo_nextToken (by omega) (by omega) h) (fun r9 M1 h => ?_)
    obtain ⟨rfl, h⟩ := h
    show Gd d w 169 _ (148, [some (aR 21 k0), some (aI v1), some (aI v2), some (aI v3), some (aI s0)], [], M1)
    refine gd_s (P := True ∧ True) (σ1 := (15, [some (aR 21 k0), some (aI v1), some (aI v2), some (aI v3), some (aI s0)], [], M1)) tc_169 rfl 1 (fun u => ⟨_, rfl⟩) ⟨trivial, trivial⟩ ?_
    exact hK15 k0 v1 v2 v3 s0 M1 h
def w_Mo_readList_J136 (post : aM → Prop) (K15 : Nat → Int32 → Int32 → Int32 → Int32 → aM → Prop) (k0 : Nat) (v1 : Int32) (v2 : Int32) (v3 : Int32) (M : aM) : Prop := w_Mo_readList_J137 post K15 k0 v1 v2 v3 ((0 : Int32)) M
theorem g_Mo_readList_J136 {d w : Nat} (hd : 5 ≤ d) (hw : 104 ≤ w) {post : aM → Prop} {K15 : Nat → Int32 → Int32 → Int32 → Int32 → aM → Prop} (hK15 : ∀ (k0 : Nat) (v1 : Int32) (v2 : Int32) (v3 : Int32) (v4 : Int32) (M : aM), K15 k0 v1 v2 v3 v4 M → Gd d w 169 (pV post) (15, [some (aR 21 k0), some (aI v1), some (aI v2), some (aI v3), some (aI v4)], [], M)) (k0 : Nat) (v1 : Int32) (v2 : Int32) (v3 : Int32) (o4 : Option aV) (M : aM) (h : w_Mo_readList_J136 post K15 k0 v1 v2 v3 M) : Gd d w 169 (pV post) (136, [some (aR 21 k0), some (aI v1), some (aI v2), some (aI v3), o4], [], M) := by
  unfold w_Mo_readList_J136 at h
  show Gd d w 169 _ (136, [some (aR 21 k0), some (aI v1), some (aI v2), some (aI v3), o4], [], M)
  refine gd_s (P := True ∧ True) (σ1 := (137, [some (aR 21 k0), some (aI v1), some (aI v2), some (aI v3), o4], [aI ((0 : Int32))], M)) tc_169 rfl 1 (fun u => ⟨_, rfl⟩) ⟨trivial, trivial⟩ ?_
  exact g_Mo_readList_J137 hd hw hK15 k0 v1 v2 v3 ((0 : Int32)) o4 M h
def w_Mo_readList_J111 (post : aM → Prop) (K15 : Nat → Int32 → Int32 → Int32 → Int32 → aM → Prop) (k0 : Nat) (v1 : Int32) (v2 : Int32) (v3 : Int32) (M : aM) : Prop := w_Mo_nextToken (fun M1 => ((¬ (rI M1 k0 38) = ((-1 : Int32))) → w_Mo_readList_J136 post K15 k0 v1 v2 v3 M1) ∧ (¬ (¬ (rI M1 k0 38) = ((-1 : Int32))) → w_Mo_is (fun x2 => ((x2 = ((0 : Int32))) → w_Mo_readList_J136 post K15 k0 v1 v2 v3 M1) ∧ (¬ (x2 = ((0 : Int32))) → w_Mo_readList_J137 post K15 k0 v1 v2 v3 ((1 : Int32)) M1)) k0 ((44 : Int32)) M1)) k0 M
theorem g_Mo_readList_J111 {d w : Nat} (hd : 5 ≤ d) (hw : 104 ≤ w) {post : aM → Prop} {K15 : Nat → Int32 → Int32 → Int32 → Int32 → aM → Prop} (hK15 : ∀ (k0 : Nat) (v1 : Int32) (v2 : Int32) (v3 : Int32) (v4 : Int32) (M : aM), K15 k0 v1 v2 v3 v4 M → Gd d w 169 (pV post) (15, [some (aR 21 k0), some (aI v1), some (aI v2), some (aI v3), some (aI v4)], [], M)) (k0 : Nat) (v1 : Int32) (v2 : Int32) (v3 : Int32) (o4 : Option aV) (M : aM) (h : w_Mo_readList_J111 post K15 k0 v1 v2 v3 M) : Gd d w 169 (pV post) (111, [some (aR 21 k0), some (aI v1), some (aI v2), some (aI v3), o4], [], M) := by
  unfold w_Mo_readList_J111 at h
  show Gd d w 169 _ (111, [some (aR 21 k0), some (aI v1), some (aI v2), some (aI v3), o4], [], M)
  refine gd_s (P := True ∧ True) (σ1 := (112, [some (aR 21 k0), some (aI v1), some (aI v2), some (aI v3), o4], [aR 21 k0], M)) tc_169 rfl 1 (fun u => ⟨_, rfl⟩) ⟨trivial, trivial⟩ ?_
  refine gd_callN (ml := 2) (as := [aR 21 k0]) (rest := []) tc_169 rfl rfl rfl rfl rfl (by omega) (by omega) (Nat.le_of_ble_eq_true rfl) rfl (g_Mo_nextToken (by omega) (by omega) h) (fun r9 M1 h => ?_)
  obtain ⟨rfl, h⟩ := h
  show Gd d w 169 _ (115, [some (aR 21 k0), some (aI v1), some (aI v2), some (aI v3), o4], [], M1)
  refine gd_s (P := True ∧ True ∧ True ∧ True) (σ1 := (120, [some (aR 21 k0), some (aI v1), some (aI v2), some (aI v3), o4], [aI ((-1 : Int32)), aI (rI M1 k0 38)], M1)) tc_169 rfl 3 (fun u => ⟨_, rfl⟩) ⟨trivial, trivial, trivial, trivial⟩ ?_
  refine gd_br (c := ¬ (rI M1 k0 38) = ((-1 : Int32))) (st1 := []) tc_169 rfl rfl (fun _ => rfl) ⟨fun hc => ?_, fun hc => ?_⟩
  · have h := h.1 hc
    exact g_Mo_readList_J136 hd hw hK15 k0 v1 v2 v3 o4 M1 h
  · have h := h.2 hc
    show Gd d w 169 _ (123, [some (aR 21 k0), some (aI v1), some (aI v2), some (aI v3), o4], [], M1)
    refine gd_s (P := True ∧ True ∧ True) (σ1 := (126, [some (aR 21 k0), some (aI v1), some (aI v2), some (aI v3), o4], [aI ((44 : Int32)), aR 21 k0], M1)) tc_169 rfl 2 (fun u => ⟨_, rfl⟩) ⟨trivial, trivial, trivial⟩ ?_
    refine gd_callN (ml := 2) (as := [aR 21 k0, aI ((44 : Int32))]) (rest := []) tc_169 rfl rfl rfl rfl rfl (by omega) (by omega) (Nat.le_of_ble_eq_true rfl) rfl (g_Mo_is (by omega) (by omega) h) (fun r9 M9 h => ?_)
    obtain ⟨x2, rfl, e9, h⟩ := h
    subst M9
    show Gd d w 169 _ (129, [some (aR 21 k0), some (aI v1), some (aI v2), some (aI v3), o4], [aI x2], M1)
    refine gd_br (c := x2 = ((0 : Int32))) (st1 := []) tc_169 rfl rfl (fun _ => rfl) ⟨fun hc => ?_, fun hc => ?_⟩
    · have h := h.1 hc
      exact g_Mo_readList_J136 hd hw hK15 k0 v1 v2 v3 o4 M1 h
    · have h := h.2 hc
      show Gd d w 169 _ (132, [some (aR 21 k0), some (aI v1), some (aI v2), some (aI v3), o4], [], M1)
      refine gd_s (P := True ∧ True ∧ True) (σ1 := (137, [some (aR 21 k0), some (aI v1), some (aI v2), some (aI v3), o4], [aI ((1 : Int32))], M1)) tc_169 rfl 2 (fun u => ⟨_, rfl⟩) ⟨trivial, trivial, trivial⟩ ?_
      exact g_Mo_readList_J137 hd hw hK15 k0 v1 v2 v3 ((1 : Int32)) o4 M1 h
def w_Mo_readList_J58 (post : aM → Prop) (K15 : Nat → Int32 → Int32 → Int32 → Int32 → aM → Prop) (k0 : Nat) (v1 : Int32) (v2 : Int32) (v3 : Int32) (M : aM) : Prop := ((¬ (rI M k0 38) = ((-1 : Int32))) → w_Mo_readList_J111 post K15 k0 v1 v2 v3 M) ∧ (¬ (¬ (rI M k0 38) = ((-1 : Int32))) → (vp_in v1 (rK M (k0 + 19)).2) ∧ (vp_in v1 (rK M (k0 + 18)).2) ∧ (vp_in v1 (rK M (k0 + 19)).2) ∧ (vp_in v1 (rK M (k0 + 18)).2) ∧ (vp_in v1 (rK M (k0 + 18)).2) ∧ (w_Mo_readList_J111 post K15 k0 v1 v2 (v3 ||| (((1 : Int32)) <<< ((rI M k0 37) &&& 31))) (wI (wI M (k0 + 19) v1.toNatClampNeg ((rI M (k0 + 19) v1.toNatClampNeg) ||| ((rI M k0 37) <<< ((((4 : Int32)) * (rI M (k0 + 18) v1.toNatClampNeg)) &&& 31)))) (k0 + 18) v1.toNatClampNeg ((rI (wI M (k0 + 19) v1.toNatClampNeg ((rI M (k0 + 19) v1.toNatClampNeg) ||| ((rI M k0 37) <<< ((((4 : Int32)) * (rI M (k0 + 18) v1.toNatClampNeg)) &&& 31)))) (k0 + 18) v1.toNatClampNeg) + ((1 : Int32))))))
theorem g_Mo_readList_J58 {d w : Nat} (hd : 5 ≤ d) (hw : 104 ≤ w) {post : aM → Prop} {K15 : Nat → Int32 → Int32 → Int32 → Int32 → aM → Prop} (hK15 : ∀ (k0 : Nat) (v1 : Int32) (v2 : Int32) (v3 : Int32) (v4 : Int32) (M : aM), K15 k0 v1 v2 v3 v4 M → Gd d w 169 (pV post) (15, [some (aR 21 k0), some (aI v1), some (aI v2), some (aI v3), some (aI v4)], [], M)) (k0 : Nat) (v1 : Int32) (v2 : Int32) (v3 : Int32) (o4 : Option aV) (M : aM) (h : w_Mo_readList_J58 post K15 k0 v1 v2 v3 M) : Gd d w 169 (pV post) (58, [some (aR 21 k0), some (aI v1), some (aI v2), some (aI v3), o4], [], M) := by
  unfold w_Mo_readList_J58 at h
  show Gd d w 169 _ (58, [some (aR 21 k0), some (aI v1), some (aI v2), some (aI v3), o4], [], M)
  refine gd_s (P := True ∧ True ∧ True ∧ True) (σ1 := (63, [some (aR 21 k0), some (aI v1), some (aI v2), some (aI v3), o4], [aI ((-1 : Int32)), aI (rI M k0 38)], M)) tc_169 rfl 3 (fun u => ⟨_, rfl⟩) ⟨trivial, trivial, trivial, trivial⟩ ?_
  refine gd_br (c := ¬ (rI M k0 38) = ((-1 : Int32))) (st1 := []) tc_169 rfl rfl (fun _ => rfl) ⟨fun hc => ?_, fun hc => ?_⟩
  · have h := h.1 hc
    exact g_Mo_readList_J111 hd hw hK15 k0 v1 v2 v3 o4 M h
  · have h := h.2 hc
    show Gd d w 169 _ (66, [some (aR 21 k0), some (aI v1), some (aI v2), some (aI v3), o4], [], M)
    obtain ⟨c0, c1, c2, c3, c4, h⟩ := h
    refine gd_s (P := True ∧ True ∧ True ∧ True ∧ True ∧ True ∧ True ∧ True ∧ True ∧ True ∧ True ∧ True ∧ True ∧ (vp_in v1 (rK M (k0 + 19)).2) ∧ True ∧ True ∧ True ∧ True ∧ True ∧ True ∧ (vp_in v1 (rK M (k0 + 18)).2) ∧ True ∧ True ∧ True ∧ (vp_in v1 (rK M (k0 + 19)).2) ∧ True ∧ True ∧ True ∧ True ∧ (vp_in v1 (rK M (k0 + 18)).2) ∧ True ∧ True ∧ (vp_in v1 (rK M (k0 + 18)).2) ∧ True) (σ1 := (111, [some (aR 21 k0), some (aI v1), some (aI v2), some (aI (v3 ||| (((1 : Int32)) <<< ((rI M k0 37) &&& 31)))), o4], [], wI (wI M (k0 + 19) v1.toNatClampNeg ((rI M (k0 + 19) v1.toNatClampNeg) ||| ((rI M k0 37) <<< ((((4 : Int32)) * (rI M (k0 + 18) v1.toNatClampNeg)) &&& 31)))) (k0 + 18) v1.toNatClampNeg ((rI (wI M (k0 + 19) v1.toNatClampNeg ((rI M (k0 + 19) v1.toNatClampNeg) ||| ((rI M k0 37) <<< ((((4 : Int32)) * (rI M (k0 + 18) v1.toNatClampNeg)) &&& 31)))) (k0 + 18) v1.toNatClampNeg) + ((1 : Int32))))) tc_169 rfl 33 (fun u => ⟨_, rfl⟩) ⟨trivial, trivial, trivial, trivial, trivial, trivial, trivial, trivial, trivial, trivial, trivial, trivial, trivial, c0, trivial, trivial, trivial, trivial, trivial, trivial, c1, trivial, trivial, trivial, c2, trivial, trivial, trivial, trivial, c3, trivial, trivial, c4, trivial⟩ ?_
    exact g_Mo_readList_J111 hd hw hK15 k0 v1 v2 (v3 ||| (((1 : Int32)) <<< ((rI M k0 37) &&& 31))) o4 (wI (wI M (k0 + 19) v1.toNatClampNeg ((rI M (k0 + 19) v1.toNatClampNeg) ||| ((rI M k0 37) <<< ((((4 : Int32)) * (rI M (k0 + 18) v1.toNatClampNeg)) &&& 31)))) (k0 + 18) v1.toNatClampNeg ((rI (wI M (k0 + 19) v1.toNatClampNeg ((rI M (k0 + 19) v1.toNatClampNeg) ||| ((rI M k0 37) <<< ((((4 : Int32)) * (rI M (k0 + 18) v1.toNatClampNeg)) &&& 31)))) (k0 + 18) v1.toNatClampNeg) + ((1 : Int32)))) h
def w_Mo_readList_L15 (post : aM → Prop) : Nat → Nat → Int32 → Int32 → Int32 → Int32 → aM → Prop
  | 0, _, _, _, _, _, _ => False
  | n + 1, k0, v1, v2, v3, v4, M => ((v4 = ((0 : Int32))) → w_Mo_readList_J151 post k0 M) ∧ (¬ (v4 = ((0 : Int32))) → ((¬ (rI M k0 38) = ((-1 : Int32))) → w_Mo_readList_J151 post k0 M) ∧ (¬ (¬ (rI M k0 38) = ((-1 : Int32))) → w_Mo_value (fun M1 => ((¬ (rI M1 k0 38) = ((-1 : Int32))) → w_Mo_readList_J58 post (w_Mo_readList_L15 post n) k0 v1 v2 v3 M1) ∧ (¬ (¬ (rI M1 k0 38) = ((-1 : Int32))) → ((¬ ((v3 >>> ((rI M1 k0 37) &&& 31)) &&& ((1 : Int32))) = ((1 : Int32))) → w_Mo_readList_J58 post (w_Mo_readList_L15 post n) k0 v1 v2 v3 M1) ∧ (¬ (¬ ((v3 >>> ((rI M1 k0 37) &&& 31)) &&& ((1 : Int32))) = ((1 : Int32))) → w_Mo_bad (fun M2 => w_Mo_readList_J58 post (w_Mo_readList_L15 post n) k0 v1 v2 v3 M2) k0 ((4 : Int32)) M1))) k0 v2 M))
theorem g_Mo_readList_L15 {d w : Nat} (hd : 5 ≤ d) (hw : 104 ≤ w) {post : aM → Prop} : ∀ (n : Nat) (k0 : Nat) (v1 : Int32) (v2 : Int32) (v3 : Int32) (v4 : Int32) (M : aM), w_Mo_readList_L15 post n k0 v1 v2 v3 v4 M → Gd d w 169 (pV post) (15, [some (aR 21 k0), some (aI v1), some (aI v2), some (aI v3), some (aI v4)], [], M) := by
  intro n
  induction n with
  | zero => intro k0 v1 v2 v3 v4 M h; exact h.elim
  | succ n ih =>
    intro k0 v1 v2 v3 v4 M h
    show Gd d w 169 _ (15, [some (aR 21 k0), some (aI v1), some (aI v2), some (aI v3), some (aI v4)], [], M)
    refine gd_s (P := True ∧ True) (σ1 := (17, [some (aR 21 k0), some (aI v1), some (aI v2), some (aI v3), some (aI v4)], [aI v4], M)) tc_169 rfl 1 (fun u => ⟨_, rfl⟩) ⟨trivial, trivial⟩ ?_
    refine gd_br (c := v4 = ((0 : Int32))) (st1 := []) tc_169 rfl rfl (fun _ => rfl) ⟨fun hc => ?_, fun hc => ?_⟩
    · have h := h.1 hc
      exact g_Mo_readList_J151 hd hw k0 (some (aI v1)) (some (aI v2)) (some (aI v3)) (some (aI v4)) M h
    · have h := h.2 hc
      show Gd d w 169 _ (20, [some (aR 21 k0), some (aI v1), some (aI v2), some (aI v3), some (aI v4)], [], M)
      refine gd_s (P := True ∧ True ∧ True ∧ True) (σ1 := (25, [some (aR 21 k0), some (aI v1), some (aI v2), some (aI v3), some (aI v4)], [aI ((-1 : Int32)), aI (rI M k0 38)], M)) tc_169 rfl 3 (fun u => ⟨_, rfl⟩) ⟨trivial, trivial, trivial, trivial⟩ ?_
      refine gd_br (c := ¬ (rI M k0 38) = ((-1 : Int32))) (st1 := []) tc_169 rfl rfl (fun _ => rfl) ⟨fun hc => ?_, fun hc => ?_⟩
      · have h := h.1 hc
        exact g_Mo_readList_J151 hd hw k0 (some (aI v1)) (some (aI v2)) (some (aI v3)) (some (aI v4)) M h
      · have h := h.2 hc
        show Gd d w 169 _ (28, [some (aR 21 k0), some (aI v1), some (aI v2), some (aI v3), some (aI v4)], [], M)
        refine gd_s (P := True ∧ True ∧ True) (σ1 := (30, [some (aR 21 k0), some (aI v1), some (aI v2), some (aI v3), some (aI v4)], [aI v2, aR 21 k0], M)) tc_169 rfl 2 (fun u => ⟨_, rfl⟩) ⟨trivial, trivial, trivial⟩ ?_
        refine gd_callN (ml := 2) (as := [aR 21 k0, aI v2]) (rest := []) tc_169 rfl rfl rfl rfl rfl (by omega) (by omega) (Nat.le_of_ble_eq_true rfl) rfl (g_Mo_value (by omega) (by omega) h) (fun r9 M1 h => ?_)
        obtain ⟨rfl, h⟩ := h
        show Gd d w 169 _ (33, [some (aR 21 k0), some (aI v1), some (aI v2), some (aI v3), some (aI v4)], [], M1)
        refine gd_s (P := True ∧ True ∧ True ∧ True) (σ1 := (38, [some (aR 21 k0), some (aI v1), some (aI v2), some (aI v3), some (aI v4)], [aI ((-1 : Int32)), aI (rI M1 k0 38)], M1)) tc_169 rfl 3 (fun u => ⟨_, rfl⟩) ⟨trivial, trivial, trivial, trivial⟩ ?_
        refine gd_br (c := ¬ (rI M1 k0 38) = ((-1 : Int32))) (st1 := []) tc_169 rfl rfl (fun _ => rfl) ⟨fun hc => ?_, fun hc => ?_⟩
        · have h := h.1 hc
          exact g_Mo_readList_J58 hd hw ih k0 v1 v2 v3 (some (aI v4)) M1 h
        · have h := h.2 hc
          show Gd d w 169 _ (41, [some (aR 21 k0), some (aI v1), some (aI v2), some (aI v3), some (aI v4)], [], M1)
          refine gd_s (P := True ∧ True ∧ True ∧ True ∧ True ∧ True ∧ True ∧ True) (σ1 := (50, [some (aR 21 k0), some (aI v1), some (aI v2), some (aI v3), some (aI v4)], [aI ((1 : Int32)), aI ((v3 >>> ((rI M1 k0 37) &&& 31)) &&& ((1 : Int32)))], M1)) tc_169 rfl 7 (fun u => ⟨_, rfl⟩) ⟨trivial, trivial, trivial, trivial, trivial, trivial, trivial, trivial⟩ ?_
          refine gd_br (c := ¬ ((v3 >>> ((rI M1 k0 37) &&& 31)) &&& ((1 : Int32))) = ((1 : Int32))) (st1 := []) tc_169 rfl rfl (fun _ => rfl) ⟨fun hc => ?_, fun hc => ?_⟩
          · have h := h.1 hc
            exact g_Mo_readList_J58 hd hw ih k0 v1 v2 v3 (some (aI v4)) M1 h
          · have h := h.2 hc
            show Gd d w 169 _ (53, [some (aR 21 k0), some (aI v1), some (aI v2), some (aI v3), some (aI v4)], [], M1)
            refine gd_s (P := True ∧ True ∧ True) (σ1 := (55, [some (aR 21 k0), some (aI v1), some (aI v2), some (aI v3), some (aI v4)], [aI ((4 : Int32)), aR 21 k0], M1)) tc_169 rfl 2 (fun u => ⟨_, rfl⟩) ⟨trivial, trivial, trivial⟩ ?_
            refine gd_callN (ml := 2) (as := [aR 21 k0, aI ((4 : Int32))]) (rest := []) tc_169 rfl rfl rfl rfl rfl (by omega) (by omega) (Nat.le_of_ble_eq_true rfl) rfl (g_Mo_bad (by omega) (by omega) h) (fun r9 M2 h => ?_)
            obtain ⟨rfl, h⟩ := h
            exact g_Mo_readList_J58 hd hw ih k0 v1 v2 v3 (some (aI v4)) M2 h
/-- PolicyJudgeModel.readList(II)V -/
def w_Mo_readList (post : aM → Prop) (k0 : Nat) (v1 : Int32) (v2 : Int32) (M : aM) : Prop := w_Mo_nextToken (fun M1 => w_Mo_eat (fun M2 => ∃ n9, w_Mo_readList_L15 post n9 k0 v1 v2 ((0 : Int32)) ((1 : Int32)) M2) k0 ((123 : Int32)) M1) k0 M
theorem g_Mo_readList {d w : Nat} (hd : 5 ≤ d) (hw : 104 ≤ w) {post : aM → Prop} {k0 : Nat} {v1 : Int32} {v2 : Int32} {M : aM} (h : w_Mo_readList post k0 v1 v2 M) : Gd d w 169 (pV post) (0, aEnt 169 [aR 21 k0, aI v1, aI v2], [], M) := by
  unfold w_Mo_readList at h
  show Gd d w 169 _ (0, [some (aR 21 k0), some (aI v1), some (aI v2), none, none], [], M)
  refine gd_s (P := True ∧ True) (σ1 := (1, [some (aR 21 k0), some (aI v1), some (aI v2), none, none], [aR 21 k0], M)) tc_169 rfl 1 (fun u => ⟨_, rfl⟩) ⟨trivial, trivial⟩ ?_
  refine gd_callN (ml := 2) (as := [aR 21 k0]) (rest := []) tc_169 rfl rfl rfl rfl rfl (by omega) (by omega) (Nat.le_of_ble_eq_true rfl) rfl (g_Mo_nextToken (by omega) (by omega) h) (fun r9 M1 h => ?_)
  obtain ⟨rfl, h⟩ := h
  show Gd d w 169 _ (4, [some (aR 21 k0), some (aI v1), some (aI v2), none, none], [], M1)
  refine gd_s (P := True ∧ True ∧ True) (σ1 := (7, [some (aR 21 k0), some (aI v1), some (aI v2), none, none], [aI ((123 : Int32)), aR 21 k0], M1)) tc_169 rfl 2 (fun u => ⟨_, rfl⟩) ⟨trivial, trivial, trivial⟩ ?_
  refine gd_callN (ml := 2) (as := [aR 21 k0, aI ((123 : Int32))]) (rest := []) tc_169 rfl rfl rfl rfl rfl (by omega) (by omega) (Nat.le_of_ble_eq_true rfl) rfl (g_Mo_eat (by omega) (by omega) h) (fun r9 M2 h => ?_)
  obtain ⟨rfl, h⟩ := h
  show Gd d w 169 _ (10, [some (aR 21 k0), some (aI v1), some (aI v2), none, none], [], M2)
  refine gd_s (P := True ∧ True ∧ True ∧ True ∧ True) (σ1 := (15, [some (aR 21 k0), some (aI v1), some (aI v2), some (aI ((0 : Int32))), some (aI ((1 : Int32)))], [], M2)) tc_169 rfl 4 (fun u => ⟨_, rfl⟩) ⟨trivial, trivial, trivial, trivial, trivial⟩ ?_
  obtain ⟨n9, h⟩ := h
  exact g_Mo_readList_L15 hd hw n9 k0 v1 v2 ((0 : Int32)) ((1 : Int32)) M2 h
theorem tc_168 : tC 168 = c168 := rfl
def w_Mo_readTest_J395 (post : aM → Prop) (k0 : Nat) (v2 : Int32) (M : aM) : Prop := ((¬ (rI M k0 38) = ((-1 : Int32))) → post M) ∧ (¬ (¬ (rI M k0 38) = ((-1 : Int32))) → w_Mo_complete (fun M1 => w_Mo_give (fun M2 => post M2) k0 v2 M1) k0 v2 M)
theorem g_Mo_readTest_J395 {d w : Nat} (hd : 8 ≤ d) (hw : 246 ≤ w) {post : aM → Prop} (k0 : Nat) (v2 : Int32) (o1 o3 o4 o5 : Option aV) (M : aM) (h : w_Mo_readTest_J395 post k0 v2 M) : Gd d w 168 (pV post) (395, [some (aR 21 k0), o1, some (aI v2), o3, o4, o5], [], M) := by
  unfold w_Mo_readTest_J395 at h
  show Gd d w 168 _ (395, [some (aR 21 k0), o1, some (aI v2), o3, o4, o5], [], M)
  refine gd_s (P := True ∧ True ∧ True ∧ True) (σ1 := (400, [some (aR 21 k0), o1, some (aI v2), o3, o4, o5], [aI ((-1 : Int32)), aI (rI M k0 38)], M)) tc_168 rfl 3 (fun u => ⟨_, rfl⟩) ⟨trivial, trivial, trivial, trivial⟩ ?_
  refine gd_br (c := ¬ (rI M k0 38) = ((-1 : Int32))) (st1 := []) tc_168 rfl rfl (fun _ => rfl) ⟨fun hc => ?_, fun hc => ?_⟩
  · have h := h.1 hc
    show Gd d w 168 _ (413, [some (aR 21 k0), o1, some (aI v2), o3, o4, o5], [], M)
    exact gd_ret tc_168 rfl rfl trivial (fun _ => rfl) ⟨rfl, h⟩
  · have h := h.2 hc
    show Gd d w 168 _ (403, [some (aR 21 k0), o1, some (aI v2), o3, o4, o5], [], M)
    refine gd_s (P := True ∧ True ∧ True) (σ1 := (405, [some (aR 21 k0), o1, some (aI v2), o3, o4, o5], [aI v2, aR 21 k0], M)) tc_168 rfl 2 (fun u => ⟨_, rfl⟩) ⟨trivial, trivial, trivial⟩ ?_
    refine gd_callN (ml := 2) (as := [aR 21 k0, aI v2]) (rest := []) tc_168 rfl rfl rfl rfl rfl (by omega) (by omega) (Nat.le_of_ble_eq_true rfl) rfl (g_Mo_complete (by omega) (by omega) h) (fun r9 M1 h => ?_)
    obtain ⟨rfl, h⟩ := h
    show Gd d w 168 _ (408, [some (aR 21 k0), o1, some (aI v2), o3, o4, o5], [], M1)
    refine gd_s (P := True ∧ True ∧ True) (σ1 := (410, [some (aR 21 k0), o1, some (aI v2), o3, o4, o5], [aI v2, aR 21 k0], M1)) tc_168 rfl 2 (fun u => ⟨_, rfl⟩) ⟨trivial, trivial, trivial⟩ ?_
    refine gd_callN (ml := 4) (as := [aR 21 k0, aI v2]) (rest := []) tc_168 rfl rfl rfl rfl rfl (by omega) (by omega) (Nat.le_of_ble_eq_true rfl) rfl (g_Mo_give (by omega) (by omega) h) (fun r9 M2 h => ?_)
    obtain ⟨rfl, h⟩ := h
    show Gd d w 168 _ (413, [some (aR 21 k0), o1, some (aI v2), o3, o4, o5], [], M2)
    exact gd_ret tc_168 rfl rfl trivial (fun _ => rfl) ⟨rfl, h⟩
def w_Mo_readTest_J246 (post : aM → Prop) (k0 : Nat) (v1 : Int32) (v2 : Int32) (v3 : Int32) (t0 : Nat) (s1 : Int32) (s2 : Int32) (M : aM) : Prop := (vp_in s1 (rK M t0).2) ∧ (w_Mo_readList (fun M1 => w_Mo_readTest_J395 post k0 v2 M1) k0 v3 v1 (wI M t0 s1.toNatClampNeg s2))
theorem g_Mo_readTest_J246 {d w : Nat} (hd : 8 ≤ d) (hw : 246 ≤ w) {post : aM → Prop} (k0 : Nat) (v1 : Int32) (v2 : Int32) (v3 : Int32) (t0 : Nat) (s1 : Int32) (s2 : Int32) (o4 o5 : Option aV) (M : aM) (h : w_Mo_readTest_J246 post k0 v1 v2 v3 t0 s1 s2 M) : Gd d w 168 (pV post) (246, [some (aR 21 k0), some (aI v1), some (aI v2), some (aI v3), o4, o5], [aI s2, aI s1, aR 4 t0], M) := by
  unfold w_Mo_readTest_J246 at h
  show Gd d w 168 _ (246, [some (aR 21 k0), some (aI v1), some (aI v2), some (aI v3), o4, o5], [aI s2, aI s1, aR 4 t0], M)
  obtain ⟨c0, h⟩ := h
  refine gd_s (P := (vp_in s1 (rK M t0).2) ∧ True ∧ True ∧ True ∧ True) (σ1 := (250, [some (aR 21 k0), some (aI v1), some (aI v2), some (aI v3), o4, o5], [aI v1, aI v3, aR 21 k0], wI M t0 s1.toNatClampNeg s2)) tc_168 rfl 4 (fun u => ⟨_, rfl⟩) ⟨c0, trivial, trivial, trivial, trivial⟩ ?_
  refine gd_callN (ml := 5) (as := [aR 21 k0, aI v3, aI v1]) (rest := []) tc_168 rfl rfl rfl rfl rfl (by omega) (by omega) (Nat.le_of_ble_eq_true rfl) rfl (g_Mo_readList (by omega) (by omega) h) (fun r9 M1 h => ?_)
  obtain ⟨rfl, h⟩ := h
  show Gd d w 168 _ (253, [some (aR 21 k0), some (aI v1), some (aI v2), some (aI v3), o4, o5], [], M1)
  refine gd_s (P := True ∧ True) (σ1 := (395, [some (aR 21 k0), some (aI v1), some (aI v2), some (aI v3), o4, o5], [], M1)) tc_168 rfl 1 (fun u => ⟨_, rfl⟩) ⟨trivial, trivial⟩ ?_
  exact g_Mo_readTest_J395 hd hw k0 v2 (some (aI v1)) (some (aI v3)) o4 o5 M1 h
def w_Mo_readTest_J230 (post : aM → Prop) (k0 : Nat) (v1 : Int32) (v2 : Int32) (v3 : Int32) (v4 : Int32) (M : aM) : Prop := ((¬ v4 = ((1 : Int32))) → w_Mo_readTest_J246 post k0 v1 v2 v3 (k0 + 16) v3 ((5 : Int32)) M) ∧ (¬ (¬ v4 = ((1 : Int32))) → w_Mo_readTest_J246 post k0 v1 v2 v3 (k0 + 16) v3 ((4 : Int32)) M)
theorem g_Mo_readTest_J230 {d w : Nat} (hd : 8 ≤ d) (hw : 246 ≤ w) {post : aM → Prop} (k0 : Nat) (v1 : Int32) (v2 : Int32) (v3 : Int32) (v4 : Int32) (o5 : Option aV) (M : aM) (h : w_Mo_readTest_J230 post k0 v1 v2 v3 v4 M) : Gd d w 168 (pV post) (230, [some (aR 21 k0), some (aI v1), some (aI v2), some (aI v3), some (aI v4), o5], [], M) := by
  unfold w_Mo_readTest_J230 at h
  show Gd d w 168 _ (230, [some (aR 21 k0), some (aI v1), some (aI v2), some (aI v3), some (aI v4), o5], [], M)
  refine gd_s (P := True ∧ True ∧ True ∧ True ∧ True ∧ True) (σ1 := (238, [some (aR 21 k0), some (aI v1), some (aI v2), some (aI v3), some (aI v4), o5], [aI ((1 : Int32)), aI v4, aI v3, aR 4 (k0 + 16)], M)) tc_168 rfl 5 (fun u => ⟨_, rfl⟩) ⟨trivial, trivial, trivial, trivial, trivial, trivial⟩ ?_
  refine gd_br (c := ¬ v4 = ((1 : Int32))) (st1 := [aI v3, aR 4 (k0 + 16)]) tc_168 rfl rfl (fun _ => rfl) ⟨fun hc => ?_, fun hc => ?_⟩
  · have h := h.1 hc
    show Gd d w 168 _ (245, [some (aR 21 k0), some (aI v1), some (aI v2), some (aI v3), some (aI v4), o5], [aI v3, aR 4 (k0 + 16)], M)
    refine gd_s (P := True ∧ True) (σ1 := (246, [some (aR 21 k0), some (aI v1), some (aI v2), some (aI v3), some (aI v4), o5], [aI ((5 : Int32)), aI v3, aR 4 (k0 + 16)], M)) tc_168 rfl 1 (fun u => ⟨_, rfl⟩) ⟨trivial, trivial⟩ ?_
    exact g_Mo_readTest_J246 hd hw k0 v1 v2 v3 (k0 + 16) v3 ((5 : Int32)) (some (aI v4)) o5 M h
  · have h := h.2 hc
    show Gd d w 168 _ (241, [some (aR 21 k0), some (aI v1), some (aI v2), some (aI v3), some (aI v4), o5], [aI v3, aR 4 (k0 + 16)], M)
    refine gd_s (P := True ∧ True ∧ True) (σ1 := (246, [some (aR 21 k0), some (aI v1), some (aI v2), some (aI v3), some (aI v4), o5], [aI ((4 : Int32)), aI v3, aR 4 (k0 + 16)], M)) tc_168 rfl 2 (fun u => ⟨_, rfl⟩) ⟨trivial, trivial, trivial⟩ ?_
    exact g_Mo_readTest_J246 hd hw k0 v1 v2 v3 (k0 + 16) v3 ((4 : Int32)) (some (aI v4)) o5 M h
def w_Mo_readTest_J371 (post : aM → Prop) (k0 : Nat) (v1 : Int32) (v2 : Int32) (v3 : Int32) (t0 : Nat) (s1 : Int32) (s2 : Int32) (M : aM) : Prop := (vp_in s1 (rK M t0).2) ∧ (w_Mo_nextToken (fun M1 => w_Mo_value (fun M2 => (vp_in v3 (rK M2 (k0 + 18)).2) ∧ (w_Mo_nextToken (fun M3 => w_Mo_readTest_J395 post k0 v2 M3) k0 (wI M2 (k0 + 18) v3.toNatClampNeg (rI M2 k0 37)))) k0 v1 M1) k0 (wI M t0 s1.toNatClampNeg s2))
theorem g_Mo_readTest_J371 {d w : Nat} (hd : 8 ≤ d) (hw : 246 ≤ w) {post : aM → Prop} (k0 : Nat) (v1 : Int32) (v2 : Int32) (v3 : Int32) (t0 : Nat) (s1 : Int32) (s2 : Int32) (o4 o5 : Option aV) (M : aM) (h : w_Mo_readTest_J371 post k0 v1 v2 v3 t0 s1 s2 M) : Gd d w 168 (pV post) (371, [some (aR 21 k0), some (aI v1), some (aI v2), some (aI v3), o4, o5], [aI s2, aI s1, aR 4 t0], M) := by
  unfold w_Mo_readTest_J371 at h
  show Gd d w 168 _ (371, [some (aR 21 k0), some (aI v1), some (aI v2), some (aI v3), o4, o5], [aI s2, aI s1, aR 4 t0], M)
  obtain ⟨c0, h⟩ := h
  refine gd_s (P := (vp_in s1 (rK M t0).2) ∧ True ∧ True) (σ1 := (373, [some (aR 21 k0), some (aI v1), some (aI v2), some (aI v3), o4, o5], [aR 21 k0], wI M t0 s1.toNatClampNeg s2)) tc_168 rfl 2 (fun u => ⟨_, rfl⟩) ⟨c0, trivial, trivial⟩ ?_
  refine gd_callN (ml := 2) (as := [aR 21 k0]) (rest := []) tc_168 rfl rfl rfl rfl rfl (by omega) (by omega) (Nat.le_of_ble_eq_true rfl) rfl (g_Mo_nextToken (by omega) (by omega) h) (fun r9 M1 h => ?_)
  obtain ⟨rfl, h⟩ := h
  show Gd d w 168 _ (376, [some (aR 21 k0), some (aI v1), some (aI v2), some (aI v3), o4, o5], [], M1)
  refine gd_s (P := True ∧ True ∧ True) (σ1 := (378, [some (aR 21 k0), some (aI v1), some (aI v2), some (aI v3), o4, o5], [aI v1, aR 21 k0], M1)) tc_168 rfl 2 (fun u => ⟨_, rfl⟩) ⟨trivial, trivial, trivial⟩ ?_
  refine gd_callN (ml := 2) (as := [aR 21 k0, aI v1]) (rest := []) tc_168 rfl rfl rfl rfl rfl (by omega) (by omega) (Nat.le_of_ble_eq_true rfl) rfl (g_Mo_value (by omega) (by omega) h) (fun r9 M2 h => ?_)
  obtain ⟨rfl, h⟩ := h
  show Gd d w 168 _ (381, [some (aR 21 k0), some (aI v1), some (aI v2), some (aI v3), o4, o5], [], M2)
  obtain ⟨c0, h⟩ := h
  refine gd_s (P := True ∧ True ∧ True ∧ True ∧ True ∧ (vp_in v3 (rK M2 (k0 + 18)).2) ∧ True ∧ True) (σ1 := (392, [some (aR 21 k0), some (aI v1), some (aI v2), some (aI v3), o4, o5], [aR 21 k0], wI M2 (k0 + 18) v3.toNatClampNeg (rI M2 k0 37))) tc_168 rfl 7 (fun u => ⟨_, rfl⟩) ⟨trivial, trivial, trivial, trivial, trivial, c0, trivial, trivial⟩ ?_
  refine gd_callN (ml := 2) (as := [aR 21 k0]) (rest := []) tc_168 rfl rfl rfl rfl rfl (by omega) (by omega) (Nat.le_of_ble_eq_true rfl) rfl (g_Mo_nextToken (by omega) (by omega) h) (fun r9 M3 h => ?_)
  obtain ⟨rfl, h⟩ := h
  exact g_Mo_readTest_J395 hd hw k0 v2 (some (aI v1)) (some (aI v3)) o4 o5 M3 h
def w_Mo_readTest_J327 (post : aM → Prop) (k0 : Nat) (v2 : Int32) (M : aM) : Prop := w_Mo_nextToken (fun M1 => w_Mo_readTest_J395 post k0 v2 M1) k0 M
theorem g_Mo_readTest_J327 {d w : Nat} (hd : 8 ≤ d) (hw : 246 ≤ w) {post : aM → Prop} (k0 : Nat) (v2 : Int32) (o1 o3 o4 o5 : Option aV) (M : aM) (h : w_Mo_readTest_J327 post k0 v2 M) : Gd d w 168 (pV post) (327, [some (aR 21 k0), o1, some (aI v2), o3, o4, o5], [], M) := by
  unfold w_Mo_readTest_J327 at h
  show Gd d w 168 _ (327, [some (aR 21 k0), o1, some (aI v2), o3, o4, o5], [], M)
  refine gd_s (P := True ∧ True) (σ1 := (328, [some (aR 21 k0), o1, some (aI v2), o3, o4, o5], [aR 21 k0], M)) tc_168 rfl 1 (fun u => ⟨_, rfl⟩) ⟨trivial, trivial⟩ ?_
  refine gd_callN (ml := 2) (as := [aR 21 k0]) (rest := []) tc_168 rfl rfl rfl rfl rfl (by omega) (by omega) (Nat.le_of_ble_eq_true rfl) rfl (g_Mo_nextToken (by omega) (by omega) h) (fun r9 M1 h => ?_)
  obtain ⟨rfl, h⟩ := h
  show Gd d w 168 _ (331, [some (aR 21 k0), o1, some (aI v2), o3, o4, o5], [], M1)
  refine gd_s (P := True ∧ True) (σ1 := (395, [some (aR 21 k0), o1, some (aI v2), o3, o4, o5], [], M1)) tc_168 rfl 1 (fun u => ⟨_, rfl⟩) ⟨trivial, trivial⟩ ?_
  exact g_Mo_readTest_J395 hd hw k0 v2 o1 o3 o4 o5 M1 h
def w_Mo_readTest_J303 (post : aM → Prop) (k0 : Nat) (v2 : Int32) (v3 : Int32) (t0 : Nat) (s1 : Int32) (s2 : Int32) (M : aM) : Prop := (vp_in s1 (rK M t0).2) ∧ (((¬ (rI (wI M t0 s1.toNatClampNeg s2) k0 38) = ((-1 : Int32))) → w_Mo_readTest_J327 post k0 v2 (wI M t0 s1.toNatClampNeg s2)) ∧ (¬ (¬ (rI (wI M t0 s1.toNatClampNeg s2) k0 38) = ((-1 : Int32))) → (vp_in v3 (rK M (k0 + 18)).2) ∧ (((¬ (rI (wI M t0 s1.toNatClampNeg s2) (k0 + 18) v3.toNatClampNeg) = ((-1 : Int32))) → w_Mo_readTest_J327 post k0 v2 (wI M t0 s1.toNatClampNeg s2)) ∧ (¬ (¬ (rI (wI M t0 s1.toNatClampNeg s2) (k0 + 18) v3.toNatClampNeg) = ((-1 : Int32))) → w_Mo_bad (fun M1 => w_Mo_readTest_J327 post k0 v2 M1) k0 ((3 : Int32)) (wI M t0 s1.toNatClampNeg s2)))))
theorem g_Mo_readTest_J303 {d w : Nat} (hd : 8 ≤ d) (hw : 246 ≤ w) {post : aM → Prop} (k0 : Nat) (v2 : Int32) (v3 : Int32) (t0 : Nat) (s1 : Int32) (s2 : Int32) (o1 o4 o5 : Option aV) (M : aM) (h : w_Mo_readTest_J303 post k0 v2 v3 t0 s1 s2 M) : Gd d w 168 (pV post) (303, [some (aR 21 k0), o1, some (aI v2), some (aI v3), o4, o5], [aI s2, aI s1, aR 4 t0], M) := by
  unfold w_Mo_readTest_J303 at h
  show Gd d w 168 _ (303, [some (aR 21 k0), o1, some (aI v2), some (aI v3), o4, o5], [aI s2, aI s1, aR 4 t0], M)
  obtain ⟨c0, h⟩ := h
  refine gd_s (P := (vp_in s1 (rK M t0).2) ∧ True ∧ True ∧ True ∧ True) (σ1 := (309, [some (aR 21 k0), o1, some (aI v2), some (aI v3), o4, o5], [aI ((-1 : Int32)), aI (rI (wI M t0 s1.toNatClampNeg s2) k0 38)], wI M t0 s1.toNatClampNeg s2)) tc_168 rfl 4 (fun u => ⟨_, rfl⟩) ⟨c0, trivial, trivial, trivial, trivial⟩ ?_
  refine gd_br (c := ¬ (rI (wI M t0 s1.toNatClampNeg s2) k0 38) = ((-1 : Int32))) (st1 := []) tc_168 rfl rfl (fun _ => rfl) ⟨fun hc => ?_, fun hc => ?_⟩
  · have h := h.1 hc
    exact g_Mo_readTest_J327 hd hw k0 v2 o1 (some (aI v3)) o4 o5 (wI M t0 s1.toNatClampNeg s2) h
  · have h := h.2 hc
    show Gd d w 168 _ (312, [some (aR 21 k0), o1, some (aI v2), some (aI v3), o4, o5], [], wI M t0 s1.toNatClampNeg s2)
    obtain ⟨c0, h⟩ := h
    refine gd_s (P := True ∧ True ∧ True ∧ (vp_in v3 (rK M (k0 + 18)).2) ∧ True ∧ True) (σ1 := (319, [some (aR 21 k0), o1, some (aI v2), some (aI v3), o4, o5], [aI ((-1 : Int32)), aI (rI (wI M t0 s1.toNatClampNeg s2) (k0 + 18) v3.toNatClampNeg)], wI M t0 s1.toNatClampNeg s2)) tc_168 rfl 5 (fun u => ⟨_, rfl⟩) ⟨trivial, trivial, trivial, c0, trivial, trivial⟩ ?_
    refine gd_br (c := ¬ (rI (wI M t0 s1.toNatClampNeg s2) (k0 + 18) v3.toNatClampNeg) = ((-1 : Int32))) (st1 := []) tc_168 rfl rfl (fun _ => rfl) ⟨fun hc => ?_, fun hc => ?_⟩
    · have h := h.1 hc
      exact g_Mo_readTest_J327 hd hw k0 v2 o1 (some (aI v3)) o4 o5 (wI M t0 s1.toNatClampNeg s2) h
    · have h := h.2 hc
      show Gd d w 168 _ (322, [some (aR 21 k0), o1, some (aI v2), some (aI v3), o4, o5], [], wI M t0 s1.toNatClampNeg s2)
      refine gd_s (P := True ∧ True ∧ True) (σ1 := (324, [some (aR 21 k0), o1, some (aI v2), some (aI v3), o4, o5], [aI ((3 : Int32)), aR 21 k0], wI M t0 s1.toNatClampNeg s2)) tc_168 rfl 2 (fun u => ⟨_, rfl⟩) ⟨trivial, trivial, trivial⟩ ?_
      refine gd_callN (ml := 2) (as := [aR 21 k0, aI ((3 : Int32))]) (rest := []) tc_168 rfl rfl rfl rfl rfl (by omega) (by omega) (Nat.le_of_ble_eq_true rfl) rfl (g_Mo_bad (by omega) (by omega) h) (fun r9 M1 h => ?_)
      obtain ⟨rfl, h⟩ := h
      exact g_Mo_readTest_J327 hd hw k0 v2 o1 (some (aI v3)) o4 o5 M1 h
def w_Mo_readTest_J198 (post : aM → Prop) (k0 : Nat) (v2 : Int32) (v3 : Int32) (t0 : Nat) (s1 : Int32) (M : aM) : Prop := w_Mo_need (fun M1 => (vp_in v3 (rK M1 (k0 + 18)).2) ∧ (w_Mo_nextToken (fun M2 => w_Mo_readTest_J395 post k0 v2 M2) k0 (wI M1 (k0 + 18) v3.toNatClampNeg (rI M1 k0 37)))) t0 s1 M
theorem g_Mo_readTest_J198 {d w : Nat} (hd : 8 ≤ d) (hw : 246 ≤ w) {post : aM → Prop} (k0 : Nat) (v2 : Int32) (v3 : Int32) (t0 : Nat) (s1 : Int32) (o1 o4 o5 : Option aV) (M : aM) (h : w_Mo_readTest_J198 post k0 v2 v3 t0 s1 M) : Gd d w 168 (pV post) (198, [some (aR 21 k0), o1, some (aI v2), some (aI v3), o4, o5], [aI s1, aR 21 t0], M) := by
  unfold w_Mo_readTest_J198 at h
  show Gd d w 168 _ (198, [some (aR 21 k0), o1, some (aI v2), some (aI v3), o4, o5], [aI s1, aR 21 t0], M)
  refine gd_callN (ml := 2) (as := [aR 21 t0, aI s1]) (rest := []) tc_168 rfl rfl rfl rfl rfl (by omega) (by omega) (Nat.le_of_ble_eq_true rfl) rfl (g_Mo_need (by omega) (by omega) h) (fun r9 M1 h => ?_)
  obtain ⟨rfl, h⟩ := h
  show Gd d w 168 _ (201, [some (aR 21 k0), o1, some (aI v2), some (aI v3), o4, o5], [], M1)
  obtain ⟨c0, h⟩ := h
  refine gd_s (P := True ∧ True ∧ True ∧ True ∧ True ∧ (vp_in v3 (rK M1 (k0 + 18)).2) ∧ True ∧ True) (σ1 := (212, [some (aR 21 k0), o1, some (aI v2), some (aI v3), o4, o5], [aR 21 k0], wI M1 (k0 + 18) v3.toNatClampNeg (rI M1 k0 37))) tc_168 rfl 7 (fun u => ⟨_, rfl⟩) ⟨trivial, trivial, trivial, trivial, trivial, c0, trivial, trivial⟩ ?_
  refine gd_callN (ml := 2) (as := [aR 21 k0]) (rest := []) tc_168 rfl rfl rfl rfl rfl (by omega) (by omega) (Nat.le_of_ble_eq_true rfl) rfl (g_Mo_nextToken (by omega) (by omega) h) (fun r9 M2 h => ?_)
  obtain ⟨rfl, h⟩ := h
  show Gd d w 168 _ (215, [some (aR 21 k0), o1, some (aI v2), some (aI v3), o4, o5], [], M2)
  refine gd_s (P := True ∧ True) (σ1 := (395, [some (aR 21 k0), o1, some (aI v2), some (aI v3), o4, o5], [], M2)) tc_168 rfl 1 (fun u => ⟨_, rfl⟩) ⟨trivial, trivial⟩ ?_
  exact g_Mo_readTest_J395 hd hw k0 v2 o1 (some (aI v3)) o4 o5 M2 h
def w_Mo_readTest_J179 (post : aM → Prop) (k0 : Nat) (v2 : Int32) (v3 : Int32) (t0 : Nat) (s1 : Int32) (s2 : Int32) (M : aM) : Prop := (vp_in s1 (rK M t0).2) ∧ (w_Mo_nextToken (fun M1 => ((¬ (rI M1 k0 34) = ((2 : Int32))) → w_Mo_readTest_J198 post k0 v2 v3 k0 ((0 : Int32)) M1) ∧ (¬ (¬ (rI M1 k0 34) = ((2 : Int32))) → w_Mo_readTest_J198 post k0 v2 v3 k0 ((1 : Int32)) M1)) k0 (wI M t0 s1.toNatClampNeg s2))
theorem g_Mo_readTest_J179 {d w : Nat} (hd : 8 ≤ d) (hw : 246 ≤ w) {post : aM → Prop} (k0 : Nat) (v2 : Int32) (v3 : Int32) (t0 : Nat) (s1 : Int32) (s2 : Int32) (o1 o4 o5 : Option aV) (M : aM) (h : w_Mo_readTest_J179 post k0 v2 v3 t0 s1 s2 M) : Gd d w 168 (pV post) (179, [some (aR 21 k0), o1, some (aI v2), some (aI v3), o4, o5], [aI s2, aI s1, aR 4 t0], M) := by
  unfold w_Mo_readTest_J179 at h
  show Gd d w 168 _ (179, [some (aR 21 k0), o1, some (aI v2), some (aI v3), o4, o5], [aI s2, aI s1, aR 4 t0], M)
  obtain ⟨c0, h⟩ := h
  refine gd_s (P := (vp_in s1 (rK M t0).2) ∧ True ∧ True) (σ1 := (181, [some (aR 21 k0), o1, some (aI v2), some (aI v3), o4, o5], [aR 21 k0], wI M t0 s1.toNatClampNeg s2)) tc_168 rfl 2 (fun u => ⟨_, rfl⟩) ⟨c0, trivial, trivial⟩ ?_
  refine gd_callN (ml := 2) (as := [aR 21 k0]) (rest := []) tc_168 rfl rfl rfl rfl rfl (by omega) (by omega) (Nat.le_of_ble_eq_true rfl) rfl (g_Mo_nextToken (by omega) (by omega) h) (fun r9 M1 h => ?_)
  obtain ⟨rfl, h⟩ := h
  show Gd d w 168 _ (184, [some (aR 21 k0), o1, some (aI v2), some (aI v3), o4, o5], [], M1)
  refine gd_s (P := True ∧ True ∧ True ∧ True ∧ True) (σ1 := (190, [some (aR 21 k0), o1, some (aI v2), some (aI v3), o4, o5], [aI ((2 : Int32)), aI (rI M1 k0 34), aR 21 k0], M1)) tc_168 rfl 4 (fun u => ⟨_, rfl⟩) ⟨trivial, trivial, trivial, trivial, trivial⟩ ?_
  refine gd_br (c := ¬ (rI M1 k0 34) = ((2 : Int32))) (st1 := [aR 21 k0]) tc_168 rfl rfl (fun _ => rfl) ⟨fun hc => ?_, fun hc => ?_⟩
  · have h := h.1 hc
    show Gd d w 168 _ (197, [some (aR 21 k0), o1, some (aI v2), some (aI v3), o4, o5], [aR 21 k0], M1)
    refine gd_s (P := True ∧ True) (σ1 := (198, [some (aR 21 k0), o1, some (aI v2), some (aI v3), o4, o5], [aI ((0 : Int32)), aR 21 k0], M1)) tc_168 rfl 1 (fun u => ⟨_, rfl⟩) ⟨trivial, trivial⟩ ?_
    exact g_Mo_readTest_J198 hd hw k0 v2 v3 k0 ((0 : Int32)) o1 o4 o5 M1 h
  · have h := h.2 hc
    show Gd d w 168 _ (193, [some (aR 21 k0), o1, some (aI v2), some (aI v3), o4, o5], [aR 21 k0], M1)
    refine gd_s (P := True ∧ True ∧ True) (σ1 := (198, [some (aR 21 k0), o1, some (aI v2), some (aI v3), o4, o5], [aI ((1 : Int32)), aR 21 k0], M1)) tc_168 rfl 2 (fun u => ⟨_, rfl⟩) ⟨trivial, trivial, trivial⟩ ?_
    exact g_Mo_readTest_J198 hd hw k0 v2 v3 k0 ((1 : Int32)) o1 o4 o5 M1 h
def w_Mo_readTest_J127 (post : aM → Prop) (k0 : Nat) (v1 : Int32) (v2 : Int32) (v3 : Int32) (v4 : Int32) (v5 : Int32) (t0 : Nat) (s1 : Int32) (M : aM) : Prop := w_Mo_need (fun M1 => (((rI M1 k0 38) = ((-1 : Int32))) → ((v5 = ((0 : Int32))) → ((v4 = ((1 : Int32))) → w_Mo_readTest_J230 post k0 v1 v2 v3 v4 M1) ∧ (¬ (v4 = ((1 : Int32))) → ((¬ v4 = ((2 : Int32))) → ((¬ v4 = ((3 : Int32))) → ((¬ v4 = ((5 : Int32))) → ((¬ v4 = ((0 : Int32))) → w_Mo_readTest_J371 post k0 v1 v2 v3 (k0 + 16) v3 ((10 : Int32)) M1) ∧ (¬ (¬ v4 = ((0 : Int32))) → w_Mo_readTest_J371 post k0 v1 v2 v3 (k0 + 16) v3 ((3 : Int32)) M1)) ∧ (¬ (¬ v4 = ((5 : Int32))) → (vp_in v3 (rK M1 (k0 + 16)).2) ∧ (w_Mo_nextToken (fun M2 => w_Mo_readTest_J395 post k0 v2 M2) k0 (wI M1 (k0 + 16) v3.toNatClampNeg ((11 : Int32)))))) ∧ (¬ (¬ v4 = ((3 : Int32))) → (vp_in v3 (rK M1 (k0 + 16)).2) ∧ (w_Mo_nextToken (fun M3 => w_Mo_isName (fun x4 => w_Mo_need (fun M5 => ((¬ (rI M5 k0 38) = ((-1 : Int32))) → w_Mo_readTest_J303 post k0 v2 v3 (k0 + 18) v3 ((0 : Int32)) M5) ∧ (¬ (¬ (rI M5 k0 38) = ((-1 : Int32))) → w_Mo_attributeHere (fun x6 => w_Mo_readTest_J303 post k0 v2 v3 (k0 + 18) v3 x6 M5) k0 M5)) k0 x4 M3) k0 M3) k0 (wI M1 (k0 + 16) v3.toNatClampNeg ((9 : Int32)))))) ∧ (¬ (¬ v4 = ((2 : Int32))) → w_Mo_readTest_J230 post k0 v1 v2 v3 v4 M1))) ∧ (¬ (v5 = ((0 : Int32))) → w_Mo_is (fun x7 => ((x7 = ((0 : Int32))) → w_Mo_is (fun x8 => ((x8 = ((0 : Int32))) → w_Mo_readTest_J179 post k0 v2 v3 (k0 + 16) v3 ((8 : Int32)) M1) ∧ (¬ (x8 = ((0 : Int32))) → w_Mo_readTest_J179 post k0 v2 v3 (k0 + 16) v3 ((7 : Int32)) M1)) k0 ((61 : Int32)) M1) ∧ (¬ (x7 = ((0 : Int32))) → w_Mo_readTest_J179 post k0 v2 v3 (k0 + 16) v3 ((6 : Int32)) M1)) k0 ((60 : Int32)) M1)) ∧ (¬ ((rI M1 k0 38) = ((-1 : Int32))) → post M1)) t0 s1 M
theorem g_Mo_readTest_J127 {d w : Nat} (hd : 8 ≤ d) (hw : 246 ≤ w) {post : aM → Prop} (k0 : Nat) (v1 : Int32) (v2 : Int32) (v3 : Int32) (v4 : Int32) (v5 : Int32) (t0 : Nat) (s1 : Int32) (M : aM) (h : w_Mo_readTest_J127 post k0 v1 v2 v3 v4 v5 t0 s1 M) : Gd d w 168 (pV post) (127, [some (aR 21 k0), some (aI v1), some (aI v2), some (aI v3), some (aI v4), some (aI v5)], [aI s1, aR 21 t0], M) := by
  unfold w_Mo_readTest_J127 at h
  show Gd d w 168 _ (127, [some (aR 21 k0), some (aI v1), some (aI v2), some (aI v3), some (aI v4), some (aI v5)], [aI s1, aR 21 t0], M)
  refine gd_callN (ml := 2) (as := [aR 21 t0, aI s1]) (rest := []) tc_168 rfl rfl rfl rfl rfl (by omega) (by omega) (Nat.le_of_ble_eq_true rfl) rfl (g_Mo_need (by omega) (by omega) h) (fun r9 M1 h => ?_)
  obtain ⟨rfl, h⟩ := h
  show Gd d w 168 _ (130, [some (aR 21 k0), some (aI v1), some (aI v2), some (aI v3), some (aI v4), some (aI v5)], [], M1)
  refine gd_s (P := True ∧ True ∧ True ∧ True) (σ1 := (135, [some (aR 21 k0), some (aI v1), some (aI v2), some (aI v3), some (aI v4), some (aI v5)], [aI ((-1 : Int32)), aI (rI M1 k0 38)], M1)) tc_168 rfl 3 (fun u => ⟨_, rfl⟩) ⟨trivial, trivial, trivial, trivial⟩ ?_
  refine gd_br (c := (rI M1 k0 38) = ((-1 : Int32))) (st1 := []) tc_168 rfl rfl (fun _ => rfl) ⟨fun hc => ?_, fun hc => ?_⟩
  · have h := h.1 hc
    show Gd d w 168 _ (139, [some (aR 21 k0), some (aI v1), some (aI v2), some (aI v3), some (aI v4), some (aI v5)], [], M1)
    refine gd_s (P := True ∧ True) (σ1 := (141, [some (aR 21 k0), some (aI v1), some (aI v2), some (aI v3), some (aI v4), some (aI v5)], [aI v5], M1)) tc_168 rfl 1 (fun u => ⟨_, rfl⟩) ⟨trivial, trivial⟩ ?_
    refine gd_br (c := v5 = ((0 : Int32))) (st1 := []) tc_168 rfl rfl (fun _ => rfl) ⟨fun hc => ?_, fun hc => ?_⟩
    · have h := h.1 hc
      show Gd d w 168 _ (218, [some (aR 21 k0), some (aI v1), some (aI v2), some (aI v3), some (aI v4), some (aI v5)], [], M1)
      refine gd_s (P := True ∧ True ∧ True) (σ1 := (221, [some (aR 21 k0), some (aI v1), some (aI v2), some (aI v3), some (aI v4), some (aI v5)], [aI ((1 : Int32)), aI v4], M1)) tc_168 rfl 2 (fun u => ⟨_, rfl⟩) ⟨trivial, trivial, trivial⟩ ?_
      refine gd_br (c := v4 = ((1 : Int32))) (st1 := []) tc_168 rfl rfl (fun _ => rfl) ⟨fun hc => ?_, fun hc => ?_⟩
      · have h := h.1 hc
        exact g_Mo_readTest_J230 hd hw k0 v1 v2 v3 v4 (some (aI v5)) M1 h
      · have h := h.2 hc
        show Gd d w 168 _ (224, [some (aR 21 k0), some (aI v1), some (aI v2), some (aI v3), some (aI v4), some (aI v5)], [], M1)
        refine gd_s (P := True ∧ True ∧ True) (σ1 := (227, [some (aR 21 k0), some (aI v1), some (aI v2), some (aI v3), some (aI v4), some (aI v5)], [aI ((2 : Int32)), aI v4], M1)) tc_168 rfl 2 (fun u => ⟨_, rfl⟩) ⟨trivial, trivial, trivial⟩ ?_
        refine gd_br (c := ¬ v4 = ((2 : Int32))) (st1 := []) tc_168 rfl rfl (fun _ => rfl) ⟨fun hc => ?_, fun hc => ?_⟩
        · have h := h.1 hc
          show Gd d w 168 _ (256, [some (aR 21 k0), some (aI v1), some (aI v2), some (aI v3), some (aI v4), some (aI v5)], [], M1)
          refine gd_s (P := True ∧ True ∧ True) (σ1 := (259, [some (aR 21 k0), some (aI v1), some (aI v2), some (aI v3), some (aI v4), some (aI v5)], [aI ((3 : Int32)), aI v4], M1)) tc_168 rfl 2 (fun u => ⟨_, rfl⟩) ⟨trivial, trivial, trivial⟩ ?_
          refine gd_br (c := ¬ v4 = ((3 : Int32))) (st1 := []) tc_168 rfl rfl (fun _ => rfl) ⟨fun hc => ?_, fun hc => ?_⟩
          · have h := h.1 hc
            show Gd d w 168 _ (334, [some (aR 21 k0), some (aI v1), some (aI v2), some (aI v3), some (aI v4), some (aI v5)], [], M1)
            refine gd_s (P := True ∧ True ∧ True) (σ1 := (337, [some (aR 21 k0), some (aI v1), some (aI v2), some (aI v3), some (aI v4), some (aI v5)], [aI ((5 : Int32)), aI v4], M1)) tc_168 rfl 2 (fun u => ⟨_, rfl⟩) ⟨trivial, trivial, trivial⟩ ?_
            refine gd_br (c := ¬ v4 = ((5 : Int32))) (st1 := []) tc_168 rfl rfl (fun _ => rfl) ⟨fun hc => ?_, fun hc => ?_⟩
            · have h := h.1 hc
              show Gd d w 168 _ (355, [some (aR 21 k0), some (aI v1), some (aI v2), some (aI v3), some (aI v4), some (aI v5)], [], M1)
              refine gd_s (P := True ∧ True ∧ True ∧ True ∧ True) (σ1 := (362, [some (aR 21 k0), some (aI v1), some (aI v2), some (aI v3), some (aI v4), some (aI v5)], [aI v4, aI v3, aR 4 (k0 + 16)], M1)) tc_168 rfl 4 (fun u => ⟨_, rfl⟩) ⟨trivial, trivial, trivial, trivial, trivial⟩ ?_
              refine gd_br (c := ¬ v4 = ((0 : Int32))) (st1 := [aI v3, aR 4 (k0 + 16)]) tc_168 rfl rfl (fun _ => rfl) ⟨fun hc => ?_, fun hc => ?_⟩
              · have h := h.1 hc
                show Gd d w 168 _ (369, [some (aR 21 k0), some (aI v1), some (aI v2), some (aI v3), some (aI v4), some (aI v5)], [aI v3, aR 4 (k0 + 16)], M1)
                refine gd_s (P := True ∧ True) (σ1 := (371, [some (aR 21 k0), some (aI v1), some (aI v2), some (aI v3), some (aI v4), some (aI v5)], [aI ((10 : Int32)), aI v3, aR 4 (k0 + 16)], M1)) tc_168 rfl 1 (fun u => ⟨_, rfl⟩) ⟨trivial, trivial⟩ ?_
                exact g_Mo_readTest_J371 hd hw k0 v1 v2 v3 (k0 + 16) v3 ((10 : Int32)) (some (aI v4)) (some (aI v5)) M1 h
              · have h := h.2 hc
                show Gd d w 168 _ (365, [some (aR 21 k0), some (aI v1), some (aI v2), some (aI v3), some (aI v4), some (aI v5)], [aI v3, aR 4 (k0 + 16)], M1)
                refine gd_s (P := True ∧ True ∧ True) (σ1 := (371, [some (aR 21 k0), some (aI v1), some (aI v2), some (aI v3), some (aI v4), some (aI v5)], [aI ((3 : Int32)), aI v3, aR 4 (k0 + 16)], M1)) tc_168 rfl 2 (fun u => ⟨_, rfl⟩) ⟨trivial, trivial, trivial⟩ ?_
                exact g_Mo_readTest_J371 hd hw k0 v1 v2 v3 (k0 + 16) v3 ((3 : Int32)) (some (aI v4)) (some (aI v5)) M1 h
            · have h := h.2 hc
              show Gd d w 168 _ (340, [some (aR 21 k0), some (aI v1), some (aI v2), some (aI v3), some (aI v4), some (aI v5)], [], M1)
              obtain ⟨c0, h⟩ := h
              refine gd_s (P := True ∧ True ∧ True ∧ True ∧ (vp_in v3 (rK M1 (k0 + 16)).2) ∧ True ∧ True) (σ1 := (349, [some (aR 21 k0), some (aI v1), some (aI v2), some (aI v3), some (aI v4), some (aI v5)], [aR 21 k0], wI M1 (k0 + 16) v3.toNatClampNeg ((11 : Int32)))) tc_168 rfl 6 (fun u => ⟨_, rfl⟩) ⟨trivial, trivial, trivial, trivial, c0, trivial, trivial⟩ ?_
              refine gd_callN (ml := 2) (as := [aR 21 k0]) (rest := []) tc_168 rfl rfl rfl rfl rfl (by omega) (by omega) (Nat.le_of_ble_eq_true rfl) rfl (g_Mo_nextToken (by omega) (by omega) h) (fun r9 M2 h => ?_)
              obtain ⟨rfl, h⟩ := h
              show Gd d w 168 _ (352, [some (aR 21 k0), some (aI v1), some (aI v2), some (aI v3), some (aI v4), some (aI v5)], [], M2)
              refine gd_s (P := True ∧ True) (σ1 := (395, [some (aR 21 k0), some (aI v1), some (aI v2), some (aI v3), some (aI v4), some (aI v5)], [], M2)) tc_168 rfl 1 (fun u => ⟨_, rfl⟩) ⟨trivial, trivial⟩ ?_
              exact g_Mo_readTest_J395 hd hw k0 v2 (some (aI v1)) (some (aI v3)) (some (aI v4)) (some (aI v5)) M2 h
          · have h := h.2 hc
            show Gd d w 168 _ (262, [some (aR 21 k0), some (aI v1), some (aI v2), some (aI v3), some (aI v4), some (aI v5)], [], M1)
            obtain ⟨c0, h⟩ := h
            refine gd_s (P := True ∧ True ∧ True ∧ True ∧ (vp_in v3 (rK M1 (k0 + 16)).2) ∧ True ∧ True) (σ1 := (271, [some (aR 21 k0), some (aI v1), some (aI v2), some (aI v3), some (aI v4), some (aI v5)], [aR 21 k0], wI M1 (k0 + 16) v3.toNatClampNeg ((9 : Int32)))) tc_168 rfl 6 (fun u => ⟨_, rfl⟩) ⟨trivial, trivial, trivial, trivial, c0, trivial, trivial⟩ ?_
            refine gd_callN (ml := 2) (as := [aR 21 k0]) (rest := []) tc_168 rfl rfl rfl rfl rfl (by omega) (by omega) (Nat.le_of_ble_eq_true rfl) rfl (g_Mo_nextToken (by omega) (by omega) h) (fun r9 M3 h => ?_)
            obtain ⟨rfl, h⟩ := h
            show Gd d w 168 _ (274, [some (aR 21 k0), some (aI v1), some (aI v2), some (aI v3), some (aI v4), some (aI v5)], [], M3)
            refine gd_s (P := True ∧ True ∧ True) (σ1 := (276, [some (aR 21 k0), some (aI v1), some (aI v2), some (aI v3), some (aI v4), some (aI v5)], [aR 21 k0, aR 21 k0], M3)) tc_168 rfl 2 (fun u => ⟨_, rfl⟩) ⟨trivial, trivial, trivial⟩ ?_
            refine gd_callN (ml := 1) (as := [aR 21 k0]) (rest := [aR 21 k0]) tc_168 rfl rfl rfl rfl rfl (by omega) (by omega) (Nat.le_of_ble_eq_true rfl) rfl (g_Mo_isName (by omega) (by omega) h) (fun r9 M9 h => ?_)
            obtain ⟨x4, rfl, e9, h⟩ := h
            subst M9
            show Gd d w 168 _ (279, [some (aR 21 k0), some (aI v1), some (aI v2), some (aI v3), some (aI v4), some (aI v5)], [aI x4, aR 21 k0], M3)
            refine gd_callN (ml := 2) (as := [aR 21 k0, aI x4]) (rest := []) tc_168 rfl rfl rfl rfl rfl (by omega) (by omega) (Nat.le_of_ble_eq_true rfl) rfl (g_Mo_need (by omega) (by omega) h) (fun r9 M5 h => ?_)
            obtain ⟨rfl, h⟩ := h
            show Gd d w 168 _ (282, [some (aR 21 k0), some (aI v1), some (aI v2), some (aI v3), some (aI v4), some (aI v5)], [], M5)
            refine gd_s (P := True ∧ True ∧ True ∧ True ∧ True ∧ True ∧ True) (σ1 := (292, [some (aR 21 k0), some (aI v1), some (aI v2), some (aI v3), some (aI v4), some (aI v5)], [aI ((-1 : Int32)), aI (rI M5 k0 38), aI v3, aR 4 (k0 + 18)], M5)) tc_168 rfl 6 (fun u => ⟨_, rfl⟩) ⟨trivial, trivial, trivial, trivial, trivial, trivial, trivial⟩ ?_
            refine gd_br (c := ¬ (rI M5 k0 38) = ((-1 : Int32))) (st1 := [aI v3, aR 4 (k0 + 18)]) tc_168 rfl rfl (fun _ => rfl) ⟨fun hc => ?_, fun hc => ?_⟩
            · have h := h.1 hc
              show Gd d w 168 _ (302, [some (aR 21 k0), some (aI v1), some (aI v2), some (aI v3), some (aI v4), some (aI v5)], [aI v3, aR 4 (k0 + 18)], M5)
              refine gd_s (P := True ∧ True) (σ1 := (303, [some (aR 21 k0), some (aI v1), some (aI v2), some (aI v3), some (aI v4), some (aI v5)], [aI ((0 : Int32)), aI v3, aR 4 (k0 + 18)], M5)) tc_168 rfl 1 (fun u => ⟨_, rfl⟩) ⟨trivial, trivial⟩ ?_
              exact g_Mo_readTest_J303 hd hw k0 v2 v3 (k0 + 18) v3 ((0 : Int32)) (some (aI v1)) (some (aI v4)) (some (aI v5)) M5 h
            · have h := h.2 hc
              show Gd d w 168 _ (295, [some (aR 21 k0), some (aI v1), some (aI v2), some (aI v3), some (aI v4), some (aI v5)], [aI v3, aR 4 (k0 + 18)], M5)
              refine gd_s (P := True ∧ True) (σ1 := (296, [some (aR 21 k0), some (aI v1), some (aI v2), some (aI v3), some (aI v4), some (aI v5)], [aR 21 k0, aI v3, aR 4 (k0 + 18)], M5)) tc_168 rfl 1 (fun u => ⟨_, rfl⟩) ⟨trivial, trivial⟩ ?_
              refine gd_callN (ml := 5) (as := [aR 21 k0]) (rest := [aI v3, aR 4 (k0 + 18)]) tc_168 rfl rfl rfl rfl rfl (by omega) (by omega) (Nat.le_of_ble_eq_true rfl) rfl (g_Mo_attributeHere (by omega) (by omega) h) (fun r9 M9 h => ?_)
              obtain ⟨x6, rfl, e9, h⟩ := h
              subst M9
              show Gd d w 168 _ (299, [some (aR 21 k0), some (aI v1), some (aI v2), some (aI v3), some (aI v4), some (aI v5)], [aI x6, aI v3, aR 4 (k0 + 18)], M5)
              refine gd_s (P := True ∧ True) (σ1 := (303, [some (aR 21 k0), some (aI v1), some (aI v2), some (aI v3), some (aI v4), some (aI v5)], [aI x6, aI v3, aR 4 (k0 + 18)], M5)) tc_168 rfl 1 (fun u => ⟨_, rfl⟩) ⟨trivial, trivial⟩ ?_
              exact g_Mo_readTest_J303 hd hw k0 v2 v3 (k0 + 18) v3 x6 (some (aI v1)) (some (aI v4)) (some (aI v5)) M5 h
        · have h := h.2 hc
          exact g_Mo_readTest_J230 hd hw k0 v1 v2 v3 v4 (some (aI v5)) M1 h
    · have h := h.2 hc
      show Gd d w 168 _ (144, [some (aR 21 k0), some (aI v1), some (aI v2), some (aI v3), some (aI v4), some (aI v5)], [], M1)
      refine gd_s (P := True ∧ True ∧ True ∧ True ∧ True ∧ True) (σ1 := (152, [some (aR 21 k0), some (aI v1), some (aI v2), some (aI v3), some (aI v4), some (aI v5)], [aI ((60 : Int32)), aR 21 k0, aI v3, aR 4 (k0 + 16)], M1)) tc_168 rfl 5 (fun u => ⟨_, rfl⟩) ⟨trivial, trivial, trivial, trivial, trivial, trivial⟩ ?_
      refine gd_callN (ml := 2) (as := [aR 21 k0, aI ((60 : Int32))]) (rest := [aI v3, aR 4 (k0 + 16)]) tc_168 rfl rfl rfl rfl rfl (by omega) (by omega) (Nat.le_of_ble_eq_true rfl) rfl (g_Mo_is (by omega) (by omega) h) (fun r9 M9 h => ?_)
      obtain ⟨x7, rfl, e9, h⟩ := h
      subst M9
      show Gd d w 168 _ (155, [some (aR 21 k0), some (aI v1), some (aI v2), some (aI v3), some (aI v4), some (aI v5)], [aI x7, aI v3, aR 4 (k0 + 16)], M1)
      refine gd_br (c := x7 = ((0 : Int32))) (st1 := [aI v3, aR 4 (k0 + 16)]) tc_168 rfl rfl (fun _ => rfl) ⟨fun hc => ?_, fun hc => ?_⟩
      · have h := h.1 hc
        show Gd d w 168 _ (163, [some (aR 21 k0), some (aI v1), some (aI v2), some (aI v3), some (aI v4), some (aI v5)], [aI v3, aR 4 (k0 + 16)], M1)
        refine gd_s (P := True ∧ True ∧ True) (σ1 := (166, [some (aR 21 k0), some (aI v1), some (aI v2), some (aI v3), some (aI v4), some (aI v5)], [aI ((61 : Int32)), aR 21 k0, aI v3, aR 4 (k0 + 16)], M1)) tc_168 rfl 2 (fun u => ⟨_, rfl⟩) ⟨trivial, trivial, trivial⟩ ?_
        refine gd_callN (ml := 2) (as := [aR 21 k0, aI ((61 : Int32))]) (rest := [aI v3, aR 4 (k0 + 16)]) tc_168 rfl rfl rfl rfl rfl (by omega) (by omega) (Nat.le_of_ble_eq_true rfl) rfl (g_Mo_is (by omega) (by omega) h) (fun r9 M9 h => ?_)
        obtain ⟨x8, rfl, e9, h⟩ := h
        subst M9
        show Gd d w 168 _ (169, [some (aR 21 k0), some (aI v1), some (aI v2), some (aI v3), some (aI v4), some (aI v5)], [aI x8, aI v3, aR 4 (k0 + 16)], M1)
        refine gd_br (c := x8 = ((0 : Int32))) (st1 := [aI v3, aR 4 (k0 + 16)]) tc_168 rfl rfl (fun _ => rfl) ⟨fun hc => ?_, fun hc => ?_⟩
        · have h := h.1 hc
          show Gd d w 168 _ (177, [some (aR 21 k0), some (aI v1), some (aI v2), some (aI v3), some (aI v4), some (aI v5)], [aI v3, aR 4 (k0 + 16)], M1)
          refine gd_s (P := True ∧ True) (σ1 := (179, [some (aR 21 k0), some (aI v1), some (aI v2), some (aI v3), some (aI v4), some (aI v5)], [aI ((8 : Int32)), aI v3, aR 4 (k0 + 16)], M1)) tc_168 rfl 1 (fun u => ⟨_, rfl⟩) ⟨trivial, trivial⟩ ?_
          exact g_Mo_readTest_J179 hd hw k0 v2 v3 (k0 + 16) v3 ((8 : Int32)) (some (aI v1)) (some (aI v4)) (some (aI v5)) M1 h
        · have h := h.2 hc
          show Gd d w 168 _ (172, [some (aR 21 k0), some (aI v1), some (aI v2), some (aI v3), some (aI v4), some (aI v5)], [aI v3, aR 4 (k0 + 16)], M1)
          refine gd_s (P := True ∧ True ∧ True) (σ1 := (179, [some (aR 21 k0), some (aI v1), some (aI v2), some (aI v3), some (aI v4), some (aI v5)], [aI ((7 : Int32)), aI v3, aR 4 (k0 + 16)], M1)) tc_168 rfl 2 (fun u => ⟨_, rfl⟩) ⟨trivial, trivial, trivial⟩ ?_
          exact g_Mo_readTest_J179 hd hw k0 v2 v3 (k0 + 16) v3 ((7 : Int32)) (some (aI v1)) (some (aI v4)) (some (aI v5)) M1 h
      · have h := h.2 hc
        show Gd d w 168 _ (158, [some (aR 21 k0), some (aI v1), some (aI v2), some (aI v3), some (aI v4), some (aI v5)], [aI v3, aR 4 (k0 + 16)], M1)
        refine gd_s (P := True ∧ True ∧ True) (σ1 := (179, [some (aR 21 k0), some (aI v1), some (aI v2), some (aI v3), some (aI v4), some (aI v5)], [aI ((6 : Int32)), aI v3, aR 4 (k0 + 16)], M1)) tc_168 rfl 2 (fun u => ⟨_, rfl⟩) ⟨trivial, trivial, trivial⟩ ?_
        exact g_Mo_readTest_J179 hd hw k0 v2 v3 (k0 + 16) v3 ((6 : Int32)) (some (aI v1)) (some (aI v4)) (some (aI v5)) M1 h
  · have h := h.2 hc
    show Gd d w 168 _ (138, [some (aR 21 k0), some (aI v1), some (aI v2), some (aI v3), some (aI v4), some (aI v5)], [], M1)
    exact gd_ret tc_168 rfl rfl trivial (fun _ => rfl) ⟨rfl, h⟩
def w_Mo_readTest_J122 (post : aM → Prop) (k0 : Nat) (v1 : Int32) (v2 : Int32) (v3 : Int32) (v4 : Int32) (v5 : Int32) (t0 : Nat) (M : aM) : Prop := w_Mo_readTest_J127 post k0 v1 v2 v3 v4 v5 t0 ((1 : Int32)) M
theorem g_Mo_readTest_J122 {d w : Nat} (hd : 8 ≤ d) (hw : 246 ≤ w) {post : aM → Prop} (k0 : Nat) (v1 : Int32) (v2 : Int32) (v3 : Int32) (v4 : Int32) (v5 : Int32) (t0 : Nat) (M : aM) (h : w_Mo_readTest_J122 post k0 v1 v2 v3 v4 v5 t0 M) : Gd d w 168 (pV post) (122, [some (aR 21 k0), some (aI v1), some (aI v2), some (aI v3), some (aI v4), some (aI v5)], [aR 21 t0], M) := by
  unfold w_Mo_readTest_J122 at h
  show Gd d w 168 _ (122, [some (aR 21 k0), some (aI v1), some (aI v2), some (aI v3), some (aI v4), some (aI v5)], [aR 21 t0], M)
  refine gd_s (P := True ∧ True ∧ True) (σ1 := (127, [some (aR 21 k0), some (aI v1), some (aI v2), some (aI v3), some (aI v4), some (aI v5)], [aI ((1 : Int32)), aR 21 t0], M)) tc_168 rfl 2 (fun u => ⟨_, rfl⟩) ⟨trivial, trivial, trivial⟩ ?_
  exact g_Mo_readTest_J127 hd hw k0 v1 v2 v3 v4 v5 t0 ((1 : Int32)) M h
def w_Mo_readTest_J108 (post : aM → Prop) (k0 : Nat) (v1 : Int32) (v2 : Int32) (v3 : Int32) (v4 : Int32) (s0 : Int32) (M : aM) : Prop := ((¬ v4 = ((-1 : Int32))) → w_Mo_readTest_J122 post k0 v1 v2 v3 v4 s0 k0 M) ∧ (¬ (¬ v4 = ((-1 : Int32))) → ((s0 = ((0 : Int32))) → w_Mo_readTest_J127 post k0 v1 v2 v3 v4 s0 k0 ((0 : Int32)) M) ∧ (¬ (s0 = ((0 : Int32))) → w_Mo_readTest_J122 post k0 v1 v2 v3 v4 s0 k0 M))
theorem g_Mo_readTest_J108 {d w : Nat} (hd : 8 ≤ d) (hw : 246 ≤ w) {post : aM → Prop} (k0 : Nat) (v1 : Int32) (v2 : Int32) (v3 : Int32) (v4 : Int32) (s0 : Int32) (o5 : Option aV) (M : aM) (h : w_Mo_readTest_J108 post k0 v1 v2 v3 v4 s0 M) : Gd d w 168 (pV post) (108, [some (aR 21 k0), some (aI v1), some (aI v2), some (aI v3), some (aI v4), o5], [aI s0], M) := by
  unfold w_Mo_readTest_J108 at h
  show Gd d w 168 _ (108, [some (aR 21 k0), some (aI v1), some (aI v2), some (aI v3), some (aI v4), o5], [aI s0], M)
  refine gd_s (P := True ∧ True ∧ True ∧ True ∧ True) (σ1 := (114, [some (aR 21 k0), some (aI v1), some (aI v2), some (aI v3), some (aI v4), some (aI s0)], [aI ((-1 : Int32)), aI v4, aR 21 k0], M)) tc_168 rfl 4 (fun u => ⟨_, rfl⟩) ⟨trivial, trivial, trivial, trivial, trivial⟩ ?_
  refine gd_br (c := ¬ v4 = ((-1 : Int32))) (st1 := [aR 21 k0]) tc_168 rfl rfl (fun _ => rfl) ⟨fun hc => ?_, fun hc => ?_⟩
  · have h := h.1 hc
    exact g_Mo_readTest_J122 hd hw k0 v1 v2 v3 v4 s0 k0 M h
  · have h := h.2 hc
    show Gd d w 168 _ (117, [some (aR 21 k0), some (aI v1), some (aI v2), some (aI v3), some (aI v4), some (aI s0)], [aR 21 k0], M)
    refine gd_s (P := True ∧ True) (σ1 := (119, [some (aR 21 k0), some (aI v1), some (aI v2), some (aI v3), some (aI v4), some (aI s0)], [aI s0, aR 21 k0], M)) tc_168 rfl 1 (fun u => ⟨_, rfl⟩) ⟨trivial, trivial⟩ ?_
    refine gd_br (c := s0 = ((0 : Int32))) (st1 := [aR 21 k0]) tc_168 rfl rfl (fun _ => rfl) ⟨fun hc => ?_, fun hc => ?_⟩
    · have h := h.1 hc
      show Gd d w 168 _ (126, [some (aR 21 k0), some (aI v1), some (aI v2), some (aI v3), some (aI v4), some (aI s0)], [aR 21 k0], M)
      refine gd_s (P := True ∧ True) (σ1 := (127, [some (aR 21 k0), some (aI v1), some (aI v2), some (aI v3), some (aI v4), some (aI s0)], [aI ((0 : Int32)), aR 21 k0], M)) tc_168 rfl 1 (fun u => ⟨_, rfl⟩) ⟨trivial, trivial⟩ ?_
      exact g_Mo_readTest_J127 hd hw k0 v1 v2 v3 v4 s0 k0 ((0 : Int32)) M h
    · have h := h.2 hc
      exact g_Mo_readTest_J122 hd hw k0 v1 v2 v3 v4 s0 k0 M h
def w_Mo_readTest_J107 (post : aM → Prop) (k0 : Nat) (v1 : Int32) (v2 : Int32) (v3 : Int32) (v4 : Int32) (M : aM) : Prop := w_Mo_readTest_J108 post k0 v1 v2 v3 v4 ((0 : Int32)) M
theorem g_Mo_readTest_J107 {d w : Nat} (hd : 8 ≤ d) (hw : 246 ≤ w) {post : aM → Prop} (k0 : Nat) (v1 : Int32) (v2 : Int32) (v3 : Int32) (v4 : Int32) (o5 : Option aV) (M : aM) (h : w_Mo_readTest_J107 post k0 v1 v2 v3 v4 M) : Gd d w 168 (pV post) (107, [some (aR 21 k0), some (aI v1), some (aI v2), some (aI v3), some (aI v4), o5], [], M) := by
  unfold w_Mo_readTest_J107 at h
  show Gd d w 168 _ (107, [some (aR 21 k0), some (aI v1), some (aI v2), some (aI v3), some (aI v4), o5], [], M)
  refine gd_s (P := True ∧ True) (σ1 := (108, [some (aR 21 k0), some (aI v1), some (aI v2), some (aI v3), some (aI v4), o5], [aI ((0 : Int32))], M)) tc_168 rfl 1 (fun u => ⟨_, rfl⟩) ⟨trivial, trivial⟩ ?_
  exact g_Mo_readTest_J108 hd hw k0 v1 v2 v3 v4 ((0 : Int32)) o5 M h
def w_Mo_readTest_J103 (post : aM → Prop) (k0 : Nat) (v1 : Int32) (v2 : Int32) (v3 : Int32) (v4 : Int32) (M : aM) : Prop := w_Mo_readTest_J108 post k0 v1 v2 v3 v4 ((1 : Int32)) M
theorem g_Mo_readTest_J103 {d w : Nat} (hd : 8 ≤ d) (hw : 246 ≤ w) {post : aM → Prop} (k0 : Nat) (v1 : Int32) (v2 : Int32) (v3 : Int32) (v4 : Int32) (o5 : Option aV) (M : aM) (h : w_Mo_readTest_J103 post k0 v1 v2 v3 v4 M) : Gd d w 168 (pV post) (103, [some (aR 21 k0), some (aI v1), some (aI v2), some (aI v3), some (aI v4), o5], [], M) := by
  unfold w_Mo_readTest_J103 at h
  show Gd d w 168 _ (103, [some (aR 21 k0), some (aI v1), some (aI v2), some (aI v3), some (aI v4), o5], [], M)
  refine gd_s (P := True ∧ True ∧ True) (σ1 := (108, [some (aR 21 k0), some (aI v1), some (aI v2), some (aI v3), some (aI v4), o5], [aI ((1 : Int32))], M)) tc_168 rfl 2 (fun u => ⟨_, rfl⟩) ⟨trivial, trivial, trivial⟩ ?_
  exact g_Mo_readTest_J108 hd hw k0 v1 v2 v3 v4 ((1 : Int32)) o5 M h
def w_Mo_readTest_J66 (post : aM → Prop) (k0 : Nat) (v1 : Int32) (v2 : Int32) (v3 : Int32) (s0 : Int32) (M : aM) : Prop := ((¬ (rI M k0 38) = ((-1 : Int32))) → w_Mo_readTest_J107 post k0 v1 v2 v3 s0 M) ∧ (¬ (¬ (rI M k0 38) = ((-1 : Int32))) → w_Mo_is (fun x1 => ((¬ x1 = ((0 : Int32))) → w_Mo_readTest_J103 post k0 v1 v2 v3 s0 M) ∧ (¬ (¬ x1 = ((0 : Int32))) → w_Mo_is (fun x2 => ((¬ x2 = ((0 : Int32))) → w_Mo_readTest_J103 post k0 v1 v2 v3 s0 M) ∧ (¬ (¬ x2 = ((0 : Int32))) → w_Mo_is (fun x3 => ((x3 = ((0 : Int32))) → w_Mo_readTest_J107 post k0 v1 v2 v3 s0 M) ∧ (¬ (x3 = ((0 : Int32))) → w_Mo_readTest_J103 post k0 v1 v2 v3 s0 M)) k0 ((62 : Int32)) M)) k0 ((61 : Int32)) M)) k0 ((60 : Int32)) M)
theorem g_Mo_readTest_J66 {d w : Nat} (hd : 8 ≤ d) (hw : 246 ≤ w) {post : aM → Prop} (k0 : Nat) (v1 : Int32) (v2 : Int32) (v3 : Int32) (s0 : Int32) (o4 o5 : Option aV) (M : aM) (h : w_Mo_readTest_J66 post k0 v1 v2 v3 s0 M) : Gd d w 168 (pV post) (66, [some (aR 21 k0), some (aI v1), some (aI v2), some (aI v3), o4, o5], [aI s0], M) := by
  unfold w_Mo_readTest_J66 at h
  show Gd d w 168 _ (66, [some (aR 21 k0), some (aI v1), some (aI v2), some (aI v3), o4, o5], [aI s0], M)
  refine gd_s (P := True ∧ True ∧ True ∧ True ∧ True) (σ1 := (73, [some (aR 21 k0), some (aI v1), some (aI v2), some (aI v3), some (aI s0), o5], [aI ((-1 : Int32)), aI (rI M k0 38)], M)) tc_168 rfl 4 (fun u => ⟨_, rfl⟩) ⟨trivial, trivial, trivial, trivial, trivial⟩ ?_
  refine gd_br (c := ¬ (rI M k0 38) = ((-1 : Int32))) (st1 := []) tc_168 rfl rfl (fun _ => rfl) ⟨fun hc => ?_, fun hc => ?_⟩
  · have h := h.1 hc
    exact g_Mo_readTest_J107 hd hw k0 v1 v2 v3 s0 o5 M h
  · have h := h.2 hc
    show Gd d w 168 _ (76, [some (aR 21 k0), some (aI v1), some (aI v2), some (aI v3), some (aI s0), o5], [], M)
    refine gd_s (P := True ∧ True ∧ True) (σ1 := (79, [some (aR 21 k0), some (aI v1), some (aI v2), some (aI v3), some (aI s0), o5], [aI ((60 : Int32)), aR 21 k0], M)) tc_168 rfl 2 (fun u => ⟨_, rfl⟩) ⟨trivial, trivial, trivial⟩ ?_
    refine gd_callN (ml := 2) (as := [aR 21 k0, aI ((60 : Int32))]) (rest := []) tc_168 rfl rfl rfl rfl rfl (by omega) (by omega) (Nat.le_of_ble_eq_true rfl) rfl (g_Mo_is (by omega) (by omega) h) (fun r9 M9 h => ?_)
    obtain ⟨x1, rfl, e9, h⟩ := h
    subst M9
    show Gd d w 168 _ (82, [some (aR 21 k0), some (aI v1), some (aI v2), some (aI v3), some (aI s0), o5], [aI x1], M)
    refine gd_br (c := ¬ x1 = ((0 : Int32))) (st1 := []) tc_168 rfl rfl (fun _ => rfl) ⟨fun hc => ?_, fun hc => ?_⟩
    · have h := h.1 hc
      exact g_Mo_readTest_J103 hd hw k0 v1 v2 v3 s0 o5 M h
    · have h := h.2 hc
      show Gd d w 168 _ (85, [some (aR 21 k0), some (aI v1), some (aI v2), some (aI v3), some (aI s0), o5], [], M)
      refine gd_s (P := True ∧ True ∧ True) (σ1 := (88, [some (aR 21 k0), some (aI v1), some (aI v2), some (aI v3), some (aI s0), o5], [aI ((61 : Int32)), aR 21 k0], M)) tc_168 rfl 2 (fun u => ⟨_, rfl⟩) ⟨trivial, trivial, trivial⟩ ?_
      refine gd_callN (ml := 2) (as := [aR 21 k0, aI ((61 : Int32))]) (rest := []) tc_168 rfl rfl rfl rfl rfl (by omega) (by omega) (Nat.le_of_ble_eq_true rfl) rfl (g_Mo_is (by omega) (by omega) h) (fun r9 M9 h => ?_)
      obtain ⟨x2, rfl, e9, h⟩ := h
      subst M9
      show Gd d w 168 _ (91, [some (aR 21 k0), some (aI v1), some (aI v2), some (aI v3), some (aI s0), o5], [aI x2], M)
      refine gd_br (c := ¬ x2 = ((0 : Int32))) (st1 := []) tc_168 rfl rfl (fun _ => rfl) ⟨fun hc => ?_, fun hc => ?_⟩
      · have h := h.1 hc
        exact g_Mo_readTest_J103 hd hw k0 v1 v2 v3 s0 o5 M h
      · have h := h.2 hc
        show Gd d w 168 _ (94, [some (aR 21 k0), some (aI v1), some (aI v2), some (aI v3), some (aI s0), o5], [], M)
        refine gd_s (P := True ∧ True ∧ True) (σ1 := (97, [some (aR 21 k0), some (aI v1), some (aI v2), some (aI v3), some (aI s0), o5], [aI ((62 : Int32)), aR 21 k0], M)) tc_168 rfl 2 (fun u => ⟨_, rfl⟩) ⟨trivial, trivial, trivial⟩ ?_
        refine gd_callN (ml := 2) (as := [aR 21 k0, aI ((62 : Int32))]) (rest := []) tc_168 rfl rfl rfl rfl rfl (by omega) (by omega) (Nat.le_of_ble_eq_true rfl) rfl (g_Mo_is (by omega) (by omega) h) (fun r9 M9 h => ?_)
        obtain ⟨x3, rfl, e9, h⟩ := h
        subst M9
        show Gd d w 168 _ (100, [some (aR 21 k0), some (aI v1), some (aI v2), some (aI v3), some (aI s0), o5], [aI x3], M)
        refine gd_br (c := x3 = ((0 : Int32))) (st1 := []) tc_168 rfl rfl (fun _ => rfl) ⟨fun hc => ?_, fun hc => ?_⟩
        · have h := h.1 hc
          exact g_Mo_readTest_J107 hd hw k0 v1 v2 v3 s0 o5 M h
        · have h := h.2 hc
          exact g_Mo_readTest_J103 hd hw k0 v1 v2 v3 s0 o5 M h
def w_Mo_readTest_J15 (post : aM → Prop) (k0 : Nat) (v1 : Int32) (M : aM) : Prop := w_Mo_newPart (fun x1 M1 => (((rI M1 k0 38) = ((-1 : Int32))) → (vp_in (((800 : Int32)) + x1) (rK M1 (k0 + 17)).2) ∧ (w_Mo_nextToken (fun M2 => ((¬ (rI M2 k0 38) = ((-1 : Int32))) → w_Mo_readTest_J66 post k0 v1 x1 (((800 : Int32)) + x1) ((-1 : Int32)) M2) ∧ (¬ (¬ (rI M2 k0 38) = ((-1 : Int32))) → w_Mo_among (fun x3 => w_Mo_readTest_J66 post k0 v1 x1 (((800 : Int32)) + x1) x3 M2) k0 2 M2)) k0 (wI M1 (k0 + 17) (((800 : Int32)) + x1).toNatClampNeg v1))) ∧ (¬ ((rI M1 k0 38) = ((-1 : Int32))) → post M1)) k0 ((3 : Int32)) M
theorem g_Mo_readTest_J15 {d w : Nat} (hd : 8 ≤ d) (hw : 246 ≤ w) {post : aM → Prop} (k0 : Nat) (v1 : Int32) (o2 o3 o4 o5 : Option aV) (M : aM) (h : w_Mo_readTest_J15 post k0 v1 M) : Gd d w 168 (pV post) (15, [some (aR 21 k0), some (aI v1), o2, o3, o4, o5], [], M) := by
  unfold w_Mo_readTest_J15 at h
  show Gd d w 168 _ (15, [some (aR 21 k0), some (aI v1), o2, o3, o4, o5], [], M)
  refine gd_s (P := True ∧ True ∧ True) (σ1 := (17, [some (aR 21 k0), some (aI v1), o2, o3, o4, o5], [aI ((3 : Int32)), aR 21 k0], M)) tc_168 rfl 2 (fun u => ⟨_, rfl⟩) ⟨trivial, trivial, trivial⟩ ?_
  refine gd_callN (ml := 3) (as := [aR 21 k0, aI ((3 : Int32))]) (rest := []) tc_168 rfl rfl rfl rfl rfl (by omega) (by omega) (Nat.le_of_ble_eq_true rfl) rfl (g_Mo_newPart (by omega) (by omega) h) (fun r9 M1 h => ?_)
  obtain ⟨x1, rfl, h⟩ := h
  show Gd d w 168 _ (20, [some (aR 21 k0), some (aI v1), o2, o3, o4, o5], [aI x1], M1)
  refine gd_s (P := True ∧ True ∧ True ∧ True ∧ True) (σ1 := (26, [some (aR 21 k0), some (aI v1), some (aI x1), o3, o4, o5], [aI ((-1 : Int32)), aI (rI M1 k0 38)], M1)) tc_168 rfl 4 (fun u => ⟨_, rfl⟩) ⟨trivial, trivial, trivial, trivial, trivial⟩ ?_
  refine gd_br (c := (rI M1 k0 38) = ((-1 : Int32))) (st1 := []) tc_168 rfl rfl (fun _ => rfl) ⟨fun hc => ?_, fun hc => ?_⟩
  · have h := h.1 hc
    show Gd d w 168 _ (30, [some (aR 21 k0), some (aI v1), some (aI x1), o3, o4, o5], [], M1)
    obtain ⟨c0, h⟩ := h
    refine gd_s (P := True ∧ True ∧ True ∧ True ∧ True ∧ True ∧ True ∧ True ∧ (vp_in (((800 : Int32)) + x1) (rK M1 (k0 + 17)).2) ∧ True ∧ True) (σ1 := (44, [some (aR 21 k0), some (aI v1), some (aI x1), some (aI (((800 : Int32)) + x1)), o4, o5], [aR 21 k0], wI M1 (k0 + 17) (((800 : Int32)) + x1).toNatClampNeg v1)) tc_168 rfl 10 (fun u => ⟨_, rfl⟩) ⟨trivial, trivial, trivial, trivial, trivial, trivial, trivial, trivial, c0, trivial, trivial⟩ ?_
    refine gd_callN (ml := 2) (as := [aR 21 k0]) (rest := []) tc_168 rfl rfl rfl rfl rfl (by omega) (by omega) (Nat.le_of_ble_eq_true rfl) rfl (g_Mo_nextToken (by omega) (by omega) h) (fun r9 M2 h => ?_)
    obtain ⟨rfl, h⟩ := h
    show Gd d w 168 _ (47, [some (aR 21 k0), some (aI v1), some (aI x1), some (aI (((800 : Int32)) + x1)), o4, o5], [], M2)
    refine gd_s (P := True ∧ True ∧ True ∧ True) (σ1 := (52, [some (aR 21 k0), some (aI v1), some (aI x1), some (aI (((800 : Int32)) + x1)), o4, o5], [aI ((-1 : Int32)), aI (rI M2 k0 38)], M2)) tc_168 rfl 3 (fun u => ⟨_, rfl⟩) ⟨trivial, trivial, trivial, trivial⟩ ?_
    refine gd_br (c := ¬ (rI M2 k0 38) = ((-1 : Int32))) (st1 := []) tc_168 rfl rfl (fun _ => rfl) ⟨fun hc => ?_, fun hc => ?_⟩
    · have h := h.1 hc
      show Gd d w 168 _ (65, [some (aR 21 k0), some (aI v1), some (aI x1), some (aI (((800 : Int32)) + x1)), o4, o5], [], M2)
      refine gd_s (P := True ∧ True) (σ1 := (66, [some (aR 21 k0), some (aI v1), some (aI x1), some (aI (((800 : Int32)) + x1)), o4, o5], [aI ((-1 : Int32))], M2)) tc_168 rfl 1 (fun u => ⟨_, rfl⟩) ⟨trivial, trivial⟩ ?_
      exact g_Mo_readTest_J66 hd hw k0 v1 x1 (((800 : Int32)) + x1) ((-1 : Int32)) o4 o5 M2 h
    · have h := h.2 hc
      show Gd d w 168 _ (55, [some (aR 21 k0), some (aI v1), some (aI x1), some (aI (((800 : Int32)) + x1)), o4, o5], [], M2)
      refine gd_s (P := True ∧ True ∧ True) (σ1 := (59, [some (aR 21 k0), some (aI v1), some (aI x1), some (aI (((800 : Int32)) + x1)), o4, o5], [aR 1 2, aR 21 k0], M2)) tc_168 rfl 2 (fun u => ⟨_, rfl⟩) ⟨trivial, trivial, trivial⟩ ?_
      refine gd_callN (ml := 7) (as := [aR 21 k0, aR 1 2]) (rest := []) tc_168 rfl rfl rfl rfl rfl (by omega) (by omega) (Nat.le_of_ble_eq_true rfl) rfl (g_Mo_among (by omega) (by omega) h) (fun r9 M9 h => ?_)
      obtain ⟨x3, rfl, e9, h⟩ := h
      subst M9
      show Gd d w 168 _ (62, [some (aR 21 k0), some (aI v1), some (aI x1), some (aI (((800 : Int32)) + x1)), o4, o5], [aI x3], M2)
      refine gd_s (P := True ∧ True) (σ1 := (66, [some (aR 21 k0), some (aI v1), some (aI x1), some (aI (((800 : Int32)) + x1)), o4, o5], [aI x3], M2)) tc_168 rfl 1 (fun u => ⟨_, rfl⟩) ⟨trivial, trivial⟩ ?_
      exact g_Mo_readTest_J66 hd hw k0 v1 x1 (((800 : Int32)) + x1) x3 o4 o5 M2 h
  · have h := h.2 hc
    show Gd d w 168 _ (29, [some (aR 21 k0), some (aI v1), some (aI x1), o3, o4, o5], [], M1)
    exact gd_ret tc_168 rfl rfl trivial (fun _ => rfl) ⟨rfl, h⟩
/-- PolicyJudgeModel.readTest()V -/
def w_Mo_readTest (post : aM → Prop) (k0 : Nat) (M : aM) : Prop := w_Mo_attributeHere (fun x1 => ((¬ x1 = ((-1 : Int32))) → w_Mo_readTest_J15 post k0 x1 M) ∧ (¬ (¬ x1 = ((-1 : Int32))) → w_Mo_bad (fun M2 => w_Mo_readTest_J15 post k0 x1 M2) k0 ((3 : Int32)) M)) k0 M
theorem g_Mo_readTest {d w : Nat} (hd : 8 ≤ d) (hw : 246 ≤ w) {post : aM → Prop} {k0 : Nat} {M : aM} (h : w_Mo_readTest post k0 M) : Gd d w 168 (pV post) (0, aEnt 168 [aR 21 k0], [], M) := by
  unfold w_Mo_readTest at h
  show Gd d w 168 _ (0, [some (aR 21 k0), none, none, none, none, none], [], M)
  refine gd_s (P := True ∧ True) (σ1 := (1, [some (aR 21 k0), none, none, none, none, none], [aR 21 k0], M)) tc_168 rfl 1 (fun u => ⟨_, rfl⟩) ⟨trivial, trivial⟩ ?_
  refine gd_callN (ml := 5) (as := [aR 21 k0]) (rest := []) tc_168 rfl rfl rfl rfl rfl (by omega) (by omega) (Nat.le_of_ble_eq_true rfl) rfl (g_Mo_attributeHere (by omega) (by omega) h) (fun r9 M9 h => ?_)
  obtain ⟨x1, rfl, e9, h⟩ := h
  subst M9
  show Gd d w 168 _ (4, [some (aR 21 k0), none, none, none, none, none], [aI x1], M)
  refine gd_s (P := True ∧ True ∧ True ∧ True) (σ1 := (7, [some (aR 21 k0), some (aI x1), none, none, none, none], [aI ((-1 : Int32)), aI x1], M)) tc_168 rfl 3 (fun u => ⟨_, rfl⟩) ⟨trivial, trivial, trivial, trivial⟩ ?_
  refine gd_br (c := ¬ x1 = ((-1 : Int32))) (st1 := []) tc_168 rfl rfl (fun _ => rfl) ⟨fun hc => ?_, fun hc => ?_⟩
  · have h := h.1 hc
    exact g_Mo_readTest_J15 hd hw k0 x1 none none none none M h
  · have h := h.2 hc
    show Gd d w 168 _ (10, [some (aR 21 k0), some (aI x1), none, none, none, none], [], M)
    refine gd_s (P := True ∧ True ∧ True) (σ1 := (12, [some (aR 21 k0), some (aI x1), none, none, none, none], [aI ((3 : Int32)), aR 21 k0], M)) tc_168 rfl 2 (fun u => ⟨_, rfl⟩) ⟨trivial, trivial, trivial⟩ ?_
    refine gd_callN (ml := 2) (as := [aR 21 k0, aI ((3 : Int32))]) (rest := []) tc_168 rfl rfl rfl rfl rfl (by omega) (by omega) (Nat.le_of_ble_eq_true rfl) rfl (g_Mo_bad (by omega) (by omega) h) (fun r9 M2 h => ?_)
    obtain ⟨rfl, h⟩ := h
    exact g_Mo_readTest_J15 hd hw k0 x1 none none none none M2 h
theorem tc_162 : tC 162 = c162 := rfl
def w_Mo_readPart_J109 (post : Int32 → aM → Prop) (k0 : Nat) (M : aM) : Prop := w_Mo_nextToken (fun M1 => (((0 : Int32)) = 0 ∨ ((0 : Int32)) = 1) ∧ post ((0 : Int32)) M1) k0 M
theorem g_Mo_readPart_J109 {d w : Nat} (hd : 9 ≤ d) (hw : 271 ≤ w) {post : Int32 → aM → Prop} (k0 : Nat) (o1 o2 : Option aV) (M : aM) (h : w_Mo_readPart_J109 post k0 M) : Gd d w 162 (pI post) (109, [some (aR 21 k0), o1, o2], [], M) := by
  unfold w_Mo_readPart_J109 at h
  show Gd d w 162 _ (109, [some (aR 21 k0), o1, o2], [], M)
  refine gd_s (P := True ∧ True) (σ1 := (110, [some (aR 21 k0), o1, o2], [aR 21 k0], M)) tc_162 rfl 1 (fun u => ⟨_, rfl⟩) ⟨trivial, trivial⟩ ?_
  refine gd_callN (ml := 2) (as := [aR 21 k0]) (rest := []) tc_162 rfl rfl rfl rfl rfl (by omega) (by omega) (Nat.le_of_ble_eq_true rfl) rfl (g_Mo_nextToken (by omega) (by omega) h) (fun r9 M1 h => ?_)
  obtain ⟨rfl, h⟩ := h
  show Gd d w 162 _ (113, [some (aR 21 k0), o1, o2], [], M1)
  refine gd_s (P := True ∧ True) (σ1 := (114, [some (aR 21 k0), o1, o2], [aI ((0 : Int32))], M1)) tc_162 rfl 1 (fun u => ⟨_, rfl⟩) ⟨trivial, trivial⟩ ?_
  exact gd_ret tc_162 rfl rfl h.1 (fun _ => rfl) ⟨_, rfl, h.2⟩
def w_Mo_readPart_J66 (post : Int32 → aM → Prop) (k0 : Nat) (M : aM) : Prop := w_Mo_nextToken (fun M1 => (((1 : Int32)) = 0 ∨ ((1 : Int32)) = 1) ∧ post ((1 : Int32)) M1) k0 M
theorem g_Mo_readPart_J66 {d w : Nat} (hd : 9 ≤ d) (hw : 271 ≤ w) {post : Int32 → aM → Prop} (k0 : Nat) (o1 o2 : Option aV) (M : aM) (h : w_Mo_readPart_J66 post k0 M) : Gd d w 162 (pI post) (66, [some (aR 21 k0), o1, o2], [], M) := by
  unfold w_Mo_readPart_J66 at h
  show Gd d w 162 _ (66, [some (aR 21 k0), o1, o2], [], M)
  refine gd_s (P := True ∧ True) (σ1 := (67, [some (aR 21 k0), o1, o2], [aR 21 k0], M)) tc_162 rfl 1 (fun u => ⟨_, rfl⟩) ⟨trivial, trivial⟩ ?_
  refine gd_callN (ml := 2) (as := [aR 21 k0]) (rest := []) tc_162 rfl rfl rfl rfl rfl (by omega) (by omega) (Nat.le_of_ble_eq_true rfl) rfl (g_Mo_nextToken (by omega) (by omega) h) (fun r9 M1 h => ?_)
  obtain ⟨rfl, h⟩ := h
  show Gd d w 162 _ (70, [some (aR 21 k0), o1, o2], [], M1)
  refine gd_s (P := True ∧ True) (σ1 := (71, [some (aR 21 k0), o1, o2], [aI ((1 : Int32))], M1)) tc_162 rfl 1 (fun u => ⟨_, rfl⟩) ⟨trivial, trivial⟩ ?_
  exact gd_ret tc_162 rfl rfl h.1 (fun _ => rfl) ⟨_, rfl, h.2⟩
def w_Mo_readPart_J34 (post : Int32 → aM → Prop) (k0 : Nat) (M : aM) : Prop := w_Mo_nextToken (fun M1 => (((1 : Int32)) = 0 ∨ ((1 : Int32)) = 1) ∧ post ((1 : Int32)) M1) k0 M
theorem g_Mo_readPart_J34 {d w : Nat} (hd : 9 ≤ d) (hw : 271 ≤ w) {post : Int32 → aM → Prop} (k0 : Nat) (o1 o2 : Option aV) (M : aM) (h : w_Mo_readPart_J34 post k0 M) : Gd d w 162 (pI post) (34, [some (aR 21 k0), o1, o2], [], M) := by
  unfold w_Mo_readPart_J34 at h
  show Gd d w 162 _ (34, [some (aR 21 k0), o1, o2], [], M)
  refine gd_s (P := True ∧ True) (σ1 := (35, [some (aR 21 k0), o1, o2], [aR 21 k0], M)) tc_162 rfl 1 (fun u => ⟨_, rfl⟩) ⟨trivial, trivial⟩ ?_
  refine gd_callN (ml := 2) (as := [aR 21 k0]) (rest := []) tc_162 rfl rfl rfl rfl rfl (by omega) (by omega) (Nat.le_of_ble_eq_true rfl) rfl (g_Mo_nextToken (by omega) (by omega) h) (fun r9 M1 h => ?_)
  obtain ⟨rfl, h⟩ := h
  show Gd d w 162 _ (38, [some (aR 21 k0), o1, o2], [], M1)
  refine gd_s (P := True ∧ True) (σ1 := (39, [some (aR 21 k0), o1, o2], [aI ((1 : Int32))], M1)) tc_162 rfl 1 (fun u => ⟨_, rfl⟩) ⟨trivial, trivial⟩ ?_
  exact gd_ret tc_162 rfl rfl h.1 (fun _ => rfl) ⟨_, rfl, h.2⟩
/-- PolicyJudgeModel.readPart()Z -/
def w_Mo_readPart (post : Int32 → aM → Prop) (k0 : Nat) (M : aM) : Prop := w_Mo_isWord (fun x1 => ((x1 = ((0 : Int32))) → w_Mo_is (fun x2 => ((x2 = ((0 : Int32))) → w_Mo_among (fun x3 => ((x3 = ((-1 : Int32))) → w_Mo_isName (fun x4 => w_Mo_need (fun M5 => ((¬ (rI M5 k0 38) = ((-1 : Int32))) → (((0 : Int32)) = 0 ∨ ((0 : Int32)) = 1) ∧ post ((0 : Int32)) M5) ∧ (¬ (¬ (rI M5 k0 38) = ((-1 : Int32))) → w_Mo_readTest (fun M6 => (((0 : Int32)) = 0 ∨ ((0 : Int32)) = 1) ∧ post ((0 : Int32)) M6) k0 M5)) k0 x4 M) k0 M) ∧ (¬ (x3 = ((-1 : Int32))) → w_Mo_newPart (fun x7 M7 => ((¬ (rI M7 k0 38) = ((-1 : Int32))) → w_Mo_readPart_J109 post k0 M7) ∧ (¬ (¬ (rI M7 k0 38) = ((-1 : Int32))) → w_Mo_complete (fun M8 => w_Mo_give (fun M9 => w_Mo_readPart_J109 post k0 M9) k0 x7 M8) k0 x7 M7)) k0 x3 M)) k0 22 M) ∧ (¬ (x2 = ((0 : Int32))) → w_Mo_open (fun M10 => ((¬ (rI M10 k0 38) = ((-1 : Int32))) → w_Mo_readPart_J66 post k0 M10) ∧ (¬ (¬ (rI M10 k0 38) = ((-1 : Int32))) → w_Mo_pile (fun M11 => w_Mo_readPart_J66 post k0 M11) k0 ((-1 : Int32)) M10)) k0 M)) k0 ((40 : Int32)) M) ∧ (¬ (x1 = ((0 : Int32))) → w_Mo_open (fun M12 => w_Mo_newPart (fun x13 M13 => ((¬ (rI M13 k0 38) = ((-1 : Int32))) → w_Mo_readPart_J34 post k0 M13) ∧ (¬ (¬ (rI M13 k0 38) = ((-1 : Int32))) → w_Mo_pile (fun M14 => w_Mo_readPart_J34 post k0 M14) k0 x13 M13)) k0 ((12 : Int32)) M12) k0 M)) k0 21 M
theorem g_Mo_readPart {d w : Nat} (hd : 9 ≤ d) (hw : 271 ≤ w) {post : Int32 → aM → Prop} {k0 : Nat} {M : aM} (h : w_Mo_readPart post k0 M) : Gd d w 162 (pI post) (0, aEnt 162 [aR 21 k0], [], M) := by
  unfold w_Mo_readPart at h
  show Gd d w 162 _ (0, [some (aR 21 k0), none, none], [], M)
  refine gd_s (P := True ∧ True ∧ True) (σ1 := (4, [some (aR 21 k0), none, none], [aR 1 21, aR 21 k0], M)) tc_162 rfl 2 (fun u => ⟨_, rfl⟩) ⟨trivial, trivial, trivial⟩ ?_
  refine gd_callN (ml := 4) (as := [aR 21 k0, aR 1 21]) (rest := []) tc_162 rfl rfl rfl rfl rfl (by omega) (by omega) (Nat.le_of_ble_eq_true rfl) rfl (g_Mo_isWord (by omega) (by omega) h) (fun r9 M9 h => ?_)
  obtain ⟨x1, rfl, e9, h⟩ := h
  subst M9
  show Gd d w 162 _ (7, [some (aR 21 k0), none, none], [aI x1], M)
  refine gd_br (c := x1 = ((0 : Int32))) (st1 := []) tc_162 rfl rfl (fun _ => rfl) ⟨fun hc => ?_, fun hc => ?_⟩
  · have h := h.1 hc
    show Gd d w 162 _ (40, [some (aR 21 k0), none, none], [], M)
    refine gd_s (P := True ∧ True ∧ True) (σ1 := (43, [some (aR 21 k0), none, none], [aI ((40 : Int32)), aR 21 k0], M)) tc_162 rfl 2 (fun u => ⟨_, rfl⟩) ⟨trivial, trivial, trivial⟩ ?_
    refine gd_callN (ml := 2) (as := [aR 21 k0, aI ((40 : Int32))]) (rest := []) tc_162 rfl rfl rfl rfl rfl (by omega) (by omega) (Nat.le_of_ble_eq_true rfl) rfl (g_Mo_is (by omega) (by omega) h) (fun r9 M9 h => ?_)
    obtain ⟨x2, rfl, e9, h⟩ := h
    subst M9
    show Gd d w 162 _ (46, [some (aR 21 k0), none, none], [aI x2], M)
    refine gd_br (c := x2 = ((0 : Int32))) (st1 := []) tc_162 rfl rfl (fun _ => rfl) ⟨fun hc => ?_, fun hc => ?_⟩
    · have h := h.1 hc
      show Gd d w 162 _ (72, [some (aR 21 k0), none, none], [], M)
      refine gd_s (P := True ∧ True ∧ True) (σ1 := (76, [some (aR 21 k0), none, none], [aR 1 22, aR 21 k0], M)) tc_162 rfl 2 (fun u => ⟨_, rfl⟩) ⟨trivial, trivial, trivial⟩ ?_
      refine gd_callN (ml := 7) (as := [aR 21 k0, aR 1 22]) (rest := []) tc_162 rfl rfl rfl rfl rfl (by omega) (by omega) (Nat.le_of_ble_eq_true rfl) rfl (g_Mo_among (by omega) (by omega) h) (fun r9 M9 h => ?_)
      obtain ⟨x3, rfl, e9, h⟩ := h
      subst M9
      show Gd d w 162 _ (79, [some (aR 21 k0), none, none], [aI x3], M)
      refine gd_s (P := True ∧ True ∧ True ∧ True) (σ1 := (82, [some (aR 21 k0), some (aI x3), none], [aI ((-1 : Int32)), aI x3], M)) tc_162 rfl 3 (fun u => ⟨_, rfl⟩) ⟨trivial, trivial, trivial, trivial⟩ ?_
      refine gd_br (c := x3 = ((-1 : Int32))) (st1 := []) tc_162 rfl rfl (fun _ => rfl) ⟨fun hc => ?_, fun hc => ?_⟩
      · have h := h.1 hc
        show Gd d w 162 _ (115, [some (aR 21 k0), some (aI x3), none], [], M)
        refine gd_s (P := True ∧ True ∧ True) (σ1 := (117, [some (aR 21 k0), some (aI x3), none], [aR 21 k0, aR 21 k0], M)) tc_162 rfl 2 (fun u => ⟨_, rfl⟩) ⟨trivial, trivial, trivial⟩ ?_
        refine gd_callN (ml := 1) (as := [aR 21 k0]) (rest := [aR 21 k0]) tc_162 rfl rfl rfl rfl rfl (by omega) (by omega) (Nat.le_of_ble_eq_true rfl) rfl (g_Mo_isName (by omega) (by omega) h) (fun r9 M9 h => ?_)
        obtain ⟨x4, rfl, e9, h⟩ := h
        subst M9
        show Gd d w 162 _ (120, [some (aR 21 k0), some (aI x3), none], [aI x4, aR 21 k0], M)
        refine gd_callN (ml := 2) (as := [aR 21 k0, aI x4]) (rest := []) tc_162 rfl rfl rfl rfl rfl (by omega) (by omega) (Nat.le_of_ble_eq_true rfl) rfl (g_Mo_need (by omega) (by omega) h) (fun r9 M5 h => ?_)
        obtain ⟨rfl, h⟩ := h
        show Gd d w 162 _ (123, [some (aR 21 k0), some (aI x3), none], [], M5)
        refine gd_s (P := True ∧ True ∧ True ∧ True) (σ1 := (128, [some (aR 21 k0), some (aI x3), none], [aI ((-1 : Int32)), aI (rI M5 k0 38)], M5)) tc_162 rfl 3 (fun u => ⟨_, rfl⟩) ⟨trivial, trivial, trivial, trivial⟩ ?_
        refine gd_br (c := ¬ (rI M5 k0 38) = ((-1 : Int32))) (st1 := []) tc_162 rfl rfl (fun _ => rfl) ⟨fun hc => ?_, fun hc => ?_⟩
        · have h := h.1 hc
          show Gd d w 162 _ (135, [some (aR 21 k0), some (aI x3), none], [], M5)
          refine gd_s (P := True ∧ True) (σ1 := (136, [some (aR 21 k0), some (aI x3), none], [aI ((0 : Int32))], M5)) tc_162 rfl 1 (fun u => ⟨_, rfl⟩) ⟨trivial, trivial⟩ ?_
          exact gd_ret tc_162 rfl rfl h.1 (fun _ => rfl) ⟨_, rfl, h.2⟩
        · have h := h.2 hc
          show Gd d w 162 _ (131, [some (aR 21 k0), some (aI x3), none], [], M5)
          refine gd_s (P := True ∧ True) (σ1 := (132, [some (aR 21 k0), some (aI x3), none], [aR 21 k0], M5)) tc_162 rfl 1 (fun u => ⟨_, rfl⟩) ⟨trivial, trivial⟩ ?_
          refine gd_callN (ml := 6) (as := [aR 21 k0]) (rest := []) tc_162 rfl rfl rfl rfl rfl (by omega) (by omega) (Nat.le_of_ble_eq_true rfl) rfl (g_Mo_readTest (by omega) (by omega) h) (fun r9 M6 h => ?_)
          obtain ⟨rfl, h⟩ := h
          show Gd d w 162 _ (135, [some (aR 21 k0), some (aI x3), none], [], M6)
          refine gd_s (P := True ∧ True) (σ1 := (136, [some (aR 21 k0), some (aI x3), none], [aI ((0 : Int32))], M6)) tc_162 rfl 1 (fun u => ⟨_, rfl⟩) ⟨trivial, trivial⟩ ?_
          exact gd_ret tc_162 rfl rfl h.1 (fun _ => rfl) ⟨_, rfl, h.2⟩
      · have h := h.2 hc
        show Gd d w 162 _ (85, [some (aR 21 k0), some (aI x3), none], [], M)
        refine gd_s (P := True ∧ True ∧ True) (σ1 := (87, [some (aR 21 k0), some (aI x3), none], [aI x3, aR 21 k0], M)) tc_162 rfl 2 (fun u => ⟨_, rfl⟩) ⟨trivial, trivial, trivial⟩ ?_
        refine gd_callN (ml := 3) (as := [aR 21 k0, aI x3]) (rest := []) tc_162 rfl rfl rfl rfl rfl (by omega) (by omega) (Nat.le_of_ble_eq_true rfl) rfl (g_Mo_newPart (by omega) (by omega) h) (fun r9 M7 h => ?_)
        obtain ⟨x7, rfl, h⟩ := h
        show Gd d w 162 _ (90, [some (aR 21 k0), some (aI x3), none], [aI x7], M7)
        refine gd_s (P := True ∧ True ∧ True ∧ True ∧ True) (σ1 := (96, [some (aR 21 k0), some (aI x3), some (aI x7)], [aI ((-1 : Int32)), aI (rI M7 k0 38)], M7)) tc_162 rfl 4 (fun u => ⟨_, rfl⟩) ⟨trivial, trivial, trivial, trivial, trivial⟩ ?_
        refine gd_br (c := ¬ (rI M7 k0 38) = ((-1 : Int32))) (st1 := []) tc_162 rfl rfl (fun _ => rfl) ⟨fun hc => ?_, fun hc => ?_⟩
        · have h := h.1 hc
          exact g_Mo_readPart_J109 hd hw k0 (some (aI x3)) (some (aI x7)) M7 h
        · have h := h.2 hc
          show Gd d w 162 _ (99, [some (aR 21 k0), some (aI x3), some (aI x7)], [], M7)
          refine gd_s (P := True ∧ True ∧ True) (σ1 := (101, [some (aR 21 k0), some (aI x3), some (aI x7)], [aI x7, aR 21 k0], M7)) tc_162 rfl 2 (fun u => ⟨_, rfl⟩) ⟨trivial, trivial, trivial⟩ ?_
          refine gd_callN (ml := 2) (as := [aR 21 k0, aI x7]) (rest := []) tc_162 rfl rfl rfl rfl rfl (by omega) (by omega) (Nat.le_of_ble_eq_true rfl) rfl (g_Mo_complete (by omega) (by omega) h) (fun r9 M8 h => ?_)
          obtain ⟨rfl, h⟩ := h
          show Gd d w 162 _ (104, [some (aR 21 k0), some (aI x3), some (aI x7)], [], M8)
          refine gd_s (P := True ∧ True ∧ True) (σ1 := (106, [some (aR 21 k0), some (aI x3), some (aI x7)], [aI x7, aR 21 k0], M8)) tc_162 rfl 2 (fun u => ⟨_, rfl⟩) ⟨trivial, trivial, trivial⟩ ?_
          refine gd_callN (ml := 4) (as := [aR 21 k0, aI x7]) (rest := []) tc_162 rfl rfl rfl rfl rfl (by omega) (by omega) (Nat.le_of_ble_eq_true rfl) rfl (g_Mo_give (by omega) (by omega) h) (fun r9 M9 h => ?_)
          obtain ⟨rfl, h⟩ := h
          exact g_Mo_readPart_J109 hd hw k0 (some (aI x3)) (some (aI x7)) M9 h
    · have h := h.2 hc
      show Gd d w 162 _ (49, [some (aR 21 k0), none, none], [], M)
      refine gd_s (P := True ∧ True) (σ1 := (50, [some (aR 21 k0), none, none], [aR 21 k0], M)) tc_162 rfl 1 (fun u => ⟨_, rfl⟩) ⟨trivial, trivial⟩ ?_
      refine gd_callN (ml := 1) (as := [aR 21 k0]) (rest := []) tc_162 rfl rfl rfl rfl rfl (by omega) (by omega) (Nat.le_of_ble_eq_true rfl) rfl (g_Mo_open (by omega) (by omega) h) (fun r9 M10 h => ?_)
      obtain ⟨rfl, h⟩ := h
      show Gd d w 162 _ (53, [some (aR 21 k0), none, none], [], M10)
      refine gd_s (P := True ∧ True ∧ True ∧ True) (σ1 := (58, [some (aR 21 k0), none, none], [aI ((-1 : Int32)), aI (rI M10 k0 38)], M10)) tc_162 rfl 3 (fun u => ⟨_, rfl⟩) ⟨trivial, trivial, trivial, trivial⟩ ?_
      refine gd_br (c := ¬ (rI M10 k0 38) = ((-1 : Int32))) (st1 := []) tc_162 rfl rfl (fun _ => rfl) ⟨fun hc => ?_, fun hc => ?_⟩
      · have h := h.1 hc
        exact g_Mo_readPart_J66 hd hw k0 none none M10 h
      · have h := h.2 hc
        show Gd d w 162 _ (61, [some (aR 21 k0), none, none], [], M10)
        refine gd_s (P := True ∧ True ∧ True) (σ1 := (63, [some (aR 21 k0), none, none], [aI ((-1 : Int32)), aR 21 k0], M10)) tc_162 rfl 2 (fun u => ⟨_, rfl⟩) ⟨trivial, trivial, trivial⟩ ?_
        refine gd_callN (ml := 2) (as := [aR 21 k0, aI ((-1 : Int32))]) (rest := []) tc_162 rfl rfl rfl rfl rfl (by omega) (by omega) (Nat.le_of_ble_eq_true rfl) rfl (g_Mo_pile (by omega) (by omega) h) (fun r9 M11 h => ?_)
        obtain ⟨rfl, h⟩ := h
        exact g_Mo_readPart_J66 hd hw k0 none none M11 h
  · have h := h.2 hc
    show Gd d w 162 _ (10, [some (aR 21 k0), none, none], [], M)
    refine gd_s (P := True ∧ True) (σ1 := (11, [some (aR 21 k0), none, none], [aR 21 k0], M)) tc_162 rfl 1 (fun u => ⟨_, rfl⟩) ⟨trivial, trivial⟩ ?_
    refine gd_callN (ml := 1) (as := [aR 21 k0]) (rest := []) tc_162 rfl rfl rfl rfl rfl (by omega) (by omega) (Nat.le_of_ble_eq_true rfl) rfl (g_Mo_open (by omega) (by omega) h) (fun r9 M12 h => ?_)
    obtain ⟨rfl, h⟩ := h
    show Gd d w 162 _ (14, [some (aR 21 k0), none, none], [], M12)
    refine gd_s (P := True ∧ True ∧ True) (σ1 := (17, [some (aR 21 k0), none, none], [aI ((12 : Int32)), aR 21 k0], M12)) tc_162 rfl 2 (fun u => ⟨_, rfl⟩) ⟨trivial, trivial, trivial⟩ ?_
    refine gd_callN (ml := 3) (as := [aR 21 k0, aI ((12 : Int32))]) (rest := []) tc_162 rfl rfl rfl rfl rfl (by omega) (by omega) (Nat.le_of_ble_eq_true rfl) rfl (g_Mo_newPart (by omega) (by omega) h) (fun r9 M13 h => ?_)
    obtain ⟨x13, rfl, h⟩ := h
    show Gd d w 162 _ (20, [some (aR 21 k0), none, none], [aI x13], M13)
    refine gd_s (P := True ∧ True ∧ True ∧ True ∧ True) (σ1 := (26, [some (aR 21 k0), some (aI x13), none], [aI ((-1 : Int32)), aI (rI M13 k0 38)], M13)) tc_162 rfl 4 (fun u => ⟨_, rfl⟩) ⟨trivial, trivial, trivial, trivial, trivial⟩ ?_
    refine gd_br (c := ¬ (rI M13 k0 38) = ((-1 : Int32))) (st1 := []) tc_162 rfl rfl (fun _ => rfl) ⟨fun hc => ?_, fun hc => ?_⟩
    · have h := h.1 hc
      exact g_Mo_readPart_J34 hd hw k0 (some (aI x13)) none M13 h
    · have h := h.2 hc
      show Gd d w 162 _ (29, [some (aR 21 k0), some (aI x13), none], [], M13)
      refine gd_s (P := True ∧ True ∧ True) (σ1 := (31, [some (aR 21 k0), some (aI x13), none], [aI x13, aR 21 k0], M13)) tc_162 rfl 2 (fun u => ⟨_, rfl⟩) ⟨trivial, trivial, trivial⟩ ?_
      refine gd_callN (ml := 2) (as := [aR 21 k0, aI x13]) (rest := []) tc_162 rfl rfl rfl rfl rfl (by omega) (by omega) (Nat.le_of_ble_eq_true rfl) rfl (g_Mo_pile (by omega) (by omega) h) (fun r9 M14 h => ?_)
      obtain ⟨rfl, h⟩ := h
      exact g_Mo_readPart_J34 hd hw k0 (some (aI x13)) none M14 h
theorem tc_171 : tC 171 = c171 := rfl
def w_Mo_endAnd_J36 (post : Int32 → aM → Prop) (k0 : Nat) (v1 : Int32) (v2 : Int32) (M : aM) : Prop := (vp_in v1 (rK M (k0 + 34)).2) ∧ (vp_in v1 (rK M (k0 + 35)).2) ∧ post v2 (wI (wI M (k0 + 34) v1.toNatClampNeg ((-1 : Int32))) (k0 + 35) v1.toNatClampNeg ((-1 : Int32)))
theorem g_Mo_endAnd_J36 {d w : Nat} (hd : 1 ≤ d) (hw : 21 ≤ w) {post : Int32 → aM → Prop} (k0 : Nat) (v1 : Int32) (v2 : Int32) (M : aM) (h : w_Mo_endAnd_J36 post k0 v1 v2 M) : Gd d w 171 (pI post) (36, [some (aR 21 k0), some (aI v1), some (aI v2)], [], M) := by
  unfold w_Mo_endAnd_J36 at h
  show Gd d w 171 _ (36, [some (aR 21 k0), some (aI v1), some (aI v2)], [], M)
  obtain ⟨c0, c1, h⟩ := h
  refine gd_s (P := True ∧ True ∧ True ∧ True ∧ (vp_in v1 (rK M (k0 + 34)).2) ∧ True ∧ True ∧ True ∧ True ∧ (vp_in v1 (rK M (k0 + 35)).2) ∧ True ∧ True) (σ1 := (51, [some (aR 21 k0), some (aI v1), some (aI v2)], [aI v2], wI (wI M (k0 + 34) v1.toNatClampNeg ((-1 : Int32))) (k0 + 35) v1.toNatClampNeg ((-1 : Int32)))) tc_171 rfl 11 (fun u => ⟨_, rfl⟩) ⟨trivial, trivial, trivial, trivial, c0, trivial, trivial, trivial, trivial, c1, trivial, trivial⟩ ?_
  exact gd_ret tc_171 rfl rfl trivial (fun _ => rfl) ⟨_, rfl, h⟩
/-- PolicyJudgeModel.endAnd()I -/
def w_Mo_endAnd (post : Int32 → aM → Prop) (k0 : Nat) (M : aM) : Prop := (vp_in ((rI M k0 40) - ((1 : Int32))) (rK M (k0 + 35)).2) ∧ (vp_in ((rI M k0 40) - ((1 : Int32))) (rK M (k0 + 34)).2) ∧ ((((rI M (k0 + 34) ((rI M k0 40) - ((1 : Int32))).toNatClampNeg) = ((-1 : Int32))) → w_Mo_endAnd_J36 post k0 ((rI M k0 40) - ((1 : Int32))) (rI M (k0 + 35) ((rI M k0 40) - ((1 : Int32))).toNatClampNeg) M) ∧ (¬ ((rI M (k0 + 34) ((rI M k0 40) - ((1 : Int32))).toNatClampNeg) = ((-1 : Int32))) → (vp_in ((rI M k0 40) - ((1 : Int32))) (rK M (k0 + 34)).2) ∧ (w_Mo_complete (fun M1 => w_Mo_endAnd_J36 post k0 ((rI M k0 40) - ((1 : Int32))) (rI M (k0 + 34) ((rI M k0 40) - ((1 : Int32))).toNatClampNeg) M1) k0 (rI M (k0 + 34) ((rI M k0 40) - ((1 : Int32))).toNatClampNeg) M)))
theorem g_Mo_endAnd {d w : Nat} (hd : 1 ≤ d) (hw : 21 ≤ w) {post : Int32 → aM → Prop} {k0 : Nat} {M : aM} (h : w_Mo_endAnd post k0 M) : Gd d w 171 (pI post) (0, aEnt 171 [aR 21 k0], [], M) := by
  unfold w_Mo_endAnd at h
  show Gd d w 171 _ (0, [some (aR 21 k0), none, none], [], M)
  obtain ⟨c0, c1, h⟩ := h
  refine gd_s (P := True ∧ True ∧ True ∧ True ∧ True ∧ True ∧ True ∧ True ∧ (vp_in ((rI M k0 40) - ((1 : Int32))) (rK M (k0 + 35)).2) ∧ True ∧ True ∧ True ∧ True ∧ (vp_in ((rI M k0 40) - ((1 : Int32))) (rK M (k0 + 34)).2) ∧ True ∧ True) (σ1 := (21, [some (aR 21 k0), some (aI ((rI M k0 40) - ((1 : Int32)))), some (aI (rI M (k0 + 35) ((rI M k0 40) - ((1 : Int32))).toNatClampNeg))], [aI ((-1 : Int32)), aI (rI M (k0 + 34) ((rI M k0 40) - ((1 : Int32))).toNatClampNeg)], M)) tc_171 rfl 15 (fun u => ⟨_, rfl⟩) ⟨trivial, trivial, trivial, trivial, trivial, trivial, trivial, trivial, c0, trivial, trivial, trivial, trivial, c1, trivial, trivial⟩ ?_
  refine gd_br (c := (rI M (k0 + 34) ((rI M k0 40) - ((1 : Int32))).toNatClampNeg) = ((-1 : Int32))) (st1 := []) tc_171 rfl rfl (fun _ => rfl) ⟨fun hc => ?_, fun hc => ?_⟩
  · have h := h.1 hc
    exact g_Mo_endAnd_J36 hd hw k0 ((rI M k0 40) - ((1 : Int32))) (rI M (k0 + 35) ((rI M k0 40) - ((1 : Int32))).toNatClampNeg) M h
  · have h := h.2 hc
    show Gd d w 171 _ (24, [some (aR 21 k0), some (aI ((rI M k0 40) - ((1 : Int32)))), some (aI (rI M (k0 + 35) ((rI M k0 40) - ((1 : Int32))).toNatClampNeg))], [], M)
    obtain ⟨c0, h⟩ := h
    refine gd_s (P := True ∧ True ∧ True ∧ (vp_in ((rI M k0 40) - ((1 : Int32))) (rK M (k0 + 34)).2) ∧ True ∧ True ∧ True ∧ True) (σ1 := (33, [some (aR 21 k0), some (aI ((rI M k0 40) - ((1 : Int32)))), some (aI (rI M (k0 + 34) ((rI M k0 40) - ((1 : Int32))).toNatClampNeg))], [aI (rI M (k0 + 34) ((rI M k0 40) - ((1 : Int32))).toNatClampNeg), aR 21 k0], M)) tc_171 rfl 7 (fun u => ⟨_, rfl⟩) ⟨trivial, trivial, trivial, c0, trivial, trivial, trivial, trivial⟩ ?_
    refine gd_callN (ml := 2) (as := [aR 21 k0, aI (rI M (k0 + 34) ((rI M k0 40) - ((1 : Int32))).toNatClampNeg)]) (rest := []) tc_171 rfl rfl rfl rfl rfl (by omega) (by omega) (Nat.le_of_ble_eq_true rfl) rfl (g_Mo_complete (by omega) (by omega) h) (fun r9 M1 h => ?_)
    obtain ⟨rfl, h⟩ := h
    exact g_Mo_endAnd_J36 hd hw k0 ((rI M k0 40) - ((1 : Int32))) (rI M (k0 + 34) ((rI M k0 40) - ((1 : Int32))).toNatClampNeg) M1 h
theorem tc_172 : tC 172 = c172 := rfl
/-- PolicyJudgeModel.endOr()I -/
def w_Mo_endOr (post : Int32 → aM → Prop) (k0 : Nat) (M : aM) : Prop := w_Mo_endAnd (fun x1 M1 => (vp_in ((rI M k0 40) - ((1 : Int32))) (rK M1 (k0 + 32)).2) ∧ ((((rI M1 (k0 + 32) ((rI M k0 40) - ((1 : Int32))).toNatClampNeg) = ((-1 : Int32))) → post x1 M1) ∧ (¬ ((rI M1 (k0 + 32) ((rI M k0 40) - ((1 : Int32))).toNatClampNeg) = ((-1 : Int32))) → (vp_in ((rI M k0 40) - ((1 : Int32))) (rK M1 (k0 + 32)).2) ∧ (vp_in ((rI M k0 40) - ((1 : Int32))) (rK M1 (k0 + 33)).2) ∧ (w_Mo_join (fun M2 => (vp_in ((rI M k0 40) - ((1 : Int32))) (rK M2 (k0 + 32)).2) ∧ (w_Mo_complete (fun M3 => post (rI M2 (k0 + 32) ((rI M k0 40) - ((1 : Int32))).toNatClampNeg) M3) k0 (rI M2 (k0 + 32) ((rI M k0 40) - ((1 : Int32))).toNatClampNeg) M2)) k0 (rI M1 (k0 + 32) ((rI M k0 40) - ((1 : Int32))).toNatClampNeg) (rI M1 (k0 + 33) ((rI M k0 40) - ((1 : Int32))).toNatClampNeg) x1 M1)))) k0 M
theorem g_Mo_endOr {d w : Nat} (hd : 2 ≤ d) (hw : 43 ≤ w) {post : Int32 → aM → Prop} {k0 : Nat} {M : aM} (h : w_Mo_endOr post k0 M) : Gd d w 172 (pI post) (0, aEnt 172 [aR 21 k0], [], M) := by
  unfold w_Mo_endOr at h
  show Gd d w 172 _ (0, [some (aR 21 k0), none, none], [], M)
  refine gd_s (P := True ∧ True ∧ True ∧ True ∧ True ∧ True ∧ True) (σ1 := (8, [some (aR 21 k0), some (aI ((rI M k0 40) - ((1 : Int32)))), none], [aR 21 k0], M)) tc_172 rfl 6 (fun u => ⟨_, rfl⟩) ⟨trivial, trivial, trivial, trivial, trivial, trivial, trivial⟩ ?_
  refine gd_callN (ml := 3) (as := [aR 21 k0]) (rest := []) tc_172 rfl rfl rfl rfl rfl (by omega) (by omega) (Nat.le_of_ble_eq_true rfl) rfl (g_Mo_endAnd (by omega) (by omega) h) (fun r9 M1 h => ?_)
  obtain ⟨x1, rfl, h⟩ := h
  show Gd d w 172 _ (11, [some (aR 21 k0), some (aI ((rI M k0 40) - ((1 : Int32)))), none], [aI x1], M1)
  obtain ⟨c0, h⟩ := h
  refine gd_s (P := True ∧ True ∧ True ∧ True ∧ (vp_in ((rI M k0 40) - ((1 : Int32))) (rK M1 (k0 + 32)).2) ∧ True ∧ True) (σ1 := (19, [some (aR 21 k0), some (aI ((rI M k0 40) - ((1 : Int32)))), some (aI x1)], [aI ((-1 : Int32)), aI (rI M1 (k0 + 32) ((rI M k0 40) - ((1 : Int32))).toNatClampNeg)], M1)) tc_172 rfl 6 (fun u => ⟨_, rfl⟩) ⟨trivial, trivial, trivial, trivial, c0, trivial, trivial⟩ ?_
  refine gd_br (c := (rI M1 (k0 + 32) ((rI M k0 40) - ((1 : Int32))).toNatClampNeg) = ((-1 : Int32))) (st1 := []) tc_172 rfl rfl (fun _ => rfl) ⟨fun hc => ?_, fun hc => ?_⟩
  · have h := h.1 hc
    show Gd d w 172 _ (51, [some (aR 21 k0), some (aI ((rI M k0 40) - ((1 : Int32)))), some (aI x1)], [], M1)
    refine gd_s (P := True ∧ True) (σ1 := (52, [some (aR 21 k0), some (aI ((rI M k0 40) - ((1 : Int32)))), some (aI x1)], [aI x1], M1)) tc_172 rfl 1 (fun u => ⟨_, rfl⟩) ⟨trivial, trivial⟩ ?_
    exact gd_ret tc_172 rfl rfl trivial (fun _ => rfl) ⟨_, rfl, h⟩
  · have h := h.2 hc
    show Gd d w 172 _ (22, [some (aR 21 k0), some (aI ((rI M k0 40) - ((1 : Int32)))), some (aI x1)], [], M1)
    obtain ⟨c0, c1, h⟩ := h
    refine gd_s (P := True ∧ True ∧ True ∧ True ∧ (vp_in ((rI M k0 40) - ((1 : Int32))) (rK M1 (k0 + 32)).2) ∧ True ∧ True ∧ True ∧ (vp_in ((rI M k0 40) - ((1 : Int32))) (rK M1 (k0 + 33)).2) ∧ True ∧ True) (σ1 := (36, [some (aR 21 k0), some (aI ((rI M k0 40) - ((1 : Int32)))), some (aI x1)], [aI x1, aI (rI M1 (k0 + 33) ((rI M k0 40) - ((1 : Int32))).toNatClampNeg), aI (rI M1 (k0 + 32) ((rI M k0 40) - ((1 : Int32))).toNatClampNeg), aR 21 k0], M1)) tc_172 rfl 10 (fun u => ⟨_, rfl⟩) ⟨trivial, trivial, trivial, trivial, c0, trivial, trivial, trivial, c1, trivial, trivial⟩ ?_
    refine gd_callN (ml := 4) (as := [aR 21 k0, aI (rI M1 (k0 + 32) ((rI M k0 40) - ((1 : Int32))).toNatClampNeg), aI (rI M1 (k0 + 33) ((rI M k0 40) - ((1 : Int32))).toNatClampNeg), aI x1]) (rest := []) tc_172 rfl rfl rfl rfl rfl (by omega) (by omega) (Nat.le_of_ble_eq_true rfl) rfl (g_Mo_join (by omega) (by omega) h) (fun r9 M2 h => ?_)
    obtain ⟨rfl, h⟩ := h
    show Gd d w 172 _ (39, [some (aR 21 k0), some (aI ((rI M k0 40) - ((1 : Int32)))), some (aI x1)], [], M2)
    obtain ⟨c0, h⟩ := h
    refine gd_s (P := True ∧ True ∧ True ∧ (vp_in ((rI M k0 40) - ((1 : Int32))) (rK M2 (k0 + 32)).2) ∧ True ∧ True ∧ True ∧ True) (σ1 := (48, [some (aR 21 k0), some (aI ((rI M k0 40) - ((1 : Int32)))), some (aI (rI M2 (k0 + 32) ((rI M k0 40) - ((1 : Int32))).toNatClampNeg))], [aI (rI M2 (k0 + 32) ((rI M k0 40) - ((1 : Int32))).toNatClampNeg), aR 21 k0], M2)) tc_172 rfl 7 (fun u => ⟨_, rfl⟩) ⟨trivial, trivial, trivial, c0, trivial, trivial, trivial, trivial⟩ ?_
    refine gd_callN (ml := 2) (as := [aR 21 k0, aI (rI M2 (k0 + 32) ((rI M k0 40) - ((1 : Int32))).toNatClampNeg)]) (rest := []) tc_172 rfl rfl rfl rfl rfl (by omega) (by omega) (Nat.le_of_ble_eq_true rfl) rfl (g_Mo_complete (by omega) (by omega) h) (fun r9 M3 h => ?_)
    obtain ⟨rfl, h⟩ := h
    show Gd d w 172 _ (51, [some (aR 21 k0), some (aI ((rI M k0 40) - ((1 : Int32)))), some (aI (rI M2 (k0 + 32) ((rI M k0 40) - ((1 : Int32))).toNatClampNeg))], [], M3)
    refine gd_s (P := True ∧ True) (σ1 := (52, [some (aR 21 k0), some (aI ((rI M k0 40) - ((1 : Int32)))), some (aI (rI M2 (k0 + 32) ((rI M k0 40) - ((1 : Int32))).toNatClampNeg))], [aI (rI M2 (k0 + 32) ((rI M k0 40) - ((1 : Int32))).toNatClampNeg)], M3)) tc_172 rfl 1 (fun u => ⟨_, rfl⟩) ⟨trivial, trivial⟩ ?_
    exact gd_ret tc_172 rfl rfl trivial (fun _ => rfl) ⟨_, rfl, h⟩
theorem tc_160 : tC 160 = c160 := rfl
def w_Mo_readExpression_J210 (post : Int32 → aM → Prop) (K12 : Nat → Int32 → aM → Prop) (k0 : Nat) (M : aM) : Prop := w_Mo_nextToken (fun M1 => K12 k0 ((1 : Int32)) M1) k0 M
theorem g_Mo_readExpression_J210 {d w : Nat} (hd : 10 ≤ d) (hw : 293 ≤ w) {post : Int32 → aM → Prop} {K12 : Nat → Int32 → aM → Prop} (hK12 : ∀ (k0 : Nat) (v1 : Int32) (o2 o3 o4 : Option aV) (M : aM), K12 k0 v1 M → Gd d w 160 (pI post) (12, [some (aR 21 k0), some (aI v1), o2, o3, o4], [], M)) (k0 : Nat) (o1 o2 o3 o4 : Option aV) (M : aM) (h : w_Mo_readExpression_J210 post K12 k0 M) : Gd d w 160 (pI post) (210, [some (aR 21 k0), o1, o2, o3, o4], [], M) := by
  unfold w_Mo_readExpression_J210 at h
  show Gd d w 160 _ (210, [some (aR 21 k0), o1, o2, o3, o4], [], M)
  refine gd_s (P := True ∧ True) (σ1 := (211, [some (aR 21 k0), o1, o2, o3, o4], [aR 21 k0], M)) tc_160 rfl 1 (fun u => ⟨_, rfl⟩) ⟨trivial, trivial⟩ ?_
  refine gd_callN (ml := 2) (as := [aR 21 k0]) (rest := []) tc_160 rfl rfl rfl rfl rfl (by omega) (by omega) (Nat.le_of_ble_eq_true rfl) rfl (g_Mo_nextToken (by omega) (by omega) h) (fun r9 M1 h => ?_)
  obtain ⟨rfl, h⟩ := h
  show Gd d w 160 _ (214, [some (aR 21 k0), o1, o2, o3, o4], [], M1)
  refine gd_s (P := True ∧ True ∧ True ∧ True ∧ True) (σ1 := (12, [some (aR 21 k0), some (aI ((1 : Int32))), o2, o3, o4], [], M1)) tc_160 rfl 4 (fun u => ⟨_, rfl⟩) ⟨trivial, trivial, trivial, trivial, trivial⟩ ?_
  exact hK12 k0 ((1 : Int32)) o2 o3 o4 M1 h
def w_Mo_readExpression_J178 (post : Int32 → aM → Prop) (K12 : Nat → Int32 → aM → Prop) (k0 : Nat) (M : aM) : Prop := w_Mo_readExpression_J210 post K12 k0 M
theorem g_Mo_readExpression_J178 {d w : Nat} (hd : 10 ≤ d) (hw : 293 ≤ w) {post : Int32 → aM → Prop} {K12 : Nat → Int32 → aM → Prop} (hK12 : ∀ (k0 : Nat) (v1 : Int32) (o2 o3 o4 : Option aV) (M : aM), K12 k0 v1 M → Gd d w 160 (pI post) (12, [some (aR 21 k0), some (aI v1), o2, o3, o4], [], M)) (k0 : Nat) (o1 o2 o3 o4 : Option aV) (M : aM) (h : w_Mo_readExpression_J178 post K12 k0 M) : Gd d w 160 (pI post) (178, [some (aR 21 k0), o1, o2, o3, o4], [], M) := by
  unfold w_Mo_readExpression_J178 at h
  show Gd d w 160 _ (178, [some (aR 21 k0), o1, o2, o3, o4], [], M)
  refine gd_s (P := True ∧ True) (σ1 := (210, [some (aR 21 k0), o1, o2, o3, o4], [], M)) tc_160 rfl 1 (fun u => ⟨_, rfl⟩) ⟨trivial, trivial⟩ ?_
  exact g_Mo_readExpression_J210 hd hw hK12 k0 o1 o2 o3 o4 M h
def w_Mo_readExpression_J145 (post : Int32 → aM → Prop) (K12 : Nat → Int32 → aM → Prop) (k0 : Nat) (v2 : Int32) (v3 : Int32) (s0 : Int32) (M : aM) : Prop := ((¬ (rI M k0 38) = ((-1 : Int32))) → w_Mo_readExpression_J178 post K12 k0 M) ∧ (¬ (¬ (rI M k0 38) = ((-1 : Int32))) → w_Mo_join (fun M1 => (vp_in v2 (rK M1 (k0 + 32)).2) ∧ (vp_in v2 (rK M1 (k0 + 33)).2) ∧ (w_Mo_readExpression_J178 post K12 k0 (wI (wI M1 (k0 + 32) v2.toNatClampNeg v3) (k0 + 33) v2.toNatClampNeg s0))) k0 v3 ((-1 : Int32)) s0 M)
theorem g_Mo_readExpression_J145 {d w : Nat} (hd : 10 ≤ d) (hw : 293 ≤ w) {post : Int32 → aM → Prop} {K12 : Nat → Int32 → aM → Prop} (hK12 : ∀ (k0 : Nat) (v1 : Int32) (o2 o3 o4 : Option aV) (M : aM), K12 k0 v1 M → Gd d w 160 (pI post) (12, [some (aR 21 k0), some (aI v1), o2, o3, o4], [], M)) (k0 : Nat) (v2 : Int32) (v3 : Int32) (s0 : Int32) (o1 o4 : Option aV) (M : aM) (h : w_Mo_readExpression_J145 post K12 k0 v2 v3 s0 M) : Gd d w 160 (pI post) (145, [some (aR 21 k0), o1, some (aI v2), some (aI v3), o4], [aI s0], M) := by
  unfold w_Mo_readExpression_J145 at h
  show Gd d w 160 _ (145, [some (aR 21 k0), o1, some (aI v2), some (aI v3), o4], [aI s0], M)
  refine gd_s (P := True ∧ True ∧ True ∧ True ∧ True) (σ1 := (152, [some (aR 21 k0), o1, some (aI v2), some (aI v3), some (aI s0)], [aI ((-1 : Int32)), aI (rI M k0 38)], M)) tc_160 rfl 4 (fun u => ⟨_, rfl⟩) ⟨trivial, trivial, trivial, trivial, trivial⟩ ?_
  refine gd_br (c := ¬ (rI M k0 38) = ((-1 : Int32))) (st1 := []) tc_160 rfl rfl (fun _ => rfl) ⟨fun hc => ?_, fun hc => ?_⟩
  · have h := h.1 hc
    exact g_Mo_readExpression_J178 hd hw hK12 k0 o1 (some (aI v2)) (some (aI v3)) (some (aI s0)) M h
  · have h := h.2 hc
    show Gd d w 160 _ (155, [some (aR 21 k0), o1, some (aI v2), some (aI v3), some (aI s0)], [], M)
    refine gd_s (P := True ∧ True ∧ True ∧ True ∧ True) (σ1 := (160, [some (aR 21 k0), o1, some (aI v2), some (aI v3), some (aI s0)], [aI s0, aI ((-1 : Int32)), aI v3, aR 21 k0], M)) tc_160 rfl 4 (fun u => ⟨_, rfl⟩) ⟨trivial, trivial, trivial, trivial, trivial⟩ ?_
    refine gd_callN (ml := 4) (as := [aR 21 k0, aI v3, aI ((-1 : Int32)), aI s0]) (rest := []) tc_160 rfl rfl rfl rfl rfl (by omega) (by omega) (Nat.le_of_ble_eq_true rfl) rfl (g_Mo_join (by omega) (by omega) h) (fun r9 M1 h => ?_)
    obtain ⟨rfl, h⟩ := h
    show Gd d w 160 _ (163, [some (aR 21 k0), o1, some (aI v2), some (aI v3), some (aI s0)], [], M1)
    obtain ⟨c0, c1, h⟩ := h
    refine gd_s (P := True ∧ True ∧ True ∧ True ∧ (vp_in v2 (rK M1 (k0 + 32)).2) ∧ True ∧ True ∧ True ∧ True ∧ (vp_in v2 (rK M1 (k0 + 33)).2) ∧ True) (σ1 := (178, [some (aR 21 k0), o1, some (aI v2), some (aI v3), some (aI s0)], [], wI (wI M1 (k0 + 32) v2.toNatClampNeg v3) (k0 + 33) v2.toNatClampNeg s0)) tc_160 rfl 10 (fun u => ⟨_, rfl⟩) ⟨trivial, trivial, trivial, trivial, c0, trivial, trivial, trivial, trivial, c1, trivial⟩ ?_
    exact g_Mo_readExpression_J178 hd hw hK12 k0 o1 (some (aI v2)) (some (aI v3)) (some (aI s0)) (wI (wI M1 (k0 + 32) v2.toNatClampNeg v3) (k0 + 33) v2.toNatClampNeg s0) h
def w_Mo_readExpression_J93 (post : Int32 → aM → Prop) (K12 : Nat → Int32 → aM → Prop) (k0 : Nat) (M : aM) : Prop := w_Mo_nextToken (fun M1 => K12 k0 ((1 : Int32)) M1) k0 M
theorem g_Mo_readExpression_J93 {d w : Nat} (hd : 10 ≤ d) (hw : 293 ≤ w) {post : Int32 → aM → Prop} {K12 : Nat → Int32 → aM → Prop} (hK12 : ∀ (k0 : Nat) (v1 : Int32) (o2 o3 o4 : Option aV) (M : aM), K12 k0 v1 M → Gd d w 160 (pI post) (12, [some (aR 21 k0), some (aI v1), o2, o3, o4], [], M)) (k0 : Nat) (o1 o2 o3 o4 : Option aV) (M : aM) (h : w_Mo_readExpression_J93 post K12 k0 M) : Gd d w 160 (pI post) (93, [some (aR 21 k0), o1, o2, o3, o4], [], M) := by
  unfold w_Mo_readExpression_J93 at h
  show Gd d w 160 _ (93, [some (aR 21 k0), o1, o2, o3, o4], [], M)
  refine gd_s (P := True ∧ True) (σ1 := (94, [some (aR 21 k0), o1, o2, o3, o4], [aR 21 k0], M)) tc_160 rfl 1 (fun u => ⟨_, rfl⟩) ⟨trivial, trivial⟩ ?_
  refine gd_callN (ml := 2) (as := [aR 21 k0]) (rest := []) tc_160 rfl rfl rfl rfl rfl (by omega) (by omega) (Nat.le_of_ble_eq_true rfl) rfl (g_Mo_nextToken (by omega) (by omega) h) (fun r9 M1 h => ?_)
  obtain ⟨rfl, h⟩ := h
  show Gd d w 160 _ (97, [some (aR 21 k0), o1, o2, o3, o4], [], M1)
  refine gd_s (P := True ∧ True ∧ True ∧ True ∧ True) (σ1 := (12, [some (aR 21 k0), some (aI ((1 : Int32))), o2, o3, o4], [], M1)) tc_160 rfl 4 (fun u => ⟨_, rfl⟩) ⟨trivial, trivial, trivial, trivial, trivial⟩ ?_
  exact hK12 k0 ((1 : Int32)) o2 o3 o4 M1 h
def w_Mo_readExpression_L12 (post : Int32 → aM → Prop) : Nat → Nat → Int32 → aM → Prop
  | 0, _, _, _ => False
  | n + 1, k0, v1, M => ((¬ (rI M k0 38) = ((-1 : Int32))) → post ((-1 : Int32)) M) ∧ (¬ (¬ (rI M k0 38) = ((-1 : Int32))) → ((v1 = ((0 : Int32))) → w_Mo_isWord (fun x1 => ((x1 = ((0 : Int32))) → w_Mo_isWord (fun x2 => ((x2 = ((0 : Int32))) → (((rI M k0 40) ≤ ((1 : Int32))) → w_Mo_endOr (fun x3 M3 => post x3 M3) k0 M) ∧ (¬ ((rI M k0 40) ≤ ((1 : Int32))) → w_Mo_is (fun x4 => w_Mo_need (fun M5 => ((¬ (rI M5 k0 38) = ((-1 : Int32))) → w_Mo_readExpression_L12 post n k0 v1 M5) ∧ (¬ (¬ (rI M5 k0 38) = ((-1 : Int32))) → w_Mo_endOr (fun x6 M6 => w_Mo_give (fun M7 => w_Mo_nextToken (fun M8 => w_Mo_readExpression_L12 post n k0 v1 M8) k0 M7) k0 x6 (wI (wI M6 k0 40 ((rI M6 k0 40) - ((1 : Int32)))) k0 39 ((rI (wI M6 k0 40 ((rI M6 k0 40) - ((1 : Int32)))) k0 39) - ((1 : Int32))))) k0 M5)) k0 x4 M) k0 ((41 : Int32)) M)) ∧ (¬ (x2 = ((0 : Int32))) → (vp_in ((rI M k0 40) - ((1 : Int32))) (rK M (k0 + 32)).2) ∧ (((¬ (rI M (k0 + 32) ((rI M k0 40) - ((1 : Int32))).toNatClampNeg) = ((-1 : Int32))) → w_Mo_endAnd (fun x9 M9 => (vp_in ((rI M k0 40) - ((1 : Int32))) (rK M9 (k0 + 32)).2) ∧ (vp_in ((rI M k0 40) - ((1 : Int32))) (rK M9 (k0 + 33)).2) ∧ (w_Mo_join (fun M10 => (vp_in ((rI M k0 40) - ((1 : Int32))) (rK M10 (k0 + 33)).2) ∧ (w_Mo_readExpression_J210 post (w_Mo_readExpression_L12 post n) k0 (wI M10 (k0 + 33) ((rI M k0 40) - ((1 : Int32))).toNatClampNeg x9))) k0 (rI M9 (k0 + 32) ((rI M k0 40) - ((1 : Int32))).toNatClampNeg) (rI M9 (k0 + 33) ((rI M k0 40) - ((1 : Int32))).toNatClampNeg) x9 M9)) k0 M) ∧ (¬ (¬ (rI M (k0 + 32) ((rI M k0 40) - ((1 : Int32))).toNatClampNeg) = ((-1 : Int32))) → w_Mo_newPart (fun x11 M11 => ((¬ (rI M11 k0 38) = ((-1 : Int32))) → w_Mo_readExpression_J145 post (w_Mo_readExpression_L12 post n) k0 ((rI M k0 40) - ((1 : Int32))) x11 ((-1 : Int32)) M11) ∧ (¬ (¬ (rI M11 k0 38) = ((-1 : Int32))) → w_Mo_endAnd (fun x12 M12 => w_Mo_readExpression_J145 post (w_Mo_readExpression_L12 post n) k0 ((rI M k0 40) - ((1 : Int32))) x11 x12 M12) k0 M11)) k0 ((13 : Int32)) M)))) k0 24 M) ∧ (¬ (x1 = ((0 : Int32))) → (vp_in ((rI M k0 40) - ((1 : Int32))) (rK M (k0 + 34)).2) ∧ (((¬ (rI M (k0 + 34) ((rI M k0 40) - ((1 : Int32))).toNatClampNeg) = ((-1 : Int32))) → w_Mo_readExpression_J93 post (w_Mo_readExpression_L12 post n) k0 M) ∧ (¬ (¬ (rI M (k0 + 34) ((rI M k0 40) - ((1 : Int32))).toNatClampNeg) = ((-1 : Int32))) → w_Mo_newPart (fun x13 M13 => ((¬ (rI M13 k0 38) = ((-1 : Int32))) → w_Mo_readExpression_J93 post (w_Mo_readExpression_L12 post n) k0 M13) ∧ (¬ (¬ (rI M13 k0 38) = ((-1 : Int32))) → (vp_in ((rI M k0 40) - ((1 : Int32))) (rK M13 (k0 + 35)).2) ∧ (w_Mo_join (fun M14 => (vp_in ((rI M k0 40) - ((1 : Int32))) (rK M14 (k0 + 34)).2) ∧ (w_Mo_readExpression_J93 post (w_Mo_readExpression_L12 post n) k0 (wI M14 (k0 + 34) ((rI M k0 40) - ((1 : Int32))).toNatClampNeg x13))) k0 x13 ((-1 : Int32)) (rI M13 (k0 + 35) ((rI M k0 40) - ((1 : Int32))).toNatClampNeg) M13))) k0 ((14 : Int32)) M)))) k0 23 M) ∧ (¬ (v1 = ((0 : Int32))) → w_Mo_readPart (fun x15 M15 => w_Mo_readExpression_L12 post n k0 x15 M15) k0 M))
theorem g_Mo_readExpression_L12 {d w : Nat} (hd : 10 ≤ d) (hw : 293 ≤ w) {post : Int32 → aM → Prop} : ∀ (n : Nat) (k0 : Nat) (v1 : Int32) (o2 o3 o4 : Option aV) (M : aM), w_Mo_readExpression_L12 post n k0 v1 M → Gd d w 160 (pI post) (12, [some (aR 21 k0), some (aI v1), o2, o3, o4], [], M) := by
  intro n
  induction n with
  | zero => intro k0 v1 o2 o3 o4 M h; exact h.elim
  | succ n ih =>
    intro k0 v1 o2 o3 o4 M h
    show Gd d w 160 _ (12, [some (aR 21 k0), some (aI v1), o2, o3, o4], [], M)
    refine gd_s (P := True ∧ True ∧ True ∧ True) (σ1 := (17, [some (aR 21 k0), some (aI v1), o2, o3, o4], [aI ((-1 : Int32)), aI (rI M k0 38)], M)) tc_160 rfl 3 (fun u => ⟨_, rfl⟩) ⟨trivial, trivial, trivial, trivial⟩ ?_
    refine gd_br (c := ¬ (rI M k0 38) = ((-1 : Int32))) (st1 := []) tc_160 rfl rfl (fun _ => rfl) ⟨fun hc => ?_, fun hc => ?_⟩
    · have h := h.1 hc
      show Gd d w 160 _ (290, [some (aR 21 k0), some (aI v1), o2, o3, o4], [], M)
      refine gd_s (P := True ∧ True) (σ1 := (291, [some (aR 21 k0), some (aI v1), o2, o3, o4], [aI ((-1 : Int32))], M)) tc_160 rfl 1 (fun u => ⟨_, rfl⟩) ⟨trivial, trivial⟩ ?_
      exact gd_ret tc_160 rfl rfl trivial (fun _ => rfl) ⟨_, rfl, h⟩
    · have h := h.2 hc
      show Gd d w 160 _ (20, [some (aR 21 k0), some (aI v1), o2, o3, o4], [], M)
      refine gd_s (P := True ∧ True ∧ True ∧ True ∧ True ∧ True ∧ True) (σ1 := (28, [some (aR 21 k0), some (aI v1), some (aI ((rI M k0 40) - ((1 : Int32)))), o3, o4], [aI v1], M)) tc_160 rfl 6 (fun u => ⟨_, rfl⟩) ⟨trivial, trivial, trivial, trivial, trivial, trivial, trivial⟩ ?_
      refine gd_br (c := v1 = ((0 : Int32))) (st1 := []) tc_160 rfl rfl (fun _ => rfl) ⟨fun hc => ?_, fun hc => ?_⟩
      · have h := h.1 hc
        show Gd d w 160 _ (39, [some (aR 21 k0), some (aI v1), some (aI ((rI M k0 40) - ((1 : Int32)))), o3, o4], [], M)
        refine gd_s (P := True ∧ True ∧ True) (σ1 := (43, [some (aR 21 k0), some (aI v1), some (aI ((rI M k0 40) - ((1 : Int32)))), o3, o4], [aR 1 23, aR 21 k0], M)) tc_160 rfl 2 (fun u => ⟨_, rfl⟩) ⟨trivial, trivial, trivial⟩ ?_
        refine gd_callN (ml := 4) (as := [aR 21 k0, aR 1 23]) (rest := []) tc_160 rfl rfl rfl rfl rfl (by omega) (by omega) (Nat.le_of_ble_eq_true rfl) rfl (g_Mo_isWord (by omega) (by omega) h) (fun r9 M9 h => ?_)
        obtain ⟨x1, rfl, e9, h⟩ := h
        subst M9
        show Gd d w 160 _ (46, [some (aR 21 k0), some (aI v1), some (aI ((rI M k0 40) - ((1 : Int32)))), o3, o4], [aI x1], M)
        refine gd_br (c := x1 = ((0 : Int32))) (st1 := []) tc_160 rfl rfl (fun _ => rfl) ⟨fun hc => ?_, fun hc => ?_⟩
        · have h := h.1 hc
          show Gd d w 160 _ (102, [some (aR 21 k0), some (aI v1), some (aI ((rI M k0 40) - ((1 : Int32)))), o3, o4], [], M)
          refine gd_s (P := True ∧ True ∧ True) (σ1 := (106, [some (aR 21 k0), some (aI v1), some (aI ((rI M k0 40) - ((1 : Int32)))), o3, o4], [aR 1 24, aR 21 k0], M)) tc_160 rfl 2 (fun u => ⟨_, rfl⟩) ⟨trivial, trivial, trivial⟩ ?_
          refine gd_callN (ml := 4) (as := [aR 21 k0, aR 1 24]) (rest := []) tc_160 rfl rfl rfl rfl rfl (by omega) (by omega) (Nat.le_of_ble_eq_true rfl) rfl (g_Mo_isWord (by omega) (by omega) h) (fun r9 M9 h => ?_)
          obtain ⟨x2, rfl, e9, h⟩ := h
          subst M9
          show Gd d w 160 _ (109, [some (aR 21 k0), some (aI v1), some (aI ((rI M k0 40) - ((1 : Int32)))), o3, o4], [aI x2], M)
          refine gd_br (c := x2 = ((0 : Int32))) (st1 := []) tc_160 rfl rfl (fun _ => rfl) ⟨fun hc => ?_, fun hc => ?_⟩
          · have h := h.1 hc
            show Gd d w 160 _ (219, [some (aR 21 k0), some (aI v1), some (aI ((rI M k0 40) - ((1 : Int32)))), o3, o4], [], M)
            refine gd_s (P := True ∧ True ∧ True ∧ True) (σ1 := (224, [some (aR 21 k0), some (aI v1), some (aI ((rI M k0 40) - ((1 : Int32)))), o3, o4], [aI ((1 : Int32)), aI (rI M k0 40)], M)) tc_160 rfl 3 (fun u => ⟨_, rfl⟩) ⟨trivial, trivial, trivial, trivial⟩ ?_
            refine gd_br (c := (rI M k0 40) ≤ ((1 : Int32))) (st1 := []) tc_160 rfl rfl (fun _ => rfl) ⟨fun hc => ?_, fun hc => ?_⟩
            · have h := h.1 hc
              show Gd d w 160 _ (282, [some (aR 21 k0), some (aI v1), some (aI ((rI M k0 40) - ((1 : Int32)))), o3, o4], [], M)
              refine gd_s (P := True ∧ True) (σ1 := (283, [some (aR 21 k0), some (aI v1), some (aI ((rI M k0 40) - ((1 : Int32)))), o3, o4], [aR 21 k0], M)) tc_160 rfl 1 (fun u => ⟨_, rfl⟩) ⟨trivial, trivial⟩ ?_
              refine gd_callN (ml := 3) (as := [aR 21 k0]) (rest := []) tc_160 rfl rfl rfl rfl rfl (by omega) (by omega) (Nat.le_of_ble_eq_true rfl) rfl (g_Mo_endOr (by omega) (by omega) h) (fun r9 M3 h => ?_)
              obtain ⟨x3, rfl, h⟩ := h
              show Gd d w 160 _ (286, [some (aR 21 k0), some (aI v1), some (aI ((rI M k0 40) - ((1 : Int32)))), o3, o4], [aI x3], M3)
              exact gd_ret tc_160 rfl rfl trivial (fun _ => rfl) ⟨_, rfl, h⟩
            · have h := h.2 hc
              show Gd d w 160 _ (227, [some (aR 21 k0), some (aI v1), some (aI ((rI M k0 40) - ((1 : Int32)))), o3, o4], [], M)
              refine gd_s (P := True ∧ True ∧ True ∧ True) (σ1 := (231, [some (aR 21 k0), some (aI v1), some (aI ((rI M k0 40) - ((1 : Int32)))), o3, o4], [aI ((41 : Int32)), aR 21 k0, aR 21 k0], M)) tc_160 rfl 3 (fun u => ⟨_, rfl⟩) ⟨trivial, trivial, trivial, trivial⟩ ?_
              refine gd_callN (ml := 2) (as := [aR 21 k0, aI ((41 : Int32))]) (rest := [aR 21 k0]) tc_160 rfl rfl rfl rfl rfl (by omega) (by omega) (Nat.le_of_ble_eq_true rfl) rfl (g_Mo_is (by omega) (by omega) h) (fun r9 M9 h => ?_)
              obtain ⟨x4, rfl, e9, h⟩ := h
              subst M9
              show Gd d w 160 _ (234, [some (aR 21 k0), some (aI v1), some (aI ((rI M k0 40) - ((1 : Int32)))), o3, o4], [aI x4, aR 21 k0], M)
              refine gd_callN (ml := 2) (as := [aR 21 k0, aI x4]) (rest := []) tc_160 rfl rfl rfl rfl rfl (by omega) (by omega) (Nat.le_of_ble_eq_true rfl) rfl (g_Mo_need (by omega) (by omega) h) (fun r9 M5 h => ?_)
              obtain ⟨rfl, h⟩ := h
              show Gd d w 160 _ (237, [some (aR 21 k0), some (aI v1), some (aI ((rI M k0 40) - ((1 : Int32)))), o3, o4], [], M5)
              refine gd_s (P := True ∧ True ∧ True ∧ True) (σ1 := (242, [some (aR 21 k0), some (aI v1), some (aI ((rI M k0 40) - ((1 : Int32)))), o3, o4], [aI ((-1 : Int32)), aI (rI M5 k0 38)], M5)) tc_160 rfl 3 (fun u => ⟨_, rfl⟩) ⟨trivial, trivial, trivial, trivial⟩ ?_
              refine gd_br (c := ¬ (rI M5 k0 38) = ((-1 : Int32))) (st1 := []) tc_160 rfl rfl (fun _ => rfl) ⟨fun hc => ?_, fun hc => ?_⟩
              · have h := h.1 hc
                show Gd d w 160 _ (287, [some (aR 21 k0), some (aI v1), some (aI ((rI M k0 40) - ((1 : Int32)))), o3, o4], [], M5)
                refine gd_s (P := True ∧ True) (σ1 := (12, [some (aR 21 k0), some (aI v1), some (aI ((rI M k0 40) - ((1 : Int32)))), o3, o4], [], M5)) tc_160 rfl 1 (fun u => ⟨_, rfl⟩) ⟨trivial, trivial⟩ ?_
                exact ih k0 v1 (some (aI ((rI M k0 40) - ((1 : Int32))))) o3 o4 M5 h
              · have h := h.2 hc
                show Gd d w 160 _ (245, [some (aR 21 k0), some (aI v1), some (aI ((rI M k0 40) - ((1 : Int32)))), o3, o4], [], M5)
                refine gd_s (P := True ∧ True) (σ1 := (246, [some (aR 21 k0), some (aI v1), some (aI ((rI M k0 40) - ((1 : Int32)))), o3, o4], [aR 21 k0], M5)) tc_160 rfl 1 (fun u => ⟨_, rfl⟩) ⟨trivial, trivial⟩ ?_
                refine gd_callN (ml := 3) (as := [aR 21 k0]) (rest := []) tc_160 rfl rfl rfl rfl rfl (by omega) (by omega) (Nat.le_of_ble_eq_true rfl) rfl (g_Mo_endOr (by omega) (by omega) h) (fun r9 M6 h => ?_)
                obtain ⟨x6, rfl, h⟩ := h
                show Gd d w 160 _ (249, [some (aR 21 k0), some (aI v1), some (aI ((rI M k0 40) - ((1 : Int32)))), o3, o4], [aI x6], M6)
                refine gd_s (P := True ∧ True ∧ True ∧ True ∧ True ∧ True ∧ True ∧ True ∧ True ∧ True ∧ True ∧ True ∧ True ∧ True ∧ True ∧ True) (σ1 := (272, [some (aR 21 k0), some (aI v1), some (aI ((rI M k0 40) - ((1 : Int32)))), some (aI x6), o4], [aI x6, aR 21 k0], wI (wI M6 k0 40 ((rI M6 k0 40) - ((1 : Int32)))) k0 39 ((rI (wI M6 k0 40 ((rI M6 k0 40) - ((1 : Int32)))) k0 39) - ((1 : Int32))))) tc_160 rfl 15 (fun u => ⟨_, rfl⟩) ⟨trivial, trivial, trivial, trivial, trivial, trivial, trivial, trivial, trivial, trivial, trivial, trivial, trivial, trivial, trivial, trivial⟩ ?_
                refine gd_callN (ml := 4) (as := [aR 21 k0, aI x6]) (rest := []) tc_160 rfl rfl rfl rfl rfl (by omega) (by omega) (Nat.le_of_ble_eq_true rfl) rfl (g_Mo_give (by omega) (by omega) h) (fun r9 M7 h => ?_)
                obtain ⟨rfl, h⟩ := h
                show Gd d w 160 _ (275, [some (aR 21 k0), some (aI v1), some (aI ((rI M k0 40) - ((1 : Int32)))), some (aI x6), o4], [], M7)
                refine gd_s (P := True ∧ True) (σ1 := (276, [some (aR 21 k0), some (aI v1), some (aI ((rI M k0 40) - ((1 : Int32)))), some (aI x6), o4], [aR 21 k0], M7)) tc_160 rfl 1 (fun u => ⟨_, rfl⟩) ⟨trivial, trivial⟩ ?_
                refine gd_callN (ml := 2) (as := [aR 21 k0]) (rest := []) tc_160 rfl rfl rfl rfl rfl (by omega) (by omega) (Nat.le_of_ble_eq_true rfl) rfl (g_Mo_nextToken (by omega) (by omega) h) (fun r9 M8 h => ?_)
                obtain ⟨rfl, h⟩ := h
                show Gd d w 160 _ (279, [some (aR 21 k0), some (aI v1), some (aI ((rI M k0 40) - ((1 : Int32)))), some (aI x6), o4], [], M8)
                refine gd_s (P := True ∧ True ∧ True) (σ1 := (12, [some (aR 21 k0), some (aI v1), some (aI ((rI M k0 40) - ((1 : Int32)))), some (aI x6), o4], [], M8)) tc_160 rfl 2 (fun u => ⟨_, rfl⟩) ⟨trivial, trivial, trivial⟩ ?_
                exact ih k0 v1 (some (aI ((rI M k0 40) - ((1 : Int32))))) (some (aI x6)) o4 M8 h
          · have h := h.2 hc
            show Gd d w 160 _ (112, [some (aR 21 k0), some (aI v1), some (aI ((rI M k0 40) - ((1 : Int32)))), o3, o4], [], M)
            obtain ⟨c0, h⟩ := h
            refine gd_s (P := True ∧ True ∧ True ∧ (vp_in ((rI M k0 40) - ((1 : Int32))) (rK M (k0 + 32)).2) ∧ True ∧ True) (σ1 := (119, [some (aR 21 k0), some (aI v1), some (aI ((rI M k0 40) - ((1 : Int32)))), o3, o4], [aI ((-1 : Int32)), aI (rI M (k0 + 32) ((rI M k0 40) - ((1 : Int32))).toNatClampNeg)], M)) tc_160 rfl 5 (fun u => ⟨_, rfl⟩) ⟨trivial, trivial, trivial, c0, trivial, trivial⟩ ?_
            refine gd_br (c := ¬ (rI M (k0 + 32) ((rI M k0 40) - ((1 : Int32))).toNatClampNeg) = ((-1 : Int32))) (st1 := []) tc_160 rfl rfl (fun _ => rfl) ⟨fun hc => ?_, fun hc => ?_⟩
            · have h := h.1 hc
              show Gd d w 160 _ (181, [some (aR 21 k0), some (aI v1), some (aI ((rI M k0 40) - ((1 : Int32)))), o3, o4], [], M)
              refine gd_s (P := True ∧ True) (σ1 := (182, [some (aR 21 k0), some (aI v1), some (aI ((rI M k0 40) - ((1 : Int32)))), o3, o4], [aR 21 k0], M)) tc_160 rfl 1 (fun u => ⟨_, rfl⟩) ⟨trivial, trivial⟩ ?_
              refine gd_callN (ml := 3) (as := [aR 21 k0]) (rest := []) tc_160 rfl rfl rfl rfl rfl (by omega) (by omega) (Nat.le_of_ble_eq_true rfl) rfl (g_Mo_endAnd (by omega) (by omega) h) (fun r9 M9 h => ?_)
              obtain ⟨x9, rfl, h⟩ := h
              show Gd d w 160 _ (185, [some (aR 21 k0), some (aI v1), some (aI ((rI M k0 40) - ((1 : Int32)))), o3, o4], [aI x9], M9)
              obtain ⟨c0, c1, h⟩ := h
              refine gd_s (P := True ∧ True ∧ True ∧ True ∧ True ∧ (vp_in ((rI M k0 40) - ((1 : Int32))) (rK M9 (k0 + 32)).2) ∧ True ∧ True ∧ True ∧ (vp_in ((rI M k0 40) - ((1 : Int32))) (rK M9 (k0 + 33)).2) ∧ True ∧ True) (σ1 := (200, [some (aR 21 k0), some (aI v1), some (aI ((rI M k0 40) - ((1 : Int32)))), some (aI x9), o4], [aI x9, aI (rI M9 (k0 + 33) ((rI M k0 40) - ((1 : Int32))).toNatClampNeg), aI (rI M9 (k0 + 32) ((rI M k0 40) - ((1 : Int32))).toNatClampNeg), aR 21 k0], M9)) tc_160 rfl 11 (fun u => ⟨_, rfl⟩) ⟨trivial, trivial, trivial, trivial, trivial, c0, trivial, trivial, trivial, c1, trivial, trivial⟩ ?_
              refine gd_callN (ml := 4) (as := [aR 21 k0, aI (rI M9 (k0 + 32) ((rI M k0 40) - ((1 : Int32))).toNatClampNeg), aI (rI M9 (k0 + 33) ((rI M k0 40) - ((1 : Int32))).toNatClampNeg), aI x9]) (rest := []) tc_160 rfl rfl rfl rfl rfl (by omega) (by omega) (Nat.le_of_ble_eq_true rfl) rfl (g_Mo_join (by omega) (by omega) h) (fun r9 M10 h => ?_)
              obtain ⟨rfl, h⟩ := h
              show Gd d w 160 _ (203, [some (aR 21 k0), some (aI v1), some (aI ((rI M k0 40) - ((1 : Int32)))), some (aI x9), o4], [], M10)
              obtain ⟨c0, h⟩ := h
              refine gd_s (P := True ∧ True ∧ True ∧ True ∧ (vp_in ((rI M k0 40) - ((1 : Int32))) (rK M10 (k0 + 33)).2) ∧ True) (σ1 := (210, [some (aR 21 k0), some (aI v1), some (aI ((rI M k0 40) - ((1 : Int32)))), some (aI x9), o4], [], wI M10 (k0 + 33) ((rI M k0 40) - ((1 : Int32))).toNatClampNeg x9)) tc_160 rfl 5 (fun u => ⟨_, rfl⟩) ⟨trivial, trivial, trivial, trivial, c0, trivial⟩ ?_
              exact g_Mo_readExpression_J210 hd hw ih k0 (some (aI v1)) (some (aI ((rI M k0 40) - ((1 : Int32))))) (some (aI x9)) o4 (wI M10 (k0 + 33) ((rI M k0 40) - ((1 : Int32))).toNatClampNeg x9) h
            · have h := h.2 hc
              show Gd d w 160 _ (122, [some (aR 21 k0), some (aI v1), some (aI ((rI M k0 40) - ((1 : Int32)))), o3, o4], [], M)
              refine gd_s (P := True ∧ True ∧ True) (σ1 := (125, [some (aR 21 k0), some (aI v1), some (aI ((rI M k0 40) - ((1 : Int32)))), o3, o4], [aI ((13 : Int32)), aR 21 k0], M)) tc_160 rfl 2 (fun u => ⟨_, rfl⟩) ⟨trivial, trivial, trivial⟩ ?_
              refine gd_callN (ml := 3) (as := [aR 21 k0, aI ((13 : Int32))]) (rest := []) tc_160 rfl rfl rfl rfl rfl (by omega) (by omega) (Nat.le_of_ble_eq_true rfl) rfl (g_Mo_newPart (by omega) (by omega) h) (fun r9 M11 h => ?_)
              obtain ⟨x11, rfl, h⟩ := h
              show Gd d w 160 _ (128, [some (aR 21 k0), some (aI v1), some (aI ((rI M k0 40) - ((1 : Int32)))), o3, o4], [aI x11], M11)
              refine gd_s (P := True ∧ True ∧ True ∧ True ∧ True) (σ1 := (134, [some (aR 21 k0), some (aI v1), some (aI ((rI M k0 40) - ((1 : Int32)))), some (aI x11), o4], [aI ((-1 : Int32)), aI (rI M11 k0 38)], M11)) tc_160 rfl 4 (fun u => ⟨_, rfl⟩) ⟨trivial, trivial, trivial, trivial, trivial⟩ ?_
              refine gd_br (c := ¬ (rI M11 k0 38) = ((-1 : Int32))) (st1 := []) tc_160 rfl rfl (fun _ => rfl) ⟨fun hc => ?_, fun hc => ?_⟩
              · have h := h.1 hc
                show Gd d w 160 _ (144, [some (aR 21 k0), some (aI v1), some (aI ((rI M k0 40) - ((1 : Int32)))), some (aI x11), o4], [], M11)
                refine gd_s (P := True ∧ True) (σ1 := (145, [some (aR 21 k0), some (aI v1), some (aI ((rI M k0 40) - ((1 : Int32)))), some (aI x11), o4], [aI ((-1 : Int32))], M11)) tc_160 rfl 1 (fun u => ⟨_, rfl⟩) ⟨trivial, trivial⟩ ?_
                exact g_Mo_readExpression_J145 hd hw ih k0 ((rI M k0 40) - ((1 : Int32))) x11 ((-1 : Int32)) (some (aI v1)) o4 M11 h
              · have h := h.2 hc
                show Gd d w 160 _ (137, [some (aR 21 k0), some (aI v1), some (aI ((rI M k0 40) - ((1 : Int32)))), some (aI x11), o4], [], M11)
                refine gd_s (P := True ∧ True) (σ1 := (138, [some (aR 21 k0), some (aI v1), some (aI ((rI M k0 40) - ((1 : Int32)))), some (aI x11), o4], [aR 21 k0], M11)) tc_160 rfl 1 (fun u => ⟨_, rfl⟩) ⟨trivial, trivial⟩ ?_
                refine gd_callN (ml := 3) (as := [aR 21 k0]) (rest := []) tc_160 rfl rfl rfl rfl rfl (by omega) (by omega) (Nat.le_of_ble_eq_true rfl) rfl (g_Mo_endAnd (by omega) (by omega) h) (fun r9 M12 h => ?_)
                obtain ⟨x12, rfl, h⟩ := h
                show Gd d w 160 _ (141, [some (aR 21 k0), some (aI v1), some (aI ((rI M k0 40) - ((1 : Int32)))), some (aI x11), o4], [aI x12], M12)
                refine gd_s (P := True ∧ True) (σ1 := (145, [some (aR 21 k0), some (aI v1), some (aI ((rI M k0 40) - ((1 : Int32)))), some (aI x11), o4], [aI x12], M12)) tc_160 rfl 1 (fun u => ⟨_, rfl⟩) ⟨trivial, trivial⟩ ?_
                exact g_Mo_readExpression_J145 hd hw ih k0 ((rI M k0 40) - ((1 : Int32))) x11 x12 (some (aI v1)) o4 M12 h
        · have h := h.2 hc
          show Gd d w 160 _ (49, [some (aR 21 k0), some (aI v1), some (aI ((rI M k0 40) - ((1 : Int32)))), o3, o4], [], M)
          obtain ⟨c0, h⟩ := h
          refine gd_s (P := True ∧ True ∧ True ∧ (vp_in ((rI M k0 40) - ((1 : Int32))) (rK M (k0 + 34)).2) ∧ True ∧ True) (σ1 := (56, [some (aR 21 k0), some (aI v1), some (aI ((rI M k0 40) - ((1 : Int32)))), o3, o4], [aI ((-1 : Int32)), aI (rI M (k0 + 34) ((rI M k0 40) - ((1 : Int32))).toNatClampNeg)], M)) tc_160 rfl 5 (fun u => ⟨_, rfl⟩) ⟨trivial, trivial, trivial, c0, trivial, trivial⟩ ?_
          refine gd_br (c := ¬ (rI M (k0 + 34) ((rI M k0 40) - ((1 : Int32))).toNatClampNeg) = ((-1 : Int32))) (st1 := []) tc_160 rfl rfl (fun _ => rfl) ⟨fun hc => ?_, fun hc => ?_⟩
          · have h := h.1 hc
            exact g_Mo_readExpression_J93 hd hw ih k0 (some (aI v1)) (some (aI ((rI M k0 40) - ((1 : Int32))))) o3 o4 M h
          · have h := h.2 hc
            show Gd d w 160 _ (59, [some (aR 21 k0), some (aI v1), some (aI ((rI M k0 40) - ((1 : Int32)))), o3, o4], [], M)
            refine gd_s (P := True ∧ True ∧ True) (σ1 := (62, [some (aR 21 k0), some (aI v1), some (aI ((rI M k0 40) - ((1 : Int32)))), o3, o4], [aI ((14 : Int32)), aR 21 k0], M)) tc_160 rfl 2 (fun u => ⟨_, rfl⟩) ⟨trivial, trivial, trivial⟩ ?_
            refine gd_callN (ml := 3) (as := [aR 21 k0, aI ((14 : Int32))]) (rest := []) tc_160 rfl rfl rfl rfl rfl (by omega) (by omega) (Nat.le_of_ble_eq_true rfl) rfl (g_Mo_newPart (by omega) (by omega) h) (fun r9 M13 h => ?_)
            obtain ⟨x13, rfl, h⟩ := h
            show Gd d w 160 _ (65, [some (aR 21 k0), some (aI v1), some (aI ((rI M k0 40) - ((1 : Int32)))), o3, o4], [aI x13], M13)
            refine gd_s (P := True ∧ True ∧ True ∧ True ∧ True) (σ1 := (71, [some (aR 21 k0), some (aI v1), some (aI ((rI M k0 40) - ((1 : Int32)))), some (aI x13), o4], [aI ((-1 : Int32)), aI (rI M13 k0 38)], M13)) tc_160 rfl 4 (fun u => ⟨_, rfl⟩) ⟨trivial, trivial, trivial, trivial, trivial⟩ ?_
            refine gd_br (c := ¬ (rI M13 k0 38) = ((-1 : Int32))) (st1 := []) tc_160 rfl rfl (fun _ => rfl) ⟨fun hc => ?_, fun hc => ?_⟩
            · have h := h.1 hc
              exact g_Mo_readExpression_J93 hd hw ih k0 (some (aI v1)) (some (aI ((rI M k0 40) - ((1 : Int32))))) (some (aI x13)) o4 M13 h
            · have h := h.2 hc
              show Gd d w 160 _ (74, [some (aR 21 k0), some (aI v1), some (aI ((rI M k0 40) - ((1 : Int32)))), some (aI x13), o4], [], M13)
              obtain ⟨c0, h⟩ := h
              refine gd_s (P := True ∧ True ∧ True ∧ True ∧ True ∧ True ∧ (vp_in ((rI M k0 40) - ((1 : Int32))) (rK M13 (k0 + 35)).2) ∧ True) (σ1 := (83, [some (aR 21 k0), some (aI v1), some (aI ((rI M k0 40) - ((1 : Int32)))), some (aI x13), o4], [aI (rI M13 (k0 + 35) ((rI M k0 40) - ((1 : Int32))).toNatClampNeg), aI ((-1 : Int32)), aI x13, aR 21 k0], M13)) tc_160 rfl 7 (fun u => ⟨_, rfl⟩) ⟨trivial, trivial, trivial, trivial, trivial, trivial, c0, trivial⟩ ?_
              refine gd_callN (ml := 4) (as := [aR 21 k0, aI x13, aI ((-1 : Int32)), aI (rI M13 (k0 + 35) ((rI M k0 40) - ((1 : Int32))).toNatClampNeg)]) (rest := []) tc_160 rfl rfl rfl rfl rfl (by omega) (by omega) (Nat.le_of_ble_eq_true rfl) rfl (g_Mo_join (by omega) (by omega) h) (fun r9 M14 h => ?_)
              obtain ⟨rfl, h⟩ := h
              show Gd d w 160 _ (86, [some (aR 21 k0), some (aI v1), some (aI ((rI M k0 40) - ((1 : Int32)))), some (aI x13), o4], [], M14)
              obtain ⟨c0, h⟩ := h
              refine gd_s (P := True ∧ True ∧ True ∧ True ∧ (vp_in ((rI M k0 40) - ((1 : Int32))) (rK M14 (k0 + 34)).2) ∧ True) (σ1 := (93, [some (aR 21 k0), some (aI v1), some (aI ((rI M k0 40) - ((1 : Int32)))), some (aI x13), o4], [], wI M14 (k0 + 34) ((rI M k0 40) - ((1 : Int32))).toNatClampNeg x13)) tc_160 rfl 5 (fun u => ⟨_, rfl⟩) ⟨trivial, trivial, trivial, trivial, c0, trivial⟩ ?_
              exact g_Mo_readExpression_J93 hd hw ih k0 (some (aI v1)) (some (aI ((rI M k0 40) - ((1 : Int32))))) (some (aI x13)) o4 (wI M14 (k0 + 34) ((rI M k0 40) - ((1 : Int32))).toNatClampNeg x13) h
      · have h := h.2 hc
        show Gd d w 160 _ (31, [some (aR 21 k0), some (aI v1), some (aI ((rI M k0 40) - ((1 : Int32)))), o3, o4], [], M)
        refine gd_s (P := True ∧ True) (σ1 := (32, [some (aR 21 k0), some (aI v1), some (aI ((rI M k0 40) - ((1 : Int32)))), o3, o4], [aR 21 k0], M)) tc_160 rfl 1 (fun u => ⟨_, rfl⟩) ⟨trivial, trivial⟩ ?_
        refine gd_callN (ml := 3) (as := [aR 21 k0]) (rest := []) tc_160 rfl rfl rfl rfl rfl (by omega) (by omega) (Nat.le_of_ble_eq_true rfl) rfl (g_Mo_readPart (by omega) (by omega) h) (fun r9 M15 h => ?_)
        obtain ⟨x15, rfl, h⟩ := h
        show Gd d w 160 _ (35, [some (aR 21 k0), some (aI v1), some (aI ((rI M k0 40) - ((1 : Int32)))), o3, o4], [aI x15], M15)
        refine gd_s (P := True ∧ True ∧ True ∧ True) (σ1 := (12, [some (aR 21 k0), some (aI x15), some (aI ((rI M k0 40) - ((1 : Int32)))), o3, o4], [], M15)) tc_160 rfl 3 (fun u => ⟨_, rfl⟩) ⟨trivial, trivial, trivial, trivial⟩ ?_
        exact ih k0 x15 (some (aI ((rI M k0 40) - ((1 : Int32))))) o3 o4 M15 h
/-- PolicyJudgeModel.readExpression()I -/
def w_Mo_readExpression (post : Int32 → aM → Prop) (k0 : Nat) (M : aM) : Prop := w_Mo_pile (fun M1 => ∃ n9, w_Mo_readExpression_L12 post n9 k0 ((1 : Int32)) M1) k0 ((-1 : Int32)) (wI M k0 40 ((0 : Int32)))
theorem g_Mo_readExpression {d w : Nat} (hd : 10 ≤ d) (hw : 293 ≤ w) {post : Int32 → aM → Prop} {k0 : Nat} {M : aM} (h : w_Mo_readExpression post k0 M) : Gd d w 160 (pI post) (0, aEnt 160 [aR 21 k0], [], M) := by
  unfold w_Mo_readExpression at h
  show Gd d w 160 _ (0, [some (aR 21 k0), none, none, none, none], [], M)
  refine gd_s (P := True ∧ True ∧ True ∧ True ∧ True ∧ True) (σ1 := (7, [some (aR 21 k0), none, none, none, none], [aI ((-1 : Int32)), aR 21 k0], wI M k0 40 ((0 : Int32)))) tc_160 rfl 5 (fun u => ⟨_, rfl⟩) ⟨trivial, trivial, trivial, trivial, trivial, trivial⟩ ?_
  refine gd_callN (ml := 2) (as := [aR 21 k0, aI ((-1 : Int32))]) (rest := []) tc_160 rfl rfl rfl rfl rfl (by omega) (by omega) (Nat.le_of_ble_eq_true rfl) rfl (g_Mo_pile (by omega) (by omega) h) (fun r9 M1 h => ?_)
  obtain ⟨rfl, h⟩ := h
  show Gd d w 160 _ (10, [some (aR 21 k0), none, none, none, none], [], M1)
  refine gd_s (P := True ∧ True ∧ True) (σ1 := (12, [some (aR 21 k0), some (aI ((1 : Int32))), none, none, none], [], M1)) tc_160 rfl 2 (fun u => ⟨_, rfl⟩) ⟨trivial, trivial, trivial⟩ ?_
  obtain ⟨n9, h⟩ := h
  exact g_Mo_readExpression_L12 hd hw n9 k0 ((1 : Int32)) none none none M1 h
theorem tc_159 : tC 159 = c159 := rfl
/-- PolicyJudgeModel.forPart(I)V -/
def w_Mo_forPart (post : aM → Prop) (k0 : Nat) (v1 : Int32) (M : aM) : Prop := ((¬ (rI M k0 38) = ((-1 : Int32))) → post M) ∧ (¬ (¬ (rI M k0 38) = ((-1 : Int32))) → w_Mo_isWord (fun x1 => ((x1 = ((0 : Int32))) → post M) ∧ (¬ (x1 = ((0 : Int32))) → w_Mo_nextToken (fun M2 => w_Mo_readExpression (fun x3 M3 => (vp_in (((200 : Int32)) + v1) (rK M3 (k0 + 14)).2) ∧ post (wI M3 (k0 + 14) (((200 : Int32)) + v1).toNatClampNeg x3)) k0 M2) k0 M)) k0 20 M)
theorem g_Mo_forPart {d w : Nat} (hd : 11 ≤ d) (hw : 317 ≤ w) {post : aM → Prop} {k0 : Nat} {v1 : Int32} {M : aM} (h : w_Mo_forPart post k0 v1 M) : Gd d w 159 (pV post) (0, aEnt 159 [aR 21 k0, aI v1], [], M) := by
  unfold w_Mo_forPart at h
  show Gd d w 159 _ (0, [some (aR 21 k0), some (aI v1)], [], M)
  refine gd_s (P := True ∧ True ∧ True ∧ True) (σ1 := (5, [some (aR 21 k0), some (aI v1)], [aI ((-1 : Int32)), aI (rI M k0 38)], M)) tc_159 rfl 3 (fun u => ⟨_, rfl⟩) ⟨trivial, trivial, trivial, trivial⟩ ?_
  refine gd_br (c := ¬ (rI M k0 38) = ((-1 : Int32))) (st1 := []) tc_159 rfl rfl (fun _ => rfl) ⟨fun hc => ?_, fun hc => ?_⟩
  · have h := h.1 hc
    show Gd d w 159 _ (36, [some (aR 21 k0), some (aI v1)], [], M)
    exact gd_ret tc_159 rfl rfl trivial (fun _ => rfl) ⟨rfl, h⟩
  · have h := h.2 hc
    show Gd d w 159 _ (8, [some (aR 21 k0), some (aI v1)], [], M)
    refine gd_s (P := True ∧ True ∧ True) (σ1 := (12, [some (aR 21 k0), some (aI v1)], [aR 1 20, aR 21 k0], M)) tc_159 rfl 2 (fun u => ⟨_, rfl⟩) ⟨trivial, trivial, trivial⟩ ?_
    refine gd_callN (ml := 4) (as := [aR 21 k0, aR 1 20]) (rest := []) tc_159 rfl rfl rfl rfl rfl (by omega) (by omega) (Nat.le_of_ble_eq_true rfl) rfl (g_Mo_isWord (by omega) (by omega) h) (fun r9 M9 h => ?_)
    obtain ⟨x1, rfl, e9, h⟩ := h
    subst M9
    show Gd d w 159 _ (15, [some (aR 21 k0), some (aI v1)], [aI x1], M)
    refine gd_br (c := x1 = ((0 : Int32))) (st1 := []) tc_159 rfl rfl (fun _ => rfl) ⟨fun hc => ?_, fun hc => ?_⟩
    · have h := h.1 hc
      show Gd d w 159 _ (36, [some (aR 21 k0), some (aI v1)], [], M)
      exact gd_ret tc_159 rfl rfl trivial (fun _ => rfl) ⟨rfl, h⟩
    · have h := h.2 hc
      show Gd d w 159 _ (18, [some (aR 21 k0), some (aI v1)], [], M)
      refine gd_s (P := True ∧ True) (σ1 := (19, [some (aR 21 k0), some (aI v1)], [aR 21 k0], M)) tc_159 rfl 1 (fun u => ⟨_, rfl⟩) ⟨trivial, trivial⟩ ?_
      refine gd_callN (ml := 2) (as := [aR 21 k0]) (rest := []) tc_159 rfl rfl rfl rfl rfl (by omega) (by omega) (Nat.le_of_ble_eq_true rfl) rfl (g_Mo_nextToken (by omega) (by omega) h) (fun r9 M2 h => ?_)
      obtain ⟨rfl, h⟩ := h
      show Gd d w 159 _ (22, [some (aR 21 k0), some (aI v1)], [], M2)
      refine gd_s (P := True ∧ True ∧ True ∧ True ∧ True ∧ True ∧ True) (σ1 := (32, [some (aR 21 k0), some (aI v1)], [aR 21 k0, aI (((200 : Int32)) + v1), aR 4 (k0 + 14)], M2)) tc_159 rfl 6 (fun u => ⟨_, rfl⟩) ⟨trivial, trivial, trivial, trivial, trivial, trivial, trivial⟩ ?_
      refine gd_callN (ml := 5) (as := [aR 21 k0]) (rest := [aI (((200 : Int32)) + v1), aR 4 (k0 + 14)]) tc_159 rfl rfl rfl rfl rfl (by omega) (by omega) (Nat.le_of_ble_eq_true rfl) rfl (g_Mo_readExpression (by omega) (by omega) h) (fun r9 M3 h => ?_)
      obtain ⟨x3, rfl, h⟩ := h
      show Gd d w 159 _ (35, [some (aR 21 k0), some (aI v1)], [aI x3, aI (((200 : Int32)) + v1), aR 4 (k0 + 14)], M3)
      obtain ⟨c0, h⟩ := h
      refine gd_s (P := (vp_in (((200 : Int32)) + v1) (rK M3 (k0 + 14)).2) ∧ True) (σ1 := (36, [some (aR 21 k0), some (aI v1)], [], wI M3 (k0 + 14) (((200 : Int32)) + v1).toNatClampNeg x3)) tc_159 rfl 1 (fun u => ⟨_, rfl⟩) ⟨c0, trivial⟩ ?_
      exact gd_ret tc_159 rfl rfl trivial (fun _ => rfl) ⟨rfl, h⟩
theorem tc_157 : tC 157 = c157 := rfl
def w_Mo_beginSet_J129 (post : Int32 → aM → Prop) (k0 : Nat) (v2 : Int32) (M : aM) : Prop := w_Mo_nextToken (fun M1 => post v2 M1) k0 (wI M k0 39 ((rI M k0 39) + ((1 : Int32))))
theorem g_Mo_beginSet_J129 {d w : Nat} (hd : 12 ≤ d) (hw : 338 ≤ w) {post : Int32 → aM → Prop} (k0 : Nat) (v2 : Int32) (o1 o3 : Option aV) (M : aM) (h : w_Mo_beginSet_J129 post k0 v2 M) : Gd d w 157 (pI post) (129, [some (aR 21 k0), o1, some (aI v2), o3], [], M) := by
  unfold w_Mo_beginSet_J129 at h
  show Gd d w 157 _ (129, [some (aR 21 k0), o1, some (aI v2), o3], [], M)
  refine gd_s (P := True ∧ True ∧ True ∧ True ∧ True ∧ True ∧ True ∧ True) (σ1 := (140, [some (aR 21 k0), o1, some (aI v2), o3], [aR 21 k0], wI M k0 39 ((rI M k0 39) + ((1 : Int32))))) tc_157 rfl 7 (fun u => ⟨_, rfl⟩) ⟨trivial, trivial, trivial, trivial, trivial, trivial, trivial, trivial⟩ ?_
  refine gd_callN (ml := 2) (as := [aR 21 k0]) (rest := []) tc_157 rfl rfl rfl rfl rfl (by omega) (by omega) (Nat.le_of_ble_eq_true rfl) rfl (g_Mo_nextToken (by omega) (by omega) h) (fun r9 M1 h => ?_)
  obtain ⟨rfl, h⟩ := h
  show Gd d w 157 _ (143, [some (aR 21 k0), o1, some (aI v2), o3], [], M1)
  refine gd_s (P := True ∧ True) (σ1 := (144, [some (aR 21 k0), o1, some (aI v2), o3], [aI v2], M1)) tc_157 rfl 1 (fun u => ⟨_, rfl⟩) ⟨trivial, trivial⟩ ?_
  exact gd_ret tc_157 rfl rfl trivial (fun _ => rfl) ⟨_, rfl, h⟩
def w_Mo_beginSet_J74 (post : Int32 → aM → Prop) (k0 : Nat) (v2 : Int32) (v3 : Int32) (t0 : Nat) (s1 : Int32) (M : aM) : Prop := w_Mo_need (fun M1 => (vp_in (((200 : Int32)) + v2) (rK M1 (k0 + 12)).2) ∧ (w_Mo_nextToken (fun M2 => w_Mo_forPart (fun M3 => w_Mo_is (fun x4 => w_Mo_need (fun M5 => ((¬ (rI M5 k0 38) = ((-1 : Int32))) → w_Mo_beginSet_J129 post k0 v2 M5) ∧ (¬ (¬ (rI M5 k0 38) = ((-1 : Int32))) → ((¬ (rI M5 k0 39) = ((20 : Int32))) → w_Mo_beginSet_J129 post k0 v2 M5) ∧ (¬ (¬ (rI M5 k0 39) = ((20 : Int32))) → w_Mo_bad (fun M6 => w_Mo_beginSet_J129 post k0 v2 M6) k0 ((5 : Int32)) M5))) k0 x4 M3) k0 ((123 : Int32)) M3) k0 v2 M2) k0 (wI M1 (k0 + 12) (((200 : Int32)) + v2).toNatClampNeg v3))) t0 s1 M
theorem g_Mo_beginSet_J74 {d w : Nat} (hd : 12 ≤ d) (hw : 338 ≤ w) {post : Int32 → aM → Prop} (k0 : Nat) (v2 : Int32) (v3 : Int32) (t0 : Nat) (s1 : Int32) (o1 : Option aV) (M : aM) (h : w_Mo_beginSet_J74 post k0 v2 v3 t0 s1 M) : Gd d w 157 (pI post) (74, [some (aR 21 k0), o1, some (aI v2), some (aI v3)], [aI s1, aR 21 t0], M) := by
  unfold w_Mo_beginSet_J74 at h
  show Gd d w 157 _ (74, [some (aR 21 k0), o1, some (aI v2), some (aI v3)], [aI s1, aR 21 t0], M)
  refine gd_callN (ml := 2) (as := [aR 21 t0, aI s1]) (rest := []) tc_157 rfl rfl rfl rfl rfl (by omega) (by omega) (Nat.le_of_ble_eq_true rfl) rfl (g_Mo_need (by omega) (by omega) h) (fun r9 M1 h => ?_)
  obtain ⟨rfl, h⟩ := h
  show Gd d w 157 _ (77, [some (aR 21 k0), o1, some (aI v2), some (aI v3)], [], M1)
  obtain ⟨c0, h⟩ := h
  refine gd_s (P := True ∧ True ∧ True ∧ True ∧ True ∧ True ∧ (vp_in (((200 : Int32)) + v2) (rK M1 (k0 + 12)).2) ∧ True ∧ True) (σ1 := (89, [some (aR 21 k0), o1, some (aI v2), some (aI v3)], [aR 21 k0], wI M1 (k0 + 12) (((200 : Int32)) + v2).toNatClampNeg v3)) tc_157 rfl 8 (fun u => ⟨_, rfl⟩) ⟨trivial, trivial, trivial, trivial, trivial, trivial, c0, trivial, trivial⟩ ?_
  refine gd_callN (ml := 2) (as := [aR 21 k0]) (rest := []) tc_157 rfl rfl rfl rfl rfl (by omega) (by omega) (Nat.le_of_ble_eq_true rfl) rfl (g_Mo_nextToken (by omega) (by omega) h) (fun r9 M2 h => ?_)
  obtain ⟨rfl, h⟩ := h
  show Gd d w 157 _ (92, [some (aR 21 k0), o1, some (aI v2), some (aI v3)], [], M2)
  refine gd_s (P := True ∧ True ∧ True) (σ1 := (94, [some (aR 21 k0), o1, some (aI v2), some (aI v3)], [aI v2, aR 21 k0], M2)) tc_157 rfl 2 (fun u => ⟨_, rfl⟩) ⟨trivial, trivial, trivial⟩ ?_
  refine gd_callN (ml := 2) (as := [aR 21 k0, aI v2]) (rest := []) tc_157 rfl rfl rfl rfl rfl (by omega) (by omega) (Nat.le_of_ble_eq_true rfl) rfl (g_Mo_forPart (by omega) (by omega) h) (fun r9 M3 h => ?_)
  obtain ⟨rfl, h⟩ := h
  show Gd d w 157 _ (97, [some (aR 21 k0), o1, some (aI v2), some (aI v3)], [], M3)
  refine gd_s (P := True ∧ True ∧ True ∧ True) (σ1 := (101, [some (aR 21 k0), o1, some (aI v2), some (aI v3)], [aI ((123 : Int32)), aR 21 k0, aR 21 k0], M3)) tc_157 rfl 3 (fun u => ⟨_, rfl⟩) ⟨trivial, trivial, trivial, trivial⟩ ?_
  refine gd_callN (ml := 2) (as := [aR 21 k0, aI ((123 : Int32))]) (rest := [aR 21 k0]) tc_157 rfl rfl rfl rfl rfl (by omega) (by omega) (Nat.le_of_ble_eq_true rfl) rfl (g_Mo_is (by omega) (by omega) h) (fun r9 M9 h => ?_)
  obtain ⟨x4, rfl, e9, h⟩ := h
  subst M9
  show Gd d w 157 _ (104, [some (aR 21 k0), o1, some (aI v2), some (aI v3)], [aI x4, aR 21 k0], M3)
  refine gd_callN (ml := 2) (as := [aR 21 k0, aI x4]) (rest := []) tc_157 rfl rfl rfl rfl rfl (by omega) (by omega) (Nat.le_of_ble_eq_true rfl) rfl (g_Mo_need (by omega) (by omega) h) (fun r9 M5 h => ?_)
  obtain ⟨rfl, h⟩ := h
  show Gd d w 157 _ (107, [some (aR 21 k0), o1, some (aI v2), some (aI v3)], [], M5)
  refine gd_s (P := True ∧ True ∧ True ∧ True) (σ1 := (112, [some (aR 21 k0), o1, some (aI v2), some (aI v3)], [aI ((-1 : Int32)), aI (rI M5 k0 38)], M5)) tc_157 rfl 3 (fun u => ⟨_, rfl⟩) ⟨trivial, trivial, trivial, trivial⟩ ?_
  refine gd_br (c := ¬ (rI M5 k0 38) = ((-1 : Int32))) (st1 := []) tc_157 rfl rfl (fun _ => rfl) ⟨fun hc => ?_, fun hc => ?_⟩
  · have h := h.1 hc
    exact g_Mo_beginSet_J129 hd hw k0 v2 o1 (some (aI v3)) M5 h
  · have h := h.2 hc
    show Gd d w 157 _ (115, [some (aR 21 k0), o1, some (aI v2), some (aI v3)], [], M5)
    refine gd_s (P := True ∧ True ∧ True ∧ True) (σ1 := (121, [some (aR 21 k0), o1, some (aI v2), some (aI v3)], [aI ((20 : Int32)), aI (rI M5 k0 39)], M5)) tc_157 rfl 3 (fun u => ⟨_, rfl⟩) ⟨trivial, trivial, trivial, trivial⟩ ?_
    refine gd_br (c := ¬ (rI M5 k0 39) = ((20 : Int32))) (st1 := []) tc_157 rfl rfl (fun _ => rfl) ⟨fun hc => ?_, fun hc => ?_⟩
    · have h := h.1 hc
      exact g_Mo_beginSet_J129 hd hw k0 v2 o1 (some (aI v3)) M5 h
    · have h := h.2 hc
      show Gd d w 157 _ (124, [some (aR 21 k0), o1, some (aI v2), some (aI v3)], [], M5)
      refine gd_s (P := True ∧ True ∧ True) (σ1 := (126, [some (aR 21 k0), o1, some (aI v2), some (aI v3)], [aI ((5 : Int32)), aR 21 k0], M5)) tc_157 rfl 2 (fun u => ⟨_, rfl⟩) ⟨trivial, trivial, trivial⟩ ?_
      refine gd_callN (ml := 2) (as := [aR 21 k0, aI ((5 : Int32))]) (rest := []) tc_157 rfl rfl rfl rfl rfl (by omega) (by omega) (Nat.le_of_ble_eq_true rfl) rfl (g_Mo_bad (by omega) (by omega) h) (fun r9 M6 h => ?_)
      obtain ⟨rfl, h⟩ := h
      exact g_Mo_beginSet_J129 hd hw k0 v2 o1 (some (aI v3)) M6 h
def w_Mo_beginSet_J62 (post : Int32 → aM → Prop) (k0 : Nat) (v2 : Int32) (s0 : Int32) (M : aM) : Prop := ((s0 = ((-1 : Int32))) → w_Mo_beginSet_J74 post k0 v2 s0 k0 ((0 : Int32)) M) ∧ (¬ (s0 = ((-1 : Int32))) → w_Mo_beginSet_J74 post k0 v2 s0 k0 ((1 : Int32)) M)
theorem g_Mo_beginSet_J62 {d w : Nat} (hd : 12 ≤ d) (hw : 338 ≤ w) {post : Int32 → aM → Prop} (k0 : Nat) (v2 : Int32) (s0 : Int32) (o1 o3 : Option aV) (M : aM) (h : w_Mo_beginSet_J62 post k0 v2 s0 M) : Gd d w 157 (pI post) (62, [some (aR 21 k0), o1, some (aI v2), o3], [aI s0], M) := by
  unfold w_Mo_beginSet_J62 at h
  show Gd d w 157 _ (62, [some (aR 21 k0), o1, some (aI v2), o3], [aI s0], M)
  refine gd_s (P := True ∧ True ∧ True ∧ True ∧ True) (σ1 := (66, [some (aR 21 k0), o1, some (aI v2), some (aI s0)], [aI ((-1 : Int32)), aI s0, aR 21 k0], M)) tc_157 rfl 4 (fun u => ⟨_, rfl⟩) ⟨trivial, trivial, trivial, trivial, trivial⟩ ?_
  refine gd_br (c := s0 = ((-1 : Int32))) (st1 := [aR 21 k0]) tc_157 rfl rfl (fun _ => rfl) ⟨fun hc => ?_, fun hc => ?_⟩
  · have h := h.1 hc
    show Gd d w 157 _ (73, [some (aR 21 k0), o1, some (aI v2), some (aI s0)], [aR 21 k0], M)
    refine gd_s (P := True ∧ True) (σ1 := (74, [some (aR 21 k0), o1, some (aI v2), some (aI s0)], [aI ((0 : Int32)), aR 21 k0], M)) tc_157 rfl 1 (fun u => ⟨_, rfl⟩) ⟨trivial, trivial⟩ ?_
    exact g_Mo_beginSet_J74 hd hw k0 v2 s0 k0 ((0 : Int32)) o1 M h
  · have h := h.2 hc
    show Gd d w 157 _ (69, [some (aR 21 k0), o1, some (aI v2), some (aI s0)], [aR 21 k0], M)
    refine gd_s (P := True ∧ True ∧ True) (σ1 := (74, [some (aR 21 k0), o1, some (aI v2), some (aI s0)], [aI ((1 : Int32)), aR 21 k0], M)) tc_157 rfl 2 (fun u => ⟨_, rfl⟩) ⟨trivial, trivial, trivial⟩ ?_
    exact g_Mo_beginSet_J74 hd hw k0 v2 s0 k0 ((1 : Int32)) o1 M h
/-- PolicyJudgeModel.beginSet(I)I -/
def w_Mo_beginSet (post : Int32 → aM → Prop) (k0 : Nat) (v1 : Int32) (M : aM) : Prop := w_Mo_newNode (fun x1 M1 => w_Mo_nextToken (fun M2 => w_Mo_isName (fun x3 => w_Mo_need (fun M4 => (((rI M4 k0 38) = ((-1 : Int32))) → w_Mo_nameOf (fun x5 => w_Mo_keepName (fun M6 => w_Mo_nextToken (fun M7 => ((¬ (rI M7 k0 38) = ((-1 : Int32))) → w_Mo_beginSet_J62 post k0 x1 ((-1 : Int32)) M7) ∧ (¬ (¬ (rI M7 k0 38) = ((-1 : Int32))) → w_Mo_among (fun x8 => w_Mo_beginSet_J62 post k0 x1 x8 M7) k0 3 M7)) k0 M6) k0 x5 M4) ((2 : Int32)) ((1 : Int32)) x1 M4) ∧ (¬ ((rI M4 k0 38) = ((-1 : Int32))) → post x1 M4)) k0 x3 M2) k0 M2) k0 M1) k0 ((2 : Int32)) v1 M
theorem g_Mo_beginSet {d w : Nat} (hd : 12 ≤ d) (hw : 338 ≤ w) {post : Int32 → aM → Prop} {k0 : Nat} {v1 : Int32} {M : aM} (h : w_Mo_beginSet post k0 v1 M) : Gd d w 157 (pI post) (0, aEnt 157 [aR 21 k0, aI v1], [], M) := by
  unfold w_Mo_beginSet at h
  show Gd d w 157 _ (0, [some (aR 21 k0), some (aI v1), none, none], [], M)
  refine gd_s (P := True ∧ True ∧ True ∧ True) (σ1 := (3, [some (aR 21 k0), some (aI v1), none, none], [aI v1, aI ((2 : Int32)), aR 21 k0], M)) tc_157 rfl 3 (fun u => ⟨_, rfl⟩) ⟨trivial, trivial, trivial, trivial⟩ ?_
  refine gd_callN (ml := 4) (as := [aR 21 k0, aI ((2 : Int32)), aI v1]) (rest := []) tc_157 rfl rfl rfl rfl rfl (by omega) (by omega) (Nat.le_of_ble_eq_true rfl) rfl (g_Mo_newNode (by omega) (by omega) h) (fun r9 M1 h => ?_)
  obtain ⟨x1, rfl, h⟩ := h
  show Gd d w 157 _ (6, [some (aR 21 k0), some (aI v1), none, none], [aI x1], M1)
  refine gd_s (P := True ∧ True ∧ True) (σ1 := (8, [some (aR 21 k0), some (aI v1), some (aI x1), none], [aR 21 k0], M1)) tc_157 rfl 2 (fun u => ⟨_, rfl⟩) ⟨trivial, trivial, trivial⟩ ?_
  refine gd_callN (ml := 2) (as := [aR 21 k0]) (rest := []) tc_157 rfl rfl rfl rfl rfl (by omega) (by omega) (Nat.le_of_ble_eq_true rfl) rfl (g_Mo_nextToken (by omega) (by omega) h) (fun r9 M2 h => ?_)
  obtain ⟨rfl, h⟩ := h
  show Gd d w 157 _ (11, [some (aR 21 k0), some (aI v1), some (aI x1), none], [], M2)
  refine gd_s (P := True ∧ True ∧ True) (σ1 := (13, [some (aR 21 k0), some (aI v1), some (aI x1), none], [aR 21 k0, aR 21 k0], M2)) tc_157 rfl 2 (fun u => ⟨_, rfl⟩) ⟨trivial, trivial, trivial⟩ ?_
  refine gd_callN (ml := 1) (as := [aR 21 k0]) (rest := [aR 21 k0]) tc_157 rfl rfl rfl rfl rfl (by omega) (by omega) (Nat.le_of_ble_eq_true rfl) rfl (g_Mo_isName (by omega) (by omega) h) (fun r9 M9 h => ?_)
  obtain ⟨x3, rfl, e9, h⟩ := h
  subst M9
  show Gd d w 157 _ (16, [some (aR 21 k0), some (aI v1), some (aI x1), none], [aI x3, aR 21 k0], M2)
  refine gd_callN (ml := 2) (as := [aR 21 k0, aI x3]) (rest := []) tc_157 rfl rfl rfl rfl rfl (by omega) (by omega) (Nat.le_of_ble_eq_true rfl) rfl (g_Mo_need (by omega) (by omega) h) (fun r9 M4 h => ?_)
  obtain ⟨rfl, h⟩ := h
  show Gd d w 157 _ (19, [some (aR 21 k0), some (aI v1), some (aI x1), none], [], M4)
  refine gd_s (P := True ∧ True ∧ True ∧ True) (σ1 := (24, [some (aR 21 k0), some (aI v1), some (aI x1), none], [aI ((-1 : Int32)), aI (rI M4 k0 38)], M4)) tc_157 rfl 3 (fun u => ⟨_, rfl⟩) ⟨trivial, trivial, trivial, trivial⟩ ?_
  refine gd_br (c := (rI M4 k0 38) = ((-1 : Int32))) (st1 := []) tc_157 rfl rfl (fun _ => rfl) ⟨fun hc => ?_, fun hc => ?_⟩
  · have h := h.1 hc
    show Gd d w 157 _ (29, [some (aR 21 k0), some (aI v1), some (aI x1), none], [], M4)
    refine gd_s (P := True ∧ True ∧ True ∧ True ∧ True) (σ1 := (33, [some (aR 21 k0), some (aI v1), some (aI x1), none], [aI x1, aI ((1 : Int32)), aI ((2 : Int32)), aR 21 k0], M4)) tc_157 rfl 4 (fun u => ⟨_, rfl⟩) ⟨trivial, trivial, trivial, trivial, trivial⟩ ?_
    refine gd_callN (ml := 3) (as := [aI ((2 : Int32)), aI ((1 : Int32)), aI x1]) (rest := [aR 21 k0]) tc_157 rfl rfl rfl rfl rfl (by omega) (by omega) (Nat.le_of_ble_eq_true rfl) rfl (g_Mo_nameOf (by omega) (by omega) h) (fun r9 M9 h => ?_)
    obtain ⟨x5, rfl, e9, h⟩ := h
    subst M9
    show Gd d w 157 _ (36, [some (aR 21 k0), some (aI v1), some (aI x1), none], [aI x5, aR 21 k0], M4)
    refine gd_callN (ml := 3) (as := [aR 21 k0, aI x5]) (rest := []) tc_157 rfl rfl rfl rfl rfl (by omega) (by omega) (Nat.le_of_ble_eq_true rfl) rfl (g_Mo_keepName (by omega) (by omega) h) (fun r9 M6 h => ?_)
    obtain ⟨rfl, h⟩ := h
    show Gd d w 157 _ (39, [some (aR 21 k0), some (aI v1), some (aI x1), none], [], M6)
    refine gd_s (P := True ∧ True) (σ1 := (40, [some (aR 21 k0), some (aI v1), some (aI x1), none], [aR 21 k0], M6)) tc_157 rfl 1 (fun u => ⟨_, rfl⟩) ⟨trivial, trivial⟩ ?_
    refine gd_callN (ml := 2) (as := [aR 21 k0]) (rest := []) tc_157 rfl rfl rfl rfl rfl (by omega) (by omega) (Nat.le_of_ble_eq_true rfl) rfl (g_Mo_nextToken (by omega) (by omega) h) (fun r9 M7 h => ?_)
    obtain ⟨rfl, h⟩ := h
    show Gd d w 157 _ (43, [some (aR 21 k0), some (aI v1), some (aI x1), none], [], M7)
    refine gd_s (P := True ∧ True ∧ True ∧ True) (σ1 := (48, [some (aR 21 k0), some (aI v1), some (aI x1), none], [aI ((-1 : Int32)), aI (rI M7 k0 38)], M7)) tc_157 rfl 3 (fun u => ⟨_, rfl⟩) ⟨trivial, trivial, trivial, trivial⟩ ?_
    refine gd_br (c := ¬ (rI M7 k0 38) = ((-1 : Int32))) (st1 := []) tc_157 rfl rfl (fun _ => rfl) ⟨fun hc => ?_, fun hc => ?_⟩
    · have h := h.1 hc
      show Gd d w 157 _ (61, [some (aR 21 k0), some (aI v1), some (aI x1), none], [], M7)
      refine gd_s (P := True ∧ True) (σ1 := (62, [some (aR 21 k0), some (aI v1), some (aI x1), none], [aI ((-1 : Int32))], M7)) tc_157 rfl 1 (fun u => ⟨_, rfl⟩) ⟨trivial, trivial⟩ ?_
      exact g_Mo_beginSet_J62 hd hw k0 x1 ((-1 : Int32)) (some (aI v1)) none M7 h
    · have h := h.2 hc
      show Gd d w 157 _ (51, [some (aR 21 k0), some (aI v1), some (aI x1), none], [], M7)
      refine gd_s (P := True ∧ True ∧ True) (σ1 := (55, [some (aR 21 k0), some (aI v1), some (aI x1), none], [aR 1 3, aR 21 k0], M7)) tc_157 rfl 2 (fun u => ⟨_, rfl⟩) ⟨trivial, trivial, trivial⟩ ?_
      refine gd_callN (ml := 7) (as := [aR 21 k0, aR 1 3]) (rest := []) tc_157 rfl rfl rfl rfl rfl (by omega) (by omega) (Nat.le_of_ble_eq_true rfl) rfl (g_Mo_among (by omega) (by omega) h) (fun r9 M9 h => ?_)
      obtain ⟨x8, rfl, e9, h⟩ := h
      subst M9
      show Gd d w 157 _ (58, [some (aR 21 k0), some (aI v1), some (aI x1), none], [aI x8], M7)
      refine gd_s (P := True ∧ True) (σ1 := (62, [some (aR 21 k0), some (aI v1), some (aI x1), none], [aI x8], M7)) tc_157 rfl 1 (fun u => ⟨_, rfl⟩) ⟨trivial, trivial⟩ ?_
      exact g_Mo_beginSet_J62 hd hw k0 x1 x8 (some (aI v1)) none M7 h
  · have h := h.2 hc
    show Gd d w 157 _ (27, [some (aR 21 k0), some (aI v1), some (aI x1), none], [], M4)
    refine gd_s (P := True ∧ True) (σ1 := (28, [some (aR 21 k0), some (aI v1), some (aI x1), none], [aI x1], M4)) tc_157 rfl 1 (fun u => ⟨_, rfl⟩) ⟨trivial, trivial⟩ ?_
    exact gd_ret tc_157 rfl rfl trivial (fun _ => rfl) ⟨_, rfl, h⟩
