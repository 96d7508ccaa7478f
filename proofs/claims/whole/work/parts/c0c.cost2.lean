/-! HOW LONG the print is, III: joints, parts, 'for'. -/
theorem CP_pj {T : Txt} {j last x w c : Nat} (hj : j < T.np) (hw : T.pk j = w) (hc : (w = 10 ∧ c = 4) ∨ (w = 11 ∧ c = 5)) (h1 : 1 ≤ T.pj j) : CP (Txt.s_pj (Txt.s_pn T (up T.pn last (some x))) (up T.pj j (T.pj j + 1))) = CP T + c := by
  have key := sm_up (f := cpt T) (f' := cpt (Txt.s_pj (Txt.s_pn T (up T.pn last (some x))) (up T.pj j (T.pj j + 1)))) T.np hj (fun i hi hn => cpt_fr ⟨rfl, rfl, rfl, up_n hn, rfl⟩ rfl rfl)
  have e1 : cpt (Txt.s_pj (Txt.s_pn T (up T.pn last (some x))) (up T.pj j (T.pj j + 1))) j = cpt T j + c := by
    unfold cpt
    show (if T.pk j = 10 then 2 + 4 * (up T.pj j (T.pj j + 1) j - 1) else if T.pk j = 11 then 2 + 5 * (up T.pj j (T.pj j + 1) j - 1) else _) = _
    rw [up_s]
    rcases hc with ⟨a, b⟩ | ⟨a, b⟩
    · rw [if_pos (by omega), if_pos (by omega)]; omega
    · rw [if_neg (by omega), if_pos (by omega), if_neg (by omega), if_pos (by omega)]; omega
  unfold CP
  show sm _ T.np = _
  omega
theorem CP_joint {s s0 : PS} {w x : Nat} (A : AP s.T s0.T w) (hw : w = 10 ∨ w = 11) : CP (Txt.s_pj (Txt.s_pf s0.T (up s0.T.pf s.T.np (some x))) (up s0.T.pj s.T.np 1)) = CP s.T + 2 := by
  have e := CP_new (T := s.T) (T' := (Txt.s_pj (Txt.s_pf s0.T (up s0.T.pf s.T.np (some x))) (up s0.T.pj s.T.np 1))) A.np (fun i hi => ((A.lw i hi).1).trans ⟨rfl, rfl, rfl, up_n (by omega), up_n (by omega)⟩) (A.sn.trans ⟨rfl, rfl, rfl, rfl, rfl, rfl, rfl, rfl, rfl, rfl, rfl, rfl, rfl, rfl, rfl, rfl, rfl, rfl, rfl, rfl, rfl⟩)
  rw [e]
  congr 1
  unfold cpt
  show (if s0.T.pk s.T.np = 10 then 2 + 4 * (up s0.T.pj s.T.np 1 s.T.np - 1) else if s0.T.pk s.T.np = 11 then 2 + 5 * (up s0.T.pj s.T.np 1 s.T.np - 1) else _) = 2
  rw [up_s, A.pk, up_s]
  rcases hw with a | a
  · rw [if_pos a]
  · rw [if_neg (by omega), if_pos a]
theorem CP_not {T : Txt} {p x : Nat} (h : T.pk p = 12) : CP (Txt.s_pj (Txt.s_pf T (up T.pf p (some x))) (up T.pj p 1)) = CP T := by
  refine sm_fr _ (fun i hi => ?_)
  by_cases z : i = p
  · subst z
    unfold cpt
    show (if T.pk i = 10 then _ else if T.pk i = 11 then _ else if T.pk i = 12 then 4 else _) = _
    rw [if_neg (by omega), if_neg (by omega), if_pos h, if_neg (by omega), if_neg (by omega), if_pos h]
  · exact cpt_fr ⟨rfl, rfl, rfl, up_n z, up_n z⟩ rfl rfl
theorem CP_not2 {z : PS} {p x : Nat} (h : z.T.pk p = 12) : CP (cmpl p (PS.s_T z ((Txt.s_pj (Txt.s_pf z.T (up z.T.pf p (some x))) (up z.T.pj p 1))))).T = CP z.T := by
  have e : CP (cmpl p (PS.s_T z ((Txt.s_pj (Txt.s_pf z.T (up z.T.pf p (some x))) (up z.T.pj p 1))))).T = CP (Txt.s_pj (Txt.s_pf z.T (up z.T.pf p (some x))) (up z.T.pj p 1)) := sm_fr _ (fun i hi => cpt_fr ⟨rfl, rfl, rfl, rfl, rfl⟩ rfl rfl)
  rw [e]; exact CP_not h
theorem gnot {k : Tk} {s z : PS} {p x : Nat} (e : CP (cmpl p (PS.s_T z ((Txt.s_pj (Txt.s_pf z.T (up z.T.pf p (some x))) (up z.T.pj p 1))))).T = CP z.T) (h : CP z.T + 1 + 2 * k.pl s.i ≤ CP s.T + 2 * k.pl z.i) : GO k 1 s (p, cmpl p (PS.s_T z ((Txt.s_pj (Txt.s_pf z.T (up z.T.pf p (some x))) (up z.T.pj p 1))))) := by
  show CP (cmpl p (PS.s_T z ((Txt.s_pj (Txt.s_pf z.T (up z.T.pf p (some x))) (up z.T.pj p 1))))).T + 1 + 2 * k.pl s.i ≤ CP s.T + 2 * k.pl z.i
  rw [e]; exact h
section CJ2
variable {k : Tk} {N : Nat}
def Csp (k : Tk) (P : PS → PR (Nat × PS)) (a : Nat) : Prop := ∀ s : PS, (∀ x, x < s.T.na → s.T.asz x ≤ 8) → (∀ x, x < s.T.na → 1 ≤ s.T.anl x) → Ex (GO k a s) (fun _ => True) (P s)
theorem fMore_c (tl : TL k N) {w c l g h : Nat} {P : PS → PR (Nat × PS)} (hw : (w = 10 ∧ c = 4 ∧ l = 2 ∧ g = 1) ∨ (w = 11 ∧ c = 5 ∧ l = 3 ∧ g = 2)) (hP : Rds P h) (hC : Csp k P 1) {j : Nat} : ∀ (n last : Nat) (s : PS), j < s.T.np → s.T.pk j = w → 1 ≤ s.T.pj j → (∀ x, x < s.T.na → s.T.asz x ≤ 8) → (∀ x, x < s.T.na → 1 ≤ s.T.anl x) → Ex (fun q => CP q.2.T + (if k.k s.i = w ∧ 0 < n then g else 0) + 2 * k.pl s.i ≤ CP s.T + 2 * k.pl q.2.i) (fun _ => True) (fMore k w P j n last s) := by
  intro n
  induction n with
  | zero =>
    intro last s _ _ _ _ _
    show CP s.T + _ + 2 * k.pl s.i ≤ CP s.T + 2 * k.pl s.i
    rw [if_neg (by omega)]; omega
  | succ n ih =>
    intro last s hj hk h1 hz hl
    rw [fMore]
    by_cases hc : k.k s.i = w
    · rw [if_pos hc]
      refine Ex_bnd (Ex_mono (Ex_and (hP s.st hz) (hC s.st hz hl)) (fun q hq => ?_) (fun _ _ => trivial))
      obtain ⟨r, cq⟩ := hq
      have lo : Pq s.T q.2.T j := (r.low j hj).1
      have hnp : s.T.np < q.2.T.np := r.np
      have sn : SN s.T q.2.T := r.same
      have e := CP_pj (T := q.2.T) (j := j) (last := last) (x := q.1) (w := w) (c := c) (by omega) (by rw [lo.1]; exact hk) (by omega) (by rw [lo.2.2.2.1]; exact h1)
      have b := wW tl (i := s.i) (by omega) (by omega)
      have lw : (wd (k.k s.i)).length = l := by rw [hc]; rcases hw with ⟨a, _, d, _⟩ | ⟨a, _, d, _⟩ <;> rw [a, d] <;> rfl
      have cq : CP q.2.T + 1 + 2 * k.pl (s.i + 1) ≤ CP s.T + 2 * k.pl q.2.i := cq
      refine Ex_mono (ih q.1 (PS.s_T q.2 ((Txt.s_pj (Txt.s_pn q.2.T (up q.2.T.pn last (some q.1))) (up q.2.T.pj j (q.2.T.pj j + 1))))) (by show j < q.2.T.np; omega) (by show q.2.T.pk j = w; rw [lo.1]; exact hk) (by show 1 ≤ up q.2.T.pj j (q.2.T.pj j + 1) j; rw [up_s]; omega) (fun x hx => by have hx : x < q.2.T.na := hx; show q.2.T.asz x ≤ 8; rw [sn.asz]; rw [sn.na] at hx; exact hz x hx) (fun x hx => by have hx : x < q.2.T.na := hx; show 1 ≤ q.2.T.anl x; rw [sn.anl]; rw [sn.na] at hx; exact hl x hx)) (fun q2 h2 => ?_) (fun _ h => h)
      have h2 : CP q2.2.T + (if k.k q.2.i = w ∧ 0 < n then g else 0) + 2 * k.pl q.2.i ≤ CP (Txt.s_pj (Txt.s_pn q.2.T (up q.2.T.pn last (some q.1))) (up q.2.T.pj j (q.2.T.pj j + 1))) + 2 * k.pl q2.2.i := h2
      rw [e] at h2
      rw [if_pos ⟨hc, by omega⟩]
      omega
    · rw [if_neg hc]
      show CP s.T + _ + 2 * k.pl s.i ≤ CP s.T + 2 * k.pl s.i
      rw [if_neg (fun c => hc c.1)]; omega
theorem fJoin_c (tl : TL k N) {w c l g h : Nat} {P : PS → PR (Nat × PS)} (hw : (w = 10 ∧ c = 4 ∧ l = 2 ∧ g = 1) ∨ (w = 11 ∧ c = 5 ∧ l = 3 ∧ g = 2)) (hP : Rds P h) (hC : Csp k P 1) : Csp k (fJoin k w P) (g - 1) := by
  intro s hz hl
  unfold fJoin
  refine Ex_bnd (Ex_mono (Ex_and (hP s hz) (hC s hz hl)) (fun q hq => ?_) (fun _ _ => trivial))
  obtain ⟨r, cq⟩ := hq
  have cq : CP q.2.T + 1 + 2 * k.pl s.i ≤ CP s.T + 2 * k.pl q.2.i := cq
  have sn : SN s.T q.2.T := r.same
  by_cases hc : k.k q.2.i = w
  · rw [if_pos hc]
    unfold fPart1
    by_cases hn : 400 ≤ q.2.T.np
    · rw [if_pos hn]; trivial
    · rw [if_neg hn]
      show Ex (GO k (g - 1) s) (fun _ => True) (fMore k w P q.2.T.np 400 q.1 (PS.s_T ((PS.s_T q.2 (addPt q.2.T w)) : PS) ((Txt.s_pj (Txt.s_pf ((PS.s_T q.2 (addPt q.2.T w)) : PS).T (up ((PS.s_T q.2 (addPt q.2.T w)) : PS).T.pf q.2.T.np (some q.1))) (up ((PS.s_T q.2 (addPt q.2.T w)) : PS).T.pj q.2.T.np 1)))))
      obtain ⟨s0, hs0⟩ : ∃ x : PS, x = ((PS.s_T q.2 (addPt q.2.T w)) : PS) := ⟨_, rfl⟩
      rw [← hs0]
      have A : AP q.2.T s0.T w := by rw [hs0]; exact AP_of
      have i0 : s0.i = q.2.i := by rw [hs0]
      clear hs0
      have e := CP_joint (s := q.2) (s0 := s0) (x := q.1) A (by omega)
      have sn0 := sn.trans A.sn
      refine Ex_mono (fMore_c tl hw hP hC (j := q.2.T.np) 400 q.1 (PS.s_T s0 ((Txt.s_pj (Txt.s_pf s0.T (up s0.T.pf q.2.T.np (some q.1))) (up s0.T.pj q.2.T.np 1)))) (by show q.2.T.np < s0.T.np; rw [A.np]; omega) (by show s0.T.pk q.2.T.np = w; rw [A.pk, up_s]) (by show 1 ≤ up s0.T.pj q.2.T.np 1 q.2.T.np; rw [up_s]; omega) (fun x hx => by have hx : x < s0.T.na := hx; show s0.T.asz x ≤ 8; rw [sn0.asz]; rw [sn0.na] at hx; exact hz x hx) (fun x hx => by have hx : x < s0.T.na := hx; show 1 ≤ s0.T.anl x; rw [sn0.anl]; rw [sn0.na] at hx; exact hl x hx)) (fun q2 h2 => ?_) (fun _ h => h)
      have h2 : CP q2.2.T + (if k.k s0.i = w ∧ 0 < 400 then g else 0) + 2 * k.pl s0.i ≤ CP (Txt.s_pj (Txt.s_pf s0.T (up s0.T.pf q.2.T.np (some q.1))) (up s0.T.pj q.2.T.np 1)) + 2 * k.pl q2.2.i := h2
      rw [e, i0, if_pos ⟨hc, by omega⟩] at h2
      show CP q2.2.T + (g - 1) + 2 * k.pl s.i ≤ CP s.T + 2 * k.pl q2.2.i
      omega
  · rw [if_neg hc]
    show CP q.2.T + (g - 1) + 2 * k.pl s.i ≤ CP s.T + 2 * k.pl q.2.i
    omega
theorem fOr_c (tl : TL k N) {h : Nat} {P : PS → PR (Nat × PS)} (hP : Rds P h) (hC : Csp k P 1) : Csp k (fOr k P) 0 := fJoin_c tl (w := 10) (c := 4) (l := 2) (g := 1) (Or.inl ⟨rfl, rfl, rfl, rfl⟩) (fJoin_rd (Or.inr rfl) hP) (fJoin_c tl (w := 11) (c := 5) (l := 3) (g := 2) (Or.inr ⟨rfl, rfl, rfl, rfl⟩) hP hC)
theorem fPart_c (tl : TL k N) : ∀ d, Csp k (fPart k d) 1 := by
  intro d
  induction d with
  | zero =>
    intro s hz hl
    rw [fPart]
    split
    · trivial
    · split
      · next h => exact fConst_c tl h
      · split
        · next h => exact fTest_c tl hz hl h
        · trivial
  | succ d ih =>
    intro s hz hl
    rw [fPart]
    by_cases h12 : k.k s.i = 12
    · rw [if_pos h12]
      refine Ex_bnd (Ex_mono (fPart1_ad _ s) (fun q hq => ?_) (fun _ h => trivial))
      obtain ⟨h1, h2, h3⟩ := hq
      have A : AP s.T q.2.T 12 := by rw [h2]; exact AP_of
      have i0 : q.2.i = s.i := by rw [h2]
      clear h2
      rw [h1]
      have sn0 := A.sn
      have hz0 : ∀ x, x < q.2.st.T.na → q.2.st.T.asz x ≤ 8 := by
        show ∀ a, a < q.2.T.na → q.2.T.asz a ≤ 8
        rw [A.sn.na, A.sn.asz]
        exact hz
      have hl0 : ∀ x, x < q.2.st.T.na → 1 ≤ q.2.st.T.anl x := by
        show ∀ a, a < q.2.T.na → 1 ≤ q.2.T.anl a
        rw [A.sn.na, A.sn.anl]
        exact hl
      have pk0 : q.2.T.pk s.T.np = 12 := by rw [A.pk, up_s]
      have e0 : CP q.2.T = CP s.T + 4 := by
        rw [CP_new A.np (fun i hi => (A.lw i hi).1) A.sn]
        congr 1
        unfold cpt
        rw [pk0, if_neg (by omega), if_neg (by omega), if_pos rfl]
      refine Ex_bnd (Ex_mono (Ex_and (fPart_rd d q.2.st hz0) (ih q.2.st hz0 hl0)) (fun z hq => ?_) (fun _ _ => trivial))
      obtain ⟨r, cz⟩ := hq
      have cz : CP z.2.T + 1 + 2 * k.pl (q.2.i + 1) ≤ CP q.2.T + 2 * k.pl z.2.i := cz
      have lows : Lw q.2.T z.2.T q.2.T.np := r.low
      have lo := (lows s.T.np (by have := A.np; omega)).1
      have e := CP_not2 (z := z.2) (p := s.T.np) (x := z.1) (by rw [lo.1]; exact pk0)
      have b := wW tl (i := s.i) (by omega) (by omega)
      have lw : (wd (k.k s.i)).length = 3 := by rw [h12]; rfl
      rw [i0, e0] at cz
      exact gnot e (by omega)
    · rw [if_neg h12]
      by_cases h40 : k.k s.i = 40
      · rw [if_pos h40]
        refine Ex_bnd (Ex_mono (fOr_c tl (fPart_rd d) ih s.st hz hl) (fun q cq => ?_) (fun _ h => h))
        have cq : CP q.2.T + 0 + 2 * k.pl (s.i + 1) ≤ CP s.T + 2 * k.pl q.2.i := cq
        unfold req
        by_cases h41 : k.k q.2.i = 41
        · rw [if_pos h41]
          have b1 := w1 tl (i := s.i) (by omega)
          have b2 := w1 tl (i := q.2.i) (by omega)
          show CP q.2.T + 1 + 2 * k.pl s.i ≤ CP s.T + 2 * k.pl (q.2.i + 1)
          omega
        · rw [if_neg h41]; trivial
      · rw [if_neg h40]
        split
        · next h => exact fConst_c tl h
        · split
          · next h => exact fTest_c tl hz hl h
          · trivial
/-- 'for': nothing but parts and the node's root changes -/
def FE (k : Tk) (i : Nat) (s s' : PS) : Prop := (s'.T.na = s.T.na) ∧ (s'.T.nn = s.T.nn) ∧ (s'.T.srt = s.T.srt) ∧ (s'.T.way = s.T.way) ∧ (s'.T.fa = s.T.fa) ∧ (s'.T.nnl = s.T.nnl) ∧ (s'.T.own = s.T.own) ∧ (s'.T.nd = s.T.nd) ∧ (s'.T.dnum = s.T.dnum) ∧ (s'.T.dof = s.T.dof) ∧ (s'.T.dfor = s.T.dfor) ∧ (∀ j, j ≠ i → s'.T.root j = s.T.root j) ∧ (s'.os = s.os) ∧ (s'.od = s.od) ∧ (k.pl s.i ≤ k.pl s'.i) ∧ (CP s'.T + (if (s'.T.root i).isSome then 5 else 0) + 2 * k.pl s.i ≤ CP s.T + 2 * k.pl s'.i)
theorem FE.na {k : Tk} {i : Nat} {s s' : PS} (h : FE k i s s') : s'.T.na = s.T.na := h.1
theorem FE.nn {k : Tk} {i : Nat} {s s' : PS} (h : FE k i s s') : s'.T.nn = s.T.nn := h.2.1
theorem FE.srt {k : Tk} {i : Nat} {s s' : PS} (h : FE k i s s') : s'.T.srt = s.T.srt := h.2.2.1
theorem FE.way {k : Tk} {i : Nat} {s s' : PS} (h : FE k i s s') : s'.T.way = s.T.way := h.2.2.2.1
theorem FE.fa {k : Tk} {i : Nat} {s s' : PS} (h : FE k i s s') : s'.T.fa = s.T.fa := h.2.2.2.2.1
theorem FE.nnl {k : Tk} {i : Nat} {s s' : PS} (h : FE k i s s') : s'.T.nnl = s.T.nnl := h.2.2.2.2.2.1
theorem FE.own {k : Tk} {i : Nat} {s s' : PS} (h : FE k i s s') : s'.T.own = s.T.own := h.2.2.2.2.2.2.1
theorem FE.nd {k : Tk} {i : Nat} {s s' : PS} (h : FE k i s s') : s'.T.nd = s.T.nd := h.2.2.2.2.2.2.2.1
theorem FE.dnum {k : Tk} {i : Nat} {s s' : PS} (h : FE k i s s') : s'.T.dnum = s.T.dnum := h.2.2.2.2.2.2.2.2.1
theorem FE.dof {k : Tk} {i : Nat} {s s' : PS} (h : FE k i s s') : s'.T.dof = s.T.dof := h.2.2.2.2.2.2.2.2.2.1
theorem FE.dfor {k : Tk} {i : Nat} {s s' : PS} (h : FE k i s s') : s'.T.dfor = s.T.dfor := h.2.2.2.2.2.2.2.2.2.2.1
theorem FE.ro {k : Tk} {i : Nat} {s s' : PS} (h : FE k i s s') : ∀ j, j ≠ i → s'.T.root j = s.T.root j := h.2.2.2.2.2.2.2.2.2.2.2.1
theorem FE.os {k : Tk} {i : Nat} {s s' : PS} (h : FE k i s s') : s'.os = s.os := h.2.2.2.2.2.2.2.2.2.2.2.2.1
theorem FE.od {k : Tk} {i : Nat} {s s' : PS} (h : FE k i s s') : s'.od = s.od := h.2.2.2.2.2.2.2.2.2.2.2.2.2.1
theorem FE.le {k : Tk} {i : Nat} {s s' : PS} (h : FE k i s s') : k.pl s.i ≤ k.pl s'.i := h.2.2.2.2.2.2.2.2.2.2.2.2.2.2.1
theorem FE.co {k : Tk} {i : Nat} {s s' : PS} (h : FE k i s s') : CP s'.T + (if (s'.T.root i).isSome then 5 else 0) + 2 * k.pl s.i ≤ CP s.T + 2 * k.pl s'.i := h.2.2.2.2.2.2.2.2.2.2.2.2.2.2.2
theorem fFor_e (tl : TL k N) {i : Nat} {s : PS} (hz : ∀ x, x < s.T.na → s.T.asz x ≤ 8) (hl : ∀ x, x < s.T.na → 1 ≤ s.T.anl x) (hr : s.T.root i = none) : Ex (FE k i s) (fun _ => True) (fFor k i s) := by
  unfold fFor
  by_cases h5 : k.k s.i = 5
  · rw [if_pos h5]
    refine Ex_bnd (Ex_mono (Ex_and (fJoin_rd (Or.inl rfl) (fJoin_rd (Or.inr rfl) (fPart_rd (20 - s.od))) s.st hz) (fOr_c tl (fPart_rd (20 - s.od)) (fPart_c tl (20 - s.od)) s.st hz hl)) (fun q hq => ?_) (fun _ _ => trivial))
    obtain ⟨r, cq⟩ := hq
    have cq : CP q.2.T + 0 + 2 * k.pl (s.i + 1) ≤ CP s.T + 2 * k.pl q.2.i := cq
    have sn : SN s.T q.2.T := r.same
    have b := wW tl (i := s.i) (by omega) (by omega)
    have lw : (wd (k.k s.i)).length = 3 := by rw [h5]; rfl
    have mono : ∀ a d, k.pl a ≤ k.pl (a + d) := by
      intro a d
      induction d with
      | zero => exact Nat.le_refl _
      | succ d ihd => have := tl.st (a + d); rw [← Nat.add_assoc]; omega
    have hi : s.i + 1 < q.2.i := r.i
    have m1 := mono s.i (q.2.i - s.i)
    rw [show s.i + (q.2.i - s.i) = q.2.i by omega] at m1
    refine ⟨sn.na, sn.nn, sn.srt, sn.way, sn.fa, sn.nnl, sn.own, sn.nd, sn.dnum, sn.dof, sn.dfor, fun j hj => ?_, r.os, r.od, m1, ?_⟩
    · show up q.2.T.root i (some q.1) j = _
      rw [up_n hj, sn.root]
    · show CP q.2.T + (if (up q.2.T.root i (some q.1) i).isSome then 5 else 0) + 2 * k.pl s.i ≤ CP s.T + 2 * k.pl q.2.i
      rw [up_s]
      show CP q.2.T + 5 + 2 * k.pl s.i ≤ _
      omega
  · rw [if_neg h5]
    refine ⟨rfl, rfl, rfl, rfl, rfl, rfl, rfl, rfl, rfl, rfl, rfl, fun _ _ => rfl, rfl, rfl, Nat.le_refl _, ?_⟩
    rw [hr]
    show CP s.T + 0 + 2 * k.pl s.i ≤ _
    omega
end CJ2
