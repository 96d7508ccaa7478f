/-! WHAT AN EXPRESSION IS, II: the function makes such trees. -/
/-- what reading a part, or parts joined, has made -/
def RdP (s : PS) (h : Nat) (q : Nat × PS) : Prop := (s.T.np < q.2.T.np) ∧ (SN s.T q.2.T) ∧ (q.2.os = s.os) ∧ (q.2.od = s.od) ∧ (s.i < q.2.i) ∧ (∀ i, i < s.T.np → Pq s.T q.2.T i ∧ q.2.T.pn i = s.T.pn i) ∧ (∃ seg, q.2.T.dn = s.T.dn ++ seg ∧ EX q.2.T h s.T.np q.2.T.np q.1 seg) ∧ (q.2.T.pn q.1 = none)
theorem RdP.np {s : PS} {h : Nat} {q : Nat × PS} (hX : RdP s h q) : s.T.np < q.2.T.np := hX.1
theorem RdP.same {s : PS} {h : Nat} {q : Nat × PS} (hX : RdP s h q) : SN s.T q.2.T := hX.2.1
theorem RdP.os {s : PS} {h : Nat} {q : Nat × PS} (hX : RdP s h q) : q.2.os = s.os := hX.2.2.1
theorem RdP.od {s : PS} {h : Nat} {q : Nat × PS} (hX : RdP s h q) : q.2.od = s.od := hX.2.2.2.1
theorem RdP.i {s : PS} {h : Nat} {q : Nat × PS} (hX : RdP s h q) : s.i < q.2.i := hX.2.2.2.2.1
theorem RdP.low {s : PS} {h : Nat} {q : Nat × PS} (hX : RdP s h q) : ∀ i, i < s.T.np → Pq s.T q.2.T i ∧ q.2.T.pn i = s.T.pn i := hX.2.2.2.2.2.1
theorem RdP.dn {s : PS} {h : Nat} {q : Nat × PS} (hX : RdP s h q) : ∃ seg, q.2.T.dn = s.T.dn ++ seg ∧ EX q.2.T h s.T.np q.2.T.np q.1 seg := hX.2.2.2.2.2.2.1
theorem RdP.pn {s : PS} {h : Nat} {q : Nat × PS} (hX : RdP s h q) : q.2.T.pn q.1 = none := hX.2.2.2.2.2.2.2
def Rds (P : PS → PR (Nat × PS)) (h : Nat) : Prop := ∀ s : PS, (∀ a, a < s.T.na → s.T.asz a ≤ 8) → Ex (RdP s h) (fun _ => True) (P s)
section TR
variable {k : Tk}
/-- a leaf: one part more, and it is complete -/
theorem leaf_rd {s s' : PS} {kd : Nat} {T0 : Txt} (A : AP s.T T0 kd) (hi : s.i < s'.i) (ho : s'.os = s.os) (hd : s'.od = s.od) (np : s'.T.np = T0.np) (sn : SN T0 s'.T) (lw : Lw T0 s'.T s.T.np) (dn : s'.T.dn = T0.dn ++ [s.T.np]) (pn : s'.T.pn s.T.np = none) (lf : leafOk s'.T s.T.np) : RdP s 1 (s.T.np, s') := by
  refine ⟨by show s.T.np < s'.T.np; rw [np, A.np]; omega, A.sn.trans sn, ho, hd, hi, A.lw.trans lw, ⟨[s.T.np], by show s'.T.dn = _; rw [dn, A.dn], ?_⟩, pn⟩
  exact ⟨Nat.le_refl _, by show s.T.np < s'.T.np; rw [np, A.np]; omega, Or.inl ⟨lf, rfl⟩⟩
theorem fConst_rd {s : PS} (hk : k.k s.i = 13 ∨ k.k s.i = 14 ∨ k.k s.i = 15) : Ex (RdP s 1) (fun _ => True) (fConst k s) := by
  unfold fConst
  refine Ex_bnd (Ex_mono (fPart1_ad _ s) (fun q hq => ?_) (fun _ h => h))
  obtain ⟨h1, h2, h3⟩ := hq
  have A : AP s.T q.2.T (k.k s.i) := by rw [h2]; exact AP_of
  have i2 : q.2.i = s.i := by rw [h2]
  have o2 : q.2.os = s.os := by rw [h2]
  have d2 : q.2.od = s.od := by rw [h2]
  show RdP s 1 (q.1, cmpl q.1 q.2.st)
  rw [h1]
  refine leaf_rd A (by show s.i < q.2.i + 1; omega) o2 d2 rfl ⟨rfl, rfl, rfl, rfl, rfl, rfl, rfl, rfl, rfl, rfl, rfl, rfl, rfl, rfl, rfl, rfl, rfl, rfl, rfl, rfl, rfl⟩ (fun i hi => ⟨Pq.refl, rfl⟩) rfl (by show q.2.T.pn s.T.np = none; rw [A.pn, up_s]) (Or.inl ?_)
  show q.2.T.pk s.T.np = 13 ∨ q.2.T.pk s.T.np = 14 ∨ q.2.T.pk s.T.np = 15
  rw [A.pk, up_s]
  exact hk
theorem fVals_lt {below : Nat} (hb : below ≤ 8) : ∀ (n m : Nat) (s : PS), m < 256 → Ex (fun q : Nat × PS => q.1 < 256) (fun _ => True) (fVals k below n m s) := by
  intro n
  induction n with
  | zero => intro m s hm; exact hm
  | succ n ih =>
    intro m s hm
    rw [fVals]
    by_cases h : k.k (s.i + 1) ≠ 129
    · rw [if_pos h]; trivial
    · rw [if_neg h]
      by_cases h2 : below ≤ k.v (s.i + 1) ∨ m.testBit (k.v (s.i + 1)) = true
      · rw [if_pos h2]; trivial
      · rw [if_neg h2]
        have hm2 := (bit_set m hm (k.v (s.i + 1)) (by omega)).2
        by_cases h3 : k.k (s.i + 2) ≠ 44
        · rw [if_pos h3]; exact hm2
        · rw [if_neg h3]
          exact ih _ _ hm2
theorem fNum_lt (below : Nat) (s : PS) : Ex (fun z : Nat × PS => z.1 < below) (fun _ => True) (fNum k below s) := by
  unfold fNum
  by_cases h : k.k (s.i + 1) ≠ 129
  · rw [if_pos h]; trivial
  · rw [if_neg h]
    by_cases h2 : below ≤ k.v (s.i + 1)
    · rw [if_pos h2]; trivial
    · rw [if_neg h2]; show k.v (s.i + 1) < below; omega
theorem fList_lt {below : Nat} (hb : below ≤ 8) (s : PS) : Ex (fun z : Nat × PS => z.1 < 256) (fun _ => True) (fList k below s) := by
  unfold fList
  by_cases h : k.k (s.i + 1) ≠ 123
  · rw [if_pos h]; trivial
  · rw [if_neg h]
    refine Ex_bnd (Ex_mono (fVals_lt hb 9 0 _ (by omega)) (fun z hz => ?_) (fun _ h => h))
    exact Ex_bnd (Ex_mono (req_ad 125 z.2) (fun y _ => hz) (fun _ h => h))
theorem fOther_lt (s : PS) : Ex (fun z : Nat × PS => z.1 < s.T.na) (fun _ => True) (fOther k s) := by
  unfold fOther
  by_cases h : k.k (s.i + 1) ≠ 128
  · rw [if_pos h]; trivial
  · rw [if_neg h]
    have hl2 : ∀ x, hereN k s.st = some x → x < s.T.na := fun x hx => hereN_lt (s := s.st) hx
    revert hl2
    generalize hereN k s.st = o2
    intro hl2
    cases o2 with
    | none => trivial
    | some x => exact hl2 x rfl
/-- the cases of a test make a leaf; s stands at its word -/
theorem fTc_rd {s s0 s2 : PS} {c z a : Nat} (hn : s.T.np < 400) (A : AP s.T s0.T 128) (T2 : s2.T = (Txt.s_pa (Txt.s_pk s0.T (up s0.T.pk s.T.np c)) (up s0.T.pa s.T.np a))) (i2 : s.i < s2.i) (o2 : s2.os = s.os) (d2 : s2.od = s.od) (ha : a < s.T.na) (hz : z = s.T.asz a) (hz8 : z ≤ 8) : Ex (RdP s 1) (fun _ => True) (fTc k s.T.np c z s2) := by
  have np2 : s2.T.np = s0.T.np := by rw [T2]
  have na2 : s2.T.na = s.T.na := by rw [T2]; exact A.sn.na
  have az2 : s2.T.asz = s.T.asz := by rw [T2]; exact A.sn.asz
  have pk2 : s2.T.pk s.T.np = c := by rw [T2]; exact up_s
  have pa2 : s2.T.pa s.T.np = a := by rw [T2]; exact up_s
  have pn2 : s2.T.pn s.T.np = none := by rw [T2]; show s0.T.pn s.T.np = none; rw [A.pn, up_s]
  have dn2 : s2.T.dn = s0.T.dn := by rw [T2]
  have sn2 : SN s0.T s2.T := by rw [T2]; exact ⟨rfl, rfl, rfl, rfl, rfl, rfl, rfl, rfl, rfl, rfl, rfl, rfl, rfl, rfl, rfl, rfl, rfl, rfl, rfl, rfl, rfl⟩
  have lw2 : Lw s0.T s2.T s.T.np := by
    intro i hi
    rw [T2]
    refine ⟨⟨?_, ?_, rfl, rfl, rfl⟩, rfl⟩
    · show up s0.T.pk s.T.np c i = _; rw [up_n (by omega)]
    · show up s0.T.pa s.T.np a i = _; rw [up_n (by omega)]
  clear T2
  -- with its number
  have fin : ∀ (r : PR (Nat × PS)) (Q : Nat → Prop), (∀ v, Q v → (c = 13 ∨ c = 14 ∨ c = 15) ∨ (a < s.T.na ∧ (((c = 16 ∨ c = 20) ∧ v < s.T.asz a) ∨ ((c = 17 ∨ c = 18) ∧ v < 256) ∨ (c = 19 ∧ v < s.T.na) ∨ ((c = 60 ∨ c = 61 ∨ c = 62) ∧ v < 1000) ∨ c = 21))) → Ex (fun y => Q y.1 ∧ ∃ i, y.2 = (PS.s_i s2 (s2.i + i))) (fun _ => True) r → Ex (RdP s 1) (fun _ => True) (r.bind (fun y => .ok (s.T.np, cmpl s.T.np (setNum s.T.np y.1 y.2)))) := by
    intro r Q hQ hr
    refine Ex_bnd (Ex_mono hr (fun y hy => ?_) (fun _ h => h))
    obtain ⟨hq, i, hi⟩ := hy
    have Ty : y.2.T = s2.T := by rw [hi]
    have iy : y.2.i = s2.i + i := by rw [hi]
    have oy : y.2.os = s2.os := by rw [hi]
    have dy : y.2.od = s2.od := by rw [hi]
    show RdP s 1 (s.T.np, cmpl s.T.np (setNum s.T.np y.1 y.2))
    refine leaf_rd A (by show s.i < y.2.i; omega) (oy.trans o2) (dy.trans d2) (by show y.2.T.np = _; rw [Ty, np2]) (sn2.trans ?_) (lw2.trans ?_) (by show y.2.T.dn ++ [s.T.np] = _; rw [Ty, dn2]) (by show y.2.T.pn s.T.np = none; rw [Ty, pn2]) ?_
    · rw [← Ty]; exact ⟨rfl, rfl, rfl, rfl, rfl, rfl, rfl, rfl, rfl, rfl, rfl, rfl, rfl, rfl, rfl, rfl, rfl, rfl, rfl, rfl, rfl⟩
    · intro j hj
      rw [← Ty]
      refine ⟨⟨rfl, rfl, ?_, rfl, rfl⟩, rfl⟩
      show up y.2.T.pnum s.T.np y.1 j = _
      rw [up_n (by omega)]
    · unfold leafOk
      show (y.2.T.pk s.T.np = 13 ∨ y.2.T.pk s.T.np = 14 ∨ y.2.T.pk s.T.np = 15) ∨ (y.2.T.pa s.T.np < y.2.T.na ∧ (((y.2.T.pk s.T.np = 16 ∨ y.2.T.pk s.T.np = 20) ∧ up y.2.T.pnum s.T.np y.1 s.T.np < y.2.T.asz (y.2.T.pa s.T.np)) ∨ ((y.2.T.pk s.T.np = 17 ∨ y.2.T.pk s.T.np = 18) ∧ up y.2.T.pnum s.T.np y.1 s.T.np < 256) ∨ (y.2.T.pk s.T.np = 19 ∧ up y.2.T.pnum s.T.np y.1 s.T.np < y.2.T.na) ∨ ((y.2.T.pk s.T.np = 60 ∨ y.2.T.pk s.T.np = 61 ∨ y.2.T.pk s.T.np = 62) ∧ up y.2.T.pnum s.T.np y.1 s.T.np < 1000) ∨ y.2.T.pk s.T.np = 21))
      rw [Ty, up_s, pk2, pa2, na2, az2]
      exact hQ y.1 hq
  unfold fTc
  by_cases c1 : c = 16 ∨ c = 20
  · rw [if_pos c1]
    refine fin _ (fun v => v < z) (fun v hv => Or.inr ⟨ha, Or.inl ⟨c1, by rw [← hz]; exact hv⟩⟩) (Ex_mono (Ex_and (fNum_ad z s2) (fNum_lt z s2)) (fun y hy => ⟨hy.2, 2, ?_⟩) (fun _ _ => trivial))
    rw [hy.1]
  rw [if_neg c1]
  by_cases c2 : c = 17 ∨ c = 18
  · rw [if_pos c2]
    refine fin _ (fun v => v < 256) (fun v hv => Or.inr ⟨ha, Or.inr (Or.inl ⟨c2, hv⟩)⟩) (Ex_mono (Ex_and (fList_ad z s2) (fList_lt hz8 s2)) (fun y hy => ⟨hy.2, hy.1⟩) (fun _ _ => trivial))
  rw [if_neg c2]
  by_cases c3 : c = 60 ∨ c = 61 ∨ c = 62
  · rw [if_pos c3]
    refine fin _ (fun v => v < 1000) (fun v hv => Or.inr ⟨ha, Or.inr (Or.inr (Or.inr (Or.inl ⟨c3, hv⟩)))⟩) (Ex_mono (Ex_and (fNum_ad 1000 s2) (fNum_lt 1000 s2)) (fun y hy => ⟨hy.2, 2, ?_⟩) (fun _ _ => trivial))
    rw [hy.1]
  rw [if_neg c3]
  by_cases c4 : c = 19
  · rw [if_pos c4]
    refine fin _ (fun v => v < s.T.na) (fun v hv => Or.inr ⟨ha, Or.inr (Or.inr (Or.inl ⟨c4, hv⟩))⟩) (Ex_mono (Ex_and (fOther_ad s2) (fOther_lt s2)) (fun y hy => ⟨by rw [← na2]; exact hy.2, 2, ?_⟩) (fun _ _ => trivial))
    rw [hy.1]
  rw [if_neg c4]
  by_cases c5 : c = 21
  · rw [if_pos c5]
    show RdP s 1 (s.T.np, cmpl s.T.np s2.st)
    refine leaf_rd A (by show s.i < s2.i + 1; omega) o2 d2 (by show s2.T.np = _; rw [np2]) (sn2.trans ⟨rfl, rfl, rfl, rfl, rfl, rfl, rfl, rfl, rfl, rfl, rfl, rfl, rfl, rfl, rfl, rfl, rfl, rfl, rfl, rfl, rfl⟩) (lw2.trans (fun j hj => ⟨Pq.refl, rfl⟩)) (by show s2.T.dn ++ [s.T.np] = _; rw [dn2]) pn2 (Or.inr ⟨?_, Or.inr (Or.inr (Or.inr (Or.inr ?_)))⟩)
    · show s2.T.pa s.T.np < s2.T.na
      rw [pa2, na2]; exact ha
    · show s2.T.pk s.T.np = 21
      rw [pk2]; exact c5
  · rw [if_neg c5]; trivial
theorem fTest_rd {s : PS} (hz : ∀ a, a < s.T.na → s.T.asz a ≤ 8) : Ex (RdP s 1) (fun _ => True) (fTest k s) := by
  cases ho : hereN k s with
  | none => rw [fTest_no ho]; trivial
  | some a =>
    have ha := hereN_lt ho
    by_cases hn : 400 ≤ s.T.np
    · rw [fTest_full ho hn]; trivial
    · rw [fTest_eq ho (by omega)]
      obtain ⟨s0, hs0⟩ : ∃ x : PS, x = ((PS.s_T s (addPt s.T 128)) : PS) := ⟨_, rfl⟩
      rw [← hs0]
      have A : AP s.T s0.T 128 := by rw [hs0]; exact AP_of
      have i0 : s0.i = s.i := by rw [hs0]
      have o0 : s0.os = s.os := by rw [hs0]
      have d0 : s0.od = s.od := by rw [hs0]
      clear hs0
      refine fTc_rd (s0 := s0) (a := a) (by omega) A rfl ?_ o0 d0 ha rfl (hz a ha)
      show s.i < s0.i + 1
      omega
theorem chn_ord {T : Txt} : ∀ (l : List Mb) (o : Option Nat) (lo : Nat) (m : Mb), chn T o lo (l ++ [m]) → (∀ x, x ∈ l → x.2.1.2 ≤ m.2.1.1) ∧ T.pn m.1 = none := by
  intro l
  induction l with
  | nil => intro o lo m h; exact ⟨fun x hx => (by cases hx), h.2.2.2.2⟩
  | cons y l ih =>
    intro o lo m h
    obtain ⟨h1, h2, h3, h4, h5⟩ := h
    have g := ih _ _ m h5
    refine ⟨fun x hx => ?_, g.2⟩
    rcases List.mem_cons.1 hx with rfl | hx
    · have := chn_lo _ _ _ h5 m (List.mem_append_right _ (List.mem_singleton.2 rfl))
      omega
    · exact g.1 x hx
theorem chn_app {T T' : Txt} : ∀ (l : List Mb) (o : Option Nat) (lo : Nat) (m nw : Mb), chn T o lo (l ++ [m]) → (∀ x, x ∈ l → T'.pn x.1 = T.pn x.1) → T'.pn m.1 = some nw.1 → m.2.1.2 ≤ nw.2.1.1 → nw.2.1.1 ≤ nw.1 → nw.1 < nw.2.1.2 → T'.pn nw.1 = none → chn T' o lo ((l ++ [m]) ++ [nw]) := by
  intro l
  induction l with
  | nil =>
    intro o lo m nw h e1 e2 e3 e4 e5 e6
    obtain ⟨h1, h2, h3, h4, h5⟩ := h
    exact ⟨h1, h2, h3, h4, e2, e3, e4, e5, e6⟩
  | cons y l ih =>
    intro o lo m nw h e1 e2 e3 e4 e5 e6
    obtain ⟨h1, h2, h3, h4, h5⟩ := h
    refine ⟨h1, h2, h3, h4, ?_⟩
    rw [e1 y (List.mem_cons_self ..)]
    exact ih _ _ m nw h5 (fun x hx => e1 x (List.mem_cons_of_mem _ hx)) e2 e3 e4 e5 e6
theorem sgs_app (m : Mb) : ∀ l : List Mb, sgs (l ++ [m]) = sgs l ++ m.2.2 := by
  intro l
  induction l with
  | nil => show m.2.2 ++ [] = [] ++ m.2.2; simp
  | cons y l ih => show y.2.2 ++ sgs (l ++ [m]) = (y.2.2 ++ sgs l) ++ m.2.2; rw [ih, List.append_assoc]
/-- a joint that is open, with its members so far -/
def JO (s0 : PS) (w h j last : Nat) (ms : List Mb) (s : PS) : Prop := (s0.T.np ≤ j ∧ j < s.T.np) ∧ (s.T.pk j = w) ∧ (s.T.pj j = ms.length) ∧ (s.T.pn j = none) ∧ (chn s.T (s.T.pf j) s0.T.np ms) ∧ (∀ m, m ∈ ms → m.2.1.2 ≤ s.T.np ∧ (j < m.2.1.1 ∨ m.2.1.2 ≤ j) ∧ EX s.T h m.2.1.1 m.2.1.2 m.1 m.2.2) ∧ (∃ l m, ms = l ++ [m] ∧ m.1 = last) ∧ (SN s0.T s.T) ∧ (s.os = s0.os) ∧ (s.od = s0.od) ∧ (s0.i < s.i) ∧ (∀ i, i < s0.T.np → Pq s0.T s.T i ∧ s.T.pn i = s0.T.pn i) ∧ (s.T.dn = s0.T.dn ++ sgs ms)
theorem JO.jn {s0 : PS} {w h j last : Nat} {ms : List Mb} {s : PS} (hX : JO s0 w h j last ms s) : s0.T.np ≤ j ∧ j < s.T.np := hX.1
theorem JO.kd {s0 : PS} {w h j last : Nat} {ms : List Mb} {s : PS} (hX : JO s0 w h j last ms s) : s.T.pk j = w := hX.2.1
theorem JO.pj {s0 : PS} {w h j last : Nat} {ms : List Mb} {s : PS} (hX : JO s0 w h j last ms s) : s.T.pj j = ms.length := hX.2.2.1
theorem JO.pn {s0 : PS} {w h j last : Nat} {ms : List Mb} {s : PS} (hX : JO s0 w h j last ms s) : s.T.pn j = none := hX.2.2.2.1
theorem JO.ch {s0 : PS} {w h j last : Nat} {ms : List Mb} {s : PS} (hX : JO s0 w h j last ms s) : chn s.T (s.T.pf j) s0.T.np ms := hX.2.2.2.2.1
theorem JO.mb {s0 : PS} {w h j last : Nat} {ms : List Mb} {s : PS} (hX : JO s0 w h j last ms s) : ∀ m, m ∈ ms → m.2.1.2 ≤ s.T.np ∧ (j < m.2.1.1 ∨ m.2.1.2 ≤ j) ∧ EX s.T h m.2.1.1 m.2.1.2 m.1 m.2.2 := hX.2.2.2.2.2.1
theorem JO.la {s0 : PS} {w h j last : Nat} {ms : List Mb} {s : PS} (hX : JO s0 w h j last ms s) : ∃ l m, ms = l ++ [m] ∧ m.1 = last := hX.2.2.2.2.2.2.1
theorem JO.same {s0 : PS} {w h j last : Nat} {ms : List Mb} {s : PS} (hX : JO s0 w h j last ms s) : SN s0.T s.T := hX.2.2.2.2.2.2.2.1
theorem JO.os {s0 : PS} {w h j last : Nat} {ms : List Mb} {s : PS} (hX : JO s0 w h j last ms s) : s.os = s0.os := hX.2.2.2.2.2.2.2.2.1
theorem JO.od {s0 : PS} {w h j last : Nat} {ms : List Mb} {s : PS} (hX : JO s0 w h j last ms s) : s.od = s0.od := hX.2.2.2.2.2.2.2.2.2.1
theorem JO.i {s0 : PS} {w h j last : Nat} {ms : List Mb} {s : PS} (hX : JO s0 w h j last ms s) : s0.i < s.i := hX.2.2.2.2.2.2.2.2.2.2.1
theorem JO.low {s0 : PS} {w h j last : Nat} {ms : List Mb} {s : PS} (hX : JO s0 w h j last ms s) : ∀ i, i < s0.T.np → Pq s0.T s.T i ∧ s.T.pn i = s0.T.pn i := hX.2.2.2.2.2.2.2.2.2.2.2.1
theorem JO.dn {s0 : PS} {w h j last : Nat} {ms : List Mb} {s : PS} (hX : JO s0 w h j last ms s) : s.T.dn = s0.T.dn ++ sgs ms := hX.2.2.2.2.2.2.2.2.2.2.2.2
theorem JO.fin {s0 s : PS} {w h j last : Nat} {ms : List Mb} (J : JO s0 w h j last ms s) (hw : w = 10 ∨ w = 11) (h2 : 2 ≤ ms.length) : RdP s0 (h + 1) (j, cmpl j s) := by
  have jn := J.jn
  refine ⟨by show s0.T.np < s.T.np; omega, J.same, J.os, J.od, J.i, J.low, ⟨sgs ms ++ [j], ?_, ?_⟩, J.pn⟩
  · show s.T.dn ++ [j] = s0.T.dn ++ (sgs ms ++ [j])
    rw [J.dn, List.append_assoc]
  · have key : EX s.T (h + 1) s0.T.np s.T.np j (sgs ms ++ [j]) := by
      refine ⟨jn.1, jn.2, Or.inr (Or.inr ⟨by rw [J.kd]; exact hw, ms, h2, J.pj.symm, J.ch, J.mb, rfl⟩)⟩
    exact EX_fr (T := s.T) (T' := (cmpl j s).T) rfl rfl _ _ _ _ _ key (fun i _ _ => Pq.refl) (fun i _ _ _ => rfl)
theorem JO.step {s0 s : PS} {w h j last : Nat} {ms : List Mb} {q : Nat × PS} (J : JO s0 w h j last ms s) (r : RdP s.st h q) : ∃ m : Mb, JO s0 w h j q.1 (ms ++ [m]) (PS.s_T q.2 ((Txt.s_pj (Txt.s_pn q.2.T (up q.2.T.pn last (some q.1))) (up q.2.T.pj j (q.2.T.pj j + 1))))) := by
  obtain ⟨seg, hdn, hex⟩ := r.dn
  have hex' : EX q.2.T h s.T.np q.2.T.np q.1 seg := hex
  have jn := J.jn
  have hnp : s.T.np < q.2.T.np := r.np
  have hin := hex'.in_
  obtain ⟨l, ml, hms, hml⟩ := J.la
  have ch0 := J.ch
  rw [hms] at ch0
  have hord := chn_ord l _ _ ml ch0
  have hmlin : ml ∈ ms := by rw [hms]; exact List.mem_append_right _ (List.mem_singleton.2 rfl)
  have hmlb := J.mb ml hmlin
  have hml2 := chn_lo ms _ _ J.ch ml hmlin
  have lows : ∀ i, i < s.T.np → Pq s.T q.2.T i ∧ q.2.T.pn i = s.T.pn i := r.low
  have hlast : last < s.T.np := by omega
  refine ⟨(q.1, (s.T.np, q.2.T.np), seg), ⟨by show s0.T.np ≤ j ∧ j < q.2.T.np; omega, ?_, ?_, ?_, ?_, ?_, ⟨ms, _, rfl, rfl⟩, ?_, ?_, ?_, ?_, ?_, ?_⟩⟩
  · show q.2.T.pk j = w
    rw [(lows j jn.2).1.1]; exact J.kd
  · show up q.2.T.pj j (q.2.T.pj j + 1) j = (ms ++ [_]).length
    rw [up_s, (lows j jn.2).1.2.2.2.1, J.pj, List.length_append]; rfl
  · show up q.2.T.pn last (some q.1) j = none
    rw [up_n (by omega), (lows j jn.2).2]; exact J.pn
  · show chn _ (q.2.T.pf j) s0.T.np (ms ++ [_])
    rw [(lows j jn.2).1.2.2.2.2, hms]
    have ch1 := J.ch
    rw [hms] at ch1
    refine chn_app (T := s.T) l _ _ ml _ ch1 (fun x hx => ?_) ?_ ?_ ?_ ?_ ?_
    · have hx2 : x ∈ ms := by rw [hms]; exact List.mem_append_left _ hx
      have g1 := chn_lo ms _ _ J.ch x hx2
      have g2 := hord.1 x hx
      show up q.2.T.pn last (some q.1) x.1 = s.T.pn x.1
      rw [up_n (by omega), (lows x.1 (by omega)).2]
    · show up q.2.T.pn last (some q.1) ml.1 = some q.1
      rw [hml, up_s]
    · show ml.2.1.2 ≤ s.T.np; omega
    · exact hin.1
    · exact hin.2
    · show up q.2.T.pn last (some q.1) q.1 = none
      rw [up_n (by omega)]; exact r.pn
  · intro m hm
    have hna : ((Txt.s_pj (Txt.s_pn q.2.T (up q.2.T.pn last (some q.1))) (up q.2.T.pj j (q.2.T.pj j + 1))) : Txt).na = s.T.na := r.same.na
    have hz : ((Txt.s_pj (Txt.s_pn q.2.T (up q.2.T.pn last (some q.1))) (up q.2.T.pj j (q.2.T.pj j + 1))) : Txt).asz = s.T.asz := r.same.asz
    rcases List.mem_append.1 hm with hm | hm
    · obtain ⟨b1, b2, b3⟩ := J.mb m hm
      have g1 := chn_lo ms _ _ J.ch m hm
      refine ⟨by show m.2.1.2 ≤ q.2.T.np; omega, b2, ?_⟩
      refine EX_fr hna hz _ _ _ _ _ b3 (fun i h1 h2 => ?_) (fun i h1 h2 h3 => ?_)
      · have g := (lows i (by omega)).1
        refine ⟨g.1, g.2.1, g.2.2.1, ?_, g.2.2.2.2⟩
        show up q.2.T.pj j (q.2.T.pj j + 1) i = s.T.pj i
        rw [up_n (by omega)]; exact g.2.2.2.1
      · show up q.2.T.pn last (some q.1) i = s.T.pn i
        have hne : i ≠ last := by
          rw [hms] at hm
          rcases List.mem_append.1 hm with hm | hm
          · have := hord.1 m hm
            omega
          · rw [List.mem_singleton.1 hm] at h3
            rw [← hml]; exact h3
        rw [up_n hne, (lows i (by omega)).2]
    · rw [List.mem_singleton.1 hm]
      refine ⟨Nat.le_refl _, Or.inl jn.2, ?_⟩
      refine EX_fr (T := q.2.T) (T' := (Txt.s_pj (Txt.s_pn q.2.T (up q.2.T.pn last (some q.1))) (up q.2.T.pj j (q.2.T.pj j + 1)))) rfl rfl _ _ _ _ _ hex' (fun i h1 h2 => ⟨rfl, rfl, rfl, ?_, rfl⟩) (fun i h1 h2 h3 => ?_)
      · have h1' : s.T.np ≤ i := h1
        show up q.2.T.pj j (q.2.T.pj j + 1) i = q.2.T.pj i
        rw [up_n (by omega)]
      · have h1' : s.T.np ≤ i := h1
        show up q.2.T.pn last (some q.1) i = q.2.T.pn i
        rw [up_n (by omega)]
  · exact J.same.trans (SN.trans (T' := q.2.T) r.same ⟨rfl, rfl, rfl, rfl, rfl, rfl, rfl, rfl, rfl, rfl, rfl, rfl, rfl, rfl, rfl, rfl, rfl, rfl, rfl, rfl, rfl⟩)
  · rw [show ((PS.s_T q.2 ((Txt.s_pj (Txt.s_pn q.2.T (up q.2.T.pn last (some q.1))) (up q.2.T.pj j (q.2.T.pj j + 1))))) : PS).os = q.2.os from rfl, r.os]; exact J.os
  · rw [show ((PS.s_T q.2 ((Txt.s_pj (Txt.s_pn q.2.T (up q.2.T.pn last (some q.1))) (up q.2.T.pj j (q.2.T.pj j + 1))))) : PS).od = q.2.od from rfl, r.od]; exact J.od
  · have h1 := r.i
    have h2 : s.i + 1 < q.2.i := h1
    have h3 := J.i
    show s0.i < q.2.i
    omega
  · intro i hi
    have g := lows i (by omega)
    have g0 := J.low i hi
    refine ⟨Pq.trans g0.1 ⟨g.1.1, g.1.2.1, g.1.2.2.1, ?_, g.1.2.2.2.2⟩, ?_⟩
    · show up q.2.T.pj j (q.2.T.pj j + 1) i = s.T.pj i
      rw [up_n (by omega)]; exact g.1.2.2.2.1
    · show up q.2.T.pn last (some q.1) i = s0.T.pn i
      rw [up_n (by omega), g.2]; exact g0.2
  · show q.2.T.dn = s0.T.dn ++ sgs (ms ++ [_])
    rw [hdn, sgs_app, ← List.append_assoc]
    show s.T.dn ++ seg = _
    rw [J.dn]
theorem fMore_rd {w h : Nat} {P : PS → PR (Nat × PS)} (hw : w = 10 ∨ w = 11) (hP : Rds P h) {s0 : PS} (hz : ∀ a, a < s0.T.na → s0.T.asz a ≤ 8) {j : Nat} : ∀ (n last : Nat) (ms : List Mb) (s : PS), JO s0 w h j last ms s → (2 ≤ ms.length ∨ (k.k s.i = w ∧ 0 < n ∧ 1 ≤ ms.length)) → Ex (RdP s0 (h + 1)) (fun _ => True) (fMore k w P j n last s) := by
  intro n
  induction n with
  | zero =>
    intro last ms s J hc
    exact J.fin hw (by omega)
  | succ n ih =>
    intro last ms s J hc
    rw [fMore]
    by_cases g : k.k s.i = w
    · rw [if_pos g]
      have hz2 : ∀ a, a < s.st.T.na → s.st.T.asz a ≤ 8 := by
        intro a ha
        have e1 : s.T.na = s0.T.na := J.same.na
        have e2 : s.T.asz = s0.T.asz := J.same.asz
        show s.T.asz a ≤ 8
        rw [e2]
        exact hz a (by rw [← e1]; exact ha)
      refine Ex_bnd (Ex_mono (hP s.st hz2) (fun q r => ?_) (fun _ h => h))
      obtain ⟨m, J2⟩ := J.step r
      refine ih q.1 _ _ J2 (Or.inl ?_)
      rw [List.length_append]
      show 2 ≤ ms.length + 1
      omega
    · rw [if_neg g]
      exact J.fin hw (by omega)
theorem RdP.up {s : PS} {h h' : Nat} {q : Nat × PS} (r : RdP s h q) (hh : h ≤ h') : RdP s h' q := by
  obtain ⟨seg, h1, h2⟩ := r.dn
  exact ⟨r.np, r.same, r.os, r.od, r.i, r.low, ⟨seg, h1, EX_le h2 hh⟩, r.pn⟩
theorem fJoin_rd {w h : Nat} {P : PS → PR (Nat × PS)} (hw : w = 10 ∨ w = 11) (hP : Rds P h) : Rds (fJoin k w P) (h + 1) := by
  intro s hz
  unfold fJoin
  refine Ex_bnd (Ex_mono (hP s hz) (fun q r => ?_) (fun _ h => h))
  by_cases g : k.k q.2.i = w
  · rw [if_pos g]
    refine Ex_bnd (Ex_mono (fPart1_ad w q.2) (fun z hzz => ?_) (fun _ h => h))
    obtain ⟨z1, z2, z3⟩ := hzz
    obtain ⟨seg, hdn, hex⟩ := r.dn
    have hin := hex.in_
    have hnp := r.np
    have A : AP q.2.T z.2.T w := by rw [z2]; exact AP_of
    have iz : z.2.i = q.2.i := by rw [z2]
    have oz : z.2.os = q.2.os := by rw [z2]
    have dz : z.2.od = q.2.od := by rw [z2]
    clear z2
    have Anp := A.np
    rw [z1]
    refine fMore_rd hw hP hz 400 q.1 [(q.1, (s.T.np, q.2.T.np), seg)] _ ⟨?_, ?_, ?_, ?_, ?_, ?_, ⟨[], _, rfl, rfl⟩, ?_, ?_, ?_, ?_, ?_, ?_⟩ (Or.inr ⟨by show k.k z.2.i = w; rw [iz]; exact g, by omega, by show 1 ≤ 1; omega⟩)
    · show s.T.np ≤ q.2.T.np ∧ q.2.T.np < z.2.T.np
      omega
    · show z.2.T.pk q.2.T.np = w
      rw [A.pk, up_s]
    · show up z.2.T.pj q.2.T.np 1 q.2.T.np = 1
      exact up_s
    · show z.2.T.pn q.2.T.np = none
      rw [A.pn, up_s]
    · show chn _ (up z.2.T.pf q.2.T.np (some q.1) q.2.T.np) s.T.np _
      rw [up_s]
      refine ⟨rfl, Nat.le_refl _, hin.1, hin.2, ?_⟩
      show z.2.T.pn q.1 = none
      rw [A.pn, up_n (by omega)]; exact r.pn
    · intro m hm
      rw [List.mem_singleton.1 hm]
      refine ⟨by show q.2.T.np ≤ z.2.T.np; omega, Or.inr (Nat.le_refl _), ?_⟩
      refine EX_fr (T := q.2.T) (T' := (Txt.s_pj (Txt.s_pf z.2.T (up z.2.T.pf q.2.T.np (some q.1))) (up z.2.T.pj q.2.T.np 1))) A.sn.na A.sn.asz _ _ _ _ _ hex (fun i h1 h2 => ?_) (fun i h1 h2 h3 => ?_)
      · have l := (A.lw i h2).1
        have h2' : i < q.2.T.np := h2
        refine ⟨l.1, l.2.1, l.2.2.1, ?_, ?_⟩
        · show up z.2.T.pj q.2.T.np 1 i = q.2.T.pj i
          rw [up_n (by omega)]; exact l.2.2.2.1
        · show up z.2.T.pf q.2.T.np (some q.1) i = q.2.T.pf i
          rw [up_n (by omega)]; exact l.2.2.2.2
      · exact (A.lw i h2).2
    · exact r.same.trans (A.sn.trans ⟨rfl, rfl, rfl, rfl, rfl, rfl, rfl, rfl, rfl, rfl, rfl, rfl, rfl, rfl, rfl, rfl, rfl, rfl, rfl, rfl, rfl⟩)
    · show z.2.os = s.os
      rw [oz]; exact r.os
    · show z.2.od = s.od
      rw [dz]; exact r.od
    · show s.i < z.2.i
      rw [iz]; exact r.i
    · intro i hi
      have g0 := r.low i hi
      have l := A.lw i (by omega)
      refine ⟨Pq.trans g0.1 ⟨l.1.1, l.1.2.1, l.1.2.2.1, ?_, ?_⟩, ?_⟩
      · show up z.2.T.pj q.2.T.np 1 i = q.2.T.pj i
        rw [up_n (by omega)]; exact l.1.2.2.2.1
      · show up z.2.T.pf q.2.T.np (some q.1) i = q.2.T.pf i
        rw [up_n (by omega)]; exact l.1.2.2.2.2
      · show z.2.T.pn i = s.T.pn i
        rw [l.2]; exact g0.2
    · show z.2.T.dn = s.T.dn ++ (seg ++ [])
      rw [List.append_nil, A.dn]; exact hdn
  · rw [if_neg g]
    exact r.up (Nat.le_succ _)
theorem RdP_up1 {s : PS} {h : Nat} {r : PR (Nat × PS)} (e : Ex (RdP s 1) (fun _ => True) r) : Ex (RdP s (2 * (h + 1) + 1)) (fun _ => True) r := Ex_mono e (fun q hq => hq.up (by omega)) (fun _ h => h)
theorem fPart_rd : ∀ d, Rds (fPart k d) (2 * d + 1) := by
  intro d
  induction d with
  | zero =>
    intro s hz
    rw [fPart]
    split
    · trivial
    · split
      · rename_i hk; exact fConst_rd hk
      · split
        · exact fTest_rd hz
        · trivial
  | succ d ih =>
    intro s hz
    rw [fPart]
    split
    · refine Ex_bnd (Ex_mono (fPart1_ad _ s) (fun q hq => ?_) (fun _ h => h))
      obtain ⟨h1, h2, h3⟩ := hq
      have A : AP s.T q.2.T 12 := by rw [h2]; exact AP_of
      have i2 : q.2.i = s.i := by rw [h2]
      have o2 : q.2.os = s.os := by rw [h2]
      have d2 : q.2.od = s.od := by rw [h2]
      clear h2
      have Anp := A.np
      rw [h1]
      have hz2 : ∀ a, a < q.2.st.T.na → q.2.st.T.asz a ≤ 8 := by
        show ∀ a, a < q.2.T.na → q.2.T.asz a ≤ 8
        rw [A.sn.na, A.sn.asz]
        exact hz
      refine Ex_bnd (Ex_mono (ih q.2.st hz2) (fun z r => ?_) (fun _ h => h))
      obtain ⟨seg, hdn, hex⟩ := r.dn
      have hin := hex.in_
      have hin2 : q.2.T.np ≤ z.1 ∧ z.1 < z.2.T.np := hin
      have hnp : q.2.T.np < z.2.T.np := r.np
      have lows : Lw q.2.T z.2.T q.2.T.np := r.low
      have lq := lows s.T.np (by omega)
      show RdP s (2 * (d + 1) + 1) (s.T.np, cmpl s.T.np (PS.s_T z.2 ((Txt.s_pj (Txt.s_pf z.2.T (up z.2.T.pf s.T.np (some z.1))) (up z.2.T.pj s.T.np 1)))))
      refine ⟨by show s.T.np < z.2.T.np; omega, A.sn.trans (SN.trans (T' := z.2.T) r.same ⟨rfl, rfl, rfl, rfl, rfl, rfl, rfl, rfl, rfl, rfl, rfl, rfl, rfl, rfl, rfl, rfl, rfl, rfl, rfl, rfl, rfl⟩), by show z.2.os = s.os; rw [r.os]; exact o2, by show z.2.od = s.od; rw [r.od]; exact d2, ?_, fun i hi => ?_, ⟨seg ++ [s.T.np], ?_, ?_⟩, ?_⟩
      · have h4 : q.2.i + 1 < z.2.i := r.i
        show s.i < z.2.i
        omega
      · have g := lows i (by omega)
        have l := A.lw i hi
        refine ⟨⟨?_, ?_, ?_, ?_, ?_⟩, ?_⟩
        · show z.2.T.pk i = s.T.pk i
          rw [g.1.1, l.1.1]
        · show z.2.T.pa i = s.T.pa i
          rw [g.1.2.1, l.1.2.1]
        · show z.2.T.pnum i = s.T.pnum i
          rw [g.1.2.2.1, l.1.2.2.1]
        · show up z.2.T.pj s.T.np 1 i = s.T.pj i
          rw [up_n (by omega), g.1.2.2.2.1, l.1.2.2.2.1]
        · show up z.2.T.pf s.T.np (some z.1) i = s.T.pf i
          rw [up_n (by omega), g.1.2.2.2.2, l.1.2.2.2.2]
        · show z.2.T.pn i = s.T.pn i
          rw [g.2, l.2]
      · show z.2.T.dn ++ [s.T.np] = s.T.dn ++ (seg ++ [s.T.np])
        rw [hdn, ← List.append_assoc]
        show q.2.T.dn ++ seg ++ [s.T.np] = _
        rw [A.dn]
      · refine ⟨Nat.le_refl _, by show s.T.np < z.2.T.np; omega, Or.inr (Or.inl ⟨?_, ?_, z.1, q.2.T.np, z.2.T.np, seg, ?_, by omega, Nat.le_refl _, Or.inl (by omega), ?_, rfl, r.pn⟩)⟩
        · show z.2.T.pk s.T.np = 12
          rw [lq.1.1, A.pk, up_s]
        · show up z.2.T.pj s.T.np 1 s.T.np = 1
          exact up_s
        · show up z.2.T.pf s.T.np (some z.1) s.T.np = some z.1
          exact up_s
        · refine EX_le (h := 2 * d + 1) ?_ (by omega)
          refine EX_fr (T := z.2.T) (T' := (cmpl s.T.np (PS.s_T z.2 ((Txt.s_pj (Txt.s_pf z.2.T (up z.2.T.pf s.T.np (some z.1))) (up z.2.T.pj s.T.np 1))))).T) rfl rfl _ _ _ _ _ hex (fun i h4 h5 => ?_) (fun i h4 h5 h6 => rfl)
          have h4' : q.2.T.np ≤ i := h4
          refine ⟨rfl, rfl, rfl, ?_, ?_⟩
          · show up z.2.T.pj s.T.np 1 i = z.2.T.pj i
            rw [up_n (by omega)]
          · show up z.2.T.pf s.T.np (some z.1) i = z.2.T.pf i
            rw [up_n (by omega)]
      · show z.2.T.pn s.T.np = none
        rw [lq.2, A.pn, up_s]
    · split
      · refine Ex_bnd (Ex_mono (fJoin_rd (Or.inl rfl) (fJoin_rd (Or.inr rfl) ih) s.st hz) (fun q r => ?_) (fun _ h => h))
        refine Ex_bnd (Ex_mono (req_ad 41 q.2) (fun z hzz => ?_) (fun _ h => h))
        show RdP s (2 * (d + 1) + 1) (q.1, z)
        rw [hzz]
        obtain ⟨seg, hdn, hex⟩ := r.dn
        have hi : s.i + 1 < q.2.i := r.i
        exact ⟨r.np, r.same, r.os, r.od, by show s.i < q.2.i + 1; omega, r.low, ⟨seg, hdn, hex⟩, r.pn⟩
      · split
        · rename_i hk; exact RdP_up1 (fConst_rd hk)
        · split
          · exact RdP_up1 (fTest_rd hz)
          · trivial
end TR
