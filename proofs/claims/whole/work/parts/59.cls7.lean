/-! THE CLASS'S READER, VII: expressions. -/
/-- what reading a part moves on, and what it leaves -/
def Adv (s s' : PS) : Prop := (s.i < s'.i) ∧ (s.T.np < s'.T.np) ∧ (s'.T.nn = s.T.nn) ∧ (s'.T.na = s.T.na) ∧ (s'.T.asz = s.T.asz) ∧ (s'.os = s.os) ∧ (s'.od = s.od)
theorem Adv.i {s s' : PS} (h : Adv s s') : s.i < s'.i := h.1
theorem Adv.np {s s' : PS} (h : Adv s s') : s.T.np < s'.T.np := h.2.1
theorem Adv.nn {s s' : PS} (h : Adv s s') : s'.T.nn = s.T.nn := h.2.2.1
theorem Adv.na {s s' : PS} (h : Adv s s') : s'.T.na = s.T.na := h.2.2.2.1
theorem Adv.asz {s s' : PS} (h : Adv s s') : s'.T.asz = s.T.asz := h.2.2.2.2.1
theorem Adv.os {s s' : PS} (h : Adv s s') : s'.os = s.os := h.2.2.2.2.2.1
theorem Adv.od {s s' : PS} (h : Adv s s') : s'.od = s.od := h.2.2.2.2.2.2
theorem Adv.trans {a b c : PS} (h : Adv a b) (h2 : Adv b c) : Adv a c :=
  ⟨Nat.lt_trans h.i h2.i, Nat.lt_trans h.np h2.np, h2.nn.trans h.nn, h2.na.trans h.na, h2.asz.trans h.asz, h2.os.trans h.os, h2.od.trans h.od⟩
def Good (P : PS → PR (Nat × PS)) : Prop := ∀ s, Ex (fun q => q.1 < q.2.T.np ∧ Adv s q.2) (fun _ => True) (P s)
theorem Ex_and {α : Type} {P P' : α → Prop} {E E' : Fl → Prop} {r : PR α} (h : Ex P E r) (h' : Ex P' E' r) : Ex (fun a => P a ∧ P' a) (fun f => E f ∧ E' f) r := by
  cases r with
  | ok a => exact ⟨h, h'⟩
  | error f => exact ⟨h, h'⟩
theorem Ex_bnd {α β : Type} {P : β → Prop} {E : Fl → Prop} {r : PR α} {f : α → PR β} (h : Ex (fun a => Ex P E (f a)) E r) : Ex P E (r.bind f) := by
  cases r with
  | ok a => exact h
  | error e => exact h
theorem Ex_tr {α : Type} {E : Fl → Prop} {r : PR α} (h : ∀ f, E f) : Ex (fun _ => True) E r := by
  cases r with
  | ok a => exact trivial
  | error f => exact h f
section GO
variable {k : Tk}
/-- moved on, parts added or none -/
def Adw (s s' : PS) : Prop := (s.i ≤ s'.i) ∧ (s.T.np ≤ s'.T.np) ∧ (s'.T.nn = s.T.nn) ∧ (s'.T.na = s.T.na) ∧ (s'.T.asz = s.T.asz) ∧ (s'.os = s.os) ∧ (s'.od = s.od)
theorem Adw.i {s s' : PS} (h : Adw s s') : s.i ≤ s'.i := h.1
theorem Adw.np {s s' : PS} (h : Adw s s') : s.T.np ≤ s'.T.np := h.2.1
theorem Adw.nn {s s' : PS} (h : Adw s s') : s'.T.nn = s.T.nn := h.2.2.1
theorem Adw.na {s s' : PS} (h : Adw s s') : s'.T.na = s.T.na := h.2.2.2.1
theorem Adw.asz {s s' : PS} (h : Adw s s') : s'.T.asz = s.T.asz := h.2.2.2.2.1
theorem Adw.os {s s' : PS} (h : Adw s s') : s'.os = s.os := h.2.2.2.2.2.1
theorem Adw.od {s s' : PS} (h : Adw s s') : s'.od = s.od := h.2.2.2.2.2.2
theorem Adw.refl {s : PS} : Adw s s := ⟨Nat.le_refl _, Nat.le_refl _, rfl, rfl, rfl, rfl, rfl⟩
theorem Adv.w {a b : PS} (h : Adv a b) : Adw a b := ⟨Nat.le_of_lt h.i, Nat.le_of_lt h.np, h.nn, h.na, h.asz, h.os, h.od⟩
theorem Adv.tw {a b c : PS} (h : Adv a b) (h2 : Adw b c) : Adv a c :=
  ⟨Nat.lt_of_lt_of_le h.i h2.i, Nat.lt_of_lt_of_le h.np h2.np, h2.nn.trans h.nn, h2.na.trans h.na, h2.asz.trans h.asz, h2.os.trans h.os, h2.od.trans h.od⟩
theorem Adw.tv {a b c : PS} (h : Adw a b) (h2 : Adv b c) : Adv a c :=
  ⟨Nat.lt_of_le_of_lt h.i h2.i, Nat.lt_of_le_of_lt h.np h2.np, h2.nn.trans h.nn, h2.na.trans h.na, h2.asz.trans h.asz, h2.os.trans h.os, h2.od.trans h.od⟩
theorem Adw.trans {a b c : PS} (h : Adw a b) (h2 : Adw b c) : Adw a c :=
  ⟨Nat.le_trans h.i h2.i, Nat.le_trans h.np h2.np, h2.nn.trans h.nn, h2.na.trans h.na, h2.asz.trans h.asz, h2.os.trans h.os, h2.od.trans h.od⟩
theorem Adw.st {s : PS} : Adw s s.st := ⟨Nat.le_succ _, Nat.le_refl _, rfl, rfl, rfl, rfl, rfl⟩
theorem Adw.cm {s : PS} {p : Nat} : Adw s (cmpl p s) := ⟨Nat.le_refl _, Nat.le_refl _, rfl, rfl, rfl, rfl, rfl⟩
theorem Adw.sn {s : PS} {p v : Nat} : Adw s (setNum p v s) := ⟨Nat.le_refl _, Nat.le_refl _, rfl, rfl, rfl, rfl, rfl⟩
theorem Adw.tt {s : PS} {p c a : Nat} : Adw s (setT p c a s) := ⟨Nat.le_refl _, Nat.le_refl _, rfl, rfl, rfl, rfl, rfl⟩
theorem Adw.si {s : PS} {j : Nat} (h : s.i ≤ j) : Adw s (PS.s_i s (j)) := ⟨h, Nat.le_refl _, rfl, rfl, rfl, rfl, rfl⟩
theorem Adw.ap {s : PS} {kd : Nat} : Adw s (PS.s_T s (addPt s.T kd)) := ⟨Nat.le_refl _, Nat.le_succ _, rfl, rfl, rfl, rfl, rfl⟩
/-- with a new part, and at least a step on -/
theorem Adw.new {s s' : PS} {kd : Nat} (h : Adw ((PS.s_T s (addPt s.T kd)) : PS).st s') : s.T.np < s'.T.np ∧ Adv s s' := by
  have h1 : s.i + 1 ≤ s'.i := h.i
  have h2 : s.T.np + 1 ≤ s'.T.np := h.np
  exact ⟨h2, h1, h2, h.nn, h.na, h.asz, h.os, h.od⟩
theorem fPart1_ad (kd : Nat) (s : PS) : Ex (fun q => q.1 = s.T.np ∧ q.2 = (PS.s_T s (addPt s.T kd)) ∧ s.T.np < 400) (fun _ => True) (fPart1 k kd s) := by
  unfold fPart1
  by_cases h : 400 ≤ s.T.np
  · rw [if_pos h]; trivial
  · rw [if_neg h]; exact ⟨rfl, rfl, by omega⟩
theorem fMore_ad {w : Nat} {P : PS → PR (Nat × PS)} (hP : Good P) : ∀ (n j last : Nat) (s : PS), Ex (fun q => q.1 = j ∧ Adw s q.2) (fun _ => True) (fMore k w P j n last s) := by
  intro n
  induction n with
  | zero => intro j last s; exact ⟨rfl, Nat.le_refl _, Nat.le_refl _, rfl, rfl, rfl, rfl, rfl⟩
  | succ n ih =>
    intro j last s
    rw [fMore]
    by_cases h : k.k s.i = w
    · rw [if_pos h]
      refine Ex_bnd (Ex_mono (hP s.st) (fun q hq => ?_) (fun _ h => h))
      refine Ex_mono (ih j q.1 _) (fun z hz => ⟨hz.1, ?_⟩) (fun _ h => h)
      have a1 : Adw s q.2 := Adw.st.trans hq.2.w
      exact ⟨Nat.le_trans a1.i hz.2.i, Nat.le_trans a1.np hz.2.np, hz.2.nn.trans a1.nn, hz.2.na.trans a1.na, hz.2.asz.trans a1.asz, hz.2.os.trans a1.os, hz.2.od.trans a1.od⟩
    · rw [if_neg h]
      exact ⟨rfl, Nat.le_refl _, Nat.le_refl _, rfl, rfl, rfl, rfl, rfl⟩
theorem fJoin_good {w : Nat} {P : PS → PR (Nat × PS)} (hP : Good P) : Good (fJoin k w P) := by
  intro s
  unfold fJoin
  refine Ex_bnd (Ex_mono (hP s) (fun q hq => ?_) (fun _ h => h))
  by_cases h : k.k q.2.i = w
  · rw [if_pos h]
    refine Ex_bnd (Ex_mono (fPart1_ad w q.2) (fun z hz => ?_) (fun _ h => h))
    obtain ⟨h1, h2, h3⟩ := hz
    refine Ex_mono (fMore_ad hP 400 z.1 q.1 _) (fun y hy => ?_) (fun _ h => h)
    have a := hy.2
    have a1 : Adv s y.2 := ⟨Nat.lt_of_lt_of_le hq.2.i (by have := a.i; rw [h2] at this; exact this), Nat.lt_of_lt_of_le hq.2.np (by have := a.np; rw [h2] at this; exact Nat.le_of_succ_le this), a.nn.trans (by rw [h2]; exact hq.2.nn), a.na.trans (by rw [h2]; exact hq.2.na), a.asz.trans (by rw [h2]; exact hq.2.asz), a.os.trans (by rw [h2]; exact hq.2.os), a.od.trans (by rw [h2]; exact hq.2.od)⟩
    refine ⟨?_, a1⟩
    rw [hy.1, h1]
    have := a.np
    rw [h2] at this
    exact this
  · rw [if_neg h]; exact hq
theorem fNum_ad (below : Nat) (s : PS) : Ex (fun q => q.2 = s.st.st) (fun _ => True) (fNum k below s) := by
  unfold fNum
  by_cases h : k.k (s.i + 1) ≠ 129
  · rw [if_pos h]; trivial
  · rw [if_neg h]
    by_cases h2 : below ≤ k.v (s.i + 1)
    · rw [if_pos h2]; trivial
    · rw [if_neg h2]; rfl
theorem fOther_ad (s : PS) : Ex (fun q => q.2 = s.st.st) (fun _ => True) (fOther k s) := by
  unfold fOther
  by_cases h : k.k (s.i + 1) ≠ 128
  · rw [if_pos h]; trivial
  · rw [if_neg h]
    cases hereN k s.st with
    | none => trivial
    | some a => rfl
theorem req_ad (w : Nat) (s : PS) : Ex (fun q => q = s.st) (fun _ => True) (req k w s) := by
  unfold req
  by_cases h : k.k s.i = w
  · rw [if_pos h]; rfl
  · rw [if_neg h]; trivial
theorem fVals_ad (below : Nat) : ∀ (n m : Nat) (s : PS), Ex (fun q => ∃ i, q.2 = (PS.s_i s (s.i + i))) (fun _ => True) (fVals k below n m s) := by
  intro n
  induction n with
  | zero => intro m s; exact ⟨0, rfl⟩
  | succ n ih =>
    intro m s
    rw [fVals]
    by_cases h : k.k (s.i + 1) ≠ 129
    · rw [if_pos h]; trivial
    · rw [if_neg h]
      by_cases h2 : below ≤ k.v (s.i + 1) ∨ m.testBit (k.v (s.i + 1)) = true
      · rw [if_pos h2]; trivial
      · rw [if_neg h2]
        by_cases h3 : k.k (s.i + 2) ≠ 44
        · rw [if_pos h3]; exact ⟨2, rfl⟩
        · rw [if_neg h3]
          refine Ex_mono (ih _ _) (fun q hq => ?_) (fun _ h => h)
          obtain ⟨i, hi⟩ := hq
          exact ⟨2 + i, by rw [hi]; show ((PS.s_i s (s.i + 1 + 1 + i)) : PS) = _; rw [show s.i + 1 + 1 + i = s.i + (2 + i) by omega]⟩
theorem fList_ad (below : Nat) (s : PS) : Ex (fun q => ∃ i, q.2 = (PS.s_i s (s.i + i))) (fun _ => True) (fList k below s) := by
  unfold fList
  by_cases h : k.k (s.i + 1) ≠ 123
  · rw [if_pos h]; trivial
  · rw [if_neg h]
    refine Ex_bnd (Ex_mono (fVals_ad below 9 0 s.st) (fun q hq => ?_) (fun _ h => h))
    refine Ex_bnd (Ex_mono (req_ad 125 q.2) (fun z hz => ?_) (fun _ h => h))
    obtain ⟨i, hi⟩ := hq
    refine ⟨1 + i + 1, ?_⟩
    show z = _
    rw [hz, hi]
    show ((PS.s_i s (s.i + 1 + i + 1)) : PS) = _
    rw [show s.i + 1 + i + 1 = s.i + (1 + i + 1) by omega]
theorem fTest_good : Good (fTest k) := by
  intro s
  unfold fTest
  cases hereN k s with
  | none => trivial
  | some a =>
    refine Ex_bnd (Ex_mono (fPart1_ad 128 s) (fun q hq => ?_) (fun _ h => h))
    obtain ⟨h1, h2, h3⟩ := hq
    have fin : ∀ (r : PR (Nat × PS)), Ex (fun z => ∃ i, z.2 = (PS.s_i (setT q.1 (k.k (s.i + 1)) a q.2.st) (s.i + 1 + i))) (fun _ => True) r → Ex (fun z => z.1 < z.2.T.np ∧ Adv s z.2) (fun _ => True) (r.bind (fun z => .ok (q.1, cmpl q.1 (setNum q.1 z.1 z.2)))) := by
      intro r hr
      refine Ex_bnd (Ex_mono hr (fun z hz => ?_) (fun _ h => h))
      obtain ⟨i, hi⟩ := hz
      show q.1 < (cmpl q.1 (setNum q.1 z.1 z.2)).T.np ∧ Adv s (cmpl q.1 (setNum q.1 z.1 z.2))
      rw [hi, h1, h2]
      refine Adw.new (kd := 128) (Adw.tt.trans (Adw.trans (Adw.si ?_) (Adw.sn.trans Adw.cm)))
      show s.i + 1 ≤ s.i + 1 + i
      omega
    have e : (setT q.1 (k.k (s.i + 1)) a q.2.st).i = s.i + 1 := by rw [h2]; rfl
    dsimp only
    split
    · refine fin _ (Ex_mono (fNum_ad _ _) (fun z hz => ⟨2, ?_⟩) (fun _ h => h))
      rw [hz]; show ((PS.s_i (setT q.1 (k.k (s.i + 1)) a q.2.st) ((setT q.1 (k.k (s.i + 1)) a q.2.st).i + 1 + 1)) : PS) = _; rw [e]
    · split
      · refine fin _ (Ex_mono (fList_ad _ _) (fun z hz => ?_) (fun _ h => h))
        obtain ⟨i, hi⟩ := hz
        exact ⟨i, by rw [hi, e]⟩
      · split
        · refine fin _ (Ex_mono (fNum_ad _ _) (fun z hz => ⟨2, ?_⟩) (fun _ h => h))
          rw [hz]; show ((PS.s_i (setT q.1 (k.k (s.i + 1)) a q.2.st) ((setT q.1 (k.k (s.i + 1)) a q.2.st).i + 1 + 1)) : PS) = _; rw [e]
        · split
          · refine fin _ (Ex_mono (fOther_ad _) (fun z hz => ⟨2, ?_⟩) (fun _ h => h))
            rw [hz]; show ((PS.s_i (setT q.1 (k.k (s.i + 1)) a q.2.st) ((setT q.1 (k.k (s.i + 1)) a q.2.st).i + 1 + 1)) : PS) = _; rw [e]
          · split
            · show q.1 < (cmpl q.1 (setT q.1 (k.k (s.i + 1)) a q.2.st).st).T.np ∧ Adv s (cmpl q.1 (setT q.1 (k.k (s.i + 1)) a q.2.st).st)
              rw [h1, h2]
              exact Adw.new (kd := 128) (Adw.tt.trans (Adw.st.trans Adw.cm))
            · trivial
theorem fConst_good : Good (fConst k) := by
  intro s
  unfold fConst
  refine Ex_bnd (Ex_mono (fPart1_ad _ s) (fun q hq => ?_) (fun _ h => h))
  obtain ⟨h1, h2, h3⟩ := hq
  show q.1 < (cmpl q.1 q.2.st).T.np ∧ Adv s (cmpl q.1 q.2.st)
  rw [h1, h2]
  exact Adw.new (kd := k.k s.i) Adw.cm
theorem fPart_good : ∀ d, Good (fPart k d) := by
  intro d
  induction d with
  | zero =>
    intro s
    rw [fPart]
    split
    · trivial
    · split
      · exact fConst_good s
      · split
        · exact fTest_good s
        · trivial
  | succ d ih =>
    intro s
    rw [fPart]
    split
    · refine Ex_bnd (Ex_mono (fPart1_ad _ s) (fun q hq => ?_) (fun _ h => h))
      obtain ⟨h1, h2, h3⟩ := hq
      refine Ex_bnd (Ex_mono (ih q.2.st) (fun z hz => ?_) (fun _ h => h))
      have a := hz.2
      have ei := a.i
      have en := a.np
      rw [h2] at ei en
      have ei2 : s.i + 1 < z.2.i := ei
      have en2 : s.T.np + 1 < z.2.T.np := en
      show q.1 < z.2.T.np ∧ Adv s _
      refine ⟨by omega, by show s.i < z.2.i; omega, by show s.T.np < z.2.T.np; omega, a.nn.trans (by rw [h2]; rfl), a.na.trans (by rw [h2]; rfl), a.asz.trans (by rw [h2]; rfl), a.os.trans (by rw [h2]), a.od.trans (by rw [h2])⟩
    · split
      · refine Ex_bnd (Ex_mono (fJoin_good (fJoin_good ih) s.st) (fun q hq => ?_) (fun _ h => h))
        refine Ex_bnd (Ex_mono (req_ad 41 q.2) (fun z hz => ?_) (fun _ h => h))
        show q.1 < z.T.np ∧ Adv s z
        rw [hz]
        exact ⟨hq.1, Adw.st.tv (hq.2.tw Adw.st)⟩
      · split
        · exact fConst_good s
        · split
          · exact fTest_good s
          · trivial
end GO
