/-! THE CLASS'S READER, IX: sets, rules, duties, the whole text. -/
/-- from set to set around, n steps to the outside -/
def Dp (fa : Nat → Option Nat) : Option Nat → Nat → Prop
  | o, 0 => o = none
  | o, n + 1 => ∃ a, o = some a ∧ Dp fa (fa a) n
theorem Dp.up {fa : Nat → Option Nat} {N : Nat} {x : Option Nat} (hf : ∀ i, i < N → ∀ a, fa i = some a → a < N) : ∀ (n : Nat) (o : Option Nat), Dp fa o n → (∀ a, o = some a → a < N) → Dp (up fa N x) o n := by
  intro n
  induction n with
  | zero => intro o h _; exact h
  | succ n ih =>
    intro o h ho
    obtain ⟨a, h1, h2⟩ := h
    have ha := ho a h1
    refine ⟨a, h1, ?_⟩
    rw [up_n (by omega)]
    exact ih _ h2 (fun b hb => hf a ha b hb)
def PInv (s : PS) : Prop := (Dp s.T.fa s.os s.od) ∧ (∀ a, s.os = some a → a < s.T.nn) ∧ (∀ i, i < s.T.nn → ∀ a, s.T.fa i = some a → a < s.T.nn)
theorem PInv.dp {s : PS} (h : PInv s) : Dp s.T.fa s.os s.od := h.1
theorem PInv.lo {s : PS} (h : PInv s) : ∀ a, s.os = some a → a < s.T.nn := h.2.1
theorem PInv.lf {s : PS} (h : PInv s) : ∀ i, i < s.T.nn → ∀ a, s.T.fa i = some a → a < s.T.nn := h.2.2
/-- fathers and nodes as they were -/
def SaF (s s' : PS) : Prop := (s'.T.nn = s.T.nn) ∧ (s'.T.fa = s.T.fa) ∧ (s'.os = s.os) ∧ (s'.od = s.od)
theorem SaF.nn {s s' : PS} (h : SaF s s') : s'.T.nn = s.T.nn := h.1
theorem SaF.fa {s s' : PS} (h : SaF s s') : s'.T.fa = s.T.fa := h.2.1
theorem SaF.os {s s' : PS} (h : SaF s s') : s'.os = s.os := h.2.2.1
theorem SaF.od {s s' : PS} (h : SaF s s') : s'.od = s.od := h.2.2.2
theorem SaF.refl {s : PS} : SaF s s := ⟨rfl, rfl, rfl, rfl⟩
theorem SaF.trans {a b c : PS} (h : SaF a b) (h2 : SaF b c) : SaF a c := ⟨h2.nn.trans h.nn, h2.fa.trans h.fa, h2.os.trans h.os, h2.od.trans h.od⟩
theorem SaF.cm {s : PS} {p : Nat} : SaF s (cmpl p s) := ⟨rfl, rfl, rfl, rfl⟩
theorem SaF.sn {s : PS} {p v : Nat} : SaF s (setNum p v s) := ⟨rfl, rfl, rfl, rfl⟩
theorem SaF.tt {s : PS} {p c a : Nat} : SaF s (setT p c a s) := ⟨rfl, rfl, rfl, rfl⟩
theorem SaF.si {s : PS} {j : Nat} : SaF s (PS.s_i s (j)) := ⟨rfl, rfl, rfl, rfl⟩
theorem SaF.ap {s : PS} {kd : Nat} : SaF s (PS.s_T s (addPt s.T kd)) := ⟨rfl, rfl, rfl, rfl⟩
theorem SaF.st {s : PS} : SaF s s.st := ⟨rfl, rfl, rfl, rfl⟩
theorem SaF.inv {s s' : PS} (h : SaF s s') (i : PInv s) : PInv s' := by
  refine ⟨?_, ?_, ?_⟩
  · rw [h.fa, h.os, h.od]; exact i.dp
  · rw [h.os, h.nn]; exact i.lo
  · rw [h.nn, h.fa]; exact i.lf
theorem PInv.node {s : PS} {so : Nat} (i : PInv s) : PInv (PS.s_T s (addNd s.T so s.os)) := by
  have e1 : (addNd s.T so s.os).nn = s.T.nn + 1 := by unfold addNd; cases s.os <;> rfl
  have e2 : (addNd s.T so s.os).fa = up s.T.fa s.T.nn s.os := by unfold addNd; cases s.os <;> rfl
  refine ⟨?_, ?_, ?_⟩
  · show Dp (addNd s.T so s.os).fa s.os s.od
    rw [e2]; exact Dp.up i.lf _ _ i.dp i.lo
  · show ∀ a, s.os = some a → a < (addNd s.T so s.os).nn
    rw [e1]; exact fun a ha => Nat.lt_succ_of_lt (i.lo a ha)
  · show ∀ j, j < (addNd s.T so s.os).nn → ∀ a, (addNd s.T so s.os).fa j = some a → a < (addNd s.T so s.os).nn
    rw [e1, e2]
    exact up_lt (P := fun o => ∀ a, o = some a → a < s.T.nn + 1) (fun j hj a ha => Nat.lt_succ_of_lt (i.lf j hj a ha)) (fun a ha => Nat.lt_succ_of_lt (i.lo a ha))
section GF
variable {k : Tk}
/-- expressions leave the fathers -/
def GooF (P : PS → PR (Nat × PS)) : Prop := ∀ s, Ex (fun q => SaF s q.2) (fun _ => True) (P s)
theorem fMore_f {w : Nat} {P : PS → PR (Nat × PS)} (hP : GooF P) : ∀ (n j last : Nat) (s : PS), Ex (fun q => SaF s q.2) (fun _ => True) (fMore k w P j n last s) := by
  intro n
  induction n with
  | zero => intro j last s; exact ⟨rfl, rfl, rfl, rfl⟩
  | succ n ih =>
    intro j last s
    rw [fMore]
    by_cases h : k.k s.i = w
    · rw [if_pos h]
      refine Ex_bnd (Ex_mono (hP s.st) (fun q hq => ?_) (fun _ h => h))
      refine Ex_mono (ih j q.1 _) (fun z hz => ?_) (fun _ h => h)
      exact ⟨hz.nn.trans hq.nn, hz.fa.trans hq.fa, hz.os.trans hq.os, hz.od.trans hq.od⟩
    · rw [if_neg h]; exact ⟨rfl, rfl, rfl, rfl⟩
theorem fJoin_f {w : Nat} {P : PS → PR (Nat × PS)} (hP : GooF P) : GooF (fJoin k w P) := by
  intro s
  unfold fJoin
  refine Ex_bnd (Ex_mono (hP s) (fun q hq => ?_) (fun _ h => h))
  by_cases h : k.k q.2.i = w
  · rw [if_pos h]
    refine Ex_bnd (Ex_mono (fPart1_ad w q.2) (fun z hz => ?_) (fun _ h => h))
    obtain ⟨h1, h2, h3⟩ := hz
    refine Ex_mono (fMore_f hP 400 z.1 q.1 _) (fun y hy => ?_) (fun _ h => h)
    exact ⟨hy.nn.trans (by rw [h2]; exact hq.nn), hy.fa.trans (by rw [h2]; exact hq.fa), hy.os.trans (by rw [h2]; exact hq.os), hy.od.trans (by rw [h2]; exact hq.od)⟩
  · rw [if_neg h]; exact hq
theorem fTest_f : GooF (fTest k) := by
  intro s
  unfold fTest
  cases hereN k s with
  | none => trivial
  | some a =>
    refine Ex_bnd (Ex_mono (fPart1_ad 128 s) (fun q hq => ?_) (fun _ h => h))
    obtain ⟨h1, h2, h3⟩ := hq
    have fin : ∀ (r : PR (Nat × PS)), Ex (fun z => ∃ i, z.2 = (PS.s_i (setT q.1 (k.k (s.i + 1)) a q.2.st) (i))) (fun _ => True) r → Ex (fun z => SaF s z.2) (fun _ => True) (r.bind (fun z => .ok (q.1, cmpl q.1 (setNum q.1 z.1 z.2)))) := by
      intro r hr
      refine Ex_bnd (Ex_mono hr (fun z hz => ?_) (fun _ h => h))
      obtain ⟨i, hi⟩ := hz
      show SaF s (cmpl q.1 (setNum q.1 z.1 z.2))
      rw [hi, h2]
      exact SaF.ap.trans (SaF.st.trans (SaF.tt.trans (SaF.si.trans (SaF.sn.trans SaF.cm))))
    dsimp only
    split
    · exact fin _ (Ex_mono (fNum_ad _ _) (fun z hz => ⟨_, hz⟩) (fun _ h => h))
    · split
      · refine fin _ (Ex_mono (fList_ad _ _) (fun z hz => ?_) (fun _ h => h))
        obtain ⟨i, hi⟩ := hz
        exact ⟨_, hi⟩
      · split
        · exact fin _ (Ex_mono (fNum_ad _ _) (fun z hz => ⟨_, hz⟩) (fun _ h => h))
        · split
          · exact fin _ (Ex_mono (fOther_ad _) (fun z hz => ⟨_, hz⟩) (fun _ h => h))
          · split
            · show SaF s (cmpl q.1 (setT q.1 (k.k (s.i + 1)) a q.2.st).st)
              rw [h2]
              exact SaF.ap.trans (SaF.st.trans (SaF.tt.trans (SaF.st.trans SaF.cm)))
            · trivial
theorem fConst_f : GooF (fConst k) := by
  intro s
  unfold fConst
  refine Ex_bnd (Ex_mono (fPart1_ad _ s) (fun q hq => ?_) (fun _ h => h))
  show SaF s (cmpl q.1 q.2.st)
  rw [hq.2.1]
  exact SaF.ap.trans (SaF.st.trans SaF.cm)
theorem fPart_f : ∀ d, GooF (fPart k d) := by
  intro d
  induction d with
  | zero =>
    intro s
    rw [fPart]
    split
    · trivial
    · split
      · exact fConst_f s
      · split
        · exact fTest_f s
        · trivial
  | succ d ih =>
    intro s
    rw [fPart]
    split
    · refine Ex_bnd (Ex_mono (fPart1_ad _ s) (fun q hq => ?_) (fun _ h => h))
      refine Ex_bnd (Ex_mono (ih q.2.st) (fun z hz => ?_) (fun _ h => h))
      obtain ⟨h1, h2, h3⟩ := hq
      exact ⟨hz.nn.trans (by rw [h2]; rfl), hz.fa.trans (by rw [h2]; rfl), hz.os.trans (by rw [h2]), hz.od.trans (by rw [h2])⟩
    · split
      · refine Ex_bnd (Ex_mono (fJoin_f (fJoin_f ih) s.st) (fun q hq => ?_) (fun _ h => h))
        refine Ex_bnd (Ex_mono (req_ad 41 q.2) (fun z hz => ?_) (fun _ h => h))
        show SaF s z
        rw [hz]
        exact ⟨hq.nn, hq.fa, hq.os, hq.od⟩
      · split
        · exact fConst_f s
        · split
          · exact fTest_f s
          · trivial
theorem fFor_f (i : Nat) (s : PS) : Ex (fun s' => SaF s s' ∧ s.i ≤ s'.i) (fun _ => True) (fFor k i s) := by
  unfold fFor
  split
  · refine Ex_bnd (Ex_mono (Ex_and (fJoin_f (fJoin_f (fPart_f _)) s.st) (fJoin_good (fJoin_good (fPart_good _)) s.st)) (fun q hq => ?_) (fun _ _ => trivial))
    obtain ⟨h1, h2, h3⟩ := hq
    have : s.i + 1 < q.2.i := h3.i
    exact ⟨⟨h1.nn, h1.fa, h1.os, h1.od⟩, by show s.i ≤ q.2.i; omega⟩
  · exact ⟨SaF.refl, Nat.le_refl _⟩
theorem fNode_ad (so : Nat) (s : PS) : Ex (fun q => q.1 = s.T.nn ∧ q.2 = (PS.s_T s (addNd s.T so s.os)) ∧ s.T.nn < 100) (fun _ => True) (fNode k so s) := by
  unfold fNode
  by_cases h : 100 ≤ s.T.nn
  · rw [if_pos h]; trivial
  · rw [if_neg h]; exact ⟨rfl, rfl, by omega⟩
theorem addNd_nn (T : Txt) (so : Nat) (o : Option Nat) : (addNd T so o).nn = T.nn + 1 := by unfold addNd; cases o <;> rfl
theorem addNd_anm (T : Txt) (so : Nat) (o : Option Nat) : (addNd T so o).anm = T.anm := by unfold addNd; cases o <;> rfl
theorem fName_f (i : Nat) (s : PS) : SaF s (fName k i s).2 ∧ s.i ≤ (fName k i s).2.i := by
  unfold fName
  split
  · exact ⟨⟨rfl, rfl, rfl, rfl⟩, Nat.le_succ _⟩
  · exact ⟨SaF.refl, Nat.le_refl _⟩
theorem fSet_inv {s : PS} (i : PInv s) : Ex (fun s' => PInv s' ∧ s.i < s'.i) (fun _ => True) (fSet k s) := by
  unfold fSet
  split
  · trivial
  · refine Ex_bnd (Ex_mono (fNode_ad 2 s) (fun q hq => ?_) (fun _ h => h))
    obtain ⟨h1, h2, h3⟩ := hq
    dsimp only
    split
    · trivial
    · split
      · trivial
      · refine Ex_bnd (Ex_mono (fFor_f _ _) (fun s2 h4 => ?_) (fun _ h => h))
        obtain ⟨h4, h5⟩ := h4
        have hn := fName_f (k := k) q.1 q.2.st
        split
        · trivial
        · split
          · trivial
          · have a : SaF q.2 s2 := by
              refine SaF.trans (b := (fName k q.1 q.2.st).2) ?_ ⟨h4.nn, h4.fa, h4.os, h4.od⟩
              exact ⟨hn.1.nn, hn.1.fa, hn.1.os, hn.1.od⟩
            have iq : PInv q.2 := by rw [h2]; exact i.node
            have i2 := a.inv iq
            have e : s2.os = s.os := by rw [a.os, h2]
            have ed : s2.od = s.od := by rw [a.od, h2]
            have en : s2.T.nn = s.T.nn + 1 := by rw [a.nn, h2]; exact addNd_nn _ _ _
            have ef : s2.T.fa s.T.nn = s.os := by
              rw [a.fa, h2]
              show (addNd s.T 2 s.os).fa s.T.nn = s.os
              unfold addNd
              cases s.os <;> exact up_s
            refine ⟨⟨?_, ?_, i2.lf⟩, ?_⟩
            · show Dp s2.T.fa (some q.1) (s2.od + 1)
              rw [h1]
              refine ⟨_, rfl, ?_⟩
              rw [ef, ← e]
              exact i2.dp
            · intro b hb
              cases hb
              show q.1 < s2.T.nn
              omega
            · have g2 : q.2.i = s.i := by rw [h2]
              have g3 : (fName k q.1 q.2.st).2.i + 1 ≤ s2.i := h5
              have g4 : q.2.i + 1 ≤ (fName k q.1 q.2.st).2.i := hn.2
              show s.i < s2.i + 1
              omega
theorem fDutyN_f (o d : Nat) (s : PS) : Ex (fun s' => SaF s s' ∧ s.i < s'.i) (fun _ => True) (fDutyN k o d s) := by
  unfold fDutyN
  split
  · trivial
  · split
    · trivial
    · exact ⟨⟨rfl, rfl, rfl, rfl⟩, Nat.lt_succ_self _⟩
theorem fDuties_f (o d : Nat) : ∀ (n : Nat) (s : PS), Ex (fun s' => SaF s s' ∧ s.i ≤ s'.i) (fun _ => True) (fDuties k o d n s) := by
  intro n
  induction n with
  | zero => intro s; exact ⟨SaF.refl, Nat.le_refl _⟩
  | succ n ih =>
    intro s
    rw [fDuties]
    refine Ex_bnd (Ex_mono (fDutyN_f o d s.st) (fun s' h' => ?_) (fun _ h => h))
    have hi : s.i + 1 < s'.i := h'.2
    have hf : SaF s s' := ⟨h'.1.nn, h'.1.fa, h'.1.os, h'.1.od⟩
    split
    · exact Ex_mono (ih s') (fun z hz => ⟨hf.trans hz.1, by have := hz.2; omega⟩) (fun _ h => h)
    · exact ⟨hf, by omega⟩
theorem fRule_inv {s : PS} (i : PInv s) : Ex (fun s' => PInv s' ∧ s.i < s'.i) (fun _ => True) (fRule k s) := by
  unfold fRule
  refine Ex_bnd (Ex_mono (fNode_ad _ s) (fun q hq => ?_) (fun _ h => h))
  obtain ⟨h1, h2, h3⟩ := hq
  have hn := fName_f (k := k) q.1 q.2.st
  refine Ex_bnd (Ex_mono (fFor_f _ _) (fun s2 h4 => ?_) (fun _ h => h))
  obtain ⟨h4, h5⟩ := h4
  refine Ex_bnd (Ex_mono (P := fun s3 => SaF s2 s3 ∧ s2.i ≤ s3.i) ?_ (fun s3 h6 => ?_) (fun _ h => h))
  · split
    · exact fDuties_f _ _ _ _
    · exact ⟨SaF.refl, Nat.le_refl _⟩
  · refine Ex_mono (req_ad 59 s3) (fun s4 h7 => ?_) (fun _ h => h)
    have iq : PInv q.2 := by rw [h2]; exact i.node
    have a : SaF q.2 s4 := by
      rw [h7]
      refine SaF.trans (b := s3) ?_ ⟨rfl, rfl, rfl, rfl⟩
      refine SaF.trans ?_ h6.1
      refine SaF.trans ?_ h4
      exact ⟨hn.1.nn, hn.1.fa, hn.1.os, hn.1.od⟩
    refine ⟨a.inv iq, ?_⟩
    have g2 : q.2.i = s.i := by rw [h2]
    have g4 : q.2.i + 1 ≤ (fName k q.1 q.2.st).2.i := hn.2
    have g5 := h6.2
    rw [h7]
    show s.i < s3.i + 1
    omega
theorem fDuty_inv {s : PS} (i : PInv s) : Ex (fun s' => PInv s' ∧ s.i < s'.i) (fun _ => True) (fDuty k s) := by
  unfold fDuty
  split
  · trivial
  · refine Ex_bnd (Ex_mono (fDutyN_f _ _ s.st.st) (fun s' h' => ?_) (fun _ h => h))
    refine Ex_mono (req_ad 59 s') (fun s4 h7 => ?_) (fun _ h => h)
    rw [h7]
    have hi : s.i + 1 + 1 < s'.i := h'.2
    exact ⟨SaF.inv (s := s) ⟨h'.1.nn, h'.1.fa, h'.1.os, h'.1.od⟩ i, by show s.i < s'.i + 1; omega⟩
theorem PInv.close {s : PS} {a : Nat} (i : PInv s) (ho : s.os = some a) : 0 < s.od ∧ PInv (PS.s_od (PS.s_os s.st (s.T.fa a)) (s.od - 1)) := by
  have h := i.dp
  rw [ho] at h
  generalize hd : s.od = d at h ⊢
  cases d with
  | zero => exact absurd h (by intro z; cases z)
  | succ n =>
    obtain ⟨a', h1, h2⟩ := h
    cases h1
    refine ⟨by omega, ?_, ?_, i.lf⟩
    · exact h2
    · exact fun b hb => i.lf a (i.lo a ho) b hb
theorem fMember_inv {s : PS} {a : Nat} (i : PInv s) (ho : s.os = some a) : Ex (fun s' => PInv s' ∧ s.i < s'.i) (fun _ => True) (fMember k s) := by
  unfold fMember
  split
  · exact fSet_inv i
  · split
    · exact fRule_inv i
    · split
      · exact fDuty_inv i
      · split
        · refine ⟨?_, Nat.lt_succ_self _⟩
          rw [ho]
          exact (i.close ho).2
        · trivial
end GF
