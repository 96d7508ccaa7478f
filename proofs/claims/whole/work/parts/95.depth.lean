/-! HOW DEEP a text's nodes lie: at most 20 fathers. -/
def DL (s : PS) : Prop := (PInv s) ∧ (s.od ≤ 20) ∧ (∀ i, i < s.T.nn → ∃ n, n ≤ 20 ∧ Dp s.T.fa (s.T.fa i) n)
theorem DL.p {s : PS} (h : DL s) : PInv s := h.1
theorem DL.o {s : PS} (h : DL s) : s.od ≤ 20 := h.2.1
theorem DL.d {s : PS} (h : DL s) : ∀ i, i < s.T.nn → ∃ n, n ≤ 20 ∧ Dp s.T.fa (s.T.fa i) n := h.2.2
theorem SaF.dl {s s' : PS} (h : SaF s s') (i : DL s) : DL s' := ⟨h.inv i.p, by rw [h.od]; exact i.o, by rw [h.nn, h.fa]; exact i.d⟩
theorem DL.node {s : PS} {so : Nat} (i : DL s) : DL (PS.s_T s (addNd s.T so s.os)) := by
  have e1 : (addNd s.T so s.os).nn = s.T.nn + 1 := by unfold addNd; cases s.os <;> rfl
  have e2 : (addNd s.T so s.os).fa = up s.T.fa s.T.nn s.os := by unfold addNd; cases s.os <;> rfl
  refine ⟨i.p.node, i.o, ?_⟩
  show ∀ j, j < (addNd s.T so s.os).nn → ∃ n, n ≤ 20 ∧ Dp (addNd s.T so s.os).fa ((addNd s.T so s.os).fa j) n
  rw [e1, e2]
  intro j hj
  by_cases z : j = s.T.nn
  · subst z
    rw [up_s]
    exact ⟨s.od, i.o, Dp.up i.p.lf _ _ i.p.dp i.p.lo⟩
  · rw [up_n z]
    obtain ⟨n, h1, h2⟩ := i.d j (by omega)
    exact ⟨n, h1, Dp.up i.p.lf _ _ h2 (i.p.lf j (by omega))⟩
section KD
variable {k : Tk}
theorem fSet_dl {s : PS} (i : DL s) : Ex DL (fun _ => True) (fSet k s) := by
  have main : Ex (fun s' => s'.od ≤ 20 ∧ ∀ i, i < s'.T.nn → ∃ n, n ≤ 20 ∧ Dp s'.T.fa (s'.T.fa i) n) (fun _ => True) (fSet k s) := ?_
  · exact Ex_mono (Ex_and (fSet_inv (k := k) i.p) main) (fun s' h => ⟨h.1.1, h.2.1, h.2.2⟩) (fun _ _ => trivial)
  unfold fSet
  split
  · trivial
  · refine Ex_bnd (Ex_mono (fNode_ad 2 s) (fun q hq => ?_) (fun _ h => h))
    obtain ⟨h1, h2, h3⟩ := hq
    dsimp only
    split
    · trivial
    · split
      · trivial
      · refine Ex_bnd (Ex_mono (fFor_f _ _) (fun s2 h4 => ?_) (fun _ h => h))
        obtain ⟨h4, h5⟩ := h4
        have hn := fName_f (k := k) q.1 q.2.st
        split
        · trivial
        · split
          · trivial
          · rename_i _ hd
            have a : SaF q.2 s2 := by
              refine SaF.trans (b := (fName k q.1 q.2.st).2) ?_ ⟨h4.nn, h4.fa, h4.os, h4.od⟩
              exact ⟨hn.1.nn, hn.1.fa, hn.1.os, hn.1.od⟩
            have iq : DL q.2 := by rw [h2]; exact i.node
            have i2 := a.dl iq
            show s2.od + 1 ≤ 20 ∧ ∀ i, i < s2.T.nn → ∃ n, n ≤ 20 ∧ Dp s2.T.fa (s2.T.fa i) n
            exact ⟨by omega, i2.d⟩
theorem fRule_dl {s : PS} (i : DL s) : Ex DL (fun _ => True) (fRule k s) := by
  unfold fRule
  refine Ex_bnd (Ex_mono (fNode_ad _ s) (fun q hq => ?_) (fun _ h => h))
  obtain ⟨h1, h2, h3⟩ := hq
  have hn := fName_f (k := k) q.1 q.2.st
  refine Ex_bnd (Ex_mono (fFor_f _ _) (fun s2 h4 => ?_) (fun _ h => h))
  obtain ⟨h4, h5⟩ := h4
  refine Ex_bnd (Ex_mono (P := fun s3 => SaF s2 s3 ∧ s2.i ≤ s3.i) ?_ (fun s3 h6 => ?_) (fun _ h => h))
  · split
    · exact fDuties_f _ _ _ _
    · exact ⟨SaF.refl, Nat.le_refl _⟩
  · refine Ex_mono (req_ad 59 s3) (fun s4 h7 => ?_) (fun _ h => h)
    have iq : DL q.2 := by rw [h2]; exact i.node
    have a : SaF q.2 s4 := by
      rw [h7]
      refine SaF.trans (b := s3) ?_ ⟨rfl, rfl, rfl, rfl⟩
      refine SaF.trans ?_ h6.1
      refine SaF.trans ?_ h4
      exact ⟨hn.1.nn, hn.1.fa, hn.1.os, hn.1.od⟩
    exact a.dl iq
theorem fDuty_dl {s : PS} (i : DL s) : Ex DL (fun _ => True) (fDuty k s) := by
  unfold fDuty
  split
  · trivial
  · refine Ex_bnd (Ex_mono (fDutyN_f _ _ s.st.st) (fun s' h' => ?_) (fun _ h => h))
    refine Ex_mono (req_ad 59 s') (fun s4 h7 => ?_) (fun _ h => h)
    rw [h7]
    exact SaF.dl (s := s) ⟨h'.1.nn, h'.1.fa, h'.1.os, h'.1.od⟩ i
theorem fMember_dl {s : PS} {a : Nat} (i : DL s) (ho : s.os = some a) : Ex DL (fun _ => True) (fMember k s) := by
  unfold fMember
  split
  · exact fSet_dl i
  · split
    · exact fRule_dl i
    · split
      · exact fDuty_dl i
      · split
        · rw [ho]
          exact ⟨(i.p.close ho).2, by have := i.o; show s.od - 1 ≤ 20; omega, i.d⟩
        · trivial
theorem fMembers_dl : ∀ (n : Nat) (s : PS), DL s → Ex DL (fun _ => True) (fMembers k n s) := by
  intro n
  induction n with
  | zero => intro s h; exact h
  | succ n ih =>
    intro s h
    rw [fMembers]
    cases ho : s.os with
    | none => rw [if_pos rfl]; exact h
    | some a =>
      rw [if_neg (by simp)]
      exact Ex_bnd (Ex_mono (fMember_dl h ho) (fun s' hs => ih s' hs) (fun _ h => h))
theorem fText_dl : Ex (fun s' => ∀ i, i < s'.T.nn → ∃ n, n ≤ 20 ∧ Dp s'.T.fa (s'.T.fa i) n) (fun _ => True) (fText k tx0) := by
  show Ex _ _ ((fAttrs k 9 ps0).bind (fun s => (fSet k s).bind (fun s1 => (fMembers k k.n s1).bind (fun s2 => if k.k s2.i = 130 then .ok s2 else .error (rf k 2 s2)))))
  refine Ex_bnd (Ex_mono (fAttrs_f (k := k) 9 ps0) (fun s hs => ?_) (fun _ _ => trivial))
  have i0 : DL ps0 := ⟨PInv.ps0, by show 0 ≤ 20; omega, fun i hi => absurd hi (Nat.not_lt_zero _)⟩
  refine Ex_bnd (Ex_mono (fSet_dl (SaF.dl hs i0)) (fun s1 hs1 => ?_) (fun _ _ => trivial))
  refine Ex_bnd (Ex_mono (fMembers_dl k.n s1 hs1) (fun s2 hs2 => ?_) (fun _ h => h))
  split
  · exact hs2.d
  · trivial
end KD
