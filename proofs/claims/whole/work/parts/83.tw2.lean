/-! WHAT A TEXT IS, III: the whole reading keeps to it. -/
section KT
variable {k : Tk}
theorem fDutyN_tw (hk : KI k) {N o d : Nat} {s : PS} (h : TW N s) (ho : o < s.T.nn) (hd : d = 1 ∨ d = 2) (hr : s.T.srt o < 2 → d = s.T.srt o + 1) : Ex (fun s' => TW N s' ∧ s'.os = s.os ∧ s'.od = s.od ∧ s'.T.nn = s.T.nn ∧ s'.T.srt = s.T.srt) (fun _ => True) (fDutyN k o d s) := by
  unfold fDutyN
  by_cases g : k.k s.i = 129
  · rw [if_neg (fun z => z g)]
    by_cases g2 : 100 ≤ s.T.nd
    · rw [if_pos g2]; trivial
    · rw [if_neg g2]
      have hv := hk.num _ g
      have D := h.D
      obtain ⟨rs, R⟩ := h.R
      refine ⟨⟨⟨h.A.n, h.A.z, h.A.l, h.A.b, h.A.d⟩, ⟨h.N.fl, h.N.f0, h.N.r0, h.N.sr, h.N.ds, h.N.ch, h.N.nx, h.N.ls, h.N.n0⟩, h.O.os, ⟨?_, ?_, ?_, ?_, ?_, ?_⟩, ⟨h.W.n, h.W.w, h.W.r, h.W.l, h.W.b⟩, ⟨rs, R.fr ⟨rfl, rfl, rfl, rfl, rfl, rfl, rfl, rfl, rfl, rfl⟩ (fun i hi x hx => ⟨hi, hx⟩)⟩, h.o0⟩, rfl, rfl, rfl, rfl⟩
      · show s.T.nd + 1 ≤ 100; omega
      · exact up_lt (P := fun x => x < s.T.nn) D.o ho
      · exact up_lt (P := fun x => x = 1 ∨ x = 2) D.f hd
      · intro i hi
        have hi2 : i < s.T.nd + 1 := hi
        show s.T.srt (up s.T.dof s.T.nd o i) < 2 → up s.T.dfor s.T.nd d i = s.T.srt (up s.T.dof s.T.nd o i) + 1
        by_cases q : i = s.T.nd
        · subst q; rw [up_s, up_s]; exact hr
        · rw [up_n q, up_n q]; exact D.r i (by omega)
      · exact up_lt (P := fun x => x < 1000) D.v hv
      · intro a ha
        show up s.T.own o (s.T.own o + 1) a = cntN (up s.T.dof s.T.nd o) a (s.T.nd + 1)
        rw [cntN, cntN_fr s.T.nd (fun i hi => up_n (by omega)), up_s]
        by_cases q : a = o
        · subst q; rw [up_s, if_pos rfl, D.w a ha]
        · rw [up_n q, if_neg (fun z => q z.symm), D.w a ha]; rfl
  · rw [if_pos g]; trivial
theorem fDuties_tw (hk : KI k) {N o d : Nat} (hd : d = 1 ∨ d = 2) : ∀ (n : Nat) (s : PS), TW N s → o < s.T.nn → (s.T.srt o < 2 → d = s.T.srt o + 1) → Ex (fun s' => TW N s' ∧ s'.os = s.os ∧ s'.od = s.od ∧ s'.T.nn = s.T.nn ∧ s'.T.srt = s.T.srt) (fun _ => True) (fDuties k o d n s) := by
  intro n
  induction n with
  | zero => intro s h _ _; exact ⟨h, rfl, rfl, rfl, rfl⟩
  | succ n ih =>
    intro s h ho hr
    rw [fDuties]
    refine Ex_bnd (Ex_mono (fDutyN_tw hk h.st ho hd hr) (fun s' h' => ?_) (fun _ h => h))
    obtain ⟨t1, t2, t3, t4, t5⟩ := h'
    by_cases g : k.k s'.i = 44
    · rw [if_pos g]
      refine Ex_mono (ih s' t1 (by rw [t4]; exact ho) (by rw [t5]; exact hr)) (fun z hz => ?_) (fun _ h => h)
      obtain ⟨u1, u2, u3, u4, u5⟩ := hz
      exact ⟨u1, u2.trans t2, u3.trans t3, u4.trans t4, u5.trans t5⟩
    · rw [if_neg g]
      exact ⟨t1, t2, t3, t4, t5⟩
theorem TW.more {N N' : Nat} {s : PS} (h : TW N s) (hw : ∀ i, i < N' → s.T.srt i = 2 → ∃ w, w < 6 ∧ s.T.way i = some w) : TW N' s := ⟨h.A, h.N, h.O, h.D, ⟨h.W.n, hw, h.W.r, h.W.l, h.W.b⟩, h.R, h.o0⟩
/-- whole states: all ways known, depth in its bounds -/
def TS (s : PS) : Prop := TW s.T.nn s ∧ s.od ≤ 20 ∧ (s.os = none → s.T.nn = 0 ∨ s.od = 0)
theorem fSet_tw (hk : KI k) {s : PS} (h : TW s.T.nn s) (hod : s.od ≤ 20) (h0 : s.os = none → s.T.nn = 0) : Ex (fun s' => TW s'.T.nn s' ∧ s'.od ≤ 20 ∧ 0 < s'.T.nn ∧ s'.os ≠ none) (fun _ => True) (fSet k s) := by
  unfold fSet
  by_cases g4 : k.k s.i = 4
  · rw [if_neg (fun z => z g4)]
    refine Ex_bnd (Ex_mono (fNode_ad 2 s) (fun q hq => ?_) (fun _ h => h))
    obtain ⟨q1, q2, q3⟩ := hq
    have e1 : (addNd s.T 2 s.os).nn = s.T.nn + 1 := addNd_nn _ _ _
    obtain ⟨t1, t2, t3, t4, t5⟩ := TW.node (so := 2) h h0 (by omega) q3
    rw [q1, q2]
    have tn := fName_tw hk (i := s.T.nn) (TW.st t1)
    have nf := fName_f (k := k) s.T.nn ((PS.s_T s (addNd s.T 2 s.os)) : PS).st
    -- the name leaves sorts and ways
    have nsw : (fName k s.T.nn ((PS.s_T s (addNd s.T 2 s.os)) : PS).st).2.T.srt = (addNd s.T 2 s.os).srt ∧ (fName k s.T.nn ((PS.s_T s (addNd s.T 2 s.os)) : PS).st).2.T.way = (addNd s.T 2 s.os).way := by
      unfold fName
      split
      · exact ⟨rfl, rfl⟩
      · exact ⟨rfl, rfl⟩
    dsimp only
    revert tn nf nsw
    generalize fName k s.T.nn ((PS.s_T s (addNd s.T 2 s.os)) : PS).st = y
    intro tn nf nsw
    have ynn : y.2.T.nn = s.T.nn + 1 := by rw [nf.1.nn]; exact e1
    have yos : y.2.os = s.os := nf.1.os
    have yod : y.2.od = s.od := nf.1.od
    split
    · trivial
    · split
      · trivial
      · rename_i hn hw
        have W := tn.W
        obtain ⟨rs, R⟩ := tn.R
        have tw : TW s.T.nn (PS.s_T y.2.st ((Txt.s_way y.2.T (up y.2.T.way s.T.nn (some (k.k y.2.i - 22)))))) := by
          refine ⟨⟨tn.A.n, tn.A.z, tn.A.l, tn.A.b, tn.A.d⟩, ⟨tn.N.fl, tn.N.f0, tn.N.r0, tn.N.sr, tn.N.ds, tn.N.ch, tn.N.nx, tn.N.ls, tn.N.n0⟩, tn.O.os, ⟨tn.D.n, tn.D.o, tn.D.f, tn.D.r, tn.D.v, tn.D.w⟩, ⟨W.n, ?_, ?_, W.l, W.b⟩, ⟨rs, R.fr ⟨rfl, rfl, rfl, rfl, rfl, rfl, rfl, rfl, rfl, rfl⟩ (fun i hi x hx => ⟨hi, hx⟩)⟩, tn.o0⟩
          · intro i hi h2
            show ∃ w, w < 6 ∧ up y.2.T.way s.T.nn (some (k.k y.2.i - 22)) i = some w
            rw [up_n (by omega)]
            exact W.w i hi h2
          · intro i hi h2
            have hi2 : i < y.2.T.nn := hi
            have h2' : y.2.T.srt i < 2 := h2
            show up y.2.T.way s.T.nn (some (k.k y.2.i - 22)) i = none
            by_cases q : i = s.T.nn
            · subst q
              rw [nsw.1, t3] at h2'
              omega
            · rw [up_n q]; exact W.r i hi2 h2'
        refine Ex_bnd (Ex_mono (fFor_tw tw (by show y.2.od ≤ 20; omega)) (fun s2 h2 => ?_) (fun _ h => h))
        obtain ⟨u1, u2, u3, u4, u5, u6⟩ := h2
        split
        · trivial
        · split
          · trivial
          · rename_i hc hd
            have s2nn : s2.T.nn = s.T.nn + 1 := by rw [u4]; exact ynn
            have s2way : s2.T.way s.T.nn = some (k.k y.2.i - 22) := by rw [u6]; exact up_s
            have s2srt : s2.T.srt s.T.nn = 2 := by
              rw [u5]
              show y.2.T.srt s.T.nn = 2
              rw [nsw.1]; exact t3
            have u1' : TW s2.T.nn s2 := by
              refine u1.more (fun i hi h2 => ?_)
              by_cases q : i = s.T.nn
              · subst q; exact ⟨_, by omega, s2way⟩
              · exact u1.W.w i (by omega) h2
            show TW s2.T.nn (PS.s_od (PS.s_os s2.st (some s.T.nn)) (s2.od + 1)) ∧ s2.od + 1 ≤ 20 ∧ 0 < s2.T.nn ∧ (some s.T.nn : Option Nat) ≠ none
            refine ⟨⟨u1'.A, u1'.N, (fun c hc => ?_), u1'.D, u1'.W, u1'.R, fun z => (by cases z)⟩, by omega, by omega, by simp⟩
            cases hc
            show s.T.nn < s2.T.nn ∧ s2.T.srt s.T.nn = 2 ∧ ∃ n, Pth s2.T.fa n (s2.T.nn - 1) s.T.nn
            exact ⟨by omega, s2srt, 0, by show s2.T.nn - 1 = s.T.nn; omega⟩
  · rw [if_pos g4]; trivial
theorem fRule_tw (hk : KI k) {s : PS} (h : TW s.T.nn s) (hod : s.od ≤ 20) (ho : s.os ≠ none) : Ex (fun s' => TW s'.T.nn s' ∧ s'.od ≤ 20 ∧ 0 < s'.T.nn) (fun _ => True) (fRule k s) := by
  unfold fRule
  have main : ∀ so : Nat, so < 2 → Ex (fun s' => TW s'.T.nn s' ∧ s'.od ≤ 20 ∧ 0 < s'.T.nn) (fun _ => True) ((fNode k so s).bind (fun q => (fFor k q.1 (fName k q.1 q.2.st).2).bind (fun s2 => (if k.k s2.i = 8 then fDuties k q.1 (so + 1) 101 s2 else .ok s2).bind (fun s3 => req k 59 s3)))) := by
    intro so hso
    refine Ex_bnd (Ex_mono (fNode_ad so s) (fun q hq => ?_) (fun _ h => h))
    obtain ⟨q1, q2, q3⟩ := hq
    have e1 : (addNd s.T so s.os).nn = s.T.nn + 1 := addNd_nn _ _ _
    obtain ⟨t1, t2, t3, t4, t5⟩ := TW.node (so := so) h (fun z => absurd z ho) (by omega) q3
    rw [q1, q2]
    have tn := fName_tw hk (i := s.T.nn) (TW.st t1)
    have nf := fName_f (k := k) s.T.nn ((PS.s_T s (addNd s.T so s.os)) : PS).st
    have nsw : (fName k s.T.nn ((PS.s_T s (addNd s.T so s.os)) : PS).st).2.T.srt = (addNd s.T so s.os).srt := by
      unfold fName
      split
      · rfl
      · rfl
    revert tn nf nsw
    generalize fName k s.T.nn ((PS.s_T s (addNd s.T so s.os)) : PS).st = y
    intro tn nf nsw
    have ynn : y.2.T.nn = s.T.nn + 1 := by rw [nf.1.nn]; exact e1
    have yod : y.2.od = s.od := nf.1.od
    refine Ex_bnd (Ex_mono (fFor_tw tn (by omega)) (fun s2 h2 => ?_) (fun _ h => h))
    obtain ⟨u1, u2, u3, u4, u5, u6⟩ := h2
    have s2srt : s2.T.srt s.T.nn = so := by rw [u5, nsw]; exact t3
    have s2nn : s2.T.nn = s.T.nn + 1 := by rw [u4]; exact ynn
    refine Ex_bnd (Ex_mono (P := fun s' => TW s.T.nn s' ∧ s'.os = s2.os ∧ s'.od = s2.od ∧ s'.T.nn = s2.T.nn ∧ s'.T.srt = s2.T.srt) ?_ (fun s3 h3 => ?_) (fun _ h => h))
    · split
      · exact fDuties_tw hk (by omega) 101 s2 u1 (by omega) (fun _ => by rw [s2srt])
      · exact ⟨u1, rfl, rfl, rfl, rfl⟩
    · obtain ⟨v1, v2, v3, v4, v5⟩ := h3
      refine Ex_mono (req_ad 59 s3) (fun s4 h4 => ?_) (fun _ h => h)
      rw [h4]
      have v1' : TW s3.T.nn s3 := by
        refine v1.more (fun i hi h2 => ?_)
        by_cases q : i = s.T.nn
        · subst q
          rw [v5, s2srt] at h2
          omega
        · exact v1.W.w i (by omega) h2
      exact ⟨v1'.st, by show s3.od ≤ 20; omega, by show 0 < s3.T.nn; omega⟩
  split
  · exact main 0 (by omega)
  · exact main 1 (by omega)
theorem fDuty_tw (hk : KI k) {s : PS} {a : Nat} (h : TW s.T.nn s) (hod : s.od ≤ 20) (ho : s.os = some a) : Ex (fun s' => TW s'.T.nn s' ∧ s'.od ≤ 20 ∧ 0 < s'.T.nn) (fun _ => True) (fDuty k s) := by
  unfold fDuty
  obtain ⟨g1, g2, _⟩ := h.O.os a ho
  split
  · trivial
  · rw [ho]
    show Ex _ _ ((fDutyN k a (if k.k (s.i + 1) = 6 then 1 else 2) s.st.st).bind (fun s' => req k 59 s'))
    refine Ex_bnd (Ex_mono (fDutyN_tw hk h.st.st g1 (by split <;> omega) (fun z => ?_)) (fun s' h' => ?_) (fun _ h => h))
    · have z2 : s.T.srt a < 2 := z
      omega
    · obtain ⟨t1, t2, t3, t4, t5⟩ := h'
      refine Ex_mono (req_ad 59 s') (fun s4 h4 => ?_) (fun _ h => h)
      rw [h4]
      have t4' : s'.T.nn = s.T.nn := t4
      have t1' : TW s'.T.nn s' := by rw [t4']; exact t1
      have t3' : s'.od = s.od := t3
      exact ⟨t1'.st, by show s'.od ≤ 20; omega, by show 0 < s'.T.nn; omega⟩
theorem fMember_tw (hk : KI k) {s : PS} {a : Nat} (h : TW s.T.nn s) (hod : s.od ≤ 20) (ho : s.os = some a) (hi : PInv s) : Ex (fun s' => TW s'.T.nn s' ∧ s'.od ≤ 20 ∧ 0 < s'.T.nn) (fun _ => True) (fMember k s) := by
  unfold fMember
  split
  · exact Ex_mono (fSet_tw hk h hod (fun z => by rw [ho] at z; cases z)) (fun s' hs => ⟨hs.1, hs.2.1, hs.2.2.1⟩) (fun _ h => h)
  · split
    · exact fRule_tw hk h hod (by rw [ho]; simp)
    · split
      · exact fDuty_tw hk h hod ho
      · split
        · obtain ⟨g1, g2, m, g3⟩ := h.O.os a ho
          rw [ho]
          show TW s.T.nn (PS.s_od (PS.s_os s.st (s.T.fa a)) (s.od - 1)) ∧ s.od - 1 ≤ 20 ∧ 0 < s.T.nn
          refine ⟨⟨h.A, h.N, (fun c hc => ?_), h.D, h.W, h.R, fun z => ?_⟩, by omega, by omega⟩
          · have hc2 : s.T.fa a = some c := hc
            obtain ⟨f1, f2⟩ := h.N.fl a g1 c hc2
            show c < s.T.nn ∧ s.T.srt c = 2 ∧ ∃ n, Pth s.T.fa n (s.T.nn - 1) c
            exact ⟨by omega, f2, m + 1, Pth.snoc _ _ _ _ g3 hc2⟩
          · have z2 : s.T.fa a = none := z
            have hp := (hi.close ho).2.dp
            have hp2 : Dp s.T.fa (s.T.fa a) (s.od - 1) := hp
            show s.od - 1 = 0
            rw [z2] at hp2
            generalize s.od - 1 = dd at hp2
            cases dd with
            | zero => rfl
            | succ n =>
              obtain ⟨c, h1, _⟩ := hp2
              cases h1
        · trivial
theorem fMembers_tw (hk : KI k) : ∀ (n : Nat) (s : PS), TW s.T.nn s → s.od ≤ 20 → 0 < s.T.nn → PInv s → Ex (fun s' => TW s'.T.nn s' ∧ s'.od ≤ 20 ∧ 0 < s'.T.nn) (fun _ => True) (fMembers k n s) := by
  intro n
  induction n with
  | zero => intro s h1 h2 h3 _; exact ⟨h1, h2, h3⟩
  | succ n ih =>
    intro s h1 h2 h3 hi
    rw [fMembers]
    cases ho : s.os with
    | none =>
      rw [if_pos rfl]
      exact ⟨h1, h2, h3⟩
    | some a =>
      rw [if_neg (by simp)]
      exact Ex_bnd (Ex_mono (Ex_and (fMember_tw hk h1 h2 ho hi) (fMember_inv (k := k) hi ho)) (fun s' hs => ih s' hs.1.1 hs.1.2.1 hs.1.2.2 hs.2.1) (fun _ _ => trivial))
theorem findN_none {T : Txt} {i : Nat} : ∀ n a, findN k T i n a = none → ∀ x, a ≤ x → x < a + n → sameN k T i x = false := by
  intro n
  induction n with
  | zero => intro a _ x h1 h2; omega
  | succ n ih =>
    intro a h x h1 h2
    rw [findN] at h
    by_cases g : sameN k T i a = true
    · rw [if_pos g] at h; cases h
    · rw [if_neg g] at h
      by_cases q : x = a
      · subst q; simpa using g
      · exact ih (a + 1) h x (by omega) (by omega)
theorem fAttr_tw (hk : KI k) {s : PS} (h : TW s.T.nn s) : Ex (fun s' => TW s'.T.nn s') (fun _ => True) (fAttr k s) := by
  unfold fAttr
  by_cases g1 : 8 ≤ s.T.na
  · rw [if_pos g1]; trivial
  rw [if_neg g1]
  by_cases g2 : k.k (s.i + 1) = 128
  · rw [if_neg (fun z => z g2)]
    have hn := hk.nm _ g2
    by_cases g3 : hereN k s.st = none
    · rw [if_neg (fun z => z g3)]
      by_cases g4 : k.k (s.i + 2) = 129
      · rw [if_neg (fun z => z g4)]
        by_cases g5 : k.v (s.i + 2) < 1 ∨ 8 < k.v (s.i + 2)
        · rw [if_pos g5]; trivial
        · rw [if_neg g5]
          dsimp only
          refine Ex_mono (req_ad _ _) (fun s' hs' => ?_) (fun _ h => h)
          have sk : ∀ (w : Nat) (z : PS), (skp k w z).2.os = z.os ∧ (skp k w z).2.od = z.od := by
            intro w z
            unfold skp
            split
            · exact ⟨rfl, rfl⟩
            · exact ⟨rfl, rfl⟩
          have a1 := sk 2 s.st.st.st
          have a2 := sk 3 (skp k 2 s.st.st.st).2
          have ho : (skp k 3 (skp k 2 s.st.st.st).2).2.os = s.os := a2.1.trans a1.1
          have hd : (skp k 3 (skp k 2 s.st.st.st).2).2.od = s.od := a2.2.trans a1.2
          rw [hs']
          revert ho hd
          generalize (skp k 3 (skp k 2 s.st.st.st).2) = q2
          generalize (skp k 2 s.st.st.st).1 = mm
          intro ho hd
          have A := h.A
          obtain ⟨rs, R⟩ := h.R
          have na1 : s.T.na < 8 := by omega
          refine ⟨⟨?_, ?_, ?_, ?_, ?_⟩, ⟨h.N.fl, h.N.f0, h.N.r0, h.N.sr, h.N.ds, h.N.ch, h.N.nx, h.N.ls, h.N.n0⟩, (fun c hc => h.O.os c (by rw [← ho]; exact hc)), ⟨h.D.n, h.D.o, h.D.f, h.D.r, h.D.v, h.D.w⟩, ⟨h.W.n, h.W.w, h.W.r, h.W.l, h.W.b⟩, ⟨rs, ?_⟩, ?_⟩
          · show s.T.na + 1 ≤ 8; omega
          · exact up_lt (P := fun x => 1 ≤ x ∧ x ≤ 8) A.z (by omega)
          · exact up_lt (P := fun x => 1 ≤ x ∧ x ≤ 12) A.l hn
          · exact up_all (P := fun o : Nat → Nat => ∀ j, o j < 256) A.b (fun j => hk.b _)
          · intro i j hij hj
            have hj2 : j < s.T.na + 1 := hj
            show ¬ (up s.T.anl s.T.na (k.v (s.i + 1)) i = up s.T.anl s.T.na (k.v (s.i + 1)) j ∧ ∀ x, x < up s.T.anl s.T.na (k.v (s.i + 1)) i → up s.T.anm s.T.na (fun j => k.b (k.pl (s.i + 1) + j)) i x = up s.T.anm s.T.na (fun j => k.b (k.pl (s.i + 1) + j)) j x)
            by_cases q : j = s.T.na
            · subst q
              rw [up_s, up_s, up_n (by omega), up_n (by omega)]
              intro z
              have hf := findN_none (k := k) (T := s.T) (i := s.i + 1) s.T.na 0 g3 i (by omega) (by omega)
              have : sameN k s.T (s.i + 1) i = true := sameN_iff.2 ⟨z.1, fun x hx => z.2 x (by rw [z.1]; exact hx)⟩
              rw [hf] at this
              cases this
            · rw [up_n (by omega), up_n (by omega), up_n (by omega), up_n (by omega)]
              exact A.d i j hij (by omega)
          · -- trees: their attributes are there still
            have em : ∀ (hh lo hi p : Nat) (seg : List Nat), EX s.T hh lo hi p seg → EX (Txt.s_amust (Txt.s_amany (Txt.s_asz (Txt.s_anm (Txt.s_anl (Txt.s_na s.T (s.T.na + 1)) (up s.T.anl s.T.na (k.v (s.i + 1)))) (up s.T.anm s.T.na (fun j => k.b (k.pl (s.i + 1) + j)))) (up s.T.asz s.T.na (k.v (s.i + 2)))) (up s.T.amany s.T.na mm)) (up s.T.amust s.T.na q2.1)) hh lo hi p seg := by
              intro hh
              induction hh with
              | zero => intro lo hi p seg e; exact e.elim
              | succ hh ih =>
                intro lo hi p seg e
                obtain ⟨e1, e2, e3⟩ := e
                refine ⟨e1, e2, ?_⟩
                rcases e3 with ⟨b1, b2⟩ | ⟨b1, b2, c, lo', hi', sg, b3, b4, b5, b6, b7, b8⟩ | ⟨b1, ms, b2, b3, b4, b5, b6⟩
                · refine Or.inl ⟨?_, b2⟩
                  rcases b1 with b1 | ⟨c1, c2⟩
                  · exact Or.inl b1
                  · refine Or.inr ⟨by show s.T.pa p < s.T.na + 1; omega, ?_⟩
                    rcases c2 with ⟨d1, d2⟩ | d | ⟨d1, d2⟩ | d | d
                    · refine Or.inl ⟨d1, ?_⟩
                      show s.T.pnum p < up s.T.asz s.T.na (k.v (s.i + 2)) (s.T.pa p)
                      rw [up_n (by omega)]; exact d2
                    · exact Or.inr (Or.inl d)
                    · exact Or.inr (Or.inr (Or.inl ⟨d1, by show s.T.pnum p < s.T.na + 1; omega⟩))
                    · exact Or.inr (Or.inr (Or.inr (Or.inl d)))
                    · exact Or.inr (Or.inr (Or.inr (Or.inr d)))
                · exact Or.inr (Or.inl ⟨b1, b2, c, lo', hi', sg, b3, b4, b5, b6, ih _ _ _ _ b7, b8⟩)
                · refine Or.inr (Or.inr ⟨b1, ms, b2, b3, chn_fr ms _ _ b4 (fun m _ => rfl), fun m hm => ?_, b6⟩)
                  obtain ⟨c1, c2, c3⟩ := b5 m hm
                  exact ⟨c1, c2, ih _ _ _ _ c3⟩
            exact ⟨R.np, R.dn, R.ic, fun r hr => em _ _ _ _ _ (R.ex r hr), R.ro⟩
          · intro z
            show q2.2.od = 0
            rw [hd]
            exact h.o0 (by rw [← ho]; exact z)
      · rw [if_pos g4]; trivial
    · rw [if_pos g3]; trivial
  · rw [if_pos g2]; trivial
theorem fAttrs_tw (hk : KI k) : ∀ (n : Nat) (s : PS), TW s.T.nn s → Ex (fun s' => TW s'.T.nn s') (fun _ => True) (fAttrs k n s) := by
  intro n
  induction n with
  | zero => intro s h; exact h
  | succ n ih =>
    intro s h
    rw [fAttrs]
    split
    · exact Ex_bnd (Ex_mono (fAttr_tw hk h) (fun s' h' => ih s' h') (fun _ h => h))
    · exact h
theorem TW.ps0 : TW ps0.T.nn ps0 := by
  have hz : ∀ {P : Nat → Prop}, ∀ i, i < 0 → P i := fun i h => absurd h (Nat.not_lt_zero _)
  refine ⟨⟨by show 0 ≤ 8; omega, hz, hz, fun _ _ => by show 0 < 256; omega, fun i j _ hj => absurd hj (Nat.not_lt_zero _)⟩, ⟨hz, hz, fun h => absurd h (Nat.lt_irrefl _), hz, fun i hi => absurd hi (Nat.not_lt_zero _), hz, hz, hz, fun h => absurd h (Nat.lt_irrefl _)⟩, (fun c hc => (by cases hc)), ⟨by show 0 ≤ 100; omega, hz, hz, hz, hz, hz⟩, ⟨by show 0 ≤ 100; omega, hz, hz, hz, fun _ _ => by show 0 < 256; omega⟩, ⟨[], by show 0 ≤ 400; omega, rfl, Nat.le_refl _, fun r hr => (by cases hr), hz⟩, fun _ => rfl⟩
theorem fText_tw (hk : KI k) : Ex (fun s' => TW s'.T.nn s' ∧ 0 < s'.T.nn) (fun _ => True) (fText k tx0) := by
  show Ex _ _ ((fAttrs k 9 ps0).bind (fun s => (fSet k s).bind (fun s1 => (fMembers k k.n s1).bind (fun s2 => if k.k s2.i = 130 then .ok s2 else .error (rf k 2 s2)))))
  refine Ex_bnd (Ex_mono (Ex_and (fAttrs_tw hk 9 ps0 TW.ps0) (fAttrs_f (k := k) 9 ps0)) (fun s hs => ?_) (fun _ _ => trivial))
  obtain ⟨h1, h2⟩ := hs
  have i1 := h2.inv PInv.ps0
  have hn : s.T.nn = 0 := h2.nn
  have hd : s.od = 0 := h2.od
  refine Ex_bnd (Ex_mono (Ex_and (fSet_tw hk h1 (by omega) (fun _ => hn)) (fSet_inv (k := k) i1)) (fun s1 hs1 => ?_) (fun _ _ => trivial))
  obtain ⟨⟨g1, g2, g3, _⟩, g4, _⟩ := hs1
  refine Ex_bnd (Ex_mono (fMembers_tw hk k.n s1 g1 g2 g3 g4) (fun s2 hs2 => ?_) (fun _ h => h))
  split
  · exact ⟨hs2.1, hs2.2.2⟩
  · trivial
end KT
