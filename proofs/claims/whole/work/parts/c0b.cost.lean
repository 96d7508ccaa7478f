/-! HOW LONG the print is, II: what expressions cost. -/
def sm (f : Nat → Nat) : Nat → Nat
  | 0 => 0
  | n + 1 => sm f n + f n
theorem sm_fr {f f' : Nat → Nat} : ∀ n, (∀ i, i < n → f' i = f i) → sm f' n = sm f n := by
  intro n
  induction n with
  | zero => intro _; rfl
  | succ n ih => intro h; rw [sm, sm, ih (fun i hi => h i (by omega)), h n (by omega)]
theorem sm_up {f f' : Nat → Nat} {i : Nat} : ∀ n, i < n → (∀ j, j < n → j ≠ i → f' j = f j) → sm f' n + f i = sm f n + f' i := by
  intro n
  induction n with
  | zero => intro h; omega
  | succ n ih =>
    intro hi h
    rw [sm, sm]
    by_cases z : i = n
    · subst z
      have := sm_fr (f := f) (f' := f') i (fun j hj => h j (by omega) (by omega))
      omega
    · have := ih (by omega) (fun j hj hn => h j (by omega) hn)
      have e := h n (by omega) (by omega)
      omega
def cpt (T : Txt) (p : Nat) : Nat := if T.pk p = 10 then 2 + 4 * (T.pj p - 1) else if T.pk p = 11 then 2 + 5 * (T.pj p - 1) else if T.pk p = 12 then 4 else if T.pk p = 128 then 0 else if T.pk p = 13 ∨ T.pk p = 14 ∨ T.pk p = 15 then (wd (T.pk p)).length else (sTst T p).length
theorem cpt_fr {T T' : Txt} {i : Nat} (e : Pq T T' i) (s1 : T'.anl = T.anl) (s2 : T'.anm = T.anm) : cpt T' i = cpt T i := by
  obtain ⟨e1, e2, e3, e4, e5⟩ := e
  unfold cpt sTst tlS anS
  rw [e1, e2, e3, e4, s1, s2]
def CP (T : Txt) : Nat := sm (cpt T) T.np
theorem CP_low {T T' : Txt} (h : ∀ i, i < T.np → Pq T T' i) (s : SN T T') : sm (cpt T') T.np = CP T := sm_fr _ (fun i hi => cpt_fr (h i hi) s.anl s.anm)
theorem CP_new {T T' : Txt} (np : T'.np = T.np + 1) (lo : ∀ i, i < T.np → Pq T T' i) (s : SN T T') : CP T' = CP T + cpt T' T.np := by
  unfold CP
  rw [np, sm, CP_low lo s]; rfl
theorem slL_st : ∀ m, m < 256 → ∀ v, v < 8 → (slL (m ||| 1 <<< v) 8 0 false).length ≤ (slL m 8 0 false).length + 3 := by decide +kernel
section CO
variable {k : Tk} {N : Nat}
theorem fNum_e (below : Nat) (s : PS) : Ex (fun q => q.2 = s.st.st ∧ q.1 = k.v (s.i + 1) ∧ k.k (s.i + 1) = 129 ∧ q.1 < below) (fun _ => True) (fNum k below s) := by
  unfold fNum
  split
  · trivial
  · next h1 =>
    split
    · trivial
    · next h2 => exact ⟨rfl, rfl, Classical.not_not.mp h1, by show k.v (s.i + 1) < below; omega⟩
theorem findN_s {T : Txt} {i : Nat} : ∀ n a x, findN k T i n a = some x → sameN k T i x = true := by
  intro n
  induction n with
  | zero => intro a x h; cases h
  | succ n ih =>
    intro a x h
    rw [findN] at h
    split at h
    · cases h; assumption
    · exact ih _ _ h
theorem hereN_s {s : PS} {a : Nat} (h : hereN k s = some a) : s.T.anl a = k.v s.i := (sameN_iff.mp (findN_s _ _ _ h)).1
theorem fOther_e (s : PS) : Ex (fun q => q.2 = s.st.st ∧ k.k (s.i + 1) = 128 ∧ s.T.anl q.1 = k.v (s.i + 1)) (fun _ => True) (fOther k s) := by
  unfold fOther
  split
  · trivial
  · next h1 =>
    cases h : hereN k s.st with
    | none => trivial
    | some a => exact ⟨rfl, Classical.not_not.mp h1, hereN_s h⟩
theorem w1 (tl : TL k N) {i : Nat} (h : k.k i = 123 ∨ k.k i = 44 ∨ k.k i = 125 ∨ k.k i = 59 ∨ k.k i = 40 ∨ k.k i = 41 ∨ k.k i = 60 ∨ k.k i = 61 ∨ k.k i = 62) : k.pl i + 1 ≤ k.pl (i + 1) := by
  have := tl.st i
  unfold wdt at this
  rw [if_neg (by omega), if_neg (by omega), if_neg (by omega), if_neg (by omega)] at this
  exact this
theorem wN (tl : TL k N) {i : Nat} (h : k.k i = 129) : k.pl i + (sNum (k.v i)).length ≤ k.pl (i + 1) := by
  have := tl.st i
  unfold wdt at this
  rw [if_neg (by omega), if_pos h] at this
  exact this
theorem wM (tl : TL k N) {i : Nat} (h : k.k i = 128) : k.pl i + k.v i ≤ k.pl (i + 1) := by
  have := tl.st i
  unfold wdt at this
  rw [if_pos h] at this
  exact this
theorem wW (tl : TL k N) {i : Nat} (h1 : 1 ≤ k.k i) (h2 : k.k i < 28) : k.pl i + (wd (k.k i)).length ≤ k.pl (i + 1) := by
  have := tl.st i
  unfold wdt at this
  rw [if_neg (by omega), if_neg (by omega), if_pos h2, ← lw_sp _ h2 h1] at this
  exact this
theorem fVals_e (tl : TL k N) {below : Nat} (hb : below ≤ 8) : ∀ (n m : Nat) (s : PS), m < 256 → k.k s.i ≠ 125 → Ex (fun q => k.k q.2.i = 125 → (slL q.1 8 0 false).length + 2 * k.pl (s.i + 1) ≤ (slL m 8 0 false).length + 2 * k.pl q.2.i + 1) (fun _ => True) (fVals k below n m s) := by
  intro n
  induction n with
  | zero => intro m s hm hs; exact fun c => absurd c hs
  | succ n ih =>
    intro m s hm hs
    rw [fVals]
    by_cases h1 : k.k (s.i + 1) ≠ 129
    · rw [if_pos h1]; trivial
    · rw [if_neg h1]
      by_cases h2 : below ≤ k.v (s.i + 1) ∨ m.testBit (k.v (s.i + 1)) = true
      · rw [if_pos h2]; trivial
      · rw [if_neg h2]
        have hv : k.v (s.i + 1) < 8 := by omega
        have st := slL_st m hm _ hv
        have m2 := (bit_set m hm _ hv).2
        have b1 := wN tl (Classical.not_not.mp h1)
        have b2 := sNum_pos (k.v (s.i + 1))
        by_cases h3 : k.k (s.i + 2) ≠ 44
        · rw [if_pos h3]
          intro _
          show (slL (m ||| 1 <<< k.v (s.i + 1)) 8 0 false).length + 2 * k.pl (s.i + 1) ≤ (slL m 8 0 false).length + 2 * k.pl (s.i + 1 + 1) + 1
          omega
        · rw [if_neg h3]
          have h3 := Classical.not_not.mp h3
          have b3 := w1 tl (i := s.i + 2) (by omega)
          refine Ex_mono (ih _ s.st.st m2 (by show k.k (s.i + 2) ≠ 125; rw [h3]; decide)) (fun q hq c => ?_) (fun _ h => h)
          have := hq c
          have e : k.pl (s.st.st.i + 1) = k.pl (s.i + 2 + 1) := rfl
          rw [e] at this
          have e2 : k.pl (s.i + 1 + 1) = k.pl (s.i + 2) := rfl
          omega
theorem fList_e (tl : TL k N) {below : Nat} (hb : below ≤ 8) (s : PS) : Ex (fun q => (∃ i, q.2 = (PS.s_i s (s.i + i))) ∧ (sLs q.1).length + 2 * k.pl (s.i + 1) + 1 ≤ 2 * k.pl q.2.i) (fun _ => True) (fList k below s) := by
  have main : Ex (fun q : Nat × PS => (sLs q.1).length + 2 * k.pl (s.i + 1) + 1 ≤ 2 * k.pl q.2.i) (fun _ => True) (fList k below s) := by
    unfold fList
    by_cases h1 : k.k (s.i + 1) ≠ 123
    · rw [if_pos h1]; trivial
    · rw [if_neg h1]
      have h1 := Classical.not_not.mp h1
      refine Ex_bnd (Ex_mono (fVals_e tl hb 9 0 s.st (by omega) (by show k.k (s.i + 1) ≠ 125; omega)) (fun q hq => ?_) (fun _ h => h))
      unfold req
      by_cases h2 : k.k q.2.i = 125
      · rw [if_pos h2]
        have a := hq h2
        have e0 : (slL 0 8 0 false).length = 1 := rfl
        have b1 := w1 tl (i := s.i + 1) (by omega)
        have b2 := w1 tl (i := q.2.i) (by omega)
        show (sLs q.1).length + 2 * k.pl (s.i + 1) + 1 ≤ 2 * k.pl (q.2.i + 1)
        have e1 : (sLs q.1).length = (slL q.1 8 0 false).length + 1 := rfl
        have e2 : k.pl (s.st.i + 1) = k.pl (s.i + 1 + 1) := rfl
        rw [e2] at a
        omega
      · rw [if_neg h2]; trivial
  exact Ex_mono (Ex_and (fList_ad below s) main) (fun q h => h) (fun _ _ => trivial)
abbrev GO (k : Tk) (a : Nat) (s : PS) (q : Nat × PS) : Prop := CP q.2.T + a + 2 * k.pl s.i ≤ CP s.T + 2 * k.pl q.2.i
theorem leafC {s s0 : PS} {kd : Nat} (A : AP s.T s0.T kd) : CP (cmpl s.T.np s0.st).T = CP s.T + cpt (cmpl s.T.np s0.st).T s.T.np := CP_new A.np (fun i hi => (A.lw i hi).1) (A.sn.trans ⟨rfl, rfl, rfl, rfl, rfl, rfl, rfl, rfl, rfl, rfl, rfl, rfl, rfl, rfl, rfl, rfl, rfl, rfl, rfl, rfl, rfl⟩)
theorem fConst_c (tl : TL k N) {s : PS} (hk : k.k s.i = 13 ∨ k.k s.i = 14 ∨ k.k s.i = 15) : Ex (GO k 1 s) (fun _ => True) (fConst k s) := by
  unfold fConst fPart1
  split
  · trivial
  · show GO k 1 s (s.T.np, cmpl s.T.np ((PS.s_T s (addPt s.T (k.k s.i))) : PS).st)
    obtain ⟨s0, hs0⟩ : ∃ x : PS, x = ((PS.s_T s (addPt s.T (k.k s.i))) : PS) := ⟨_, rfl⟩
    rw [← hs0]
    have A : AP s.T s0.T (k.k s.i) := by rw [hs0]; exact AP_of
    have i0 : s0.i = s.i := by rw [hs0]
    clear hs0
    have e := leafC A
    have ec : cpt (cmpl s.T.np s0.st).T s.T.np = (wd (k.k s.i)).length := by
      have pk : (cmpl s.T.np s0.st).T.pk s.T.np = k.k s.i := by show s0.T.pk s.T.np = _; rw [A.pk, up_s]
      unfold cpt
      rw [pk, if_neg (by omega), if_neg (by omega), if_neg (by omega), if_neg (by omega), if_pos hk]
    have b := wW tl (i := s.i) (by omega) (by omega)
    have l : 1 ≤ (wd (k.k s.i)).length := by rcases hk with h | h | h <;> rw [h] <;> decide
    show CP (cmpl s.T.np s0.st).T + 1 + 2 * k.pl s.i ≤ CP s.T + 2 * k.pl (s0.i + 1)
    rw [e, ec, i0]; omega
theorem fTc_c (tl : TL k N) {s s0 s2 : PS} {c z a : Nat} (A : AP s.T s0.T 128) (T2 : s2.T = (Txt.s_pa (Txt.s_pk s0.T (up s0.T.pk s.T.np c)) (up s0.T.pa s.T.np a))) (i2 : s2.i = s.i + 1) (hz8 : z ≤ 8) (hkc : k.k (s.i + 1) = c) (hkn : k.k s.i = 128) (hv : s.T.anl a = k.v s.i) (hl : 1 ≤ s.T.anl a) : Ex (GO k 1 s) (fun _ => True) (fTc k s.T.np c z s2) := by
  have np2 : s2.T.np = s.T.np + 1 := by rw [T2]; exact A.np
  have pk2 : s2.T.pk s.T.np = c := by rw [T2]; exact up_s
  have pa2 : s2.T.pa s.T.np = a := by rw [T2]; exact up_s
  have sn2 : SN s.T s2.T := A.sn.trans (by rw [T2]; exact ⟨rfl, rfl, rfl, rfl, rfl, rfl, rfl, rfl, rfl, rfl, rfl, rfl, rfl, rfl, rfl, rfl, rfl, rfl, rfl, rfl, rfl⟩)
  have lw2 : ∀ i, i < s.T.np → Pq s.T s2.T i := by
    intro i hi
    refine ((A.lw i hi).1).trans ?_
    rw [T2]
    refine ⟨?_, ?_, rfl, rfl, rfl⟩
    · show up s0.T.pk s.T.np c i = _; rw [up_n (by omega)]
    · show up s0.T.pa s.T.np a i = _; rw [up_n (by omega)]
  clear T2
  have b0 := wM tl hkn
  -- the leaf, with its number
  have leaf : ∀ (T' : Txt), T'.np = s.T.np + 1 → (∀ i, i < s.T.np → Pq s.T T' i) → SN s.T T' → T'.pk s.T.np = c → T'.pa s.T.np = a → ((c = 16 ∨ c = 17 ∨ c = 18 ∨ c = 19 ∨ c = 20 ∨ c = 21) ∨ (c = 60 ∨ c = 61 ∨ c = 62)) → CP T' = CP s.T + (s.T.anl a + (1 + ((wd c).length + (tlS T' s.T.np).length))) := by
    intro T' h1 h2 h3 h4 h5 h6
    rw [CP_new h1 h2 h3]
    congr 1
    unfold cpt sTst anS
    rw [h4, h5, h3.anl, if_neg (by omega), if_neg (by omega), if_neg (by omega), if_neg (by omega), if_neg (by omega)]
    simp only [List.length_append, List.length_cons, sNm_len]
    omega
  have fin : ∀ (r : PR (Nat × PS)), ((c = 16 ∨ c = 17 ∨ c = 18 ∨ c = 19 ∨ c = 20 ∨ c = 21) ∨ (c = 60 ∨ c = 61 ∨ c = 62)) → Ex (fun y => (∃ i, y.2 = (PS.s_i s2 (s2.i + i))) ∧ ∀ T' : Txt, T'.pk s.T.np = c → T'.pnum s.T.np = y.1 → T'.anl = s.T.anl → (tlS T' s.T.np).length + s.T.anl a + (wd c).length + 2 + 2 * k.pl s.i ≤ 2 * k.pl y.2.i) (fun _ => True) r → Ex (GO k 1 s) (fun _ => True) (r.bind (fun z => .ok (s.T.np, cmpl s.T.np (setNum s.T.np z.1 z.2)))) := by
    intro r hc hr
    refine Ex_bnd (Ex_mono hr (fun y hy => ?_) (fun _ h => h))
    obtain ⟨⟨i, hi⟩, hb⟩ := hy
    have Ty : y.2.T = s2.T := by rw [hi]
    have e : CP (cmpl s.T.np (setNum s.T.np y.1 y.2)).T = _ := leaf (cmpl s.T.np (setNum s.T.np y.1 y.2)).T (by show y.2.T.np = _; rw [Ty]; exact np2) (fun j hj => (lw2 j hj).trans (by
        refine ⟨by show y.2.T.pk j = _; rw [Ty], by show y.2.T.pa j = _; rw [Ty], ?_, by show y.2.T.pj j = _; rw [Ty], by show y.2.T.pf j = _; rw [Ty]⟩
        show up y.2.T.pnum s.T.np y.1 j = _
        rw [up_n (by omega), Ty])) (sn2.trans (by rw [← Ty]; exact ⟨rfl, rfl, rfl, rfl, rfl, rfl, rfl, rfl, rfl, rfl, rfl, rfl, rfl, rfl, rfl, rfl, rfl, rfl, rfl, rfl, rfl⟩)) (by show y.2.T.pk s.T.np = _; rw [Ty]; exact pk2) (by show y.2.T.pa s.T.np = _; rw [Ty]; exact pa2) hc
    have hb := hb (cmpl s.T.np (setNum s.T.np y.1 y.2)).T (by show y.2.T.pk s.T.np = _; rw [Ty]; exact pk2) up_s (by show y.2.T.anl = _; rw [Ty]; exact sn2.anl)
    show CP (cmpl s.T.np (setNum s.T.np y.1 y.2)).T + 1 + 2 * k.pl s.i ≤ CP s.T + 2 * k.pl y.2.i
    rw [e]; omega
  have en : ∀ (y : Nat × PS), y.2 = s2.st.st → y.2.i = s.i + 3 ∧ ∃ i, y.2 = (PS.s_i s2 (s2.i + i)) := fun y hy => ⟨by rw [hy]; show s2.i + 1 + 1 = _; omega, 2, by rw [hy]⟩
  unfold fTc
  by_cases c1 : c = 16 ∨ c = 20
  · rw [if_pos c1]
    refine fin _ (by omega) (Ex_mono (fNum_e z s2) (fun y hy => ?_) (fun _ h => h))
    obtain ⟨h1, h2, h3, h4⟩ := hy
    obtain ⟨ei, ex⟩ := en y h1
    rw [i2] at h2 h3
    refine ⟨ex, fun T' t1 t2 t3 => ?_⟩
    have b1 := wW tl (i := s.i + 1) (by omega) (by omega)
    have b2 := wN tl h3
    have b3 := sNum_pos y.1
    rw [hkc] at b1
    rw [← h2] at b2
    have l : 2 ≤ (wd c).length := by rcases c1 with h | h <;> rw [h] <;> decide
    rw [ei]
    unfold tlS
    rw [t1, t2, if_neg (by omega), if_neg (by omega), if_neg (by omega), List.length_cons]
    have e1 : k.pl (s.i + 1 + 1 + 1) = k.pl (s.i + 3) := rfl
    omega
  rw [if_neg c1]
  by_cases c2 : c = 17 ∨ c = 18
  · rw [if_pos c2]
    refine fin _ (by omega) (Ex_mono (fList_e tl hz8 s2) (fun y hy => ?_) (fun _ h => h))
    obtain ⟨ex, h2⟩ := hy
    rw [i2] at h2
    refine ⟨ex, fun T' t1 t2 t3 => ?_⟩
    have b1 := wW tl (i := s.i + 1) (by omega) (by omega)
    rw [hkc] at b1
    have l : 2 ≤ (wd c).length := by rcases c2 with h | h <;> rw [h] <;> decide
    unfold tlS
    rw [t1, t2, if_pos c2, List.length_cons]
    omega
  rw [if_neg c2]
  by_cases c3 : c = 60 ∨ c = 61 ∨ c = 62
  · rw [if_pos c3]
    refine fin _ (by omega) (Ex_mono (fNum_e 1000 s2) (fun y hy => ?_) (fun _ h => h))
    obtain ⟨h1, h2, h3, h4⟩ := hy
    obtain ⟨ei, ex⟩ := en y h1
    rw [i2] at h2 h3
    refine ⟨ex, fun T' t1 t2 t3 => ?_⟩
    have b1 := w1 tl (i := s.i + 1) (by omega)
    have b2 := wN tl h3
    have b3 := sNum_pos y.1
    rw [← h2] at b2
    have l : (wd c).length = 1 := by rcases c3 with h | h | h <;> rw [h] <;> rfl
    rw [ei]
    unfold tlS
    rw [t1, t2, if_neg (by omega), if_neg (by omega), if_neg (by omega), List.length_cons]
    have e1 : k.pl (s.i + 1 + 1 + 1) = k.pl (s.i + 3) := rfl
    omega
  rw [if_neg c3]
  by_cases c4 : c = 19
  · rw [if_pos c4]
    refine fin _ (by omega) (Ex_mono (fOther_e s2) (fun y hy => ?_) (fun _ h => h))
    obtain ⟨h1, h2, h3⟩ := hy
    obtain ⟨ei, ex⟩ := en y h1
    rw [i2] at h2 h3
    refine ⟨ex, fun T' t1 t2 t3 => ?_⟩
    have b1 := wW tl (i := s.i + 1) (by omega) (by omega)
    have b2 := wM tl h2
    rw [hkc] at b1
    have l : (wd c).length = 5 := by rw [c4]; rfl
    rw [ei]
    unfold tlS anS
    rw [t1, t2, t3, if_neg (by omega), if_pos c4, List.length_cons, sNm_len]
    rw [sn2.anl] at h3
    have e1 : k.pl (s.i + 1 + 1 + 1) = k.pl (s.i + 3) := rfl
    omega
  rw [if_neg c4]
  by_cases c5 : c = 21
  · rw [if_pos c5]
    have e : CP (cmpl s.T.np s2.st).T = _ := leaf (cmpl s.T.np s2.st).T np2 lw2 (sn2.trans ⟨rfl, rfl, rfl, rfl, rfl, rfl, rfl, rfl, rfl, rfl, rfl, rfl, rfl, rfl, rfl, rfl, rfl, rfl, rfl, rfl, rfl⟩) pk2 pa2 (by omega)
    have et : (tlS (cmpl s.T.np s2.st).T s.T.np).length = 0 := by
      unfold tlS
      rw [show (cmpl s.T.np s2.st).T.pk s.T.np = c from pk2, if_neg (by omega), if_neg (by omega), if_pos c5]; rfl
    have b1 := wW tl (i := s.i + 1) (by omega) (by omega)
    rw [hkc] at b1
    have l : (wd c).length = 4 := by rw [c5]; rfl
    show CP (cmpl s.T.np s2.st).T + 1 + 2 * k.pl s.i ≤ CP s.T + 2 * k.pl (s2.i + 1)
    rw [e, et, i2]
    omega
  · rw [if_neg c5]; trivial
theorem fTest_c (tl : TL k N) {s : PS} (hz : ∀ a, a < s.T.na → s.T.asz a ≤ 8) (hl : ∀ a, a < s.T.na → 1 ≤ s.T.anl a) (hk : k.k s.i = 128) : Ex (GO k 1 s) (fun _ => True) (fTest k s) := by
  cases ho : hereN k s with
  | none => rw [fTest_no ho]; trivial
  | some a =>
    have ha := hereN_lt ho
    by_cases hn : 400 ≤ s.T.np
    · rw [fTest_full ho hn]; trivial
    · rw [fTest_eq ho (by omega)]
      obtain ⟨s0, hs0⟩ : ∃ x : PS, x = ((PS.s_T s (addPt s.T 128)) : PS) := ⟨_, rfl⟩
      rw [← hs0]
      have A : AP s.T s0.T 128 := by rw [hs0]; exact AP_of
      have i0 : s0.i = s.i := by rw [hs0]
      clear hs0
      exact fTc_c tl (s0 := s0) (a := a) A rfl (by show s0.i + 1 = _; omega) (hz a ha) rfl hk (hereN_s ho) (hl a ha)
end CO
