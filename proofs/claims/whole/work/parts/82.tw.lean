/-! WHAT A TEXT IS, II: what the reading keeps to. -/
/-- the attributes of a text -/
def AI (T : Txt) : Prop := (T.na ≤ 8) ∧ (∀ i, i < T.na → 1 ≤ T.asz i ∧ T.asz i ≤ 8) ∧ (∀ i, i < T.na → 1 ≤ T.anl i ∧ T.anl i ≤ 12) ∧ (∀ i j, T.anm i j < 256) ∧ (∀ i j, i < j → j < T.na → ¬ (T.anl i = T.anl j ∧ ∀ x, x < T.anl i → T.anm i x = T.anm j x))
theorem AI.n {T : Txt} (h : AI T) : T.na ≤ 8 := h.1
theorem AI.z {T : Txt} (h : AI T) : ∀ i, i < T.na → 1 ≤ T.asz i ∧ T.asz i ≤ 8 := h.2.1
theorem AI.l {T : Txt} (h : AI T) : ∀ i, i < T.na → 1 ≤ T.anl i ∧ T.anl i ≤ 12 := h.2.2.1
theorem AI.b {T : Txt} (h : AI T) : ∀ i j, T.anm i j < 256 := h.2.2.2.1
theorem AI.d {T : Txt} (h : AI T) : ∀ i j, i < j → j < T.na → ¬ (T.anl i = T.anl j ∧ ∀ x, x < T.anl i → T.anm i x = T.anm j x) := h.2.2.2.2
/-- how many of the first n are a -/
def cntN (f : Nat → Nat) (a : Nat) : Nat → Nat
  | 0 => 0
  | n + 1 => cntN f a n + (if f n = a then 1 else 0)
/-- the duties of a text -/
def DI (T : Txt) : Prop := (T.nd ≤ 100) ∧ (∀ i, i < T.nd → T.dof i < T.nn) ∧ (∀ i, i < T.nd → T.dfor i = 1 ∨ T.dfor i = 2) ∧ (∀ i, i < T.nd → T.srt (T.dof i) < 2 → T.dfor i = T.srt (T.dof i) + 1) ∧ (∀ i, i < T.nd → T.dnum i < 1000) ∧ (∀ a, a < T.nn → T.own a = cntN T.dof a T.nd)
theorem DI.n {T : Txt} (h : DI T) : T.nd ≤ 100 := h.1
theorem DI.o {T : Txt} (h : DI T) : ∀ i, i < T.nd → T.dof i < T.nn := h.2.1
theorem DI.f {T : Txt} (h : DI T) : ∀ i, i < T.nd → T.dfor i = 1 ∨ T.dfor i = 2 := h.2.2.1
theorem DI.r {T : Txt} (h : DI T) : ∀ i, i < T.nd → T.srt (T.dof i) < 2 → T.dfor i = T.srt (T.dof i) + 1 := h.2.2.2.1
theorem DI.v {T : Txt} (h : DI T) : ∀ i, i < T.nd → T.dnum i < 1000 := h.2.2.2.2.1
theorem DI.w {T : Txt} (h : DI T) : ∀ a, a < T.nn → T.own a = cntN T.dof a T.nd := h.2.2.2.2.2
/-- ways, names -/
def WI (T : Txt) (N : Nat) : Prop := (T.nn ≤ 100) ∧ (∀ i, i < N → T.srt i = 2 → ∃ w, w < 6 ∧ T.way i = some w) ∧ (∀ i, i < T.nn → T.srt i < 2 → T.way i = none) ∧ (∀ i, i < T.nn → T.nnl i ≤ 12) ∧ (∀ i j, T.nnm i j < 256)
theorem WI.n {T : Txt} {N : Nat} (h : WI T N) : T.nn ≤ 100 := h.1
theorem WI.w {T : Txt} {N : Nat} (h : WI T N) : ∀ i, i < N → T.srt i = 2 → ∃ w, w < 6 ∧ T.way i = some w := h.2.1
theorem WI.r {T : Txt} {N : Nat} (h : WI T N) : ∀ i, i < T.nn → T.srt i < 2 → T.way i = none := h.2.2.1
theorem WI.l {T : Txt} {N : Nat} (h : WI T N) : ∀ i, i < T.nn → T.nnl i ≤ 12 := h.2.2.2.1
theorem WI.b {T : Txt} {N : Nat} (h : WI T N) : ∀ i j, T.nnm i j < 256 := h.2.2.2.2
def inc (np : Nat) : Nat → List Mb → Prop
  | lo, [] => lo ≤ np
  | lo, m :: l => lo ≤ m.2.1.1 ∧ m.2.1.1 ≤ m.1 ∧ m.1 < m.2.1.2 ∧ inc np m.2.1.2 l
theorem inc_hi {np : Nat} : ∀ (l : List Mb) (lo : Nat), inc np lo l → lo ≤ np ∧ ∀ m, m ∈ l → lo ≤ m.2.1.1 ∧ m.2.1.2 ≤ np := by
  intro l
  induction l with
  | nil => intro lo h; exact ⟨h, fun m hm => (by cases hm)⟩
  | cons x l ih =>
    intro lo h
    obtain ⟨h1, h2, h3, h4⟩ := h
    have g := ih _ h4
    refine ⟨by omega, fun m hm => ?_⟩
    rcases List.mem_cons.1 hm with rfl | hm
    · exact ⟨h1, g.1⟩
    · have := g.2 m hm
      omega
theorem inc_app {np np' : Nat} {m : Mb} (h1 : np ≤ m.2.1.1) (h2 : m.2.1.1 ≤ m.1) (h3 : m.1 < m.2.1.2) (h4 : m.2.1.2 ≤ np') : ∀ (l : List Mb) (lo : Nat), inc np lo l → inc np' lo (l ++ [m]) := by
  intro l
  induction l with
  | nil => intro lo h; exact ⟨Nat.le_trans h h1, h2, h3, h4⟩
  | cons x l ih =>
    intro lo h
    obtain ⟨g1, g2, g3, g4⟩ := h
    exact ⟨g1, g2, g3, ih _ g4⟩
/-- the expressions of a text, in the order of their reading -/
def RI (T : Txt) (rs : List (Nat × Mb)) : Prop := (T.np ≤ 400) ∧ (T.dn = sgs (rs.map Prod.snd)) ∧ (inc T.np 0 (rs.map Prod.snd)) ∧ (∀ r, r ∈ rs → EX T 43 r.2.2.1.1 r.2.2.1.2 r.2.1 r.2.2.2) ∧ (∀ i, i < T.nn → ∀ p, T.root i = some p → ∃ m, (i, m) ∈ rs ∧ m.1 = p)
theorem RI.np {T : Txt} {rs : List (Nat × Mb)} (h : RI T rs) : T.np ≤ 400 := h.1
theorem RI.dn {T : Txt} {rs : List (Nat × Mb)} (h : RI T rs) : T.dn = sgs (rs.map Prod.snd) := h.2.1
theorem RI.ic {T : Txt} {rs : List (Nat × Mb)} (h : RI T rs) : inc T.np 0 (rs.map Prod.snd) := h.2.2.1
theorem RI.ex {T : Txt} {rs : List (Nat × Mb)} (h : RI T rs) : ∀ r, r ∈ rs → EX T 43 r.2.2.1.1 r.2.2.1.2 r.2.1 r.2.2.2 := h.2.2.2.1
theorem RI.ro {T : Txt} {rs : List (Nat × Mb)} (h : RI T rs) : ∀ i, i < T.nn → ∀ p, T.root i = some p → ∃ m, (i, m) ∈ rs ∧ m.1 = p := h.2.2.2.2
/-- parts as they were -/
def PF (T T' : Txt) : Prop := (T'.na = T.na) ∧ (T'.asz = T.asz) ∧ (T'.np = T.np) ∧ (T'.pk = T.pk) ∧ (T'.pa = T.pa) ∧ (T'.pnum = T.pnum) ∧ (T'.pj = T.pj) ∧ (T'.pf = T.pf) ∧ (T'.pn = T.pn) ∧ (T'.dn = T.dn)
theorem PF.na {T T' : Txt} (h : PF T T') : T'.na = T.na := h.1
theorem PF.asz {T T' : Txt} (h : PF T T') : T'.asz = T.asz := h.2.1
theorem PF.np {T T' : Txt} (h : PF T T') : T'.np = T.np := h.2.2.1
theorem PF.pk {T T' : Txt} (h : PF T T') : T'.pk = T.pk := h.2.2.2.1
theorem PF.pa {T T' : Txt} (h : PF T T') : T'.pa = T.pa := h.2.2.2.2.1
theorem PF.pnum {T T' : Txt} (h : PF T T') : T'.pnum = T.pnum := h.2.2.2.2.2.1
theorem PF.pj {T T' : Txt} (h : PF T T') : T'.pj = T.pj := h.2.2.2.2.2.2.1
theorem PF.pf {T T' : Txt} (h : PF T T') : T'.pf = T.pf := h.2.2.2.2.2.2.2.1
theorem PF.pn {T T' : Txt} (h : PF T T') : T'.pn = T.pn := h.2.2.2.2.2.2.2.2.1
theorem PF.dn {T T' : Txt} (h : PF T T') : T'.dn = T.dn := h.2.2.2.2.2.2.2.2.2
theorem RI.fr {T T' : Txt} {rs : List (Nat × Mb)} (h : RI T rs) (p : PF T T') (hr : ∀ i, i < T'.nn → ∀ x, T'.root i = some x → i < T.nn ∧ T.root i = some x) : RI T' rs := by
  refine ⟨by rw [p.np]; exact h.np, by rw [p.dn]; exact h.dn, by rw [p.np]; exact h.ic, fun r hr => ?_, fun i hi x hx => ?_⟩
  · refine EX_fr p.na p.asz _ _ _ _ _ (h.ex r hr) (fun i _ _ => ⟨?_, ?_, ?_, ?_, ?_⟩) (fun i _ _ _ => ?_)
    · rw [p.pk]
    · rw [p.pa]
    · rw [p.pnum]
    · rw [p.pj]
    · rw [p.pf]
    · rw [p.pn]
  · obtain ⟨g1, g2⟩ := hr i hi x hx
    exact h.ro i g1 x g2
theorem addNd_pf (T : Txt) (so : Nat) (os : Option Nat) : PF T (addNd T so os) := by
  unfold addNd
  cases os <;> exact ⟨rfl, rfl, rfl, rfl, rfl, rfl, rfl, rfl, rfl, rfl⟩
/-- what the state of the reading keeps to; N: nodes whose way is known -/
def TW (N : Nat) (s : PS) : Prop := (AI s.T) ∧ (NI s.T) ∧ (OI s) ∧ (DI s.T) ∧ (WI s.T N) ∧ (∃ rs, RI s.T rs) ∧ (s.os = none → s.od = 0)
theorem TW.A {N : Nat} {s : PS} (h : TW N s) : AI s.T := h.1
theorem TW.N {N : Nat} {s : PS} (h : TW N s) : NI s.T := h.2.1
theorem TW.O {N : Nat} {s : PS} (h : TW N s) : OI s := h.2.2.1
theorem TW.D {N : Nat} {s : PS} (h : TW N s) : DI s.T := h.2.2.2.1
theorem TW.W {N : Nat} {s : PS} (h : TW N s) : WI s.T N := h.2.2.2.2.1
theorem TW.R {N : Nat} {s : PS} (h : TW N s) : ∃ rs, RI s.T rs := h.2.2.2.2.2.1
theorem TW.o0 {N : Nat} {s : PS} (h : TW N s) : s.os = none → s.od = 0 := h.2.2.2.2.2.2
theorem cntN_fr {f f' : Nat → Nat} {a : Nat} : ∀ n, (∀ i, i < n → f' i = f i) → cntN f' a n = cntN f a n := by
  intro n
  induction n with
  | zero => intro _; rfl
  | succ n ih =>
    intro h
    rw [cntN, cntN, ih (fun i hi => h i (by omega)), h n (by omega)]
theorem cntN_0 {f : Nat → Nat} {a : Nat} : ∀ n, (∀ i, i < n → f i ≠ a) → cntN f a n = 0 := by
  intro n
  induction n with
  | zero => intro _; rfl
  | succ n ih =>
    intro h
    rw [cntN, ih (fun i hi => h i (by omega)), if_neg (h n (by omega))]
section KT
variable {k : Tk}
/-- what tokens keep to -/
def KI (k : Tk) : Prop := (∀ j, k.k j = 129 → k.v j < 1000) ∧ (∀ j, k.k j = 128 → 1 ≤ k.v j ∧ k.v j ≤ 12) ∧ (∀ j, k.b j < 256)
theorem KI.num {k : Tk} (h : KI k) : ∀ j, k.k j = 129 → k.v j < 1000 := h.1
theorem KI.nm {k : Tk} (h : KI k) : ∀ j, k.k j = 128 → 1 ≤ k.v j ∧ k.v j ≤ 12 := h.2.1
theorem KI.b {k : Tk} (h : KI k) : ∀ j, k.b j < 256 := h.2.2
theorem TW.node {s : PS} {so : Nat} (h : TW s.T.nn s) (h0 : s.os = none → s.T.nn = 0) (hso : so < 3) (hl : s.T.nn < 100) : TW s.T.nn (PS.s_T s (addNd s.T so s.os)) ∧ (addNd s.T so s.os).way s.T.nn = none ∧ (addNd s.T so s.os).srt s.T.nn = so ∧ (addNd s.T so s.os).root s.T.nn = none ∧ (addNd s.T so s.os).nnl s.T.nn = 0 := by
  have e1 : (addNd s.T so s.os).nn = s.T.nn + 1 := addNd_nn _ _ _
  have e2 : (addNd s.T so s.os).fa = up s.T.fa s.T.nn s.os := by unfold addNd; cases s.os <;> rfl
  have e3 : (addNd s.T so s.os).srt = up s.T.srt s.T.nn so := by unfold addNd; cases s.os <;> rfl
  have e4 : (addNd s.T so s.os).way = up s.T.way s.T.nn none := by unfold addNd; cases s.os <;> rfl
  have e5 : (addNd s.T so s.os).root = up s.T.root s.T.nn none := by unfold addNd; cases s.os <;> rfl
  have e6 : (addNd s.T so s.os).nnl = up s.T.nnl s.T.nn 0 := by unfold addNd; cases s.os <;> rfl
  have e7 : (addNd s.T so s.os).nnm = s.T.nnm := by unfold addNd; cases s.os <;> rfl
  have e8 : (addNd s.T so s.os).own = up s.T.own s.T.nn 0 := by unfold addNd; cases s.os <;> rfl
  have d1 : (addNd s.T so s.os).nd = s.T.nd := by unfold addNd; cases s.os <;> rfl
  have d2 : (addNd s.T so s.os).dof = s.T.dof := by unfold addNd; cases s.os <;> rfl
  have d3 : (addNd s.T so s.os).dfor = s.T.dfor := by unfold addNd; cases s.os <;> rfl
  have d4 : (addNd s.T so s.os).dnum = s.T.dnum := by unfold addNd; cases s.os <;> rfl
  have a1 : (addNd s.T so s.os).na = s.T.na := by unfold addNd; cases s.os <;> rfl
  have a2 : (addNd s.T so s.os).asz = s.T.asz := by unfold addNd; cases s.os <;> rfl
  have a3 : (addNd s.T so s.os).anl = s.T.anl := by unfold addNd; cases s.os <;> rfl
  have a4 : (addNd s.T so s.os).anm = s.T.anm := addNd_anm _ _ _
  have fl' : ∀ i, i < s.T.nn → ∀ a, s.T.fa i = some a → a < i := fun i hi a ha => (h.N.fl i hi a ha).1
  refine ⟨⟨?_, h.N.add h.O h0 hso, ?_, ?_, ?_, ?_, h.o0⟩, by rw [e4, up_s], by rw [e3, up_s], by rw [e5, up_s], by rw [e6, up_s]⟩
  · have A := h.A
    refine ⟨?_, ?_, ?_, ?_, ?_⟩
    · show (addNd s.T so s.os).na ≤ 8; rw [a1]; exact A.n
    · show ∀ i, i < (addNd s.T so s.os).na → 1 ≤ (addNd s.T so s.os).asz i ∧ (addNd s.T so s.os).asz i ≤ 8; rw [a1, a2]; exact A.z
    · show ∀ i, i < (addNd s.T so s.os).na → 1 ≤ (addNd s.T so s.os).anl i ∧ (addNd s.T so s.os).anl i ≤ 12; rw [a1, a3]; exact A.l
    · show ∀ i j, (addNd s.T so s.os).anm i j < 256; rw [a4]; exact A.b
    · show ∀ i j, i < j → j < (addNd s.T so s.os).na → ¬ ((addNd s.T so s.os).anl i = (addNd s.T so s.os).anl j ∧ ∀ x, x < (addNd s.T so s.os).anl i → (addNd s.T so s.os).anm i x = (addNd s.T so s.os).anm j x); rw [a1, a3, a4]; exact A.d
  · intro c hc
    obtain ⟨g1, g2, m, g3⟩ := h.O.os c hc
    show c < (addNd s.T so s.os).nn ∧ (addNd s.T so s.os).srt c = 2 ∧ ∃ n, Pth (addNd s.T so s.os).fa n ((addNd s.T so s.os).nn - 1) c
    rw [e1, e2, e3]
    refine ⟨by omega, by rw [up_n (by omega)]; exact g2, 1, c, ?_, rfl⟩
    rw [show s.T.nn + 1 - 1 = s.T.nn by omega, up_s]; exact hc
  · have D := h.D
    refine ⟨?_, ?_, ?_, ?_, ?_, ?_⟩
    · show (addNd s.T so s.os).nd ≤ 100; rw [d1]; exact D.n
    · show ∀ i, i < (addNd s.T so s.os).nd → (addNd s.T so s.os).dof i < (addNd s.T so s.os).nn; rw [d1, d2, e1]; exact fun i hi => Nat.lt_succ_of_lt (D.o i hi)
    · show ∀ i, i < (addNd s.T so s.os).nd → (addNd s.T so s.os).dfor i = 1 ∨ (addNd s.T so s.os).dfor i = 2; rw [d1, d3]; exact D.f
    · show ∀ i, i < (addNd s.T so s.os).nd → (addNd s.T so s.os).srt ((addNd s.T so s.os).dof i) < 2 → (addNd s.T so s.os).dfor i = (addNd s.T so s.os).srt ((addNd s.T so s.os).dof i) + 1
      rw [d1, d2, d3, e3]
      intro i hi
      have := D.o i hi
      rw [up_n (by omega)]
      exact D.r i hi
    · show ∀ i, i < (addNd s.T so s.os).nd → (addNd s.T so s.os).dnum i < 1000; rw [d1, d4]; exact D.v
    · show ∀ a, a < (addNd s.T so s.os).nn → (addNd s.T so s.os).own a = cntN (addNd s.T so s.os).dof a (addNd s.T so s.os).nd
      rw [d1, d2, e1, e8]
      intro a ha
      by_cases q : a = s.T.nn
      · subst q
        rw [up_s, cntN_0 _ (fun i hi => by have := D.o i hi; omega)]
      · rw [up_n q]; exact D.w a (by omega)
  · have W := h.W
    refine ⟨?_, ?_, ?_, ?_, ?_⟩
    · show (addNd s.T so s.os).nn ≤ 100; rw [e1]; omega
    · show ∀ i, i < s.T.nn → (addNd s.T so s.os).srt i = 2 → ∃ w, w < 6 ∧ (addNd s.T so s.os).way i = some w
      rw [e3, e4]
      intro i hi
      rw [up_n (by omega), up_n (by omega)]
      exact W.w i hi
    · show ∀ i, i < (addNd s.T so s.os).nn → (addNd s.T so s.os).srt i < 2 → (addNd s.T so s.os).way i = none
      rw [e1, e3, e4]
      intro i hi
      by_cases q : i = s.T.nn
      · subst q; intro _; rw [up_s]
      · rw [up_n q, up_n q]; exact W.r i (by omega)
    · show ∀ i, i < (addNd s.T so s.os).nn → (addNd s.T so s.os).nnl i ≤ 12
      rw [e1, e6]
      exact up_lt (P := fun o => o ≤ 12) W.l (by omega)
    · show ∀ i j, (addNd s.T so s.os).nnm i j < 256; rw [e7]; exact W.b
  · obtain ⟨rs, R⟩ := h.R
    refine ⟨rs, R.fr (addNd_pf _ _ _) ?_⟩
    show ∀ i, i < (addNd s.T so s.os).nn → ∀ x, (addNd s.T so s.os).root i = some x → i < s.T.nn ∧ s.T.root i = some x
    rw [e1, e5]
    intro i hi x hx
    by_cases q : i = s.T.nn
    · subst q; rw [up_s] at hx; cases hx
    · rw [up_n q] at hx; exact ⟨by omega, hx⟩
/-- parts are never more than 400 -/
def Lnp (P : PS → PR (Nat × PS)) : Prop := ∀ s : PS, Ex (fun q => s.T.np ≤ 400 → q.2.T.np ≤ 400) (fun _ => True) (P s)
theorem fMore_lnp {w : Nat} {P : PS → PR (Nat × PS)} (hP : Lnp P) : ∀ (n j last : Nat) (s : PS), Ex (fun q => s.T.np ≤ 400 → q.2.T.np ≤ 400) (fun _ => True) (fMore k w P j n last s) := by
  intro n
  induction n with
  | zero => intro j last s; exact fun h => h
  | succ n ih =>
    intro j last s
    rw [fMore]
    by_cases h : k.k s.i = w
    · rw [if_pos h]
      refine Ex_bnd (Ex_mono (hP s.st) (fun q hq => ?_) (fun _ h => h))
      exact Ex_mono (ih j q.1 _) (fun z hz h4 => hz (hq h4)) (fun _ h => h)
    · rw [if_neg h]; exact fun h => h
theorem fJoin_lnp {w : Nat} {P : PS → PR (Nat × PS)} (hP : Lnp P) : Lnp (fJoin k w P) := by
  intro s
  unfold fJoin
  refine Ex_bnd (Ex_mono (hP s) (fun q hq => ?_) (fun _ h => h))
  by_cases h : k.k q.2.i = w
  · rw [if_pos h]
    refine Ex_bnd (Ex_mono (fPart1_ad w q.2) (fun z hz => ?_) (fun _ h => h))
    obtain ⟨h1, h2, h3⟩ := hz
    refine Ex_mono (fMore_lnp hP 400 z.1 q.1 _) (fun y hy h4 => hy ?_) (fun _ h => h)
    rw [h2]
    exact h3
  · rw [if_neg h]; exact hq
theorem fTest_lnp : Lnp (fTest k) := by
  intro s
  unfold fTest
  cases hereN k s with
  | none => trivial
  | some a =>
    refine Ex_bnd (Ex_mono (fPart1_ad 128 s) (fun q hq => ?_) (fun _ h => h))
    obtain ⟨h1, h2, h3⟩ := hq
    have fin : ∀ (r : PR (Nat × PS)), Ex (fun z => ∃ i, z.2 = (PS.s_i (setT q.1 (k.k (s.i + 1)) a q.2.st) (i))) (fun _ => True) r → Ex (fun z => s.T.np ≤ 400 → z.2.T.np ≤ 400) (fun _ => True) (r.bind (fun z => .ok (q.1, cmpl q.1 (setNum q.1 z.1 z.2)))) := by
      intro r hr
      refine Ex_bnd (Ex_mono hr (fun z hz => ?_) (fun _ h => h))
      obtain ⟨i, hi⟩ := hz
      show s.T.np ≤ 400 → (cmpl q.1 (setNum q.1 z.1 z.2)).T.np ≤ 400
      rw [hi, h2]
      exact fun _ => h3
    dsimp only
    split
    · exact fin _ (Ex_mono (fNum_ad _ _) (fun z hz => ⟨_, hz⟩) (fun _ h => h))
    · split
      · refine fin _ (Ex_mono (fList_ad _ _) (fun z hz => ?_) (fun _ h => h))
        obtain ⟨i, hi⟩ := hz
        exact ⟨_, hi⟩
      · split
        · exact fin _ (Ex_mono (fNum_ad _ _) (fun z hz => ⟨_, hz⟩) (fun _ h => h))
        · split
          · exact fin _ (Ex_mono (fOther_ad _) (fun z hz => ⟨_, hz⟩) (fun _ h => h))
          · split
            · show s.T.np ≤ 400 → (cmpl q.1 (setT q.1 (k.k (s.i + 1)) a q.2.st).st).T.np ≤ 400
              rw [h2]
              exact fun _ => h3
            · trivial
theorem fConst_lnp : Lnp (fConst k) := by
  intro s
  unfold fConst
  refine Ex_bnd (Ex_mono (fPart1_ad _ s) (fun q hq => ?_) (fun _ h => h))
  obtain ⟨h1, h2, h3⟩ := hq
  show s.T.np ≤ 400 → (cmpl q.1 q.2.st).T.np ≤ 400
  rw [h2]
  exact fun _ => h3
theorem fPart_lnp : ∀ d, Lnp (fPart k d) := by
  intro d
  induction d with
  | zero =>
    intro s
    rw [fPart]
    split
    · trivial
    · split
      · exact fConst_lnp s
      · split
        · exact fTest_lnp s
        · trivial
  | succ d ih =>
    intro s
    rw [fPart]
    split
    · refine Ex_bnd (Ex_mono (fPart1_ad _ s) (fun q hq => ?_) (fun _ h => h))
      obtain ⟨h1, h2, h3⟩ := hq
      refine Ex_bnd (Ex_mono (ih q.2.st) (fun z hz => ?_) (fun _ h => h))
      show s.T.np ≤ 400 → z.2.T.np ≤ 400
      intro _
      apply hz
      show q.2.T.np ≤ 400
      rw [h2]
      exact h3
    · split
      · refine Ex_bnd (Ex_mono (fJoin_lnp (fJoin_lnp ih) s.st) (fun q hq => ?_) (fun _ h => h))
        refine Ex_bnd (Ex_mono (req_ad 41 q.2) (fun z hz => ?_) (fun _ h => h))
        show s.T.np ≤ 400 → z.T.np ≤ 400
        rw [hz]
        exact hq
      · split
        · exact fConst_lnp s
        · split
          · exact fTest_lnp s
          · trivial
theorem TW.st {N : Nat} {s : PS} (h : TW N s) : TW N s.st := ⟨h.A, h.N, h.O.os, h.D, h.W, h.R, h.o0⟩
theorem fName_tw (hk : KI k) {N i : Nat} {s : PS} (h : TW N s) : TW N (fName k i s).2 := by
  unfold fName
  by_cases g : k.k s.i = 128
  · rw [if_pos g]
    have hn := hk.nm _ g
    have W := h.W
    obtain ⟨rs, R⟩ := h.R
    refine ⟨⟨h.A.n, h.A.z, h.A.l, h.A.b, h.A.d⟩, ⟨h.N.fl, h.N.f0, h.N.r0, h.N.sr, h.N.ds, h.N.ch, h.N.nx, h.N.ls, h.N.n0⟩, h.O.os, ⟨h.D.n, h.D.o, h.D.f, h.D.r, h.D.v, h.D.w⟩, ⟨W.n, W.w, W.r, up_le (P := fun o => o ≤ 12) W.l hn.2, ?_⟩, ⟨rs, R.fr ⟨rfl, rfl, rfl, rfl, rfl, rfl, rfl, rfl, rfl, rfl⟩ (fun i hi x hx => ⟨hi, hx⟩)⟩, h.o0⟩
    exact up_all (P := fun o : Nat → Nat => ∀ j, o j < 256) W.b (fun j => hk.b _)
  · rw [if_neg g]; exact h
/-- an expression is read for node i, which had none -/
theorem fFor_tw {N i : Nat} {s : PS} (h : TW N s) (hod : s.od ≤ 20) : Ex (fun s' => TW N s' ∧ s'.os = s.os ∧ s'.od = s.od ∧ s'.T.nn = s.T.nn ∧ s'.T.srt = s.T.srt ∧ s'.T.way = s.T.way) (fun _ => True) (fFor k i s) := by
  unfold fFor
  by_cases g : k.k s.i = 5
  · rw [if_pos g]
    have hz : ∀ a, a < s.st.T.na → s.st.T.asz a ≤ 8 := fun a ha => (h.A.z a ha).2
    refine Ex_bnd (Ex_mono (Ex_and (fJoin_rd (Or.inl rfl) (fJoin_rd (Or.inr rfl) (fPart_rd (20 - s.od))) s.st hz) (fJoin_lnp (fJoin_lnp (fPart_lnp (20 - s.od))) s.st)) (fun q hq => ?_) (fun _ _ => trivial))
    obtain ⟨r, hnp⟩ := hq
    obtain ⟨seg, hdn, hex⟩ := r.dn
    obtain ⟨rs, R⟩ := h.R
    have sm : SN s.T q.2.T := r.same
    have hin := hex.in_
    have hin2 : s.T.np ≤ q.1 ∧ q.1 < q.2.T.np := hin
    have na : q.2.T.na = s.T.na := sm.na
    have asz : q.2.T.asz = s.T.asz := sm.asz
    have anl : q.2.T.anl = s.T.anl := sm.anl
    have anm : q.2.T.anm = s.T.anm := sm.anm
    have nn : q.2.T.nn = s.T.nn := sm.nn
    have srt : q.2.T.srt = s.T.srt := sm.srt
    have way : q.2.T.way = s.T.way := sm.way
    have fa : q.2.T.fa = s.T.fa := sm.fa
    have root : q.2.T.root = s.T.root := sm.root
    have nnl : q.2.T.nnl = s.T.nnl := sm.nnl
    have nnm : q.2.T.nnm = s.T.nnm := sm.nnm
    have own : q.2.T.own = s.T.own := sm.own
    have chn' : q.2.T.chn = s.T.chn := sm.chn
    have nxt : q.2.T.nxt = s.T.nxt := sm.nxt
    have lst : q.2.T.lst = s.T.lst := sm.lst
    have nd : q.2.T.nd = s.T.nd := sm.nd
    have dnum : q.2.T.dnum = s.T.dnum := sm.dnum
    have dof : q.2.T.dof = s.T.dof := sm.dof
    have dfor : q.2.T.dfor = s.T.dfor := sm.dfor
    show TW N (PS.s_T q.2 ((Txt.s_root q.2.T (up q.2.T.root i (some q.1))))) ∧ q.2.os = s.os ∧ q.2.od = s.od ∧ q.2.T.nn = s.T.nn ∧ q.2.T.srt = s.T.srt ∧ q.2.T.way = s.T.way
    refine ⟨⟨?_, ?_, ?_, ?_, ?_, ?_, ?_⟩, r.os, r.od, nn, srt, way⟩
    · have A := h.A
      refine ⟨?_, ?_, ?_, ?_, ?_⟩
      · show q.2.T.na ≤ 8; rw [na]; exact A.n
      · show ∀ i, i < q.2.T.na → 1 ≤ q.2.T.asz i ∧ q.2.T.asz i ≤ 8; rw [na, asz]; exact A.z
      · show ∀ i, i < q.2.T.na → 1 ≤ q.2.T.anl i ∧ q.2.T.anl i ≤ 12; rw [na, anl]; exact A.l
      · show ∀ i j, q.2.T.anm i j < 256; rw [anm]; exact A.b
      · show ∀ i j, i < j → j < q.2.T.na → ¬ (q.2.T.anl i = q.2.T.anl j ∧ ∀ x, x < q.2.T.anl i → q.2.T.anm i x = q.2.T.anm j x); rw [na, anl, anm]; exact A.d
    · have B := h.N
      refine ⟨?_, ?_, ?_, ?_, ?_, ?_, ?_, ?_, ?_⟩
      · show ∀ i, i < q.2.T.nn → ∀ a, q.2.T.fa i = some a → a < i ∧ q.2.T.srt a = 2; rw [nn, fa, srt]; exact B.fl
      · show ∀ i, i < q.2.T.nn → q.2.T.fa i = none → i = 0; rw [nn, fa]; exact B.f0
      · show 0 < q.2.T.nn → q.2.T.fa 0 = none; rw [nn, fa]; exact B.r0
      · show ∀ i, i < q.2.T.nn → q.2.T.srt i < 3; rw [nn, srt]; exact B.sr
      · show ∀ i, i + 1 < q.2.T.nn → ∃ n c, q.2.T.fa (i + 1) = some c ∧ Pth q.2.T.fa n i c; rw [nn, fa]; exact B.ds
      · show ∀ a, a < q.2.T.nn → q.2.T.chn a = (kids q.2.T.fa q.2.T.nn a).length; rw [nn, fa, chn']; exact B.ch
      · show ∀ a, a < q.2.T.nn → lnk q.2.T.nxt (kids q.2.T.fa q.2.T.nn a); rw [nn, fa, nxt]; exact B.nx
      · show ∀ a, a < q.2.T.nn → ∀ l z, kids q.2.T.fa q.2.T.nn a = l ++ [z] → q.2.T.lst a = z; rw [nn, fa, lst]; exact B.ls
      · show 0 < q.2.T.nn → q.2.T.nxt 0 = none; rw [nn, nxt]; exact B.n0
    · intro c hc
      have hc2 : s.os = some c := by rw [← r.os]; exact hc
      show c < q.2.T.nn ∧ q.2.T.srt c = 2 ∧ ∃ n, Pth q.2.T.fa n (q.2.T.nn - 1) c
      rw [nn, srt, fa]
      exact h.O.os c hc2
    · have D := h.D
      refine ⟨?_, ?_, ?_, ?_, ?_, ?_⟩
      · show q.2.T.nd ≤ 100; rw [nd]; exact D.n
      · show ∀ i, i < q.2.T.nd → q.2.T.dof i < q.2.T.nn; rw [nd, dof, nn]; exact D.o
      · show ∀ i, i < q.2.T.nd → q.2.T.dfor i = 1 ∨ q.2.T.dfor i = 2; rw [nd, dfor]; exact D.f
      · show ∀ i, i < q.2.T.nd → q.2.T.srt (q.2.T.dof i) < 2 → q.2.T.dfor i = q.2.T.srt (q.2.T.dof i) + 1; rw [nd, dof, dfor, srt]; exact D.r
      · show ∀ i, i < q.2.T.nd → q.2.T.dnum i < 1000; rw [nd, dnum]; exact D.v
      · show ∀ a, a < q.2.T.nn → q.2.T.own a = cntN q.2.T.dof a q.2.T.nd; rw [nn, own, dof, nd]; exact D.w
    · have W := h.W
      refine ⟨?_, ?_, ?_, ?_, ?_⟩
      · show q.2.T.nn ≤ 100; rw [nn]; exact W.n
      · show ∀ i, i < N → q.2.T.srt i = 2 → ∃ w, w < 6 ∧ q.2.T.way i = some w; rw [srt, way]; exact W.w
      · show ∀ i, i < q.2.T.nn → q.2.T.srt i < 2 → q.2.T.way i = none; rw [nn, srt, way]; exact W.r
      · show ∀ i, i < q.2.T.nn → q.2.T.nnl i ≤ 12; rw [nn, nnl]; exact W.l
      · show ∀ i j, q.2.T.nnm i j < 256; rw [nnm]; exact W.b
    · refine ⟨rs ++ [(i, (q.1, (s.T.np, q.2.T.np), seg))], ?_, ?_, ?_, ?_, ?_⟩
      · exact hnp R.np
      · show q.2.T.dn = sgs ((rs ++ [_]).map Prod.snd)
        rw [List.map_append, hdn]
        show s.T.dn ++ seg = sgs (rs.map Prod.snd ++ [(q.1, (s.T.np, q.2.T.np), seg)])
        rw [sgs_app, ← R.dn]
      · show inc q.2.T.np 0 ((rs ++ [_]).map Prod.snd)
        rw [List.map_append]
        exact inc_app (m := (q.1, (s.T.np, q.2.T.np), seg)) (Nat.le_refl _) hin2.1 hin2.2 (Nat.le_refl _) _ _ R.ic
      · intro x hx
        rcases List.mem_append.1 hx with hx | hx
        · have e := R.ex x hx
          have hi := (inc_hi _ _ R.ic).2 x.2 (List.mem_map.2 ⟨x, hx, rfl⟩)
          refine EX_fr (T := s.T) (T' := (Txt.s_root q.2.T (up q.2.T.root i (some q.1)))) na asz _ _ _ _ _ e (fun j h1 h2 => ?_) (fun j h1 h2 h3 => ?_)
          · exact (r.low j (by show j < s.T.np; omega)).1
          · exact (r.low j (by show j < s.T.np; omega)).2
        · rw [List.mem_singleton.1 hx]
          have e : EX q.2.T 43 s.T.np q.2.T.np q.1 seg := EX_le hex (by omega)
          exact EX_fr (T := q.2.T) (T' := (Txt.s_root q.2.T (up q.2.T.root i (some q.1)))) rfl rfl _ _ _ _ _ e (fun j _ _ => Pq.refl) (fun j _ _ _ => rfl)
      · intro j hj p hp
        have hj2 : j < q.2.T.nn := hj
        have hp2 : up q.2.T.root i (some q.1) j = some p := hp
        by_cases w : j = i
        · subst w
          rw [up_s] at hp2
          cases hp2
          exact ⟨_, List.mem_append_right _ (List.mem_singleton.2 rfl), rfl⟩
        · rw [up_n w, root] at hp2
          rw [nn] at hj2
          obtain ⟨m, hm1, hm2⟩ := R.ro j hj2 p hp2
          exact ⟨m, List.mem_append_left _ hm1, hm2⟩
    · intro hc
      have hc2 : s.os = none := by rw [← r.os]; exact hc
      show q.2.od = 0
      rw [r.od]
      exact h.o0 hc2
  · rw [if_neg g]
    exact ⟨h, rfl, rfl, rfl, rfl, rfl⟩
end KT
