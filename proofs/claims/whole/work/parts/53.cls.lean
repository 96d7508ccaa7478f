/-! THE CLASS'S READER, I: its state against the function's; tokens, names. -/
/-- the class's text (rows R, from the text on), with bags g -/
def RepC (R : Nat → Nat → Int32) (T : Txt) (g : Nat → Nat) : Prop := (R 1 0 = nI T.na) ∧ (T.na ≤ 8) ∧ (∀ i, i < T.na → R 5 i = nI (T.asz i)) ∧ (∀ i, i < T.na → T.asz i ≤ 8) ∧ (∀ i, i < T.na → R 6 i = bI (T.amany i)) ∧ (∀ i, i < T.na → R 7 i = bI (T.amust i)) ∧ (∀ i, i < T.na → R 8 i = nI (g i)) ∧ (∀ i, i < T.na → R 3 i = nI (T.anl i)) ∧ (∀ i, i < T.na → T.anl i ≤ 12) ∧ (∀ i, i < T.na → ∀ j, j < T.anl i → R 4 (i * 12 + j) = nI (T.anm i j)) ∧ (R 9 0 = nI T.nn) ∧ (T.nn ≤ 100) ∧ (∀ i, i < T.nn → R 13 i = nI (T.srt i)) ∧ (∀ i, i < T.nn → R 14 i = oI (T.way i)) ∧ (∀ i, i < T.nn → R 15 i = oI (T.fa i)) ∧ (∀ i, i < T.nn → ∀ a, T.fa i = some a → a < T.nn) ∧ (∀ i, i < T.nn → R 16 i = oI (T.root i)) ∧ (∀ i, i < T.nn → R 17 i = nI (T.own i)) ∧ (∀ i, i < T.nn → R 18 i = nI (T.chn i)) ∧ (∀ i, i < T.nn → T.chn i ≤ T.nn) ∧ (∀ i, i < T.nn → R 19 i = oI (T.nxt i)) ∧ (∀ i, i < T.nn → 0 < T.chn i → R 20 i = nI (T.lst i) ∧ T.lst i < T.nn) ∧ (∀ i, i < T.nn → R 11 i = nI (T.nnl i)) ∧ (∀ i, i < T.nn → T.nnl i ≤ 12) ∧ (∀ i, i < T.nn → ∀ j, j < T.nnl i → R 12 (i * 12 + j) = nI (T.nnm i j)) ∧ (R 9 10 = nI T.nd) ∧ (T.nd ≤ 100) ∧ (∀ i, i < T.nd → R 21 i = nI (T.dnum i)) ∧ (∀ i, i < T.nd → R 22 i = nI (T.dof i)) ∧ (∀ i, i < T.nd → R 23 i = nI (T.dfor i)) ∧ (R 24 0 = nI T.np) ∧ (T.np ≤ 400) ∧ (∀ i, i < T.np → R 25 i = nI (T.pk i)) ∧ (∀ i, i < T.np → R 26 i = nI (T.pa i)) ∧ (∀ i, i < T.np → R 27 i = nI (T.pnum i)) ∧ (∀ i, i < T.np → R 28 i = nI (T.pj i)) ∧ (∀ i, i < T.np → R 29 i = oI (T.pf i)) ∧ (∀ i, i < T.np → R 30 i = oI (T.pn i))
theorem RepC.na {R : Nat → Nat → Int32} {T : Txt} {g : Nat → Nat} (h : RepC R T g) : R 1 0 = nI T.na := h.1
theorem RepC.lna {R : Nat → Nat → Int32} {T : Txt} {g : Nat → Nat} (h : RepC R T g) : T.na ≤ 8 := h.2.1
theorem RepC.asz {R : Nat → Nat → Int32} {T : Txt} {g : Nat → Nat} (h : RepC R T g) : ∀ i, i < T.na → R 5 i = nI (T.asz i) := h.2.2.1
theorem RepC.lasz {R : Nat → Nat → Int32} {T : Txt} {g : Nat → Nat} (h : RepC R T g) : ∀ i, i < T.na → T.asz i ≤ 8 := h.2.2.2.1
theorem RepC.amany {R : Nat → Nat → Int32} {T : Txt} {g : Nat → Nat} (h : RepC R T g) : ∀ i, i < T.na → R 6 i = bI (T.amany i) := h.2.2.2.2.1
theorem RepC.amust {R : Nat → Nat → Int32} {T : Txt} {g : Nat → Nat} (h : RepC R T g) : ∀ i, i < T.na → R 7 i = bI (T.amust i) := h.2.2.2.2.2.1
theorem RepC.bag {R : Nat → Nat → Int32} {T : Txt} {g : Nat → Nat} (h : RepC R T g) : ∀ i, i < T.na → R 8 i = nI (g i) := h.2.2.2.2.2.2.1
theorem RepC.anl {R : Nat → Nat → Int32} {T : Txt} {g : Nat → Nat} (h : RepC R T g) : ∀ i, i < T.na → R 3 i = nI (T.anl i) := h.2.2.2.2.2.2.2.1
theorem RepC.lanl {R : Nat → Nat → Int32} {T : Txt} {g : Nat → Nat} (h : RepC R T g) : ∀ i, i < T.na → T.anl i ≤ 12 := h.2.2.2.2.2.2.2.2.1
theorem RepC.anm {R : Nat → Nat → Int32} {T : Txt} {g : Nat → Nat} (h : RepC R T g) : ∀ i, i < T.na → ∀ j, j < T.anl i → R 4 (i * 12 + j) = nI (T.anm i j) := h.2.2.2.2.2.2.2.2.2.1
theorem RepC.nn {R : Nat → Nat → Int32} {T : Txt} {g : Nat → Nat} (h : RepC R T g) : R 9 0 = nI T.nn := h.2.2.2.2.2.2.2.2.2.2.1
theorem RepC.lnn {R : Nat → Nat → Int32} {T : Txt} {g : Nat → Nat} (h : RepC R T g) : T.nn ≤ 100 := h.2.2.2.2.2.2.2.2.2.2.2.1
theorem RepC.srt {R : Nat → Nat → Int32} {T : Txt} {g : Nat → Nat} (h : RepC R T g) : ∀ i, i < T.nn → R 13 i = nI (T.srt i) := h.2.2.2.2.2.2.2.2.2.2.2.2.1
theorem RepC.way {R : Nat → Nat → Int32} {T : Txt} {g : Nat → Nat} (h : RepC R T g) : ∀ i, i < T.nn → R 14 i = oI (T.way i) := h.2.2.2.2.2.2.2.2.2.2.2.2.2.1
theorem RepC.fa {R : Nat → Nat → Int32} {T : Txt} {g : Nat → Nat} (h : RepC R T g) : ∀ i, i < T.nn → R 15 i = oI (T.fa i) := h.2.2.2.2.2.2.2.2.2.2.2.2.2.2.1
theorem RepC.lfa {R : Nat → Nat → Int32} {T : Txt} {g : Nat → Nat} (h : RepC R T g) : ∀ i, i < T.nn → ∀ a, T.fa i = some a → a < T.nn := h.2.2.2.2.2.2.2.2.2.2.2.2.2.2.2.1
theorem RepC.root {R : Nat → Nat → Int32} {T : Txt} {g : Nat → Nat} (h : RepC R T g) : ∀ i, i < T.nn → R 16 i = oI (T.root i) := h.2.2.2.2.2.2.2.2.2.2.2.2.2.2.2.2.1
theorem RepC.own {R : Nat → Nat → Int32} {T : Txt} {g : Nat → Nat} (h : RepC R T g) : ∀ i, i < T.nn → R 17 i = nI (T.own i) := h.2.2.2.2.2.2.2.2.2.2.2.2.2.2.2.2.2.1
theorem RepC.chn {R : Nat → Nat → Int32} {T : Txt} {g : Nat → Nat} (h : RepC R T g) : ∀ i, i < T.nn → R 18 i = nI (T.chn i) := h.2.2.2.2.2.2.2.2.2.2.2.2.2.2.2.2.2.2.1
theorem RepC.lchn {R : Nat → Nat → Int32} {T : Txt} {g : Nat → Nat} (h : RepC R T g) : ∀ i, i < T.nn → T.chn i ≤ T.nn := h.2.2.2.2.2.2.2.2.2.2.2.2.2.2.2.2.2.2.2.1
theorem RepC.nxt {R : Nat → Nat → Int32} {T : Txt} {g : Nat → Nat} (h : RepC R T g) : ∀ i, i < T.nn → R 19 i = oI (T.nxt i) := h.2.2.2.2.2.2.2.2.2.2.2.2.2.2.2.2.2.2.2.2.1
theorem RepC.lst {R : Nat → Nat → Int32} {T : Txt} {g : Nat → Nat} (h : RepC R T g) : ∀ i, i < T.nn → 0 < T.chn i → R 20 i = nI (T.lst i) ∧ T.lst i < T.nn := h.2.2.2.2.2.2.2.2.2.2.2.2.2.2.2.2.2.2.2.2.2.1
theorem RepC.nnl {R : Nat → Nat → Int32} {T : Txt} {g : Nat → Nat} (h : RepC R T g) : ∀ i, i < T.nn → R 11 i = nI (T.nnl i) := h.2.2.2.2.2.2.2.2.2.2.2.2.2.2.2.2.2.2.2.2.2.2.1
theorem RepC.lnnl {R : Nat → Nat → Int32} {T : Txt} {g : Nat → Nat} (h : RepC R T g) : ∀ i, i < T.nn → T.nnl i ≤ 12 := h.2.2.2.2.2.2.2.2.2.2.2.2.2.2.2.2.2.2.2.2.2.2.2.1
theorem RepC.nnm {R : Nat → Nat → Int32} {T : Txt} {g : Nat → Nat} (h : RepC R T g) : ∀ i, i < T.nn → ∀ j, j < T.nnl i → R 12 (i * 12 + j) = nI (T.nnm i j) := h.2.2.2.2.2.2.2.2.2.2.2.2.2.2.2.2.2.2.2.2.2.2.2.2.1
theorem RepC.nd {R : Nat → Nat → Int32} {T : Txt} {g : Nat → Nat} (h : RepC R T g) : R 9 10 = nI T.nd := h.2.2.2.2.2.2.2.2.2.2.2.2.2.2.2.2.2.2.2.2.2.2.2.2.2.1
theorem RepC.lnd {R : Nat → Nat → Int32} {T : Txt} {g : Nat → Nat} (h : RepC R T g) : T.nd ≤ 100 := h.2.2.2.2.2.2.2.2.2.2.2.2.2.2.2.2.2.2.2.2.2.2.2.2.2.2.1
theorem RepC.dnum {R : Nat → Nat → Int32} {T : Txt} {g : Nat → Nat} (h : RepC R T g) : ∀ i, i < T.nd → R 21 i = nI (T.dnum i) := h.2.2.2.2.2.2.2.2.2.2.2.2.2.2.2.2.2.2.2.2.2.2.2.2.2.2.2.1
theorem RepC.dof {R : Nat → Nat → Int32} {T : Txt} {g : Nat → Nat} (h : RepC R T g) : ∀ i, i < T.nd → R 22 i = nI (T.dof i) := h.2.2.2.2.2.2.2.2.2.2.2.2.2.2.2.2.2.2.2.2.2.2.2.2.2.2.2.2.1
theorem RepC.dfor {R : Nat → Nat → Int32} {T : Txt} {g : Nat → Nat} (h : RepC R T g) : ∀ i, i < T.nd → R 23 i = nI (T.dfor i) := h.2.2.2.2.2.2.2.2.2.2.2.2.2.2.2.2.2.2.2.2.2.2.2.2.2.2.2.2.2.1
theorem RepC.np {R : Nat → Nat → Int32} {T : Txt} {g : Nat → Nat} (h : RepC R T g) : R 24 0 = nI T.np := h.2.2.2.2.2.2.2.2.2.2.2.2.2.2.2.2.2.2.2.2.2.2.2.2.2.2.2.2.2.2.1
theorem RepC.lnp {R : Nat → Nat → Int32} {T : Txt} {g : Nat → Nat} (h : RepC R T g) : T.np ≤ 400 := h.2.2.2.2.2.2.2.2.2.2.2.2.2.2.2.2.2.2.2.2.2.2.2.2.2.2.2.2.2.2.2.1
theorem RepC.pk {R : Nat → Nat → Int32} {T : Txt} {g : Nat → Nat} (h : RepC R T g) : ∀ i, i < T.np → R 25 i = nI (T.pk i) := h.2.2.2.2.2.2.2.2.2.2.2.2.2.2.2.2.2.2.2.2.2.2.2.2.2.2.2.2.2.2.2.2.1
theorem RepC.pa {R : Nat → Nat → Int32} {T : Txt} {g : Nat → Nat} (h : RepC R T g) : ∀ i, i < T.np → R 26 i = nI (T.pa i) := h.2.2.2.2.2.2.2.2.2.2.2.2.2.2.2.2.2.2.2.2.2.2.2.2.2.2.2.2.2.2.2.2.2.1
theorem RepC.pnum {R : Nat → Nat → Int32} {T : Txt} {g : Nat → Nat} (h : RepC R T g) : ∀ i, i < T.np → R 27 i = nI (T.pnum i) := h.2.2.2.2.2.2.2.2.2.2.2.2.2.2.2.2.2.2.2.2.2.2.2.2.2.2.2.2.2.2.2.2.2.2.1
theorem RepC.pj {R : Nat → Nat → Int32} {T : Txt} {g : Nat → Nat} (h : RepC R T g) : ∀ i, i < T.np → R 28 i = nI (T.pj i) := h.2.2.2.2.2.2.2.2.2.2.2.2.2.2.2.2.2.2.2.2.2.2.2.2.2.2.2.2.2.2.2.2.2.2.2.1
theorem RepC.pf {R : Nat → Nat → Int32} {T : Txt} {g : Nat → Nat} (h : RepC R T g) : ∀ i, i < T.np → R 29 i = oI (T.pf i) := h.2.2.2.2.2.2.2.2.2.2.2.2.2.2.2.2.2.2.2.2.2.2.2.2.2.2.2.2.2.2.2.2.2.2.2.2.1
theorem RepC.pn {R : Nat → Nat → Int32} {T : Txt} {g : Nat → Nat} (h : RepC R T g) : ∀ i, i < T.np → R 30 i = oI (T.pn i) := h.2.2.2.2.2.2.2.2.2.2.2.2.2.2.2.2.2.2.2.2.2.2.2.2.2.2.2.2.2.2.2.2.2.2.2.2.2
def cR (M : aM) (t : Nat) : Nat → Nat → Int32 := fun c => rI M (t + c)
theorem cR_w {M : aM} {t c j : Nat} {x : Int32} : cR (wI M (t + c) j x) t = up (cR M t) c (up (rI M (t + c)) j x) := by
  funext c'
  show rI (wI M (t + c) j x) (t + c') = if c' = c then _ else _
  by_cases h : c' = c
  · subst h; rw [if_pos rfl, rw_s]
  · rw [if_neg h, rw_n (by omega)]; rfl
theorem cR_n {M : aM} {t k j : Nat} {x : Int32} (h : k < t) : cR (wI M k j x) t = cR M t := by
  funext c
  exact rw_n (by omega)
theorem RepC_congr {R R' : Nat → Nat → Int32} {T : Txt} {g : Nat → Nat} (h : RepC R T g) (e : ∀ c, c < 31 → R' c = R c) : RepC R' T g := by
  have e1 := e 1 (by omega)
  have e3 := e 3 (by omega)
  have e4 := e 4 (by omega)
  have e5 := e 5 (by omega)
  have e6 := e 6 (by omega)
  have e7 := e 7 (by omega)
  have e8 := e 8 (by omega)
  have e9 := e 9 (by omega)
  have e11 := e 11 (by omega)
  have e12 := e 12 (by omega)
  have e13 := e 13 (by omega)
  have e14 := e 14 (by omega)
  have e15 := e 15 (by omega)
  have e16 := e 16 (by omega)
  have e17 := e 17 (by omega)
  have e18 := e 18 (by omega)
  have e19 := e 19 (by omega)
  have e20 := e 20 (by omega)
  have e21 := e 21 (by omega)
  have e22 := e 22 (by omega)
  have e23 := e 23 (by omega)
  have e24 := e 24 (by omega)
  have e25 := e 25 (by omega)
  have e26 := e 26 (by omega)
  have e27 := e 27 (by omega)
  have e28 := e 28 (by omega)
  have e29 := e 29 (by omega)
  have e30 := e 30 (by omega)
  simp only [RepC, e1, e3, e4, e5, e6, e7, e8, e9, e11, e12, e13, e14, e15, e16, e17, e18, e19, e20, e21, e22, e23, e24, e25, e26, e27, e28, e29, e30]
  exact h
/-- what the reading leaves as it was -/
def FrC (t : Nat) (M0 M : aM) : Prop := M.1 = M0.1 ∧ M.2.1 = M0.2.1 ∧ M.2.2.2 = M0.2.2.2 ∧ ∀ k, k ≠ 2 → (k < t ∨ t + 31 ≤ k) → rI M k = rI M0 k
theorem FrC.refl {t : Nat} {M : aM} : FrC t M M := ⟨rfl, rfl, rfl, fun _ _ _ => rfl⟩
theorem FrC.K {t : Nat} {M0 M : aM} (h : FrC t M0 M) : rK M = rK M0 := h.2.1
theorem FrC.R {t : Nat} {M0 M : aM} (h : FrC t M0 M) : rR M = rR M0 := congrArg (fun z => z.1) h.2.2.1
theorem FrC.w2 {t : Nat} {M0 M : aM} (h : FrC t M0 M) {j : Nat} {x : Int32} : FrC t M0 (wI M 2 j x) := ⟨h.1, h.2.1, h.2.2.1, fun k h1 h2 => (rw_n h1).trans (h.2.2.2 k h1 h2)⟩
theorem FrC.wt {t : Nat} {M0 M : aM} (h : FrC t M0 M) {c j : Nat} {x : Int32} (hc : c < 31) : FrC t M0 (wI M (t + c) j x) := ⟨h.1, h.2.1, h.2.2.1, fun k h1 h2 => (rw_n (by omega)).trans (h.2.2.2 k h1 h2)⟩
/-- what lies fast while the reading runs -/
def SC (tk : Tk) (M0 : aM) (t : Nat) : Prop := (KOk (rK M0)) ∧ (tOk t) ∧ (rR M0 2 3 = t) ∧ (rI M0 3 5 = nI tk.n) ∧ (tk.n ≤ 6001) ∧ (∀ j, j < tk.n → rI M0 5 j = nI (tk.k j)) ∧ (∀ j, j < tk.n → rI M0 6 j = nI (tk.pl j)) ∧ (∀ j, j < tk.n → tk.k j ≠ 131 → rI M0 7 j = nI (tk.v j)) ∧ (∀ j, j < 6000 → rI M0 4 j = nI (tk.b j)) ∧ (∀ j, j < tk.n → tk.k j ≠ 130 → j + 1 < tk.n) ∧ (∀ j, j < tk.n → tk.k j < 132) ∧ (∀ j, j < tk.n → tk.pl j ≤ 6000) ∧ (∀ j, j < tk.n → tk.v j ≤ 6000) ∧ (∀ j, tk.b j < 256) ∧ (∀ j, j < tk.n → tk.k j = 128 → tk.v j ≤ 12 ∧ 1 ≤ tk.v j ∧ tk.pl j + tk.v j ≤ 6000) ∧ (∀ j, j < tk.n → tk.k j = 129 → tk.v j < 1000)
theorem SC.K {tk : Tk} {M0 : aM} {t : Nat} (h : SC tk M0 t) : KOk (rK M0) := h.1
theorem SC.ht {tk : Tk} {M0 : aM} {t : Nat} (h : SC tk M0 t) : tOk t := h.2.1
theorem SC.hR {tk : Tk} {M0 : aM} {t : Nat} (h : SC tk M0 t) : rR M0 2 3 = t := h.2.2.1
theorem SC.nt {tk : Tk} {M0 : aM} {t : Nat} (h : SC tk M0 t) : rI M0 3 5 = nI tk.n := h.2.2.2.1
theorem SC.ln {tk : Tk} {M0 : aM} {t : Nat} (h : SC tk M0 t) : tk.n ≤ 6001 := h.2.2.2.2.1
theorem SC.k {tk : Tk} {M0 : aM} {t : Nat} (h : SC tk M0 t) : ∀ j, j < tk.n → rI M0 5 j = nI (tk.k j) := h.2.2.2.2.2.1
theorem SC.pl {tk : Tk} {M0 : aM} {t : Nat} (h : SC tk M0 t) : ∀ j, j < tk.n → rI M0 6 j = nI (tk.pl j) := h.2.2.2.2.2.2.1
theorem SC.v {tk : Tk} {M0 : aM} {t : Nat} (h : SC tk M0 t) : ∀ j, j < tk.n → tk.k j ≠ 131 → rI M0 7 j = nI (tk.v j) := h.2.2.2.2.2.2.2.1
theorem SC.b {tk : Tk} {M0 : aM} {t : Nat} (h : SC tk M0 t) : ∀ j, j < 6000 → rI M0 4 j = nI (tk.b j) := h.2.2.2.2.2.2.2.2.1
theorem SC.en {tk : Tk} {M0 : aM} {t : Nat} (h : SC tk M0 t) : ∀ j, j < tk.n → tk.k j ≠ 130 → j + 1 < tk.n := h.2.2.2.2.2.2.2.2.2.1
theorem SC.lk {tk : Tk} {M0 : aM} {t : Nat} (h : SC tk M0 t) : ∀ j, j < tk.n → tk.k j < 132 := h.2.2.2.2.2.2.2.2.2.2.1
theorem SC.lpl {tk : Tk} {M0 : aM} {t : Nat} (h : SC tk M0 t) : ∀ j, j < tk.n → tk.pl j ≤ 6000 := h.2.2.2.2.2.2.2.2.2.2.2.1
theorem SC.lv {tk : Tk} {M0 : aM} {t : Nat} (h : SC tk M0 t) : ∀ j, j < tk.n → tk.v j ≤ 6000 := h.2.2.2.2.2.2.2.2.2.2.2.2.1
theorem SC.lb {tk : Tk} {M0 : aM} {t : Nat} (h : SC tk M0 t) : ∀ j, tk.b j < 256 := h.2.2.2.2.2.2.2.2.2.2.2.2.2.1
theorem SC.nm {tk : Tk} {M0 : aM} {t : Nat} (h : SC tk M0 t) : ∀ j, j < tk.n → tk.k j = 128 → tk.v j ≤ 12 ∧ 1 ≤ tk.v j ∧ tk.pl j + tk.v j ≤ 6000 := h.2.2.2.2.2.2.2.2.2.2.2.2.2.2.1
theorem SC.num {tk : Tk} {M0 : aM} {t : Nat} (h : SC tk M0 t) : ∀ j, j < tk.n → tk.k j = 129 → tk.v j < 1000 := h.2.2.2.2.2.2.2.2.2.2.2.2.2.2.2
/-- the class stands at token i, and has not refused -/
def LC (tk : Tk) (M0 : aM) (t i : Nat) (M : aM) : Prop := (FrC t M0 M) ∧ (rI M 2 1 = 0) ∧ (rI M 2 4 = nI i) ∧ (i < tk.n)
theorem LC.fr {tk : Tk} {M0 : aM} {t i : Nat} {M : aM} (h : LC tk M0 t i M) : FrC t M0 M := h.1
theorem LC.kd {tk : Tk} {M0 : aM} {t i : Nat} {M : aM} (h : LC tk M0 t i M) : rI M 2 1 = 0 := h.2.1
theorem LC.at_ {tk : Tk} {M0 : aM} {t i : Nat} {M : aM} (h : LC tk M0 t i M) : rI M 2 4 = nI i := h.2.2.1
theorem LC.li {tk : Tk} {M0 : aM} {t i : Nat} {M : aM} (h : LC tk M0 t i M) : i < tk.n := h.2.2.2
/-- the class stands where the function stands -/
def RC (tk : Tk) (M0 : aM) (t : Nat) (s : PS) (M : aM) : Prop := (LC tk M0 t s.i M) ∧ (rI M 2 5 = oI s.os) ∧ (rI M 2 6 = nI s.od) ∧ (RepC (cR M t) s.T (fun _ => 0)) ∧ (∀ a, s.os = some a → a < s.T.nn) ∧ (s.od ≤ 20) ∧ (∀ i j, s.T.anm i j < 256)
theorem RC.L {tk : Tk} {M0 : aM} {t : Nat} {s : PS} {M : aM} (h : RC tk M0 t s M) : LC tk M0 t s.i M := h.1
theorem RC.os {tk : Tk} {M0 : aM} {t : Nat} {s : PS} {M : aM} (h : RC tk M0 t s M) : rI M 2 5 = oI s.os := h.2.1
theorem RC.od {tk : Tk} {M0 : aM} {t : Nat} {s : PS} {M : aM} (h : RC tk M0 t s M) : rI M 2 6 = nI s.od := h.2.2.1
theorem RC.T {tk : Tk} {M0 : aM} {t : Nat} {s : PS} {M : aM} (h : RC tk M0 t s M) : RepC (cR M t) s.T (fun _ => 0) := h.2.2.2.1
theorem RC.los {tk : Tk} {M0 : aM} {t : Nat} {s : PS} {M : aM} (h : RC tk M0 t s M) : ∀ a, s.os = some a → a < s.T.nn := h.2.2.2.2.1
theorem RC.lod {tk : Tk} {M0 : aM} {t : Nat} {s : PS} {M : aM} (h : RC tk M0 t s M) : s.od ≤ 20 := h.2.2.2.2.2.1
theorem RC.lnm {tk : Tk} {M0 : aM} {t : Nat} {s : PS} {M : aM} (h : RC tk M0 t s M) : ∀ i j, s.T.anm i j < 256 := h.2.2.2.2.2.2
/-- the class has refused -/
def FC (tk : Tk) (M0 : aM) (t : Nat) (f : Fl) (M : aM) : Prop := (FrC t M0 M) ∧ (rI M 2 1 = nI f.1) ∧ (0 < f.1 ∧ f.1 < 10) ∧ (rI M 2 2 = nI f.2) ∧ (∃ j, j < tk.n ∧ rI M 2 4 = nI j)
theorem FC.fr {tk : Tk} {M0 : aM} {t : Nat} {f : Fl} {M : aM} (h : FC tk M0 t f M) : FrC t M0 M := h.1
theorem FC.kd {tk : Tk} {M0 : aM} {t : Nat} {f : Fl} {M : aM} (h : FC tk M0 t f M) : rI M 2 1 = nI f.1 := h.2.1
theorem FC.lf {tk : Tk} {M0 : aM} {t : Nat} {f : Fl} {M : aM} (h : FC tk M0 t f M) : 0 < f.1 ∧ f.1 < 10 := h.2.2.1
theorem FC.pl {tk : Tk} {M0 : aM} {t : Nat} {f : Fl} {M : aM} (h : FC tk M0 t f M) : rI M 2 2 = nI f.2 := h.2.2.2.1
theorem FC.at_ {tk : Tk} {M0 : aM} {t : Nat} {f : Fl} {M : aM} (h : FC tk M0 t f M) : ∃ j, j < tk.n ∧ rI M 2 4 = nI j := h.2.2.2.2
/-- nothing but the reader's place has changed -/
def S2 (M M' : aM) : Prop := M' = M ∨ ∃ x, M' = wI M 2 4 x
theorem S2.refl {M : aM} : S2 M M := Or.inl rfl
theorem S2.row {M M' : aM} (h : S2 M M') {k : Nat} (hk : k ≠ 2) : rI M' k = rI M k := by
  rcases h with rfl | ⟨x, rfl⟩
  · rfl
  · exact rw_n hk
theorem S2.cell {M M' : aM} (h : S2 M M') {j : Nat} (hj : j ≠ 4) : rI M' 2 j = rI M 2 j := by
  rcases h with rfl | ⟨x, rfl⟩
  · rfl
  · exact rw_sn hj
theorem S2.K {M M' : aM} (h : S2 M M') : rK M' = rK M := by rcases h with rfl | ⟨x, rfl⟩ <;> rfl
theorem S2.R {M M' : aM} (h : S2 M M') : rR M' = rR M := by rcases h with rfl | ⟨x, rfl⟩ <;> rfl
theorem S2.cR {M M' : aM} (h : S2 M M') {t : Nat} (ht : tOk t) : cR M' t = cR M t := by
  have : 11 ≤ t := by rcases ht with rfl | rfl | rfl <;> omega
  funext c
  exact h.row (by omega)
section CL
variable {tk : Tk} {M0 M : aM} {t i : Nat} {s : PS} {f : Fl}
theorem tOk.ge {t : Nat} (h : tOk t) : 11 ≤ t := by rcases h with rfl | rfl | rfl <;> omega
theorem RC.s2 {M' : aM} (h : RC tk M0 t s M) (h2 : S2 M M') (ht : tOk t) (hl : LC tk M0 t i M') : RC tk M0 t (PS.s_i s (i)) M' :=
  ⟨hl, (h2.cell (by omega)).trans h.os, (h2.cell (by omega)).trans h.od, by rw [h2.cR ht]; exact h.T, h.los, h.lod, h.lnm⟩
theorem FC.w2 (h : FC tk M0 t f M) {j : Nat} {x : Int32} (hj : 4 < j) : FC tk M0 t f (wI M 2 j x) :=
  ⟨h.fr.w2, (rw_sn (by omega)).trans h.kd, h.lf, (rw_sn (by omega)).trans h.pl, h.at_.imp fun j' z => ⟨z.1, (rw_sn (by omega)).trans z.2⟩⟩
theorem FC.wt (h : FC tk M0 t f M) (ht : tOk t) {c j : Nat} {x : Int32} (hc : c < 31) : FC tk M0 t f (wI M (t + c) j x) :=
  have := ht.ge
  ⟨h.fr.wt hc, by rw [rw_n (by omega)]; exact h.kd, h.lf, by rw [rw_n (by omega)]; exact h.pl, h.at_.imp fun j' z => ⟨z.1, by rw [rw_n (by omega)]; exact z.2⟩⟩
theorem LC.wt (h : LC tk M0 t i M) (ht : tOk t) {c j : Nat} {x : Int32} (hc : c < 31) : LC tk M0 t i (wI M (t + c) j x) :=
  have := ht.ge
  ⟨h.fr.wt hc, by rw [rw_n (by omega)]; exact h.kd, by rw [rw_n (by omega)]; exact h.at_, h.li⟩
theorem LC.w2 (h : LC tk M0 t i M) {j : Nat} {x : Int32} (hj : 4 < j) : LC tk M0 t i (wI M 2 j x) :=
  ⟨h.fr.w2, (rw_sn (by omega)).trans h.kd, (rw_sn (by omega)).trans h.at_, h.li⟩
theorem FC.ne (h : FC tk M0 t f M) : ¬ rI M 2 1 = 0 := by
  rw [h.kd]; exact nI_ne0 h.lf.1 (by have := h.lf.2; omega)
theorem c_isFine {post : Int32 → Prop} (h : LC tk M0 t i M) (p : post 1) : w_Rd_isFine post 2 M := by
  unfold w_Rd_isFine
  exact nb_t h.kd ⟨Or.inr rfl, p⟩
theorem c_isFineF {post : Int32 → Prop} (h : FC tk M0 t f M) (p : post 0) : w_Rd_isFine post 2 M := by
  unfold w_Rd_isFine
  exact nb_f h.ne ⟨Or.inl rfl, p⟩
theorem c_tok0 (sc : SC tk M0 t) {post : Int32 → Prop} {i : Nat} (fr : FrC t M0 M) (ha : rI M 2 4 = nI i) (hi : i < tk.n) (p : post (nI (tk.k i))) : w_Rd_token post 2 M := by
  have := sc.ln
  have := sc.ht.ge
  unfold w_Rd_token
  rw [ha, nI_clamp (by omega), show rK M (2 + 1 + 2) = rK M0 5 from congrFun fr.K 5, show rI M (2 + 1 + 2) = rI M0 5 from fr.2.2.2 5 (by omega) (by omega), sc.k i hi, sc.K.l 4 6001]
  exact ⟨vin (by omega), p⟩
theorem c_val0 (sc : SC tk M0 t) {post : Int32 → Prop} {i : Nat} (fr : FrC t M0 M) (ha : rI M 2 4 = nI i) (hi : i < tk.n) (p : post (rI M0 7 i)) : w_Rd_tokenValue post 2 M := by
  have := sc.ln
  have := sc.ht.ge
  unfold w_Rd_tokenValue
  rw [ha, nI_clamp (by omega), show rK M (2 + 1 + 4) = rK M0 7 from congrFun fr.K 7, show rI M (2 + 1 + 4) = rI M0 7 from fr.2.2.2 7 (by omega) (by omega), sc.K.l 6 6001]
  exact ⟨vin (by omega), p⟩
theorem c_token (sc : SC tk M0 t) {post : Int32 → Prop} (h : LC tk M0 t i M) (p : post (nI (tk.k i))) : w_Rd_token post 2 M := c_tok0 sc h.fr h.at_ h.li p
theorem c_tokenF (sc : SC tk M0 t) {post : Int32 → Prop} (h : FC tk M0 t f M) (p : ∀ x, post x) : w_Rd_token post 2 M := by
  obtain ⟨j, h1, h2⟩ := h.at_
  exact c_tok0 sc h.fr h2 h1 (p _)
theorem c_value (sc : SC tk M0 t) {post : Int32 → Prop} (h : LC tk M0 t i M) (hk : tk.k i ≠ 131) (p : post (nI (tk.v i))) : w_Rd_tokenValue post 2 M :=
  c_val0 sc h.fr h.at_ h.li (by rw [sc.v _ h.li hk]; exact p)
theorem c_valueX (sc : SC tk M0 t) {post : Int32 → Prop} (h : LC tk M0 t i M) (p : ∀ x, (tk.k i ≠ 131 → x = nI (tk.v i)) → post x) : w_Rd_tokenValue post 2 M :=
  c_val0 sc h.fr h.at_ h.li (p _ (fun z => sc.v _ h.li z))
theorem c_step (sc : SC tk M0 t) {post : aM → Prop} (h : LC tk M0 t i M) (hk : tk.k i ≠ 130) (p : ∀ M', S2 M M' → LC tk M0 t (i + 1) M' → post M') : w_Rd_step post 2 M := by
  have h1 := sc.en _ h.li hk
  have := sc.ln
  have := sc.ht.ge
  unfold w_Rd_step
  rw [show rI M (2 + 1) = rI M0 3 from h.fr.2.2.2 3 (by omega) (by omega), sc.nt, h.at_, show nI tk.n - 1 = nI (tk.n - 1) from pk_sub (b := 1) (by omega)]
  refine pk_le (tk.n - 1) i (fun z => by omega) (fun z => ?_)
  rw [nI_1]
  exact p _ (Or.inr ⟨_, rfl⟩) ⟨h.fr.w2, (rw_sn (by omega)).trans h.kd, rw_ss, h1⟩
theorem c_stepF (sc : SC tk M0 t) {post : aM → Prop} (h : FC tk M0 t f M) (p : ∀ M', FC tk M0 t f M' → post M') : w_Rd_step post 2 M := by
  obtain ⟨j, h1, h2⟩ := h.at_
  have := sc.ln
  have := sc.ht.ge
  unfold w_Rd_step
  rw [show rI M (2 + 1) = rI M0 3 from h.fr.2.2.2 3 (by omega) (by omega), sc.nt, h2, show nI tk.n - 1 = nI (tk.n - 1) from pk_sub (b := 1) (by omega)]
  refine pk_le (tk.n - 1) j (fun z => p _ h) (fun z => ?_)
  rw [nI_1]
  exact p _ ⟨h.fr.w2, (rw_sn (by omega)).trans h.kd, h.lf, (rw_sn (by omega)).trans h.pl, j + 1, by omega, rw_ss⟩
theorem c_refuse (sc : SC tk M0 t) {post : aM → Prop} {why : Nat} {x : Int32} (h : LC tk M0 t i M) (p : ∀ M', FC tk M0 t (rfi tk why i) M' → post M') (hx : x = nI why := by rfl) (hw : 0 < why ∧ why < 10 := by omega) : w_Rd_refuse post 2 x M := by
  have := sc.ln
  have := sc.ht.ge
  have hl := h.li
  have e : ∀ y, w_Rd_refuse_J31 post 2 2 y M ↔ post (wI (wI M 2 1 y) 2 2 (nI (tk.pl i))) := by
    intro y
    unfold w_Rd_refuse_J31
    rw [rw_sn (show 4 ≠ 1 by omega), h.at_, nI_clamp (by omega), show rK M (2 + 1 + 3) = rK M0 6 from congrFun h.fr.K 6, rw_n (show 2 + 1 + 3 ≠ 2 by omega), show rI M (2 + 1 + 3) = rI M0 6 from h.fr.2.2.2 6 (by omega) (by omega), sc.K.l 5 6001, sc.pl _ h.li]
    exact ⟨fun z => z.2, fun z => ⟨vin (by omega), z⟩⟩
  subst hx
  unfold w_Rd_refuse
  refine nb_t h.kd ?_
  rw [h.at_, nI_clamp (by omega), show rK M (2 + 1 + 2) = rK M0 5 from congrFun h.fr.K 5, show rI M (2 + 1 + 2) = rI M0 5 from h.fr.2.2.2 5 (by omega) (by omega), sc.k _ h.li, sc.K.l 4 6001, e, e]
  refine ⟨vin (by omega), ?_⟩
  have hk := sc.lk _ h.li
  have g : ∀ y : Nat, 0 < y ∧ y < 10 → FC tk M0 t (y, tk.pl i) (wI (wI M 2 1 (nI y)) 2 2 (nI (tk.pl i))) := fun y hy =>
    ⟨h.fr.w2.w2, (rw_sn (by omega)).trans rw_ss, hy, rw_ss, i, h.li, (rw_sn (by omega)).trans ((rw_sn (by omega)).trans h.at_)⟩
  refine pk_ne (tk.k i) 131 (fun z => p _ ?_) (fun z => p _ ?_)
  · have := g why hw
    rwa [rfi, if_neg z]
  · have := g 1 (by omega)
    rwa [rfi, if_pos z]
theorem c_refuseF (sc : SC tk M0 t) {post : aM → Prop} {x : Int32} (h : FC tk M0 t f M) (p : ∀ M', FC tk M0 t f M' → post M') : w_Rd_refuse post 2 x M := by
  unfold w_Rd_refuse
  exact nb_f h.ne (p _ h)
theorem c_skip (sc : SC tk M0 t) {post : Int32 → aM → Prop} {w : Nat} {x : Int32} (h : LC tk M0 t i M) (p1 : tk.k i = w → ∀ M', S2 M M' → LC tk M0 t (i + 1) M' → post 1 M') (p2 : tk.k i ≠ w → post 0 M) (hx : x = nI w := by rfl) (hw : w < 130 := by omega) : w_Rd_skip post 2 x M := by
  subst hx
  unfold w_Rd_skip
  refine c_token sc h ?_
  have hk := sc.lk _ h.li
  refine pk_eq (tk.k i) w (fun z => ?_) (fun z => ?_)
  · exact c_step sc h (by omega) (fun M' h2 h' => ⟨Or.inr rfl, p1 z M' h2 h'⟩)
  · exact ⟨Or.inl rfl, p2 z⟩
theorem c_skipF (sc : SC tk M0 t) {post : Int32 → aM → Prop} {x : Int32} (h : FC tk M0 t f M) (p : ∀ b M', FC tk M0 t f M' → post (bI b) M') : w_Rd_skip post 2 x M := by
  unfold w_Rd_skip
  refine c_tokenF sc h (fun y => ?_)
  refine br_c (fun _ => c_stepF sc h (fun M' h' => ⟨Or.inr rfl, p true _ h'⟩)) (fun _ => ⟨Or.inl rfl, p false _ h⟩)
theorem c_require (sc : SC tk M0 t) {post : aM → Prop} {w : Nat} {x : Int32} (h : RC tk M0 t s M) (p : Ex (fun s' => ∀ M', RC tk M0 t s' M' → post M') (fun f => ∀ M', FC tk M0 t f M' → post M') (req tk w s)) (hx : x = nI w := by rfl) (hw : w < 130 := by omega) : w_Rd_require post 2 x M := by
  subst hx
  unfold w_Rd_require
  refine c_token sc h.L ?_
  have hk := sc.lk _ h.L.li
  refine pk_ne (tk.k s.i) w (fun z => ?_) (fun z => ?_)
  · rw [req, if_neg z] at p
    exact c_refuse sc h.L p
  · rw [req, if_pos z] at p
    exact c_step sc h.L (by omega) (fun M' h2 h' => p M' (h.s2 h2 sc.ht h'))
theorem c_requireF (sc : SC tk M0 t) {post : aM → Prop} {x : Int32} (h : FC tk M0 t f M) (p : ∀ M', FC tk M0 t f M' → post M') : w_Rd_require post 2 x M := by
  unfold w_Rd_require
  refine c_tokenF sc h (fun y => ?_)
  exact ⟨fun _ => c_refuseF sc h p, fun _ => c_stepF sc h p⟩
end CL
