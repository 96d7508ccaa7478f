/-! THE MODEL'S DRAFT: its rows against the function's text. -/
/-- how long the bank of one text is, row by row -/
def szM (c : Nat) : Nat := [0, 0, 0, 1, 8, 8, 8, 8, 108, 1296, 1, 100, 100, 100, 100, 1, 400, 400, 400, 400, 400, 400, 400, 1, 1, 100, 100, 100, 1, 100, 100].getD c 0
/-- the rows of the model's text t -/
def mR (M : aM) (t : Nat) : Nat → Nat → Int32 := fun c j => if c = 0 ∨ 31 ≤ c then 0 else rI M (136 + c) (t * szM c + j)
theorem mR_0 {M : aM} {t j : Nat} {x : Int32} : mR (wI M 136 j x) t = mR M t := by
  funext c j'
  unfold mR
  by_cases g : c = 0 ∨ 31 ≤ c
  · rw [if_pos g, if_pos g]
  · rw [if_neg g, if_neg g, rw_n (by omega)]
theorem mR_hi {M : aM} {t k j : Nat} {x : Int32} (hk : 167 ≤ k) : mR (wI M k j x) t = mR M t := by
  funext c j'
  unfold mR
  by_cases g : c = 0 ∨ 31 ≤ c
  · rw [if_pos g, if_pos g]
  · rw [if_neg g, if_neg g, rw_n (by omega)]
theorem mR_w {M : aM} {t c k jj j : Nat} {x : Int32} (hk : k = 136 + c) (hc : 0 < c ∧ c < 31) (hj : jj = t * szM c + j) : mR (wI M k jj x) t = up (mR M t) c (up (mR M t c) j x) := by
  subst hk hj
  funext c' j'
  show mR _ t c' j' = (if c' = c then up (mR M t c) j x else mR M t c') j'
  by_cases g : c' = c
  · subst g
    rw [if_pos rfl]
    show mR _ t c' j' = if j' = j then x else mR M t c' j'
    have hn : ¬ (c' = 0 ∨ 31 ≤ c') := by omega
    unfold mR
    rw [if_neg hn, if_neg hn, rw_s, up_e]
    by_cases g2 : j' = j
    · subst g2; rw [if_pos rfl, if_pos rfl]
    · rw [if_neg g2, if_neg (by omega)]
  · rw [if_neg g]
    unfold mR
    by_cases g3 : c' = 0 ∨ 31 ≤ c'
    · rw [if_pos g3, if_pos g3]
    · rw [if_neg g3, if_neg g3, rw_n (by omega)]
theorem mR_3 {M : aM} {x : Int32} : mR (wI M 139 2 x) 2 = up (mR M 2) 3 (up (mR M 2 3) 0 x) := mR_w (c := 3) (j := 0) rfl (by omega) rfl
theorem mR_4 {M : aM} {j : Nat} {x : Int32} : mR (wI M 140 (16 + j) x) 2 = up (mR M 2) 4 (up (mR M 2 4) j x) := mR_w (c := 4) (j := j) rfl (by omega) rfl
theorem mR_5 {M : aM} {j : Nat} {x : Int32} : mR (wI M 141 (16 + j) x) 2 = up (mR M 2) 5 (up (mR M 2 5) j x) := mR_w (c := 5) (j := j) rfl (by omega) rfl
theorem mR_6 {M : aM} {j : Nat} {x : Int32} : mR (wI M 142 (16 + j) x) 2 = up (mR M 2) 6 (up (mR M 2 6) j x) := mR_w (c := 6) (j := j) rfl (by omega) rfl
theorem mR_7 {M : aM} {j : Nat} {x : Int32} : mR (wI M 143 (16 + j) x) 2 = up (mR M 2) 7 (up (mR M 2 7) j x) := mR_w (c := 7) (j := j) rfl (by omega) rfl
theorem mR_8 {M : aM} {j : Nat} {x : Int32} : mR (wI M 144 (216 + j) x) 2 = up (mR M 2) 8 (up (mR M 2 8) j x) := mR_w (c := 8) (j := j) rfl (by omega) rfl
theorem mR_9 {M : aM} {j : Nat} {x : Int32} : mR (wI M 145 (2592 + j) x) 2 = up (mR M 2) 9 (up (mR M 2 9) j x) := mR_w (c := 9) (j := j) rfl (by omega) rfl
theorem mR_10 {M : aM} {x : Int32} : mR (wI M 146 2 x) 2 = up (mR M 2) 10 (up (mR M 2 10) 0 x) := mR_w (c := 10) (j := 0) rfl (by omega) rfl
theorem mR_11 {M : aM} {j : Nat} {x : Int32} : mR (wI M 147 (200 + j) x) 2 = up (mR M 2) 11 (up (mR M 2 11) j x) := mR_w (c := 11) (j := j) rfl (by omega) rfl
theorem mR_12 {M : aM} {j : Nat} {x : Int32} : mR (wI M 148 (200 + j) x) 2 = up (mR M 2) 12 (up (mR M 2 12) j x) := mR_w (c := 12) (j := j) rfl (by omega) rfl
theorem mR_13 {M : aM} {j : Nat} {x : Int32} : mR (wI M 149 (200 + j) x) 2 = up (mR M 2) 13 (up (mR M 2 13) j x) := mR_w (c := 13) (j := j) rfl (by omega) rfl
theorem mR_14 {M : aM} {j : Nat} {x : Int32} : mR (wI M 150 (200 + j) x) 2 = up (mR M 2) 14 (up (mR M 2 14) j x) := mR_w (c := 14) (j := j) rfl (by omega) rfl
theorem mR_15 {M : aM} {x : Int32} : mR (wI M 151 2 x) 2 = up (mR M 2) 15 (up (mR M 2 15) 0 x) := mR_w (c := 15) (j := 0) rfl (by omega) rfl
theorem mR_16 {M : aM} {j : Nat} {x : Int32} : mR (wI M 152 (800 + j) x) 2 = up (mR M 2) 16 (up (mR M 2 16) j x) := mR_w (c := 16) (j := j) rfl (by omega) rfl
theorem mR_17 {M : aM} {j : Nat} {x : Int32} : mR (wI M 153 (800 + j) x) 2 = up (mR M 2) 17 (up (mR M 2 17) j x) := mR_w (c := 17) (j := j) rfl (by omega) rfl
theorem mR_18 {M : aM} {j : Nat} {x : Int32} : mR (wI M 154 (800 + j) x) 2 = up (mR M 2) 18 (up (mR M 2 18) j x) := mR_w (c := 18) (j := j) rfl (by omega) rfl
theorem mR_19 {M : aM} {j : Nat} {x : Int32} : mR (wI M 155 (800 + j) x) 2 = up (mR M 2) 19 (up (mR M 2 19) j x) := mR_w (c := 19) (j := j) rfl (by omega) rfl
theorem mR_20 {M : aM} {j : Nat} {x : Int32} : mR (wI M 156 (800 + j) x) 2 = up (mR M 2) 20 (up (mR M 2 20) j x) := mR_w (c := 20) (j := j) rfl (by omega) rfl
theorem mR_21 {M : aM} {j : Nat} {x : Int32} : mR (wI M 157 (800 + j) x) 2 = up (mR M 2) 21 (up (mR M 2 21) j x) := mR_w (c := 21) (j := j) rfl (by omega) rfl
theorem mR_22 {M : aM} {j : Nat} {x : Int32} : mR (wI M 158 (800 + j) x) 2 = up (mR M 2) 22 (up (mR M 2 22) j x) := mR_w (c := 22) (j := j) rfl (by omega) rfl
theorem mR_23 {M : aM} {x : Int32} : mR (wI M 159 2 x) 2 = up (mR M 2) 23 (up (mR M 2 23) 0 x) := mR_w (c := 23) (j := 0) rfl (by omega) rfl
theorem mR_24 {M : aM} {x : Int32} : mR (wI M 160 2 x) 2 = up (mR M 2) 24 (up (mR M 2 24) 0 x) := mR_w (c := 24) (j := 0) rfl (by omega) rfl
theorem mR_25 {M : aM} {j : Nat} {x : Int32} : mR (wI M 161 (200 + j) x) 2 = up (mR M 2) 25 (up (mR M 2 25) j x) := mR_w (c := 25) (j := j) rfl (by omega) rfl
theorem mR_26 {M : aM} {j : Nat} {x : Int32} : mR (wI M 162 (200 + j) x) 2 = up (mR M 2) 26 (up (mR M 2 26) j x) := mR_w (c := 26) (j := j) rfl (by omega) rfl
theorem mR_27 {M : aM} {j : Nat} {x : Int32} : mR (wI M 163 (200 + j) x) 2 = up (mR M 2) 27 (up (mR M 2 27) j x) := mR_w (c := 27) (j := j) rfl (by omega) rfl
theorem ft_mR {M M' : aM} (h : FT M M') (t : Nat) : mR M' t = mR M t := by
  funext c j
  unfold mR
  by_cases g : c = 0 ∨ 31 ≤ c
  · rw [if_pos g, if_pos g]
  · rw [if_neg g, if_neg g, h.2.2.2.1 _ (by omega)]
theorem FT.mR {M M' : aM} (h : FT M M') (t : Nat) : mR M' t = mR M t := ft_mR h t
/-- the class's kinds of parts into the model's -/
def mkK (k : Nat) : Nat := if k = 60 then 6 else if k = 61 then 7 else if k = 62 then 8 else [0, 0, 0, 0, 0, 0, 0, 0, 0, 0, 13, 14, 12, 0, 1, 2, 3, 4, 5, 9, 10, 11].getD k 0
/-- values in fours of bits, the first lowest -/
def nib : List Nat → Nat
  | [] => 0
  | v :: l => v + 16 * nib l
/-- the values as a mask -/
def msk : List Nat → Nat
  | [] => 0
  | v :: l => msk l ||| 1 <<< v
/-- number and list of a part, as the model keeps them -/
def Nm (k m : Nat) (x y : Int32) : Prop := if k = 17 ∨ k = 18 then ∃ l : List Nat, l.length ≤ 8 ∧ (∀ v, v ∈ l → v < 8) ∧ x = nI l.length ∧ y = nI (nib l) ∧ m = msk l else x = nI m ∧ y = 0
/-- the model's text in rows R, with bags g -/
def RepM (R : Nat → Nat → Int32) (T : Txt) (g : Nat → Nat) : Prop := (R 3 0 = nI T.na) ∧ (T.na ≤ 8) ∧ (∀ i, i < T.na → R 4 i = nI (T.asz i)) ∧ (∀ i, i < T.na → T.asz i ≤ 8) ∧ (∀ i, i < T.na → R 5 i = bI (T.amany i)) ∧ (∀ i, i < T.na → R 6 i = bI (T.amust i)) ∧ (∀ i, i < T.na → R 7 i = nI (g i)) ∧ (∀ i, i < T.na → R 8 i = nI (T.anl i)) ∧ (∀ i, i < T.na → T.anl i ≤ 12) ∧ (∀ i, i < T.na → ∀ j, j < T.anl i → R 9 (12 * i + j) = sx (T.anm i j)) ∧ (R 10 0 = nI T.nn) ∧ (T.nn ≤ 100) ∧ (∀ i, i < T.nn → R 11 i = nI (T.srt i)) ∧ (∀ i, i < T.nn → R 12 i = oI (T.way i)) ∧ (∀ i, i < T.nn → R 13 i = oI (T.fa i)) ∧ (∀ i, i < T.nn → R 14 i = oI (T.root i)) ∧ (∀ i, i < T.nn → R 8 (8 + i) = nI (T.nnl i)) ∧ (∀ i, i < T.nn → T.nnl i ≤ 12) ∧ (∀ i, i < T.nn → ∀ j, j < T.nnl i → R 9 (12 * (8 + i) + j) = sx (T.nnm i j)) ∧ (R 15 0 = nI T.np) ∧ (T.np ≤ 400) ∧ (∀ i, i < T.np → R 16 i = nI (mkK (T.pk i))) ∧ (∀ i, i < T.np → 16 ≤ T.pk i → R 17 i = nI (T.pa i)) ∧ (∀ i, i < T.np → Nm (T.pk i) (T.pnum i) (R 18 i) (R 19 i)) ∧ (∀ i, i < T.np → R 20 i = oI (T.pf i)) ∧ (∀ i, i < T.np → R 21 i = oI (T.pn i)) ∧ (∀ j, j < T.dn.length → R 22 j = nI (T.dn.getD j 0)) ∧ (R 23 0 = nI T.dn.length) ∧ (T.dn.length ≤ T.np) ∧ (R 24 0 = nI T.nd) ∧ (T.nd ≤ 100) ∧ (∀ i, i < T.nd → R 25 i = nI (T.dof i)) ∧ (∀ i, i < T.nd → R 26 i = nI (T.dfor i)) ∧ (∀ i, i < T.nd → R 27 i = nI (T.dnum i))
theorem RepM.na {R : Nat → Nat → Int32} {T : Txt} {g : Nat → Nat} (h : RepM R T g) : R 3 0 = nI T.na := h.1
theorem RepM.lna {R : Nat → Nat → Int32} {T : Txt} {g : Nat → Nat} (h : RepM R T g) : T.na ≤ 8 := h.2.1
theorem RepM.asz {R : Nat → Nat → Int32} {T : Txt} {g : Nat → Nat} (h : RepM R T g) : ∀ i, i < T.na → R 4 i = nI (T.asz i) := h.2.2.1
theorem RepM.lasz {R : Nat → Nat → Int32} {T : Txt} {g : Nat → Nat} (h : RepM R T g) : ∀ i, i < T.na → T.asz i ≤ 8 := h.2.2.2.1
theorem RepM.amany {R : Nat → Nat → Int32} {T : Txt} {g : Nat → Nat} (h : RepM R T g) : ∀ i, i < T.na → R 5 i = bI (T.amany i) := h.2.2.2.2.1
theorem RepM.amust {R : Nat → Nat → Int32} {T : Txt} {g : Nat → Nat} (h : RepM R T g) : ∀ i, i < T.na → R 6 i = bI (T.amust i) := h.2.2.2.2.2.1
theorem RepM.bag {R : Nat → Nat → Int32} {T : Txt} {g : Nat → Nat} (h : RepM R T g) : ∀ i, i < T.na → R 7 i = nI (g i) := h.2.2.2.2.2.2.1
theorem RepM.anl {R : Nat → Nat → Int32} {T : Txt} {g : Nat → Nat} (h : RepM R T g) : ∀ i, i < T.na → R 8 i = nI (T.anl i) := h.2.2.2.2.2.2.2.1
theorem RepM.lanl {R : Nat → Nat → Int32} {T : Txt} {g : Nat → Nat} (h : RepM R T g) : ∀ i, i < T.na → T.anl i ≤ 12 := h.2.2.2.2.2.2.2.2.1
theorem RepM.anm {R : Nat → Nat → Int32} {T : Txt} {g : Nat → Nat} (h : RepM R T g) : ∀ i, i < T.na → ∀ j, j < T.anl i → R 9 (12 * i + j) = sx (T.anm i j) := h.2.2.2.2.2.2.2.2.2.1
theorem RepM.nn {R : Nat → Nat → Int32} {T : Txt} {g : Nat → Nat} (h : RepM R T g) : R 10 0 = nI T.nn := h.2.2.2.2.2.2.2.2.2.2.1
theorem RepM.lnn {R : Nat → Nat → Int32} {T : Txt} {g : Nat → Nat} (h : RepM R T g) : T.nn ≤ 100 := h.2.2.2.2.2.2.2.2.2.2.2.1
theorem RepM.srt {R : Nat → Nat → Int32} {T : Txt} {g : Nat → Nat} (h : RepM R T g) : ∀ i, i < T.nn → R 11 i = nI (T.srt i) := h.2.2.2.2.2.2.2.2.2.2.2.2.1
theorem RepM.way {R : Nat → Nat → Int32} {T : Txt} {g : Nat → Nat} (h : RepM R T g) : ∀ i, i < T.nn → R 12 i = oI (T.way i) := h.2.2.2.2.2.2.2.2.2.2.2.2.2.1
theorem RepM.fa {R : Nat → Nat → Int32} {T : Txt} {g : Nat → Nat} (h : RepM R T g) : ∀ i, i < T.nn → R 13 i = oI (T.fa i) := h.2.2.2.2.2.2.2.2.2.2.2.2.2.2.1
theorem RepM.root {R : Nat → Nat → Int32} {T : Txt} {g : Nat → Nat} (h : RepM R T g) : ∀ i, i < T.nn → R 14 i = oI (T.root i) := h.2.2.2.2.2.2.2.2.2.2.2.2.2.2.2.1
theorem RepM.nnl {R : Nat → Nat → Int32} {T : Txt} {g : Nat → Nat} (h : RepM R T g) : ∀ i, i < T.nn → R 8 (8 + i) = nI (T.nnl i) := h.2.2.2.2.2.2.2.2.2.2.2.2.2.2.2.2.1
theorem RepM.lnnl {R : Nat → Nat → Int32} {T : Txt} {g : Nat → Nat} (h : RepM R T g) : ∀ i, i < T.nn → T.nnl i ≤ 12 := h.2.2.2.2.2.2.2.2.2.2.2.2.2.2.2.2.2.1
theorem RepM.nnm {R : Nat → Nat → Int32} {T : Txt} {g : Nat → Nat} (h : RepM R T g) : ∀ i, i < T.nn → ∀ j, j < T.nnl i → R 9 (12 * (8 + i) + j) = sx (T.nnm i j) := h.2.2.2.2.2.2.2.2.2.2.2.2.2.2.2.2.2.2.1
theorem RepM.np {R : Nat → Nat → Int32} {T : Txt} {g : Nat → Nat} (h : RepM R T g) : R 15 0 = nI T.np := h.2.2.2.2.2.2.2.2.2.2.2.2.2.2.2.2.2.2.2.1
theorem RepM.lnp {R : Nat → Nat → Int32} {T : Txt} {g : Nat → Nat} (h : RepM R T g) : T.np ≤ 400 := h.2.2.2.2.2.2.2.2.2.2.2.2.2.2.2.2.2.2.2.2.1
theorem RepM.pk {R : Nat → Nat → Int32} {T : Txt} {g : Nat → Nat} (h : RepM R T g) : ∀ i, i < T.np → R 16 i = nI (mkK (T.pk i)) := h.2.2.2.2.2.2.2.2.2.2.2.2.2.2.2.2.2.2.2.2.2.1
theorem RepM.pa {R : Nat → Nat → Int32} {T : Txt} {g : Nat → Nat} (h : RepM R T g) : ∀ i, i < T.np → 16 ≤ T.pk i → R 17 i = nI (T.pa i) := h.2.2.2.2.2.2.2.2.2.2.2.2.2.2.2.2.2.2.2.2.2.2.1
theorem RepM.pnum {R : Nat → Nat → Int32} {T : Txt} {g : Nat → Nat} (h : RepM R T g) : ∀ i, i < T.np → Nm (T.pk i) (T.pnum i) (R 18 i) (R 19 i) := h.2.2.2.2.2.2.2.2.2.2.2.2.2.2.2.2.2.2.2.2.2.2.2.1
theorem RepM.pf {R : Nat → Nat → Int32} {T : Txt} {g : Nat → Nat} (h : RepM R T g) : ∀ i, i < T.np → R 20 i = oI (T.pf i) := h.2.2.2.2.2.2.2.2.2.2.2.2.2.2.2.2.2.2.2.2.2.2.2.2.1
theorem RepM.pn {R : Nat → Nat → Int32} {T : Txt} {g : Nat → Nat} (h : RepM R T g) : ∀ i, i < T.np → R 21 i = oI (T.pn i) := h.2.2.2.2.2.2.2.2.2.2.2.2.2.2.2.2.2.2.2.2.2.2.2.2.2.1
theorem RepM.dn {R : Nat → Nat → Int32} {T : Txt} {g : Nat → Nat} (h : RepM R T g) : ∀ j, j < T.dn.length → R 22 j = nI (T.dn.getD j 0) := h.2.2.2.2.2.2.2.2.2.2.2.2.2.2.2.2.2.2.2.2.2.2.2.2.2.2.1
theorem RepM.cm {R : Nat → Nat → Int32} {T : Txt} {g : Nat → Nat} (h : RepM R T g) : R 23 0 = nI T.dn.length := h.2.2.2.2.2.2.2.2.2.2.2.2.2.2.2.2.2.2.2.2.2.2.2.2.2.2.2.1
theorem RepM.ldn {R : Nat → Nat → Int32} {T : Txt} {g : Nat → Nat} (h : RepM R T g) : T.dn.length ≤ T.np := h.2.2.2.2.2.2.2.2.2.2.2.2.2.2.2.2.2.2.2.2.2.2.2.2.2.2.2.2.1
theorem RepM.nd {R : Nat → Nat → Int32} {T : Txt} {g : Nat → Nat} (h : RepM R T g) : R 24 0 = nI T.nd := h.2.2.2.2.2.2.2.2.2.2.2.2.2.2.2.2.2.2.2.2.2.2.2.2.2.2.2.2.2.1
theorem RepM.lnd {R : Nat → Nat → Int32} {T : Txt} {g : Nat → Nat} (h : RepM R T g) : T.nd ≤ 100 := h.2.2.2.2.2.2.2.2.2.2.2.2.2.2.2.2.2.2.2.2.2.2.2.2.2.2.2.2.2.2.1
theorem RepM.dof {R : Nat → Nat → Int32} {T : Txt} {g : Nat → Nat} (h : RepM R T g) : ∀ i, i < T.nd → R 25 i = nI (T.dof i) := h.2.2.2.2.2.2.2.2.2.2.2.2.2.2.2.2.2.2.2.2.2.2.2.2.2.2.2.2.2.2.2.1
theorem RepM.dfor {R : Nat → Nat → Int32} {T : Txt} {g : Nat → Nat} (h : RepM R T g) : ∀ i, i < T.nd → R 26 i = nI (T.dfor i) := h.2.2.2.2.2.2.2.2.2.2.2.2.2.2.2.2.2.2.2.2.2.2.2.2.2.2.2.2.2.2.2.2.1
theorem RepM.dnum {R : Nat → Nat → Int32} {T : Txt} {g : Nat → Nat} (h : RepM R T g) : ∀ i, i < T.nd → R 27 i = nI (T.dnum i) := h.2.2.2.2.2.2.2.2.2.2.2.2.2.2.2.2.2.2.2.2.2.2.2.2.2.2.2.2.2.2.2.2.2
