/-! Constants of the pool: their words, by their places; ldc and ldc_w. -/
def tLdcI : List (List Nat) := [[702, 749, 1034, 1128, 1177, 1298, 986, 776, 998, 1106, 1046], [], [], [], [], [], [], [], [], [], [], [1311, 1577, 1597, 1598, 1621, 1616, 1679, 1685, 1680, 1562, 1607, 1690, 1669, 1670, 1634, 1643, 1660, 1887, 1888, 1889, 1890, 1891, 1892, 1909, 1910, 1911, 1912, 1913, 1914, 1915, 1902, 1903, 1904, 1916, 1917, 1918, 1897, 1882, 1922, 1923, 1924, 1925, 1845, 1862, 1863, 1864, 1865], [200, 253, 254, 255], [], [1031, 1032, 1033], []]
def kL (o : Nat) (e : Nat × aV) (ix : Nat) : Bool := match e.2 with
  | Sum.inl x => decide (lw_tbl[ix]? = some (.constant (tCn o) e.1 x))
  | Sum.inr (Sum.inl r) => r.1 == 1 && (match lw_tbl[ix]? with
    | some (.stringRef a b _) => a == tCn o && b == e.1
    | _ => false)
  | _ => false
def kLo (o : Nat) : Bool := decide ((tLdcL.getD o []).length = (tLdcI.getD o []).length) && ((tLdcL.getD o []).zip (tLdcI.getD o [])).all (fun q => kL o q.1 q.2)
theorem kldc_0 : kLo 0 = true := by decide +kernel
theorem kldc_1 : kLo 1 = true := by decide +kernel
theorem kldc_2 : kLo 2 = true := by decide +kernel
theorem kldc_3 : kLo 3 = true := by decide +kernel
theorem kldc_4 : kLo 4 = true := by decide +kernel
theorem kldc_5 : kLo 5 = true := by decide +kernel
theorem kldc_6 : kLo 6 = true := by decide +kernel
theorem kldc_7 : kLo 7 = true := by decide +kernel
theorem kldc_8 : kLo 8 = true := by decide +kernel
theorem kldc_9 : kLo 9 = true := by decide +kernel
theorem kldc_10 : kLo 10 = true := by decide +kernel
theorem kldc_11 : kLo 11 = true := by decide +kernel
theorem kldc_12 : kLo 12 = true := by decide +kernel
theorem kldc_13 : kLo 13 = true := by decide +kernel
theorem kldc_14 : kLo 14 = true := by decide +kernel
theorem kldc_15 : kLo 15 = true := by decide +kernel
theorem kLo_all {o : Nat} (h : o < 16) : kLo o = true := by
  rcases (show o = 0 ∨ o = 1 ∨ o = 2 ∨ o = 3 ∨ o = 4 ∨ o = 5 ∨ o = 6 ∨ o = 7 ∨ o = 8 ∨ o = 9 ∨ o = 10 ∨ o = 11 ∨ o = 12 ∨ o = 13 ∨ o = 14 ∨ o = 15 by omega) with rfl | rfl | rfl | rfl | rfl | rfl | rfl | rfl | rfl | rfl | rfl | rfl | rfl | rfl | rfl | rfl
  · exact kldc_0
  · exact kldc_1
  · exact kldc_2
  · exact kldc_3
  · exact kldc_4
  · exact kldc_5
  · exact kldc_6
  · exact kldc_7
  · exact kldc_8
  · exact kldc_9
  · exact kldc_10
  · exact kldc_11
  · exact kldc_12
  · exact kldc_13
  · exact kldc_14
  · exact kldc_15
/-- a text's place holds its address -/
theorem aR_str {E : aE} {U : State} (h : aKx E U) {o k id : Nat} (ho : o < 16) (hv : tLdc o k = some (aR 1 id)) : ∃ tx, vk_R (tCn o) k tx (E.2.2.1 id) U := by
  have hm := lk_mem (L := tLdcL.getD o []) hv
  have hk := kLo_all ho
  unfold kLo at hk
  simp only [Bool.and_eq_true, decide_eq_true_eq] at hk
  obtain ⟨x, hx⟩ := zip_all hk.1 hk.2 hm
  obtain ⟨-, -, -, -, -, -, -, -, s0, w1, -, -, w4, -, w6⟩ := h
  unfold kL at hx
  simp only [Bool.and_eq_true] at hx
  have hx := hx.2
  cases hw : lw_tbl[x]? with
  | none => rw [hw] at hx; cases hx
  | some wd =>
    rw [hw] at hx
    cases wd <;> try (cases hx; done)
    case stringRef a b tx =>
      simp only [Bool.and_eq_true, beq_iff_eq] at hx
      obtain ⟨rfl, rfl⟩ := hx
      have h1 := w4 _ (List.mem_of_getElem? hw)
      have h2 := w6 o b id hv
      exact ⟨tx, vk_R.warm w1 (vk_R.of (A := #[Value.ref E.2.1]) h1 h2)⟩
/-- an int's place -/
theorem aK_int {o k : Nat} {x : Int32} (ho : o < 16) (hv : tLdc o k = some (aI x)) : Cond.constant (tCn o) k x ∈ aTbl := by
  have hm := lk_mem (L := tLdcL.getD o []) hv
  have hk := kLo_all ho
  unfold kLo at hk
  simp only [Bool.and_eq_true, decide_eq_true_eq] at hk
  obtain ⟨y, hy⟩ := zip_all hk.1 hk.2 hm
  unfold kL at hy
  exact in_tbl_i (of_decide_eq_true hy) rfl
theorem tLdc_1 {o k t id : Nat} (ho : o < 16) (hv : tLdc o k = some (aR t id)) : t = 1 := by
  have hm := lk_mem (L := tLdcL.getD o []) hv
  have hk := kLo_all ho
  unfold kLo at hk
  simp only [Bool.and_eq_true, decide_eq_true_eq] at hk
  obtain ⟨y, hy⟩ := zip_all hk.1 hk.2 hm
  unfold kL at hy
  simp only [Bool.and_eq_true, beq_iff_eq] at hy
  exact hy.1
theorem aSLd_all {fl : Bool} {E : aE} {l : Launch} : aSLd fl E l := by
  intro p e R s m args below meth c n0 z0 Q q pc k len i v L st M u X hi hd hv kk
  have ho := tOwn_lt q
  rcases v with x | ⟨t, id⟩ | x
  · have hw := aK_int ho hv
    rcases hi with ⟨rfl, rfl⟩ | ⟨rfl, rfl⟩
    · exact ag_ldcI X hw hd kk
    · exact ag_ldcwI X hw hd kk
  · have ht := tLdc_1 ho hv
    subst ht
    obtain ⟨tx, hR⟩ := aR_str X.2.2.2.2.2.1 ho hv
    rcases hi with ⟨rfl, rfl⟩ | ⟨rfl, rfl⟩
    · exact ag_ldcS X hR hd kk
    · exact ag_ldcwS X hR hd kk
  · have hm := lk_mem (L := tLdcL.getD (tOwn q) []) hv
    have hk := kLo_all ho
    unfold kLo at hk
    simp only [Bool.and_eq_true, decide_eq_true_eq] at hk
    obtain ⟨y, hy⟩ := zip_all hk.1 hk.2 hm
    unfold kL at hy
    cases hy
