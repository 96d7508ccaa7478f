/-! Constants of the pool: their words, by their places; ldc and ldc_w. -/
def tLdcI : List (List Nat) := [[632, 680, 1049, 1143, 1196, 1326, 1004, 707, 1016, 1121, 1061], [], [], [], [], [], [], [], [], [], [1263, 1264, 1254, 1269, 1298, 1297, 1311, 1274, 1287, 1288], [1339, 1605, 1625, 1626, 1649, 1644, 1707, 1713, 1708, 1590, 1635, 1718, 1697, 1698, 1662, 1671, 1688, 1915, 1916, 1917, 1918, 1919, 1920, 1937, 1938, 1939, 1940, 1941, 1942, 1943, 1930, 1931, 1932, 1944, 1945, 1946, 1925, 1910, 1950, 1951, 1952, 1953, 1873, 1890, 1891, 1892, 1893], [752, 753, 754, 755, 756, 757, 758, 759, 760, 761, 762, 763, 764, 765, 766, 767, 768, 769, 770, 771, 772, 773, 774, 775, 776, 777, 778, 779, 780, 781, 782], [], [1046, 1047, 1048], []]
def kL (o : Nat) (e : Nat × aV) (ix : Nat) : Bool := match e.2 with
  | Sum.inl x => decide (lw_tbl[ix]? = some (.constant (tCn o) e.1 x))
  | Sum.inr (Sum.inl r) => r.1 == 1 && (match lw_tbl[ix]? with
    | some (.stringRef a b _) => a == tCn o && b == e.1
    | _ => false)
  | _ => false
def kLo (o : Nat) : Bool := decide ((tLdcL.getD o []).length = (tLdcI.getD o []).length) && ((tLdcL.getD o []).zip (tLdcI.getD o [])).all (fun q => kL o q.1 q.2)
theorem kldc_0 : kLo 0 = true := by decide +kernel
theorem kldc_1 : kLo 1 = true := by decide +kernel
theorem kldc_2 : kLo 2 = true := by decide +kernel
theorem kldc_3 : kLo 3 = true := by decide +kernel
theorem kldc_4 : kLo 4 = true := by decide +kernel
theorem kldc_5 : kLo 5 = true := by decide +kernel
theorem kldc_6 : kLo 6 = true := by decide +kernel
theorem kldc_7 : kLo 7 = true := by decide +kernel
theorem kldc_8 : kLo 8 = true := by decide +kernel
theorem kldc_9 : kLo 9 = true := by decide +kernel
theorem kldc_10 : kLo 10 = true := by decide +kernel
theorem kldc_11 : kLo 11 = true := by decide +kernel
theorem kldc_12 : kLo 12 = true := by decide +kernel
theorem kldc_13 : kLo 13 = true := by decide +kernel
theorem kldc_14 : kLo 14 = true := by decide +kernel
theorem kldc_15 : kLo 15 = true := by decide +kernel
theorem kLo_all {o : Nat} (h : o < 16) : kLo o = true := by
  rcases (show o = 0 ∨ o = 1 ∨ o = 2 ∨ o = 3 ∨ o = 4 ∨ o = 5 ∨ o = 6 ∨ o = 7 ∨ o = 8 ∨ o = 9 ∨ o = 10 ∨ o = 11 ∨ o = 12 ∨ o = 13 ∨ o = 14 ∨ o = 15 by omega) with rfl | rfl | rfl | rfl | rfl | rfl | rfl | rfl | rfl | rfl | rfl | rfl | rfl | rfl | rfl | rfl
  · exact kldc_0
  · exact kldc_1
  · exact kldc_2
  · exact kldc_3
  · exact kldc_4
  · exact kldc_5
  · exact kldc_6
  · exact kldc_7
  · exact kldc_8
  · exact kldc_9
  · exact kldc_10
  · exact kldc_11
  · exact kldc_12
  · exact kldc_13
  · exact kldc_14
  · exact kldc_15
/-- a text's place holds its address -/
theorem aR_str {E : aE} {U : State} (h : aKx E U) {o k id : Nat} (ho : o < 16) (hv : tLdc o k = some (aR 1 id)) : ∃ tx, vk_R (tCn o) k tx (E.2.2.1 id) U := by
  have hm := lk_mem (L := tLdcL.getD o []) hv
  have hk := kLo_all ho
  unfold kLo at hk
  simp only [Bool.and_eq_true, decide_eq_true_eq] at hk
  obtain ⟨x, hx⟩ := zip_all hk.1 hk.2 hm
  obtain ⟨-, -, -, -, -, -, -, -, s0, w1, -, -, w4, -, w6⟩ := h
  unfold kL at hx
  simp only [Bool.and_eq_true] at hx
  have hx := hx.2
  cases hw : lw_tbl[x]? with
  | none => rw [hw] at hx; cases hx
  | some wd =>
    rw [hw] at hx
    cases wd <;> try (cases hx; done)
    case stringRef a b tx =>
      simp only [Bool.and_eq_true, beq_iff_eq] at hx
      obtain ⟨rfl, rfl⟩ := hx
      have h1 := w4 _ (List.mem_of_getElem? hw)
      have h2 := w6 o b id hv
      exact ⟨tx, vk_R.warm w1 (vk_R.of (A := #[Value.ref E.2.1]) h1 h2)⟩
/-- an int's place -/
theorem aK_int {o k : Nat} {x : Int32} (ho : o < 16) (hv : tLdc o k = some (aI x)) : Cond.constant (tCn o) k x ∈ aTbl := by
  have hm := lk_mem (L := tLdcL.getD o []) hv
  have hk := kLo_all ho
  unfold kLo at hk
  simp only [Bool.and_eq_true, decide_eq_true_eq] at hk
  obtain ⟨y, hy⟩ := zip_all hk.1 hk.2 hm
  unfold kL at hy
  exact in_tbl_i (of_decide_eq_true hy) rfl
theorem tLdc_1 {o k t id : Nat} (ho : o < 16) (hv : tLdc o k = some (aR t id)) : t = 1 := by
  have hm := lk_mem (L := tLdcL.getD o []) hv
  have hk := kLo_all ho
  unfold kLo at hk
  simp only [Bool.and_eq_true, decide_eq_true_eq] at hk
  obtain ⟨y, hy⟩ := zip_all hk.1 hk.2 hm
  unfold kL at hy
  simp only [Bool.and_eq_true, beq_iff_eq] at hy
  exact hy.1
theorem aSLd_all {fl : Bool} {E : aE} {l : Launch} : aSLd fl E l := by
  intro p e R s m args below meth c n0 z0 Q q pc k len i v L st M u X hi hd hv kk
  have ho := tOwn_lt q
  rcases v with x | ⟨t, id⟩ | x
  · have hw := aK_int ho hv
    rcases hi with ⟨rfl, rfl⟩ | ⟨rfl, rfl⟩
    · exact ag_ldcI X hw hd kk
    · exact ag_ldcwI X hw hd kk
  · have ht := tLdc_1 ho hv
    subst ht
    obtain ⟨tx, hR⟩ := aR_str X.2.2.2.2.2.1 ho hv
    rcases hi with ⟨rfl, rfl⟩ | ⟨rfl, rfl⟩
    · exact ag_ldcS X hR hd kk
    · exact ag_ldcwS X hR hd kk
  · have hm := lk_mem (L := tLdcL.getD (tOwn q) []) hv
    have hk := kLo_all ho
    unfold kLo at hk
    simp only [Bool.and_eq_true, decide_eq_true_eq] at hk
    obtain ⟨y, hy⟩ := zip_all hk.1 hk.2 hm
    unfold kL at hy
    cases hy
