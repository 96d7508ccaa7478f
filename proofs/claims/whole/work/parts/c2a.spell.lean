/-! THE ROWS OF THE WORDS: Names.spell, while constructors run. -/
/-- words with a blank between two: none too long, none too many -/
def okS : List Int32 → Nat → Nat → Bool
  | [], _, _ => true
  | c :: l, i, p => if c = 32 then decide (i + 1 < 28) && okS l (i + 1) 0 else decide (p < 12) && okS l i (p + 1)
/-- the letters l are written behind p letters of word i: rows a (lengths) and b (letters) -/
def spM (a b : Nat) : List Int32 → Nat → Nat → aM → aM
  | [], _, _, M => M
  | c :: l, i, p, M => if c = 32 then spM a b l (i + 1) 0 M else spM a b l i (p + 1) (wI (wI M b (i * 12 + p) c) a i (nI (p + 1)))
def spA : List Int32 → Nat → Nat → (Nat → Int32) → Nat → Int32
  | [], _, _, r => r
  | c :: l, i, p, r => if c = 32 then spA l (i + 1) 0 r else spA l i (p + 1) (up r i (nI (p + 1)))
def spB : List Int32 → Nat → Nat → (Nat → Int32) → Nat → Int32
  | [], _, _, r => r
  | c :: l, i, p, r => if c = 32 then spB l (i + 1) 0 r else spB l i (p + 1) (up r (i * 12 + p) c)
theorem spM_f {a b : Nat} (hab : a ≠ b) : ∀ (l : List Int32) (i p : Nat) (M : aM), (spM a b l i p M).1 = M.1 ∧ (spM a b l i p M).2.1 = M.2.1 ∧ (spM a b l i p M).2.2.2 = M.2.2.2 ∧ rI (spM a b l i p M) a = spA l i p (rI M a) ∧ rI (spM a b l i p M) b = spB l i p (rI M b) ∧ ∀ k, k ≠ a → k ≠ b → rI (spM a b l i p M) k = rI M k := by
  intro l
  induction l with
  | nil => intro i p M; exact ⟨rfl, rfl, rfl, rfl, rfl, fun _ _ _ => rfl⟩
  | cons c l ih =>
    intro i p M
    rw [spM, spA, spB]
    by_cases h : c = 32
    · rw [if_pos h, if_pos h, if_pos h]; exact ih (i + 1) 0 M
    · rw [if_neg h, if_neg h, if_neg h]
      obtain ⟨h1, h2, h3, h4, h5, h6⟩ := ih i (p + 1) (wI (wI M b (i * 12 + p) c) a i (nI (p + 1)))
      refine ⟨h1, h2, h3, ?_, ?_, fun k g1 g2 => ?_⟩
      · rw [h4, rw_s, rw_n hab]
      · rw [h5, rw_n (fun z => hab z.symm), rw_s]
      · rw [h6 k g1 g2, rw_n g1, rw_n g2]
theorem spA_out : ∀ (l : List Int32) (i p : Nat) (r : Nat → Int32) (j : Nat), okS l i p = true → i < 28 → 28 ≤ j → spA l i p r j = r j := by
  intro l
  induction l with
  | nil => intro i p r j _ _ _; rfl
  | cons c l ih =>
    intro i p r j ho hi hj
    rw [okS] at ho
    rw [spA]
    by_cases h : c = 32
    · rw [if_pos h, Bool.and_eq_true, decide_eq_true_eq] at ho
      rw [if_pos h]; exact ih _ _ _ _ ho.2 ho.1 hj
    · rw [if_neg h, Bool.and_eq_true, decide_eq_true_eq] at ho
      rw [if_neg h, ih _ _ _ _ ho.2 hi hj, up_n (by omega)]
theorem spB_out : ∀ (l : List Int32) (i p : Nat) (r : Nat → Int32) (j : Nat), okS l i p = true → i < 28 → 336 ≤ j → spB l i p r j = r j := by
  intro l
  induction l with
  | nil => intro i p r j _ _ _; rfl
  | cons c l ih =>
    intro i p r j ho hi hj
    rw [okS] at ho
    rw [spB]
    by_cases h : c = 32
    · rw [if_pos h, Bool.and_eq_true, decide_eq_true_eq] at ho
      rw [if_pos h]; exact ih _ _ _ _ ho.2 ho.1 hj
    · rw [if_neg h, Bool.and_eq_true, decide_eq_true_eq] at ho
      rw [if_neg h, ih _ _ _ _ ho.2 hi hj, up_n (by omega)]
/-- words behind the last one are left -/
def nbS (l : List Int32) : Nat := (l.filter (fun c => c == 32)).length
theorem spA_hi : ∀ (l : List Int32) (i p : Nat) (r : Nat → Int32) (j : Nat), i + nbS l < j → spA l i p r j = r j := by
  intro l
  induction l with
  | nil => intro i p r j _; rfl
  | cons c l ih =>
    intro i p r j hj
    rw [spA]
    unfold nbS at hj
    by_cases h : c = 32
    · rw [if_pos h]
      rw [List.filter_cons_of_pos (by rw [h]; rfl), List.length_cons] at hj
      exact ih _ _ _ _ (by unfold nbS; omega)
    · rw [if_neg h]
      rw [List.filter_cons_of_neg (by simpa using h)] at hj
      rw [ih _ _ _ _ (by unfold nbS; omega), up_n (by omega)]
/-- the rows, as they lie at last -/
def spW (M : aM) (a b : Nat) : aM := (M.1, M.2.1, fun k => if k = a then (fun j => nI (spN.getD j []).length) else if k = b then (fun x => nI ((spN.getD (x / 12) []).getD (x % 12) 0)) else M.2.2.1 k, M.2.2.2.1, M.2.2.2.2)
theorem spN_out {j : Nat} (h : 28 ≤ j) : spN.getD j [] = [] := by
  rw [List.getD_eq_getElem?_getD, List.getElem?_eq_none (by have : spN.length = 28 := (by decide); omega)]
  rfl
theorem okS_all : okS (tStr.getD 0 []) 1 0 = true ∧ okS (tStr.getD 1 []) 10 0 = true ∧ okS (tStr.getD 2 []) 16 0 = true ∧ okS (tStr.getD 3 []) 22 0 = true := by decide +kernel
theorem nbS_all : nbS (tStr.getD 0 []) = 8 ∧ nbS (tStr.getD 1 []) = 5 ∧ nbS (tStr.getD 2 []) = 5 := by decide +kernel
theorem spA_all : spA (tStr.getD 3 []) 22 0 (spA (tStr.getD 2 []) 16 0 (spA (tStr.getD 1 []) 10 0 (spA (tStr.getD 0 []) 1 0 (fun _ => 0)))) = fun j => nI (spN.getD j []).length := by
  funext j
  by_cases h : j < 28
  · have key : ∀ j, j < 28 → spA (tStr.getD 3 []) 22 0 (spA (tStr.getD 2 []) 16 0 (spA (tStr.getD 1 []) 10 0 (spA (tStr.getD 0 []) 1 0 (fun _ => 0)))) j = nI (spN.getD j []).length := by decide +kernel
    exact key j h
  · obtain ⟨o0, o1, o2, o3⟩ := okS_all
    rw [spA_out _ _ _ _ _ o3 (by omega) (by omega), spA_out _ _ _ _ _ o2 (by omega) (by omega), spA_out _ _ _ _ _ o1 (by omega) (by omega), spA_out _ _ _ _ _ o0 (by omega) (by omega), spN_out (by omega)]
    rfl
theorem spB_all : spB (tStr.getD 3 []) 22 0 (spB (tStr.getD 2 []) 16 0 (spB (tStr.getD 1 []) 10 0 (spB (tStr.getD 0 []) 1 0 (fun _ => 0)))) = fun x => nI ((spN.getD (x / 12) []).getD (x % 12) 0) := by
  funext j
  by_cases h : j < 336
  · have key : ∀ j, j < 336 → spB (tStr.getD 3 []) 22 0 (spB (tStr.getD 2 []) 16 0 (spB (tStr.getD 1 []) 10 0 (spB (tStr.getD 0 []) 1 0 (fun _ => 0)))) j = nI ((spN.getD (j / 12) []).getD (j % 12) 0) := by decide +kernel
    exact key j h
  · obtain ⟨o0, o1, o2, o3⟩ := okS_all
    rw [spB_out _ _ _ _ _ o3 (by omega) (by omega), spB_out _ _ _ _ _ o2 (by omega) (by omega), spB_out _ _ _ _ _ o1 (by omega) (by omega), spB_out _ _ _ _ _ o0 (by omega) (by omega), spN_out (by omega)]
    rfl
theorem tc_77 : tC 77 = c77 := rfl
theorem drop_gD {l : List Int32} {j : Nat} (h : j < l.length) : l.drop j = l.getD j 0 :: l.drop (j + 1) := by
  rw [List.drop_eq_getElem_cons h, List.getD_eq_getElem?_getD, List.getElem?_eq_getElem h]
  rfl
theorem nle9 {a b : Nat} (h : a < b) (hb : b < 2 ^ 31) : ¬ nI b ≤ nI a := by
  rw [Int32.le_iff_toInt_le, nI_toInt hb, nI_toInt (by omega)]
  omega
section SPL
variable {d w k a b sid : Nat} {v1 : Int32}
theorem gA {M : aM} (ha : 0 < a) (e : rR M k 0 = a) : aRf 4 (rR M k 0) = aR 4 a := by
  unfold aRf
  rw [e, if_neg (by omega)]
theorem gB {M : aM} (hb : 0 < b) (e : rR M k 1 = b) : aRf 4 (rR M k 1) = aR 4 b := by
  unfold aRf
  rw [e, if_neg (by omega)]
theorem rn_cast {q : Nat} {u : Bool} {σ σ' : aS} {o : aO} (e : σ = σ') (h : Rn false d w q u σ' o) : Rn false d w q u σ o := by
  subst e
  exact h
/-- a letter is written -/
theorem sp_c {vi vj vp ch : Int32} {n : Nat} {M : aM} {o : aO} (hd : 6 ≤ d) (hw : 200 ≤ w) (hs : sid < 59) (ha : 0 < a) (hb : 0 < b) (r0 : rR M k 0 = a) (r1 : rR M k 1 = b) (hini : vp_in vi (rK M a).2) (hinj : vp_in vj (tStr.getD sid []).length) (eI : rI M a vi.toNatClampNeg = vp) (hc : (tStr.getD sid []).getD vj.toNatClampNeg 0 = ch) (hy : vp_in (vi * (12 : Int32) + vp) (rK M b).2) (hn : (vi * (12 : Int32) + vp).toNatClampNeg = n) (h12 : ¬ (12 : Int32) ≤ vp) (h : Rn false d w 77 false (77, [some (aR 15 k), some (aI v1), some (aR 1 sid), some (aI vi), some (aI vj)], [], wI M b n ch) o) : Rn false d w 77 false (44, [some (aR 15 k), some (aI v1), some (aR 1 sid), some (aI vi), some (aI vj)], [], M) o := by
  subst hn hc eI
  refine rn_s (P := True ∧ True ∧ True) (σ1 := (48, [some (aR 15 k), some (aI v1), some (aR 1 sid), some (aI vi), some (aI vj)], [aRf 4 (rR M k 0)], M)) tc_77 rfl 2 rfl ⟨trivial, trivial, trivial⟩ ?_
  refine rn_cast (σ' := (48, [some (aR 15 k), some (aI v1), some (aR 1 sid), some (aI vi), some (aI vj)], [aR 4 a], M)) (by rw [gA ha r0]) ?_
  refine rn_s (P := True ∧ vp_in vi (rK M a).2 ∧ True ∧ True) (σ1 := (52, [some (aR 15 k), some (aI v1), some (aR 1 sid), some (aI vi), some (aI vj)], [aI (12 : Int32), aI (rI M a vi.toNatClampNeg)], M)) tc_77 rfl 3 rfl ⟨trivial, hini, trivial, trivial⟩ ?_
  refine rn_br (c := (12 : Int32) ≤ rI M a vi.toNatClampNeg) tc_77 rfl rfl (fun _ => rfl) (fun c2 => absurd c2 h12) (fun _ => ?_)
  refine rn_s (P := True ∧ True ∧ True) (σ1 := (59, [some (aR 15 k), some (aI v1), some (aR 1 sid), some (aI vi), some (aI vj)], [aRf 4 (rR M k 1)], M)) tc_77 rfl 2 rfl ⟨trivial, trivial, trivial⟩ ?_
  refine rn_cast (σ' := (59, [some (aR 15 k), some (aI v1), some (aR 1 sid), some (aI vi), some (aI vj)], [aR 4 b], M)) (by rw [gB hb r1]) ?_
  refine rn_s (P := True ∧ True ∧ True ∧ True ∧ True ∧ True) (σ1 := (67, [some (aR 15 k), some (aI v1), some (aR 1 sid), some (aI vi), some (aI vj)], [aRf 4 (rR M k 0), aI (vi * (12 : Int32)), aR 4 b], M)) tc_77 rfl 5 rfl ⟨trivial, trivial, trivial, trivial, trivial, trivial⟩ ?_
  refine rn_cast (σ' := (67, [some (aR 15 k), some (aI v1), some (aR 1 sid), some (aI vi), some (aI vj)], [aR 4 a, aI (vi * (12 : Int32)), aR 4 b], M)) (by rw [gA ha r0]) ?_
  refine rn_s (P := True ∧ vp_in vi (rK M a).2 ∧ True ∧ True ∧ True ∧ True) (σ1 := (73, [some (aR 15 k), some (aI v1), some (aR 1 sid), some (aI vi), some (aI vj)], [aI vj, aR 1 sid, aI (vi * (12 : Int32) + rI M a vi.toNatClampNeg), aR 4 b], M)) tc_77 rfl 5 rfl ⟨trivial, hini, trivial, trivial, trivial, trivial⟩ ?_
  refine rn_prim (P := sid < 59 ∧ vp_in vj (tStr.getD sid []).length) (σ1 := (76, [some (aR 15 k), some (aI v1), some (aR 1 sid), some (aI vi), some (aI vj)], [aI ((tStr.getD sid []).getD vj.toNatClampNeg 0), aI (vi * (12 : Int32) + rI M a vi.toNatClampNeg), aR 4 b], M)) tc_77 rfl rfl rfl rfl ⟨hs, hinj⟩ (by omega) (by omega) (Nat.le_of_ble_eq_true rfl) ?_
  exact rn_s (P := vp_in (vi * (12 : Int32) + rI M a vi.toNatClampNeg) (rK M b).2 ∧ True) (σ1 := (77, [some (aR 15 k), some (aI v1), some (aR 1 sid), some (aI vi), some (aI vj)], [], wI M b (vi * (12 : Int32) + rI M a vi.toNatClampNeg).toNatClampNeg ((tStr.getD sid []).getD vj.toNatClampNeg 0))) tc_77 rfl 1 rfl ⟨hy, trivial⟩ h
/-- its word is one longer -/
theorem sp_w {vi vj vp x y : Int32} {n : Nat} {M : aM} {o : aO} (ha : 0 < a) (r0 : rR M k 0 = a) (hini : vp_in vi (rK M a).2) (eI : rI M a vi.toNatClampNeg = vp) (hn : vi.toNatClampNeg = n) (hx : vp + (1 : Int32) = x) (hy : vj + (1 : Int32) = y) (h : Rn false d w 77 false (9, [some (aR 15 k), some (aI v1), some (aR 1 sid), some (aI vi), some (aI y)], [], wI M a n x) o) : Rn false d w 77 false (77, [some (aR 15 k), some (aI v1), some (aR 1 sid), some (aI vi), some (aI vj)], [], M) o := by
  subst hx hy hn eI
  refine rn_s (P := True ∧ True ∧ True) (σ1 := (81, [some (aR 15 k), some (aI v1), some (aR 1 sid), some (aI vi), some (aI vj)], [aRf 4 (rR M k 0)], M)) tc_77 rfl 2 rfl ⟨trivial, trivial, trivial⟩ ?_
  refine rn_cast (σ' := (81, [some (aR 15 k), some (aI v1), some (aR 1 sid), some (aI vi), some (aI vj)], [aR 4 a], M)) (by rw [gA ha r0]) ?_
  refine rn_s (P := True ∧ True ∧ vp_in vi (rK M a).2 ∧ True ∧ True ∧ vp_in vi (rK M a).2 ∧ True) (σ1 := (87, [some (aR 15 k), some (aI v1), some (aR 1 sid), some (aI vi), some (aI vj)], [], wI M a vi.toNatClampNeg (rI M a vi.toNatClampNeg + (1 : Int32)))) tc_77 rfl 6 rfl ⟨trivial, trivial, hini, trivial, trivial, hini, trivial⟩ ?_
  exact rn_s (P := True ∧ True ∧ True) (σ1 := (9, [some (aR 15 k), some (aI v1), some (aR 1 sid), some (aI vi), some (aI (vj + (1 : Int32)))], [], wI M a vi.toNatClampNeg (rI M a vi.toNatClampNeg + (1 : Int32)))) tc_77 rfl 2 rfl ⟨trivial, trivial, trivial⟩ h
/-- a blank -/
theorem sp_b {vi vj x y : Int32} {M : aM} {o : aO} (hx : vi + (1 : Int32) = x) (hy : vj + (1 : Int32) = y) (h : Rn false d w 77 false (9, [some (aR 15 k), some (aI v1), some (aR 1 sid), some (aI x), some (aI y)], [], M) o) : Rn false d w 77 false (38, [some (aR 15 k), some (aI v1), some (aR 1 sid), some (aI vi), some (aI vj)], [], M) o := by
  subst hx hy
  refine rn_s (P := True ∧ True ∧ True) (σ1 := (87, [some (aR 15 k), some (aI v1), some (aR 1 sid), some (aI (vi + (1 : Int32))), some (aI vj)], [], M)) tc_77 rfl 2 rfl ⟨trivial, trivial, trivial⟩ ?_
  exact rn_s (P := True ∧ True ∧ True) (σ1 := (9, [some (aR 15 k), some (aI v1), some (aR 1 sid), some (aI (vi + (1 : Int32))), some (aI (vj + (1 : Int32)))], [], M)) tc_77 rfl 2 rfl ⟨trivial, trivial, trivial⟩ h
theorem sp_loop (hd : 6 ≤ d) (hw : 200 ≤ w) (hs : sid < 59) (hl : (tStr.getD sid []).length < 1000) (ha : 0 < a) (hb : 0 < b) (hab : a ≠ b) : ∀ (n j i p : Nat) (M : aM), j + n = (tStr.getD sid []).length → okS ((tStr.getD sid []).drop j) i p = true → rR M k 0 = a → rR M k 1 = b → (rK M a).2 = 28 → (rK M b).2 = 336 → rI M a i = nI p → (∀ i', i < i' → rI M a i' = 0) → i < 28 → p ≤ 12 → Rn false d w 77 false (9, [some (aR 15 k), some (aI v1), some (aR 1 sid), some (aI (nI i)), some (aI (nI j))], [], M) (Sum.inl none, spM a b ((tStr.getD sid []).drop j) i p M, false) := by
  intro n
  induction n with
  | zero =>
    intro j i p M hj ho r0 r1 ka kb hp hz hi hp12
    rw [List.drop_eq_nil_of_le (by omega), spM]
    refine rn_s (P := True ∧ True ∧ True) (σ1 := (12, [some (aR 15 k), some (aI v1), some (aR 1 sid), some (aI (nI i)), some (aI (nI j))], [aR 1 sid, aI (nI j)], M)) tc_77 rfl 2 rfl ⟨trivial, trivial, trivial⟩ ?_
    refine rn_prim (P := sid < 59) (σ1 := (15, [some (aR 15 k), some (aI v1), some (aR 1 sid), some (aI (nI i)), some (aI (nI j))], [aI (Int32.ofNat (tStr.getD sid []).length), aI (nI j)], M)) tc_77 rfl rfl rfl rfl hs (by omega) (by omega) (Nat.le_of_ble_eq_true rfl) ?_
    refine rn_br (c := Int32.ofNat (tStr.getD sid []).length ≤ nI j) tc_77 rfl rfl (fun _ => rfl) (fun _ => ?_) (fun c => ?_)
    · exact rn_end tc_77 rfl rfl trivial (fun _ => rfl)
    · exact absurd (show nI (tStr.getD sid []).length ≤ nI j from nI_le (by omega) (by omega)) c
  | succ n ih =>
    intro j i p M hj ho r0 r1 ka kb hp hz hi hp12
    have hjl : j < (tStr.getD sid []).length := by omega
    have ed := drop_gD hjl
    rw [ed, okS] at ho
    rw [ed, spM]
    generalize hvi : nI i = vi
    generalize hvj : nI j = vj
    have ecl : vj.toNatClampNeg = j := by rw [← hvj]; exact nI_clamp (by omega)
    have eci : vi.toNatClampNeg = i := by rw [← hvi]; exact nI_clamp (by omega)
    have hinj : vp_in vj (tStr.getD sid []).length := by rw [← hvj]; exact vin hjl
    have hini : vp_in vi (rK M a).2 := by rw [ka, ← hvi]; exact vin hi
    refine rn_s (P := True ∧ True ∧ True) (σ1 := (12, [some (aR 15 k), some (aI v1), some (aR 1 sid), some (aI vi), some (aI vj)], [aR 1 sid, aI vj], M)) tc_77 rfl 2 rfl ⟨trivial, trivial, trivial⟩ ?_
    refine rn_prim (P := sid < 59) (σ1 := (15, [some (aR 15 k), some (aI v1), some (aR 1 sid), some (aI vi), some (aI vj)], [aI (Int32.ofNat (tStr.getD sid []).length), aI vj], M)) tc_77 rfl rfl rfl rfl hs (by omega) (by omega) (Nat.le_of_ble_eq_true rfl) ?_
    refine rn_br (c := Int32.ofNat (tStr.getD sid []).length ≤ vj) tc_77 rfl rfl (fun _ => rfl) (fun c => ?_) (fun _ => ?_)
    · rw [← hvj] at c
      exact absurd (show nI (tStr.getD sid []).length ≤ nI j from c) (nle9 hjl (by omega))
    refine rn_s (P := True ∧ True ∧ True ∧ True) (σ1 := (23, [some (aR 15 k), some (aI v1), some (aR 1 sid), some (aI vi), some (aI vj)], [aRf 4 (rR M k 0), aI vi], M)) tc_77 rfl 3 rfl ⟨trivial, trivial, trivial, trivial⟩ ?_
    refine rn_cast (σ' := (23, [some (aR 15 k), some (aI v1), some (aR 1 sid), some (aI vi), some (aI vj)], [aR 4 a, aI vi], M)) (by rw [gA ha r0]) ?_
    refine rn_s (P := True ∧ True) (σ1 := (24, [some (aR 15 k), some (aI v1), some (aR 1 sid), some (aI vi), some (aI vj)], [aI (Int32.ofNat (rK M a).2), aI vi], M)) tc_77 rfl 1 rfl ⟨trivial, trivial⟩ ?_
    refine rn_br (c := Int32.ofNat (rK M a).2 ≤ vi) tc_77 rfl rfl (fun _ => rfl) (fun c => ?_) (fun _ => ?_)
    · rw [ka, ← hvi] at c
      exact absurd (show nI 28 ≤ nI i from c) (nle9 (by omega) (by omega))
    refine rn_s (P := True ∧ True ∧ True) (σ1 := (30, [some (aR 15 k), some (aI v1), some (aR 1 sid), some (aI vi), some (aI vj)], [aI vj, aR 1 sid], M)) tc_77 rfl 2 rfl ⟨trivial, trivial, trivial⟩ ?_
    refine rn_prim (P := sid < 59 ∧ vp_in vj (tStr.getD sid []).length) (σ1 := (33, [some (aR 15 k), some (aI v1), some (aR 1 sid), some (aI vi), some (aI vj)], [aI ((tStr.getD sid []).getD vj.toNatClampNeg 0)], M)) tc_77 rfl rfl rfl rfl ⟨hs, hinj⟩ (by omega) (by omega) (Nat.le_of_ble_eq_true rfl) ?_
    refine rn_cast (σ' := (33, [some (aR 15 k), some (aI v1), some (aR 1 sid), some (aI vi), some (aI vj)], [aI ((tStr.getD sid []).getD j 0)], M)) (by rw [ecl]) ?_
    generalize hc : (tStr.getD sid []).getD j 0 = ch at ho ⊢
    refine rn_s (P := True ∧ True) (σ1 := (35, [some (aR 15 k), some (aI v1), some (aR 1 sid), some (aI vi), some (aI vj)], [aI (32 : Int32), aI ch], M)) tc_77 rfl 1 rfl ⟨trivial, trivial⟩ ?_
    refine rn_br (c := ¬ ch = 32) tc_77 rfl rfl (fun _ => rfl) (fun c => ?_) (fun c => ?_)
    · rw [if_neg c, Bool.and_eq_true, decide_eq_true_eq] at ho
      rw [if_neg c]
      obtain ⟨ho1, ho2⟩ := ho
      have eI : rI M a vi.toNatClampNeg = nI p := by rw [eci]; exact hp
      have ey : vi * (12 : Int32) + nI p = nI (i * 12 + p) := by rw [← hvi, show (12 : Int32) = nI 12 from rfl, pk_mul, nI_add]
      have ez : (vi * (12 : Int32) + nI p).toNatClampNeg = i * 12 + p := by rw [ey]; exact nI_clamp (by omega)
      have ev : vp_in (vi * (12 : Int32) + nI p) (rK M b).2 := by rw [kb, ey]; exact vin (by omega)
      have eW : vj + (1 : Int32) = nI (j + 1) := by rw [← hvj]; exact nI_1 j
      have eJ : rI (wI M b (i * 12 + p) ch) a = rI M a := rw_n hab
      refine sp_c (n := i * 12 + p) (ch := ch) hd hw hs ha hb r0 r1 hini hinj eI (by rw [ecl]; exact hc) ev ez (nle9 (b := 12) ho1 (by omega)) ?_
      refine sp_w (M := wI M b (i * 12 + p) ch) (n := i) (x := nI (p + 1)) (y := nI (j + 1)) ha r0 hini (by rw [eJ]; exact eI) eci (nI_1 p) eW ?_
      subst hvi
      exact ih (j + 1) i (p + 1) (wI (wI M b (i * 12 + p) ch) a i (nI (p + 1))) (by omega) ho2 r0 r1 ka kb rw_ss (fun i' hi' => by rw [rw_sn (by omega), eJ]; exact hz i' hi') hi (by omega)
    · have c : ch = 32 := Classical.not_not.mp c
      rw [if_pos c, Bool.and_eq_true, decide_eq_true_eq] at ho
      rw [if_pos c]
      refine sp_b (x := nI (i + 1)) (y := nI (j + 1)) (by rw [← hvi]; exact nI_1 i) (by rw [← hvj]; exact nI_1 j) ?_
      exact ih (j + 1) (i + 1) 0 M (by omega) ho.2 r0 r1 ka kb (by rw [hz (i + 1) (by omega)]; rfl) (fun i' hi' => hz i' (by omega)) ho.1 (by omega)
theorem f_spell {f : Nat} {M : aM} (hd : 6 ≤ d) (hw : 200 ≤ w) (hs : sid < 59) (hl : (tStr.getD sid []).length < 1000) (ha : 0 < a) (hb : 0 < b) (hab : a ≠ b) (ho : okS (tStr.getD sid []) f 0 = true) (r0 : rR M k 0 = a) (r1 : rR M k 1 = b) (ka : (rK M a).2 = 28) (kb : (rK M b).2 = 336) (hz : ∀ i', f ≤ i' → rI M a i' = 0) (hf : f < 28) (e : (if (0 : Int32) < nI f then nI f else 0) = nI f) : Rn false d w 77 true (0, aEnt 77 [aR 15 k, aI (nI f), aR 1 sid], [], M) (Sum.inl none, spM a b (tStr.getD sid []) f 0 M, false) := by
  show Rn false d w 77 true (0, [some (aR 15 k), some (aI (nI f)), some (aR 1 sid), none, none], [], M) _
  refine rn_s (P := True ∧ True ∧ True) (σ1 := (2, [some (aR 15 k), some (aI (nI f)), some (aR 1 sid), none, none], [aI (nI f), aI (0 : Int32)], M)) tc_77 rfl 2 rfl ⟨trivial, trivial, trivial⟩ ?_
  refine rn_prim (P := True) (σ1 := (5, [some (aR 15 k), some (aI (nI f)), some (aR 1 sid), none, none], [aI (if (0 : Int32) < nI f then nI f else 0)], M)) tc_77 rfl rfl rfl rfl trivial (by omega) (by omega) (Nat.le_of_ble_eq_true rfl) ?_
  rw [e]
  refine rn_s (P := True ∧ True ∧ True ∧ True) (σ1 := (9, [some (aR 15 k), some (aI (nI f)), some (aR 1 sid), some (aI (nI f)), some (aI (0 : Int32))], [], M)) tc_77 rfl 3 rfl ⟨trivial, trivial, trivial, trivial⟩ ?_
  have := sp_loop (k := k) (a := a) (b := b) (sid := sid) (v1 := nI f) hd hw hs hl ha hb hab (tStr.getD sid []).length 0 f 0 M (by omega) (by rw [List.drop_zero]; exact ho) r0 r1 ka kb (by rw [hz f (Nat.le_refl _)]; rfl) (fun i' hi' => hz i' (by omega)) hf (by omega)
  rw [List.drop_zero] at this
  exact this
end SPL
