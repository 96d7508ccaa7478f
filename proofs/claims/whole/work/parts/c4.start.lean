/-! THE MEMORY behind the constructors. -/
theorem aN_new {M : aM} {t x n : Nat} : aN (aNew M t x n) = aN M + 1 := rfl
theorem aN_wR {M : aM} {k j x : Nat} : aN (wR M k j x) = aN M := rfl
/-- the memory with another script -/
def ov (n : Nat) (xs : Nat → Int32) (M : aM) : aM := (M.1, fun k => if k = 0 then (2, n) else M.2.1 k, fun k => if k = 0 then xs else M.2.2.1 k, M.2.2.2.1, M.2.2.2.2)
theorem ov_wR {n : Nat} {xs : Nat → Int32} {M : aM} {k j x : Nat} : wR (ov n xs M) k j x = ov n xs (wR M k j x) := rfl
theorem ov_new {n : Nat} {xs : Nat → Int32} {M : aM} {t x s : Nat} (h : 0 < aN M) : aNew (ov n xs M) t x s = ov n xs (aNew M t x s) := by
  refine Prod.ext rfl (Prod.ext (funext fun k => ?_) (Prod.ext (funext fun k => ?_) (Prod.ext rfl rfl)))
  · show (if k = aN M then (t, x) else if k = 0 then (2, n) else M.2.1 k) = (if k = 0 then (2, n) else if k = aN M then (t, x) else M.2.1 k)
    by_cases h1 : k = aN M
    · rw [if_pos h1, if_neg (by omega), if_pos h1]
    · rw [if_neg h1, if_neg h1]
  · show (if k = aN M then (fun _ => 0) else if k = 0 then xs else M.2.2.1 k) = (if k = 0 then xs else if k = aN M then (fun _ => 0) else M.2.2.1 k)
    by_cases h1 : k = aN M
    · rw [if_pos h1, if_neg (by omega), if_pos h1]
    · rw [if_neg h1, if_neg h1]
theorem ov_N {n : Nat} {xs : Nat → Int32} {M : aM} : aN (ov n xs M) = aN M := rfl
theorem ov_M0 (n : Nat) (xs : Nat → Int32) : aM0 n xs = ov n xs (aM0 0 (fun _ => 0)) := by
  refine Prod.ext rfl (Prod.ext (funext fun k => ?_) (Prod.ext (funext fun k => ?_) (Prod.ext rfl rfl)))
  · show (if k = 0 then (2, n) else (0, 0)) = (if k = 0 then (2, n) else if k = 0 then (2, 0) else (0, 0))
    by_cases h : k = 0
    · rw [if_pos h, if_pos h]
    · rw [if_neg h, if_neg h, if_neg h]
  · show (if k = 0 then xs else fun _ => 0) = (if k = 0 then xs else if k = 0 then (fun _ => 0) else fun _ => 0)
    by_cases h : k = 0
    · rw [if_pos h, if_pos h]
    · rw [if_neg h, if_neg h, if_neg h]
theorem ov_spW {n : Nat} {xs : Nat → Int32} {M : aM} {a b : Nat} (ha : 0 < a) (hb : 0 < b) : spW (ov n xs M) a b = ov n xs (spW M a b) := by
  refine Prod.ext rfl (Prod.ext rfl (Prod.ext (funext fun k => ?_) (Prod.ext rfl rfl)))
  show (if k = a then _ else if k = b then _ else if k = 0 then xs else M.2.2.1 k) = (if k = 0 then xs else if k = a then _ else if k = b then _ else M.2.2.1 k)
  by_cases h1 : k = a
  · rw [if_pos h1, if_neg (by omega), if_pos h1]
  · rw [if_neg h1, if_neg h1]
    by_cases h2 : k = b
    · rw [if_pos h2, if_neg (by omega), if_pos h2]
    · rw [if_neg h2, if_neg h2]
section OVF
variable {n : Nat} {xs : Nat → Int32} {M : aM} {k : Nat}
theorem ov_Nm28 (h : 0 < aN M) : F_Nm28 k (ov n xs M) = ov n xs (F_Nm28 k M) := by
  unfold F_Nm28
  simp (disch := (first | assumption | (simp only [aN_new, aN_wR, ov_N]; omega))) only [ov_N, ov_wR, ov_new]
theorem ov_Sp (h : 0 < aN M) : F_Sp (ov n xs M) = ov n xs (F_Sp M) := by
  unfold F_Sp
  rw [ov_N, ov_new h, ov_Nm28 (by rw [aN_new]; omega), ov_spW (by omega) (by omega)]
theorem N_Sp : aN (F_Sp M) = aN M + 3 := rfl
theorem ov_Tp (h : 0 < aN M) : F_Tp k (ov n xs M) = ov n xs (F_Tp k M) := by
  unfold F_Tp
  simp (disch := (first | assumption | (simp only [aN_new, aN_wR, ov_N]; omega))) only [ov_N, ov_wR, ov_new, ov_Sp]
theorem ov_Nm8 (h : 0 < aN M) : F_Nm8 k (ov n xs M) = ov n xs (F_Nm8 k M) := by
  unfold F_Nm8
  simp (disch := (first | assumption | (simp only [aN_new, aN_wR, ov_N]; omega))) only [ov_N, ov_wR, ov_new]
theorem ov_Nm100 (h : 0 < aN M) : F_Nm100 k (ov n xs M) = ov n xs (F_Nm100 k M) := by
  unfold F_Nm100
  simp (disch := (first | assumption | (simp only [aN_new, aN_wR, ov_N]; omega))) only [ov_N, ov_wR, ov_new]
theorem N_Nm8 : aN (F_Nm8 k M) = aN M + 2 := rfl
theorem N_Nm100 : aN (F_Nm100 k M) = aN M + 2 := rfl
theorem ov_At (h : 0 < aN M) : F_At k (ov n xs M) = ov n xs (F_At k M) := by
  unfold F_At
  simp (disch := (first | assumption | (simp only [aN_new, aN_wR, ov_N, N_Nm8]; omega))) only [ov_N, ov_wR, ov_new, ov_Nm8]
theorem ov_Nd (h : 0 < aN M) : F_Nd k (ov n xs M) = ov n xs (F_Nd k M) := by
  unfold F_Nd
  simp (disch := (first | assumption | (simp only [aN_new, aN_wR, ov_N, N_Nm100]; omega))) only [ov_N, ov_wR, ov_new, ov_Nm100]
theorem ov_Pt (h : 0 < aN M) : F_Pt k (ov n xs M) = ov n xs (F_Pt k M) := by
  unfold F_Pt
  simp (disch := (first | assumption | (simp only [aN_new, aN_wR, ov_N]; omega))) only [ov_N, ov_wR, ov_new]
theorem ov_Vd (h : 0 < aN M) : F_Vd k (ov n xs M) = ov n xs (F_Vd k M) := by
  unfold F_Vd
  simp (disch := (first | assumption | (simp only [aN_new, aN_wR, ov_N]; omega))) only [ov_N, ov_wR, ov_new]
theorem N_At : aN (F_At k M) = aN M + 7 := rfl
theorem N_Nd : aN (F_Nd k M) = aN M + 14 := rfl
theorem N_Pt : aN (F_Pt k M) = aN M + 6 := rfl
theorem N_Vd : aN (F_Vd k M) = aN M + 4 := rfl
theorem N_Tp : aN (F_Tp k M) = aN M + 7 := rfl
theorem ov_Tx (h : 0 < aN M) : F_Tx k (ov n xs M) = ov n xs (F_Tx k M) := by
  unfold F_Tx
  simp (disch := (first | assumption | (simp only [aN_new, aN_wR, ov_N, N_At, N_Nd, N_Pt, N_Vd]; omega))) only [ov_N, ov_wR, ov_new, ov_At, ov_Nd, ov_Pt, ov_Vd]
theorem N_Tx : aN (F_Tx k M) = aN M + 35 := rfl
theorem ov_Rd (h : 0 < aN M) : F_Rd k (ov n xs M) = ov n xs (F_Rd k M) := by
  unfold F_Rd
  simp (disch := (first | assumption | (simp only [aN_new, aN_wR, ov_N, N_Tp, N_Tx]; omega))) only [ov_N, ov_wR, ov_new, ov_Tp, ov_Tx]
theorem N_Rd : aN (F_Rd k M) = aN M + 44 := rfl
theorem ov_Sv (h : 0 < aN M) : F_Sv k (ov n xs M) = ov n xs (F_Sv k M) := by
  unfold F_Sv
  simp (disch := (first | assumption | (simp only [aN_new, aN_wR, ov_N, N_Vd]; omega))) only [ov_N, ov_wR, ov_new, ov_Vd]
theorem N_Sv : aN (F_Sv k M) = aN M + 10 := rfl
theorem ov_Pr (h : 0 < aN M) : F_Pr k (ov n xs M) = ov n xs (F_Pr k M) := by
  unfold F_Pr
  simp (disch := (first | assumption | (simp only [aN_new, aN_wR, ov_N]; omega))) only [ov_N, ov_wR, ov_new, ov_Sp]
theorem N_Pr : aN (F_Pr k M) = aN M + 4 := rfl
theorem ov_J (h : 0 < aN M) : F_J (ov n xs M) = ov n xs (F_J M) := by
  unfold F_J
  simp (disch := (first | assumption | (simp only [aN_new, aN_wR, ov_N, N_Rd, N_Tx, N_Sv, N_Pr]; omega))) only [ov_N, ov_wR, ov_new, ov_Rd, ov_Tx, ov_Sv, ov_Pr]
theorem N_J : aN (F_J M) = aN M + 134 := by unfold F_J; simp only [aN_new, aN_wR, N_Rd, N_Tx, N_Sv, N_Pr]
theorem ov_Mo (h : 0 < aN M) : F_Mo k (ov n xs M) = ov n xs (F_Mo k M) := by
  unfold F_Mo
  simp (disch := (first | assumption | (simp only [aN_new, aN_wR, ov_N]; omega))) only [ov_N, ov_wR, ov_new]
theorem N_Mo : aN (F_Mo k M) = aN M + 50 := rfl
end OVF
/-- ints are 0, but for the words' rows -/
def WX (k : Nat) : Prop := k = 9 ∨ k = 10 ∨ k = 134 ∨ k = 135
def ZI (M : aM) : Prop := ∀ k, ¬ WX k → M.2.2.1 k = fun _ => 0
theorem ZI.new {M : aM} {t x s : Nat} (h : ZI M) : ZI (aNew M t x s) := fun k hx => by
  show (if k = aN M then (fun _ => 0) else M.2.2.1 k) = _
  split
  · rfl
  · exact h k hx
theorem ZI.wR {M : aM} {k j x : Nat} (h : ZI M) : ZI (wR M k j x) := h
section ZF
variable {M : aM} {k : Nat}
theorem ZI.Nm28 (h : ZI M) : ZI (F_Nm28 k M) := by unfold F_Nm28; repeat (first | exact h | apply ZI.wR | apply ZI.new)
theorem ZI.Sp (h : ZI M) (h1 : WX (aN M + 1)) (h2 : WX (aN M + 2)) : ZI (F_Sp M) := fun k hx => by
  unfold F_Sp
  show (if k = aN M + 1 then _ else if k = aN M + 2 then _ else (F_Nm28 (aN M) (aNew M 15 0 2)).2.2.1 k) = _
  rw [if_neg (fun z => hx (by rw [z]; exact h1)), if_neg (fun z => hx (by rw [z]; exact h2))]
  exact ZI.Nm28 (ZI.new h) k hx
theorem ZI.Tp (h : ZI M) (h1 : WX (aN M + 5)) (h2 : WX (aN M + 6)) : ZI (F_Tp k M) := by
  unfold F_Tp
  refine ZI.wR (ZI.Sp ?_ h1 h2)
  repeat (first | exact h | apply ZI.wR | apply ZI.new)
theorem ZI.Nm8 (h : ZI M) : ZI (F_Nm8 k M) := by unfold F_Nm8; repeat (first | exact h | apply ZI.wR | apply ZI.new)
theorem ZI.Nm100 (h : ZI M) : ZI (F_Nm100 k M) := by unfold F_Nm100; repeat (first | exact h | apply ZI.wR | apply ZI.new)
theorem ZI.At (h : ZI M) : ZI (F_At k M) := by unfold F_At; repeat (first | exact h | apply ZI.wR | apply ZI.new | apply ZI.Nm8)
theorem ZI.Nd (h : ZI M) : ZI (F_Nd k M) := by unfold F_Nd; repeat (first | exact h | apply ZI.wR | apply ZI.new | apply ZI.Nm100)
theorem ZI.Pt (h : ZI M) : ZI (F_Pt k M) := by unfold F_Pt; repeat (first | exact h | apply ZI.wR | apply ZI.new)
theorem ZI.Vd (h : ZI M) : ZI (F_Vd k M) := by unfold F_Vd; repeat (first | exact h | apply ZI.wR | apply ZI.new)
theorem ZI.Tx (h : ZI M) : ZI (F_Tx k M) := by unfold F_Tx; exact ZI.wR (ZI.Vd (ZI.new (ZI.wR (ZI.Pt (ZI.new (ZI.wR (ZI.Nd (ZI.new (ZI.wR (ZI.At (ZI.new h)))))))))))
theorem ZI.Rd (h : ZI M) (h1 : WX (aN M + 6)) (h2 : WX (aN M + 7)) : ZI (F_Rd k M) := by
  unfold F_Rd
  refine ZI.wR (ZI.Tx (ZI.new (ZI.wR (ZI.Tp (ZI.new h) ?_ ?_))))
  · rw [aN_new, show aN M + 1 + 5 = aN M + 6 by omega]; exact h1
  · rw [aN_new, show aN M + 1 + 6 = aN M + 7 by omega]; exact h2
theorem ZI.Sv (h : ZI M) : ZI (F_Sv k M) := by unfold F_Sv; repeat (first | exact h | apply ZI.wR | apply ZI.new | apply ZI.Vd)
theorem ZI.Pr (h : ZI M) (h1 : WX (aN M + 2)) (h2 : WX (aN M + 3)) : ZI (F_Pr k M) := by
  unfold F_Pr
  refine ZI.wR (ZI.Sp (ZI.wR (ZI.new h)) ?_ ?_)
  · rw [aN_wR, aN_new, show aN M + 1 + 1 = aN M + 2 by omega]; exact h1
  · rw [aN_wR, aN_new, show aN M + 1 + 2 = aN M + 3 by omega]; exact h2
theorem ZI.J (h : ZI M) (hN : aN M = 2) : ZI (F_J M) := by
  unfold F_J
  have x1 : ZI (F_Rd 2 (aNew M 11 0 7)) := by
    refine ZI.Rd (ZI.new h) ?_ ?_
    · rw [aN_new, hN]; unfold WX; omega
    · rw [aN_new, hN]; unfold WX; omega
  refine ZI.wR (ZI.Pr (ZI.new (ZI.wR (ZI.Sv (ZI.new (ZI.wR (ZI.wR (ZI.Tx (ZI.new (ZI.wR (ZI.Tx (ZI.new (ZI.new (ZI.wR x1))))))))))))) ?_ ?_)
  · simp only [aN_new, aN_wR, N_Sv, N_Tx, N_Rd, hN]; unfold WX; omega
  · simp only [aN_new, aN_wR, N_Sv, N_Tx, N_Rd, hN]; unfold WX; omega
theorem ZI.Mo (h : ZI M) : ZI (F_Mo k M) := by unfold F_Mo; repeat (first | exact h | apply ZI.wR | apply ZI.new)
end ZF
def M5c : aM := aNew (F_Mo 136 (aNew (F_J (aNew (aM0 0 (fun _ => 0)) 10 0 4)) 21 0 65)) 6 1 1
theorem M5_z : ZI M5c := by
  unfold M5c
  refine ZI.new (ZI.Mo (ZI.new (ZI.J (ZI.new (fun k _ => ?_)) rfl)))
  show (if k = 0 then (fun _ => (0 : Int32)) else fun _ => 0) = _
  split <;> rfl
theorem M5_ov (n : Nat) (xs : Nat → Int32) : aNew (F_Mo 136 (aNew (F_J (aNew (aM0 n xs) 10 0 4)) 21 0 65)) 6 1 1 = ov n xs M5c := by
  have e0 : 0 < aN (aM0 0 (fun _ => 0)) := by decide
  rw [ov_M0, ov_new e0, ov_J (by rw [aN_new]; omega), ov_new (by rw [N_J, aN_new]; omega), ov_Mo (by rw [aN_new, N_J, aN_new]; omega), ov_new (by rw [N_Mo, aN_new, N_J, aN_new]; omega)]
  rfl
theorem M5_N : aN M5c = 188 := by decide +kernel
theorem M5_Z : aZ M5c ≤ 200000 := by decide +kernel
theorem M5_K : ∀ k, k < 187 → rK M5c (k + 1) = aKs.getD k (0, 0) := by decide +kernel
theorem M5_R : rR M5c 47 0 = 48 ∧ rR M5c 47 1 = 84 ∧ rR M5c 2 3 = 11 := by decide +kernel
theorem M5_w : WO M5c 8 ∧ WO M5c 133 := by unfold WO; decide +kernel
theorem M5_F : (aFs 11).length = 65 ∧ (aFs 0).length = 4 := by decide +kernel
theorem M5_W1 : (List.range 187).all (fun k => if 10 ≤ (rK M5c (k + 1)).1 ∧ (rK M5c (k + 1)).1 < 100 then (List.range (aFs ((rK M5c (k + 1)).1 - 10)).length).all (fun j => if (aFd ((rK M5c (k + 1)).1 - 10) j).1 = 2 ∨ (aFd ((rK M5c (k + 1)).1 - 10) j).1 = 3 then decide (0 < rR M5c (k + 1) j ∧ rR M5c (k + 1) j < 188 ∧ (rK M5c (rR M5c (k + 1) j)).1 = (aFd ((rK M5c (k + 1)).1 - 10) j).2.1 ∧ ((aFd ((rK M5c (k + 1)).1 - 10) j).1 = 2 → rR M5c (k + 1) j = k + 1 + (aFd ((rK M5c (k + 1)).1 - 10) j).2.2)) else true) else true) = true := by decide +kernel
theorem M5_W2 : (List.range 187).all (fun k => if 100 ≤ (rK M5c (k + 1)).1 then decide (k = 46) else true) = true := by decide +kernel
theorem M5_W3 : rK M5c 47 = (103, 2) ∧ (rK M5c 48).1 = 13 ∧ (rK M5c 84).1 = 13 := by decide +kernel
section WF
variable {n : Nat} {xs : Nat → Int32}
theorem ovK {M : aM} {k : Nat} (h : 0 < k) : rK (ov n xs M) k = rK M k := if_neg (by omega)
theorem ovI {M : aM} {k : Nat} (h : 0 < k) : rI (ov n xs M) k = rI M k := if_neg (by omega)
theorem ovR {M : aM} : rR (ov n xs M) = rR M := rfl
theorem M5_wf : aWf true (ov n xs M5c) := by
  have hN : aN (ov n xs M5c) = 188 := by rw [ov_N]; exact M5_N
  refine ⟨fun k ci h0 hk hc hci j hj hf => ?_, fun k ci h0 hk hc => ?_⟩
  · rw [hN] at hk
    rw [ovK h0] at hc
    obtain ⟨k, rfl⟩ : ∃ k', k = k' + 1 := ⟨k - 1, by omega⟩
    have h1 := List.all_eq_true.mp M5_W1 k (List.mem_range.mpr (by omega))
    try dsimp only at h1
    rw [if_pos (by omega), show (rK M5c (k + 1)).1 - 10 = ci by omega] at h1
    have h2 := List.all_eq_true.mp h1 j (List.mem_range.mpr hj)
    try dsimp only at h2
    rw [if_pos hf, decide_eq_true_eq] at h2
    obtain ⟨a1, a2, a3, a4⟩ := h2
    rw [ovR]
    exact ⟨Or.inr ⟨a1, by rw [hN]; exact a2, by rw [ovK a1]; exact a3⟩, fun _ => ⟨by omega, a4⟩⟩
  · rw [hN] at hk
    rw [ovK h0] at hc ⊢
    obtain ⟨k, rfl⟩ : ∃ k', k = k' + 1 := ⟨k - 1, by omega⟩
    have h1 := List.all_eq_true.mp M5_W2 k (List.mem_range.mpr (by omega))
    try dsimp only at h1
    rw [if_pos (by omega), decide_eq_true_eq] at h1
    subst h1
    obtain ⟨b1, b2, b3⟩ := M5_W3
    have b1 : rK M5c (46 + 1) = (103, 2) := b1
    rw [b1] at hc ⊢
    have hc : 103 = 100 + ci := hc
    have e : ci = 3 := by omega
    subst e
    refine ⟨rfl, fun j hj => ?_⟩
    have hj : j < 2 := hj
    obtain ⟨r0, r1, _⟩ := M5_R
    rw [ovR]
    have : j = 0 ∨ j = 1 := by omega
    rcases this with rfl | rfl
    · have r0 : rR M5c (46 + 1) 0 = 48 := r0
      rw [r0]
      exact ⟨Or.inr ⟨by omega, by rw [hN]; omega, by rw [ovK (by omega)]; exact b2⟩, fun _ => by omega⟩
    · have r1 : rR M5c (46 + 1) 1 = 84 := r1
      rw [r1]
      exact ⟨Or.inr ⟨by omega, by rw [hN]; omega, by rw [ovK (by omega)]; exact b3⟩, fun _ => by omega⟩
end WF
def S0 : Sx := (fun _ => 0, 0, 0, fun _ => (false, tx0, fun _ => 0, false, fun _ => 0), false, fun _ => 0, 0, fun _ => 0, 0, fun _ => 0)
section ST
variable {n : Nat} {xs : Nat → Int32}
theorem K5 : KOk (rK (ov n xs M5c)) := fun k hk => by rw [ovK (by omega)]; exact M5_K k hk
theorem I5 {k j : Nat} (h : 0 < k) (hx : ¬ WX k := by unfold WX; omega) : rI (ov n xs M5c) k j = 0 := by rw [ovI h]; exact congrFun (M5_z k hx) j
theorem w5x {k : Nat} (h : WO M5c k) : WO (ov n xs M5c) k := h.fr (ovI (by omega)) (ovI (by omega))
theorem so0 : SO S0 := ⟨fun i h => (by cases h), fun _ _ => by show 0 < 256; omega, by show 0 ≤ 8; omega, by show 0 ≤ 22000; omega, fun _ => by show 0 < 256; omega⟩
theorem ci0 : CI S0 (ov n xs M5c) := by
  obtain ⟨r0, r1, r2⟩ := M5_R
  refine ⟨⟨K5, I5 (by omega), by show 0 ≤ 6000; omega, fun j hj => I5 (by omega), fun j hj => I5 (by omega), fun j => by show 0 < 256; omega, w5x M5_w.1⟩, I5 (by omega), ?_, fun i hi => ?_, I5 (by omega), fun j hj => I5 (by omega), I5 (by omega), fun j hj => I5 (by omega), I5 (by omega), fun j hj => I5 (by omega), w5x M5_w.2⟩
  · rw [ovR, r0, r1, r2]
    unfold PM; omega
  · have : i = 0 ∨ i = 1 := by omega
    rcases this with rfl | rfl
    · rw [ovR, r0]
      exact ⟨I5 (by omega), fun c => (by cases c), fun c => (by cases c), fun c => (by cases c), fun c => (by cases c)⟩
    · rw [ovR, r1]
      exact ⟨I5 (by omega), fun c => (by cases c), fun c => (by cases c), fun c => (by cases c), fun c => (by cases c)⟩
theorem mi0 : MI S0 (ov n xs M5c) := ⟨⟨K5, I5 (by omega), by show 0 ≤ 6000; omega, fun j hj => I5 (by omega), fun j => by show 0 < 256; omega⟩, fun k j hk => Or.inl (I5 (by omega)), ⟨0, by omega, I5 (by omega)⟩, I5 (by omega), fun i hi => ⟨I5 (by omega), fun c => (by cases c), fun c => (by cases c), fun c => (by cases c), fun c => (by cases c)⟩, I5 (by omega), fun j hj => I5 (by omega), Or.inl ⟨I5 (by omega), rfl⟩, fun j hj => I5 (by omega), I5 (by omega), fun j hj => I5 (by omega)⟩
theorem iv0 : IV n xs 0 S0 (ov n xs M5c) := ⟨so0, ci0, mi0, by rw [ov_N, M5_N]; omega, by show aZ M5c ≤ _; exact M5_Z, rfl, rfl⟩
end ST
theorem lawpure : LawPure := by
  intro n xs hn
  have e4 : (aFs 0).length = 4 := M5_F.2
  have e65 : (aFs 11).length = 65 := M5_F.1
  rw [e4, e65]
  have hL := law_loop (n := n) (xs := xs) (post := fun x M' => x = 1 ∧ aN M' ≤ 601025 ∧ aZ M' ≤ 7293033) hn (fun M' _ h1 h2 _ => ⟨rfl, by omega, by omega⟩) 512 0 S0 (ov n xs M5c) (by omega) (by omega) iv0
  obtain ⟨r, Mend, u1, hp, hr⟩ := g_La_law_L23 (d := 2040) (w := 83900) (by omega) (by omega) _ 1 136 187 _ none none _ hL false
  obtain ⟨x, ex, h1, h2, h3⟩ := hp
  have eN : aN (F_J (aNew (aM0 n xs) 10 0 4)) = 136 := by rw [N_J, aN_new]; rfl
  have eN4 : aN (F_Mo 136 (aNew (F_J (aNew (aM0 n xs) 10 0 4)) 21 0 65)) = 187 := by rw [N_Mo, aN_new, eN]
  have e5 := M5_ov n xs
  have c3 := f_J (d := 2000) (w := 80000) (by omega) (by omega) n xs
  have c4 := f_Mo (d := 2000) (w := 80000) (by omega) (by omega) (k := 136) (M := aNew (F_J (aNew (aM0 n xs) 10 0 4)) 21 0 65) (by rw [aN_new, eN]; omega)
  generalize F_J (aNew (aM0 n xs) 10 0 4) = M2 at eN eN4 e5 c3 c4
  generalize F_Mo 136 (aNew M2 21 0 65) = M4 at eN4 e5 c4
  refine ⟨M2, M4, Mend, false, false, u1, c3, ?_, ?_, ?_, h2, h3⟩
  · rw [eN]; exact c4
  · rw [e5]; exact M5_wf
  · rw [eN, eN4, e5]
    rw [ex, h1] at hr
    exact hr
