/-! THE MODEL COPIES A TEXT. -/
def cpv (c : Nat) (x : Int32) : Int32 := if c = 7 then 0 else if c = 9 then x.toInt8.toInt32 else x
/-- what lies outside text i stays; of row c the first f c places are copied -/
def CPY (i : Nat) (M M1 : aM) (f : Nat → Nat) : Prop := (M1.1 = M.1) ∧ (M1.2.1 = M.2.1) ∧ (M1.2.2.2 = M.2.2.2) ∧ (∀ k j, ¬ (139 ≤ k ∧ k ≤ 163 ∧ i * szM (k - 136) ≤ j ∧ j < i * szM (k - 136) + szM (k - 136)) → rI M1 k j = rI M k j) ∧ (∀ c, 3 ≤ c → c < 28 → ∀ j, j < f c → rI M1 (136 + c) (i * szM c + j) = cpv c (rI M (136 + c) (2 * szM c + j)))
theorem CPY.n {i : Nat} {M M1 : aM} {f : Nat → Nat} (h : CPY i M M1 f) : M1.1 = M.1 := h.1
theorem CPY.k {i : Nat} {M M1 : aM} {f : Nat → Nat} (h : CPY i M M1 f) : M1.2.1 = M.2.1 := h.2.1
theorem CPY.r {i : Nat} {M M1 : aM} {f : Nat → Nat} (h : CPY i M M1 f) : M1.2.2.2 = M.2.2.2 := h.2.2.1
theorem CPY.o {i : Nat} {M M1 : aM} {f : Nat → Nat} (h : CPY i M M1 f) : ∀ k j, ¬ (139 ≤ k ∧ k ≤ 163 ∧ i * szM (k - 136) ≤ j ∧ j < i * szM (k - 136) + szM (k - 136)) → rI M1 k j = rI M k j := h.2.2.2.1
theorem CPY.d {i : Nat} {M M1 : aM} {f : Nat → Nat} (h : CPY i M M1 f) : ∀ c, 3 ≤ c → c < 28 → ∀ j, j < f c → rI M1 (136 + c) (i * szM c + j) = cpv c (rI M (136 + c) (2 * szM c + j)) := h.2.2.2.2
theorem CPY.refl {i : Nat} {M : aM} : CPY i M M (fun _ => 0) := ⟨rfl, rfl, rfl, fun _ _ _ => rfl, fun _ _ _ j hj => absurd hj (Nat.not_lt_zero _)⟩
theorem CPY.K {i : Nat} {M M1 : aM} {f : Nat → Nat} (h : CPY i M M1 f) : rK M1 = rK M := h.k
theorem CPY.less {i : Nat} {M M1 : aM} {f f' : Nat → Nat} (h : CPY i M M1 f) (hf : ∀ c, 3 ≤ c → c < 28 → f' c ≤ f c) : CPY i M M1 f' := ⟨h.n, h.k, h.r, h.o, fun c h1 h2 j hj => h.d c h1 h2 j (Nat.lt_of_lt_of_le hj (hf c h1 h2))⟩
theorem CPY.w {i : Nat} {M M1 : aM} {f : Nat → Nat} (h : CPY i M M1 f) (c j : Nat) (h1 : 3 ≤ c) (h2 : c < 28) (hj : j < szM c) (hf : f c = j) {x : Int32} (hx : x = cpv c (rI M (136 + c) (2 * szM c + j))) : CPY i M (wI M1 (136 + c) (i * szM c + j) x) (up f c (j + 1)) := by
  refine ⟨h.n, h.k, h.r, ?_, ?_⟩
  · intro k j' hn
    rw [rw_e, if_neg ?_]
    · exact h.o k j' hn
    · rintro ⟨rfl, rfl⟩
      apply hn
      rw [show 136 + c - 136 = c by omega]
      omega
  · intro c' h1' h2' j' hj'
    by_cases z : c' = c
    · subst z
      rw [up_s] at hj'
      by_cases y : j' = j
      · subst y
        rw [rw_ss]; exact hx
      · rw [rw_sn (by omega)]
        exact h.d c' h1' h2' j' (by omega)
    · rw [up_n z] at hj'
      rw [rw_n (by omega)]
      exact h.d c' h1' h2' j' hj'
theorem CPY.s {i : Nat} {M M1 : aM} {f : Nat → Nat} (h : CPY i M M1 f) (hi : i ≤ 1) (c j : Nat) (hj : j < szM c) : rI M1 (136 + c) (2 * szM c + j) = rI M (136 + c) (2 * szM c + j) := by
  refine h.o _ _ ?_
  rw [show 136 + c - 136 = c by omega]
  have : i = 0 ∨ i = 1 := by omega
  rcases this with rfl | rfl <;> omega
theorem sz400 : ∀ c, c < 23 → 16 ≤ c → szM c = 400 := by decide
theorem sz100 : ∀ c, c < 28 → (11 ≤ c ∧ c ≤ 14 ∨ 25 ≤ c) → szM c = 100 := by decide
theorem sz8 : ∀ c, c < 8 → 4 ≤ c → szM c = 8 := by decide
theorem cpv_id {c : Nat} {x : Int32} (h : c ≠ 7 ∧ c ≠ 9) : cpv c x = x := by unfold cpv; rw [if_neg h.1, if_neg h.2]
section CO
variable {M M1 : aM} {i k : Nat} {f : Nat → Nat}
theorem cpyN (h : CPY i M M1 f) (hi : i ≤ 1) (c s : Nat) (hs : szM c = s) (h1 : 3 ≤ c) (h2 : c < 28) (hc : c ≠ 7 ∧ c ≠ 9) (hk : k < s) (hf : f c = k) (s2 : Nat) (hs2 : s2 = 2 * s) : CPY i M (wI M1 (136 + c) (s * i + k) (rI M1 (136 + c) (s2 + k))) (up f c (k + 1)) := by
  subst hs hs2
  have := h.w c k h1 h2 hk hf (x := rI M1 (136 + c) (2 * szM c + k)) (by rw [cpv_id hc, h.s hi c k hk])
  rw [Nat.mul_comm (szM c) i]
  exact this
theorem m400 (t k : Nat) : (400 : Int32) * nI t + nI k = nI (400 * t + k) := by rw [show (400 : Int32) = nI 400 from rfl, pk_mul, nI_add]
theorem m8 (t k : Nat) : (8 : Int32) * nI t + nI k = nI (8 * t + k) := by rw [show (8 : Int32) = nI 8 from rfl, pk_mul, nI_add]
theorem m108 (t k : Nat) : (108 : Int32) * nI t + nI k = nI (108 * t + k) := by rw [show (108 : Int32) = nI 108 from rfl, pk_mul, nI_add]
theorem m1296 (t k : Nat) : (1296 : Int32) * nI t + nI k = nI (1296 * t + k) := by rw [show (1296 : Int32) = nI 1296 from rfl, pk_mul, nI_add]
theorem a216 (p : Nat) : (216 : Int32) + nI p = nI (216 + p) := nI_add 216 p
theorem a2592 (p : Nat) : (2592 : Int32) + nI p = nI (2592 + p) := nI_add 2592 p
theorem s_J410 {post : aM → Prop} {K : Nat → Int32 → Int32 → aM → Prop} (KK : KOk (rK M)) (hi : i ≤ 1) (h : CPY i M M1 f) (hk : k < 400) (hf : f 17 = k) (q : ∀ M2, CPY i M M2 (up f 17 (k + 1)) → w_Mo_copy_J432 post K 136 (nI i) (nI k) M2) : w_Mo_copy_J410 post K 136 (nI i) (nI k) M1 := by
  have k1 : (rK M 153).2 = 1200 := mK KK 152 1200
  unfold w_Mo_copy_J410
  simp (disch := omega) only [Nat.reduceAdd, m400, a800, nI_clamp, h.K, k1]
  exact ⟨vin (by omega), vin (by omega), q _ (cpyN h hi 17 400 rfl (by omega) (by omega) (by omega) hk hf 800 rfl)⟩
theorem s_J432 {post : aM → Prop} {K : Nat → Int32 → Int32 → aM → Prop} (KK : KOk (rK M)) (hi : i ≤ 1) (h : CPY i M M1 f) (hk : k < 400) (hf : f 18 = k) (q : ∀ M2, CPY i M M2 (up f 18 (k + 1)) → w_Mo_copy_J454 post K 136 (nI i) (nI k) M2) : w_Mo_copy_J432 post K 136 (nI i) (nI k) M1 := by
  have k1 : (rK M 154).2 = 1200 := mK KK 153 1200
  unfold w_Mo_copy_J432
  simp (disch := omega) only [Nat.reduceAdd, m400, a800, nI_clamp, h.K, k1]
  exact ⟨vin (by omega), vin (by omega), q _ (cpyN h hi 18 400 rfl (by omega) (by omega) (by omega) hk hf 800 rfl)⟩
theorem s_J454 {post : aM → Prop} {K : Nat → Int32 → Int32 → aM → Prop} (KK : KOk (rK M)) (hi : i ≤ 1) (h : CPY i M M1 f) (hk : k < 400) (hf : f 19 = k) (q : ∀ M2, CPY i M M2 (up f 19 (k + 1)) → w_Mo_copy_J476 post K 136 (nI i) (nI k) M2) : w_Mo_copy_J454 post K 136 (nI i) (nI k) M1 := by
  have k1 : (rK M 155).2 = 1200 := mK KK 154 1200
  unfold w_Mo_copy_J454
  simp (disch := omega) only [Nat.reduceAdd, m400, a800, nI_clamp, h.K, k1]
  exact ⟨vin (by omega), vin (by omega), q _ (cpyN h hi 19 400 rfl (by omega) (by omega) (by omega) hk hf 800 rfl)⟩
theorem s_J476 {post : aM → Prop} {K : Nat → Int32 → Int32 → aM → Prop} (KK : KOk (rK M)) (hi : i ≤ 1) (h : CPY i M M1 f) (hk : k < 400) (hf : f 20 = k) (q : ∀ M2, CPY i M M2 (up f 20 (k + 1)) → w_Mo_copy_J498 post K 136 (nI i) (nI k) M2) : w_Mo_copy_J476 post K 136 (nI i) (nI k) M1 := by
  have k1 : (rK M 156).2 = 1200 := mK KK 155 1200
  unfold w_Mo_copy_J476
  simp (disch := omega) only [Nat.reduceAdd, m400, a800, nI_clamp, h.K, k1]
  exact ⟨vin (by omega), vin (by omega), q _ (cpyN h hi 20 400 rfl (by omega) (by omega) (by omega) hk hf 800 rfl)⟩
theorem s_J498 {post : aM → Prop} {K : Nat → Int32 → Int32 → aM → Prop} (KK : KOk (rK M)) (hi : i ≤ 1) (h : CPY i M M1 f) (hk : k < 400) (hf : f 21 = k) (q : ∀ M2, CPY i M M2 (up f 21 (k + 1)) → w_Mo_copy_J520 post K 136 (nI i) (nI k) M2) : w_Mo_copy_J498 post K 136 (nI i) (nI k) M1 := by
  have k1 : (rK M 157).2 = 1200 := mK KK 156 1200
  unfold w_Mo_copy_J498
  simp (disch := omega) only [Nat.reduceAdd, m400, a800, nI_clamp, h.K, k1]
  exact ⟨vin (by omega), vin (by omega), q _ (cpyN h hi 21 400 rfl (by omega) (by omega) (by omega) hk hf 800 rfl)⟩
theorem s_J520 {post : aM → Prop} {K : Nat → Int32 → Int32 → aM → Prop} (KK : KOk (rK M)) (hi : i ≤ 1) (h : CPY i M M1 f) (hk : k < 400) (hf : f 22 = k) (q : ∀ M2, CPY i M M2 (up f 22 (k + 1)) → w_Mo_copy_J542 post K 136 (nI i) (nI k) M2) : w_Mo_copy_J520 post K 136 (nI i) (nI k) M1 := by
  have k1 : (rK M 158).2 = 1200 := mK KK 157 1200
  unfold w_Mo_copy_J520
  simp (disch := omega) only [Nat.reduceAdd, m400, a800, nI_clamp, h.K, k1]
  exact ⟨vin (by omega), vin (by omega), q _ (cpyN h hi 22 400 rfl (by omega) (by omega) (by omega) hk hf 800 rfl)⟩
theorem s_J247 {post : aM → Prop} {K : Nat → Int32 → Int32 → aM → Prop} (KK : KOk (rK M)) (hi : i ≤ 1) (h : CPY i M M1 f) (hk : k < 100) (hf : f 12 = k) (q : ∀ M2, CPY i M M2 (up f 12 (k + 1)) → w_Mo_copy_J268 post K 136 (nI i) (nI k) M2) : w_Mo_copy_J247 post K 136 (nI i) (nI k) M1 := by
  have k1 : (rK M 148).2 = 300 := mK KK 147 300
  unfold w_Mo_copy_J247
  simp (disch := omega) only [Nat.reduceAdd, m100, a200, nI_clamp, h.K, k1]
  exact ⟨vin (by omega), vin (by omega), q _ (cpyN h hi 12 100 rfl (by omega) (by omega) (by omega) hk hf 200 rfl)⟩
theorem s_J268 {post : aM → Prop} {K : Nat → Int32 → Int32 → aM → Prop} (KK : KOk (rK M)) (hi : i ≤ 1) (h : CPY i M M1 f) (hk : k < 100) (hf : f 13 = k) (q : ∀ M2, CPY i M M2 (up f 13 (k + 1)) → w_Mo_copy_J289 post K 136 (nI i) (nI k) M2) : w_Mo_copy_J268 post K 136 (nI i) (nI k) M1 := by
  have k1 : (rK M 149).2 = 300 := mK KK 148 300
  unfold w_Mo_copy_J268
  simp (disch := omega) only [Nat.reduceAdd, m100, a200, nI_clamp, h.K, k1]
  exact ⟨vin (by omega), vin (by omega), q _ (cpyN h hi 13 100 rfl (by omega) (by omega) (by omega) hk hf 200 rfl)⟩
theorem s_J289 {post : aM → Prop} {K : Nat → Int32 → Int32 → aM → Prop} (KK : KOk (rK M)) (hi : i ≤ 1) (h : CPY i M M1 f) (hk : k < 100) (hf : f 14 = k) (q : ∀ M2, CPY i M M2 (up f 14 (k + 1)) → w_Mo_copy_J310 post K 136 (nI i) (nI k) M2) : w_Mo_copy_J289 post K 136 (nI i) (nI k) M1 := by
  have k1 : (rK M 150).2 = 300 := mK KK 149 300
  unfold w_Mo_copy_J289
  simp (disch := omega) only [Nat.reduceAdd, m100, a200, nI_clamp, h.K, k1]
  exact ⟨vin (by omega), vin (by omega), q _ (cpyN h hi 14 100 rfl (by omega) (by omega) (by omega) hk hf 200 rfl)⟩
theorem s_J310 {post : aM → Prop} {K : Nat → Int32 → Int32 → aM → Prop} (KK : KOk (rK M)) (hi : i ≤ 1) (h : CPY i M M1 f) (hk : k < 100) (hf : f 25 = k) (q : ∀ M2, CPY i M M2 (up f 25 (k + 1)) → w_Mo_copy_J331 post K 136 (nI i) (nI k) M2) : w_Mo_copy_J310 post K 136 (nI i) (nI k) M1 := by
  have k1 : (rK M 161).2 = 300 := mK KK 160 300
  unfold w_Mo_copy_J310
  simp (disch := omega) only [Nat.reduceAdd, m100, a200, nI_clamp, h.K, k1]
  exact ⟨vin (by omega), vin (by omega), q _ (cpyN h hi 25 100 rfl (by omega) (by omega) (by omega) hk hf 200 rfl)⟩
theorem s_J331 {post : aM → Prop} {K : Nat → Int32 → Int32 → aM → Prop} (KK : KOk (rK M)) (hi : i ≤ 1) (h : CPY i M M1 f) (hk : k < 100) (hf : f 26 = k) (q : ∀ M2, CPY i M M2 (up f 26 (k + 1)) → w_Mo_copy_J352 post K 136 (nI i) (nI k) M2) : w_Mo_copy_J331 post K 136 (nI i) (nI k) M1 := by
  have k1 : (rK M 162).2 = 300 := mK KK 161 300
  unfold w_Mo_copy_J331
  simp (disch := omega) only [Nat.reduceAdd, m100, a200, nI_clamp, h.K, k1]
  exact ⟨vin (by omega), vin (by omega), q _ (cpyN h hi 26 100 rfl (by omega) (by omega) (by omega) hk hf 200 rfl)⟩
theorem s_J352 {post : aM → Prop} {K : Nat → Int32 → Int32 → aM → Prop} (KK : KOk (rK M)) (hi : i ≤ 1) (h : CPY i M M1 f) (hk : k < 100) (hf : f 27 = k) (q : ∀ M2, CPY i M M2 (up f 27 (k + 1)) → w_Mo_copy_J373 post K 136 (nI i) (nI k) M2) : w_Mo_copy_J352 post K 136 (nI i) (nI k) M1 := by
  have k1 : (rK M 163).2 = 300 := mK KK 162 300
  unfold w_Mo_copy_J352
  simp (disch := omega) only [Nat.reduceAdd, m100, a200, nI_clamp, h.K, k1]
  exact ⟨vin (by omega), vin (by omega), q _ (cpyN h hi 27 100 rfl (by omega) (by omega) (by omega) hk hf 200 rfl)⟩
theorem s_J88 {post : aM → Prop} {K : Nat → Int32 → Int32 → aM → Prop} (KK : KOk (rK M)) (hi : i ≤ 1) (hQ : BQ M) (h : CPY i M M1 f) (hk : k < 8) (hf : f 5 = k) (q : ∀ M2, CPY i M M2 (up f 5 (k + 1)) → w_Mo_copy_J108 post K 136 (nI i) (nI k) M2) : w_Mo_copy_J88 post K 136 (nI i) (nI k) M1 := by
  have k1 : (rK M 141).2 = 24 := mK KK 140 24
  unfold w_Mo_copy_J88
  have hb : rI M1 141 (16 + k) = 0 ∨ rI M1 141 (16 + k) = 1 := by
    have e := h.s hi 5 k hk
    have e2 : rI M1 141 (16 + k) = rI M 141 (16 + k) := e
    rw [e2]; exact hQ _ _ (by omega)
  simp (disch := omega) only [Nat.reduceAdd, m8, a16, nI_clamp, h.K, k1]
  exact ⟨vin (by omega), ⟨vin (by omega), hb⟩, q _ (cpyN h hi 5 8 rfl (by omega) (by omega) (by omega) hk hf 16 rfl)⟩
theorem s_J108 {post : aM → Prop} {K : Nat → Int32 → Int32 → aM → Prop} (KK : KOk (rK M)) (hi : i ≤ 1) (hQ : BQ M) (h : CPY i M M1 f) (hk : k < 8) (hf : f 6 = k) (q : ∀ M2, CPY i M M2 (up f 6 (k + 1)) → w_Mo_copy_J128 post K 136 (nI i) (nI k) M2) : w_Mo_copy_J108 post K 136 (nI i) (nI k) M1 := by
  have k1 : (rK M 142).2 = 24 := mK KK 141 24
  unfold w_Mo_copy_J108
  have hb : rI M1 142 (16 + k) = 0 ∨ rI M1 142 (16 + k) = 1 := by
    have e := h.s hi 6 k hk
    have e2 : rI M1 142 (16 + k) = rI M 142 (16 + k) := e
    rw [e2]; exact hQ _ _ (by omega)
  simp (disch := omega) only [Nat.reduceAdd, m8, a16, nI_clamp, h.K, k1]
  exact ⟨vin (by omega), ⟨vin (by omega), hb⟩, q _ (cpyN h hi 6 8 rfl (by omega) (by omega) (by omega) hk hf 16 rfl)⟩
theorem s_J128 {post : aM → Prop} {K : Nat → Int32 → Int32 → aM → Prop} (KK : KOk (rK M)) (hi : i ≤ 1) (h : CPY i M M1 f) (hk : k < 8) (hf : f 7 = k) (q : ∀ M2, CPY i M M2 (up f 7 (k + 1)) → w_Mo_copy_J140 post K 136 (nI i) (nI k) M2) : w_Mo_copy_J128 post K 136 (nI i) (nI k) M1 := by
  have k1 : (rK M 143).2 = 24 := mK KK 142 24
  unfold w_Mo_copy_J128
  simp (disch := omega) only [Nat.reduceAdd, m8, a16, nI_clamp, h.K, k1]
  refine ⟨vin (by omega), q _ ?_⟩
  have := h.w 7 k (by omega) (by omega) hk hf (x := 0) rfl
  rw [Nat.mul_comm] at this
  exact this
theorem l_L381 {post : aM → Prop} (KK : KOk (rK M)) (hi : i ≤ 1) (q : ∀ M2, CPY i M M2 (fun c => if c = 16 ∨ c = 17 ∨ c = 18 ∨ c = 19 ∨ c = 20 ∨ c = 21 ∨ c = 22 then 400 else f c) → post M2) : ∀ (n k : Nat) (M1 : aM), k + n = 400 → CPY i M M1 (fun c => if c = 16 ∨ c = 17 ∨ c = 18 ∨ c = 19 ∨ c = 20 ∨ c = 21 ∨ c = 22 then k else f c) → w_Mo_copy_L381 post (n + 1) 136 (nI i) (nI k) M1 := by
  have k1 : (rK M 152).2 = 1200 := mK KK 151 1200
  intro n
  induction n with
  | zero =>
    intro k M1 hk h
    have : k = 400 := by omega
    subst this
    unfold w_Mo_copy_L381
    exact br_t (by decide) (q M1 h)
  | succ n ih =>
    intro k M1 hk h
    unfold w_Mo_copy_L381
    refine pk_le 400 k (fun z => by omega) (fun _ => ?_)
    simp (disch := omega) only [Nat.reduceAdd, m400, a800, nI_clamp, h.K, k1]
    refine ⟨vin (by omega), vin (by omega), ?_⟩
    have h0 := cpyN h hi 16 400 rfl (by omega) (by omega) (by omega) (show k < 400 by omega) rfl 800 rfl
    refine s_J410 KK hi h0 (by omega) rfl (fun M2 h1 => ?_)
    refine s_J432 KK hi h1 (by omega) rfl (fun M3 h2 => ?_)
    refine s_J454 KK hi h2 (by omega) rfl (fun M4 h3 => ?_)
    refine s_J476 KK hi h3 (by omega) rfl (fun M5 h4 => ?_)
    refine s_J498 KK hi h4 (by omega) rfl (fun M6 h5 => ?_)
    refine s_J520 KK hi h5 (by omega) rfl (fun M7 h6 => ?_)
    unfold w_Mo_copy_J542
    rw [show nI k + (1 : Int32) = nI (k + 1) from nI_add k 1]
    refine ih (k + 1) _ (by omega) (h6.less (fun c _ _ => ?_))
    unfold up
    try dsimp only
    repeat (first | omega | split)

theorem l_L220 {post : aM → Prop} (KK : KOk (rK M)) (hi : i ≤ 1) (q : ∀ M2, CPY i M M2 (fun c => if c = 11 ∨ c = 12 ∨ c = 13 ∨ c = 14 ∨ c = 25 ∨ c = 26 ∨ c = 27 then 100 else f c) → ∃ n9, w_Mo_copy_L381 post n9 136 (nI i) 0 M2) : ∀ (n k : Nat) (M1 : aM), k + n = 100 → CPY i M M1 (fun c => if c = 11 ∨ c = 12 ∨ c = 13 ∨ c = 14 ∨ c = 25 ∨ c = 26 ∨ c = 27 then k else f c) → w_Mo_copy_L220 post (n + 1) 136 (nI i) (nI k) M1 := by
  have k1 : (rK M 147).2 = 300 := mK KK 146 300
  intro n
  induction n with
  | zero =>
    intro k M1 hk h
    have : k = 100 := by omega
    subst this
    unfold w_Mo_copy_L220
    exact br_t (by decide) (q M1 h)
  | succ n ih =>
    intro k M1 hk h
    unfold w_Mo_copy_L220
    refine pk_le 100 k (fun z => by omega) (fun _ => ?_)
    simp (disch := omega) only [Nat.reduceAdd, m100, a200, nI_clamp, h.K, k1]
    refine ⟨vin (by omega), vin (by omega), ?_⟩
    have h0 := cpyN h hi 11 100 rfl (by omega) (by omega) (by omega) (show k < 100 by omega) rfl 200 rfl
    refine s_J247 KK hi h0 (by omega) rfl (fun M2 h1 => ?_)
    refine s_J268 KK hi h1 (by omega) rfl (fun M3 h2 => ?_)
    refine s_J289 KK hi h2 (by omega) rfl (fun M4 h3 => ?_)
    refine s_J310 KK hi h3 (by omega) rfl (fun M5 h4 => ?_)
    refine s_J331 KK hi h4 (by omega) rfl (fun M6 h5 => ?_)
    refine s_J352 KK hi h5 (by omega) rfl (fun M7 h6 => ?_)
    unfold w_Mo_copy_J373
    rw [show nI k + (1 : Int32) = nI (k + 1) from nI_add k 1]
    refine ih (k + 1) _ (by omega) (h6.less (fun c _ _ => ?_))
    unfold up
    try dsimp only
    repeat (first | omega | split)

theorem l_L62 {post : aM → Prop} (KK : KOk (rK M)) (hi : i ≤ 1) (hQ : BQ M) (q : ∀ M2, CPY i M M2 (fun c => if c = 4 ∨ c = 5 ∨ c = 6 ∨ c = 7 then 8 else f c) → ∃ n9, w_Mo_copy_L148 post n9 136 (nI i) 0 M2) : ∀ (n k : Nat) (M1 : aM), k + n = 8 → CPY i M M1 (fun c => if c = 4 ∨ c = 5 ∨ c = 6 ∨ c = 7 then k else f c) → w_Mo_copy_L62 post (n + 1) 136 (nI i) (nI k) M1 := by
  have k1 : (rK M 140).2 = 24 := mK KK 139 24
  intro n
  induction n with
  | zero =>
    intro k M1 hk h
    have : k = 8 := by omega
    subst this
    unfold w_Mo_copy_L62
    exact br_t (by decide) (q M1 h)
  | succ n ih =>
    intro k M1 hk h
    unfold w_Mo_copy_L62
    refine pk_le 8 k (fun z => by omega) (fun _ => ?_)
    simp (disch := omega) only [Nat.reduceAdd, m8, a16, nI_clamp, h.K, k1]
    refine ⟨vin (by omega), vin (by omega), ?_⟩
    have h0 := cpyN h hi 4 8 rfl (by omega) (by omega) (by omega) (show k < 8 by omega) rfl 16 rfl
    refine s_J88 KK hi hQ h0 (by omega) rfl (fun M2 h1 => ?_)
    refine s_J108 KK hi hQ h1 (by omega) rfl (fun M3 h2 => ?_)
    refine s_J128 KK hi h2 (by omega) rfl (fun M4 h3 => ?_)
    unfold w_Mo_copy_J140
    rw [show nI k + (1 : Int32) = nI (k + 1) from nI_add k 1]
    refine ih (k + 1) _ (by omega) (h3.less (fun c _ _ => ?_))
    unfold up
    try dsimp only
    repeat (first | omega | split)

theorem l_L148 {post : aM → Prop} (KK : KOk (rK M)) (hi : i ≤ 1) (q : ∀ M2, CPY i M M2 (fun c => if c = 8 then 108 else f c) → ∃ n9, w_Mo_copy_L183 post n9 136 (nI i) 0 M2) : ∀ (n k : Nat) (M1 : aM), k + n = 108 → CPY i M M1 (fun c => if c = 8 then k else f c) → w_Mo_copy_L148 post (n + 1) 136 (nI i) (nI k) M1 := by
  have k1 : (rK M 144).2 = 324 := mK KK 143 324
  intro n
  induction n with
  | zero =>
    intro k M1 hk h
    have : k = 108 := by omega
    subst this
    unfold w_Mo_copy_L148
    exact br_t (by decide) (q M1 h)
  | succ n ih =>
    intro k M1 hk h
    unfold w_Mo_copy_L148
    refine pk_le 108 k (fun z => by omega) (fun _ => ?_)
    simp (disch := omega) only [Nat.reduceAdd, m108, a216, nI_clamp, h.K, k1]
    rw [show nI k + (1 : Int32) = nI (k + 1) from nI_add k 1]
    have h0 := cpyN h hi 8 108 rfl (by omega) (by omega) (by omega) (show k < 108 by omega) rfl 216 rfl
    refine ⟨vin (by omega), vin (by omega), ih (k + 1) _ (by omega) (h0.less (fun c _ _ => ?_))⟩
    unfold up
    try dsimp only
    repeat (first | omega | split)
theorem l_L183 {post : aM → Prop} (KK : KOk (rK M)) (hi : i ≤ 1) (q : ∀ M2, CPY i M M2 (fun c => if c = 9 then 1296 else f c) → ∃ n9, w_Mo_copy_L220 post n9 136 (nI i) 0 M2) : ∀ (n k : Nat) (M1 : aM), k + n = 1296 → CPY i M M1 (fun c => if c = 9 then k else f c) → w_Mo_copy_L183 post (n + 1) 136 (nI i) (nI k) M1 := by
  have k1 : (rK M 145).2 = 3888 := mK KK 144 3888
  intro n
  induction n with
  | zero =>
    intro k M1 hk h
    have : k = 1296 := by omega
    subst this
    unfold w_Mo_copy_L183
    exact br_t (by decide) (q M1 h)
  | succ n ih =>
    intro k M1 hk h
    unfold w_Mo_copy_L183
    refine pk_le 1296 k (fun z => by omega) (fun _ => ?_)
    simp (disch := omega) only [Nat.reduceAdd, m1296, a2592, nI_clamp, h.K, k1]
    rw [show nI k + (1 : Int32) = nI (k + 1) from nI_add k 1]
    have h0 := h.w 9 k (by omega) (by omega) (show k < 1296 by omega) rfl (x := (rI M1 145 (2592 + k)).toInt8.toInt32) (by
      have e := h.s hi 9 k (show k < 1296 by omega)
      have e2 : rI M1 145 (2592 + k) = rI M 145 (2592 + k) := e
      rw [e2]; rfl)
    rw [Nat.mul_comm] at h0
    refine ⟨vin (by omega), vin (by omega), ih (k + 1) _ (by omega) (h0.less (fun c _ _ => ?_))⟩
    unfold up
    try dsimp only
    repeat (first | omega | split)
theorem cpy1 (h : CPY i M M1 f) (hi : i ≤ 1) (c : Nat) (hs : szM c = 1) (h1 : 3 ≤ c) (h2 : c < 28) (hc : c ≠ 7 ∧ c ≠ 9) (hf : f c = 0) : CPY i M (wI M1 (136 + c) i (rI M1 (136 + c) 2)) (up f c 1) := by
  have := cpyN h hi c 1 hs h1 h2 hc (show 0 < 1 by omega) hf 2 rfl
  rw [show 1 * i + 0 = i by omega, show 2 + 0 = 2 from rfl] at this
  exact this
theorem m_copy {post : aM → Prop} (KK : KOk (rK M)) (hi : i ≤ 1) (hQ : BQ M) (q : ∀ M2, CPY i M M2 szM → post M2) : w_Mo_copy post 136 (nI i) M := by
  have k3 : (rK M 139).2 = 3 := mK KK 138 3
  have k10 : (rK M 146).2 = 3 := mK KK 145 3
  have k15 : (rK M 151).2 = 3 := mK KK 150 3
  have k23 : (rK M 159).2 = 3 := mK KK 158 3
  have k24 : (rK M 160).2 = 3 := mK KK 159 3
  have i2 : vp_in (2 : Int32) 3 := vin (n := 2) (by omega)
  have iv : vp_in (nI i) 3 := vin (by omega)
  have e2 : ((2 : Int32)).toNatClampNeg = 2 := by decide
  unfold w_Mo_copy w_Mo_copy_J12 w_Mo_copy_J24 w_Mo_copy_J36 w_Mo_copy_J48 w_Mo_copy_J60
  rw [e2, nI_clamp (n := i) (by omega)]
  have h1 := cpy1 (CPY.refl (i := i) (M := M)) hi 3 rfl (by omega) (by omega) (by omega) rfl
  have h2 := cpy1 h1 hi 10 rfl (by omega) (by omega) (by omega) rfl
  have h3 := cpy1 h2 hi 15 rfl (by omega) (by omega) (by omega) rfl
  have h4 := cpy1 h3 hi 23 rfl (by omega) (by omega) (by omega) rfl
  have h5 := cpy1 h4 hi 24 rfl (by omega) (by omega) (by omega) rfl
  refine ⟨by rw [k3]; exact i2, by rw [k3]; exact iv, ?_⟩
  refine ⟨by rw [kw_I, k10]; exact i2, by rw [kw_I, k10]; exact iv, ?_⟩
  refine ⟨by rw [kw_I, kw_I, k15]; exact i2, by rw [kw_I, kw_I, k15]; exact iv, ?_⟩
  refine ⟨by rw [kw_I, kw_I, kw_I, k23]; exact i2, by rw [kw_I, kw_I, kw_I, k23]; exact iv, ?_⟩
  refine ⟨by rw [kw_I, kw_I, kw_I, kw_I, k24]; exact i2, by rw [kw_I, kw_I, kw_I, kw_I, k24]; exact iv, 9, ?_⟩
  have g1 : ∀ {M5 : aM} {f : Nat → Nat}, CPY i M M5 f → (∀ c, 3 ≤ c → c < 28 → szM c = 1 → 1 ≤ f c) → w_Mo_copy_L62 post 9 136 (nI i) 0 M5 := by
    intro M5 f h hf
    refine l_L62 (f := f) KK hi hQ (fun M6 h6 => ?_) 8 0 M5 rfl (h.less (fun c _ _ => by (try dsimp only); split <;> first | exact Nat.zero_le _ | exact Nat.le_refl _))
    refine ⟨109, l_L148 (f := fun c => if c = 4 ∨ c = 5 ∨ c = 6 ∨ c = 7 then 8 else f c) KK hi (fun M7 h7 => ?_) 108 0 M6 rfl (h6.less (fun c _ _ => by (try dsimp only); split <;> first | exact Nat.zero_le _ | exact Nat.le_refl _))⟩
    refine ⟨1297, l_L183 (f := fun c => if c = 8 then 108 else if c = 4 ∨ c = 5 ∨ c = 6 ∨ c = 7 then 8 else f c) KK hi (fun M8 h8 => ?_) 1296 0 M7 rfl (h7.less (fun c _ _ => by (try dsimp only); split <;> first | exact Nat.zero_le _ | exact Nat.le_refl _))⟩
    refine ⟨101, l_L220 (f := fun c => if c = 9 then 1296 else if c = 8 then 108 else if c = 4 ∨ c = 5 ∨ c = 6 ∨ c = 7 then 8 else f c) KK hi (fun M9 h9 => ?_) 100 0 M8 rfl (h8.less (fun c _ _ => by (try dsimp only); split <;> first | exact Nat.zero_le _ | exact Nat.le_refl _))⟩
    refine ⟨401, l_L381 (f := fun c => if c = 11 ∨ c = 12 ∨ c = 13 ∨ c = 14 ∨ c = 25 ∨ c = 26 ∨ c = 27 then 100 else if c = 9 then 1296 else if c = 8 then 108 else if c = 4 ∨ c = 5 ∨ c = 6 ∨ c = 7 then 8 else f c) KK hi (fun Ma ha => q Ma (ha.less (fun c h3 h28 => ?_))) 400 0 M9 rfl (h9.less (fun c _ _ => by (try dsimp only); split <;> first | exact Nat.zero_le _ | exact Nat.le_refl _))⟩
    have hz := hf c h3 h28
    try dsimp only
    have hall : ∀ c, c < 28 → 3 ≤ c → szM c ≤ (if c = 16 ∨ c = 17 ∨ c = 18 ∨ c = 19 ∨ c = 20 ∨ c = 21 ∨ c = 22 then 400 else if c = 11 ∨ c = 12 ∨ c = 13 ∨ c = 14 ∨ c = 25 ∨ c = 26 ∨ c = 27 then 100 else if c = 9 then 1296 else if c = 8 then 108 else if c = 4 ∨ c = 5 ∨ c = 6 ∨ c = 7 then 8 else 1) := by decide
    have hone : ∀ c, c < 28 → 3 ≤ c → ¬ (c = 16 ∨ c = 17 ∨ c = 18 ∨ c = 19 ∨ c = 20 ∨ c = 21 ∨ c = 22) → ¬ (c = 11 ∨ c = 12 ∨ c = 13 ∨ c = 14 ∨ c = 25 ∨ c = 26 ∨ c = 27) → c ≠ 9 → c ≠ 8 → ¬ (c = 4 ∨ c = 5 ∨ c = 6 ∨ c = 7) → szM c = 1 := by
      intro c h1 h2 h3 h4 h5 h6 h7
      have : c = 3 ∨ c = 10 ∨ c = 15 ∨ c = 23 ∨ c = 24 := by omega
      rcases this with rfl | rfl | rfl | rfl | rfl <;> rfl
    have := hall c h28 h3
    have ho := hone c h28 h3
    revert this ho
    split
    · intro this _; exact this
    · split
      · intro this _; exact this
      · split
        · intro this _; exact this
        · split
          · intro this _; exact this
          · split
            · intro this _; exact this
            · intro _ ho
              have hs := ho (by assumption) (by assumption) (by assumption) (by assumption) (by assumption)
              rw [hs]; exact hz hs
  refine g1 h5 (fun c h3 h28 hs => ?_)
  have : ∀ c, c < 28 → 3 ≤ c → szM c = 1 → c = 3 ∨ c = 10 ∨ c = 15 ∨ c = 23 ∨ c = 24 := by decide
  rcases this c h28 h3 hs with rfl | rfl | rfl | rfl | rfl <;> exact Nat.le_refl _
end CO
