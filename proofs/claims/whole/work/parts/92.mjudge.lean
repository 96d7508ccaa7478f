/-! THE MODEL JUDGES: decisions of all nodes. -/
theorem RepM_congr {R R' : Nat → Nat → Int32} {T : Txt} {g : Nat → Nat} (h : RepM R T g) (e : ∀ c, 3 ≤ c → c < 28 → R' c = R c) : RepM R' T g := by
  have e3 := e 3 (by omega) (by omega)
  have e4 := e 4 (by omega) (by omega)
  have e5 := e 5 (by omega) (by omega)
  have e6 := e 6 (by omega) (by omega)
  have e7 := e 7 (by omega) (by omega)
  have e8 := e 8 (by omega) (by omega)
  have e9 := e 9 (by omega) (by omega)
  have e10 := e 10 (by omega) (by omega)
  have e11 := e 11 (by omega) (by omega)
  have e12 := e 12 (by omega) (by omega)
  have e13 := e 13 (by omega) (by omega)
  have e14 := e 14 (by omega) (by omega)
  have e15 := e 15 (by omega) (by omega)
  have e16 := e 16 (by omega) (by omega)
  have e17 := e 17 (by omega) (by omega)
  have e18 := e 18 (by omega) (by omega)
  have e19 := e 19 (by omega) (by omega)
  have e20 := e 20 (by omega) (by omega)
  have e21 := e 21 (by omega) (by omega)
  have e22 := e 22 (by omega) (by omega)
  have e23 := e 23 (by omega) (by omega)
  have e24 := e 24 (by omega) (by omega)
  have e25 := e 25 (by omega) (by omega)
  have e26 := e 26 (by omega) (by omega)
  have e27 := e 27 (by omega) (by omega)
  simp only [RepM, e3, e4, e5, e6, e7, e8, e9, e10, e11, e12, e13, e14, e15, e16, e17, e18, e19, e20, e21, e22, e23, e24, e25, e26, e27]
  exact h
/-- children from k on -/
def kf (fa : Nat → Option Nat) (a : Nat) : Nat → Nat → List Nat
  | 0, _ => []
  | n + 1, k => if fa k = some a then k :: kf fa a n (k + 1) else kf fa a n (k + 1)
theorem kf_eq {fa : Nat → Option Nat} {a : Nat} : ∀ n k, (List.range' k n).filter (fun i => fa i == some a) = kf fa a n k := by
  intro n
  induction n with
  | zero => intro k; rfl
  | succ n ih =>
    intro k
    rw [List.range'_succ, List.filter_cons, ih, kf]
    by_cases h : fa k = some a
    · simp [h]
    · simp [h]
theorem kf_kids {fa : Nat → Option Nat} {nn a : Nat} (hf : ∀ i, i < nn → ∀ c, fa i = some c → c < i) (ha : a < nn) : kids fa nn a = kf fa a (nn - (a + 1)) (a + 1) := by
  have e : List.range nn = List.range' 0 (a + 1) ++ List.range' (a + 1) (nn - (a + 1)) := by
    rw [List.range_eq_range']
    have := List.range'_append_1 (s := 0) (m := a + 1) (n := nn - (a + 1))
    rw [Nat.zero_add] at this
    rw [this]
    congr 1
    omega
  unfold kids
  rw [e, List.filter_append]
  have : (List.range' 0 (a + 1)).filter (fun i => fa i == some a) = [] := by
    rw [List.filter_eq_nil_iff]
    intro i hi
    rw [List.mem_range'_1] at hi
    intro z
    have z2 : fa i = some a := by simpa using z
    have := hf i (by omega) a z2
    omega
  rw [this, kf_eq]
  rfl
theorem kf_mem {fa : Nat → Option Nat} {a : Nat} : ∀ n k i, i ∈ kf fa a n k → k ≤ i ∧ i < k + n ∧ fa i = some a := by
  intro n
  induction n with
  | zero => intro k i h; cases h
  | succ n ih =>
    intro k i h
    rw [kf] at h
    by_cases z : fa k = some a
    · rw [if_pos z] at h
      rcases List.mem_cons.1 h with h | h
      · subst h; exact ⟨Nat.le_refl _, by omega, z⟩
      · have := ih _ _ h
        exact ⟨by omega, by omega, this.2.2⟩
    · rw [if_neg z] at h
      have := ih _ _ h
      exact ⟨by omega, by omega, this.2.2⟩
theorem kf_len {fa : Nat → Option Nat} {a : Nat} : ∀ n k, (kf fa a n k).length ≤ n := by
  intro n
  induction n with
  | zero => intro k; exact Nat.le_refl _
  | succ n ih =>
    intro k
    rw [kf]
    have := ih (k + 1)
    split
    · show (kf fa a n (k + 1)).length + 1 ≤ n + 1
      omega
    · omega
theorem pk_on {x y : Int32} {A B : Prop} (o : Option Nat) (a : Nat) (f : o ≠ some a → A) (g : o = some a → B) (ho : ∀ k, o = some k → k < 2 ^ 31) (hx : x = oI o := by rfl) (hy : y = nI a := by rfl) (ha : a < 2 ^ 31 := by omega) : (¬ x = y → A) ∧ (¬ ¬ x = y → B) := by
  subst hx hy
  cases o with
  | none => exact nb_f (fun z => nI_m1 ha z.symm) (f (by simp))
  | some k =>
    refine pk_ne k a (fun z => f (fun w => z (by cases w; rfl))) (fun z => g (by rw [z])) rfl rfl (ho k rfl) ha
/-- what the model's judge leaves as it was -/
def FJ (t : Nat) (M0 M : aM) : Prop := (M.1 = M0.1) ∧ (M.2.1 = M0.2.1) ∧ (M.2.2.2 = M0.2.2.2) ∧ (∀ k, k ≠ 165 → k ≠ 166 → k ≠ 172 → k ≠ 173 → rI M k = rI M0 k) ∧ (∀ j, (j < 100 * t ∨ 100 * t + 100 ≤ j) → rI M 165 j = rI M0 165 j ∧ rI M 166 j = rI M0 166 j)
theorem FJ.n {t : Nat} {M0 M : aM} (h : FJ t M0 M) : M.1 = M0.1 := h.1
theorem FJ.k {t : Nat} {M0 M : aM} (h : FJ t M0 M) : M.2.1 = M0.2.1 := h.2.1
theorem FJ.r {t : Nat} {M0 M : aM} (h : FJ t M0 M) : M.2.2.2 = M0.2.2.2 := h.2.2.1
theorem FJ.i {t : Nat} {M0 M : aM} (h : FJ t M0 M) : ∀ k, k ≠ 165 → k ≠ 166 → k ≠ 172 → k ≠ 173 → rI M k = rI M0 k := h.2.2.2.1
theorem FJ.d {t : Nat} {M0 M : aM} (h : FJ t M0 M) : ∀ j, (j < 100 * t ∨ 100 * t + 100 ≤ j) → rI M 165 j = rI M0 165 j ∧ rI M 166 j = rI M0 166 j := h.2.2.2.2
theorem FJ.refl {t : Nat} {M : aM} : FJ t M M := ⟨rfl, rfl, rfl, fun _ _ _ _ _ => rfl, fun _ _ => ⟨rfl, rfl⟩⟩
theorem FJ.K {t : Nat} {M0 M : aM} (h : FJ t M0 M) : rK M = rK M0 := h.k
theorem FJ.trans {t : Nat} {M0 M M' : aM} (h : FJ t M0 M) (g : FJ t M M') : FJ t M0 M' := ⟨g.n.trans h.n, g.k.trans h.k, g.r.trans h.r, fun k h1 h2 h3 h4 => (g.i k h1 h2 h3 h4).trans (h.i k h1 h2 h3 h4), fun j hj => ⟨(g.d j hj).1.trans (h.d j hj).1, (g.d j hj).2.trans (h.d j hj).2⟩⟩
theorem FJ.w {t : Nat} {M : aM} {c j : Nat} {x : Int32} (hc : c = 165 ∨ c = 166) (hj : 100 * t ≤ j ∧ j < 100 * t + 100) : FJ t M (wI M c j x) := ⟨rfl, rfl, rfl, fun k h1 h2 h3 h4 => rw_n (by rcases hc with rfl | rfl <;> assumption), fun j' hj' => by
  rcases hc with rfl | rfl
  · rw [rw_sn (by omega), rw_n (by omega)]; exact ⟨rfl, rfl⟩
  · rw [rw_n (by omega), rw_sn (by omega)]; exact ⟨rfl, rfl⟩⟩
theorem FJ.w7 {t : Nat} {M : aM} {j : Nat} {x : Int32} : FJ t M (wI M 173 j x) := ⟨rfl, rfl, rfl, fun k h1 h2 h3 h4 => rw_n h4, fun j' hj' => by rw [rw_n (by omega), rw_n (by omega)]; exact ⟨rfl, rfl⟩⟩
theorem FJ_Fw {t lo hi : Nat} {M M' : aM} (h : Fw M M' lo hi) : FJ t M M' := ⟨h.1, h.2.1, h.2.2.1, fun k _ _ h3 _ => h.2.2.2.1 k h3, fun j _ => by rw [h.2.2.2.1 165 (by omega), h.2.2.2.1 166 (by omega)]; exact ⟨rfl, rfl⟩⟩
theorem FJ.M {t t' : Nat} {M0 M : aM} {T : Txt} {g : Nat → Nat} (h : FJ t M0 M) (R : RepM (mR M0 t') T g) : RepM (mR M t') T g := RepM_congr R (fun c h1 h2 => by
  funext j
  unfold mR
  rw [if_neg (by omega), if_neg (by omega), h.i _ (by omega) (by omega) (by omega) (by omega)])
/-- only the counts change -/
def FO (M0 M : aM) : Prop := M.1 = M0.1 ∧ M.2.1 = M0.2.1 ∧ M.2.2.2 = M0.2.2.2 ∧ ∀ k, k ≠ 173 → rI M k = rI M0 k
theorem FO.refl {M : aM} : FO M M := ⟨rfl, rfl, rfl, fun _ _ => rfl⟩
theorem FO.w {M0 M : aM} {j : Nat} {x : Int32} (h : FO M0 M) : FO M0 (wI M 173 j x) := ⟨h.1, h.2.1, h.2.2.1, fun k hk => (rw_n hk).trans (h.2.2.2 k hk)⟩
theorem FO.J {M0 M : aM} {t : Nat} (h : FO M0 M) : FJ t M0 M := ⟨h.1, h.2.1, h.2.2.1, fun k _ _ _ h4 => h.2.2.2 k h4, fun j _ => by rw [h.2.2.2 165 (by omega), h.2.2.2 166 (by omega)]; exact ⟨rfl, rfl⟩⟩
/-- the model's decisions stand from node lo on -/
def VM (M : aM) (t : Nat) (T : Txt) (g : Nat → Nat) (lo : Nat) : Prop := ∀ i, lo ≤ i → i < T.nn → rI M 165 (100 * t + i) = nI (dec T g i) ∧ rI M 166 (100 * t + i) = nI (tru T g i)
section MJ
variable {M : aM} {t : Nat} {T : Txt} {g g0 : Nat → Nat}
theorem m100 (t k : Nat) : (100 : Int32) * nI t + nI k = nI (100 * t + k) := by rw [show (100 : Int32) = nI 100 from rfl, pk_mul, nI_add]
theorem m_chosen {post : Int32 → Prop} {a : Nat} (R : RepM (mR M t) T g0) (K : KOk (rK M)) (ht : t ≤ 1) (N : NI T) (W : WI T T.nn) (ha : a < T.nn) (hs : T.srt a = 2) (hD : VM M t T g (a + 1)) (q : post (oI (if (T.way a).getD 0 = 3 then oneC (tru T g) (kids T.fa T.nn a) else fstC (dec T g) (kids T.fa T.nn a)))) : w_Mo_chosen post 136 (nI t) (nI a) M := by
  have lnn := R.lnn
  have k10 : (rK M 146).2 = 3 := mK K 145 3
  have k12 : (rK M 148).2 = 300 := mK K 147 300
  have k13 : (rK M 149).2 = 300 := mK K 148 300
  have k29 : (rK M 165).2 = 300 := mK K 164 300
  have k30 : (rK M 166).2 = 300 := mK K 165 300
  obtain ⟨w, hw, ew⟩ := W.w a ha hs
  have e12 : rI M 148 (100 * t + a) = nI w := by
    have := R.way a ha
    rw [ew] at this
    rw [Nat.mul_comm]
    exact this
  have e10 : rI M 146 t = nI T.nn := by
    have := R.nn
    unfold mR at this
    rw [if_neg (by omega)] at this
    rw [← this]
    congr 1
    show t = t * 1 + 0
    omega
  have e13 : ∀ i, i < T.nn → rI M 149 (100 * t + i) = oI (T.fa i) := by
    intro i hi
    rw [Nat.mul_comm]
    exact R.fa i hi
  have key : ∀ (b : Bool) (n k : Nat), k + n = T.nn → a < k → post (oI (if b = true then oneC (tru T g) (kf T.fa a n k) else fstC (dec T g) (kf T.fa a n k))) → w_Mo_chosen_L26 M post (n + 1) 136 (nI t) (nI a) (bI b) (nI k) := by
    intro b n
    induction n with
    | zero =>
      intro k hk ha' qq
      unfold w_Mo_chosen_L26
      simp (disch := omega) only [Nat.reduceAdd, nI_clamp, e10, k10]
      refine ⟨vin (by omega), pk_le T.nn k (fun _ => ?_) (fun z => by omega)⟩
      have : (if b = true then oneC (tru T g) (kf T.fa a 0 k) else fstC (dec T g) (kf T.fa a 0 k)) = none := by
        cases b <;> rfl
      rw [this] at qq
      exact qq
    | succ n ih =>
      intro k hk ha' qq
      have hkn : k < T.nn := by omega
      obtain ⟨d1, d2⟩ := hD k (by omega) hkn
      have hdl := dec_le (g := g) N hkn
      have htl := tru_le T g k
      unfold w_Mo_chosen_L26
      simp (disch := omega) only [Nat.reduceAdd, m100, nI_clamp, e10, e13 k hkn, d1, d2, k10, k13, k29, k30]
      refine ⟨vin (by omega), pk_le T.nn k (fun z => by omega) (fun _ => ?_)⟩
      refine ⟨vin (by omega), ?_⟩
      rw [kf] at qq
      rw [show nI k + (1 : Int32) = nI (k + 1) from nI_add k 1]
      refine pk_on (T.fa k) a (fun z => ?_) (fun z => ?_) (fun c hc => by have := (N.fl k hkn c hc).1; omega)
      · rw [if_neg z] at qq
        exact ih (k + 1) (by omega) (by omega) qq
      · rw [if_pos z] at qq
        refine pk_b0 b (fun zb => ?_) (fun zb => ?_)
        · rw [if_neg (by rw [zb]; simp), fstC] at qq
          refine ⟨vin (by omega), pk_eq (dec T g k) 0 (fun z0 => ?_) (fun z0 => ?_)⟩
          · rw [if_neg (fun w => w z0)] at qq
            exact ih (k + 1) (by omega) (by omega) (by rw [if_neg (by rw [zb]; simp)]; exact qq)
          · rw [if_pos z0] at qq
            exact qq
        · rw [if_pos zb, oneC] at qq
          refine ⟨vin (by omega), pk_ne (tru T g k) 1 (fun z0 => ?_) (fun z0 => ?_)⟩
          · rw [if_neg z0] at qq
            exact ih (k + 1) (by omega) (by omega) (by rw [if_pos zb]; exact qq)
          · rw [if_pos z0] at qq
            exact qq
  rw [kf_kids (fun i hi c hc => (N.fl i hi c hc).1) ha, ew, show (some w).getD 0 = w from rfl] at q
  unfold w_Mo_chosen
  simp (disch := omega) only [Nat.reduceAdd, m100, nI_clamp, e12, k12]
  refine ⟨vin (by omega), ?_⟩
  rw [show nI a + (1 : Int32) = nI (a + 1) from nI_add a 1]
  refine pk_ne w 3 (fun z => ?_) (fun z => ?_)
  · rw [if_neg z] at q
    exact ⟨_, key false (T.nn - (a + 1)) (a + 1) (by omega) (by omega) q⟩
  · rw [if_pos z] at q
    exact ⟨_, key true (T.nn - (a + 1)) (a + 1) (by omega) (by omega) q⟩
end MJ
