/-! THE CLASS JUDGES: decisions of all nodes. -/
/-- decisions seen, as bits -/
def sOf : List Nat → Nat → Nat
  | [], s => s
  | d :: l, s => sOf l (s ||| 1 <<< d)
theorem sOf_bit : ∀ (l : List Nat) (s d : Nat), (sOf l s).testBit d = (s.testBit d || decide (d ∈ l)) := by
  intro l
  induction l with
  | nil => intro s d; simp [sOf]
  | cons x l ih =>
    intro s d
    rw [sOf, ih, Nat.testBit_or, Nat.one_shiftLeft, Nat.testBit_two_pow]
    by_cases h : x = d
    · subst h; simp
    · have h2 : ¬ d = x := fun z => h z.symm
      simp [h, h2]
theorem sOf_lt : ∀ (l : List Nat) (s : Nat), s < 64 → (∀ d, d ∈ l → d ≤ 5) → sOf l s < 64 := by
  intro l
  induction l with
  | nil => intro s h _; exact h
  | cons x l ih =>
    intro s h hd
    refine ih _ ?_ (fun d hd2 => hd d (List.mem_cons_of_mem _ hd2))
    have hx := hd x (List.mem_cons_self ..)
    have h1 : 1 <<< x < 2 ^ 6 := by
      have : ∀ x, x < 6 → 1 <<< x < 2 ^ 6 := by decide
      exact this x (by omega)
    exact Nat.or_lt_two_pow (n := 6) h h1
theorem s_one (s d : Nat) (hd : d ≤ 5) : nI s ||| ((1 : Int32) <<< (nI d &&& 31)) = nI (s ||| 1 <<< d) := by
  rw [(shl1 d (by omega)).1, nI_or]
/-- what the judge leaves as it was -/
def FrV (v : Nat) (M0 M : aM) : Prop := (M.1 = M0.1) ∧ (M.2.1 = M0.2.1) ∧ (M.2.2.2 = M0.2.2.2) ∧ (∀ k, k ≠ v + 1 → k ≠ v + 2 → k ≠ v + 3 → rI M k = rI M0 k)
theorem FrV.n {v : Nat} {M0 M : aM} (h : FrV v M0 M) : M.1 = M0.1 := h.1
theorem FrV.k {v : Nat} {M0 M : aM} (h : FrV v M0 M) : M.2.1 = M0.2.1 := h.2.1
theorem FrV.r {v : Nat} {M0 M : aM} (h : FrV v M0 M) : M.2.2.2 = M0.2.2.2 := h.2.2.1
theorem FrV.i {v : Nat} {M0 M : aM} (h : FrV v M0 M) : ∀ k, k ≠ v + 1 → k ≠ v + 2 → k ≠ v + 3 → rI M k = rI M0 k := h.2.2.2
theorem FrV.refl {v : Nat} {M : aM} : FrV v M M := ⟨rfl, rfl, rfl, fun _ _ _ _ => rfl⟩
theorem FrV.K {v : Nat} {M0 M : aM} (h : FrV v M0 M) : rK M = rK M0 := h.k
theorem FrV.w {v : Nat} {M0 M : aM} (h : FrV v M0 M) {c j : Nat} {x : Int32} (hc : c = 1 ∨ c = 2 ∨ c = 3) : FrV v M0 (wI M (v + c) j x) := ⟨h.n, h.k, h.r, fun k h1 h2 h3 => (rw_n (by rcases hc with rfl | rfl | rfl <;> assumption)).trans (h.i k h1 h2 h3)⟩
theorem FrV.trans {v : Nat} {M0 M M' : aM} (h : FrV v M0 M) (g : FrV v M M') : FrV v M0 M' := ⟨g.n.trans h.n, g.k.trans h.k, g.r.trans h.r, fun k h1 h2 h3 => (g.i k h1 h2 h3).trans (h.i k h1 h2 h3)⟩
/-- only the choice of set a changes -/
def ChF (v a : Nat) (x : Int32) (M0 M : aM) : Prop := (M.1 = M0.1) ∧ (M.2.1 = M0.2.1) ∧ (M.2.2.2 = M0.2.2.2) ∧ (∀ k, k ≠ v + 3 → rI M k = rI M0 k) ∧ (∀ j, j ≠ a → rI M (v + 3) j = rI M0 (v + 3) j) ∧ (rI M (v + 3) a = x)
theorem ChF.n {v a : Nat} {x : Int32} {M0 M : aM} (h : ChF v a x M0 M) : M.1 = M0.1 := h.1
theorem ChF.k {v a : Nat} {x : Int32} {M0 M : aM} (h : ChF v a x M0 M) : M.2.1 = M0.2.1 := h.2.1
theorem ChF.r {v a : Nat} {x : Int32} {M0 M : aM} (h : ChF v a x M0 M) : M.2.2.2 = M0.2.2.2 := h.2.2.1
theorem ChF.i {v a : Nat} {x : Int32} {M0 M : aM} (h : ChF v a x M0 M) : ∀ k, k ≠ v + 3 → rI M k = rI M0 k := h.2.2.2.1
theorem ChF.j {v a : Nat} {x : Int32} {M0 M : aM} (h : ChF v a x M0 M) : ∀ j, j ≠ a → rI M (v + 3) j = rI M0 (v + 3) j := h.2.2.2.2.1
theorem ChF.a {v a : Nat} {x : Int32} {M0 M : aM} (h : ChF v a x M0 M) : rI M (v + 3) a = x := h.2.2.2.2.2
theorem ChF.w {v a : Nat} {x : Int32} {M : aM} : ChF v a x M (wI M (v + 3) a x) := ⟨rfl, rfl, rfl, fun _ h => rw_n h, fun _ h => rw_sn h, rw_ss⟩
theorem ChF.id {v a : Nat} {x : Int32} {M : aM} (h : rI M (v + 3) a = x) : ChF v a x M M := ⟨rfl, rfl, rfl, fun _ _ => rfl, fun _ _ => rfl, h⟩
theorem ChF.V {v a : Nat} {x : Int32} {M M' : aM} (h : ChF v a x M M') : FrV v M M' := ⟨h.n, h.k, h.r, fun k _ _ h3 => h.i k h3⟩
/-- lengths of a verdict's rows, and where they lie -/
def VO (M : aM) (v t : Nat) : Prop := (∀ c, 1 ≤ c → c ≤ 4 → (rK M (v + c)).2 = 100) ∧ (t + 31 ≤ v)
theorem VO.l {M : aM} {v t : Nat} (h : VO M v t) : ∀ c, 1 ≤ c → c ≤ 4 → (rK M (v + c)).2 = 100 := h.1
theorem VO.d {M : aM} {v t : Nat} (h : VO M v t) : t + 31 ≤ v := h.2
/-- the verdict stands from node lo on -/
def VD (M : aM) (v : Nat) (T : Txt) (g : Nat → Nat) (lo : Nat) : Prop := ∀ i, lo ≤ i → i < T.nn → rI M (v + 1) i = nI (tru T g i) ∧ rI M (v + 2) i = nI (dec T g i) ∧ rI M (v + 3) i = oI (chs T g i)
theorem im_lt {n : Nat} (h : n < 2 ^ 30) : nI n + (-1) < nI n := by
  have e : nI n + (-1) = nI n - nI 1 := by rw [Int32.sub_eq_add_neg]; rfl
  rw [e, Int32.lt_iff_toInt_lt, pk_sub_toInt h (by omega), nI_toInt (by omega)]
  omega
section CJ
variable {M : aM} {v t : Nat} {T : Txt} {g g0 : Nat → Nat}
theorem c_has {post : Int32 → Prop} {s d : Nat} (hs : s < 64) (hd : d ≤ 5) (q : post (bI (s.testBit d))) : w_Vd_has post (nI s) (nI d) M := by
  unfold w_Vd_has
  rw [bit_get s (by omega) d (by omega)]
  refine pk_b0 (s.testBit d) (fun z => ?_) (fun z => ?_)
  · rw [z] at q; exact ⟨Or.inl rfl, q⟩
  · rw [z] at q; exact ⟨Or.inr rfl, q⟩
theorem c_over {post : Int32 → Prop} {ds : List Nat} {yes no : Nat} (hd : ∀ d, d ∈ ds → d ≤ 5) (hy : yes ≤ 2) (hn : no ≤ 2) (q : post (nI (strictV ds yes no (yes + 2) (no + 2)))) : w_Vd_overridden post (nI (sOf ds 0)) (nI no) (nI yes) M := by
  have hs := sOf_lt ds 0 (by omega) hd
  have hb : ∀ d, (sOf ds 0).testBit d = decide (d ∈ ds) := by
    intro d
    rw [sOf_bit]; simp
  have e1 : nI no + (2 : Int32) = nI (no + 2) := nI_add no 2
  have e2 : nI yes + (2 : Int32) = nI (yes + 2) := nI_add yes 2
  unfold strictV at q
  have J : no ∉ ds → ¬ (5 ∈ ds ∨ (no + 2 ∈ ds ∧ (yes ∈ ds ∨ yes + 2 ∈ ds))) → w_Vd_overridden_J54 M post (nI (sOf ds 0)) (nI no) (nI yes) (bI (decide (no + 2 ∈ ds))) (bI (decide (yes + 2 ∈ ds))) := by
    intro h1 h2
    rw [if_neg h1, if_neg h2] at q
    unfold w_Vd_overridden_J54
    refine pk_b0 (decide (no + 2 ∈ ds)) (fun z => ?_) (fun z => ?_)
    · rw [if_neg (of_decide_eq_false z)] at q
      refine c_has hs (by omega) ?_
      rw [hb]
      refine pk_b0 (decide (yes ∈ ds)) (fun z2 => ?_) (fun z2 => ?_)
      · rw [if_neg (of_decide_eq_false z2)] at q
        refine pk_b0 (decide (yes + 2 ∈ ds)) (fun z3 => ?_) (fun z3 => ?_)
        · rw [if_neg (of_decide_eq_false z3)] at q; exact q
        · rw [if_pos (of_decide_eq_true z3)] at q; rw [e2]; exact q
      · rw [if_pos (of_decide_eq_true z2)] at q; exact q
    · rw [if_pos (of_decide_eq_true z)] at q
      rw [e1]; exact q
  unfold w_Vd_overridden
  refine c_has hs (by omega) ?_
  rw [hb, e1, e2]
  refine pk_b0 (decide (no ∈ ds)) (fun z1 => ?_) (fun z1 => ?_)
  · have h1 := of_decide_eq_false z1
    refine c_has hs (by omega) ?_
    rw [hb]
    refine c_has hs (by omega) ?_
    rw [hb]
    refine c_has (d := 5) hs (by omega) ?_
    rw [hb]
    refine pk_nb0 (decide (5 ∈ ds)) (fun z5 => ?_) (fun z5 => ?_)
    · rw [if_neg h1, if_pos (Or.inl (of_decide_eq_true z5))] at q
      exact q
    · have h5 := of_decide_eq_false z5
      refine pk_b0 (decide (no + 2 ∈ ds)) (fun zn => ?_) (fun zn => ?_)
      · have hn2 := of_decide_eq_false zn
        exact J h1 (fun w => w.elim h5 (fun w => hn2 w.1))
      · have hn2 := of_decide_eq_true zn
        refine c_has hs (by omega) ?_
        rw [hb]
        refine pk_nb0 (decide (yes ∈ ds)) (fun zy => ?_) (fun zy => ?_)
        · rw [if_neg h1, if_pos (Or.inr ⟨hn2, Or.inl (of_decide_eq_true zy)⟩)] at q
          exact q
        · have hy2 := of_decide_eq_false zy
          refine pk_b0 (decide (yes + 2 ∈ ds)) (fun zm => ?_) (fun zm => ?_)
          · have hm2 := of_decide_eq_false zm
            exact J h1 (fun w => w.elim h5 (fun w => w.2.elim hy2 hm2))
          · rw [if_neg h1, if_pos (Or.inr ⟨hn2, Or.inr (of_decide_eq_true zm)⟩)] at q
            exact q
  · rw [if_pos (of_decide_eq_true z1)] at q
    exact q
/-- where the walk over children stands -/
def hdI (l : List Nat) (x : Int32) : Prop := ∀ y l', l = y :: l' → x = nI y
theorem hdI_nx {nx : Nat → Option Nat} {y : Nat} {l : List Nat} (h : lnk nx (y :: l)) : hdI l (oI (nx y)) ∧ lnk nx l := by
  cases l with
  | nil => exact ⟨fun a b e => (by cases e), trivial⟩
  | cons z l =>
    obtain ⟨h1, h2⟩ := h
    refine ⟨fun a b e => ?_, h2⟩
    cases e
    rw [h1]; rfl
theorem c_first {post : Int32 → aM → Prop} {a : Nat} {d : Nat → Nat} (h : RepC (cR M t) T g0) (K : KOk (rK M)) (ht : tOk t) (V : VO M v t) (ha : a < T.nn) (hd : ∀ k, k < T.nn → d k ≤ 5) (hc : rI M (v + 3) a = -1) :
    ∀ (l : List Nat) (x : Int32), hdI l x → lnk T.nxt l → l.length ≤ 100 → (∀ k, k ∈ l → k < T.nn ∧ rI M (v + 2) k = nI (d k)) → (∀ M', ChF v a (oI (fstC d l)) M M' → post (nI (match fstC d l with | none => 0 | some k => d k)) M') → w_Vd_byFirst_L12 post (l.length + 1) v (t + 9) (nI a) x (nI l.length) M := by
  have lnn := h.lnn
  have k10 := K.tl ht 19 100
  have v2 := V.l 2 (by omega) (by omega)
  have v3 := V.l 3 (by omega) (by omega)
  intro l
  induction l with
  | nil =>
    intro x _ _ _ _ q
    unfold w_Vd_byFirst_L12
    refine br_t (by decide) ?_
    exact q M (ChF.id hc)
  | cons y l ih =>
    intro x hx hl hlen hk q
    rw [hx y l rfl]
    obtain ⟨hy, ey⟩ := hk y (List.mem_cons_self ..)
    obtain ⟨hn1, hn2⟩ := hdI_nx hl
    have hlen2 : l.length + 1 ≤ 100 := hlen
    have en : rI M (t + 19) y = oI (T.nxt y) := h.nxt y hy
    have hdy := hd y hy
    unfold w_Vd_byFirst_L12
    refine pk_le (l.length + 1) 0 (fun z => by omega) (fun _ => ?_)
    refine br_f (nI_m1 (by omega)) ?_
    simp (disch := omega) only [Nat.add_assoc, Nat.reduceAdd, nI_clamp, ey, en, k10, v2, v3]
    refine ⟨vin (by omega), ?_⟩
    unfold fstC at q
    refine pk_eq (d y) 0 (fun z => ?_) (fun z => ?_)
    · rw [if_neg (fun w => w z)] at q
      refine ⟨vin (by omega), ?_⟩
      rw [show nI (y :: l).length = nI (l.length + 1) from rfl, pk_m1]
      exact ih _ hn1 hn2 (by omega) (fun k hk2 => hk k (List.mem_cons_of_mem _ hk2)) q
    · rw [if_pos z] at q
      refine ⟨vin (by omega), vin (by omega), ?_⟩
      rw [rw_n (by omega), ey]
      exact q _ ChF.w
end CJ
