/-! DUTIES: the model lays them, node by node as they close. -/
section MD
variable {M : aM} {t : Nat} {T : Txt} {g g0 : Nat → Nat}
/-- nodes on the way up are closed -/
theorem m_close {post : aM → Prop} {K151 : Nat → Int32 → Int32 → Int32 → aM → Prop} {k : Nat} (R : RepM (mR M t) T g0) (K : KOk (rK M)) (ht : t ≤ 1) (N : NI T) (D : DI T) (hD : VM M t T g 0) {rest : List Nat} :
    ∀ (A : List Nat) (o : Option Nat) (L : List Nat) (M1 : aM), isP T.fa o (A ++ rest) → (∀ x, x ∈ A → x < T.nn ∧ rest.head? ≠ some x) → (∀ x, x ∈ rest → x < T.nn) → (L ++ A.flatMap (ownL T g)).length ≤ 100 → FrO t M M1 → (∀ j, j < T.nn → rI M1 176 j = bI (tk T g j)) → OM M1 t L → (∀ M', FrO t M M' → (∀ j, j < T.nn → rI M' 176 j = bI (tk T g j)) → OM M' t (L ++ A.flatMap (ownL T g)) → w_Mo_layDuties_J220 post K151 136 (nI t) (nI k) M') → w_Mo_layDuties_L188 post K151 (A.length + 1) 136 (nI t) (oI o) (nI k) (oI rest.head?) M1 := by
  have lnn := R.lnn
  have k13 : (rK M 149).2 = 300 := mK K 148 300
  intro A
  induction A with
  | nil =>
    intro o L M1 hp _ hr hL F hT O q
    have q1 := q M1 F hT (by rw [List.flatMap_nil, List.append_nil]; exact O)
    unfold w_Mo_layDuties_L188
    cases rest with
    | nil =>
      have ho : o = none := hp
      rw [ho]
      exact br_t rfl q1
    | cons x l =>
      obtain ⟨ho, _⟩ := hp
      have hx := hr x (List.mem_cons_self ..)
      rw [ho]
      refine br_f (show ¬ nI x = -1 from nI_m1 (by omega)) ?_
      exact br_t rfl q1
  | cons x A ih =>
    intro o L M1 hp hA hr hL F hT O q
    obtain ⟨ho, hp2⟩ := hp
    obtain ⟨hx, hxr⟩ := hA x (List.mem_cons_self ..)
    rw [ho]
    unfold w_Mo_layDuties_L188
    refine br_f (show ¬ nI x = -1 from nI_m1 (by omega)) ?_
    have hne : ¬ nI x = oI rest.head? := by
      cases hh : rest.head? with
      | none => exact nI_m1 (by omega)
      | some y =>
        have hy : y < T.nn := by
          cases rest with
          | nil => cases hh
          | cons z l => cases hh; exact hr y (List.mem_cons_self ..)
        intro z
        have z2 : x = y := (nI_eq (by omega) (by omega)).1 z
        rw [hh, z2] at hxr
        exact hxr rfl
    refine br_f hne ?_
    rw [List.flatMap_cons] at hL q
    rw [← List.append_assoc] at hL q
    refine m_own R K ht D hx (dec_le N hx) (hD x (by omega) hx).1 (hT x hx) (by rw [List.length_append] at hL; omega) F O (fun M2 F2 e2 O2 => ?_)
    have e13 : rI M2 149 (100 * t + x) = oI (T.fa x) := by
      rw [F2.i _ (by omega) (by omega) (by omega), Nat.mul_comm]
      exact R.fa x hx
    show vp_in ((100 : Int32) * nI t + nI x) (rK M2 149).2 ∧ w_Mo_layDuties_L188 post K151 (A.length + 1) 136 (nI t) (rI M2 149 ((100 : Int32) * nI t + nI x).toNatClampNeg) (nI k) (oI rest.head?) M2
    simp (disch := omega) only [m100, nI_clamp, e13, F2.K, k13]
    refine ⟨vin (by omega), ?_⟩
    refine ih (T.fa x) (L ++ ownL T g x) M2 hp2 (fun y hy => hA y (List.mem_cons_of_mem _ hy)) hr hL F2 (fun j hj => by rw [e2]; exact hT j hj) O2 q
theorem m_lay {post : aM → Prop} (R : RepM (mR M t) T g0) (K : KOk (rK M)) (ht : t ≤ 1) (N : NI T) (W : WI T T.nn) (D : DI T) (h0 : 0 < T.nn) (hD : VM M t T g 0) (q : ∀ M', FrO t M M' → OM M' t (owedL T g) → post M') : w_Mo_layDuties post 136 (nI t) M := by
  have lnn := R.lnn
  have lnd := R.lnd
  have k10 : (rK M 146).2 = 3 := mK K 145 3
  have k12 : (rK M 148).2 = 300 := mK K 147 300
  have k13 : (rK M 149).2 = 300 := mK K 148 300
  have k29 : (rK M 165).2 = 300 := mK K 164 300
  have k38 : (rK M 174).2 = 2 := mK K 173 2
  have k40 : (rK M 176).2 = 100 := mK K 175 100
  have e10 : rI M 146 t = nI T.nn := by
    have := R.nn
    unfold mR at this
    rw [if_neg (by omega)] at this
    rw [← this]
    congr 1
    show t = t * 1 + 0
    omega
  have e13 : ∀ i, i < T.nn → rI M 149 (100 * t + i) = oI (T.fa i) := by
    intro i hi
    rw [Nat.mul_comm]
    exact R.fa i hi
  -- the closing
  have key : ∀ (n k : Nat) (cl pl : List Nat) (M1 : aM), k + n = T.nn → 1 ≤ k → CS T.fa k cl pl → FrO t M M1 → (∀ j, j < T.nn → rI M1 176 j = bI (tk T g j)) → OM M1 t (cl.flatMap (ownL T g)) → w_Mo_layDuties_L151 post (n + 2) 136 (nI t) (nI (k - 1)) (nI k) M1 := by
    intro n
    induction n with
    | zero =>
      intro k cl pl M1 hk h1 C F hT O
      have f10 : rI M1 146 t = nI T.nn := by rw [F.i _ (by omega) (by omega) (by omega)]; exact e10
      unfold w_Mo_layDuties_L151
      simp (disch := omega) only [Nat.reduceAdd, nI_clamp, f10, F.K, k10]
      refine ⟨vin (by omega), pk_lt T.nn k (fun z => by omega) (fun _ => ⟨vin (by omega), pk_le T.nn k (fun _ => ?_) (fun z => by omega)⟩)⟩
      have hpl : ∀ x, x ∈ pl → x < T.nn := by
        intro x hx
        have hx2 : x ∈ cl ++ pl := List.mem_append_right _ hx
        rw [C.e] at hx2
        have := pord_lt _ _ (by omega) _ hx2
        omega
      have etot : cl ++ pl = pord T.fa T.nn (T.nn + 1) 0 := by
        have := C.e
        rw [show k = T.nn by omega] at this
        exact this
      have eo : (cl.flatMap (ownL T g)) ++ pl.flatMap (ownL T g) = owedL T g := by
        rw [← List.flatMap_append, etot]
        rfl
      have hlen := owed_len (g := g) N h0
      refine ⟨pl.length + 1, m_close (rest := []) (k := k) R K ht N D hD pl (some (k - 1)) _ M1 (by rw [List.append_nil]; exact C.p) (fun x hx => ⟨hpl x hx, by simp⟩) (fun x hx => (by cases hx)) (by rw [eo]; omega) F hT O (fun M2 F2 hT2 O2 => ?_)⟩
      rw [eo] at O2
      have g10 : rI M2 146 t = nI T.nn := by rw [F2.i _ (by omega) (by omega) (by omega)]; exact e10
      unfold w_Mo_layDuties_J220
      simp (disch := omega) only [Nat.reduceAdd, nI_clamp, g10, F2.K, k10]
      refine ⟨vin (by omega), pk_le T.nn k (fun _ => ?_) (fun z => by omega)⟩
      rw [show nI k + (1 : Int32) = nI (k + 1) from nI_add k 1]
      unfold w_Mo_layDuties_L151
      simp (disch := omega) only [Nat.reduceAdd, nI_clamp, g10, F2.K, k10]
      exact ⟨vin (by omega), pk_lt T.nn (k + 1) (fun _ => q M2 F2 O2) (fun z => by omega)⟩
    | succ n ih =>
      intro k cl pl M1 hk h1 C F hT O
      have hkn : k < T.nn := by omega
      have f10 : rI M1 146 t = nI T.nn := by rw [F.i _ (by omega) (by omega) (by omega)]; exact e10
      have f13 : rI M1 149 (100 * t + k) = oI (T.fa k) := by rw [F.i _ (by omega) (by omega) (by omega)]; exact e13 k hkn
      obtain ⟨m, c, hc, hp⟩ := N.ds (k - 1) (by omega)
      rw [show k - 1 + 1 = k by omega] at hc
      obtain ⟨A, rest, e1, e2⟩ := isP_cut m (k - 1) pl hp C.p
      subst e1
      have hpl : ∀ x, x ∈ A ++ c :: rest → x < T.nn := by
        intro x hx
        have hx2 : x ∈ cl ++ (A ++ c :: rest) := List.mem_append_right _ hx
        rw [C.e] at hx2
        have := pord_lt _ _ (by omega) _ hx2
        omega
      have hcnt := C.c c
      rw [List.count_append, List.count_append, List.count_cons_self] at hcnt
      have n2 : c ∉ A := fun z => by have := List.count_pos_iff.2 z; omega
      have C2 := CS.step (fun i hi a ha => (N.fl i (by omega) a ha).1) h1 hc C e2
      have hlen : (cl.flatMap (ownL T g) ++ A.flatMap (ownL T g)).length ≤ 100 := by
        have := own_sum (T := T) (g := g) _ C.c
        rw [List.flatMap_append, List.flatMap_append, ← List.append_assoc, List.length_append] at this
        omega
      unfold w_Mo_layDuties_L151
      simp (disch := omega) only [Nat.reduceAdd, nI_clamp, m100, f10, f13, F.K, k10, k13]
      refine ⟨vin (by omega), pk_lt T.nn k (fun z => by omega) (fun _ => ⟨vin (by omega), pk_le T.nn k (fun z => by omega) (fun _ => ⟨vin (by omega), ?_⟩)⟩)⟩
      rw [hc]
      refine ⟨A.length + 1, m_close (rest := c :: rest) (k := k) R K ht N D hD A (some (k - 1)) _ M1 C.p (fun x hx => ⟨hpl x (List.mem_append_left _ hx), ?_⟩) (fun x hx => hpl x (List.mem_append_right _ hx)) hlen F hT O (fun M2 F2 hT2 O2 => ?_)⟩
      · intro z
        have z2 : c = x := by simpa using z
        subst z2
        exact n2 hx
      · have g10 : rI M2 146 t = nI T.nn := by rw [F2.i _ (by omega) (by omega) (by omega)]; exact e10
        unfold w_Mo_layDuties_J220
        simp (disch := omega) only [Nat.reduceAdd, nI_clamp, g10, F2.K, k10]
        refine ⟨vin (by omega), pk_le T.nn k (fun z => by omega) (fun _ => ?_)⟩
        rw [show nI k + (1 : Int32) = nI (k + 1) from nI_add k 1]
        rw [← List.flatMap_append] at O2
        have := ih (k + 1) (cl ++ A) (k :: c :: rest) M2 (by omega) (by omega) C2 F2 hT2 O2
        rw [Nat.add_sub_cancel] at this
        exact this
  -- who takes part
  have kt : ∀ (n k : Nat) (M1 : aM), k + n = T.nn → FrO t M M1 → rI M1 174 t = 0 → (∀ j, j < k → rI M1 176 j = bI (tk T g j)) → w_Mo_layDuties_L9 post (n + 1) 136 (nI t) (nI k) M1 := by
    intro n
    induction n with
    | zero =>
      intro k M1 hk F hz hT
      have f10 : rI M1 146 t = nI T.nn := by rw [F.i _ (by omega) (by omega) (by omega)]; exact e10
      unfold w_Mo_layDuties_L9
      simp (disch := omega) only [Nat.reduceAdd, nI_clamp, f10, F.K, k10]
      refine ⟨vin (by omega), pk_le T.nn k (fun _ => ?_) (fun z => by omega)⟩
      refine ⟨(T.nn - 1) + 3, ?_⟩
      -- node 0 opens
      have f13 : rI M1 149 (100 * t + 0) = oI (T.fa 0) := by rw [F.i _ (by omega) (by omega) (by omega)]; exact e13 0 h0
      have e00 : (100 : Int32) * nI t + 0 = nI (100 * t + 0) := m100 t 0
      unfold w_Mo_layDuties_L151
      simp (disch := omega) only [Nat.reduceAdd, nI_clamp, e00, f10, f13, F.K, k10, k13]
      refine ⟨vin (by omega), pk_lt T.nn 0 (fun z => by omega) (fun _ => ⟨vin (by omega), pk_le T.nn 0 (fun z => by omega) (fun _ => ⟨vin (by omega), 1, ?_⟩)⟩)⟩
      unfold w_Mo_layDuties_L188
      refine br_t rfl ?_
      unfold w_Mo_layDuties_J220
      simp (disch := omega) only [Nat.reduceAdd, nI_clamp, f10, F.K, k10]
      refine ⟨vin (by omega), pk_le T.nn 0 (fun z => by omega) (fun _ => ?_)⟩
      have := key (T.nn - 1) 1 [] [0] M1 (by omega) (by omega) (CS.one (N.r0 h0)) F (fun j hj => hT j (by omega)) ⟨hz, fun j hj => absurd hj (Nat.not_lt_zero _)⟩
      exact this
    | succ n ih =>
      intro k M1 hk F hz hT
      have hkn : k < T.nn := by omega
      have f10 : rI M1 146 t = nI T.nn := by rw [F.i _ (by omega) (by omega) (by omega)]; exact e10
      have f13 : rI M1 149 (100 * t + k) = oI (T.fa k) := by rw [F.i _ (by omega) (by omega) (by omega)]; exact e13 k hkn
      have f29 : rI M1 165 = rI M 165 := F.i _ (by omega) (by omega) (by omega)
      have f30 : rI M1 166 = rI M 166 := F.i _ (by omega) (by omega) (by omega)
      have d29 : rI M1 165 (100 * t + k) = nI (dec T g k) := by rw [f29]; exact (hD k (by omega) hkn).1
      have hdk := dec_le (g := g) N hkn
      have R1 := F.M R
      have K1 : KOk (rK M1) := by rw [F.K]; exact K
      have J133 : w_Mo_layDuties_J133 post (w_Mo_layDuties_L9 post (n + 1)) 136 (nI t) (nI k) (bI (tk T g k)) M1 := by
        unfold w_Mo_layDuties_J133
        simp (disch := omega) only [Nat.reduceAdd, nI_clamp, F.K, k40]
        rw [show nI k + (1 : Int32) = nI (k + 1) from nI_add k 1]
        refine ⟨⟨vin (by omega), bI_01 _⟩, ih (k + 1) _ (by omega) (F.trans FrO.w0) (by rw [rw_n (by omega)]; exact hz) (fun j hj => ?_)⟩
        by_cases y : j = k
        · rw [y, rw_ss]
        · rw [rw_sn y]; exact hT j (by omega)
      have J130 : tk T g k = false → w_Mo_layDuties_J130 post (w_Mo_layDuties_L9 post (n + 1)) 136 (nI t) (nI k) M1 := by
        intro z
        unfold w_Mo_layDuties_J130 w_Mo_layDuties_J131
        rw [z] at J133
        exact J133
      have J126 : tk T g k = true → w_Mo_layDuties_J126 post (w_Mo_layDuties_L9 post (n + 1)) 136 (nI t) (nI k) M1 := by
        intro z
        unfold w_Mo_layDuties_J126 w_Mo_layDuties_J131
        rw [z] at J133
        exact J133
      unfold w_Mo_layDuties_L9
      simp (disch := omega) only [Nat.reduceAdd, nI_clamp, m100, f10, f13, d29, F.K, k10, k13, k29]
      refine ⟨vin (by omega), pk_le T.nn k (fun z => by omega) (fun _ => ⟨vin (by omega), vin (by omega), ?_⟩)⟩
      refine m_in (dec T g k) 1 2 ?_
      have ein : (decide (1 ≤ dec T g k) && decide (dec T g k ≤ 2)) = decide (dec T g k = 1 ∨ dec T g k = 2) := by
        by_cases z : dec T g k = 1 ∨ dec T g k = 2
        · rw [decide_eq_true z]
          rw [decide_eq_true (show 1 ≤ dec T g k by omega), decide_eq_true (show dec T g k ≤ 2 by omega)]
          rfl
        · rw [decide_eq_false z]
          by_cases y : 1 ≤ dec T g k
          · rw [decide_eq_false (show ¬ dec T g k ≤ 2 by omega)]; simp
          · rw [decide_eq_false y]; rfl
      rw [ein]
      cases hfa : T.fa k with
      | none =>
        refine br_t rfl ?_
        rw [tk_root hfa] at J133
        exact J133
      | some f =>
        obtain ⟨hf1, hf2⟩ := N.fl k hkn f hfa
        have hfn : f < T.nn := by omega
        obtain ⟨w, hw, ew⟩ := W.w f hfn hf2
        have f12 : rI M1 148 (100 * t + f) = nI w := by
          have := R1.way f hfn
          rw [ew] at this
          rw [Nat.mul_comm]
          exact this
        have d29f : rI M1 165 (100 * t + f) = nI (dec T g f) := by rw [f29]; exact (hD f (by omega) hfn).1
        have f40 : rI M1 176 f = bI (tk T g f) := hT f (by omega)
        have hdf := dec_le (g := g) N hfn
        have htk := tk_kid (g := g) N hkn hfa
        rw [ew, show (some w).getD 0 = w from rfl] at htk
        refine br_f (show ¬ nI f = -1 from nI_m1 (by omega)) ?_
        simp (disch := omega) only [show oI (some f) = nI f from rfl, m100, nI_clamp, f12, d29f, f40, k12, k40]
        refine ⟨vin (by omega), pk_b0 (decide (dec T g k = 1 ∨ dec T g k = 2)) (fun z => J130 (by rw [htk, z]; rfl)) (fun z => ?_)⟩
        refine ⟨vin (by omega), pk_b0 (tk T g f) (fun z2 => J130 (by rw [htk, z, z2]; rfl)) (fun z2 => ?_)⟩
        refine ⟨vin (by omega), vin (by omega), pk_ne (dec T g k) (dec T g f) (fun z3 => J130 (by rw [htk, z, z2, decide_eq_false z3]; rfl)) (fun z3 => ?_)⟩
        have hdf2 := tk_dec N hfn z2
        have hch := chs_of N hfn hf2 ew hdf2
        have htk2 : tk T g k = decide ((w ≠ 2 ∧ w ≠ 3) ∨ chs T g f = some k) := by rw [htk, z, z2, decide_eq_true z3]; rfl
        have J115 : w = 2 ∨ w = 3 → w_Mo_layDuties_J115 post (w_Mo_layDuties_L9 post (n + 1)) 136 (nI t) (nI k) (nI f) M1 := by
          intro hw23
          unfold w_Mo_layDuties_J115
          refine m_chosen R1 K1 ht N W hfn hf2 (g := g) (fun i h1 h2 => by rw [f29, f30]; exact hD i (by omega) h2) ?_
          have eq1 : (if (T.way f).getD 0 = 3 then oneC (tru T g) (kids T.fa T.nn f) else fstC (dec T g) (kids T.fa T.nn f)) = chs T g f := by
            rw [ew, show (some w).getD 0 = w from rfl]
            by_cases y : w = 3
            · rw [if_pos y]; exact (hch.2.1 y).1.symm
            · rw [if_neg y]; exact (hch.1 (by omega)).1.symm
          rw [eq1]
          refine pk_on (chs T g f) k (fun y => J130 ?_) (fun y => J126 ?_) (fun c hc => by have := chs_lt N hc; omega)
          · rw [htk2]
            exact decide_eq_false (fun x => x.elim (fun x => by omega) y)
          · rw [htk2]
            exact decide_eq_true (Or.inr y)
        refine pk_eq w 2 (fun y => J115 (Or.inl y)) (fun y2 => ?_)
        refine pk_ne w 3 (fun y3 => J126 (by rw [htk2]; exact decide_eq_true (Or.inl ⟨y2, y3⟩))) (fun y => J115 (Or.inr y))
  unfold w_Mo_layDuties
  simp (disch := omega) only [Nat.reduceAdd, nI_clamp, k38]
  exact ⟨vin (by omega), _, kt T.nn 0 _ (by omega) FrO.w8 rw_ss (fun j hj => absurd hj (Nat.not_lt_zero _))⟩
end MD
