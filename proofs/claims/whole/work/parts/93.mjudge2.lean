/-! THE MODEL JUDGES, on: strict, combined. -/
theorem oneC_none {t : Nat → Nat} : ∀ (l : List Nat), oneC t l = none → ∀ x, x ∈ l → t x ≠ 1 := by
  intro l
  induction l with
  | nil => intro _ x hx; cases hx
  | cons y l ih =>
    intro h x hx
    rw [oneC] at h
    by_cases z : t y = 1
    · rw [if_pos z] at h; cases h
    · rw [if_neg z] at h
      rcases List.mem_cons.1 hx with hx | hx
      · rw [hx]; exact z
      · exact ih h x hx
section MJ
variable {M : aM} {t : Nat} {T : Txt} {g g0 : Nat → Nat}
/-- how often each decision was seen -/
def OF (M : aM) (ds : List Nat) : Prop := ds.length ≤ 100 ∧ ∀ d, d < 6 → rI M 173 d = nI (ds.count d)
theorem OF.c {ds : List Nat} (h : OF M ds) {A B : Prop} (d : Nat) (hd : d < 6) (f : d ∉ ds → A) (q : d ∈ ds → B) : (rI M 173 d ≤ 0 → A) ∧ (¬ rI M 173 d ≤ 0 → B) := by
  have hc := List.count_le_length (a := d) (l := ds)
  have h1 := h.1
  rw [h.2 d hd]
  refine pk_le (ds.count d) 0 (fun z => f ?_) (fun z => q ?_)
  · intro w
    have := List.count_pos_iff.2 w
    omega
  · exact List.count_pos_iff.1 z
theorem m_strict {post : Int32 → Prop} {ds : List Nat} {yes no my mn : Nat} (K : KOk (rK M)) (O : OF M ds) (hb : yes < 6 ∧ no < 6 ∧ my < 6 ∧ mn < 6) (q : post (nI (strictV ds yes no my mn))) : w_Mo_strict post 136 (nI yes) (nI no) (nI my) (nI mn) M := by
  have k37 : (rK M 173).2 = 6 := mK K 172 6
  have h1 := O.1
  have J : no ∉ ds → ¬ (5 ∈ ds ∨ (mn ∈ ds ∧ (yes ∈ ds ∨ my ∈ ds))) → w_Mo_strict_J48 M post 136 (nI yes) (nI my) (nI mn) := by
    intro z1 z2
    unfold strictV at q
    rw [if_neg z1, if_neg z2] at q
    unfold w_Mo_strict_J48
    simp (disch := omega) only [Nat.reduceAdd, nI_clamp, k37]
    refine ⟨vin (by omega), O.c mn (by omega) (fun z => ?_) (fun z => ?_)⟩
    · rw [if_neg z] at q
      refine ⟨vin (by omega), O.c yes (by omega) (fun z => ?_) (fun z => ?_)⟩
      · rw [if_neg z] at q
        refine ⟨vin (by omega), O.c my (by omega) (fun z => ?_) (fun z => ?_)⟩
        · rw [if_neg z] at q; exact q
        · rw [if_pos z] at q; exact q
      · rw [if_pos z] at q; exact q
    · rw [if_pos z] at q; exact q
  unfold w_Mo_strict
  have e5 : ((5 : Int32)).toNatClampNeg = 5 := by decide
  simp (disch := omega) only [Nat.reduceAdd, nI_clamp, k37, e5]
  refine ⟨vin (by omega), O.c no (by omega) (fun z1 => ?_) (fun z1 => ?_)⟩
  · refine ⟨vin (n := 5) (by omega), ?_⟩
    have c5 := List.count_le_length (a := 5) (l := ds)
    rw [O.2 5 (by omega)]
    refine pk_lt 0 (ds.count 5) (fun z => ?_) (fun z => ?_)
    · unfold strictV at q
      rw [if_neg z1, if_pos (Or.inl (List.count_pos_iff.1 z))] at q
      exact q
    · have h5 : 5 ∉ ds := by
        intro w
        have := List.count_pos_iff.2 w
        omega
      refine ⟨vin (by omega), O.c mn (by omega) (fun z2 => ?_) (fun z2 => ?_)⟩
      · exact J z1 (fun w => w.elim h5 (fun w => z2 w.1))
      · refine ⟨vin (by omega), vin (by omega), ?_⟩
        have cy := List.count_le_length (a := yes) (l := ds)
        have cm := List.count_le_length (a := my) (l := ds)
        rw [O.2 yes (by omega), O.2 my (by omega), nI_add]
        refine pk_le (ds.count yes + ds.count my) 0 (fun z3 => ?_) (fun z3 => ?_)
        · refine J z1 (fun w => w.elim h5 (fun w => w.2.elim (fun w => ?_) (fun w => ?_)))
          · have := List.count_pos_iff.2 w
            omega
          · have := List.count_pos_iff.2 w
            omega
        · unfold strictV at q
          rw [if_neg z1, if_pos] at q
          · exact q
          · refine Or.inr ⟨z2, ?_⟩
            by_cases w : yes ∈ ds
            · exact Or.inl w
            · right
              have w2 : ¬ 0 < ds.count yes := fun w3 => w (List.count_pos_iff.1 w3)
              exact List.count_pos_iff.1 (by omega)
  · unfold strictV at q
    rw [if_pos z1] at q
    exact q
theorem m_comb {post : Int32 → aM → Prop} {a : Nat} (R : RepM (mR M t) T g0) (K : KOk (rK M)) (ht : t ≤ 1) (N : NI T) (W : WI T T.nn) (ha : a < T.nn) (hs : T.srt a = 2) (hD : VM M t T g (a + 1)) (q : ∀ M', FO M M' → post (nI (combV ((T.way a).getD 0) (kids T.fa T.nn a) (dec T g) (tru T g))) M') : w_Mo_combined post 136 (nI t) (nI a) M := by
  have lnn := R.lnn
  have k10 : (rK M 146).2 = 3 := mK K 145 3
  have k12 : (rK M 148).2 = 300 := mK K 147 300
  have k13 : (rK M 149).2 = 300 := mK K 148 300
  have k29 : (rK M 165).2 = 300 := mK K 164 300
  have k30 : (rK M 166).2 = 300 := mK K 165 300
  have k37 : (rK M 173).2 = 6 := mK K 172 6
  obtain ⟨w, hw, ew⟩ := W.w a ha hs
  have e12 : rI M 148 (100 * t + a) = nI w := by
    have := R.way a ha
    rw [ew] at this
    rw [Nat.mul_comm]
    exact this
  have e10 : rI M 146 t = nI T.nn := by
    have := R.nn
    unfold mR at this
    rw [if_neg (by omega)] at this
    rw [← this]
    congr 1
    show t = t * 1 + 0
    omega
  have e13 : ∀ i, i < T.nn → rI M 149 (100 * t + i) = oI (T.fa i) := by
    intro i hi
    rw [Nat.mul_comm]
    exact R.fa i hi
  have hkk := kf_kids (fun i hi c hc => (N.fl i hi c hc).1) ha
  have key : ∀ (n k : Nat) (pd : List Nat) (M1 : aM), k + n = T.nn → a < k → kids T.fa T.nn a = pd ++ kf T.fa a n k → pd.length ≤ k → FO M M1 → OF M1 (pd.map (dec T g)) → w_Mo_combined_L34 post (n + 1) 136 (nI t) (nI a) (nI ((pd.map (tru T g)).count 2)) (nI ((pd.map (tru T g)).count 1)) (nI k) M1 := by
    intro n
    induction n with
    | zero =>
      intro k pd M1 hk ha' hks hpl F O
      have epd : kids T.fa T.nn a = pd := by rw [hks]; exact List.append_nil _
      have f10 : rI M1 146 = rI M 146 := F.2.2.2 _ (by omega)
      have f12 : rI M1 148 = rI M 148 := F.2.2.2 _ (by omega)
      have f29 : rI M1 165 = rI M 165 := F.2.2.2 _ (by omega)
      have f30 : rI M1 166 = rI M 166 := F.2.2.2 _ (by omega)
      have fK : rK M1 = rK M := F.2.1
      have R1 : RepM (mR M1 t) T g0 := F.J.M (t := 0) R
      have K1 : KOk (rK M1) := by rw [fK]; exact K
      have D1 : VM M1 t T g (a + 1) := by
        intro i h1 h2
        rw [f29, f30]
        exact hD i h1 h2
      have q2 := q M1 F
      have c1 := List.count_le_length (a := 1) (l := pd.map (tru T g))
      have c2 := List.count_le_length (a := 2) (l := pd.map (tru T g))
      rw [List.length_map] at c1 c2
      have ex1 : ((1 : Int32)).toNatClampNeg = 1 := by decide
      have ex2 : ((2 : Int32)).toNatClampNeg = 2 := by decide
      have i1 : vp_in (1 : Int32) 6 := vin (n := 1) (by omega)
      have i2 : vp_in (2 : Int32) 6 := vin (n := 2) (by omega)
      unfold w_Mo_combined_L34
      simp (disch := omega) only [Nat.reduceAdd, m100, nI_clamp, f10, f12, f29, fK, e10, e12, k10, k12, k29, k37, ex1, ex2]
      refine ⟨vin (by omega), pk_le T.nn k (fun _ => ?_) (fun z => by omega)⟩
      refine ⟨vin (by omega), ?_⟩
      rw [ew, show (some w).getD 0 = w from rfl, epd] at q2
      unfold combV at q2
      refine pk_eq w 0 (fun z => ?_) (fun z0 => ?_)
      · rw [if_pos z] at q2
        exact m_strict (yes := 1) (no := 2) (my := 3) (mn := 4) K1 O (by omega) q2
      rw [if_neg z0] at q2
      refine pk_eq w 1 (fun z => ?_) (fun z1 => ?_)
      · rw [if_pos z] at q2
        exact m_strict (yes := 2) (no := 1) (my := 4) (mn := 3) K1 O (by omega) q2
      rw [if_neg z1] at q2
      refine pk_eq w 2 (fun z => ?_) (fun z2 => ?_)
      · rw [if_pos z] at q2
        refine m_chosen R1 K1 ht N W ha hs D1 ?_
        rw [if_neg (by rw [ew]; show ¬ w = 3; omega), epd]
        cases hf : fstC (dec T g) pd with
        | none =>
          rw [hf] at q2
          exact nb_t rfl q2
        | some c =>
          rw [hf] at q2
          have hc := (fstC_mem _ c hf).1
          rw [← epd] at hc
          obtain ⟨hc1, hc2⟩ := mem_kids.1 hc
          have hc3 := (N.fl c hc1 a hc2).1
          refine nb_f (show ¬ nI c = -1 from nI_m1 (by omega)) ?_
          rw [show oI (some c) = nI c from rfl, m100, nI_clamp (by omega), (hD c (by omega) hc1).1]
          exact ⟨vin (by omega), q2⟩
      rw [if_neg z2] at q2
      refine pk_eq w 3 (fun z => ?_) (fun z3 => ?_)
      · rw [if_pos z] at q2
        refine pk_lt 0 ((pd.map (tru T g)).count 2) (fun y => ?_) (fun y => ?_)
        · rw [if_pos (Or.inl (List.count_pos_iff.1 y))] at q2
          exact q2
        · have n2 : 2 ∉ pd.map (tru T g) := by
            intro w
            have := List.count_pos_iff.2 w
            omega
          refine pk_le ((pd.map (tru T g)).count 1) 1 (fun y1 => ?_) (fun y1 => ?_)
          · rw [if_neg (fun w => w.elim n2 (fun w => by omega))] at q2
            refine pk_ne ((pd.map (tru T g)).count 1) 0 (fun y0 => ?_) (fun y0 => ?_)
            · refine m_chosen R1 K1 ht N W ha hs D1 ?_
              rw [if_pos (by rw [ew]; exact z), epd]
              cases hf : oneC (tru T g) pd with
              | none =>
                exfalso
                have h1 : 1 ∈ pd.map (tru T g) := List.count_pos_iff.1 (by omega)
                obtain ⟨x, x1, x2⟩ := List.mem_map.1 h1
                exact oneC_none _ hf x x1 x2
              | some c =>
                rw [hf] at q2
                have hc := (oneC_mem _ c hf).1
                rw [← epd] at hc
                obtain ⟨hc1, hc2⟩ := mem_kids.1 hc
                have hc3 := (N.fl c hc1 a hc2).1
                rw [show oI (some c) = nI c from rfl, m100, nI_clamp (by omega), (hD c (by omega) hc1).1]
                exact ⟨vin (by omega), q2⟩
            · have hn : oneC (tru T g) pd = none := by
                cases hf : oneC (tru T g) pd with
                | none => rfl
                | some c =>
                  exfalso
                  obtain ⟨x1, x2⟩ := oneC_mem _ c hf
                  have h1 : 1 ∈ pd.map (tru T g) := List.mem_map.2 ⟨c, x1, x2⟩
                  have := List.count_pos_iff.2 h1
                  omega
              rw [hn] at q2
              exact q2
          · rw [if_pos (Or.inr y1)] at q2
            exact q2
      rw [if_neg z3] at q2
      refine pk_eq w 4 (fun z => ?_) (fun z4 => ?_)
      · rw [if_pos z] at q2
        refine ⟨i1, O.c 1 (by omega) (fun y => ?_) (fun y => ?_)⟩
        · rw [if_neg y] at q2; exact q2
        · rw [if_pos y] at q2; exact q2
      · rw [if_neg z4] at q2
        refine ⟨i2, O.c 2 (by omega) (fun y => ?_) (fun y => ?_)⟩
        · rw [if_neg y] at q2; exact q2
        · rw [if_pos y] at q2; exact q2
    | succ n ih =>
      intro k pd M1 hk ha' hks hpl F O
      have hkn : k < T.nn := by omega
      obtain ⟨d1, d2⟩ := hD k (by omega) hkn
      have hdl := dec_le (g := g) N hkn
      have htl := tru_le T g k
      have f10 : rI M1 146 = rI M 146 := F.2.2.2 _ (by omega)
      have f13 : rI M1 149 = rI M 149 := F.2.2.2 _ (by omega)
      have f29 : rI M1 165 = rI M 165 := F.2.2.2 _ (by omega)
      have f30 : rI M1 166 = rI M 166 := F.2.2.2 _ (by omega)
      have fK : rK M1 = rK M := F.2.1
      rw [kf] at hks
      have c1 := List.count_le_length (a := 1) (l := pd.map (tru T g))
      have c2 := List.count_le_length (a := 2) (l := pd.map (tru T g))
      rw [List.length_map] at c1 c2
      unfold w_Mo_combined_L34
      simp (disch := omega) only [Nat.reduceAdd, m100, nI_clamp, f10, f13, f29, fK, e10, e13 k hkn, d1, k10, k13, k29, k30, k37]
      refine ⟨vin (by omega), pk_le T.nn k (fun z => by omega) (fun _ => ?_)⟩
      refine ⟨vin (by omega), ?_⟩
      rw [show nI k + (1 : Int32) = nI (k + 1) from nI_add k 1]
      refine pk_on (T.fa k) a (fun z => ?_) (fun z => ?_) (fun c hc => by have := (N.fl k hkn c hc).1; omega)
      · rw [if_neg z] at hks
        exact ih (k + 1) pd M1 (by omega) (by omega) hks (by omega) F O
      · rw [if_pos z] at hks
        refine ⟨vin (by omega), vin (by omega), vin (by omega), vin (by omega), ?_⟩
        obtain ⟨M2, e2⟩ : ∃ x : aM, x = wI M1 173 (dec T g k) (rI M1 173 (dec T g k) + (1 : Int32)) := ⟨_, rfl⟩
        rw [← e2]
        have F2 : FO M M2 := by rw [e2]; exact F.w
        have hkl : (kids T.fa T.nn a).length ≤ 100 := by
          rw [hkk]
          have := kf_len (fa := T.fa) (a := a) (T.nn - (a + 1)) (a + 1)
          omega
        have hpl2 : (pd ++ [k]).length ≤ 100 := by
          rw [hks, List.length_append] at hkl
          rw [List.length_append]
          have : (k :: kf T.fa a n (k + 1)).length = (kf T.fa a n (k + 1)).length + 1 := rfl
          show pd.length + 1 ≤ 100
          omega
        have O2 : OF M2 ((pd ++ [k]).map (dec T g)) := by
          refine ⟨by rw [List.length_map]; exact hpl2, ?_⟩
          intro d hd
          rw [List.map_append, List.count_append, e2]
          by_cases y : d = dec T g k
          · subst y
            rw [rw_ss, O.2 _ hd, show (1 : Int32) = nI 1 from rfl, nI_add]
            simp
          · rw [rw_sn y, O.2 _ hd]
            have : ¬ dec T g k = d := fun z => y z.symm
            simp [this]
        have e30 : rI M2 166 (100 * t + k) = nI (tru T g k) := by rw [F2.2.2.2 166 (by omega)]; exact d2
        have K2 : rK M2 = rK M := F2.2.1
        have hpl3 : (pd ++ [k]).length ≤ k + 1 := by rw [List.length_append]; show pd.length + 1 ≤ k + 1; omega
        have nxt := ih (k + 1) (pd ++ [k]) M2 (by omega) (by omega) (by rw [hks]; simp) hpl3 F2 O2
        rw [List.map_append, List.count_append, List.count_append] at nxt
        have J : ∀ e, e = (pd.map (tru T g)).count 2 + ([k].map (tru T g)).count 2 → w_Mo_combined_J99 post (w_Mo_combined_L34 post (n + 1)) 136 (nI t) (nI a) (nI ((pd.map (tru T g)).count 1)) (nI k) (nI (100 * t + k)) (nI e) M2 := by
          intro e he
          unfold w_Mo_combined_J99
          simp (disch := omega) only [Nat.reduceAdd, nI_clamp, e30, K2, k30]
          rw [show nI k + (1 : Int32) = nI (k + 1) from nI_add k 1]
          refine ⟨vin (by omega), pk_ne (tru T g k) 1 (fun y => ?_) (fun y => ?_)⟩
          · rw [he]
            have : ([k].map (tru T g)).count 1 = 0 := by simp [y]
            rw [this, Nat.add_zero] at nxt
            exact nxt
          · rw [he]
            have : ([k].map (tru T g)).count 1 = 1 := by simp [y]
            rw [this] at nxt
            rw [show nI ((pd.map (tru T g)).count 1) + (1 : Int32) = nI ((pd.map (tru T g)).count 1 + 1) from nI_add _ 1]
            exact nxt
        rw [e30]
        refine pk_ne (tru T g k) 2 (fun y => ?_) (fun y => ?_)
        · refine J _ ?_
          have : ([k].map (tru T g)).count 2 = 0 := by simp [y]
          rw [this]; rfl
        · rw [show nI ((pd.map (tru T g)).count 2) + (1 : Int32) = nI ((pd.map (tru T g)).count 2 + 1) from nI_add _ 1]
          refine J _ ?_
          have : ([k].map (tru T g)).count 2 = 1 := by simp [y]
          rw [this]
  have k8 : ∀ (n k : Nat) (M1 : aM), k + n = 6 → FO M M1 → (∀ d, d < k → rI M1 173 d = 0) → w_Mo_combined_L8 post (n + 1) 136 (nI t) (nI a) 0 0 (nI k) M1 := by
    intro n
    induction n with
    | zero =>
      intro k M1 hk F z
      unfold w_Mo_combined_L8
      refine pk_le 6 k (fun _ => ?_) (fun z => by omega)
      rw [show nI a + (1 : Int32) = nI (a + 1) from nI_add a 1]
      exact ⟨_, key (T.nn - (a + 1)) (a + 1) [] M1 (by omega) (by omega) (by rw [hkk]; rfl) (Nat.zero_le _) F ⟨Nat.zero_le _, fun d hd => by rw [z d (by omega)]; rfl⟩⟩
    | succ n ih =>
      intro k M1 hk F z
      have K1 : rK M1 = rK M := F.2.1
      unfold w_Mo_combined_L8
      refine pk_le 6 k (fun z => by omega) (fun _ => ?_)
      simp (disch := omega) only [Nat.reduceAdd, nI_clamp, K1, k37]
      rw [show nI k + (1 : Int32) = nI (k + 1) from nI_add k 1]
      refine ⟨vin (by omega), ih (k + 1) _ (by omega) F.w (fun d hd => ?_)⟩
      by_cases y : d = k
      · rw [y, rw_ss]
      · rw [rw_sn y]
        exact z d (by omega)
  unfold w_Mo_combined
  exact ⟨_, k8 6 0 M rfl FO.refl (fun d hd => by omega)⟩
end MJ
