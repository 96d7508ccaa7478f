/-! CALLS THAT ONLY ASK. -/
theorem mRr {M : aM} {i c j : Nat} (hc : 1 ≤ c ∧ c < 31) : mR M i c j = rI M (136 + c) (i * szM c + j) := by
  unfold mR; rw [if_neg (by omega)]
section QA
variable {S : Sx} {M : aM} {post : Int32 → aM → Prop}
theorem ma0 {x : Int32} (h : MI S M) (q : MA S M post none) : post x (wI M 136 0 1) := q x _ h.t rw_ss (FD.refl.w (by omega))
theorem ma1 {x : Int32} (h : MI S M) (q : MA S M post (some (some (x, S)))) : post x (wI M 136 0 0) := q _ h.t rw_ss (FD.refl.w (by omega))
theorem ma01 {x y : Int32} (h : MI S M) (q : MA S M post none) : post x (wI (wI M 136 0 y) 136 0 1) := q x _ h.t.t rw_ss ((FD.refl.w (by omega)).w (by omega))
theorem ma11 {x y : Int32} (h : MI S M) (q : MA S M post (some (some (x, S)))) : post x (wI (wI M 136 0 y) 136 0 0) := q _ h.t.t rw_ss ((FD.refl.w (by omega)).w (by omega))
theorem ma2 {x : Int32} (h : MI S M) (q : MA S M post (some none)) : post x (wI M 136 0 2) := q x _ h.t rw_ss (FD.refl.w (by omega))
end QA
def cntA (x : Tx) (w : Nat) : Int32 := if x.p then (if w = 0 then nI x.T.na else if w = 1 then nI x.T.nn else if w = 2 then nI x.T.np else nI x.T.nd) else 0
def a_count (S : Sx) (v1 v2 : Int32) : Option (Int32 × Sx) := (idx v1 2).bind fun i => (idx v2 4).map fun w => (cntA (S.x i) w, S)
section CT
variable {S : Sx} {M : aM} {post : Int32 → aM → Prop} {ex : Nat → Prop} {v1 v2 v3 v4 : Int32} {e2 : Nat}
theorem c_count (h : CI S M) (q : CA M post ex 0 e2 ((a_count S v1 v2).map some)) : w_J_count post ex 1 v1 v2 M := by
  unfold w_J_count
  refine c_text (fun z => ?_) (fun i z hi e => ?_)
  · simp only [a_count, z, Option.bind_none, Option.map_none] at q; exact q
  refine c_idx 4 (by omega) (fun y => ?_) (fun w y hw e2 => ?_)
  · simp only [a_count, z, y, Option.bind_some, Option.bind_none, Option.map_none] at q; exact q
  simp only [a_count, z, y, Option.bind_some, Option.map_some] at q
  have q1 : post (cntA (S.x i) w) M := q M h FB.refl
  have k1 : (rK M (1 + 46)).2 = 2 := mK h.tp.K 46 2
  subst e e2
  rw [nI_clamp (by omega)]
  refine ⟨by rw [k1]; exact vin (by omega), ?_⟩
  refine pk_nb0 (S.x i).p (fun hp => ?_) (fun hp => ?_) (h.x i hi).p rfl
  · have R := (h.x i hi).R hp
    unfold cntA at q1
    rw [if_pos hp] at q1
    have : w = 0 ∨ w = 1 ∨ w = 2 ∨ w = 3 := by omega
    rcases this with rfl | rfl | rfl | rfl
    · exact br_t rfl (by rw [show rI M (rR M (1 + 46) i + 1) 0 = _ from R.na]; exact q1)
    · exact br_f (by decide) (br_t rfl (by rw [show rI M (rR M (1 + 46) i + 9) 0 = _ from R.nn]; exact q1))
    · exact br_f (by decide) (br_f (by decide) (br_t rfl (by rw [show rI M (rR M (1 + 46) i + 24) 0 = _ from R.np]; exact q1)))
    · exact br_f (by decide) (br_f (by decide) (br_f (by decide) (by rw [show rI M (rR M (1 + 46) i + 9) 10 = _ from R.nd]; exact q1)))
  · unfold cntA at q1
    rw [if_neg (by rw [hp]; decide)] at q1
    exact q1
theorem m_count (h : MI S M) (q : MA S M post ((a_count S v1 v2).map some)) : w_Mo_count post 136 v1 v2 M := by
  unfold w_Mo_count
  refine m_text2 (fun z => br_t rfl ?_) (fun i z hi e => br_f (by decide) ?_)
  · simp only [a_count, z, Option.bind_none, Option.map_none] at q
    unfold w_Mo_count_J21 w_Mo_count_J22
    exact m_goes0 (nb_t rfl (ma0 h q))
  refine m_idx 4 (by omega) (fun y => br_t rfl ?_) (fun w y hw e2 => br_f (by decide) ?_)
  · simp only [a_count, z, y, Option.bind_some, Option.bind_none, Option.map_none] at q
    unfold w_Mo_count_J21 w_Mo_count_J22
    exact m_goes0 (nb_t rfl (ma0 h q))
  simp only [a_count, z, y, Option.bind_some, Option.map_some] at q
  unfold w_Mo_count_J22
  refine m_goes1 (nb_f (by decide) ?_)
  have q1 := ma1 h q
  have h1 := h.t (x := 0)
  generalize wI M 136 0 0 = M1 at q1 h1
  subst e e2
  have k2 : (rK M1 (136 + 2)).2 = 3 := mK h1.tp.K 137 3
  have k3 : (rK M1 (136 + 3)).2 = 3 := mK h1.tp.K 138 3
  have k10 : (rK M1 (136 + 10)).2 = 3 := mK h1.tp.K 145 3
  have k15 : (rK M1 (136 + 15)).2 = 3 := mK h1.tp.K 150 3
  have k24 : (rK M1 (136 + 24)).2 = 3 := mK h1.tp.K 159 3
  rw [nI_clamp (by omega)]
  refine ⟨mk3 h1 hi k2, pk_nb0 (S.x i).p (fun hp => ?_) (fun hp => ?_) (h1.x i hi).p rfl⟩
  · have R := (h1.x i hi).R hp
    unfold cntA at q1
    rw [if_pos hp] at q1
    have e3 : rI M1 (136 + 3) i = nI (S.x i).T.na := by have := R.na; rw [mRr (by omega), show szM 3 = 1 from rfl, show i * 1 + 0 = i by omega] at this; exact this
    have e10 : rI M1 (136 + 10) i = nI (S.x i).T.nn := by have := R.nn; rw [mRr (by omega), show szM 10 = 1 from rfl, show i * 1 + 0 = i by omega] at this; exact this
    have e15 : rI M1 (136 + 15) i = nI (S.x i).T.np := by have := R.np; rw [mRr (by omega), show szM 15 = 1 from rfl, show i * 1 + 0 = i by omega] at this; exact this
    have e24 : rI M1 (136 + 24) i = nI (S.x i).T.nd := by have := R.nd; rw [mRr (by omega), show szM 24 = 1 from rfl, show i * 1 + 0 = i by omega] at this; exact this
    have : w = 0 ∨ w = 1 ∨ w = 2 ∨ w = 3 := by omega
    rcases this with rfl | rfl | rfl | rfl
    · exact nb_t rfl ⟨mk3 h1 hi k3, by rw [e3]; exact q1⟩
    · exact nb_f (by decide) (nb_t rfl ⟨mk3 h1 hi k10, by rw [e10]; exact q1⟩)
    · exact nb_f (by decide) (nb_f (by decide) (nb_t rfl ⟨mk3 h1 hi k15, by rw [e15]; exact q1⟩))
    · exact nb_f (by decide) (nb_f (by decide) (nb_f (by decide) ⟨mk3 h1 hi k24, by rw [e24]; exact q1⟩))
  · unfold cntA at q1
    rw [if_neg (by rw [hp]; decide)] at q1
    exact q1
end CT
def ndA (T : Txt) (j w : Nat) : Int32 := if w = 0 then nI (T.srt j) else if w = 1 then oI (T.way j) else if w = 2 then oI (T.fa j) else if w = 3 then nI (T.chn j) else if w = 4 then nI (T.own j) else bI (T.root j).isSome
def a_node (S : Sx) (v1 v2 v3 : Int32) : Option (Int32 × Sx) := (pres S v1).bind fun i => (idx v2 (S.x i).T.nn).bind fun j => (idx v3 6).map fun w => (ndA (S.x i).T j w, S)
theorem kids_le {fa : Nat → Option Nat} {a : Nat} : ∀ n, (kids fa n a).length ≤ n := by
  intro n
  unfold kids
  exact Nat.le_trans (List.length_filter_le _ _) (by rw [List.length_range]; exact Nat.le_refl _)
theorem cntN_le {f : Nat → Nat} {a : Nat} : ∀ n, cntN f a n ≤ n := by
  intro n
  induction n with
  | zero => exact Nat.le_refl _
  | succ n ih => rw [cntN]; split <;> omega
theorem TOk.rt {T : Txt} (h : TOk T) {i p : Nat} (hi : i < T.nn) (e : T.root i = some p) : p < 400 := by
  obtain ⟨rs, R⟩ := h.R
  obtain ⟨m, hm, rfl⟩ := R.ro i hi p e
  have key : ∀ (l : List Mb) (lo : Nat), inc T.np lo l → ∀ m, m ∈ l → m.1 < T.np := by
    intro l
    induction l with
    | nil => intro lo _ m hm; cases hm
    | cons a l ih =>
      intro lo hl m hm
      rcases List.mem_cons.mp hm with rfl | hm
      · have h1 := hl.2.2.1
        have h2 := (inc_hi l _ hl.2.2.2).1
        omega
      · exact ih _ hl.2.2.2 m hm
  have h1 := key _ _ R.ic m (List.mem_map.mpr ⟨(i, m), hm, rfl⟩)
  have h2 := R.np
  omega
section ND
variable {S : Sx} {M : aM} {post : Int32 → aM → Prop} {ex : Nat → Prop} {v1 v2 v3 v4 : Int32} {e2 : Nat}
theorem c_nodeQ (so : SO S) (h : CI S M) (q : CA M post ex 0 e2 ((a_node S v1 v2 v3).map some)) : w_J_node post ex 1 v1 v2 v3 M := by
  unfold w_J_node
  refine c_pres h (fun z => ?_) (fun i z hi e hp => ?_)
  · simp only [a_node, z, Option.bind_none, Option.map_none] at q; exact q
  have R := (h.x i hi).R hp
  have ht := h.t hi
  have lnn := R.lnn
  refine c_idx (S.x i).T.nn (by omega) (fun y => ?_) (fun j y hj e2 => ?_) R.nn
  · simp only [a_node, z, y, Option.bind_some, Option.bind_none, Option.map_none] at q; exact q
  refine c_idx 6 (by omega) (fun u => ?_) (fun w u hw e3 => ?_)
  · simp only [a_node, z, y, u, Option.bind_some, Option.bind_none, Option.map_none] at q; exact q
  simp only [a_node, z, y, u, Option.bind_some, Option.map_some] at q
  have q1 : post (ndA (S.x i).T j w) M := q M h FB.refl
  subst e2 e3
  rw [nI_clamp (by omega)]
  generalize rR M 47 i = t at R ht
  have K := h.tp.K
  have iv : ∀ n, n = 100 → vp_in (nI j) n := fun n hn => by rw [hn]; exact vin (by omega)
  have : w = 0 ∨ w = 1 ∨ w = 2 ∨ w = 3 ∨ w = 4 ∨ w = 5 := by omega
  rcases this with rfl | rfl | rfl | rfl | rfl | rfl
  · exact br_t rfl ⟨iv _ (K.tl ht 13 100), by rw [show rI M (t + 9 + 4) j = _ from R.srt j hj]; exact q1⟩
  · exact br_f (by decide) (br_t rfl ⟨iv _ (K.tl ht 14 100), by rw [show rI M (t + 9 + 5) j = _ from R.way j hj]; exact q1⟩)
  · exact br_f (by decide) (br_f (by decide) (br_t rfl ⟨iv _ (K.tl ht 15 100), by rw [show rI M (t + 9 + 6) j = _ from R.fa j hj]; exact q1⟩))
  · exact br_f (by decide) (br_f (by decide) (br_f (by decide) (br_t rfl ⟨iv _ (K.tl ht 18 100), by rw [show rI M (t + 9 + 9) j = _ from R.chn j hj]; exact q1⟩)))
  · exact br_f (by decide) (br_f (by decide) (br_f (by decide) (br_f (by decide) (br_t rfl ⟨iv _ (K.tl ht 17 100), by rw [show rI M (t + 9 + 8) j = _ from R.own j hj]; exact q1⟩))))
  · refine br_f (by decide) (br_f (by decide) (br_f (by decide) (br_f (by decide) (br_f (by decide) ⟨iv _ (K.tl ht 16 100), ?_⟩))))
    have e : rI M (t + 9 + 7) j = oI ((S.x i).T.root j) := R.root j hj
    rw [e]
    have q2 : post (bI ((S.x i).T.root j).isSome) M := q1
    cases hr : (S.x i).T.root j with
    | none => rw [hr] at q2; exact nb_t rfl q2
    | some r =>
      rw [hr] at q2
      have lr := (so.x i hp).ok.rt hj hr
      exact nb_f (nI_m1 (by omega)) q2
theorem l_107 {i j : Nat} (h : MI S M) (hi : i ≤ 1) (hp : (S.x i).p = true) (hj : j < (S.x i).T.nn) (N : NI (S.x i).T) (q : post (nI (kids (S.x i).T.fa (S.x i).T.nn j).length) M) : ∀ n k, k + n = (S.x i).T.nn → w_Mo_node_L107 post (n + 1) 136 (nI i) (nI j) (nI (kids (S.x i).T.fa k j).length) (nI k) M := by
  have R := (h.x i hi).R hp
  have lnn := R.lnn
  have k10 : (rK M (136 + 10)).2 = 3 := mK h.tp.K 145 3
  have k13 : (rK M (136 + 13)).2 = 300 := mK h.tp.K 148 300
  have e10 : rI M (136 + 10) i = nI (S.x i).T.nn := by have := R.nn; rw [mRr (by omega), show szM 10 = 1 from rfl, show i * 1 + 0 = i by omega] at this; exact this
  intro n
  induction n with
  | zero =>
    intro k hk
    have : k = (S.x i).T.nn := by omega
    subst this
    unfold w_Mo_node_L107
    rw [nI_clamp (n := i) (by omega), e10]
    exact ⟨mk3 h hi k10, br_t (Int32.le_refl _) q⟩
  | succ n ih =>
    intro k hk
    unfold w_Mo_node_L107
    rw [nI_clamp (n := i) (by omega), e10, m100, nI_clamp (n := 100 * i + k) (by omega)]
    refine ⟨mk3 h hi k10, pk_le (S.x i).T.nn k (fun z => by omega) (fun _ => ⟨by rw [k13]; exact vin (by omega), ?_⟩)⟩
    have e13 : rI M (136 + 13) (100 * i + k) = oI ((S.x i).T.fa k) := by have := R.fa k (by omega); rw [mRr (by omega), show szM 13 = 100 from rfl, Nat.mul_comm] at this; exact this
    have ih2 := ih (k + 1) (by omega)
    rw [kids_s] at ih2
    have lk := kids_le (fa := (S.x i).T.fa) (a := j) k
    refine pk_on ((S.x i).T.fa k) j (fun z => ?_) (fun z => ?_) (fun a ha => by have := (N.fl k (by omega) a ha).1; omega) e13 rfl
    · rw [if_neg z, List.append_nil] at ih2
      rw [nI_1]; exact ih2
    · rw [if_pos z, List.length_append] at ih2
      rw [nI_1, nI_1]; exact ih2
theorem l_157 {i j : Nat} (h : MI S M) (hi : i ≤ 1) (hp : (S.x i).p = true) (hj : j < (S.x i).T.nn) (D : DI (S.x i).T) (q : post (nI (cntN (S.x i).T.dof j (S.x i).T.nd)) M) : ∀ n k, k + n = (S.x i).T.nd → w_Mo_node_L157 post (n + 1) 136 (nI i) (nI j) (nI (cntN (S.x i).T.dof j k)) (nI k) M := by
  have R := (h.x i hi).R hp
  have lnn := R.lnn
  have lnd := R.lnd
  have k24 : (rK M (136 + 24)).2 = 3 := mK h.tp.K 159 3
  have k25 : (rK M (136 + 25)).2 = 300 := mK h.tp.K 160 300
  have e24 : rI M (136 + 24) i = nI (S.x i).T.nd := by have := R.nd; rw [mRr (by omega), show szM 24 = 1 from rfl, show i * 1 + 0 = i by omega] at this; exact this
  intro n
  induction n with
  | zero =>
    intro k hk
    have : k = (S.x i).T.nd := by omega
    subst this
    unfold w_Mo_node_L157
    rw [nI_clamp (n := i) (by omega), e24]
    exact ⟨mk3 h hi k24, br_t (Int32.le_refl _) q⟩
  | succ n ih =>
    intro k hk
    unfold w_Mo_node_L157
    rw [nI_clamp (n := i) (by omega), e24, m100, nI_clamp (n := 100 * i + k) (by omega)]
    refine ⟨mk3 h hi k24, pk_le (S.x i).T.nd k (fun z => by omega) (fun _ => ⟨by rw [k25]; exact vin (by omega), ?_⟩)⟩
    have e25 : rI M (136 + 25) (100 * i + k) = nI ((S.x i).T.dof k) := by have := R.dof k (by omega); rw [mRr (by omega), show szM 25 = 100 from rfl, Nat.mul_comm] at this; exact this
    have ih2 := ih (k + 1) (by omega)
    rw [cntN] at ih2
    have lo := D.o k (by omega)
    refine pk_ne ((S.x i).T.dof k) j (fun z => ?_) (fun z => ?_) e25 rfl
    · rw [if_neg z] at ih2
      rw [nI_1]; exact ih2
    · rw [if_pos z] at ih2
      rw [nI_1, nI_1]; exact ih2
theorem m_nodeQ (so : SO S) (h : MI S M) (q : MA S M post ((a_node S v1 v2 v3).map some)) : w_Mo_node post 136 v1 v2 v3 M := by
  unfold w_Mo_node
  refine m_isNode h (fun z => br_t rfl ?_) (fun i z y => br_t rfl ?_) (fun i j z hi e hp y hj e2 => br_f (by decide) ?_)
  · simp only [a_node, z, Option.bind_none, Option.map_none] at q
    unfold w_Mo_node_J23 w_Mo_node_J24
    exact m_goes0 (nb_t rfl (ma0 h q))
  · simp only [a_node, z, y, Option.bind_some, Option.bind_none, Option.map_none] at q
    unfold w_Mo_node_J23 w_Mo_node_J24
    exact m_goes0 (nb_t rfl (ma0 h q))
  refine m_idx 6 (by omega) (fun u => br_t rfl ?_) (fun w u hw e3 => br_f (by decide) ?_)
  · simp only [a_node, z, y, u, Option.bind_some, Option.bind_none, Option.map_none] at q
    unfold w_Mo_node_J23 w_Mo_node_J24
    exact m_goes0 (nb_t rfl (ma0 h q))
  simp only [a_node, z, y, u, Option.bind_some, Option.map_some] at q
  unfold w_Mo_node_J24
  refine m_goes1 (nb_f (by decide) ?_)
  have q1 := ma1 h q
  have h1 := h.t (x := 0)
  generalize wI M 136 0 0 = M1 at q1 h1
  subst e e2 e3
  have ok := (so.x i hp).ok
  have R := (h1.x i hi).R hp
  have lnn := R.lnn
  have iv : ∀ n, n = 300 → vp_in (nI (100 * i + j)) n := fun n hn => by rw [hn]; exact vin (by omega)
  rw [m100, nI_clamp (by omega)]
  have rd : ∀ c, 1 ≤ c ∧ c < 31 → szM c = 100 → rI M1 (136 + c) (100 * i + j) = mR M1 i c j := fun c hc hs => by rw [mRr hc, hs, Nat.mul_comm]
  have : w = 0 ∨ w = 1 ∨ w = 2 ∨ w = 3 ∨ w = 4 ∨ w = 5 := by omega
  rcases this with rfl | rfl | rfl | rfl | rfl | rfl
  · exact br_t rfl ⟨iv _ (mK h1.tp.K 146 300), by rw [rd 11 (by omega) rfl, R.srt j hj]; exact q1⟩
  · exact br_f (by decide) (br_t rfl ⟨iv _ (mK h1.tp.K 147 300), by rw [rd 12 (by omega) rfl, R.way j hj]; exact q1⟩)
  · exact br_f (by decide) (br_f (by decide) (br_t rfl ⟨iv _ (mK h1.tp.K 148 300), by rw [rd 13 (by omega) rfl, R.fa j hj]; exact q1⟩))
  · refine br_f (by decide) (br_f (by decide) (br_f (by decide) (br_t rfl ⟨(S.x i).T.nn + 1, ?_⟩)))
    have q2 : post (nI ((S.x i).T.chn j)) M1 := q1
    rw [ok.N.ch j hj] at q2
    exact l_107 h1 hi hp hj ok.N q2 (S.x i).T.nn 0 (by omega)
  · refine br_f (by decide) (br_f (by decide) (br_f (by decide) (br_f (by decide) (br_t rfl ⟨(S.x i).T.nd + 1, ?_⟩))))
    have q2 : post (nI ((S.x i).T.own j)) M1 := q1
    rw [ok.D.w j hj] at q2
    exact l_157 h1 hi hp hj ok.D q2 (S.x i).T.nd 0 (by omega)
  · refine br_f (by decide) (br_f (by decide) (br_f (by decide) (br_f (by decide) (br_f (by decide) ⟨iv _ (mK h1.tp.K 149 300), ?_⟩))))
    rw [rd 14 (by omega) rfl, R.root j hj]
    have q2 : post (bI ((S.x i).T.root j).isSome) M1 := q1
    cases hr : (S.x i).T.root j with
    | none => rw [hr] at q2; exact nb_t rfl q2
    | some r =>
      rw [hr] at q2
      have lr := ok.rt hj hr
      exact nb_f (nI_m1 (by omega)) q2
end ND
