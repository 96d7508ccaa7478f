/-! LOAD. -/
abbrev Tx.new (T : Txt) : Tx := (true, T, fun _ => 0, false, fun _ => 0)
def ldS (S : Sx) (i : Nat) (T : Txt) : Sx := (S.b, 0, 0, up S.x i (Tx.new T), false, S.tl, 0, S.wv, S.pn, S.pb)
def ldA (S : Sx) (i : Nat) : PR PS → Int32 × Sx
  | .ok s => (nI s.T.nn, ldS S i s.T)
  | .error f => (-1 - nI f.2, S.tp S.b 0 f.1)
def a_load (S : Sx) (v : Int32) : Option (Int32 × Sx) := (idx v 2).map fun i => ldA S i (fText (tkOf S.b S.n) tx0)
theorem PM.sw0 {a b c : Nat} (h : PM a b c) : PM c b a := by unfold PM at h ⊢; omega
theorem PM.sw1 {a b c : Nat} (h : PM a b c) : PM a c b := by unfold PM at h ⊢; omega
theorem PM.ap {a b c i : Nat} {M : aM} (h : PM a b c) (ha : rR M 47 0 = a) (hb : rR M 47 1 = b) (hi : i ≤ 1) : 11 ≤ rR M 47 i ∧ rR M 47 i ≤ 84 ∧ (rR M 47 i + 36 ≤ c ∨ c + 36 ≤ rR M 47 i) := by
  have : i = 0 ∨ i = 1 := by omega
  unfold PM at h
  rcases this with rfl | rfl <;> omega
section LO
variable {S : Sx} {M : aM} {post : Int32 → aM → Prop} {ex : Nat → Prop} {v : Int32} {e2 : Nat}
theorem c_load (h : CI S M) (q : CA M post ex 0 e2 ((a_load S v).map some)) : w_J_load post ex 1 v M := by
  unfold w_J_load
  refine c_text (fun z => ?_) (fun i z hi e => ?_)
  · simp only [a_load, z, Option.map_none] at q; exact q
  simp only [a_load, z, Option.map_some] at q
  have q : ∀ M', CI (ldA S i (fText (tkOf S.b S.n) tx0)).2 M' → FB M M' → post (ldA S i (fText (tkOf S.b S.n) tx0)).1 M' := q
  have ln := h.tp.ln
  have pm := h.pm
  have ht : tOk (rR M 2 3) := by unfold PM at pm; unfold tOk; omega
  have K := h.tp.K
  have tl : 11 ≤ rR M 2 3 ∧ rR M 2 3 ≤ 84 := by unfold tOk at ht; omega
  refine c_read2 (t := rR M 2 3) h.tp ht rfl (fun M1 f1 => ?_)
  obtain ⟨n1, k1, r1, i1, j1⟩ := f1
  have key : ∀ M', FrC (rR M 2 3) (wI M1 3 1 0) M' → M'.1 = M.1 ∧ M'.2.1 = M.2.1 ∧ M'.2.2.2 = M.2.2.2 ∧ (∀ k, 8 ≤ k → (k < rR M 2 3 ∨ rR M 2 3 + 31 ≤ k) → rI M' k = rI M k) ∧ rI M' 0 = rI M 0 ∧ rI M' 3 1 = 0 ∧ (∀ j, rI M' 4 j = rI M 4 j) := by
    intro M' f
    refine ⟨f.1.trans n1, f.2.1.trans k1, f.2.2.1.trans r1, fun k g1 g2 => ?_, ?_, ?_, fun j => ?_⟩
    · rw [f.2.2.2 k (by omega) g2, rw_n (by omega), i1 k (by omega) (by omega) (by omega) (by omega)]
    · rw [f.2.2.2 0 (by omega) (by omega), rw_n (by omega), i1 0 (by omega) (by omega) (by omega) (by omega)]
    · rw [f.2.2.2 3 (by omega) (by omega), rw_ss]
    · rw [f.2.2.2 4 (by omega) (by omega), rw_n (by omega), i1 4 (by omega) (by omega) (by omega) (by omega)]
  generalize fText (tkOf S.b S.n) tx0 = r at q
  cases r with
  | ok s =>
    intro M' RC' hj
    have q : ∀ M', CI (ldS S i s.T) M' → FB M M' → post (nI s.T.nn) M' := q
    obtain ⟨n2, k2, r2, i2, z2, e3, e4⟩ := key M' RC'.L.fr
    have er : ∀ k j, rR M' k j = rR M k j := fun k j => congrFun (congrFun (congrArg Prod.fst r2) k) j
    have k44 : (rK M' (1 + 46)).2 = 2 := by rw [show rK M' = rK M from k2]; exact mK K 46 2
    have iv : vp_in v 2 := by rw [e]; exact vin (by omega)
    have cl : v.toNatClampNeg = i := by rw [e]; exact nI_clamp (by omega)
    refine br_t RC'.L.kd ?_
    unfold w_Rd_exchange w_Sv_forget
    simp only [kw_I, kw_R, k44, cl, Rw_I]
    refine ⟨iv, Or.inr trivial, iv, Or.inl trivial, iv, ?_⟩
    simp only [Nat.reduceAdd]
    rw [er 2 3]
    have e44 : rR (wR (wR (wI M' (rR M 2 3) 0 1) 2 3 (rR M' 47 i)) 47 i (rR M 2 3)) 47 i = rR M 2 3 := by rw [Rw_e, if_pos ⟨rfl, rfl⟩]
    rw [e44, rw_n (by omega), rw_n (by omega)]
    show post (rI (wI M' (rR M 2 3) 0 1) (rR M 2 3 + 9) 0) _
    rw [rw_n (by omega), show rI M' (rR M 2 3 + 9) 0 = _ from RC'.T.nn]
    have R1 : ∀ k j, rR (wR (wR (wI M' (rR M 2 3) 0 1) 2 3 (rR M' 47 i)) 47 i (rR M 2 3)) k j = if k = 47 ∧ j = i then rR M 2 3 else if k = 2 ∧ j = 3 then rR M 47 i else rR M k j := by
      intro k j
      rw [Rw_e, Rw_e, er]
      show (if k = 47 ∧ j = i then rR M 2 3 else if k = 2 ∧ j = 3 then rR M 47 i else rR M' k j) = _
      rw [er]
    have I1 : ∀ k, k ≠ 120 → k ≠ rR M 2 3 → rI (wI (wI (wR (wR (wI M' (rR M 2 3) 0 1) 2 3 (rR M' 47 i)) 47 i (rR M 2 3)) 120 0 0) 120 2 0) k = rI M' k := fun k g1 g2 => by
      rw [rw_n g1, rw_n g1, rw_R, rw_R, rw_n g2]
    have It : rI (wI (wI (wR (wR (wI M' (rR M 2 3) 0 1) 2 3 (rR M' 47 i)) 47 i (rR M 2 3)) 120 0 0) 120 2 0) (rR M 2 3) = up (rI M' (rR M 2 3)) 0 1 := by
      rw [rw_n (by omega), rw_n (by omega), rw_R, rw_R, rw_s]
    have I7 : ∀ j, rI (wI (wI (wR (wR (wI M' (rR M 2 3) 0 1) 2 3 (rR M' 47 i)) 47 i (rR M 2 3)) 120 0 0) 120 2 0) 120 j = if j = 2 then 0 else if j = 0 then 0 else rI M' 120 j := fun j => by
      rw [rw_s, rw_s, up, up, rw_R, rw_R, rw_n (by omega)]
    have hn : (wI (wI (wR (wR (wI M' (rR M 2 3) 0 1) 2 3 (rR M' 47 i)) 47 i (rR M 2 3)) 120 0 0) 120 2 0).1 = M.1 := n2
    have hk : (wI (wI (wR (wR (wI M' (rR M 2 3) 0 1) 2 3 (rR M' 47 i)) 47 i (rR M 2 3)) 120 0 0) 120 2 0).2.1 = M.2.1 := k2
    have hJ : (wI (wI (wR (wR (wI M' (rR M 2 3) 0 1) 2 3 (rR M' 47 i)) 47 i (rR M 2 3)) 120 0 0) 120 2 0).2.2.2.2 = M.2.2.2.2 := (show M'.2.2.2.2 = M.2.2.2.2 from congrArg Prod.snd r2)
    have R2 : ∀ k j, rR (wI (wI (wR (wR (wI M' (rR M 2 3) 0 1) 2 3 (rR M' 47 i)) 47 i (rR M 2 3)) 120 0 0) 120 2 0) k j = if k = 47 ∧ j = i then rR M 2 3 else if k = 2 ∧ j = 3 then rR M 47 i else rR M k j := R1
    generalize wI (wI (wR (wR (wI M' (rR M 2 3) 0 1) 2 3 (rR M' 47 i)) 47 i (rR M 2 3)) 120 0 0) 120 2 0 = M4 at I1 It I7 hn hk hJ R2 ⊢
    have K4 : KOk (rK M4) := by rw [show rK M4 = rK M from hk]; exact K
    have hi2 : i = 0 ∨ i = 1 := by omega
    refine q M4 ⟨⟨K4, ?_, Nat.zero_le _, fun j hj => absurd hj (Nat.not_lt_zero _), fun j hj => ?_, h.tp.lb, h.tp.ws.fr (by rw [I1 _ (by omega) (by omega), i2 _ (by omega) (by omega)]) (by rw [I1 _ (by omega) (by omega), i2 _ (by omega) (by omega)])⟩, ?_, ?_, fun i' hi' => ?_, ?_, fun j hj => ?_, ?_, fun j hj => absurd hj (Nat.not_lt_zero _), ?_, fun j hj => ?_, h.pw.fr (by rw [I1 _ (by omega) (by omega), i2 _ (by omega) (by omega)]) (by rw [I1 _ (by omega) (by omega), i2 _ (by omega) (by omega)])⟩ ⟨hn, hk, hJ, fun k hk => ?_, fun k hk => funext fun j => ?_⟩
    · rw [I1 _ (by omega) (by omega)]; exact e3
    · rw [I1 _ (by omega) (by omega), e4]; exact h.tp.b6 j hj
    · rw [I1 _ (by omega) (by omega)]; exact RC'.L.kd
    · rcases hi2 with rfl | rfl
      · have e0 : rR M4 47 0 = rR M 2 3 := by rw [R2]; exact if_pos ⟨rfl, rfl⟩
        have e1 : rR M4 47 1 = rR M 47 1 := by rw [R2, if_neg (fun c => absurd c.2 (by decide)), if_neg (fun c => absurd c.1 (by decide))]
        have e2 : rR M4 2 3 = rR M 47 0 := by rw [R2, if_neg (fun c => absurd c.1 (by decide))]; exact if_pos ⟨rfl, rfl⟩
        rw [e0, e1, e2]; exact pm.sw0
      · have e0 : rR M4 47 0 = rR M 47 0 := by rw [R2, if_neg (fun c => absurd c.2 (by decide)), if_neg (fun c => absurd c.1 (by decide))]
        have e1 : rR M4 47 1 = rR M 2 3 := by rw [R2]; exact if_pos ⟨rfl, rfl⟩
        have e2 : rR M4 2 3 = rR M 47 1 := by rw [R2, if_neg (fun c => absurd c.1 (by decide))]; exact if_pos ⟨rfl, rfl⟩
        rw [e0, e1, e2]; exact pm.sw1
    · rw [R2]
      show TXC M4 _ (up S.x i (Tx.new s.T) i')
      by_cases c : i' = i
      · subst c
        rw [if_pos ⟨rfl, rfl⟩, up_s]
        refine ⟨by rw [It]; exact up_s, fun _ => by rw [It, up_n (by omega)]; exact hj, fun _ => ?_, fun _ c => (by cases c), fun _ c => (by cases c)⟩
        refine RepC_congr1 RC'.T (fun c g1 g2 => ?_)
        exact I1 _ (by omega) (by omega)
      · rw [if_neg (fun y => c y.2), if_neg (fun y => absurd y.1 (by decide)), up_n c]
        have hh := pm.ap (i := i') rfl rfl hi'
        clear pm
        refine (h.x i' hi').fr (fun c hc => ?_)
        rw [I1 _ (by omega) (by omega), i2 _ (by omega) (by omega)]
    · rw [I7]; rfl
    · rw [I1 _ (by omega) (by omega), i2 _ (by omega) (by unfold tOk at ht; omega)]; exact h.tl j hj
    · rw [I7]; rfl
    · rw [I1 _ (by omega) (by omega), i2 _ (by omega) (by omega)]; exact h.pn
    · rw [I1 _ (by omega) (by omega), i2 _ (by omega) (by omega)]; exact h.pb j hj
    · rcases hk with rfl | hk
      · rw [I1 _ (by omega) (by omega)]; exact z2
      · rw [I1 _ (by omega) (by omega), i2 _ (by omega) (by omega)]
    · rw [R2, if_neg (by omega), if_neg (by omega)]
  | error f =>
    intro M' FC'
    have q : ∀ M', CI (S.tp S.b 0 f.1) M' → FB M M' → post (-1 - nI f.2) M' := q
    obtain ⟨n2, k2, r2, i2, z2, e3, e4⟩ := key M' FC'.fr
    have er : ∀ k, rR M' k = rR M k := fun k => congrFun (congrArg Prod.fst r2) k
    have e21 : rI M' (1 + 1) 1 = nI f.1 := FC'.kd
    have e22 : rI M' (1 + 1) 2 = nI f.2 := FC'.pl
    rw [e21, e22]
    have lf := FC'.lf
    refine br_f (nI_ne0 lf.1 (by omega)) ?_
    refine q _ (h.fr3 ⟨?_, ?_, Nat.zero_le _, fun j hj => absurd hj (Nat.not_lt_zero _), fun j hj => ?_, h.tp.lb, h.tp.ws.fr (i2 _ (by omega) (by omega)) (i2 _ (by omega) (by omega))⟩ e21 (fun k g1 g2 g3 => ?_) (fun k _ => er k)) ⟨n2, k2, congrArg Prod.snd r2, fun k hk => ?_, fun k _ => er k⟩
    · show KOk (rK M'); rw [show rK M' = rK M from k2]; exact K
    · exact e3
    · rw [e4]; exact h.tp.b6 j hj
    · exact i2 k (by omega) (by omega)
    · rcases hk with rfl | hk
      · exact z2
      · exact i2 k (by omega) (by omega)
theorem m_load (so : SO S) (h : MI S M) (q : MA S M post ((a_load S v).map some)) : w_Mo_load post 136 v M := by
  unfold w_Mo_load
  refine m_text2 (fun z => ?_) (fun i z hi e => ?_)
  · simp only [a_load, z, Option.map_none] at q
    exact m_goes0 (nb_t rfl (ma0 h q))
  simp only [a_load, z, Option.map_some] at q
  have q : ∀ M', MI (ldA S i (fText (tkOf S.b S.n) tx0)).2 M' → rI M' 136 0 = 0 → FD M M' → post (ldA S i (fText (tkOf S.b S.n) tx0)).1 M' := q
  refine m_goes1 (nb_f (by decide) ?_)
  have f0 : FD M (wI M 136 0 0) := FD.refl.w (by omega)
  have z0 : rI (wI M 136 0 0) 136 0 = 0 := rw_ss
  have h0 := h.t (x := 0)
  generalize wI M 136 0 0 = M0 at f0 z0 h0
  have hb : (∀ j, S.b j < 256) := h.tp.lb
  have hln := h.tp.ln
  have K0 := h0.tp.K
  have dn : ∀ k, k < 136 ∨ 187 ≤ k → ∀ j, ¬ dLo k j := fun k hk j => by unfold dLo; omega
  refine b_Mo_readText (post := fun M3 => BQ M3 → (((rI (wI M3 136 2 ((0 : Int32))) 136 38) = ((-1 : Int32))) → (vp_in v (rK M3 (136 + 2)).2 ∧ (((1 : Int32)) = 0 ∨ ((1 : Int32)) = 1)) ∧ (w_Mo_load_J44 post 136 v (wI (wI M3 136 2 ((0 : Int32))) (136 + 2) v.toNatClampNeg ((1 : Int32))))) ∧ (¬ ((rI (wI M3 136 2 ((0 : Int32))) 136 38) = ((-1 : Int32))) → post (((-1 : Int32)) - (rI (wI M3 136 2 ((0 : Int32))) 136 38)) (wI M3 136 2 ((0 : Int32))))) ?_ h0.bq (fun y b p => p b)
  refine m_text h0.tp h0.sz ?_
  have hTO : ∀ s, fText (tkOf S.b S.n) tx0 = .ok s → TO s.T := fun s hs => ⟨S.b, S.n, s, hln, hb, hs, rfl⟩
  generalize fText (tkOf S.b S.n) tx0 = r at q hTO
  cases r with
  | error f =>
    intro M3 F3 B3
    have q : ∀ M', MI (S.tp S.b 0 f.1) M' → rI M' 136 0 = 0 → FD M M' → post (-1 - nI f.2) M' := q
    have e38 : rI (wI M3 136 2 0) 136 38 = nI f.2 := by rw [rw_sn (by omega)]; exact F3.fl
    have lf := F3.lf
    rw [e38]
    refine br_f (nI_m1 (by omega)) ?_
    have fr := F3.fr
    have eN : ∀ k j, ¬ dLo k j → rI M3 k j = rI M0 k j := fr.2.2.2
    refine q _ (h0.fr3 so ⟨?_, rw_ss, Nat.zero_le _, fun j hj => absurd hj (Nat.not_lt_zero _), hb⟩ ?_ ?_ ?_ (fun k j g1 g2 g3 => ?_) (fun j hj => ?_)) ?_ (f0.tr ⟨fr.1, fr.2.1, fr.2.2.1, fun k hk => funext fun j => ?_⟩)
    · show KOk (rK M3); rw [show rK M3 = rK M0 from fr.2.1]; exact K0
    · intro k j hk; rw [rw_n (by omega)]; exact B3 k j hk
    · obtain ⟨z, hz, ez⟩ := F3.szb
      exact ⟨z, hz, by rw [rw_sn (by omega)]; exact ez⟩
    · rw [rw_sn (by omega)]; exact F3.fk
    · rw [rw_n (by omega)]; exact eN k j g3
    · rw [rw_sn (by omega)]; exact eN _ _ (by unfold dLo; omega)
    · rw [rw_sn (by omega), eN _ _ (by unfold dLo; omega)]; exact z0
    · rw [rw_n (by omega)]; exact eN _ _ (dn k hk j)
  | ok s =>
    intro M3 F3 B3
    have q : ∀ M', MI (ldS S i s.T) M' → rI M' 136 0 = 0 → FD M M' → post (nI s.T.nn) M' := q
    have to := hTO s rfl
    have ok := to.ok
    have fr := F3.L.fr
    have eN : ∀ k j, ¬ dLo k j → rI M3 k j = rI M0 k j := fr.2.2.2
    have K3 : KOk (rK M3) := by rw [show rK M3 = rK M0 from fr.2.1]; exact K0
    have e38 : rI (wI M3 136 2 0) 136 38 = -1 := by rw [rw_sn (by omega)]; exact F3.L.fl
    have cl : v.toNatClampNeg = i := by rw [e]; exact nI_clamp (by omega)
    have iv : vp_in v 3 := by rw [e]; exact vin (by omega)
    rw [e38, cl]
    refine br_t rfl ⟨⟨by rw [show (rK M3 (136 + 2)).2 = 3 from mK K3 137 3]; exact iv, Or.inr rfl⟩, ?_⟩
    unfold w_Mo_load_J44 w_Mo_load_J51 w_Mo_load_J56 w_Mo_load_J61
    rw [cl]
    refine ⟨⟨by simp only [kw_I]; rw [show (rK M3 (136 + 28)).2 = 3 from mK K3 163 3]; exact iv, Or.inl rfl⟩, Or.inl rfl, Or.inl rfl, ?_⟩
    have w1 : ∀ k j, k ≠ 136 → k ≠ 138 → k ≠ 164 → rI (wI (wI (wI (wI (wI M3 136 2 0) (136 + 2) i 1) (136 + 28) i 0) 136 51 0) 136 54 0) k j = rI M3 k j := fun k j g1 g2 g3 => by
      rw [rw_n g1, rw_n g1, rw_n g3, rw_n g2, rw_n g1]
    have w2 : ∀ j, j ≠ 2 → j ≠ 51 → j ≠ 54 → rI (wI (wI (wI (wI (wI M3 136 2 0) (136 + 2) i 1) (136 + 28) i 0) 136 51 0) 136 54 0) 136 j = rI M3 136 j := fun j g1 g2 g3 => by
      rw [rw_sn g3, rw_sn g2, rw_n (by omega), rw_n (by omega), rw_sn g1]
    have w3 : ∀ j, rI (wI (wI (wI (wI (wI M3 136 2 0) (136 + 2) i 1) (136 + 28) i 0) 136 51 0) 136 54 0) 138 j = if j = i then 1 else rI M3 138 j := fun j => by
      rw [rw_n (by omega), rw_n (by omega), rw_n (by omega), rw_s, up, rw_n (by omega)]
    have w4 : ∀ j, rI (wI (wI (wI (wI (wI M3 136 2 0) (136 + 2) i 1) (136 + 28) i 0) 136 51 0) 136 54 0) 164 j = if j = i then 0 else rI M3 164 j := fun j => by
      rw [rw_n (by omega), rw_n (by omega), rw_s, up, rw_n (by omega), rw_n (by omega)]
    have w5 : rI (wI (wI (wI (wI (wI M3 136 2 0) (136 + 2) i 1) (136 + 28) i 0) 136 51 0) 136 54 0) 136 2 = 0 := by
      rw [rw_sn (by omega), rw_sn (by omega), rw_n (by omega), rw_n (by omega)]; exact rw_ss
    have w6 : rI (wI (wI (wI (wI (wI M3 136 2 0) (136 + 2) i 1) (136 + 28) i 0) 136 51 0) 136 54 0) 136 51 = 0 := by
      rw [rw_sn (by omega)]; exact rw_ss
    have w7 : rI (wI (wI (wI (wI (wI M3 136 2 0) (136 + 2) i 1) (136 + 28) i 0) 136 51 0) 136 54 0) 136 54 = 0 := rw_ss
    have wn : (wI (wI (wI (wI (wI M3 136 2 0) (136 + 2) i 1) (136 + 28) i 0) 136 51 0) 136 54 0).1 = M3.1 := rfl
    have wk : (wI (wI (wI (wI (wI M3 136 2 0) (136 + 2) i 1) (136 + 28) i 0) 136 51 0) 136 54 0).2.1 = M3.2.1 := rfl
    have wr : (wI (wI (wI (wI (wI M3 136 2 0) (136 + 2) i 1) (136 + 28) i 0) 136 51 0) 136 54 0).2.2.2 = M3.2.2.2 := rfl
    generalize wI (wI (wI (wI (wI M3 136 2 0) (136 + 2) i 1) (136 + 28) i 0) 136 51 0) 136 54 0 = Mc at w1 w2 w3 w4 w5 w6 w7 wn wk wr ⊢
    have Kc : KOk (rK Mc) := by rw [show rK Mc = rK M3 from wk]; exact K3
    have Bc : BQ Mc := fun k j hk => by rw [w1 k j (by omega) (by omega) (by omega)]; exact B3 k j hk
    have Rc : RepM (mR Mc 2) s.T (fun _ => 0) := RepM_congr F3.T (fun c g1 g2 => funext fun j => by
      rw [mRr (by omega), mRr (by omega), w1 _ _ (by omega) (by omega) (by omega)])
    rw [e]
    refine m_copy Kc hi Bc (fun M2 C => ?_)
    have K2 : KOk (rK M2) := by rw [C.K]; exact Kc
    have hi2 : i = 0 ∨ i = 1 := by omega
    have co : ∀ k j, (k < 139 ∨ 163 < k) → rI M2 k j = rI Mc k j := fun k j hk => C.o k j (by omega)
    have cr : ∀ c j, 3 ≤ c → c < 28 → j < szM c → mR M2 i c j = cpv c (mR Mc 2 c j) := fun c j g1 g2 g3 => by
      rw [mRr (by omega), mRr (by omega)]; exact C.d c g1 g2 j g3
    have R2 : RepM (mR M2 i) s.T (fun _ => 0) := by
      refine RepM_cp Rc (fun c j g1 g2 g3 g4 g5 => by rw [cr c j g1 g2 g5, cpv_id ⟨g3, g4⟩]) (fun j z hj hz hz2 => ?_) ⟨ok.A.b, ok.W.b⟩ (fun j hj => ?_)
      · rw [cr 9 j (by omega) (by omega) (show j < 1296 from hj), hz]; exact sx_8 z hz2
      · have := Rc.lna
        rw [cr 7 j (by omega) (by omega) (show j < 8 by omega)]; rfl
    have e10 : rI M2 (136 + 10) i = nI s.T.nn := by
      have := R2.nn
      rw [mRr (by omega), show szM 10 = 1 from rfl, show i * 1 + 0 = i by omega] at this
      exact this
    refine ⟨by rw [show (rK M2 (136 + 10)).2 = 3 from mK K2 145 3]; exact vin (by omega), ?_⟩
    rw [e10]
    refine q M2 ⟨⟨K2, by rw [co _ _ (by omega)]; exact w5, Nat.zero_le _, fun j hj => absurd hj (Nat.not_lt_zero _), hb⟩, ?_, ?_, ?_, fun i' hi' => ?_, ?_, fun j hj => ?_, ?_, fun j hj => absurd hj (Nat.not_lt_zero _), ?_, fun j hj => ?_⟩ ?_ (f0.tr ⟨?_, ?_, ?_, fun k hk => funext fun j => ?_⟩)
    · intro k j hk
      have hs : szM (k - 136) = 8 := by rcases hk with rfl | rfl <;> rfl
      by_cases y : i * 8 ≤ j ∧ j < i * 8 + 8
      · have d := C.d (k - 136) (by omega) (by omega) (j - i * 8) (by rw [hs]; omega)
        rw [hs, show 136 + (k - 136) = k by omega, show i * 8 + (j - i * 8) = j by omega, cpv_id (by omega)] at d
        rw [d]; exact Bc k _ hk
      · rw [C.o k j (by rw [hs]; omega)]; exact Bc k j hk
    · obtain ⟨z, hz, ez⟩ := F3.L.szb
      exact ⟨z, hz, by rw [co _ _ (by omega), w2 _ (by omega) (by omega) (by omega)]; exact ez⟩
    · rw [co _ _ (by omega), w2 _ (by omega) (by omega) (by omega)]; exact F3.L.fk
    · show TXM M2 i' (up S.x i (Tx.new s.T) i')
      by_cases c : i' = i
      · subst c
        rw [up_s]
        refine ⟨by rw [co _ _ (by omega), w3, if_pos rfl]; rfl, fun _ => by rw [co _ _ (by omega), w4, if_pos rfl]; rfl, fun _ => R2, fun _ c => (by cases c), fun _ c => (by cases c)⟩
      · rw [up_n c]
        have hh : ∀ k j, (k = 165 ∨ k = 166 ∨ k = 174 ∨ k = 175) → rI M2 k j = rI M0 k j := fun k j hk => by
          rw [co _ _ (by omega), w1 _ _ (by omega) (by omega) (by omega), eN _ _ (by unfold dLo; omega)]
        refine (h0.x i' hi').frx (so.x i') ?_ ?_ (hh _ _ (by omega)) (fun k j hk _ => hh k _ (by omega)) (fun c' j g1 g2 g3 => ?_)
        · rw [co _ _ (by omega), w3, if_neg c, eN _ _ (by unfold dLo; omega)]
        · rw [co _ _ (by omega), w4, if_neg c, eN _ _ (by unfold dLo; omega)]
        · have h4 : i' * szM c' + j < 2 * szM c' ∧ ¬ (i * szM c' ≤ i' * szM c' + j ∧ i' * szM c' + j < i * szM c' + szM c') := by
            have : (i = 0 ∧ i' = 1) ∨ (i = 1 ∧ i' = 0) := by omega
            rcases this with ⟨rfl, rfl⟩ | ⟨rfl, rfl⟩ <;> omega
          rw [mRr (by omega), mRr (by omega), C.o _ _ (by rw [show 136 + c' - 136 = c' by omega]; omega), w1 _ _ (by omega) (by omega) (by omega)]
          exact eN _ _ (dLo_no c' _ g1 g2 h4.1)
    · rw [co _ _ (by omega)]; exact w6
    · rw [co _ _ (by omega), w1 _ _ (by omega) (by omega) (by omega), eN _ _ (by unfold dLo; omega)]; exact h0.tl j hj
    · exact Or.inl ⟨by rw [co _ _ (by omega)]; exact w7, rfl⟩
    · rw [co _ _ (by omega), w2 _ (by omega) (by omega) (by omega), eN _ _ (by unfold dLo; omega)]; exact h0.pn
    · rw [co _ _ (by omega), w1 _ _ (by omega) (by omega) (by omega), eN _ _ (by unfold dLo; omega)]; exact h0.pb j hj
    · rw [co _ _ (by omega), w2 _ (by omega) (by omega) (by omega), eN _ _ (by unfold dLo; omega)]; exact z0
    · exact C.n.trans (wn.trans fr.1)
    · exact C.k.trans (wk.trans fr.2.1)
    · exact C.r.trans (wr.trans fr.2.2.1)
    · rw [co _ _ (by omega), w1 _ _ (by omega) (by omega) (by omega), eN _ _ (dn k hk j)]
end LO
