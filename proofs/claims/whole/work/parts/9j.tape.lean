/-! END, FEED, AGAIN, BAG. -/
section EN
variable {S : Sx} {M : aM} {v : Int32}
theorem l_end {post : Int32 → aM → Prop} (h : CI S M) (hN : 188 ≤ aN M) (q0 : idx v (S.n + 1) = none → ∀ M', CI S M' → FL M M' → post 1 M') (q1 : ∀ k, idx v (S.n + 1) = some k → ∀ M', CI (S.tp S.b k S.fk) M' → FL M M' → post 0 M') : w_La_end post 1 v M := by
  have ln := h.tp.ln
  unfold w_La_end w_J_end
  cases z : idx v (S.n + 1) with
  | none =>
    have ex : post 1 (aNew M 3 1 6) := la_ex h hN (q0 z)
    refine ⟨fun _ => ⟨rfl, ex⟩, fun a => ⟨fun b => absurd b ?_, fun _ => ⟨rfl, ex⟩⟩⟩
    rcases idx_no (by omega) z with y | y
    · exact absurd y a
    · rw [show rI M (1 + 1 + 1) 1 = _ from h.tp.len]
      rw [Int32.le_iff_toInt_le, nI_toInt (by omega)] at *
      omega
  | some k =>
    obtain ⟨hk, rfl⟩ := idx_ok (by omega) z
    refine br_f (nI_pos (by omega)) (br_t ?_ ?_)
    · rw [show rI M (1 + 1 + 1) 1 = _ from h.tp.len]; exact nI_le (by omega) (by omega)
    · refine q1 k z _ ?_ ⟨⟨Nat.le_refl _, Nat.le_succ _⟩, Nat.le_add_right _ _, h.tp.K, rfl, fun k hk _ => rw_n (by omega)⟩
      refine h.fr3 ⟨h.tp.K, rw_ss, by omega, fun j hj => ?_, fun j hj => ?_, h.tp.lb, h.tp.ws.fr (rw_n (by omega)) (rw_n (by omega))⟩ ?_ (fun k h1 h2 _ => rw_n (by omega)) (fun _ _ => rfl)
      · rw [rw_n (by omega)]; exact h.tp.b j (by omega)
      · rw [rw_n (by omega)]; exact h.tp.b6 j hj
      · rw [rw_n (by omega)]; exact h.fk
theorem m_end {post : aM → Prop} (h : MI S M) (q0 : idx v (S.n + 1) = none → ∀ M', MI S M' → rI M' 136 0 = 1 → FD M M' → post M') (q1 : ∀ k, idx v (S.n + 1) = some k → ∀ M', MI (S.tp S.b k S.fk) M' → rI M' 136 0 = 0 → FD M M' → post M') : w_Mo_end post 136 v M := by
  have ln := h.tp.ln
  unfold w_Mo_end
  refine m_idx (S.n + 1) (by omega) (fun z => ?_) (fun k z hk e => ?_) (by rw [h.tp.len]; exact (nI_pred S.n).symm)
  · refine m_goes0 (br_t rfl (q0 z _ ?_ ?_ ((FD.refl.w (by omega)).w (by omega))))
    · refine (h.t (x := 1)).fr h.tp.K (fun k j _ _ _ => ?_)
      rw [rw_e]
      split
      · next c => obtain ⟨rfl, rfl⟩ := c; rfl
      · rfl
    · rw [rw_sn (by omega)]; exact rw_ss
  · subst e
    refine m_goes1 (br_f (by decide) (q1 k z _ ?_ ?_ ((FD.refl.w (by omega)).w (by omega))))
    · refine (h.t (x := 0)).fr2 (b := S.b) (n := k) ⟨h.tp.K, rw_ss, by omega, fun j hj => ?_, h.tp.lb⟩ (fun k h1 h2 => rw_n (by omega)) (fun j h1 h2 => rw_sn (by omega))
      rw [rw_n (by omega), rw_n (by omega)]; exact h.tp.b j (by omega)
    · rw [rw_sn (by omega)]; exact rw_ss
end EN
def bt (v : Int32) (i : Nat) : Nat := v.toBitVec.toNat / 2 ^ (24 - 8 * i) % 256
theorem bt_lt (v : Int32) (i : Nat) : bt v i < 256 := Nat.mod_lt _ (by omega)
theorem bt_c (v : Int32) (i : Nat) (hi : i < 4) : ((v.toUInt32 >>> ((nI (24 - 8 * i)).toUInt32 &&& Int32.toUInt32 31)).toInt32 &&& 255) = nI (bt v i) := by
  rw [pk_and _ 8 (m := 255) (by decide)]
  congr 1
  unfold bt
  have e : ∀ i, i < 4 → ((nI (24 - 8 * i)).toUInt32 &&& Int32.toUInt32 31) = UInt32.ofNat (24 - 8 * i) := by decide +kernel
  rw [e i hi]
  have e2 : ∀ i, i < 4 → (UInt32.ofNat (24 - 8 * i)).toNat % 32 = 24 - 8 * i := by decide +kernel
  have : (v.toUInt32 >>> UInt32.ofNat (24 - 8 * i)).toInt32.toBitVec.toNat = v.toBitVec.toNat / 2 ^ (24 - 8 * i) := by
    show (v.toUInt32 >>> UInt32.ofNat (24 - 8 * i)).toNat = _
    rw [UInt32.toNat_shiftRight, e2 i hi, Nat.shiftRight_eq_div_pow]
    rfl
  rw [this]
theorem bt_m (v : Int32) (i : Nat) (hi : i < 4) : ((v >>> (nI (24 - 8 * i) &&& 31)).toInt8.toInt32).toInt8.toInt32 = sx (bt v i) := by
  have key : ∀ s, s ≤ 24 → (v.toBitVec.sshiftRight s).setWidth 8 = BitVec.ofNat 8 (v.toBitVec.toNat / 2 ^ s % 256) := by
    intro s hs
    apply BitVec.eq_of_getLsbD_eq
    intro j hj
    rw [BitVec.getLsbD_setWidth, BitVec.getLsbD_sshiftRight, BitVec.getLsbD_ofNat]
    have h1 : s + j < 32 := by omega
    simp only [hj, decide_true, Bool.true_and]
    rw [if_pos h1, show (256 : Nat) = 2 ^ 8 from rfl, Nat.testBit_mod_two_pow, Nat.testBit_div_two_pow]
    simp only [hj, decide_true, Bool.true_and]
    have h2 : ¬ 32 ≤ j := by omega
    simp only [h2, decide_false, Bool.not_false, Bool.true_and]
    show v.toBitVec.toNat.testBit (s + j) = _
    rw [Nat.add_comm]
  have e3 : (v >>> (nI (24 - 8 * i) &&& 31)).toInt8 = (nI (bt v i)).toInt8 := by
    apply Int8.toBitVec_inj.mp
    have e4 : ∀ i, i < 4 → (nI (24 - 8 * i) &&& 31).toBitVec.smod 32 = BitVec.ofNat 32 (24 - 8 * i) := by decide +kernel
    have e5 : (v >>> (nI (24 - 8 * i) &&& 31)).toBitVec = v.toBitVec.sshiftRight (24 - 8 * i) := by
      rw [Int32.toBitVec_shiftRight]
      show v.toBitVec.sshiftRight (((nI (24 - 8 * i) &&& 31).toBitVec.smod 32).toNat) = _
      rw [e4 i hi]
      have : (BitVec.ofNat 32 (24 - 8 * i)).toNat = 24 - 8 * i := Nat.mod_eq_of_lt (by omega)
      rw [this]
    show (v >>> (nI (24 - 8 * i) &&& 31)).toBitVec.signExtend 8 = (nI (bt v i)).toBitVec.signExtend 8
    rw [BitVec.signExtend_eq_setWidth_of_le _ (by omega), BitVec.signExtend_eq_setWidth_of_le _ (by omega), e5, key _ (by omega)]
    show BitVec.ofNat 8 (bt v i) = _
    apply BitVec.eq_of_toNat_eq
    rw [BitVec.toNat_ofNat, BitVec.toNat_setWidth]
    show _ = (bt v i % 2 ^ 32) % 2 ^ 8
    rw [Nat.mod_eq_of_lt (a := bt v i) (b := 2 ^ 32) (by have := bt_lt v i; omega)]
  rw [e3]
  have := sx_8 (bt v i) (bt_lt v i)
  exact this
/-- the tape when k of the twenty bytes are fed -/
def fd (b : Nat → Nat) (n : Nat) (w : Nat → Int32) : Nat → (Nat → Nat)
  | 0 => b
  | k + 1 => up (fd b n w k) (n + k) (bt (w (k / 4)) (k % 4))
theorem fd_lt {b : Nat → Nat} {n : Nat} {w : Nat → Int32} (hb : ∀ j, b j < 256) : ∀ k j, fd b n w k j < 256 := by
  intro k
  induction k with
  | zero => exact hb
  | succ k ih =>
    intro j
    rw [fd, up]
    split
    · exact bt_lt _ _
    · exact ih j
theorem tp_put {b : Nat → Nat} {n x : Nat} {M : aM} (h : TpC b n M) (hn : n < 6000) (hx : x < 256) : TpC (up b n x) (n + 1) (wI (wI M 4 n (nI x)) 3 1 (nI (n + 1))) := by
  refine ⟨h.K, rw_ss, by omega, fun j hj => ?_, fun j hj => ?_, fun j => ?_, h.ws.fr ((rw_n (by omega)).trans (rw_n (by omega))) ((rw_n (by omega)).trans (rw_n (by omega)))⟩
  · rw [rw_n (by omega), rw_s]
    by_cases z : j = n
    · rw [z, up_s, up_s]
    · rw [up_n z, up_n z]; exact h.b j (by omega)
  · rw [rw_n (by omega), rw_s]
    by_cases z : j = n
    · rw [z, up_s, up_s]
    · rw [up_n z, up_n z]; exact h.b6 j hj
  · rw [up]; split
    · exact hx
    · exact h.lb j
section FE
variable {b : Nat → Nat} {n : Nat} {M0 M : aM} {w : Nat → Int32}
/-- four bytes -/
theorem t_app {post : aM → Prop} {m : Nat} (hm : m < 5) (hn : n + 20 ≤ 6000) (h : TpC (fd b n w (4 * m)) (n + 4 * m) M) (q : ∀ M', TpC (fd b n w (4 * (m + 1))) (n + 4 * (m + 1)) M' → M'.1 = M.1 → M'.2.1 = M.2.1 → M'.2.2.2 = M.2.2.2 → (∀ k, k ≠ 3 → k ≠ 4 → rI M' k = rI M k) → post M') : w_Tp_append post 3 (w m) M := by
  unfold w_Tp_append
  refine ⟨5, ?_⟩
  have key : ∀ j M', j ≤ 4 → TpC (fd b n w (4 * m + j)) (n + (4 * m + j)) M' → M'.1 = M.1 → M'.2.1 = M.2.1 → M'.2.2.2 = M.2.2.2 → (∀ k, k ≠ 3 → k ≠ 4 → rI M' k = rI M k) → w_Tp_append_L3 post (5 - j) 3 (w m) (nI 24 - nI (8 * j)) M' := by
    intro j
    have hj : ∀ d j, j + d = 4 → ∀ M', TpC (fd b n w (4 * m + j)) (n + (4 * m + j)) M' → M'.1 = M.1 → M'.2.1 = M.2.1 → M'.2.2.2 = M.2.2.2 → (∀ k, k ≠ 3 → k ≠ 4 → rI M' k = rI M k) → w_Tp_append_L3 post (d + 1) 3 (w m) (nI 24 - nI (8 * j)) M' := by
      intro d
      induction d with
      | zero =>
        intro j hj M' h1 h2 h3 h4 h5
        have : j = 4 := by omega
        subst this
        unfold w_Tp_append_L3
        exact br_t (by decide) (q M' h1 h2 h3 h4 h5)
      | succ d ih =>
        intro j hj M' h1 h2 h3 h4 h5
        unfold w_Tp_append_L3
        have e24 : nI 24 - nI (8 * j) = nI (24 - 8 * j) := pk_sub (by omega)
        rw [e24]
        refine br_f (nI_pos (by omega)) (pk_le 6000 (n + (4 * m + j)) (fun z => by omega) (fun _ => ?_) rfl h1.len)
        have k4 : (rK M' (3 + 1)).2 = 6000 := mK h1.K 3 6000
        rw [h1.len, nI_clamp (by omega), k4, bt_c _ _ (by omega), rw_n (by omega), h1.len, nI_1]
        refine ⟨vin (by omega), ?_⟩
        have e2 : nI (24 - 8 * j) + (-8 : Int32) = nI 24 - nI (8 * (j + 1)) := by
          have : ∀ j, j < 4 → nI (24 - 8 * j) + (-8 : Int32) = nI 24 - nI (8 * (j + 1)) := by decide +kernel
          exact this j (by omega)
        rw [e2]
        refine ih (j + 1) (by omega) _ ?_ h2 h3 h4 (fun k g1 g2 => by rw [rw_n g1, rw_n (by omega)]; exact h5 k g1 g2)
        have t := tp_put h1 (by omega) (bt_lt (w m) j)
        have ew : (4 * m + j) / 4 = m := by omega
        have er : (4 * m + j) % 4 = j := by omega
        rw [show 4 * m + (j + 1) = (4 * m + j) + 1 by omega, fd, ew, er]
        exact t
    intro M' hj4 h1 h2 h3 h4 h5
    have := hj (4 - j) j (by omega) M' h1 h2 h3 h4 h5
    rw [show 4 - j + 1 = 5 - j by omega] at this
    exact this
  have := key 0 M (by omega) h rfl rfl rfl (fun _ _ _ => rfl)
  exact this
end FE
def w5 (a b c d e : Int32) (i : Nat) : Int32 := if i = 0 then a else if i = 1 then b else if i = 2 then c else if i = 3 then d else e
def a_feed (S : Sx) (a b c d e : Int32) : Option (Int32 × Sx) := if S.n ≤ 5980 then some (nI (S.n + 20), S.tp (fd S.b S.n (w5 a b c d e) 20) (S.n + 20) S.fk) else none
section FF
variable {S : Sx} {M : aM} {post : Int32 → aM → Prop} {ex : Nat → Prop} {v1 v2 v3 v4 v5 : Int32} {e2 : Nat}
theorem c_feed (h : CI S M) (q : CA M post ex 2 e2 ((a_feed S v1 v2 v3 v4 v5).map some)) : w_J_feed post ex 1 v1 v2 v3 v4 v5 M := by
  unfold w_J_feed
  have ln := h.tp.ln
  refine pk_le S.n 5980 (fun z => ?_) (fun z => ?_) h.tp.len rfl
  · unfold a_feed at q
    rw [if_pos z] at q
    refine t_app (m := 0) (b := S.b) (n := S.n) (w := w5 v1 v2 v3 v4 v5) (by omega) (by omega) h.tp (fun M1 t1 n1 k1 r1 f1 => ?_)
    refine t_app (m := 1) (by omega) (by omega) t1 (fun M2 t2 n2 k2 r2 f2 => ?_)
    refine t_app (m := 2) (by omega) (by omega) t2 (fun M3 t3 n3 k3 r3 f3 => ?_)
    refine t_app (m := 3) (by omega) (by omega) t3 (fun M4 t4 n4 k4 r4 f4 => ?_)
    refine t_app (m := 4) (by omega) (by omega) t4 (fun M5 t5 n5 k5 r5 f5 => ?_)
    rw [show rI M5 (1 + 1 + 1) 1 = _ from t5.len]
    have f : ∀ k, k ≠ 3 → k ≠ 4 → rI M5 k = rI M k := fun k g1 g2 => by rw [f5 k g1 g2, f4 k g1 g2, f3 k g1 g2, f2 k g1 g2, f1 k g1 g2]
    have er : M5.2.2.2 = M.2.2.2 := by rw [r5, r4, r3, r2, r1]
    refine q M5 (h.fr3 t5 (by rw [f _ (by omega) (by omega)]; exact h.fk) (fun k g1 g2 _ => f k (by omega) (by omega)) (fun k _ => congrFun (congrArg Prod.fst er) k)) ⟨by rw [n5, n4, n3, n2, n1], by rw [k5, k4, k3, k2, k1], congrArg Prod.snd er, fun k hk => f k (by omega) (by omega), fun k _ => congrFun (congrArg Prod.fst er) k⟩
  · unfold a_feed at q
    rw [if_neg (by omega)] at q
    exact q
theorem l_30 {b : Nat → Nat} {n : Nat} {M0 : aM} (hn : n + 20 ≤ 6000) (q : ∀ M', TpM (fd b n (w5 v1 v2 v3 v4 v5) 20) (n + 20) M' → FD M0 M' → (∀ k, 138 ≤ k → rI M' k = rI M0 k) → (∀ j, j ≠ 2 → rI M' 136 j = rI M0 136 j) → post (nI (n + 20)) M') : ∀ d k M, k + d = 20 → TpM (fd b n (w5 v1 v2 v3 v4 v5) k) (n + k) M → FD M0 M → (∀ k, 138 ≤ k → rI M k = rI M0 k) → (∀ j, j ≠ 2 → rI M 136 j = rI M0 136 j) → w_Mo_feed_L30 post (d + 1) 136 v1 v2 v3 v4 v5 (nI k) M := by
  intro d
  induction d with
  | zero =>
    intro k M hk h1 h2 h3 h4
    have : k = 20 := by omega
    subst this
    unfold w_Mo_feed_L30
    exact br_t (by decide) (by rw [h1.len]; exact q M h1 h2 h3 h4)
  | succ d ih =>
    intro k M hk h1 h2 h3 h4
    have step : w_Mo_feed_J83 post (w_Mo_feed_L30 post (d + 1)) 136 v1 v2 v3 v4 v5 (nI k) (w5 v1 v2 v3 v4 v5 (k / 4)) M := by
      unfold w_Mo_feed_J83
      have k1 : (rK M (136 + 1)).2 = 6000 := mK h1.K 136 6000
      have e1 : (24 : Int32) - 8 * (nI k - nI k / 4 * 4) = nI (24 - 8 * (k % 4)) := by
        rw [show (4 : Int32) = nI 4 from rfl, pk_rem (by omega) (by omega) (by omega), show (8 : Int32) = nI 8 from rfl, pk_mul, show (24 : Int32) = nI 24 from rfl, pk_sub (by omega)]
      rw [e1, bt_m _ _ (by omega), rw_n (by omega), h1.len, nI_clamp (by omega), k1, nI_1, nI_1]
      refine ⟨by decide, vin (by omega), ih (k + 1) _ (by omega) ⟨h1.K, rw_ss, by omega, fun j hj => ?_, (fun j => by rw [fd, up]; split; exact bt_lt _ _; exact h1.lb j)⟩ ((h2.w (by omega)).w (by omega)) (fun k' g => by rw [rw_n (by omega), rw_n (by omega)]; exact h3 k' g) (fun j g => by rw [rw_sn g, rw_n (by omega)]; exact h4 j g)⟩
      rw [rw_n (by omega), rw_s, fd]
      by_cases z : j = n + k
      · rw [z, up_s, up_s]
      · rw [up_n z, up_n z]; exact h1.b j (by omega)
    unfold w_Mo_feed_L30
    refine pk_le 20 k (fun z => by omega) (fun _ => ?_)
    refine pk_le 4 k (fun z4 => ?_) (fun z4 => ?_)
    · refine pk_le 8 k (fun z8 => ?_) (fun z8 => ?_)
      · refine pk_le 12 k (fun z12 => ?_) (fun z12 => ?_)
        · refine pk_le 16 k (fun z16 => ?_) (fun z16 => ?_)
          · rw [show k / 4 = 4 by omega] at step; exact step
          · rw [show k / 4 = 3 by omega] at step; exact step
        · rw [show k / 4 = 2 by omega] at step; exact step
      · rw [show k / 4 = 1 by omega] at step; exact step
    · rw [show k / 4 = 0 by omega] at step; exact step
theorem m_feed (h : MI S M) (q : MA S M post ((a_feed S v1 v2 v3 v4 v5).map some)) : w_Mo_feed post 136 v1 v2 v3 v4 v5 M := by
  have ln := h.tp.ln
  unfold w_Mo_feed
  rw [h.tp.len, show nI S.n + (20 : Int32) = nI (S.n + 20) from nI_add S.n 20]
  refine pk_lt 6000 (S.n + 20) (fun z => ?_) (fun z => ?_)
  · unfold a_feed at q
    rw [if_neg (by omega)] at q
    unfold w_Mo_feed_J19
    exact m_goes0 (nb_t rfl (ma0 h q))
  · unfold a_feed at q
    rw [if_pos (by omega)] at q
    unfold w_Mo_feed_J19
    refine m_goes1 (nb_f (by decide) ⟨21, ?_⟩)
    refine l_30 (b := S.b) (n := S.n) (M0 := wI M 136 0 0) (by omega) (fun M' t' f' g1 g2 => ?_) 20 0 _ rfl h.t.tp FD.refl (fun _ _ => rfl) (fun _ _ => rfl)
    refine q M' (h.t.fr2 t' (fun k h1 _ => g1 k h1) (fun j _ h2 => g2 j h2)) (by rw [g2 _ (by omega)]; exact rw_ss) ((FD.refl.w (by omega)).tr f')
end FF
