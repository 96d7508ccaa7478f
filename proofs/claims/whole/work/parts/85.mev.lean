/-! TRUTHS of expressions; the model finds them, in the order in which the parts are completed. -/
theorem pc_low : ∀ m, m < 256 → m ≠ 0 → (nI m &&& (nI m - 1)) = nI (m &&& (m - 1)) ∧ pc (m &&& (m - 1)) + 1 = pc m ∧ m &&& (m - 1) < 256 := by decide +kernel
theorem pc_0 : ∀ m, m < 256 → pc m = 0 → m = 0 := by decide +kernel
theorem m_bits {M : aM} {post : Int32 → Prop} {m : Nat} (hm : m < 256) (p : post (nI (pc m))) : w_Mo_bits post (nI m) M := by
  have key : ∀ f m c, f = pc m → m < 256 → post (nI (c + pc m)) → w_Mo_bits_L4 M post (f + 1) (nI c) (nI m) := by
    intro f
    induction f with
    | zero =>
      intro m c hf hm q
      have h0 := pc_0 m hm hf.symm
      subst h0
      unfold w_Mo_bits_L4
      exact br_t rfl q
    | succ f ih =>
      intro m c hf hm q
      unfold w_Mo_bits_L4
      have h0 : m ≠ 0 := by intro z; rw [z, show pc 0 = 0 from by decide] at hf; omega
      have hl := pc_low m hm h0
      refine br_f (nI_ne0 (by omega) (by omega)) ?_
      rw [nI_1, hl.1]
      refine ih _ (c + 1) (by omega) hl.2.2 ?_
      rw [show c + 1 + pc (m &&& (m - 1)) = c + pc m by omega]
      exact q
  have := key (pc m) m 0 rfl hm (by rw [Nat.zero_add]; exact p)
  exact ⟨_, this⟩
theorem nib_31 : ∀ l : List Nat, (∀ v, v ∈ l → v < 8) → 15 * nib l + 7 ≤ 7 * 16 ^ l.length := by
  intro l
  induction l with
  | nil => intro _; show 15 * 0 + 7 ≤ 7 * 1; omega
  | cons w l ih =>
    intro h
    have h1 := ih (fun v hv => h v (List.mem_cons_of_mem _ hv))
    have h2 := h w (List.mem_cons_self ..)
    show 15 * (w + 16 * nib l) + 7 ≤ 7 * 16 ^ (l.length + 1)
    rw [Nat.pow_succ]
    omega
theorem nib_get : ∀ (l : List Nat) (k : Nat), (∀ v, v ∈ l → v < 8) → nib l / 16 ^ k % 16 = l.getD k 0 := by
  intro l
  induction l with
  | nil => intro k _; show 0 / 16 ^ k % 16 = 0; rw [Nat.zero_div]
  | cons w l ih =>
    intro k h
    have h2 := h w (List.mem_cons_self ..)
    cases k with
    | zero => show (w + 16 * nib l) / 1 % 16 = w; rw [Nat.div_one]; omega
    | succ k =>
      show (w + 16 * nib l) / 16 ^ (k + 1) % 16 = l.getD k 0
      rw [Nat.pow_succ, Nat.mul_comm (16 ^ k) 16, ← Nat.div_div_eq_div_mul, show (w + 16 * nib l) / 16 = nib l by omega]
      exact ih k (fun v hv => h v (List.mem_cons_of_mem _ hv))
theorem sh4 : ∀ k, k < 8 → ((((4 : Int32) * nI k) &&& 31).toBitVec.smod 32).toNat = 4 * k := by decide +kernel
theorem msk_lt : ∀ l : List Nat, (∀ v, v ∈ l → v < 8) → msk l < 256 := by
  intro l
  induction l with
  | nil => intro _; show 0 < 256; omega
  | cons w l ih =>
    intro h
    have h1 := ih (fun v hv => h v (List.mem_cons_of_mem _ hv))
    exact (bit_set (msk l) h1 w (h w (List.mem_cons_self ..))).2
section MV
variable {M : aM} {t : Nat} {T : Txt} {g : Nat → Nat}
theorem mK (K : KOk (rK M)) (k m : Nat) (hk : k < 187 := by omega) (hn : (aKs.getD k (0, 0)).2 = m := by rfl) : (rK M (k + 1)).2 = m := K.l k m hk hn
/-- a list as a mask -/
theorem m_mask {post : Int32 → Prop} {j : Nat} {l : List Nat} (K : KOk (rK M)) (hj : j < 1200) (hl : l.length ≤ 8) (hv : ∀ v, v ∈ l → v < 8) (hx : rI M 154 j = nI l.length) (hy : rI M 155 j = nI (nib l)) (p : post (nI (msk l))) : w_Mo_maskOf post 136 (nI j) M := by
  have k1 : (rK M 154).2 = 1200 := mK K 153 1200
  have k2 : (rK M 155).2 = 1200 := mK K 154 1200
  have hin : vp_in (nI j) 1200 := vin hj
  have h31 := nib_31 l hv
  have hp : 16 ^ l.length ≤ 16 ^ 8 := Nat.pow_le_pow_right (by omega) hl
  have hN : nib l < 2 ^ 31 := by
    have : (16 : Nat) ^ 8 = 4294967296 := by decide
    omega
  have key : ∀ f k, f = l.length - k → k ≤ l.length → w_Mo_maskOf_L4 M post (f + 1) 136 (nI j) (nI (msk (l.take k))) (nI k) := by
    intro f
    induction f with
    | zero =>
      intro k hf hk
      unfold w_Mo_maskOf_L4
      simp (disch := omega) only [Nat.reduceAdd, nI_clamp, k1, hx]
      refine ⟨hin, pk_le l.length k (fun _ => ?_) (fun z => by omega)⟩
      rw [List.take_of_length_le (by omega)]
      exact p
    | succ f ih =>
      intro k hf hk
      have hkl : k < l.length := by omega
      unfold w_Mo_maskOf_L4
      simp (disch := omega) only [Nat.reduceAdd, nI_clamp, k1, k2, hx, hy]
      refine ⟨hin, pk_le l.length k (fun z => by omega) (fun _ => ⟨hin, ?_⟩)⟩
      have hg : l.getD k 0 < 8 := by
        rw [List.getD_eq_getElem?_getD, List.getElem?_eq_getElem hkl]
        exact hv _ (List.getElem_mem hkl)
      have e1 : nI (nib l) >>> (((4 : Int32) * nI k) &&& 31) = nI (nib l / 2 ^ (4 * k)) := pk_shrN hN _ (4 * k) (sh4 k (by omega))
      have e2 : nI (nib l / 2 ^ (4 * k)) &&& 15 = nI (l.getD k 0) := by
        rw [pk_andN (n := nib l / 2 ^ (4 * k)) (by have := Nat.div_le_self (nib l) (2 ^ (4 * k)); omega) 4 (by decide), ← nib_get l k hv, Nat.pow_mul]
      rw [e1, e2, (shl1 _ hg).1, nI_or, nI_1]
      have e3 : msk (l.take k) ||| 1 <<< l.getD k 0 = msk (l.take (k + 1)) := by
        have e4 : l.take (k + 1) = l.take k ++ [l.getD k 0] := by
          rw [List.take_succ, List.getD_eq_getElem?_getD, List.getElem?_eq_getElem hkl]
          rfl
        rw [e4, msk_app]
      rw [e3]
      exact ih (k + 1) (by omega) (by omega)
  have := key l.length 0 rfl (by omega)
  exact ⟨_, this⟩
theorem m_tOf {post : Int32 → Prop} {b : Bool} {x : Int32} (p : post (nI b.toNat)) (hx : x = bI b := by rfl) : w_Mo_truthOf post x M := by
  subst hx
  unfold w_Mo_truthOf
  cases b with
  | false => exact br_t rfl p
  | true => exact br_f (by decide) p
theorem m_mis {post : Int32 → Prop} {a : Nat} {x : Int32} (h : RepM (mR M t) T g) (K : KOk (rK M)) (ht : t ≤ 2) (hg : ∀ i, g i < 256) (ha : a < T.na) (p : post (bI (mis T g a))) (hx : x = nI (8 * t + a) := by rfl) : w_Mo_isMissing post 136 x M := by
  subst hx
  have lna := h.lna
  have k1 : (rK M 142).2 = 24 := mK K 141 24
  have k2 : (rK M 143).2 = 24 := mK K 142 24
  have e1 : rI M 142 (t * 8 + a) = bI (T.amust a) := h.amust a ha
  have e2 : rI M 143 (t * 8 + a) = nI (g a) := h.bag a ha
  have hb := hg a
  rw [Nat.mul_comm] at e1 e2
  unfold w_Mo_isMissing
  simp (disch := omega) only [Nat.reduceAdd, nI_clamp, k1, k2, e1, e2]
  refine ⟨vin (by omega), pk_b0 (T.amust a) (fun z => ⟨Or.inl trivial, ?_⟩) (fun z => ⟨vin (by omega), ?_⟩)⟩
  · rw [show mis T g a = false by unfold mis; simp [z]] at p
    exact p
  · refine pk_ne (g a) 0 (fun z2 => ⟨Or.inl trivial, ?_⟩) (fun z2 => ⟨Or.inr trivial, ?_⟩)
    · rw [show mis T g a = false by unfold mis; simp [z2]] at p
      exact p
    · rw [show mis T g a = true by unfold mis; simp [z, z2]] at p
      exact p
theorem mkK_vals : mkK 16 = 3 ∧ mkK 17 = 4 ∧ mkK 18 = 5 ∧ mkK 60 = 6 ∧ mkK 61 = 7 ∧ mkK 62 = 8 ∧ mkK 19 = 9 ∧ mkK 20 = 10 ∧ mkK 21 = 11 ∧ mkK 12 = 12 ∧ mkK 10 = 13 ∧ mkK 11 = 14 ∧ mkK 13 = 0 ∧ mkK 14 = 1 ∧ mkK 15 = 2 := by decide
/-- the model finds the truth of a test -/
theorem m_tst {post : Int32 → Prop} {p : Nat} {x y : Int32} (h : RepM (mR M t) T g) (K : KOk (rK M)) (ht : t ≤ 1) (hg : ∀ i, g i < 256) (hp : p < T.np) (hl : leafOk T p) (hc : T.pk p ≠ 13 ∧ T.pk p ≠ 14 ∧ T.pk p ≠ 15) (q : post (nI (tstV T g p))) (hx : x = nI t := by rfl) (hy : y = nI (400 * t + p) := by rfl) : w_Mo_test post 136 x y M := by
  subst hx hy
  rcases hl with hl | ⟨ha, hl⟩
  · omega
  have lnp := h.lnp
  have lna := h.lna
  have hz8 := h.lasz _ ha
  obtain ⟨v16, v17, v18, v60, v61, v62, v19, v20, v21, _⟩ := mkK_vals
  have k17 : (rK M 153).2 = 1200 := mK K 152 1200
  have k7 : (rK M 143).2 = 24 := mK K 142 24
  have k16 : (rK M 152).2 = 1200 := mK K 151 1200
  have k18 : (rK M 154).2 = 1200 := mK K 153 1200
  have h16 : 16 ≤ T.pk p := by rcases hl with b | b | b | b | b <;> omega
  have ea : rI M 153 (t * 400 + p) = nI (T.pa p) := h.pa p hp h16
  have ek : rI M 152 (t * 400 + p) = nI (mkK (T.pk p)) := h.pk p hp
  have en : Nm (T.pk p) (T.pnum p) (rI M 154 (t * 400 + p)) (rI M 155 (t * 400 + p)) := h.pnum p hp
  have eb : ∀ i, i < T.na → rI M 143 (t * 8 + i) = nI (g i) := h.bag
  rw [Nat.mul_comm] at ea ek en
  have eb2 : ∀ i, i < T.na → rI M 143 (8 * t + i) = nI (g i) := fun i hi => by rw [Nat.mul_comm]; exact eb i hi
  have hb := hg (T.pa p)
  have hin : vp_in (nI (400 * t + p)) 1200 := vin (by omega)
  have e8 : ∀ i, (8 : Int32) * nI t + nI i = nI (8 * t + i) := fun i => by rw [show (8 : Int32) = nI 8 from rfl, pk_mul, nI_add]
  have hia : vp_in (nI (8 * t + T.pa p)) 24 := vin (by omega)
  unfold w_Mo_test
  simp (disch := omega) only [Nat.reduceAdd, nI_clamp, ea, ek, e8, eb2 _ ha, k17, k7, k16, k18]
  refine ⟨hin, hia, hin, ?_⟩
  unfold tstV at q
  unfold Nm at en
  have hmk : mkK (T.pk p) < 2 ^ 31 := by
    rcases hl with ⟨b | b, _⟩ | ⟨b | b, _⟩ | ⟨b, _⟩ | ⟨b | b | b, _⟩ | b <;> rw [b] <;> decide
  by_cases c16 : T.pk p = 16
  · rw [if_pos c16] at q
    rw [if_neg (by omega)] at en
    have hv : T.pnum p < 8 := by rcases hl with b | b | b | b | b <;> omega
    rw [c16, v16]
    refine br_t rfl ?_
    refine m_mis (a := T.pa p) h K (by omega) hg ha ?_
    refine pk_b0 (mis T g (T.pa p)) (fun zb => ?_) (fun zb => ?_)
    · rw [if_neg (by rw [zb]; simp)] at q
      rw [en.1, bit_get _ hb _ hv]
      refine ⟨hin, ?_⟩
      cases zt : (g (T.pa p)).testBit (T.pnum p) with
      | false =>
        rw [zt] at q
        refine nb_f (by decide) ?_
        unfold w_Mo_test_J104
        exact m_tOf (b := false) q
      | true =>
        rw [zt] at q
        refine nb_t rfl ?_
        unfold w_Mo_test_J104
        exact m_tOf (b := true) q
    · rw [if_pos zb] at q
      exact q
  rw [if_neg c16] at q
  by_cases c17 : T.pk p = 17
  · rw [if_pos c17] at q
    rw [if_pos (Or.inl c17)] at en
    obtain ⟨l, l1, l2, l3, l4, l5⟩ := en
    rw [c17, v17]
    refine br_f (by decide) (br_t rfl ?_)
    refine m_mis (a := T.pa p) h K (by omega) hg ha ?_
    refine pk_b0 (mis T g (T.pa p)) (fun zb => ?_) (fun zb => ?_)
    · rw [if_neg (by rw [zb]; simp)] at q
      refine m_mask K (by omega) l1 l2 l3 l4 ?_
      rw [← l5, nI_and]
      have hlt := and_lt (b := T.pnum p) hb
      refine pk_eq (g (T.pa p) &&& T.pnum p) 0 (fun zt => ?_) (fun zt => ?_)
      · unfold w_Mo_test_J136
        rw [decide_eq_false (fun w => w zt)] at q
        exact m_tOf (b := false) q
      · unfold w_Mo_test_J136
        rw [decide_eq_true zt] at q
        exact m_tOf (b := true) q
    · rw [if_pos zb] at q
      exact q
  rw [if_neg c17] at q
  by_cases c18 : T.pk p = 18
  · rw [if_pos c18] at q
    rw [if_pos (Or.inr c18)] at en
    obtain ⟨l, l1, l2, l3, l4, l5⟩ := en
    have hv := msk_lt l l2
    rw [c18, v18]
    refine br_f (by decide) (br_f (by decide) (br_t rfl ?_))
    refine m_mis (a := T.pa p) h K (by omega) hg ha ?_
    refine pk_b0 (mis T g (T.pa p)) (fun zb => ?_) (fun zb => ?_)
    · rw [if_neg (by rw [zb]; simp)] at q
      refine m_mask K (by omega) l1 l2 l3 l4 ?_
      rw [l5] at q
      by_cases w : g (T.pa p) ||| msk l = msk l
      · refine nb_t ((only8 _ hb _ hv).2 w) ?_
        unfold w_Mo_test_J170
        rw [decide_eq_true w] at q
        exact m_tOf (b := true) q
      · refine nb_f (fun e => w ((only8 _ hb _ hv).1 e)) ?_
        unfold w_Mo_test_J170
        rw [decide_eq_false w] at q
        exact m_tOf (b := false) q
    · rw [if_pos zb] at q
      exact q
  rw [if_neg c18] at q
  rw [if_neg (by omega)] at en
  have en1 := en.1
  have hpc := pc_le (g (T.pa p))
  by_cases c19 : T.pk p = 19
  · rw [if_pos c19] at q
    have hv : T.pnum p < T.na := by rcases hl with b | b | b | b | b <;> omega
    have hb2 := hg (T.pnum p)
    rw [c19, v19]
    refine br_f (by decide) (br_f (by decide) (br_f (by decide) (br_f (by decide) (br_f (by decide) (br_f (by decide) (br_t rfl ?_))))))
    rw [en1]
    simp (disch := omega) only [nI_clamp, e8, eb2 _ hv]
    refine ⟨hin, ?_⟩
    refine m_mis (a := T.pa p) h K (by omega) hg ha ?_
    refine pk_nb0 (mis T g (T.pa p)) (fun zb => ?_) (fun zb => ?_)
    · rw [if_pos (Or.inl zb)] at q
      exact q
    · refine m_mis (a := T.pnum p) h K (by omega) hg hv ?_
      refine pk_b0 (mis T g (T.pnum p)) (fun zb2 => ?_) (fun zb2 => ?_)
      · rw [if_neg (by rw [zb, zb2]; simp)] at q
        rw [nI_and]
        have hlt := and_lt (b := g (T.pnum p)) hb
        refine ⟨vin (by omega), pk_eq (g (T.pa p) &&& g (T.pnum p)) 0 (fun zt => ?_) (fun zt => ?_)⟩
        · unfold w_Mo_test_J295
          rw [decide_eq_false (fun w => w zt)] at q
          exact m_tOf (b := false) q
        · unfold w_Mo_test_J295
          rw [decide_eq_true zt] at q
          exact m_tOf (b := true) q
      · rw [if_pos (Or.inr zb2)] at q
        exact q
  rw [if_neg c19] at q
  by_cases c20 : T.pk p = 20
  · rw [if_pos c20] at q
    have hv : T.pnum p < 8 := by rcases hl with b | b | b | b | b <;> omega
    rw [c20, v20]
    refine br_f (by decide) (br_f (by decide) (br_f (by decide) (br_f (by decide) (br_f (by decide) (br_f (by decide) (br_f (by decide) (br_t rfl ?_)))))))
    refine m_bits hb ?_
    refine pk_eq (pc (g (T.pa p))) 1 (fun z1 => ?_) (fun z1 => ?_)
    · rw [if_neg (fun w => w z1)] at q
      have hs := shl1 _ hv
      have hs2 := hs.2
      rw [en1, hs.1]
      refine ⟨hin, pk_ne (g (T.pa p)) (1 <<< T.pnum p) (fun zt => ?_) (fun zt => ?_)⟩
      · unfold w_Mo_test_J330
        rw [decide_eq_false zt] at q
        exact m_tOf (b := false) q
      · unfold w_Mo_test_J330
        rw [decide_eq_true zt] at q
        exact m_tOf (b := true) q
    · rw [if_pos z1] at q
      exact q
  rw [if_neg c20] at q
  by_cases c60 : T.pk p = 60
  · rw [if_pos c60] at q
    have hv : T.pnum p < 1000 := by rcases hl with b | b | b | b | b <;> omega
    rw [c60, v60]
    refine br_f (by decide) (br_f (by decide) (br_f (by decide) (br_t rfl ?_)))
    refine m_bits hb ?_
    rw [en1]
    refine ⟨hin, pk_le (T.pnum p) (pc (g (T.pa p))) (fun zt => ?_) (fun zt => ?_)⟩
    · unfold w_Mo_test_J193
      rw [decide_eq_false (show ¬ pc (g (T.pa p)) < T.pnum p by omega)] at q
      exact m_tOf (b := false) q
    · unfold w_Mo_test_J193
      rw [decide_eq_true zt] at q
      exact m_tOf (b := true) q
  rw [if_neg c60] at q
  by_cases c61 : T.pk p = 61
  · rw [if_pos c61] at q
    have hv : T.pnum p < 1000 := by rcases hl with b | b | b | b | b <;> omega
    rw [c61, v61]
    refine br_f (by decide) (br_f (by decide) (br_f (by decide) (br_f (by decide) (br_t rfl ?_))))
    refine m_bits hb ?_
    rw [en1]
    refine ⟨hin, pk_ne (pc (g (T.pa p))) (T.pnum p) (fun zt => ?_) (fun zt => ?_)⟩
    · unfold w_Mo_test_J216
      rw [decide_eq_false zt] at q
      exact m_tOf (b := false) q
    · unfold w_Mo_test_J216
      rw [decide_eq_true zt] at q
      exact m_tOf (b := true) q
  rw [if_neg c61] at q
  by_cases c62 : T.pk p = 62
  · rw [if_pos c62] at q
    have hv : T.pnum p < 1000 := by rcases hl with b | b | b | b | b <;> omega
    rw [c62, v62]
    refine br_f (by decide) (br_f (by decide) (br_f (by decide) (br_f (by decide) (br_f (by decide) (br_t rfl ?_)))))
    refine m_bits hb ?_
    rw [en1]
    refine ⟨hin, pk_le (pc (g (T.pa p))) (T.pnum p) (fun zt => ?_) (fun zt => ?_)⟩
    · unfold w_Mo_test_J239
      rw [decide_eq_false (show ¬ T.pnum p < pc (g (T.pa p)) by omega)] at q
      exact m_tOf (b := false) q
    · unfold w_Mo_test_J239
      rw [decide_eq_true zt] at q
      exact m_tOf (b := true) q
  rw [if_neg c62] at q
  have c21 : T.pk p = 21 := by rcases hl with b | b | b | b | b <;> omega
  rw [c21, v21]
  refine br_f (by decide) (br_f (by decide) (br_f (by decide) (br_f (by decide) (br_f (by decide) (br_f (by decide) (br_f (by decide) (br_f (by decide) ?_)))))))
  refine pk_ne (g (T.pa p)) 0 (fun zt => ?_) (fun zt => ?_)
  · unfold w_Mo_test_J344
    rw [decide_eq_false zt] at q
    exact m_tOf (b := false) q
  · unfold w_Mo_test_J344
    rw [decide_eq_true zt] at q
    exact m_tOf (b := true) q
end MV
