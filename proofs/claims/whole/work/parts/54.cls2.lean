/-! THE CLASS'S READER, II: names. -/
theorem sameN_iff {tk : Tk} {T : Txt} {s a : Nat} : sameN tk T s a = true ↔ T.anl a = tk.v s ∧ ∀ j, j < tk.v s → T.anm a j = tk.b (tk.pl s + j) := by
  unfold sameN
  simp only [Bool.and_eq_true, beq_iff_eq, List.all_eq_true, List.mem_range]
/-- does the name at rows (l, x), number i, of at most 12 letters, spell n bytes of row y from p on -/
theorem c_spelled {M : aM} {post : Int32 → Prop} {k0 i k2 p n L N : Nat} {nl : Nat} {nm b : Nat → Nat} (hl : rI M (k0 + 1) i = nI nl) (hnm : ∀ j, j < nl → rI M (k0 + 2) (i * 12 + j) = nI (nm j)) (hb : ∀ j, j < n → rI M k2 (p + j) = nI (b j)) (hln : nl ≤ 12) (hn : n ≤ 6000) (h1 : (rK M (k0 + 1)).2 = L) (h2 : (rK M (k0 + 2)).2 = 12 * L) (h3 : (rK M k2).2 = N) (hi : i < L) (hL : L ≤ 100) (hp : p + n ≤ N) (hN : N ≤ 6000) (hbv : ∀ j, j < n → b j < 256) (hnv : ∀ j, j < nl → nm j < 256)
    (q : ∀ x : Bool, (x = true ↔ nl = n ∧ ∀ j, j < n → nm j = b j) → post (bI x)) : w_Nm_isSpelled post k0 (nI i) k2 (nI p) (nI n) M := by
  unfold w_Nm_isSpelled
  rw [nI_clamp (by omega), hl, h1]
  refine ⟨vin hi, ?_⟩
  refine pk_eq nl n (fun z => ?_) (fun z => ⟨Or.inl rfl, q false (by simp; intro z2; exact absurd z2 z)⟩)
  subst z
  have key : ∀ r j, r = nl - j → j ≤ nl → (∀ j', j' < j → nm j' = b j') → w_Nm_isSpelled_L16 M post (r + 1) k0 (nI i) k2 (nI p) (nI nl) (nI j) := by
    intro r
    induction r with
    | zero =>
      intro j hr hj hall
      have : j = nl := by omega
      subst this
      unfold w_Nm_isSpelled_L16
      exact ⟨fun _ => ⟨Or.inr rfl, q true (by simp; exact hall)⟩, fun z => absurd (nI_le (Nat.le_refl _) (by omega)) z⟩
    | succ r ih =>
      intro j hr hj hall
      unfold w_Nm_isSpelled_L16
      refine pk_le nl j (fun z => by omega) (fun z => ?_)
      unfold w_Nm_letter
      rw [show (12 : Int32) = nI 12 from rfl, pk_mul, nI_add, nI_clamp (by omega), nI_add, nI_clamp (by omega), hnm j (by omega), hb j (by omega), h2, h3]
      refine ⟨vin (by omega), vin (by omega), ?_⟩
      refine pk_eq (nm j) (b j) (fun z2 => ?_) (fun z2 => ⟨Or.inl rfl, q false (by simp; exact ⟨j, by omega, z2⟩)⟩) rfl rfl (by have := hnv j (by omega); omega) (by have := hbv j (by omega); omega)
      rw [nI_1]
      exact ih (j + 1) (by omega) (by omega) (fun j' hj' => by
        by_cases hq : j' = j
        · subst hq; exact z2
        · exact hall j' (by omega))
  exact ⟨nl + 1, key nl 0 (by omega) (by omega) (fun j h => by omega)⟩
section CL
variable {tk : Tk} {M0 M : aM} {t : Nat} {s : PS} {f : Fl}
theorem c_K (sc : SC tk M0 t) (fr : FrC t M0 M) (c n : Nat) (hc : c < 36 := by omega) (hn : (tKs.getD c (0, 0)).2 = n := by rfl) : (rK M (t + c)).2 = n := by
  rw [fr.K]; exact sc.K.tl sc.ht c n hc hn
theorem c_here (sc : SC tk M0 t) {post : Int32 → Prop} (h : RC tk M0 t s M) (hk : tk.k s.i = 128) (p : post (oI (hereN tk s))) : w_Rd_attributeHere post 2 M := by
  unfold w_Rd_attributeHere
  rw [h.L.fr.R, sc.hR]
  have ge := sc.ht.ge
  have hn := sc.nm _ h.L.li hk
  have hli := h.L.li
  have hln := sc.ln
  have hna := h.T.lna
  have hpl := sc.lpl _ h.L.li
  have key : ∀ r a, r = s.T.na - a → a ≤ s.T.na → hereN tk s = findN tk s.T s.i r a → w_Rd_attributeHere_L10 M post (r + 1) 2 (t + 1) (nI a) := by
    intro r
    induction r with
    | zero =>
      intro a hr ha he
      unfold w_Rd_attributeHere_L10
      rw [show rI M (t + 1) 0 = nI s.T.na from h.T.na]
      refine pk_le s.T.na a (fun _ => ?_) (fun z => by omega)
      rw [he] at p
      exact p
    | succ r ih =>
      intro a hr ha he
      unfold w_Rd_attributeHere_L10
      rw [show rI M (t + 1) 0 = nI s.T.na from h.T.na]
      refine pk_le s.T.na a (fun z => by omega) (fun z => ?_)
      rw [h.L.at_, nI_clamp (by omega), show rK M (2 + 1 + 3) = rK M0 6 from congrFun h.L.fr.K 6, show rI M (2 + 1 + 3) = rI M0 6 from h.L.fr.2.2.2 6 (by omega) (by omega), sc.pl _ h.L.li, sc.K.l 5 6001]
      refine ⟨vin (by omega), ?_⟩
      refine c_value sc h.L (by omega) ?_
      refine c_spelled (nl := s.T.anl a) (nm := s.T.anm a) (b := fun j => tk.b (tk.pl s.i + j)) (L := 8) (N := 6000) (h.T.anl a (by omega)) (h.T.anm a (by omega)) (fun j hj => ?_) (h.T.lanl a (by omega)) (by omega) (c_K sc h.L.fr 3 8) (c_K sc h.L.fr 4 96) ?_ (by omega) (by omega) (by omega) (by omega) (fun j _ => sc.lb _) (fun j _ => h.lnm _ _) (fun x hx => ?_)
      · rw [show rI M (2 + 1 + 1) = rI M0 4 from h.L.fr.2.2.2 4 (by omega) (by omega)]
        exact sc.b _ (by omega)
      · rw [show rK M (2 + 1 + 1) = rK M0 4 from congrFun h.L.fr.K 4]; exact sc.K.l 3 6000
      · rw [findN] at he
        refine pk_b0 x (fun z1 => ?_) (fun z1 => ?_)
        · rw [nI_1]
          refine ih (a + 1) (by omega) (by omega) ?_
          rw [he, if_neg]
          intro hs
          rw [sameN_iff, ← hx] at hs
          rw [z1] at hs
          exact absurd hs (by simp)
        · rw [if_pos (by rw [sameN_iff, ← hx]; exact z1)] at he
          rw [he] at p
          exact p
  exact ⟨_, key _ 0 rfl (by omega) rfl⟩
end CL
/-- a name is put: the rows behind it -/
theorem c_put {M : aM} {post : aM → Prop} {k0 i k2 p n L N : Nat} {b : Nat → Nat} (hb : ∀ j, j < n → rI M k2 (p + j) = nI (b j)) (hn : n ≤ 12) (h1 : (rK M (k0 + 1)).2 = L) (h2 : (rK M (k0 + 2)).2 = 12 * L) (h3 : (rK M k2).2 = N) (hi : i < L) (hL : L ≤ 100) (hp : p + n ≤ N) (hN : N ≤ 6000) (hk : k2 ≠ k0 + 1 ∧ k2 ≠ k0 + 2)
    (q : ∀ M' : aM, M'.1 = M.1 → M'.2.1 = M.2.1 → M'.2.2.2 = M.2.2.2 → (∀ k, k ≠ k0 + 1 → k ≠ k0 + 2 → rI M' k = rI M k) → rI M' (k0 + 1) = up (rI M (k0 + 1)) i (nI n) → (∀ j, rI M' (k0 + 2) j = if i * 12 ≤ j ∧ j < i * 12 + n then nI (b (j - i * 12)) else rI M (k0 + 2) j) → post M') : w_Nm_put post k0 (nI i) k2 (nI p) (nI n) M := by
  unfold w_Nm_put
  rw [show (if (12 : Int32) < nI n then (12 : Int32) else nI n) = nI n from if_neg (nI_nlt hn (by omega)), nI_clamp (by omega), h1]
  refine ⟨vin hi, ?_⟩
  have key : ∀ r j (M' : aM), r = n - j → j ≤ n → M'.1 = M.1 → M'.2.1 = M.2.1 → M'.2.2.2 = M.2.2.2 → (∀ k, k ≠ k0 + 1 → k ≠ k0 + 2 → rI M' k = rI M k) → rI M' (k0 + 1) = up (rI M (k0 + 1)) i (nI n) → (∀ x, rI M' (k0 + 2) x = if i * 12 ≤ x ∧ x < i * 12 + j then nI (b (x - i * 12)) else rI M (k0 + 2) x) → w_Nm_put_L16 post (r + 1) k0 (nI i) k2 (nI p) (nI j) M' := by
    intro r
    induction r with
    | zero =>
      intro j M' hr hj e1 e2 e3 e4 e5 e6
      have : j = n := by omega
      subst this
      unfold w_Nm_put_L16
      rw [nI_clamp (by omega), show rK M' (k0 + 1) = rK M (k0 + 1) from congrFun e2 _, h1, e5, up_s]
      refine ⟨vin hi, ?_⟩
      exact pk_le j j (fun _ => q M' e1 e2 e3 e4 e5 e6) (fun z => by omega)
    | succ r ih =>
      intro j M' hr hj e1 e2 e3 e4 e5 e6
      unfold w_Nm_put_L16
      rw [nI_clamp (by omega), show rK M' (k0 + 1) = rK M (k0 + 1) from congrFun e2 _, h1, e5, up_s]
      refine ⟨vin hi, ?_⟩
      refine pk_le n j (fun z => by omega) (fun _ => ?_)
      rw [show (12 : Int32) = nI 12 from rfl, pk_mul, nI_add, nI_clamp (by omega), nI_add, nI_clamp (by omega), show rK M' k2 = rK M k2 from congrFun e2 _, h3, show rK M' (k0 + 2) = rK M (k0 + 2) from congrFun e2 _, h2, e4 k2 hk.1 hk.2, hb j (by omega), nI_1]
      refine ⟨vin (by omega), vin (by omega), ?_⟩
      refine ih (j + 1) _ (by omega) (by omega) e1 e2 e3 (fun k g1 g2 => (rw_n g2).trans (e4 k g1 g2)) ((rw_n (by omega)).trans e5) (fun x => ?_)
      rw [rw_s, up_e, e6 x]
      by_cases g : x = i * 12 + j
      · rw [if_pos g, if_pos (by omega), show x - i * 12 = j by omega]
      · rw [if_neg g]
        by_cases g2 : i * 12 ≤ x ∧ x < i * 12 + j
        · rw [if_pos g2, if_pos (by omega)]
        · rw [if_neg g2, if_neg (by omega)]
  refine ⟨n + 1, key n 0 _ rfl (by omega) rfl rfl rfl (fun k g1 _ => rw_n g1) rw_s (fun x => ?_)⟩
  rw [if_neg (by omega), rw_n (by omega)]
