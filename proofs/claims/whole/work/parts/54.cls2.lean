/-! THE CLASS'S READER, II: names. -/
theorem sameN_iff {tk : Tk} {T : Txt} {s a : Nat} : sameN tk T s a = true ↔ T.anl a = tk.v s ∧ ∀ j, j < tk.v s → T.anm a j = tk.b (tk.pl s + j) := by
  unfold sameN
  simp only [Bool.and_eq_true, beq_iff_eq, List.all_eq_true, List.mem_range]
/-- the first of n numbers from a on that P holds of -/
def fst1 (P : Nat → Bool) : Nat → Nat → Option Nat
  | 0, _ => none
  | n + 1, a => if P a = true then some a else fst1 P n (a + 1)
theorem fst1_lt {P : Nat → Bool} : ∀ n a x, fst1 P n a = some x → a ≤ x ∧ x < a + n := by
  intro n
  induction n with
  | zero => intro a x h; cases h
  | succ n ih =>
    intro a x h
    rw [fst1] at h
    by_cases g : P a = true
    · rw [if_pos g] at h
      cases h
      omega
    · rw [if_neg g] at h
      have := ih _ _ h
      omega
/-- which of the C names in the rows of k0 spells n bytes of row k2 from p on -/
theorem n_find {M : aM} {post : Int32 → Prop} {k0 k2 p n C L N : Nat} {nl : Nat → Nat} {nm : Nat → Nat → Nat} {b : Nat → Nat} {P : Nat → Bool} (hl : ∀ i, i < C → rI M (k0 + 1) i = nI (nl i)) (hnm : ∀ i, i < C → ∀ j, j < nl i → rI M (k0 + 2) (i * 12 + j) = nI (nm i j)) (hb : ∀ j, j < n → rI M k2 (p + j) = nI (b j)) (hln : ∀ i, i < C → nl i ≤ 12) (hn : n ≤ 6000) (h1 : (rK M (k0 + 1)).2 = L) (h2 : (rK M (k0 + 2)).2 = 12 * L) (h3 : (rK M k2).2 = N) (hC : C ≤ L) (hL : L ≤ 100) (hp : p + n ≤ N) (hN : N ≤ 6000) (hbv : ∀ j, j < n → b j < 256) (hnv : ∀ i, i < C → ∀ j, j < nl i → nm i j < 256)
    (hP : ∀ i, i < C → (P i = true ↔ nl i = n ∧ ∀ j, j < n → nm i j = b j)) (q : post (oI (fst1 P C 0))) : w_Nm_find post k0 (nI C) k2 (nI p) (nI n) M := by
  have key : ∀ r i, i + r = C → post (oI (fst1 P r i)) → w_Nm_find_L3 M post (r + 1) k0 (nI C) k2 (nI p) (nI n) (nI i) := by
    intro r
    induction r with
    | zero =>
      intro i hi q
      unfold w_Nm_find_L3
      exact pk_le C i (fun _ => q) (fun z => by omega)
    | succ r ih =>
      intro i hi q
      have hiC : i < C := by omega
      have li := hln i hiC
      have eP := hP i hiC
      have nxt : ¬ P i = true → w_Nm_find_L3 M post (r + 1) k0 (nI C) k2 (nI p) (nI n) (nI i + (1 : Int32)) := by
        intro z
        rw [fst1, if_neg z] at q
        rw [nI_1]
        exact ih (i + 1) (by omega) q
      have J : ∀ a, a ≤ n → a ≤ nl i → (∀ j, j < a → nm i j = b j) → (a < n → a < nl i → nm i a ≠ b a) → w_Nm_find_J59 M post (w_Nm_find_L3 M post (r + 1)) k0 (nI C) k2 (nI p) (nI n) (nI i) (nI a) := by
        intro a ha1 ha2 hall hd
        unfold w_Nm_find_J59
        rw [nI_clamp (by omega), hl i hiC, h1]
        refine pk_ne a n (fun z => nxt (fun y => ?_)) (fun z => ⟨vin (by omega), pk_ne a (nl i) (fun z2 => nxt (fun y => ?_)) (fun z2 => ?_)⟩)
        · obtain ⟨y1, y2⟩ := eP.mp y
          exact hd (by omega) (by omega) (y2 a (by omega))
        · obtain ⟨y1, y2⟩ := eP.mp y
          omega
        · rw [fst1, if_pos (eP.mpr ⟨by omega, fun j hj => hall j (by omega)⟩)] at q
          exact q
      have inn : ∀ f a, a + f = nl i → a ≤ n → (∀ j, j < a → nm i j = b j) → w_Nm_find_L12 M post (w_Nm_find_L3 M post (r + 1)) (f + 1) k0 (nI C) k2 (nI p) (nI n) (nI i) (nI a) := by
        intro f
        induction f with
        | zero =>
          intro a ha1 ha2 hall
          unfold w_Nm_find_L12
          rw [nI_clamp (n := i) (by omega), hl i hiC, h1]
          refine pk_le n a (fun z => J a ha2 (by omega) hall (fun _ _ => by omega)) (fun z => ⟨vin (by omega), pk_le (nl i) a (fun z2 => J a ha2 (by omega) hall (fun _ _ => by omega)) (fun z2 => by omega)⟩)
        | succ f ihf =>
          intro a ha1 ha2 hall
          unfold w_Nm_find_L12
          rw [nI_clamp (n := i) (by omega), hl i hiC, h1]
          refine pk_le n a (fun z => J a ha2 (by omega) hall (fun _ _ => by omega)) (fun z => ⟨vin (by omega), pk_le (nl i) a (fun z2 => by omega) (fun z2 => ?_)⟩)
          rw [show (12 : Int32) = nI 12 from rfl, pk_mul, nI_add, nI_clamp (by omega), nI_add, nI_clamp (by omega), hnm i hiC a (by omega), hb a (by omega), h2, h3]
          have v1 := hnv i hiC a (by omega)
          have v2 := hbv a (by omega)
          refine ⟨vin (by omega), vin (by omega), pk_ne (nm i a) (b a) (fun z3 => J a ha2 (by omega) hall (fun _ _ => z3)) (fun z3 => ?_)⟩
          rw [nI_1]
          refine ihf (a + 1) (by omega) (by omega) (fun j hj => ?_)
          by_cases g : j = a
          · subst g; exact z3
          · exact hall j (by omega)
      unfold w_Nm_find_L3
      exact pk_le C i (fun z => by omega) (fun _ => ⟨nl i + 1, inn (nl i) 0 (by omega) (by omega) (fun j hj => by omega)⟩)
  unfold w_Nm_find
  exact ⟨C + 1, key C 0 (by omega) q⟩
theorem findN_fst {tk : Tk} {T : Txt} {s : Nat} : ∀ n a, findN tk T s n a = fst1 (fun i => sameN tk T s i) n a := by
  intro n
  induction n with
  | zero => intro a; rfl
  | succ n ih =>
    intro a
    rw [findN, fst1, ih]
section CL
variable {tk : Tk} {M0 M : aM} {t : Nat} {s : PS} {f : Fl}
theorem c_K (sc : SC tk M0 t) (fr : FrC t M0 M) (c n : Nat) (hc : c < 36 := by omega) (hn : (tKs.getD c (0, 0)).2 = n := by rfl) : (rK M (t + c)).2 = n := by
  rw [fr.K]; exact sc.K.tl sc.ht c n hc hn
/-- the attribute that is named here -/
theorem c_findA (sc : SC tk M0 t) {post : Int32 → Prop} (h : RC tk M0 t s M) (hk : tk.k s.i = 128) (p : post (oI (hereN tk s))) : w_Nm_find post (t + 1 + 1) (nI s.T.na) (2 + 1 + 1) (nI (tk.pl s.i)) (nI (tk.v s.i)) M := by
  have ge := sc.ht.ge
  have hn := sc.nm _ h.L.li hk
  have hna := h.T.lna
  rw [hereN, findN_fst] at p
  refine n_find (nl := s.T.anl) (nm := s.T.anm) (b := fun j => tk.b (tk.pl s.i + j)) (L := 8) (N := 6000) (P := fun i => sameN tk s.T s.i i) h.T.anl h.T.anm (fun j hj => ?_) h.T.lanl (by omega) (c_K sc h.L.fr 3 8) (c_K sc h.L.fr 4 96) ?_ (by omega) (by omega) (by omega) (by omega) (fun j _ => sc.lb _) (fun i _ j _ => h.lnm _ _) (fun i _ => sameN_iff) p
  · rw [show rI M (2 + 1 + 1) = rI M0 4 from h.L.fr.2.2.2 4 (by omega) (by omega)]
    exact sc.b _ (by omega)
  · rw [show rK M (2 + 1 + 1) = rK M0 4 from congrFun h.L.fr.K 4]; exact sc.K.l 3 6000
end CL
/-- a name is put: the rows behind it -/
theorem c_put {M : aM} {post : aM → Prop} {k0 i k2 p n L N : Nat} {b : Nat → Nat} (hb : ∀ j, j < n → rI M k2 (p + j) = nI (b j)) (hn : n ≤ 12) (h1 : (rK M (k0 + 1)).2 = L) (h2 : (rK M (k0 + 2)).2 = 12 * L) (h3 : (rK M k2).2 = N) (hi : i < L) (hL : L ≤ 100) (hp : p + n ≤ N) (hN : N ≤ 6000) (hk : k2 ≠ k0 + 1 ∧ k2 ≠ k0 + 2)
    (q : ∀ M' : aM, M'.1 = M.1 → M'.2.1 = M.2.1 → M'.2.2.2 = M.2.2.2 → (∀ k, k ≠ k0 + 1 → k ≠ k0 + 2 → rI M' k = rI M k) → rI M' (k0 + 1) = up (rI M (k0 + 1)) i (nI n) → (∀ j, rI M' (k0 + 2) j = if i * 12 ≤ j ∧ j < i * 12 + n then nI (b (j - i * 12)) else rI M (k0 + 2) j) → post M') : w_Nm_put post k0 (nI i) k2 (nI p) (nI n) M := by
  unfold w_Nm_put
  rw [show (if (12 : Int32) < nI n then (12 : Int32) else nI n) = nI n from if_neg (nI_nlt hn (by omega)), nI_clamp (by omega), h1]
  refine ⟨vin hi, ?_⟩
  have key : ∀ r j (M' : aM), r = n - j → j ≤ n → M'.1 = M.1 → M'.2.1 = M.2.1 → M'.2.2.2 = M.2.2.2 → (∀ k, k ≠ k0 + 1 → k ≠ k0 + 2 → rI M' k = rI M k) → rI M' (k0 + 1) = up (rI M (k0 + 1)) i (nI n) → (∀ x, rI M' (k0 + 2) x = if i * 12 ≤ x ∧ x < i * 12 + j then nI (b (x - i * 12)) else rI M (k0 + 2) x) → w_Nm_put_L16 post (r + 1) k0 (nI i) k2 (nI p) (nI j) M' := by
    intro r
    induction r with
    | zero =>
      intro j M' hr hj e1 e2 e3 e4 e5 e6
      have : j = n := by omega
      subst this
      unfold w_Nm_put_L16
      rw [nI_clamp (by omega), show rK M' (k0 + 1) = rK M (k0 + 1) from congrFun e2 _, h1, e5, up_s]
      refine ⟨vin hi, ?_⟩
      exact pk_le j j (fun _ => q M' e1 e2 e3 e4 e5 e6) (fun z => by omega)
    | succ r ih =>
      intro j M' hr hj e1 e2 e3 e4 e5 e6
      unfold w_Nm_put_L16
      rw [nI_clamp (by omega), show rK M' (k0 + 1) = rK M (k0 + 1) from congrFun e2 _, h1, e5, up_s]
      refine ⟨vin hi, ?_⟩
      refine pk_le n j (fun z => by omega) (fun _ => ?_)
      rw [show (12 : Int32) = nI 12 from rfl, pk_mul, nI_add, nI_clamp (by omega), nI_add, nI_clamp (by omega), show rK M' k2 = rK M k2 from congrFun e2 _, h3, show rK M' (k0 + 2) = rK M (k0 + 2) from congrFun e2 _, h2, e4 k2 hk.1 hk.2, hb j (by omega), nI_1]
      refine ⟨vin (by omega), vin (by omega), ?_⟩
      refine ih (j + 1) _ (by omega) (by omega) e1 e2 e3 (fun k g1 g2 => (rw_n g2).trans (e4 k g1 g2)) ((rw_n (by omega)).trans e5) (fun x => ?_)
      rw [rw_s, up_e, e6 x]
      by_cases g : x = i * 12 + j
      · rw [if_pos g, if_pos (by omega), show x - i * 12 = j by omega]
      · rw [if_neg g]
        by_cases g2 : i * 12 ≤ x ∧ x < i * 12 + j
        · rw [if_pos g2, if_pos (by omega)]
        · rw [if_neg g2, if_neg (by omega)]
  refine ⟨n + 1, key n 0 _ rfl (by omega) rfl rfl rfl (fun k g1 _ => rw_n g1) rw_s (fun x => ?_)⟩
  rw [if_neg (by omega), rw_n (by omega)]
