/-! THE CLASS CUTS ITS TAPE INTO TOKENS. -/
section BY
variable {M : aM} {post : Int32 → Prop} {c : Nat}
theorem t_isBlank (hc : c < 256) (p : post (bI (isBl c))) : w_Tp_isBlank post (nI c) M := by
  unfold w_Tp_isBlank
  refine pk_eq c 9 (fun z => ⟨Or.inr rfl, by subst z; exact p⟩) (fun z1 => ?_)
  refine pk_eq c 10 (fun z => ⟨Or.inr rfl, by subst z; exact p⟩) (fun z2 => ?_)
  refine pk_eq c 13 (fun z => ⟨Or.inr rfl, by subst z; exact p⟩) (fun z3 => ?_)
  refine pk_ne c 32 (fun z => ⟨Or.inl rfl, ?_⟩) (fun z => ⟨Or.inr rfl, by subst z; exact p⟩)
  rw [show isBl c = false by simp [isBl, z1, z2, z3, z]] at p
  exact p
theorem t_isSign (hc : c < 256) (p : post (bI (isSg c))) : w_Tp_isSign post (nI c) M := by
  unfold w_Tp_isSign
  refine pk_eq c 40 (fun z => ⟨Or.inr rfl, by subst z; exact p⟩) (fun z1 => ?_)
  refine pk_eq c 41 (fun z => ⟨Or.inr rfl, by subst z; exact p⟩) (fun z2 => ?_)
  refine pk_eq c 44 (fun z => ⟨Or.inr rfl, by subst z; exact p⟩) (fun z3 => ?_)
  refine pk_eq c 59 (fun z => ⟨Or.inr rfl, by subst z; exact p⟩) (fun z4 => ?_)
  refine pk_eq c 60 (fun z => ⟨Or.inr rfl, by subst z; exact p⟩) (fun z5 => ?_)
  refine pk_eq c 61 (fun z => ⟨Or.inr rfl, by subst z; exact p⟩) (fun z6 => ?_)
  refine pk_eq c 62 (fun z => ⟨Or.inr rfl, by subst z; exact p⟩) (fun z7 => ?_)
  refine pk_eq c 123 (fun z => ⟨Or.inr rfl, by subst z; exact p⟩) (fun z8 => ?_)
  refine pk_ne c 125 (fun z => ⟨Or.inl rfl, ?_⟩) (fun z => ⟨Or.inr rfl, by subst z; exact p⟩)
  rw [show isSg c = false by simp [isSg, z1, z2, z3, z4, z5, z6, z7, z8, z]] at p
  exact p
theorem isLt_t {c : Nat} (h : (97 ≤ c ∧ c ≤ 122) ∨ (65 ≤ c ∧ c ≤ 90)) : isLt c = true := by
  unfold isLt
  rcases h with h | h <;> simp [h]
theorem isLt_f {c : Nat} (h : ¬ ((97 ≤ c ∧ c ≤ 122) ∨ (65 ≤ c ∧ c ≤ 90))) : isLt c = false := by
  unfold isLt
  simp only [not_or, not_and] at h
  simp only [Bool.or_eq_false_iff, Bool.and_eq_false_iff, decide_eq_false_iff_not]
  omega
theorem isDg_t {c : Nat} (h : 48 ≤ c ∧ c ≤ 57) : isDg c = true := by unfold isDg; simp [h]
theorem isDg_f {c : Nat} (h : ¬ (48 ≤ c ∧ c ≤ 57)) : isDg c = false := by
  unfold isDg
  simp only [Bool.and_eq_false_iff, decide_eq_false_iff_not]
  omega
theorem t_isLetter (hc : c < 256) (p : post (bI (isLt c))) : w_Tp_isLetter post (nI c) M := by
  have j : ¬ (97 ≤ c ∧ c ≤ 122) → w_Tp_isLetter_J12 M post (nI c) := by
    intro h
    unfold w_Tp_isLetter_J12
    refine pk_lt c 65 (fun z => ⟨Or.inl rfl, ?_⟩) (fun z => ?_)
    · rw [isLt_f (by omega)] at p; exact p
    refine pk_lt 90 c (fun z2 => ⟨Or.inl rfl, ?_⟩) (fun z2 => ⟨Or.inr rfl, ?_⟩)
    · rw [isLt_f (by omega)] at p; exact p
    · rw [isLt_t (by omega)] at p; exact p
  unfold w_Tp_isLetter
  refine pk_lt c 97 (fun z => j (by omega)) (fun z => ?_)
  refine pk_le c 122 (fun z2 => ⟨Or.inr rfl, ?_⟩) (fun z2 => j (by omega))
  rw [isLt_t (by omega)] at p
  exact p
theorem t_isDigit (hc : c < 256) (p : post (bI (isDg c))) : w_Tp_isDigit post (nI c) M := by
  unfold w_Tp_isDigit
  refine pk_lt c 48 (fun z => ⟨Or.inl rfl, ?_⟩) (fun z => ?_)
  · rw [isDg_f (by omega)] at p; exact p
  refine pk_lt 57 c (fun z2 => ⟨Or.inl rfl, ?_⟩) (fun z2 => ⟨Or.inr rfl, ?_⟩)
  · rw [isDg_f (by omega)] at p; exact p
  · rw [isDg_t (by omega)] at p; exact p
end BY
/-- the tape as the class holds it -/
def TpC (b : Nat → Nat) (n : Nat) (M : aM) : Prop := (KOk (rK M)) ∧ (rI M 3 1 = nI n) ∧ (n ≤ 6000) ∧ (∀ j, j < n → rI M 4 j = nI (b j)) ∧ (∀ j, j < 6000 → rI M 4 j = nI (b j)) ∧ (∀ j, b j < 256) ∧ (WO M 8)
theorem TpC.K {b : Nat → Nat} {n : Nat} {M : aM} (h : TpC b n M) : KOk (rK M) := h.1
theorem TpC.len {b : Nat → Nat} {n : Nat} {M : aM} (h : TpC b n M) : rI M 3 1 = nI n := h.2.1
theorem TpC.ln {b : Nat → Nat} {n : Nat} {M : aM} (h : TpC b n M) : n ≤ 6000 := h.2.2.1
theorem TpC.b {b : Nat → Nat} {n : Nat} {M : aM} (h : TpC b n M) : ∀ j, j < n → rI M 4 j = nI (b j) := h.2.2.2.1
theorem TpC.b6 {b : Nat → Nat} {n : Nat} {M : aM} (h : TpC b n M) : ∀ j, j < 6000 → rI M 4 j = nI (b j) := h.2.2.2.2.1
theorem TpC.lb {b : Nat → Nat} {n : Nat} {M : aM} (h : TpC b n M) : ∀ j, b j < 256 := h.2.2.2.2.2.1
theorem TpC.ws {b : Nat → Nat} {n : Nat} {M : aM} (h : TpC b n M) : WO M 8 := h.2.2.2.2.2.2
section CT
variable {b : Nat → Nat} {n : Nat} {M : aM}
theorem t_run {post : Int32 → Prop} {p : Nat} (h : TpC b n M) (hp : p < n) (q : post (nI (runE b n p - p))) : w_Tp_runLength post 3 (nI p) M := by
  have ln := h.ln
  unfold w_Tp_runLength
  have key : ∀ f e, f = n - e → e ≤ n → p ≤ e → runE b n p = runE b n e → w_Tp_runLength_L2 M post (f + 1) 3 (nI p) (nI e) := by
    intro f
    induction f with
    | zero =>
      intro e hf he hpe hr
      unfold w_Tp_runLength_L2
      refine pk_le n e (fun _ => ?_) (fun z => by omega) h.len
      rw [pk_sub hpe]
      rw [hr, runE_end (by omega)] at q
      exact q
    | succ f ih =>
      intro e hf he hpe hr
      unfold w_Tp_runLength_L2
      refine pk_le n e (fun z => by omega) (fun z => ?_) h.len
      rw [nI_clamp (by omega), show rI M (3 + 1) e = nI (b e) from h.b e z, show rK M (3 + 1) = rK M 4 from rfl, h.K.l 3 6000]
      have hin : vp_in (nI e) 6000 := vin (by omega)
      rw [runE_step z] at hr
      have go : isGo (b e) = true → w_Tp_runLength_L2 M post (f + 1) 3 (nI p) (nI e + 1) := by
        intro g
        rw [if_pos g] at hr
        rw [nI_1]
        exact ih (e + 1) (by omega) (by omega) (by omega) hr
      refine ⟨hin, ?_⟩
      refine t_isLetter (h.lb e) ?_
      refine pk_nb0 (isLt (b e)) (fun z1 => go (isGo_of (Or.inl z1))) (fun z1 => ?_)
      refine ⟨hin, ?_⟩
      refine t_isDigit (h.lb e) ?_
      refine pk_nb0 (isDg (b e)) (fun z2 => go (isGo_of (Or.inr z2))) (fun z2 => ?_)
      refine ⟨hin, ?_⟩
      have hb := h.lb e
      refine pk_ne (b e) 95 (fun z3 => ?_) (fun z3 => go (by unfold isGo; simp [z3]))
      rw [if_neg (by unfold isGo; simp [z1, z2, z3])] at hr
      rw [pk_sub hpe]
      rw [hr] at q
      exact q
  exact ⟨_, key (n - p) p rfl (by omega) (Nat.le_refl _) rfl⟩
theorem t_num {post : Int32 → Prop} {p w : Nat} (h : TpC b n M) (hp : p + w ≤ n) (q : post (oI (numK b p w))) : w_Tp_numberAt post 3 (nI p) (nI w) M := by
  have ln := h.ln
  unfold w_Tp_numberAt
  refine pk_le w 3 (fun z => ?_) (fun z => ?_)
  · rw [numK, if_neg (by omega)] at q
    have key : ∀ f e x, f = p + w - e → p ≤ e → e ≤ p + w → x < 10 ^ (e - p) → numF b w p 0 = numF b f e x → w_Tp_numberAt_L12 M post (f + 1) 3 (nI p) (nI w) (nI x) (nI e) := by
      intro f
      induction f with
      | zero =>
        intro e x hf he hpe hx hr
        unfold w_Tp_numberAt_L12
        rw [nI_add]
        refine pk_le (p + w) e (fun _ => ?_) (fun z => by omega)
        rw [hr] at q
        exact q
      | succ f ih =>
        intro e x hf he hpe hx hr
        unfold w_Tp_numberAt_L12
        rw [nI_add]
        refine pk_le (p + w) e (fun z => by omega) (fun z1 => ?_)
        rw [nI_clamp (by omega), show rI M (3 + 1) e = nI (b e) from h.b e (by omega), show rK M (3 + 1) = rK M 4 from rfl, h.K.l 3 6000]
        have hin : vp_in (nI e) 6000 := vin (by omega)
        refine ⟨hin, ?_⟩
        refine t_isDigit (h.lb e) ?_
        rw [numF] at hr
        refine pk_nb0 (isDg (b e)) (fun z2 => ?_) (fun z2 => ?_)
        · rw [if_pos z2] at hr
          refine ⟨hin, ?_⟩
          have hd := isDg_b z2
          rw [nI_1, show (10 : Int32) = nI 10 from rfl, pk_mul, nI_add, show nI (x * 10 + b e) - 48 = nI (x * 10 + b e - 48) from pk_sub (b := 48) (by omega)]
          refine ih (e + 1) _ (by omega) (by omega) (by omega) ?_ hr
          rw [show e + 1 - p = (e - p) + 1 by omega, Nat.pow_succ]
          omega
        · rw [if_neg (by rw [z2]; simp)] at hr
          rw [hr] at q
          exact q
    exact ⟨_, key w p 0 (by omega) (Nat.le_refl _) (by omega) (by rw [Nat.sub_self]; exact Nat.one_pos) rfl⟩
  · rw [numK, if_pos z] at q
    exact q
theorem wordF_fst {p w : Nat} : ∀ f j, wordF b p w f j = (fst1 (fun i => mt b p w (spN.getD i [])) f j).getD 128 := by
  intro f
  induction f with
  | zero => intro j; rfl
  | succ f ih =>
    intro j
    rw [wordF, fst1, ih]
    by_cases z : mt b p w (spN.getD j []) = true
    · rw [if_pos z, if_pos z]; rfl
    · rw [if_neg z, if_neg z]
theorem t_word {post : Int32 → Prop} {p w : Nat} (h : TpC b n M) (hp : p + w ≤ n) (h1 : 1 ≤ w) (q : post (nI (wordK b p w))) : w_Tp_wordAt post 3 (nI p) (nI w) M := by
  have ln := h.ln
  have ws := h.ws
  unfold w_Tp_wordAt
  refine n_find (k0 := 8) (k2 := 4) (C := 28) (nl := fun i => (spN.getD i []).length) (nm := fun i j => (spN.getD i []).getD j 0) (b := fun j => b (p + j)) (L := 28) (N := 6000) (P := fun i => mt b p w (spN.getD i [])) (fun i hi => (ws i hi).1) (fun i hi => (ws i hi).2) (fun j hj => h.b (p + j) (by omega)) (fun i hi => spN_len i hi) (by omega) (h.K.l 8 28) (h.K.l 9 336) (h.K.l 3 6000) (by omega) (by omega) (by omega) (by omega) (fun j _ => h.lb _) (fun i hi j hj => spN_byte i hi j (by have := spN_len i hi; omega)) (fun i _ => mt_iff) ?_
  have e0 : ¬ mt b p w (spN.getD 0 []) = true := fun z => by
    have := (mt_iff.1 z).1
    have : 0 = w := this
    omega
  rw [fst1, if_neg e0]
  rw [wordK, wordF_fst] at q
  have hl := fst1_lt (P := fun i => mt b p w (spN.getD i [])) 27 (0 + 1)
  revert q hl
  show post (nI ((fst1 (fun i => mt b p w (spN.getD i [])) 27 1).getD 128)) → (∀ x, fst1 (fun i => mt b p w (spN.getD i [])) 27 1 = some x → 1 ≤ x ∧ x < 1 + 27) → (¬ oI (fst1 (fun i => mt b p w (spN.getD i [])) 27 1) = ((-1 : Int32)) → post (oI (fst1 (fun i => mt b p w (spN.getD i [])) 27 1))) ∧ (¬ ¬ oI (fst1 (fun i => mt b p w (spN.getD i [])) 27 1) = ((-1 : Int32)) → post ((128 : Int32)))
  generalize fst1 (fun i => mt b p w (spN.getD i [])) 27 1 = o
  intro q hl
  cases o with
  | none => exact nb_t rfl q
  | some j =>
    have := hl j rfl
    exact nb_f (show ¬ oI (some j) = -1 from nI_m1 (by omega)) q
/-- tokens as they lie in the rows -/
def Rw (acc : List (Nat × Nat × Nat)) (M : aM) : Prop := rI M 3 5 = nI acc.length ∧ ∀ j, j < acc.length → rI M 5 j = nI (acc.getD j (0, 0, 0)).1 ∧ rI M 6 j = nI (acc.getD j (0, 0, 0)).2.1 ∧ ((acc.getD j (0, 0, 0)).1 ≠ 131 → rI M 7 j = nI (acc.getD j (0, 0, 0)).2.2)
/-- what the cutting leaves -/
def FrT (M0 M : aM) : Prop := M.1 = M0.1 ∧ M.2.1 = M0.2.1 ∧ M.2.2.2 = M0.2.2.2 ∧ (∀ k, k ≠ 3 → k ≠ 5 → k ≠ 6 → k ≠ 7 → rI M k = rI M0 k) ∧ ∀ j, j ≠ 5 → rI M 3 j = rI M0 3 j
theorem t_add {post : aM → Prop} {M0 : aM} {acc : List (Nat × Nat × Nat)} {x : Nat × Nat × Nat} {v : Int32} (hK : KOk (rK M0)) (h : Rw acc M) (f : FrT M0 M) (hl : acc.length ≤ 6000) (hv : x.1 ≠ 131 → v = nI x.2.2) (q : ∀ M', Rw (acc ++ [x]) M' → FrT M0 M' → post M') : w_Tp_addToken post 3 (nI x.1) (nI x.2.1) v M := by
  have e2 : rK M = rK M0 := f.2.1
  unfold w_Tp_addToken
  refine pk_lt 6000 acc.length (fun z => by omega) (fun _ => ?_) rfl h.1
  have hin : vp_in (nI acc.length) 6001 := vin (by omega)
  have k5 : (rK M (3 + 2)).2 = 6001 := by rw [e2]; exact hK.l 4 6001
  have k6 : (rK M (3 + 3)).2 = 6001 := by rw [e2]; exact hK.l 5 6001
  have k7 : (rK M (3 + 4)).2 = 6001 := by rw [e2]; exact hK.l 6 6001
  simp (disch := omega) only [w_Tp_addToken_J20, w_Tp_addToken_J30, w_Tp_addToken_J40, rw_n, kw_I, h.1, nI_clamp, k5, k6, k7, nI_1]
  refine ⟨hin, hin, hin, q _ ⟨?_, ?_⟩ ⟨f.1, f.2.1, f.2.2.1, ?_, ?_⟩⟩
  · rw [rw_ss, List.length_append]; rfl
  · intro j hj
    rw [List.length_append] at hj
    have hj2 : j < acc.length + 1 := hj
    simp (disch := omega) only [rw_n, rw_s]
    by_cases g : j = acc.length
    · subst g
      have e : (acc ++ [x]).getD acc.length (0, 0, 0) = x := by rw [List.getD_eq_getElem?_getD]; simp
      rw [e, up_s, up_s, up_s]
      exact ⟨rfl, rfl, hv⟩
    · have e : (acc ++ [x]).getD j (0, 0, 0) = acc.getD j (0, 0, 0) := by
        rw [List.getD_eq_getElem?_getD, List.getElem?_append_left (by omega), ← List.getD_eq_getElem?_getD]
      rw [e, up_n g, up_n g, up_n g]
      exact h.2 j (by omega)
  · intro k h3 h5 h6 h7
    rw [rw_n h3, rw_n h7, rw_n h6, rw_n h5]
    exact f.2.2.2.1 k h3 h5 h6 h7
  · intro j hj
    rw [rw_sn hj, rw_n (by omega), rw_n (by omega), rw_n (by omega)]
    exact f.2.2.2.2 j hj
theorem FrT.tp {M0 : aM} (h : TpC b n M0) (f : FrT M0 M) : TpC b n M :=
  ⟨by rw [show rK M = rK M0 from f.2.1]; exact h.K, by rw [f.2.2.2.2 1 (by omega)]; exact h.len, h.ln, fun j hj => by rw [f.2.2.2.1 4 (by omega) (by omega) (by omega) (by omega)]; exact h.b j hj, fun j hj => by rw [f.2.2.2.1 4 (by omega) (by omega) (by omega) (by omega)]; exact h.b6 j hj, h.lb, h.ws.fr (f.2.2.2.1 _ (by omega) (by omega) (by omega) (by omega)) (f.2.2.2.1 _ (by omega) (by omega) (by omega) (by omega))⟩
theorem t_cut {post : aM → Prop} {M0 : aM} (h : TpC b n M0) (q : ∀ M', Rw (toks b n) M' → FrT M0 M' → post M') : w_Tp_cutIntoTokens post 3 M0 := by
  have ln := h.ln
  unfold w_Tp_cutIntoTokens
  have key : ∀ f p acc (M : aM), n - p < f → p ≤ n → acc.length ≤ p → Rw acc M → FrT M0 M → toks b n = acc ++ cut b n f p → w_Tp_cutIntoTokens_L7 post f 3 (nI p) M := by
    intro f
    induction f with
    | zero => intro p acc M hf; omega
    | succ f ih =>
      intro p acc M hf hp hl hr hfr he
      have hT := hfr.tp h
      unfold w_Tp_cutIntoTokens_L7
      rw [cut] at he
      refine pk_le n p (fun z => ?_) (fun z => ?_) hT.len
      · rw [if_pos z] at he
        rw [hT.len]
        refine t_add (x := (130, n, 0)) h.K hr hfr (by omega) (fun _ => rfl) (fun M' h1 h2 => ?_)
        rw [← he] at h1
        exact q M' h1 h2
      · rw [if_neg (by omega)] at he
        unfold w_Tp_cutToken
        rw [nI_clamp (by omega), show rI M (3 + 1) p = nI (b p) from hT.b p z, show rK M (3 + 1) = rK M 4 from rfl, hT.K.l 3 6000]
        refine ⟨vin (by omega), ?_⟩
        refine t_isBlank (h.lb p) ?_
        refine pk_b0 (isBl (b p)) (fun z1 => ?_) (fun z1 => ?_)
        · rw [if_neg (by rw [z1]; simp)] at he
          have hok := tokA_ok (b := b) (n := n) (p := p) z
          have hr1 := runE_le (b := b) (n := n) (p := p) (by omega)
          -- behind a token of width w
          have nxt : ∀ (w : Nat) (M' : aM), (tokA b n p).2.2 = w → Rw (acc ++ [((tokA b n p).1, p, (tokA b n p).2.1)]) M' → FrT M0 M' → w_Tp_cutIntoTokens_L7 post f 3 (nI p + (if ((1 : Int32)) < nI w then nI w else ((1 : Int32)))) M' := by
            intro w M' hw h1 h2
            have hw2 := hok.2
            have e : nI p + (if ((1 : Int32)) < nI w then nI w else ((1 : Int32))) = nI (p + max 1 w) := by
              by_cases g : 1 < w
              · rw [if_pos (show (1 : Int32) < nI w from nI_lt (a := 1) g (by omega)), nI_add, Nat.max_eq_right (by omega)]
              · rw [if_neg (show ¬ (1 : Int32) < nI w from nI_nlt (a := 1) (b := w) (by omega) (by omega)), nI_1, Nat.max_eq_left (by omega)]
            rw [e]
            refine ih (p + max 1 w) _ M' (by omega) (by omega) ?_ h1 h2 ?_
            · rw [List.length_append]
              show acc.length + 1 ≤ _
              omega
            · rw [he, hw, List.append_assoc]; rfl
          refine t_isSign (h.lb p) ?_
          refine pk_b0 (isSg (b p)) (fun z2 => ?_) (fun z2 => ?_)
          · have eA : ∀ x, tokA b n p = x → tokA b n p = x := fun _ e => e
            refine t_run hT z ?_
            refine t_isLetter (h.lb p) ?_
            refine pk_b0 (isLt (b p)) (fun z3 => ?_) (fun z3 => ?_)
            · refine t_isDigit (h.lb p) ?_
              refine pk_b0 (isDg (b p)) (fun z4 => ?_) (fun z4 => ?_)
              · have e : tokA b n p = (131, 1, runE b n p - p) := by
                  unfold tokA
                  rw [if_neg (by rw [z2]; simp), if_neg (by rw [z3]; simp), if_neg (by rw [z4]; simp)]
                refine t_add (x := (131, p, 1)) h.K hr hfr (by omega) (fun z => absurd rfl z) (fun M' h1 h2 => ?_)
                exact nxt _ M' (by rw [e]) (by rw [e]; exact h1) h2
              · have e : tokA b n p = (match numK b p (runE b n p - p) with
                  | some v => (129, v, runE b n p - p)
                  | none => (131, 0, runE b n p - p)) := by
                  unfold tokA
                  rw [if_neg (by rw [z2]; simp), if_neg (by rw [z3]; simp), if_pos z4]
                  cases numK b p (runE b n p - p) <;> rfl
                refine t_num hT (by omega) ?_
                have hnl : ∀ k, numK b p (runE b n p - p) = some k → k < 1000 := fun k hk => numK_lt hk
                revert e hnl
                generalize numK b p (runE b n p - p) = o
                intro e hnl
                cases o with
                | none =>
                  refine nb_t rfl ?_
                  unfold w_Tp_cutToken_J103
                  refine t_add (x := (131, p, 0)) h.K hr hfr (by omega) (fun z => absurd rfl z) (fun M' h1 h2 => ?_)
                  exact nxt _ M' (by rw [e]) (by rw [e]; exact h1) h2
                | some v =>
                  have := hnl v rfl
                  refine nb_f (nI_m1 (by omega)) ?_
                  unfold w_Tp_cutToken_J103
                  refine t_add (x := (129, p, v)) h.K hr hfr (by omega) (fun _ => rfl) (fun M' h1 h2 => ?_)
                  exact nxt _ M' (by rw [e]) (by rw [e]; exact h1) h2
            · have e : tokA b n p = (if 12 < runE b n p - p then 131 else wordK b p (runE b n p - p), runE b n p - p, runE b n p - p) := by
                unfold tokA
                rw [if_neg (by rw [z2]; simp), if_pos z3]
              refine pk_le (runE b n p - p) 12 (fun z4 => ?_) (fun z4 => ?_)
              · rw [if_neg (by omega)] at e
                refine t_word hT (by omega) (by have := runE_lt z (isGo_of (Or.inl z3)); omega) ?_
                unfold w_Tp_cutToken_J64
                refine t_add (x := (wordK b p (runE b n p - p), p, runE b n p - p)) h.K hr hfr (by omega) (fun _ => rfl) (fun M' h1 h2 => ?_)
                exact nxt _ M' (by rw [e]) (by rw [e]; exact h1) h2
              · rw [if_pos z4] at e
                unfold w_Tp_cutToken_J64
                refine t_add (x := (131, p, runE b n p - p)) h.K hr hfr (by omega) (fun z => absurd rfl z) (fun M' h1 h2 => ?_)
                exact nxt _ M' (by rw [e]) (by rw [e]; exact h1) h2
          · have e : tokA b n p = (b p, 1, 1) := by
              unfold tokA
              rw [if_pos z2]
            refine t_add (x := (b p, p, 1)) h.K hr hfr (by omega) (fun _ => rfl) (fun M' h1 h2 => ?_)
            exact nxt 1 M' (by rw [e]) (by rw [e]; exact h1) h2
        · rw [if_pos z1] at he
          rw [show nI p + (if ((1 : Int32)) < 1 then 1 else ((1 : Int32))) = nI (p + 1) from nI_1 p]
          exact ih (p + 1) acc M (by omega) (by omega) (by omega) hr hfr he
  refine ⟨n + 1, key (n + 1) 0 [] _ (by omega) (by omega) (by simp) ⟨by rw [rw_ss]; rfl, fun j hj => by exact absurd hj (Nat.not_lt_zero _)⟩ ⟨rfl, rfl, rfl, fun k h3 _ _ _ => rw_n h3, fun j hj => rw_sn hj⟩ rfl⟩
end CT
