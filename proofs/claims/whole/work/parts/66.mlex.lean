/-! THE MODEL'S TOKENS. -/
def sx (c : Nat) : Int32 := (nI c).toInt8.toInt32
theorem sx_and : ∀ c, c < 256 → sx c &&& 255 = nI c := by decide +kernel
theorem sx_8 : ∀ c, c < 256 → (sx c).toInt8.toInt32 = sx c := by decide +kernel
theorem sx_eq {c d : Nat} (hc : c < 256) (hd : d < 256) : sx c = sx d ↔ c = d := by
  constructor
  · intro h
    have h2 : sx c &&& 255 = sx d &&& 255 := by rw [h]
    rw [sx_and c hc, sx_and d hd, nI_eq (by omega) (by omega)] at h2
    exact h2
  · intro h; rw [h]
/-- cells of the model that the reading may change -/
def dLo (k j : Nat) : Prop := (k = 136 ∧ 32 ≤ j ∧ j ≤ 40) ∨ (k = 139 ∧ 2 ≤ j) ∨ (140 ≤ k ∧ k ≤ 143 ∧ 16 ≤ j) ∨ (k = 144 ∧ 216 ≤ j) ∨ (k = 145 ∧ 2592 ≤ j) ∨ (k = 146 ∧ 2 ≤ j) ∨ (147 ≤ k ∧ k ≤ 150 ∧ 200 ≤ j) ∨ (k = 151 ∧ 2 ≤ j) ∨ (152 ≤ k ∧ k ≤ 158 ∧ 800 ≤ j) ∨ (159 ≤ k ∧ k ≤ 160 ∧ 2 ≤ j) ∨ (161 ≤ k ∧ k ≤ 163 ∧ 200 ≤ j) ∨ (167 ≤ k ∧ k ≤ 171)
def FrM (M0 M : aM) : Prop := M.1 = M0.1 ∧ M.2.1 = M0.2.1 ∧ M.2.2.2 = M0.2.2.2 ∧ ∀ k j, ¬ dLo k j → rI M k j = rI M0 k j
theorem FrM.refl {M : aM} : FrM M M := ⟨rfl, rfl, rfl, fun _ _ _ => rfl⟩
theorem FrM.K {M0 M : aM} (h : FrM M0 M) : rK M = rK M0 := h.2.1
theorem FrM.w {M0 M : aM} (h : FrM M0 M) {k j : Nat} {x : Int32} (hd : dLo k j) : FrM M0 (wI M k j x) := ⟨h.1, h.2.1, h.2.2.1, fun k' j' hn => by
  rw [rw_e, if_neg (by rintro ⟨rfl, rfl⟩; exact hn hd)]
  exact h.2.2.2 k' j' hn⟩
/-- nothing but the model's token cells has changed -/
def FT (M M' : aM) : Prop := M'.1 = M.1 ∧ M'.2.1 = M.2.1 ∧ M'.2.2.2 = M.2.2.2 ∧ (∀ k, k ≠ 136 → rI M' k = rI M k) ∧ ∀ j, (j < 32 ∨ 38 < j) → rI M' 136 j = rI M 136 j
theorem FT.refl {M : aM} : FT M M := ⟨rfl, rfl, rfl, fun _ _ => rfl, fun _ _ => rfl⟩
theorem FT.w {M M' : aM} (h : FT M M') {j : Nat} {x : Int32} (hj : 32 ≤ j ∧ j ≤ 38) : FT M (wI M' 136 j x) :=
  ⟨h.1, h.2.1, h.2.2.1, fun k hk => (rw_n hk).trans (h.2.2.2.1 k hk), fun j' hj' => (rw_sn (by omega)).trans (h.2.2.2.2 j' hj')⟩
theorem FT.trans {M M' M2 : aM} (h : FT M M') (h2 : FT M' M2) : FT M M2 :=
  ⟨h2.1.trans h.1, h2.2.1.trans h.2.1, h2.2.2.1.trans h.2.2.1, fun k hk => (h2.2.2.2.1 k hk).trans (h.2.2.2.1 k hk), fun j hj => (h2.2.2.2.2 j hj).trans (h.2.2.2.2 j hj)⟩
theorem FT.fr {M0 M M' : aM} (h : FT M M') (f : FrM M0 M) : FrM M0 M' := ⟨h.1.trans f.1, h.2.1.trans f.2.1, h.2.2.1.trans f.2.2.1, fun k j hn => by
  by_cases g : k = 136
  · subst g
    rw [h.2.2.2.2 j (by unfold dLo at hn; omega)]
    exact f.2.2.2 _ _ hn
  · rw [h.2.2.2.1 k g]
    exact f.2.2.2 _ _ hn⟩
/-- the tape as the model holds it -/
def TpM (b : Nat → Nat) (n : Nat) (M : aM) : Prop := (KOk (rK M)) ∧ (rI M 136 2 = nI n) ∧ (n ≤ 6000) ∧ (∀ j, j < n → rI M 137 j = sx (b j)) ∧ (∀ j, b j < 256)
theorem TpM.K {b : Nat → Nat} {n : Nat} {M : aM} (h : TpM b n M) : KOk (rK M) := h.1
theorem TpM.len {b : Nat → Nat} {n : Nat} {M : aM} (h : TpM b n M) : rI M 136 2 = nI n := h.2.1
theorem TpM.ln {b : Nat → Nat} {n : Nat} {M : aM} (h : TpM b n M) : n ≤ 6000 := h.2.2.1
theorem TpM.b {b : Nat → Nat} {n : Nat} {M : aM} (h : TpM b n M) : ∀ j, j < n → rI M 137 j = sx (b j) := h.2.2.2.1
theorem TpM.lb {b : Nat → Nat} {n : Nat} {M : aM} (h : TpM b n M) : ∀ j, b j < 256 := h.2.2.2.2
theorem FrM.tp {b : Nat → Nat} {n : Nat} {M0 M : aM} (f : FrM M0 M) (h : TpM b n M0) : TpM b n M :=
  ⟨by rw [f.K]; exact h.K, by rw [f.2.2.2 136 2 (by unfold dLo; omega)]; exact h.len, h.ln, fun j hj => by rw [f.2.2.2 137 j (by unfold dLo; omega)]; exact h.b j hj, h.lb⟩
theorem FT.tp {b : Nat → Nat} {n : Nat} {M0 M : aM} (f : FT M0 M) (h : TpM b n M0) : TpM b n M := (f.fr FrM.refl).tp h
section BY
variable {M : aM} {post : Int32 → Prop} {c : Nat}
theorem m_in (v lo hi : Nat) {x y z : Int32} (p : post (bI (decide (lo ≤ v) && decide (v ≤ hi)))) (hx : x = nI v := by rfl) (hy : y = nI lo := by rfl) (hz : z = nI hi := by rfl) (h1 : v < 2 ^ 31 := by omega) (h2 : lo < 2 ^ 31 := by omega) (h3 : hi < 2 ^ 31 := by omega) : w_Mo_in post x y z M := by
  subst hx hy hz
  unfold w_Mo_in
  refine pk_lt v lo (fun z => ⟨Or.inl rfl, ?_⟩) (fun z => ?_)
  · rw [decide_eq_false (show ¬ lo ≤ v by omega)] at p
    exact p
  refine pk_lt hi v (fun z2 => ⟨Or.inl rfl, ?_⟩) (fun z2 => ⟨Or.inr rfl, ?_⟩)
  · rw [decide_eq_false (show ¬ v ≤ hi by omega), Bool.and_false] at p
    exact p
  · rw [decide_eq_true (show lo ≤ v by omega), decide_eq_true (show v ≤ hi by omega)] at p
    exact p
theorem m_isLetter (hc : c < 256) (p : post (bI (isLt c))) : w_Mo_isLetter post (nI c) M := by
  unfold w_Mo_isLetter
  refine m_in c 97 122 ?_
  refine pk_nb0 (decide (97 ≤ c) && decide (c ≤ 122)) (fun z => ⟨Or.inr rfl, ?_⟩) (fun z => ?_)
  · rw [isLt, z] at p; exact p
  refine m_in c 65 90 ?_
  refine pk_b0 (decide (65 ≤ c) && decide (c ≤ 90)) (fun z2 => ⟨Or.inl rfl, ?_⟩) (fun z2 => ⟨Or.inr rfl, ?_⟩)
  · rw [isLt, z, z2] at p; exact p
  · rw [isLt, z, z2] at p; exact p
theorem m_isLetterM (p : post 0) : w_Mo_isLetter post (-1) M := by
  unfold w_Mo_isLetter w_Mo_in
  exact br_t (by decide) ⟨Or.inl rfl, nb_t rfl (br_t (by decide) ⟨Or.inl rfl, br_t rfl ⟨Or.inl rfl, p⟩⟩)⟩
theorem m_isDigit (hc : c < 256) (p : post (bI (isDg c))) : w_Mo_isDigit post (nI c) M := by
  unfold w_Mo_isDigit
  exact m_in c 48 57 ⟨bI_01 _, p⟩
theorem m_isDigitM (p : post 0) : w_Mo_isDigit post (-1) M := by
  unfold w_Mo_isDigit w_Mo_in
  exact br_t (by decide) ⟨Or.inl rfl, Or.inl rfl, p⟩
theorem m_goesOn (hc : c < 256) (p : post (bI (isGo c))) : w_Mo_goesOn post (nI c) M := by
  unfold w_Mo_goesOn
  refine m_isLetter hc ?_
  refine pk_nb0 (isLt c) (fun z => ⟨Or.inr rfl, ?_⟩) (fun z => ?_)
  · rw [isGo_of (Or.inl z)] at p; exact p
  refine m_isDigit hc ?_
  refine pk_nb0 (isDg c) (fun z2 => ⟨Or.inr rfl, ?_⟩) (fun z2 => ?_)
  · rw [isGo_of (Or.inr z2)] at p; exact p
  refine pk_ne c 95 (fun z3 => ⟨Or.inl rfl, ?_⟩) (fun z3 => ⟨Or.inr rfl, ?_⟩)
  · rw [show isGo c = false by unfold isGo; simp [z, z2, z3]] at p; exact p
  · rw [show isGo c = true by unfold isGo; simp [z3]] at p; exact p
theorem m_goesOnM (p : post 0) : w_Mo_goesOn post (-1) M := by
  unfold w_Mo_goesOn
  exact m_isLetterM (nb_t rfl (m_isDigitM (nb_t rfl (nb_f (by decide) ⟨Or.inl rfl, p⟩))))
theorem m_isSign (hc : c < 256) (p : post (bI (isSg c))) : w_Mo_isSign post (nI c) M := by
  unfold w_Mo_isSign
  refine pk_eq c 40 (fun z => ⟨Or.inr rfl, by subst z; exact p⟩) (fun z1 => ?_)
  refine pk_eq c 41 (fun z => ⟨Or.inr rfl, by subst z; exact p⟩) (fun z2 => ?_)
  refine pk_eq c 123 (fun z => ⟨Or.inr rfl, by subst z; exact p⟩) (fun z3 => ?_)
  refine pk_eq c 125 (fun z => ⟨Or.inr rfl, by subst z; exact p⟩) (fun z4 => ?_)
  refine pk_eq c 59 (fun z => ⟨Or.inr rfl, by subst z; exact p⟩) (fun z5 => ?_)
  refine pk_eq c 44 (fun z => ⟨Or.inr rfl, by subst z; exact p⟩) (fun z6 => ?_)
  refine pk_eq c 60 (fun z => ⟨Or.inr rfl, by subst z; exact p⟩) (fun z7 => ?_)
  refine pk_eq c 61 (fun z => ⟨Or.inr rfl, by subst z; exact p⟩) (fun z8 => ?_)
  refine pk_ne c 62 (fun z => ⟨Or.inl rfl, ?_⟩) (fun z => ⟨Or.inr rfl, by subst z; exact p⟩)
  rw [show isSg c = false by simp [isSg, z1, z2, z3, z4, z5, z6, z7, z8, z]] at p
  exact p
theorem m_atI {b : Nat → Nat} {n i : Nat} {x : Int32} (h : TpM b n M) (hi : i < n) (p : post (nI (b i))) (hx : x = nI i := by rfl) : w_Mo_at post 136 x M := by
  subst hx
  have ln := h.ln
  unfold w_Mo_at
  refine pk_le n i (fun z => by omega) (fun z => ?_) h.len
  rw [nI_clamp (by omega), show rI M (136 + 1) i = sx (b i) from h.b i hi, sx_and _ (h.lb i), h.K.l 136 6000]
  exact ⟨vin (by omega), p⟩
theorem m_atM {b : Nat → Nat} {n i : Nat} {x : Int32} (h : TpM b n M) (hi : n ≤ i) (p : post (-1)) (hx : x = nI i := by rfl) (hi2 : i < 2 ^ 31 := by omega) : w_Mo_at post 136 x M := by
  subst hx
  have ln := h.ln
  unfold w_Mo_at
  exact pk_le n i (fun z => p) (fun z => by omega) h.len
end BY
/-- ahead of token i, behind the tokens before it, stands byte p -/
def Cu (b : Nat → Nat) (n i p : Nat) : Prop := ∃ f, n - p < f ∧ (toks b n).drop i = cut b n f p
section CU
variable {b : Nat → Nat} {n i p : Nat}
theorem Cu.zero : Cu b n 0 0 := ⟨n + 1, by omega, rfl⟩
theorem Cu.bl (h : Cu b n i p) (hp : p < n) (g : isBl (b p) = true) : Cu b n i (p + 1) := by
  obtain ⟨f, h1, h2⟩ := h
  cases f with
  | zero => omega
  | succ f =>
    rw [cut, if_neg (by omega), if_pos g] at h2
    exact ⟨f, by omega, h2⟩
theorem Cu.fin (h : Cu b n i p) (hp : n ≤ p) : (toks b n).drop i = [(130, n, 0)] := by
  obtain ⟨f, h1, h2⟩ := h
  cases f with
  | zero => omega
  | succ f =>
    rw [cut, if_pos hp] at h2
    exact h2
theorem drop_tl {α : Type} {l : List α} {i : Nat} {x : α} {r : List α} (h : l.drop i = x :: r) : l.drop (i + 1) = r := by
  have : l.drop (i + 1) = (l.drop i).drop 1 := by rw [List.drop_drop]
  rw [this, h]; rfl
theorem drop_hd {α : Type} {l : List α} {i : Nat} {x d : α} {r : List α} (h : l.drop i = x :: r) : i < l.length ∧ l.getD i d = x := by
  have h1 : (l.drop i)[0]? = some x := by rw [h]; rfl
  rw [List.getElem?_drop, Nat.add_zero] at h1
  refine ⟨?_, by rw [List.getD_eq_getElem?_getD, h1]; rfl⟩
  cases Nat.lt_or_ge i l.length with
  | inl q => exact q
  | inr q => rw [List.getElem?_eq_none q] at h1; cases h1
theorem Cu.tok (h : Cu b n i p) (hp : p < n) (g : isBl (b p) = false) : (∃ r, (toks b n).drop i = ((tokA b n p).1, p, (tokA b n p).2.1) :: r) ∧ Cu b n (i + 1) (p + max 1 (tokA b n p).2.2) := by
  obtain ⟨f, h1, h2⟩ := h
  cases f with
  | zero => omega
  | succ f =>
    rw [cut, if_neg (by omega), if_neg (by rw [g]; simp)] at h2
    exact ⟨⟨_, h2⟩, f, by omega, drop_tl h2⟩
theorem tk_drop {x : Nat × Nat × Nat} {r : List (Nat × Nat × Nat)} (h : (toks b n).drop i = x :: r) : i < (tkOf b n).n ∧ (tkOf b n).k i = x.1 ∧ (tkOf b n).pl i = x.2.1 ∧ (tkOf b n).v i = x.2.2 := by
  have h1 := drop_hd (d := (130, n, 0)) h
  refine ⟨h1.1, ?_, ?_, ?_⟩
  · show ((toks b n).getD i (130, n, 0)).1 = _; rw [h1.2]
  · show ((toks b n).getD i (130, n, 0)).2.1 = _; rw [h1.2]
  · show ((toks b n).getD i (130, n, 0)).2.2 = _; rw [h1.2]
/-- a token is the end, or what stands at its place -/
theorem cut_mem (b : Nat → Nat) (n : Nat) : ∀ f p x, x ∈ cut b n f p → x = (130, n, 0) ∨ (x.2.1 < n ∧ x.1 = (tokA b n x.2.1).1 ∧ x.2.2 = (tokA b n x.2.1).2.1) := by
  intro f
  induction f with
  | zero => intro p x h; exact Or.inl (List.mem_singleton.1 h)
  | succ f ih =>
    intro p x h
    rw [cut] at h
    by_cases g : n ≤ p
    · rw [if_pos g] at h; exact Or.inl (List.mem_singleton.1 h)
    · rw [if_neg g] at h
      by_cases g2 : isBl (b p) = true
      · rw [if_pos g2] at h; exact ih _ _ h
      · rw [if_neg g2] at h
        rcases List.mem_cons.1 h with rfl | h
        · exact Or.inr ⟨by show p < n; omega, rfl, rfl⟩
        · exact ih _ _ h
theorem tk_at {j : Nat} (hj : j < (tkOf b n).n) : ((tkOf b n).k j = 130 ∧ (tkOf b n).pl j = n ∧ (tkOf b n).v j = 0) ∨ ((tkOf b n).pl j < n ∧ (tkOf b n).k j = (tokA b n ((tkOf b n).pl j)).1 ∧ (tkOf b n).v j = (tokA b n ((tkOf b n).pl j)).2.1) := by
  have hj2 : j < (toks b n).length := hj
  have e : (toks b n).getD j (130, n, 0) = (toks b n)[j] := by rw [List.getD_eq_getElem?_getD, List.getElem?_eq_getElem hj2]; rfl
  have hm := cut_mem b n (n + 1) 0 _ (List.getElem_mem hj2)
  show (((toks b n).getD j (130, n, 0)).1 = 130 ∧ ((toks b n).getD j (130, n, 0)).2.1 = n ∧ ((toks b n).getD j (130, n, 0)).2.2 = 0) ∨ (((toks b n).getD j (130, n, 0)).2.1 < n ∧ ((toks b n).getD j (130, n, 0)).1 = (tokA b n ((toks b n).getD j (130, n, 0)).2.1).1 ∧ ((toks b n).getD j (130, n, 0)).2.2 = (tokA b n ((toks b n).getD j (130, n, 0)).2.1).2.1)
  rw [e]
  rcases hm with h | h
  · left; rw [h]; exact ⟨rfl, rfl, rfl⟩
  · right; exact h
theorem tokA_w (hp : p < n) (h : (tokA b n p).1 < 28 ∨ (tokA b n p).1 = 128) : (tokA b n p).1 = wordK b p (tokA b n p).2.1 ∧ (tokA b n p).2.1 ≤ 12 ∧ p + (tokA b n p).2.1 ≤ n ∧ 1 ≤ (tokA b n p).1 := by
  have hr := runE_le (b := b) (n := n) (p := p) (by omega)
  revert h
  unfold tokA
  by_cases g1 : isSg (b p) = true
  · rw [if_pos g1]
    have := isSg_b g1
    intro h
    have h2 : b p < 28 ∨ b p = 128 := h
    omega
  rw [if_neg g1]
  by_cases g2 : isLt (b p) = true
  · rw [if_pos g2]
    dsimp only
    have hw := wordK_cases b p (runE b n p - p)
    intro h
    split at h
    · omega
    · rename_i g3
      rw [if_neg g3]
      refine ⟨rfl, by omega, by omega, ?_⟩
      rcases hw with ⟨e, _⟩ | ⟨e, _, _⟩ <;> omega
  rw [if_neg g2]
  by_cases g3 : isDg (b p) = true
  · rw [if_pos g3]
    cases numK b p (runE b n p - p) with
    | none => intro h; have h2 : 131 < 28 ∨ 131 = 128 := h; omega
    | some v => intro h; have h2 : 129 < 28 ∨ 129 = 128 := h; omega
  · rw [if_neg g3]
    intro h; have h2 : 131 < 28 ∨ 131 = 128 := h; omega
theorem tokA_s (hp : p < n) (h1 : 28 ≤ (tokA b n p).1) (h2 : (tokA b n p).1 ≠ 128) (h3 : (tokA b n p).1 ≠ 129) (h4 : (tokA b n p).1 ≠ 131) : (tokA b n p).1 = b p ∧ isSg (b p) = true := by
  revert h1 h2 h3 h4
  unfold tokA
  by_cases g1 : isSg (b p) = true
  · rw [if_pos g1]
    intros
    exact ⟨rfl, g1⟩
  rw [if_neg g1]
  by_cases g2 : isLt (b p) = true
  · rw [if_pos g2]
    dsimp only
    have hw := wordK_cases b p (runE b n p - p)
    intro h1 h2 h3 h4
    split at h4
    · omega
    · rename_i g3
      rw [if_neg g3] at h1 h2
      rcases hw with ⟨e, _⟩ | ⟨_, e, _⟩ <;> omega
  rw [if_neg g2]
  by_cases g3 : isDg (b p) = true
  · rw [if_pos g3]
    cases numK b p (runE b n p - p) with
    | none => intro _ _ _ h; exact absurd rfl h
    | some v => intro _ _ h _; exact absurd rfl h
  · rw [if_neg g3]
    intro _ _ _ h; exact absurd rfl h
theorem tokA_ne (hp : p < n) : (tokA b n p).1 ≠ 130 := (tokA_ok (b := b) hp).1.n130
end CU
/-- kinds of the class into kinds of the model -/
def tyK (k : Nat) : Nat := if k < 28 ∨ k = 128 then 1 else if k = 129 then 2 else if k = 130 then 4 else 3
/-- the model stands at token i, and no fault is known -/
def LM (b : Nat → Nat) (n : Nat) (M0 : aM) (i : Nat) (M : aM) : Prop := (FrM M0 M) ∧ (i < (tkOf b n).n) ∧ ((tkOf b n).k i ≠ 131) ∧ (rI M 136 38 = -1) ∧ (rI M 136 32 = 0) ∧ (rI M 136 35 = nI ((tkOf b n).pl i)) ∧ (rI M 136 34 = nI (tyK ((tkOf b n).k i))) ∧ (((tkOf b n).k i < 28 ∨ (tkOf b n).k i = 128) → rI M 136 36 = nI ((tkOf b n).v i)) ∧ (∃ z, z ≤ 6000 ∧ rI M 136 36 = nI z) ∧ ((tkOf b n).k i = 129 → rI M 136 37 = nI ((tkOf b n).v i)) ∧ (∃ p, p ≤ n ∧ rI M 136 33 = nI p ∧ ((tkOf b n).k i ≠ 130 → Cu b n (i + 1) p))
theorem LM.fr {b : Nat → Nat} {n : Nat} {M0 : aM} {i : Nat} {M : aM} (h : LM b n M0 i M) : FrM M0 M := h.1
theorem LM.li {b : Nat → Nat} {n : Nat} {M0 : aM} {i : Nat} {M : aM} (h : LM b n M0 i M) : i < (tkOf b n).n := h.2.1
theorem LM.nb {b : Nat → Nat} {n : Nat} {M0 : aM} {i : Nat} {M : aM} (h : LM b n M0 i M) : (tkOf b n).k i ≠ 131 := h.2.2.1
theorem LM.fl {b : Nat → Nat} {n : Nat} {M0 : aM} {i : Nat} {M : aM} (h : LM b n M0 i M) : rI M 136 38 = -1 := h.2.2.2.1
theorem LM.fk {b : Nat → Nat} {n : Nat} {M0 : aM} {i : Nat} {M : aM} (h : LM b n M0 i M) : rI M 136 32 = 0 := h.2.2.2.2.1
theorem LM.at_ {b : Nat → Nat} {n : Nat} {M0 : aM} {i : Nat} {M : aM} (h : LM b n M0 i M) : rI M 136 35 = nI ((tkOf b n).pl i) := h.2.2.2.2.2.1
theorem LM.ty {b : Nat → Nat} {n : Nat} {M0 : aM} {i : Nat} {M : aM} (h : LM b n M0 i M) : rI M 136 34 = nI (tyK ((tkOf b n).k i)) := h.2.2.2.2.2.2.1
theorem LM.sz {b : Nat → Nat} {n : Nat} {M0 : aM} {i : Nat} {M : aM} (h : LM b n M0 i M) : ((tkOf b n).k i < 28 ∨ (tkOf b n).k i = 128) → rI M 136 36 = nI ((tkOf b n).v i) := h.2.2.2.2.2.2.2.1
theorem LM.szb {b : Nat → Nat} {n : Nat} {M0 : aM} {i : Nat} {M : aM} (h : LM b n M0 i M) : ∃ z, z ≤ 6000 ∧ rI M 136 36 = nI z := h.2.2.2.2.2.2.2.2.1
theorem LM.num {b : Nat → Nat} {n : Nat} {M0 : aM} {i : Nat} {M : aM} (h : LM b n M0 i M) : (tkOf b n).k i = 129 → rI M 136 37 = nI ((tkOf b n).v i) := h.2.2.2.2.2.2.2.2.2.1
theorem LM.ps {b : Nat → Nat} {n : Nat} {M0 : aM} {i : Nat} {M : aM} (h : LM b n M0 i M) : ∃ p, p ≤ n ∧ rI M 136 33 = nI p ∧ ((tkOf b n).k i ≠ 130 → Cu b n (i + 1) p) := h.2.2.2.2.2.2.2.2.2.2
/-- the model has found a fault -/
def FM (b : Nat → Nat) (n : Nat) (M0 : aM) (f : Fl) (M : aM) : Prop := (FrM M0 M) ∧ (rI M 136 38 = nI f.2) ∧ (f.2 ≤ 6000) ∧ (rI M 136 32 = nI f.1) ∧ (∃ a, a ≤ 6000 ∧ rI M 136 35 = nI a) ∧ (∃ z, z ≤ 6000 ∧ rI M 136 36 = nI z)
theorem FM.fr {b : Nat → Nat} {n : Nat} {M0 : aM} {f : Fl} {M : aM} (h : FM b n M0 f M) : FrM M0 M := h.1
theorem FM.fl {b : Nat → Nat} {n : Nat} {M0 : aM} {f : Fl} {M : aM} (h : FM b n M0 f M) : rI M 136 38 = nI f.2 := h.2.1
theorem FM.lf {b : Nat → Nat} {n : Nat} {M0 : aM} {f : Fl} {M : aM} (h : FM b n M0 f M) : f.2 ≤ 6000 := h.2.2.1
theorem FM.fk {b : Nat → Nat} {n : Nat} {M0 : aM} {f : Fl} {M : aM} (h : FM b n M0 f M) : rI M 136 32 = nI f.1 := h.2.2.2.1
theorem FM.atb {b : Nat → Nat} {n : Nat} {M0 : aM} {f : Fl} {M : aM} (h : FM b n M0 f M) : ∃ a, a ≤ 6000 ∧ rI M 136 35 = nI a := h.2.2.2.2.1
theorem FM.szb {b : Nat → Nat} {n : Nat} {M0 : aM} {f : Fl} {M : aM} (h : FM b n M0 f M) : ∃ z, z ≤ 6000 ∧ rI M 136 36 = nI z := h.2.2.2.2.2
/-- the model has come to token i -/
def AT (b : Nat → Nat) (n : Nat) (M0 : aM) (i : Nat) (M : aM) : Prop := LM b n M0 i M ∨ ((tkOf b n).k i = 131 ∧ FM b n M0 (1, (tkOf b n).pl i) M)
section NX
variable {b : Nat → Nat} {n : Nat} {M0 M : aM}
theorem FM.ne {f : Fl} (h : FM b n M0 f M) : ¬ rI M 136 38 = -1 := by
  rw [h.fl]; exact nI_m1 (by have := h.lf; omega)
theorem m_bad0 {post : aM → Prop} {x : Int32} (hf : rI M 136 38 = -1) (p : post (wI (wI M 136 38 (rI M 136 35)) 136 32 x)) : w_Mo_bad post 136 x M := by
  unfold w_Mo_bad
  exact nb_t hf p
/-- a word is run through -/
theorem m_word {post : aM → Prop} {p : Nat} (h0 : TpM b n M) (hp : p < n) (q : ∀ M', FT M M' → rI M' 136 33 = nI (runE b n p) → rI M' 136 34 = 1 → rI M' 136 35 = nI p → rI M' 136 36 = nI (runE b n p - p) → (runE b n p - p ≤ 12 → rI M' 136 38 = -1 ∧ rI M' 136 32 = 0) → (12 < runE b n p - p → rI M' 136 38 = nI p ∧ rI M' 136 32 = 1) → post M') :
    ∀ f e (M' : aM), f = n - e → p ≤ e → e ≤ n → FT M M' → rI M' 136 33 = nI e → rI M' 136 34 = 1 → rI M' 136 35 = nI p → rI M' 136 38 = -1 → rI M' 136 32 = 0 → runE b n p = runE b n e → w_Mo_nextToken_L121 post (f + 1) 136 M' := by
  have ln := h0.ln
  have hE := runE_le (b := b) (n := n) (p := p) (by omega)
  have out : ∀ (e : Nat) (M' : aM), runE b n p = e → FT M M' → rI M' 136 33 = nI e → rI M' 136 34 = 1 → rI M' 136 35 = nI p → rI M' 136 38 = -1 → rI M' 136 32 = 0 → (((rI (wI M' 136 36 ((rI M' 136 33) - (rI M' 136 35))) 136 36) ≤ ((12 : Int32))) → post (wI M' 136 36 ((rI M' 136 33) - (rI M' 136 35)))) ∧ (¬ ((rI (wI M' 136 36 ((rI M' 136 33) - (rI M' 136 35))) 136 36) ≤ ((12 : Int32))) → w_Mo_bad (fun M3 => post M3) 136 ((1 : Int32)) (wI M' 136 36 ((rI M' 136 33) - (rI M' 136 35)))) := by
    intro e M' he hFT h33 h34 h35 h38 h32
    subst he
    rw [h33, h35, pk_sub hE.1]
    refine pk_le (runE b n p - p) 12 (fun z => ?_) (fun z => ?_) rw_ss
    · refine q _ (hFT.w (by omega)) ?_ ?_ ?_ rw_ss (fun _ => ⟨?_, ?_⟩) (fun z2 => by omega)
      · rw [rw_sn (by omega), h33]
      · rw [rw_sn (by omega), h34]
      · rw [rw_sn (by omega), h35]
      · rw [rw_sn (by omega), h38]
      · rw [rw_sn (by omega), h32]
    · refine m_bad0 (by rw [rw_sn (by omega), h38]) ?_
      rw [rw_sn (show 35 ≠ 36 by omega), h35]
      refine q _ (((hFT.w (by omega)).w (by omega)).w (by omega)) ?_ ?_ ?_ ?_ (fun z2 => by omega) (fun _ => ⟨?_, rw_ss⟩)
      · rw [rw_sn (by omega), rw_sn (by omega), rw_sn (by omega), h33]
      · rw [rw_sn (by omega), rw_sn (by omega), rw_sn (by omega), h34]
      · rw [rw_sn (by omega), rw_sn (by omega), rw_sn (by omega), h35]
      · rw [rw_sn (by omega), rw_sn (by omega), rw_ss]
      · rw [rw_sn (by omega), rw_ss]
  intro f
  induction f with
  | zero =>
    intro e M' hf hpe hen hFT h33 h34 h35 h38 h32 hr
    have ee : e = n := by omega
    have hr2 : runE b n p = e := by rw [hr, runE_end (by omega)]
    unfold w_Mo_nextToken_L121
    exact m_atM (hFT.tp h0) (show n ≤ e by omega) (m_goesOnM (br_t rfl (out e M' hr2 hFT h33 h34 h35 h38 h32))) h33
  | succ f ih =>
    intro e M' hf hpe hen hFT h33 h34 h35 h38 h32 hr
    have he : e < n := by omega
    unfold w_Mo_nextToken_L121
    refine m_atI (hFT.tp h0) he ?_ h33
    refine m_goesOn (h0.lb e) ?_
    refine pk_b0 (isGo (b e)) (fun z => out e M' (by rw [hr, runE_step he, if_neg (by rw [z]; simp)]) hFT h33 h34 h35 h38 h32) (fun z => ?_)
    rw [h33, nI_1]
    refine ih (e + 1) _ (by omega) (by omega) (by omega) (hFT.w (by omega)) rw_ss ?_ ?_ ?_ ?_ ?_
    · rw [rw_sn (by omega), h34]
    · rw [rw_sn (by omega), h35]
    · rw [rw_sn (by omega), h38]
    · rw [rw_sn (by omega), h32]
    · rw [hr, runE_step he, if_pos z]
/-- a number is run through -/
theorem m_num {post : aM → Prop} {p : Nat} (h0 : TpM b n M) (hp : p < n) (q : ∀ M', FT M M' → rI M' 136 34 = 2 → rI M' 136 35 = nI p → rI M' 136 36 = rI M 136 36 → (∀ v, numK b p (runE b n p - p) = some v → rI M' 136 33 = nI (runE b n p) ∧ rI M' 136 37 = nI v ∧ rI M' 136 38 = -1 ∧ rI M' 136 32 = 0) → (numK b p (runE b n p - p) = none → rI M' 136 38 = nI p ∧ rI M' 136 32 = 1) → post M') :
    ∀ f e x (M' : aM), f = p + 3 - e → p ≤ e → e ≤ p + 3 → e ≤ runE b n p → x < 10 ^ (e - p) → FT M M' → rI M' 136 33 = nI e → rI M' 136 34 = 2 → rI M' 136 35 = nI p → rI M' 136 36 = rI M 136 36 → rI M' 136 37 = nI x → rI M' 136 38 = -1 → rI M' 136 32 = 0 → runE b n p = runE b n e → numF b (runE b n p - p) p 0 = numF b (runE b n p - e) e x → w_Mo_nextToken_L195 post (f + 1) 136 M' := by
  have ln := h0.ln
  have hE := runE_le (b := b) (n := n) (p := p) (by omega)
  -- no further digit counts
  have out : ∀ (e x : Nat) (M' : aM), p ≤ e → e ≤ p + 3 → e ≤ runE b n p → FT M M' → rI M' 136 33 = nI e → rI M' 136 34 = 2 → rI M' 136 35 = nI p → rI M' 136 36 = rI M 136 36 → rI M' 136 37 = nI x → rI M' 136 38 = -1 → rI M' 136 32 = 0 → runE b n p = runE b n e → numF b (runE b n p - p) p 0 = numF b (runE b n p - e) e x → (e < n → isGo (b e) = true → isDg (b e) = false ∨ e = p + 3) → w_Mo_nextToken_J258 post 136 M' := by
    intro e x M' hpe he3 heE hFT h33 h34 h35 h36 h37 h38 h32 hr hn hz
    unfold w_Mo_nextToken_J258
    have good : runE b n p = e → post M' := by
      intro g
      rw [g, show e - e = 0 by omega] at hn
      have hk : numK b p (e - p) = some x := by
        rw [numK, if_neg (by omega), hn]; rfl
      refine q M' hFT h34 h35 h36 (fun v hv => ?_) (fun hv => ?_)
      · rw [g, hk] at hv
        cases hv
        rw [g]
        exact ⟨h33, h37, h38, h32⟩
      · rw [g, hk] at hv
        cases hv
    by_cases hen : e < n
    · refine m_atI (hFT.tp h0) hen ?_ h33
      refine m_goesOn (h0.lb e) ?_
      refine pk_b0 (isGo (b e)) (fun z => good (by rw [hr, runE_step hen, if_neg (by rw [z]; simp)])) (fun z => ?_)
      have hlt : e < runE b n p := by rw [hr]; exact runE_lt hen z
      have hk : numK b p (runE b n p - p) = none := by
        rw [numK]
        by_cases g : 3 < runE b n p - p
        · rw [if_pos g]
        · rw [if_neg g, hn, show runE b n p - e = (runE b n p - e - 1) + 1 by omega, numF]
          rcases hz hen z with g2 | g2
          · rw [if_neg (by rw [g2]; simp)]
          · omega
      refine m_bad0 h38 ?_
      rw [h35]
      refine q _ ((hFT.w (by omega)).w (by omega)) ?_ ?_ ?_ (fun v hv => by rw [hk] at hv; cases hv) (fun _ => ⟨?_, rw_ss⟩)
      · rw [rw_sn (by omega), rw_sn (by omega), h34]
      · rw [rw_sn (by omega), rw_sn (by omega), h35]
      · rw [rw_sn (by omega), rw_sn (by omega), h36]
      · rw [rw_sn (by omega), rw_ss]
    · refine m_atM (hFT.tp h0) (show n ≤ e by omega) ?_ h33
      exact m_goesOnM (br_t rfl (good (by omega)))
  intro f
  induction f with
  | zero =>
    intro e x M' hf hpe he3 heE hx hFT h33 h34 h35 h36 h37 h38 h32 hr hn
    unfold w_Mo_nextToken_L195
    have e3 : e = p + 3 := by omega
    have ho := out e x M' hpe he3 heE hFT h33 h34 h35 h36 h37 h38 h32 hr hn (fun _ _ => Or.inr e3)
    have h3 : (3 : Int32) ≤ rI M' 136 33 - rI M' 136 35 := by
      rw [h33, h35, pk_sub hpe, show e - p = 3 by omega]; decide
    by_cases hen : e < n
    · refine m_atI (hFT.tp h0) hen ?_ h33
      refine m_isDigit (h0.lb e) ?_
      exact pk_b0 (isDg (b e)) (fun _ => ho) (fun _ => br_t h3 ho)
    · refine m_atM (hFT.tp h0) (show n ≤ e by omega) ?_ h33
      exact m_isDigitM (br_t rfl ho)
  | succ f ih =>
    intro e x M' hf hpe he3 heE hx hFT h33 h34 h35 h36 h37 h38 h32 hr hn
    unfold w_Mo_nextToken_L195
    by_cases hen : e < n
    · refine m_atI (hFT.tp h0) hen ?_ h33
      refine m_isDigit (h0.lb e) ?_
      refine pk_b0 (isDg (b e)) (fun z => out e x M' hpe he3 heE hFT h33 h34 h35 h36 h37 h38 h32 hr hn (fun _ _ => Or.inl z)) (fun z => ?_)
      have hg := isGo_of (c := b e) (Or.inr z)
      have hd := isDg_b z
      have hlt : e < runE b n p := by rw [hr]; exact runE_lt hen hg
      rw [h33, h35, pk_sub hpe]
      refine pk_le 3 (e - p) (fun g => by omega) (fun g => ?_)
      refine m_atI (hFT.tp h0) hen ?_
      have e7 : ((10 : Int32) * rI M' 136 37 + nI (b e)) - 48 = nI (x * 10 + b e - 48) := by
        rw [h37, show (10 : Int32) = nI 10 from rfl, pk_mul, nI_add, show nI (10 * x + b e) - 48 = nI (10 * x + b e - 48) from pk_sub (b := 48) (by omega), Nat.mul_comm]
      rw [e7, rw_sn (show 33 ≠ 37 by omega), h33, nI_1]
      refine ih (e + 1) (x * 10 + b e - 48) _ (by omega) (by omega) (by omega) (by omega) ?_ ((hFT.w (by omega)).w (by omega)) rw_ss ?_ ?_ ?_ ?_ ?_ ?_ ?_ ?_
      · rw [show e + 1 - p = (e - p) + 1 by omega, Nat.pow_succ]; omega
      · rw [rw_sn (by omega), rw_sn (by omega), h34]
      · rw [rw_sn (by omega), rw_sn (by omega), h35]
      · rw [rw_sn (by omega), rw_sn (by omega), h36]
      · rw [rw_sn (by omega), rw_ss]
      · rw [rw_sn (by omega), rw_sn (by omega), h38]
      · rw [rw_sn (by omega), rw_sn (by omega), h32]
      · rw [hr, runE_step hen, if_pos hg]
      · rw [hn, show runE b n p - e = (runE b n p - (e + 1)) + 1 by omega, numF, if_pos z]
    · refine m_atM (hFT.tp h0) (show n ≤ e by omega) ?_ h33
      exact m_isDigitM (br_t rfl (out e x M' hpe he3 heE hFT h33 h34 h35 h36 h37 h38 h32 hr hn (fun g => absurd g hen)))
theorem isBl_ne {c : Nat} (h1 : c ≠ 9) (h2 : c ≠ 10) (h3 : c ≠ 13) (h4 : c ≠ 32) : isBl c = false := by
  simp [isBl, h1, h2, h3, h4]
theorem isLt_b {c : Nat} (h : isLt c = true) : (97 ≤ c ∧ c ≤ 122) ∨ (65 ≤ c ∧ c ≤ 90) := by
  unfold isLt at h
  simpa using h
theorem isSg_f {c : Nat} (h : isLt c = true ∨ isDg c = true) : isSg c = false := by
  cases hs : isSg c with
  | false => rfl
  | true =>
    have h1 := isSg_b hs
    rcases h with h | h
    · have := isLt_b h; omega
    · have := isDg_b h; omega
/-- the next token, from byte p on -/
theorem m_nextC {post : aM → Prop} {i p : Nat} (h0 : TpM b n M0) (fr : FrM M0 M) (fl : rI M 136 38 = -1) (fk : rI M 136 32 = 0) (szb : ∃ z, z ≤ 6000 ∧ rI M 136 36 = nI z) (hp : p ≤ n) (hps : rI M 136 33 = nI p) (cu : Cu b n i p) (q : ∀ M', FT M M' → AT b n M0 i M' → post M') : w_Mo_nextToken post 136 M := by
  have ln := h0.ln
  have hT : TpM b n M := fr.tp h0
  unfold w_Mo_nextToken
  refine br_t fl ⟨n - p + 1, ?_⟩
  have key : ∀ f p (M' : aM), f = n - p → p ≤ n → Cu b n i p → FT M M' → rI M' 136 33 = nI p → rI M' 136 38 = -1 → rI M' 136 32 = 0 → rI M' 136 36 = rI M 136 36 → w_Mo_nextToken_L9 post (f + 1) 136 M' := by
    intro f
    induction f with
    | zero =>
      intro p M' hf hp cu hFT h33 h38 h32 h36
      have en := cu.fin (by omega)
      have tp := hFT.tp hT
      have td := tk_drop en
      unfold w_Mo_nextToken_L9
      refine m_atM tp (show n ≤ p by omega) (br_f (by decide) ?_) h33
      refine m_atM tp (show n ≤ p by omega) (br_f (by decide) ?_) h33
      refine m_atM tp (show n ≤ p by omega) (br_f (by decide) ?_) h33
      refine m_atM tp (show n ≤ p by omega) (nb_f (by decide) ?_) h33
      refine m_atM (i := p) ((FT.w FT.refl (by omega)).tp tp) (show n ≤ p by omega) (nb_t rfl ?_) (by rw [rw_sn (by omega), h33])
      have hF2 := ((hFT.w (j := 35) (x := rI M' 136 33) (by omega)).w (j := 34) (x := 4) (by omega)).w (j := 36) (x := 0) (by omega)
      refine q _ hF2 (Or.inl ⟨hF2.fr fr, td.1, by rw [td.2.1]; show 130 ≠ 131; omega, ?_, ?_, ?_, ?_, ?_, ⟨0, by omega, rw_ss⟩, ?_, ⟨p, hp, ?_, ?_⟩⟩)
      · rw [rw_sn (by omega), rw_sn (by omega), rw_sn (by omega), h38]
      · rw [rw_sn (by omega), rw_sn (by omega), rw_sn (by omega), h32]
      · rw [rw_sn (by omega), rw_sn (by omega), rw_ss, h33, td.2.2.1]; show nI p = nI n; rw [show p = n by omega]
      · rw [rw_sn (by omega), rw_ss, td.2.1]; rfl
      · intro z; rw [td.2.1] at z; exact absurd z (by show ¬ (130 < 28 ∨ 130 = 128); omega)
      · intro z; rw [td.2.1] at z; exact absurd z (by show ¬ 130 = 129; omega)
      · rw [rw_sn (by omega), rw_sn (by omega), rw_sn (by omega), h33]
      · intro z; exact absurd td.2.1 z
    | succ f ih =>
      intro p M' hf hp cu hFT h33 h38 h32 h36
      have hpn : p < n := by omega
      have tp := hFT.tp hT
      have hb := h0.lb p
      unfold w_Mo_nextToken_L9
      have bl : isBl (b p) = true → w_Mo_nextToken_J61 post (w_Mo_nextToken_L9 post (f + 1)) 136 M' := by
        intro g
        unfold w_Mo_nextToken_J61
        rw [h33, nI_1]
        refine ih (p + 1) _ (by omega) (by omega) (cu.bl hpn g) (hFT.w (by omega)) rw_ss ?_ ?_ ?_
        · rw [rw_sn (by omega), h38]
        · rw [rw_sn (by omega), h32]
        · rw [rw_sn (by omega), h36]
      refine m_atI tp hpn (pk_eq (b p) 9 (fun z => bl (by rw [z]; rfl)) (fun z9 => ?_)) h33
      refine m_atI tp hpn (pk_eq (b p) 10 (fun z => bl (by rw [z]; rfl)) (fun z10 => ?_)) h33
      refine m_atI tp hpn (pk_eq (b p) 13 (fun z => bl (by rw [z]; rfl)) (fun z13 => ?_)) h33
      refine m_atI tp hpn (pk_ne (b p) 32 (fun z32 => ?_) (fun z => bl (by rw [z]; rfl))) h33
      obtain ⟨⟨r, hr⟩, cu2⟩ := cu.tok hpn (isBl_ne z9 z10 z13 z32)
      have td := tk_drop hr
      have hok := tokA_ok (b := b) hpn
      have hrE := runE_le (b := b) (n := n) (p := p) (by omega)
      have hF1 : FT M (wI M' 136 35 (rI M' 136 33)) := hFT.w (by omega)
      have g33 : rI (wI M' 136 35 (rI M' 136 33)) 136 33 = nI p := by rw [rw_sn (by omega), h33]
      have g35 : rI (wI M' 136 35 (rI M' 136 33)) 136 35 = nI p := by rw [rw_ss, h33]
      have g36 : rI (wI M' 136 35 (rI M' 136 33)) 136 36 = rI M 136 36 := by rw [rw_sn (by omega), h36]
      have g38 : rI (wI M' 136 35 (rI M' 136 33)) 136 38 = -1 := by rw [rw_sn (by omega), h38]
      have g32 : rI (wI M' 136 35 (rI M' 136 33)) 136 32 = 0 := by rw [rw_sn (by omega), h32]
      refine m_atI (hF1.tp hT) hpn ?_ g33
      generalize hM1 : wI M' 136 35 (rI M' 136 33) = M1 at hF1 g33 g35 g36 g38 g32 ⊢
      obtain ⟨z0, hz0, hz1⟩ := szb
      refine nb_f (nI_m1 (by omega)) ?_
      refine m_isLetter hb ?_
      refine pk_b0 (isLt (b p)) (fun zl => ?_) (fun zl => ?_)
      · refine m_isDigit hb ?_
        refine pk_b0 (isDg (b p)) (fun zd => ?_) (fun zd => ?_)
        · refine m_isSign hb ?_
          refine pk_b0 (isSg (b p)) (fun zs => ?_) (fun zs => ?_)
          · -- no token begins so
            have eA : tokA b n p = (131, 1, runE b n p - p) := by
              unfold tokA
              rw [if_neg (by rw [zs]; simp), if_neg (by rw [zl]; simp), if_neg (by rw [zd]; simp)]
            rw [eA] at td
            refine m_bad0 g38 ?_
            have hF2 := (hF1.w (j := 38) (x := rI M1 136 35) (by omega)).w (j := 32) (x := 1) (by omega)
            refine q _ hF2 (Or.inr ⟨td.2.1, hF2.fr fr, ?_, ?_, rw_ss, ⟨p, by omega, ?_⟩, ⟨z0, hz0, ?_⟩⟩)
            · rw [rw_sn (by omega), rw_ss, g35, td.2.2.1]
            · rw [td.2.2.1]; show p ≤ 6000; omega
            · rw [rw_sn (by omega), rw_sn (by omega), g35]
            · rw [rw_sn (by omega), rw_sn (by omega), g36, hz1]
          · -- a sign
            have eA : tokA b n p = (b p, 1, 1) := by
              unfold tokA
              rw [if_pos zs]
            rw [eA] at td cu2
            have hs := isSg_b zs
            have tk1 : (tkOf b n).k i = b p := td.2.1
            unfold w_Mo_nextToken_J292 w_Mo_nextToken_J297
            rw [rw_sn (show 33 ≠ 36 by omega), rw_sn (show 33 ≠ 34 by omega), g33, nI_1]
            have hF2 := ((hF1.w (j := 34) (x := 3) (by omega)).w (j := 36) (x := 1) (by omega)).w (j := 33) (x := nI (p + 1)) (by omega)
            refine q _ hF2 (Or.inl ⟨hF2.fr fr, td.1, by rw [tk1]; omega, ?_, ?_, ?_, ?_, ?_, ⟨1, by omega, ?_⟩, ?_, ⟨p + 1, by omega, rw_ss, fun _ => cu2⟩⟩)
            · rw [rw_sn (by omega), rw_sn (by omega), rw_sn (by omega), g38]
            · rw [rw_sn (by omega), rw_sn (by omega), rw_sn (by omega), g32]
            · rw [rw_sn (by omega), rw_sn (by omega), rw_sn (by omega), g35, td.2.2.1]
            · rw [rw_sn (by omega), rw_sn (by omega), rw_ss, tk1, tyK, if_neg (by omega), if_neg (by omega), if_neg (by omega)]; rfl
            · intro z; rw [tk1] at z; omega
            · rw [rw_sn (by omega), rw_ss]; rfl
            · intro z; rw [tk1] at z; omega
        · -- a number
          have zs := isSg_f (c := b p) (Or.inr zd)
          have eA : tokA b n p = (match numK b p (runE b n p - p) with
            | some v => (129, v, runE b n p - p)
            | none => (131, 0, runE b n p - p)) := by
            unfold tokA
            rw [if_neg (by rw [zs]; simp), if_neg (by rw [zl]; simp), if_pos zd]
            cases numK b p (runE b n p - p) <;> rfl
          have hE := runE_lt hpn (isGo_of (Or.inr zd))
          have hF3 : FT M (wI (wI M1 136 34 2) 136 37 0) := (hF1.w (by omega)).w (by omega)
          refine ⟨4, m_num (p := p) (M := wI (wI M1 136 34 2) 136 37 0) (hF3.tp hT) hpn (fun M2 hF2 k34 k35 k36 kg kb => ?_) 3 p 0 _ (by omega) (by omega) (by omega) (by omega) (by rw [Nat.sub_self]; exact Nat.one_pos) FT.refl ?_ ?_ ?_ rfl rw_ss ?_ ?_ rfl rfl⟩
          · have hF4 := hF3.trans hF2
            have k36' : rI M2 136 36 = nI z0 := by rw [k36, rw_sn (by omega), rw_sn (by omega), g36, hz1]
            cases hk : numK b p (runE b n p - p) with
            | none =>
              rw [hk] at eA
              rw [eA] at td
              have kb := kb hk
              refine q _ hF4 (Or.inr ⟨td.2.1, hF4.fr fr, ?_, ?_, kb.2, ⟨p, by omega, k35⟩, ⟨z0, hz0, k36'⟩⟩)
              · rw [kb.1, td.2.2.1]
              · rw [td.2.2.1]; show p ≤ 6000; omega
            | some v =>
              rw [hk] at eA
              rw [eA] at td cu2
              have kg := kg v hk
              have tk1 : (tkOf b n).k i = 129 := td.2.1
              have cu3 : Cu b n (i + 1) (runE b n p) := by
                have : p + max 1 (runE b n p - p) = runE b n p := by omega
                rw [← this]; exact cu2
              refine q _ hF4 (Or.inl ⟨hF4.fr fr, td.1, by rw [tk1]; omega, kg.2.2.1, kg.2.2.2, ?_, ?_, ?_, ⟨z0, hz0, k36'⟩, ?_, ⟨runE b n p, by omega, kg.1, fun _ => cu3⟩⟩)
              · rw [k35, td.2.2.1]
              · rw [k34, tk1]; rfl
              · intro z; rw [tk1] at z; omega
              · intro _; rw [kg.2.1, td.2.2.2]
          · rw [rw_sn (by omega), rw_sn (by omega), g33]
          · rw [rw_sn (by omega), rw_ss]
          · rw [rw_sn (by omega), rw_sn (by omega), g35]
          · rw [rw_sn (by omega), rw_sn (by omega), g38]
          · rw [rw_sn (by omega), rw_sn (by omega), g32]
      · -- a word
        have zs := isSg_f (c := b p) (Or.inl zl)
        have eA : tokA b n p = (if 12 < runE b n p - p then 131 else wordK b p (runE b n p - p), runE b n p - p, runE b n p - p) := by
          unfold tokA
          rw [if_neg (by rw [zs]; simp), if_pos zl]
        have hE := runE_lt hpn (isGo_of (Or.inl zl))
        have hF3 : FT M (wI M1 136 34 1) := hF1.w (by omega)
        refine ⟨n - p + 1, m_word (p := p) (M := wI M1 136 34 1) (hF3.tp hT) hpn (fun M2 hF2 k33 k34 k35 k36 kg kb => ?_) (n - p) p _ rfl (by omega) (by omega) FT.refl ?_ rw_ss ?_ ?_ ?_ rfl⟩
        · have hF4 := hF3.trans hF2
          by_cases g : 12 < runE b n p - p
          · rw [if_pos g] at eA
            rw [eA] at td
            have kb := kb g
            refine q _ hF4 (Or.inr ⟨td.2.1, hF4.fr fr, ?_, ?_, kb.2, ⟨p, by omega, k35⟩, ⟨runE b n p - p, by omega, k36⟩⟩)
            · rw [kb.1, td.2.2.1]
            · rw [td.2.2.1]; show p ≤ 6000; omega
          · rw [if_neg g] at eA
            rw [eA] at td cu2
            have kg := kg (by omega)
            have tk1 : (tkOf b n).k i = wordK b p (runE b n p - p) := td.2.1
            have hw := wordK_cases b p (runE b n p - p)
            have hw2 : wordK b p (runE b n p - p) < 28 ∨ wordK b p (runE b n p - p) = 128 := by
              rcases hw with ⟨e, _⟩ | ⟨_, e, _⟩
              · right; exact e
              · left; exact e
            have cu3 : Cu b n (i + 1) (runE b n p) := by
              have : p + max 1 (runE b n p - p) = runE b n p := by omega
              rw [← this]; exact cu2
            refine q _ hF4 (Or.inl ⟨hF4.fr fr, td.1, by rw [tk1]; omega, kg.1, kg.2, ?_, ?_, ?_, ⟨runE b n p - p, by omega, k36⟩, ?_, ⟨runE b n p, by omega, k33, fun _ => cu3⟩⟩)
            · rw [k35, td.2.2.1]
            · rw [k34, tk1, tyK, if_pos hw2]; rfl
            · intro _; rw [k36, td.2.2.2]
            · intro z; rw [tk1] at z; omega
        · rw [rw_sn (by omega), g33]
        · rw [rw_sn (by omega), g35]
        · rw [rw_sn (by omega), g38]
        · rw [rw_sn (by omega), g32]
  exact key _ p M rfl hp cu FT.refl hps fl fk rfl
theorem m_next {post : aM → Prop} {i : Nat} (h0 : TpM b n M0) (h : LM b n M0 i M) (hk : (tkOf b n).k i ≠ 130) (q : ∀ M', FT M M' → AT b n M0 (i + 1) M' → post M') : w_Mo_nextToken post 136 M := by
  obtain ⟨p, h1, h2, h3⟩ := h.ps
  exact m_nextC h0 h.fr h.fl h.fk h.szb h1 h2 (h3 hk) q
theorem m_nextF {post : aM → Prop} {f : Fl} (h : FM b n M0 f M) (q : post M) : w_Mo_nextToken post 136 M := by
  unfold w_Mo_nextToken
  exact br_f h.ne q
end NX
