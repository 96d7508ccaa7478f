/-! Goal-first rules for methods that may throw (nothing written yet). -/
def GxN (d w q : Nat) (post : Option aV → Prop) (ex : Nat → Prop) (σ : aS) : Prop := (∃ r, post r ∧ Rn true d w q true σ (Sum.inl r, σ.2.2.2, true)) ∨ (∃ x, ex x ∧ Rn true d w q true σ (Sum.inr (x, aN σ.2.2.2), aNew σ.2.2.2 3 x 6, false))
def GxW (d w q : Nat) (post : Option aV → aM → Prop) (ex : Nat → Prop) (σ : aS) : Prop := (∃ r M1 u1, post r M1 ∧ Rn true d w q true σ (Sum.inl r, M1, u1)) ∨ (∃ x, ex x ∧ Rn true d w q true σ (Sum.inr (x, aN σ.2.2.2), aNew σ.2.2.2 3 x 6, false))
section GX
variable {d w q : Nat} {cd : List aC} {ow : Nat} {post : Option aV → aM → Prop} {pn : Option aV → Prop} {ex : Nat → Prop} {pc : Nat} {L : List (Option aV)} {st st1 rest as : List aV} {M : aM} {i : Instr} {len tg q1 ml : Nat} {v0 : Int32} {sw : List (Int32 × Nat)} {e0 : Nat} {c : Prop}
theorem gxw_d {σ : aS} (h : Gd d w q post σ) : GxW d w q post ex σ := Or.inl (h true)
theorem gxn_s (hcd : tC q = cd) (how : tOwn q = ow) (n : Nat) {P : Prop} {pc1 : Nat} {L1 : List (Option aV)} (h : aMany true cd ow n (true, (pc, L, st, M)) = some (P, true, (pc1, L1, st1, M))) (hP : P) (k : GxN d w q pn ex (pc1, L1, st1, M)) : GxN d w q pn ex (pc, L, st, M) := by
  rcases k with ⟨r, h1, h2⟩ | ⟨x, h1, h2⟩
  · exact Or.inl ⟨r, h1, rn_s hcd how n h hP h2⟩
  · exact Or.inr ⟨x, h1, rn_s hcd how n h hP h2⟩
theorem gxw_s (hcd : tC q = cd) (how : tOwn q = ow) (n : Nat) {P : Prop} {pc1 : Nat} {L1 : List (Option aV)} (h : aMany true cd ow n (true, (pc, L, st, M)) = some (P, true, (pc1, L1, st1, M))) (hP : P) (k : GxW d w q post ex (pc1, L1, st1, M)) : GxW d w q post ex (pc, L, st, M) := by
  rcases k with ⟨r, M1, u1, h1, h2⟩ | ⟨x, h1, h2⟩
  · exact Or.inl ⟨r, M1, u1, h1, rn_s hcd how n h hP h2⟩
  · exact Or.inr ⟨x, h1, rn_s hcd how n h hP h2⟩
theorem gxn_br (hcd : tC q = cd) (hf : cd.find? (fun e => e.1 == pc) = some (e0, i, len, 0, v0, tg, sw)) (hb : aBr i st = some (c, st1)) (hk : ∀ ow, aKind ow i = 2) (k : (c → GxN d w q pn ex (tg, L, st1, M)) ∧ (¬ c → GxN d w q pn ex (pc + len, L, st1, M))) : GxN d w q pn ex (pc, L, st, M) := by
  by_cases hc : c
  · rcases k.1 hc with ⟨r, h1, h2⟩ | ⟨x, h1, h2⟩
    · exact Or.inl ⟨r, h1, rn_br hcd hf hb hk (fun _ => h2) (fun n => absurd hc n)⟩
    · exact Or.inr ⟨x, h1, rn_br hcd hf hb hk (fun _ => h2) (fun n => absurd hc n)⟩
  · rcases k.2 hc with ⟨r, h1, h2⟩ | ⟨x, h1, h2⟩
    · exact Or.inl ⟨r, h1, rn_br hcd hf hb hk (fun n => absurd n hc) (fun _ => h2)⟩
    · exact Or.inr ⟨x, h1, rn_br hcd hf hb hk (fun n => absurd n hc) (fun _ => h2)⟩
theorem gxw_br (hcd : tC q = cd) (hf : cd.find? (fun e => e.1 == pc) = some (e0, i, len, 0, v0, tg, sw)) (hb : aBr i st = some (c, st1)) (hk : ∀ ow, aKind ow i = 2) (k : (c → GxW d w q post ex (tg, L, st1, M)) ∧ (¬ c → GxW d w q post ex (pc + len, L, st1, M))) : GxW d w q post ex (pc, L, st, M) := by
  by_cases hc : c
  · rcases k.1 hc with ⟨r, M1, u1, h1, h2⟩ | ⟨x, h1, h2⟩
    · exact Or.inl ⟨r, M1, u1, h1, rn_br hcd hf hb hk (fun _ => h2) (fun n => absurd hc n)⟩
    · exact Or.inr ⟨x, h1, rn_br hcd hf hb hk (fun _ => h2) (fun n => absurd hc n)⟩
  · rcases k.2 hc with ⟨r, M1, u1, h1, h2⟩ | ⟨x, h1, h2⟩
    · exact Or.inl ⟨r, M1, u1, h1, rn_br hcd hf hb hk (fun n => absurd n hc) (fun _ => h2)⟩
    · exact Or.inr ⟨x, h1, rn_br hcd hf hb hk (fun n => absurd n hc) (fun _ => h2)⟩
theorem gxn_ret (hcd : tC q = cd) {r : Option aV} (hf : cd.find? (fun e => e.1 == pc) = some (e0, i, len, 0, v0, tg, sw)) {P : Prop} (hb : aEnd (tRt q) i st = some (P, r)) (hP : P) (hk : ∀ ow, aKind ow i = 4) (k : pn r) : GxN d w q pn ex (pc, L, st, M) :=
  Or.inl ⟨r, k, rn_end hcd hf hb hP hk⟩
theorem gxn_thr (hcd : tC q = cd) {x : Nat} (hf : cd.find? (fun e => e.1 == pc) = some (e0, i, len, x + 1, v0, tg, sw)) (hd : 6 ≤ d) (hw : 100 ≤ w) (hst : aWt st ≤ 8) (hN : 0 < aN M) (k : ex x) : GxN d w q pn ex (pc, L, st, M) :=
  Or.inr ⟨x, k, rn_thr hcd hf hd hw hst hN⟩
theorem gxw_thr (hcd : tC q = cd) {x : Nat} (hf : cd.find? (fun e => e.1 == pc) = some (e0, i, len, x + 1, v0, tg, sw)) (hd : 6 ≤ d) (hw : 100 ≤ w) (hst : aWt st ≤ 8) (hN : 0 < aN M) (k : ex x) : GxW d w q post ex (pc, L, st, M) :=
  Or.inr ⟨x, k, rn_thr hcd hf hd hw hst hN⟩
theorem gxn_call (hcd : tC q = cd) (how : tOwn q = ow) (hf : cd.find? (fun e => e.1 == pc) = some (e0, i, len, 0, v0, tg, sw)) (hk : aKind ow i = 1) (hc : aCallOf ow i st = some (q1, as, rest)) (hml : tMl q1 = ml) (hd : 1 ≤ d) (hw : ml + 19 ≤ w) (hrl : aWt rest ≤ 8) (hnj : aNoJ as = true) (hk3 : (tMI q).2.2.2.2 < 3) {K : Option aV → Prop}
    (h1 : GxN (d - 1) (w - (ml + 19)) q1 K ex (0, aEnt q1 as, [], M)) (k : ∀ r, K r → GxN d w q pn ex (pc + 3, L, r.toList ++ rest, M)) : GxN d w q pn ex (pc, L, st, M) := by
  subst hml
  rcases h1 with ⟨r, g1, g2⟩ | ⟨x, g1, g2⟩
  · rcases k r g1 with ⟨r2, h1, h2⟩ | ⟨x, h1, h2⟩
    · exact Or.inl ⟨r2, h1, rn_call hcd how hf hk hc hd hw hrl hnj g2 h2⟩
    · exact Or.inr ⟨x, h1, rn_call hcd how hf hk hc hd hw hrl hnj g2 h2⟩
  · exact Or.inr ⟨x, g1, rn_callT hcd how hf hk hc hd hw hrl hnj (aHnd_none q pc x hk3) g2⟩
theorem gxw_call (hcd : tC q = cd) (how : tOwn q = ow) (hf : cd.find? (fun e => e.1 == pc) = some (e0, i, len, 0, v0, tg, sw)) (hk : aKind ow i = 1) (hc : aCallOf ow i st = some (q1, as, rest)) (hml : tMl q1 = ml) (hd : 1 ≤ d) (hw : ml + 19 ≤ w) (hrl : aWt rest ≤ 8) (hnj : aNoJ as = true) (hk3 : (tMI q).2.2.2.2 < 3) {K : Option aV → Prop}
    (h1 : GxN (d - 1) (w - (ml + 19)) q1 K ex (0, aEnt q1 as, [], M)) (k : ∀ r, K r → GxW d w q post ex (pc + 3, L, r.toList ++ rest, M)) : GxW d w q post ex (pc, L, st, M) := by
  subst hml
  rcases h1 with ⟨r, g1, g2⟩ | ⟨x, g1, g2⟩
  · rcases k r g1 with ⟨r2, M1, u1, h1, h2⟩ | ⟨x, h1, h2⟩
    · exact Or.inl ⟨r2, M1, u1, h1, rn_call hcd how hf hk hc hd hw hrl hnj g2 h2⟩
    · exact Or.inr ⟨x, h1, rn_call hcd how hf hk hc hd hw hrl hnj g2 h2⟩
  · exact Or.inr ⟨x, g1, rn_callT hcd how hf hk hc hd hw hrl hnj (aHnd_none q pc x hk3) g2⟩
/-- a call of a method that writes nothing and throws nothing -/
theorem gxw_callP (hcd : tC q = cd) (how : tOwn q = ow) (hf : cd.find? (fun e => e.1 == pc) = some (e0, i, len, 0, v0, tg, sw)) (hk : aKind ow i = 1) (hc : aCallOf ow i st = some (q1, as, rest)) (hml : tMl q1 = ml) (hd : 1 ≤ d) (hw : ml + 19 ≤ w) (hrl : aWt rest ≤ 8) (hnj : aNoJ as = true) (hnw : ∀ f d w u σ r M1 u1, aRun true f d w q1 u σ (Sum.inl r, M1, u1) → u1 = u) {K : Int32 → Prop}
    (h1 : Gd (d - 1) (w - (ml + 19)) q1 (pIn M K) (0, aEnt q1 as, [], M)) (k : ∀ x, K x → GxW d w q post ex (pc + 3, L, aI x :: rest, M)) : GxW d w q post ex (pc, L, st, M) := by
  subst hml
  obtain ⟨r, M1, u1, ⟨x, rfl, rfl, g1⟩, f, g2⟩ := h1 true
  have hu := hnw _ _ _ _ _ _ _ _ g2
  subst hu
  rcases k x g1 with ⟨r2, M2, u2, h1, h2⟩ | ⟨x2, h1, h2⟩
  · exact Or.inl ⟨r2, M2, u2, h1, rn_call hcd how hf hk hc hd hw hrl hnj ⟨f, g2⟩ h2⟩
  · exact Or.inr ⟨x2, h1, rn_call hcd how hf hk hc hd hw hrl hnj ⟨f, g2⟩ h2⟩
/-- a call of a method that may throw, in a method with handlers -/
theorem gd_callX (hcd : tC q = cd) (how : tOwn q = ow) (hf : cd.find? (fun e => e.1 == pc) = some (e0, i, len, 0, v0, tg, sw)) (hk : aKind ow i = 1) (hc : aCallOf ow i st = some (q1, as, rest)) (hml : tMl q1 = ml) (hd : 1 ≤ d) (hw : ml + 19 ≤ w) (hrl : aWt rest ≤ 8) (hnj : aNoJ as = true) {K : Option aV → aM → Prop}
    (h1 : GxW (d - 1) (w - (ml + 19)) q1 K ex (0, aEnt q1 as, [], M)) (k : ∀ r M1, K r M1 → Gd d w q post (pc + 3, L, r.toList ++ rest, M1)) (kx : ∀ x, ex x → ∃ h, aHnd q pc x = some h ∧ Gd d w q post (h, L, [aR 3 (aN M)], aNew M 3 x 6)) : Gd d w q post (pc, L, st, M) := by
  subst hml
  intro u
  rcases h1 with ⟨r, M1, u1, g1, g2⟩ | ⟨x, g1, g2⟩
  · obtain ⟨r2, M2, u2, g3, g4⟩ := k r M1 g1 (bif u1 then u else false)
    exact ⟨r2, M2, u2, g3, rn_call hcd how hf hk hc hd hw hrl hnj g2 g4⟩
  · obtain ⟨h, hh, hG⟩ := kx x g1
    obtain ⟨r2, M2, u2, g3, g4⟩ := hG false
    exact ⟨r2, M2, u2, g3, rn_callH hcd how hf hk hc hd hw hrl hnj hh g2 g4⟩
end GX
def qI (post : Int32 → Prop) : Option aV → Prop := fun r => ∃ x, r = some (aI x) ∧ post x
def qR (t : Nat) (post : Nat → Prop) : Option aV → Prop := fun r => ∃ k, r = some (aR t k) ∧ post k
def qV (post : Prop) : Option aV → Prop := fun r => r = none ∧ post
/-- methods that write nothing, and call such alone -/
def nwL : List Nat := [73, 250]
theorem nw_tab : nwL.all (fun q => (tC q).all (fun e => e.2.2.2.1 == 0 && (match e.2.1 with
  | .invokestatic k => (match tInv (tOwn q) k with
    | some q1 => decide (q1 ∈ nwL)
    | none => false)
  | .invokevirtual k => (match tInv (tOwn q) k with
    | some q1 => decide (q1 ∈ nwL)
    | none => false)
  | .invokespecial _ => false
  | i => !(aWr i)))) = true := by decide +kernel
theorem nw_flag : ∀ (f d w q : Nat) (u : Bool) (σ : aS) (r : Option aV) (M1 : aM) (u1 : Bool), aRun true f d w q u σ (Sum.inl r, M1, u1) → q ∈ nwL → u1 = u := by
  intro f
  induction f with
  | zero => intro d w q u σ r M1 u1 h; exact h.elim
  | succ f ih =>
    intro d w q u σ r M1 u1 h hq
    obtain ⟨pc, L, st, M⟩ := σ
    rw [aRun] at h
    cases hf : (tC q).find? (fun e => e.1 == pc) with
    | none => rw [hf] at h; exact h.elim
    | some e =>
      have hmem := List.mem_of_find?_eq_some hf
      have hrow := List.all_eq_true.mp (List.all_eq_true.mp nw_tab q hq) e hmem
      obtain ⟨e0, i, len, x, v0, tg, sw⟩ := e
      rw [hf] at h
      simp only [Bool.and_eq_true] at hrow
      obtain ⟨hx, hrow⟩ := hrow
      have hx : x = 0 := by simpa using hx
      subst hx
      dsimp only at h
      revert h
      generalize hkd : aKind (tOwn q) i = kd
      intro h
      match kd, hkd, h with
      | 0, hkd, h =>
        try dsimp only at h
        cases hs : aStep true (tOwn q) pc i len v0 tg L st M with
        | none => rw [hs] at h; exact h.elim
        | some a =>
          rw [hs] at h
          have hw : aWr i = false := by
            cases i <;> first
              | rfl
              | (unfold aKind at hkd; dsimp only at hkd; split at hkd <;> cases hkd)
              | (simp [aWr] at hrow)
          rw [hw] at h
          exact ih _ _ _ _ _ _ _ _ h.2 hq
      | 1, hkd, h =>
        try dsimp only at h
        cases hc : aCallOf (tOwn q) i st with
        | none => rw [hc] at h; exact h.elim
        | some y =>
          obtain ⟨q1, as, rest⟩ := y
          rw [hc] at h
          dsimp only at h
          obtain ⟨hd, ⟨r1, M2, u2⟩, h1, h2⟩ := h
          obtain ⟨k, c1, -, -, c4⟩ := aCallOf_spec hc
          have hq1 : q1 ∈ nwL := by
            rcases c4 with ⟨rfl, -⟩ | ⟨rfl, -⟩ | ⟨rfl, -⟩
            · dsimp only at hrow; rw [c1] at hrow; exact of_decide_eq_true hrow
            · dsimp only at hrow; rw [c1] at hrow; exact of_decide_eq_true hrow
            · cases hrow
          cases r1 with
          | inl v =>
            have e1 := ih _ _ _ _ _ _ _ _ h1 hq1
            subst e1
            exact ih _ _ _ _ _ _ _ _ h2 hq
          | inr z =>
            have hk3 : (tMI q).2.2.2.2 < 3 := by
              have : ∀ q ∈ nwL, (tMI q).2.2.2.2 < 3 := by decide +kernel
              exact this q hq
            dsimp only at h2
            rw [aHnd_none q pc z.1 hk3] at h2
            exact absurd h2 (by simp)
      | 2, hkd, h =>
        try dsimp only at h
        cases hb : aBr i st with
        | none => rw [hb] at h; exact h.elim
        | some y =>
          rw [hb] at h
          by_cases hc : y.1
          · exact ih _ _ _ _ (tg, L, y.2, M) _ _ _ (h.1 hc) hq
          · exact ih _ _ _ _ (pc + len, L, y.2, M) _ _ _ (h.2 hc) hq
      | 3, hkd, h =>
        try dsimp only at h
        cases hb : aSwOf i st with
        | none => rw [hb] at h; exact h.elim
        | some y => rw [hb] at h; exact ih _ _ _ _ (aSw y.1 tg sw, L, y.2, M) _ _ _ h hq
      | 4, hkd, h =>
        try dsimp only at h
        cases hb : aEnd (tRt q) i st with
        | none => rw [hb] at h; exact h.elim
        | some y => rw [hb] at h; exact congrArg (fun z => z.2.2) h.2
      | kd + 5, hkd, h =>
        exfalso
        have hk5 : aKind (tOwn q) i = 5 := by
          have : aKind (tOwn q) i ≤ 5 := by
            unfold aKind
            split <;> first | decide | (split <;> decide)
          omega
        obtain ⟨k, hi⟩ := aKind5_prim hk5
        have hnone : (tInv (tOwn q) k).isSome = false := by
          rcases hi with rfl | rfl | rfl <;> (unfold aKind at hk5; dsimp only at hk5; cases hz : (tInv (tOwn q) k).isSome with
            | false => rfl
            | true => rw [hz] at hk5; cases hk5)
        have hn : tInv (tOwn q) k = none := by
          cases hz : tInv (tOwn q) k with
          | none => rfl
          | some z => rw [hz] at hnone; cases hnone
        rcases hi with rfl | rfl | rfl
        · dsimp only at hrow; rw [hn] at hrow; cases hrow
        · dsimp only at hrow; rw [hn] at hrow; cases hrow
        · cases hrow
