/-! Goal-first rules over runs of the abstract machine: Gd: the run from here comes back, with 'post' of its answer and memory. -/
theorem aRun_dw (fl : Bool) : ∀ (f d w q : Nat) (u : Bool) (σ : aS) (o : aO) (d' w' : Nat), aRun fl f d w q u σ o → d ≤ d' → w ≤ w' → aRun fl f d' w' q u σ o := by
  intro f
  induction f with
  | zero => intro d w q u σ o d' w' h; exact h.elim
  | succ f ih =>
    intro d w q u σ o d' w' h hd hw
    obtain ⟨pc, L, st, M⟩ := σ
    rw [aRun] at h ⊢
    cases hf : (tC q).find? (fun e => e.1 == pc) with
    | none => rw [hf] at h; exact h.elim
    | some e =>
      obtain ⟨e0, i, len, x, v0, tg, sw⟩ := e
      rw [hf] at h
      dsimp only at h ⊢
      cases x with
      | succ x => exact ⟨⟨h.1.1, by omega, by omega, h.1.2.2.2⟩, h.2⟩
      | zero =>
        dsimp only at h ⊢
        revert h
        generalize aKind (tOwn q) i = kd
        intro h
        match kd, h with
        | 0, h =>
          try dsimp only at h ⊢
          cases hs : aStep fl (tOwn q) pc i len v0 tg L st M with
          | none => rw [hs] at h; exact h.elim
          | some a => rw [hs] at h; exact ⟨h.1, ih _ _ _ _ _ _ _ _ h.2 hd hw⟩
        | 1, h =>
          try dsimp only at h ⊢
          cases hc : aCallOf (tOwn q) i st with
          | none => rw [hc] at h; exact h.elim
          | some y =>
            obtain ⟨q1, as, rest⟩ := y
            rw [hc] at h
            dsimp only at h ⊢
            obtain ⟨⟨g1, g2, g3⟩, ⟨r1, M1, u1⟩, h1, h2⟩ := h
            refine ⟨⟨by omega, by omega, g3⟩, (r1, M1, u1), ih _ _ _ _ _ _ _ _ h1 (by omega) (by omega), ?_⟩
            cases r1 with
            | inl v => exact ih _ _ _ _ _ _ _ _ h2 hd hw
            | inr z =>
              dsimp only at h2 ⊢
              cases hh : aHnd q pc z.1 with
              | none => rw [hh] at h2; exact h2
              | some p => rw [hh] at h2; exact ih _ _ _ _ _ _ _ _ h2 hd hw
        | 2, h =>
          try dsimp only at h ⊢
          cases hb : aBr i st with
          | none => rw [hb] at h; exact h.elim
          | some y => rw [hb] at h; exact ⟨fun c => ih _ _ _ _ _ _ _ _ (h.1 c) hd hw, fun c => ih _ _ _ _ _ _ _ _ (h.2 c) hd hw⟩
        | 3, h =>
          try dsimp only at h ⊢
          cases hb : aSwOf i st with
          | none => rw [hb] at h; exact h.elim
          | some y => rw [hb] at h; exact ih _ _ _ _ _ _ _ _ h hd hw
        | 4, h => exact h
        | kd + 5, h =>
          try dsimp only at h ⊢
          cases hs : aStep fl (tOwn q) pc i len v0 tg L st M with
          | none => rw [hs] at h; exact h.elim
          | some a =>
            rw [hs] at h
            obtain ⟨⟨g1, g2, g3, g4⟩, g5⟩ := h
            exact ⟨⟨g1, by omega, by omega, g4⟩, ih _ _ _ _ _ _ _ _ g5 hd hw⟩
def Gd (d w q : Nat) (post : Option aV → aM → Prop) (σ : aS) : Prop := ∀ u, ∃ r M1 u1, post r M1 ∧ Rn true d w q u σ (Sum.inl r, M1, u1)
theorem gd_mono {d w q : Nat} {post post' : Option aV → aM → Prop} {σ : aS} (h : Gd d w q post σ) (hp : ∀ r M, post r M → post' r M) : Gd d w q post' σ := by
  intro u
  obtain ⟨r, M1, u1, h1, h2⟩ := h u
  exact ⟨r, M1, u1, hp _ _ h1, h2⟩
theorem gd_dw {d w d' w' q : Nat} {post : Option aV → aM → Prop} {σ : aS} (h : Gd d w q post σ) (hd : d ≤ d') (hw : w ≤ w') : Gd d' w' q post σ := by
  intro u
  obtain ⟨r, M1, u1, h1, f, h2⟩ := h u
  exact ⟨r, M1, u1, h1, f, aRun_dw _ _ _ _ _ _ _ _ _ _ h2 hd hw⟩
section GD
variable {d w q : Nat} {cd : List aC} {ow : Nat} {post : Option aV → aM → Prop}
theorem gd_s (hcd : tC q = cd) (how : tOwn q = ow) (n : Nat) {σ σ1 : aS} {P : Prop} (h : ∀ u, ∃ u1, aMany true cd ow n (u, σ) = some (P, u1, σ1)) (hP : P) (k : Gd d w q post σ1) : Gd d w q post σ := by
  intro u
  obtain ⟨u1, h1⟩ := h u
  obtain ⟨r, M1, u2, h2, h3⟩ := k u1
  exact ⟨r, M1, u2, h2, rn_s hcd how n h1 hP h3⟩
theorem gd_br (hcd : tC q = cd) {pc : Nat} {L : List (Option aV)} {st st1 : List aV} {M : aM} {i : Instr} {len tg : Nat} {v0 : Int32} {sw : List (Int32 × Nat)} {e0 : Nat} {c : Prop}
    (hf : cd.find? (fun e => e.1 == pc) = some (e0, i, len, 0, v0, tg, sw)) (hb : aBr i st = some (c, st1)) (hk : ∀ ow, aKind ow i = 2) (k : (c → Gd d w q post (tg, L, st1, M)) ∧ (¬ c → Gd d w q post (pc + len, L, st1, M))) : Gd d w q post (pc, L, st, M) := by
  intro u
  by_cases hc : c
  · obtain ⟨r, M1, u1, h1, h2⟩ := k.1 hc u
    exact ⟨r, M1, u1, h1, rn_br hcd hf hb hk (fun _ => h2) (fun n => absurd hc n)⟩
  · obtain ⟨r, M1, u1, h1, h2⟩ := k.2 hc u
    exact ⟨r, M1, u1, h1, rn_br hcd hf hb hk (fun n => absurd n hc) (fun _ => h2)⟩
theorem gd_sw (hcd : tC q = cd) {pc : Nat} {L : List (Option aV)} {st st1 : List aV} {M : aM} {i : Instr} {len tg : Nat} {v0 x : Int32} {sw : List (Int32 × Nat)} {e0 : Nat}
    (hf : cd.find? (fun e => e.1 == pc) = some (e0, i, len, 0, v0, tg, sw)) (hb : aSwOf i st = some (x, st1)) (hk : ∀ ow, aKind ow i = 3) (k : Gd d w q post (aSw x tg sw, L, st1, M)) : Gd d w q post (pc, L, st, M) := by
  intro u
  obtain ⟨r, M1, u1, h1, h2⟩ := k u
  exact ⟨r, M1, u1, h1, rn_sw hcd hf hb hk h2⟩
theorem gd_case {x v : Int32} {t dd : Nat} {sw : List (Int32 × Nat)} {L : List (Option aV)} {st : List aV} {M : aM} (k : (x = v → Gd d w q post (t, L, st, M)) ∧ (¬ x = v → Gd d w q post (aSw x dd sw, L, st, M))) : Gd d w q post (aSw x dd ((v, t) :: sw), L, st, M) := by
  by_cases h : x = v
  · rw [show aSw x dd ((v, t) :: sw) = t by rw [aSw, if_pos h]]; exact k.1 h
  · rw [show aSw x dd ((v, t) :: sw) = aSw x dd sw by rw [aSw, if_neg h]]; exact k.2 h
theorem gd_ret (hcd : tC q = cd) {pc : Nat} {L : List (Option aV)} {st : List aV} {M : aM} {i : Instr} {len tg : Nat} {v0 : Int32} {sw : List (Int32 × Nat)} {e0 : Nat} {r : Option aV}
    (hf : cd.find? (fun e => e.1 == pc) = some (e0, i, len, 0, v0, tg, sw)) {P : Prop} (hb : aEnd (tRt q) i st = some (P, r)) (hP : P) (hk : ∀ ow, aKind ow i = 4) (k : post r M) : Gd d w q post (pc, L, st, M) :=
  fun _ => ⟨r, M, _, k, rn_end hcd hf hb hP hk⟩
theorem gd_call (hcd : tC q = cd) (how : tOwn q = ow) {pc : Nat} {L : List (Option aV)} {st rest as : List aV} {M : aM} {i : Instr} {len tg q1 : Nat} {v0 : Int32} {sw : List (Int32 × Nat)} {e0 : Nat}
    (hf : cd.find? (fun e => e.1 == pc) = some (e0, i, len, 0, v0, tg, sw)) (hk : aKind ow i = 1) (hc : aCallOf ow i st = some (q1, as, rest)) (hd : 1 ≤ d) (hw : tMl q1 + 19 ≤ w) (hrl : aWt rest ≤ 8) (hnj : aNoJ as = true) {K : Option aV → aM → Prop}
    (h1 : Gd (d - 1) (w - (tMl q1 + 19)) q1 K (0, aEnt q1 as, [], M)) (k : ∀ r M1, K r M1 → Gd d w q post (pc + 3, L, r.toList ++ rest, M1)) : Gd d w q post (pc, L, st, M) := by
  intro u
  obtain ⟨r, M1, u1, g1, g2⟩ := h1 true
  obtain ⟨r2, M2, u2, g3, g4⟩ := k r M1 g1 (bif u1 then u else false)
  exact ⟨r2, M2, u2, g3, rn_call hcd how hf hk hc hd hw hrl hnj g2 g4⟩
theorem gd_prim (hcd : tC q = cd) (how : tOwn q = ow) {pc : Nat} {L : List (Option aV)} {st : List aV} {M : aM} {i : Instr} {len tg : Nat} {v0 : Int32} {sw : List (Int32 × Nat)} {e0 : Nat} {P : Prop} {σ1 : aS}
    (hf : cd.find? (fun e => e.1 == pc) = some (e0, i, len, 0, v0, tg, sw)) (hk : aKind ow i = 5) (hs : aStep true ow pc i len v0 tg L st M = some (P, σ1)) (hP : P) (hd : 6 ≤ d) (hw : 200 ≤ w) (hl : aWt st ≤ 8) (k : Gd d w q post σ1) : Gd d w q post (pc, L, st, M) := by
  intro u
  obtain ⟨r, M1, u1, h1, h2⟩ := k (bif aWr i then false else u)
  exact ⟨r, M1, u1, h1, rn_prim hcd how hf hk hs hP hd hw hl h2⟩
end GD
/-- answers: an int, a reference, nothing -/
def pI (post : Int32 → aM → Prop) : Option aV → aM → Prop := fun r M => ∃ x, r = some (aI x) ∧ post x M
def pR (t : Nat) (post : Nat → aM → Prop) : Option aV → aM → Prop := fun r M => ∃ k, r = some (aR t k) ∧ post k M
def pV (post : aM → Prop) : Option aV → aM → Prop := fun r M => r = none ∧ post M
