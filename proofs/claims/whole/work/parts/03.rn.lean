/-! Runs of the abstract machine, without their fuel. -/
theorem aRun_mono (fl : Bool) : ∀ (f d w q : Nat) (u : Bool) (σ : aS) (o : aO), aRun fl f d w q u σ o → aRun fl (f + 1) d w q u σ o := by
  intro f
  induction f with
  | zero => intro d w q u σ o h; exact h.elim
  | succ f ih =>
    intro d w q u σ o h
    obtain ⟨pc, L, st, M⟩ := σ
    rw [aRun] at h ⊢
    cases hf : (tC q).find? (fun e => e.1 == pc) with
    | none => rw [hf] at h; exact h.elim
    | some e =>
      obtain ⟨e0, i, len, x, v0, tg, sw⟩ := e
      rw [hf] at h
      dsimp only at h ⊢
      cases x with
      | succ x => exact h
      | zero =>
        dsimp only at h ⊢
        revert h
        generalize aKind (tOwn q) i = kd
        intro h
        match kd, h with
        | 0, h =>
          try dsimp only at h ⊢
          cases hs : aStep fl (tOwn q) pc i len v0 tg L st M with
          | none => rw [hs] at h; exact h.elim
          | some a =>
            rw [hs] at h
            exact ⟨h.1, ih _ _ _ _ _ _ h.2⟩
        | 1, h =>
          try dsimp only at h ⊢
          cases hc : aCallOf (tOwn q) i st with
          | none => rw [hc] at h; exact h.elim
          | some y =>
            obtain ⟨q1, as, rest⟩ := y
            rw [hc] at h
            dsimp only at h ⊢
            obtain ⟨hd, ⟨r1, M1, u1⟩, h1, h2⟩ := h
            refine ⟨hd, (r1, M1, u1), ih _ _ _ _ _ _ h1, ?_⟩
            cases r1 with
            | inl v => exact ih _ _ _ _ _ _ h2
            | inr z =>
              dsimp only at h2 ⊢
              cases hh : aHnd q pc z.1 with
              | none => rw [hh] at h2; exact h2
              | some p => rw [hh] at h2; exact ih _ _ _ _ _ _ h2
        | 2, h =>
          try dsimp only at h ⊢
          cases hb : aBr i st with
          | none => rw [hb] at h; exact h.elim
          | some y =>
            rw [hb] at h
            exact ⟨fun c => ih _ _ _ _ _ _ (h.1 c), fun c => ih _ _ _ _ _ _ (h.2 c)⟩
        | 3, h =>
          try dsimp only at h ⊢
          cases hb : aSwOf i st with
          | none => rw [hb] at h; exact h.elim
          | some y =>
            rw [hb] at h
            exact ih _ _ _ _ _ _ h
        | 4, h => exact h
        | kd + 5, h =>
          try dsimp only at h ⊢
          cases hs : aStep fl (tOwn q) pc i len v0 tg L st M with
          | none => rw [hs] at h; exact h.elim
          | some a =>
            rw [hs] at h
            exact ⟨h.1, ih _ _ _ _ _ _ h.2⟩
theorem aRun_le (fl : Bool) {f g d w q : Nat} {u : Bool} {σ : aS} {o : aO} (h : aRun fl f d w q u σ o) (hg : f ≤ g) : aRun fl g d w q u σ o := by
  induction hg with
  | refl => exact h
  | step _ ih => exact aRun_mono fl _ _ _ _ _ _ _ ih
def Rn (fl : Bool) (d w q : Nat) (u : Bool) (σ : aS) (o : aO) : Prop := ∃ f, aRun fl f d w q u σ o
/-- one step that goes on -/
def aOne (fl : Bool) (cd : List aC) (o : Nat) (z : Bool × aS) : Option (Prop × Bool × aS) :=
  match cd.find? (fun e => e.1 == z.2.1) with
  | none => none
  | some (_, i, len, x, v0, tg, _) => match x with
    | _ + 1 => none
    | 0 => match aKind o i with
      | 0 => match aStep fl o z.2.1 i len v0 tg z.2.2.1 z.2.2.2.1 z.2.2.2.2 with
        | some (P, σ) => some (P, bif aWr i then false else z.1, σ)
        | none => none
      | _ + 1 => none
def aMany (fl : Bool) (cd : List aC) (o : Nat) : Nat → Bool × aS → Option (Prop × Bool × aS)
  | 0, z => some (True, z)
  | n + 1, z => match aOne fl cd o z with
    | some (P, z1) => match aMany fl cd o n z1 with
      | some (P2, z2) => some (P ∧ P2, z2)
      | none => none
    | none => none
theorem rn_one {fl : Bool} {d w q : Nat} {u u1 : Bool} {σ σ1 : aS} {o : aO} {P : Prop} (h : aOne fl (tC q) (tOwn q) (u, σ) = some (P, u1, σ1)) (hP : P) (k : Rn fl d w q u1 σ1 o) : Rn fl d w q u σ o := by
  obtain ⟨f, hf⟩ := k
  obtain ⟨pc, L, st, M⟩ := σ
  refine ⟨f + 1, ?_⟩
  rw [aRun]
  unfold aOne at h
  dsimp only at h
  cases he : (tC q).find? (fun e => e.1 == pc) with
  | none => rw [he] at h; exact absurd h (by simp)
  | some e =>
    obtain ⟨e0, i, len, x, v0, tg, sw⟩ := e
    rw [he] at h
    dsimp only at h ⊢
    cases x with
    | succ x => exact absurd h (by simp)
    | zero =>
      dsimp only at h ⊢
      revert h
      generalize hk : aKind (tOwn q) i = kd
      intro h
      cases kd with
      | succ kd => exact absurd h (by simp)
      | zero =>
        dsimp only at h ⊢
        cases hs : aStep fl (tOwn q) pc i len v0 tg L st M with
        | none => rw [hs] at h; exact absurd h (by simp)
        | some a =>
          obtain ⟨P1, σ2⟩ := a
          rw [hs] at h
          dsimp only at h ⊢
          cases h
          exact ⟨hP, hf⟩
theorem rn_s {fl : Bool} {d w q : Nat} {cd : List aC} {ow : Nat} (hcd : tC q = cd) (how : tOwn q = ow) (n : Nat) {u u1 : Bool} {σ σ1 : aS} {o : aO} {P : Prop} (h : aMany fl cd ow n (u, σ) = some (P, u1, σ1)) (hP : P) (k : Rn fl d w q u1 σ1 o) : Rn fl d w q u σ o := by
  subst hcd how
  induction n generalizing u σ P with
  | zero => cases h; exact k
  | succ n ih =>
    rw [aMany] at h
    cases h1 : aOne fl (tC q) (tOwn q) (u, σ) with
    | none => rw [h1] at h; exact absurd h (by simp)
    | some z1 =>
      obtain ⟨P1, u2, σ2⟩ := z1
      rw [h1] at h
      dsimp only at h
      cases h2 : aMany fl (tC q) (tOwn q) n (u2, σ2) with
      | none => rw [h2] at h; exact absurd h (by simp)
      | some z2 =>
        obtain ⟨P2, u3, σ3⟩ := z2
        rw [h2] at h
        dsimp only at h
        cases h
        exact rn_one h1 hP.1 (ih hP.2 h2)
theorem rn_br {fl : Bool} {d w q : Nat} {cd : List aC} (hcd : tC q = cd) {pc : Nat} {L : List (Option aV)} {st st1 : List aV} {M : aM} {u : Bool} {o : aO} {i : Instr} {len tg : Nat} {v0 : Int32} {sw : List (Int32 × Nat)} {e0 : Nat} {c : Prop}
    (hf : cd.find? (fun e => e.1 == pc) = some (e0, i, len, 0, v0, tg, sw)) (hb : aBr i st = some (c, st1)) (hk : ∀ ow, aKind ow i = 2) (kt : c → Rn fl d w q u (tg, L, st1, M) o) (kf : ¬ c → Rn fl d w q u (pc + len, L, st1, M) o) : Rn fl d w q u (pc, L, st, M) o := by
  subst hcd
  by_cases hc : c
  · obtain ⟨f, h⟩ := kt hc
    refine ⟨f + 1, ?_⟩
    rw [aRun, hf]
    dsimp only
    rw [hk, hb]
    exact ⟨fun _ => h, fun n => absurd hc n⟩
  · obtain ⟨f, h⟩ := kf hc
    refine ⟨f + 1, ?_⟩
    rw [aRun, hf]
    dsimp only
    rw [hk, hb]
    exact ⟨fun n => absurd n hc, fun _ => h⟩
theorem rn_sw {fl : Bool} {d w q : Nat} {cd : List aC} (hcd : tC q = cd) {pc : Nat} {L : List (Option aV)} {st st1 : List aV} {M : aM} {u : Bool} {o : aO} {i : Instr} {len tg : Nat} {v0 x : Int32} {sw : List (Int32 × Nat)} {e0 : Nat}
    (hf : cd.find? (fun e => e.1 == pc) = some (e0, i, len, 0, v0, tg, sw)) (hb : aSwOf i st = some (x, st1)) (hk : ∀ ow, aKind ow i = 3) (k : Rn fl d w q u (aSw x tg sw, L, st1, M) o) : Rn fl d w q u (pc, L, st, M) o := by
  subst hcd
  obtain ⟨f, h⟩ := k
  refine ⟨f + 1, ?_⟩
  rw [aRun, hf]
  dsimp only
  rw [hk, hb]
  exact h
theorem rn_end {fl : Bool} {d w q : Nat} {cd : List aC} (hcd : tC q = cd) {pc : Nat} {L : List (Option aV)} {st : List aV} {M : aM} {u : Bool} {i : Instr} {len tg : Nat} {v0 : Int32} {sw : List (Int32 × Nat)} {e0 : Nat} {r : Option aV}
    (hf : cd.find? (fun e => e.1 == pc) = some (e0, i, len, 0, v0, tg, sw)) {P : Prop} (hb : aEnd (tRt q) i st = some (P, r)) (hP : P) (hk : ∀ ow, aKind ow i = 4) : Rn fl d w q u (pc, L, st, M) (Sum.inl r, M, u) := by
  subst hcd
  refine ⟨1, ?_⟩
  rw [aRun, hf]
  dsimp only
  rw [hk, hb]
  exact ⟨hP, rfl⟩
theorem rn_thr {fl : Bool} {d w q : Nat} {cd : List aC} (hcd : tC q = cd) {pc : Nat} {L : List (Option aV)} {st : List aV} {M : aM} {i : Instr} {len tg x : Nat} {v0 : Int32} {sw : List (Int32 × Nat)} {e0 : Nat}
    (hf : cd.find? (fun e => e.1 == pc) = some (e0, i, len, x + 1, v0, tg, sw)) (hd : 6 ≤ d) (hw : 100 ≤ w) (hst : aWt st ≤ 8) (hN : 0 < aN M) : Rn fl d w q true (pc, L, st, M) (Sum.inr (x, aN M), aNew M 3 x 6, false) := by
  subst hcd
  refine ⟨1, ?_⟩
  rw [aRun, hf]
  exact ⟨⟨rfl, hd, hw, hst, hN⟩, rfl⟩
/-- a call that comes back -/
theorem rn_call {fl : Bool} {d w q : Nat} {cd : List aC} {ow : Nat} (hcd : tC q = cd) (how : tOwn q = ow) {pc : Nat} {L : List (Option aV)} {st rest as : List aV} {M M1 : aM} {u u1 : Bool} {o : aO} {i : Instr} {len tg q1 : Nat} {v0 : Int32} {sw : List (Int32 × Nat)} {e0 : Nat} {v : Option aV}
    (hf : cd.find? (fun e => e.1 == pc) = some (e0, i, len, 0, v0, tg, sw)) (hk : aKind ow i = 1) (hc : aCallOf ow i st = some (q1, as, rest)) (hd : 1 ≤ d) (hw : tMl q1 + 19 ≤ w) (hrl : aWt rest ≤ 8) (hnj : aNoJ as = true)
    (h1 : Rn fl (d - 1) (w - (tMl q1 + 19)) q1 true (0, aEnt q1 as, [], M) (Sum.inl v, M1, u1)) (k : Rn fl d w q (bif u1 then u else false) (pc + 3, L, v.toList ++ rest, M1) o) : Rn fl d w q u (pc, L, st, M) o := by
  subst hcd how
  obtain ⟨f1, h1⟩ := h1
  obtain ⟨f2, h2⟩ := k
  refine ⟨max f1 f2 + 1, ?_⟩
  rw [aRun, hf]
  dsimp only
  rw [hk, hc]
  exact ⟨⟨hd, hw, hrl, hnj⟩, (Sum.inl v, M1, u1), aRun_le fl h1 (Nat.le_max_left _ _), aRun_le fl h2 (Nat.le_max_right _ _)⟩
/-- a call that throws, with no handler here -/
theorem rn_callT {fl : Bool} {d w q : Nat} {cd : List aC} {ow : Nat} (hcd : tC q = cd) (how : tOwn q = ow) {pc : Nat} {L : List (Option aV)} {st rest as : List aV} {M M1 : aM} {u u1 : Bool} {i : Instr} {len tg q1 : Nat} {v0 : Int32} {sw : List (Int32 × Nat)} {e0 : Nat} {z : Nat × Nat}
    (hf : cd.find? (fun e => e.1 == pc) = some (e0, i, len, 0, v0, tg, sw)) (hk : aKind ow i = 1) (hc : aCallOf ow i st = some (q1, as, rest)) (hd : 1 ≤ d) (hw : tMl q1 + 19 ≤ w) (hrl : aWt rest ≤ 8) (hnj : aNoJ as = true) (hh : aHnd q pc z.1 = none)
    (h1 : Rn fl (d - 1) (w - (tMl q1 + 19)) q1 true (0, aEnt q1 as, [], M) (Sum.inr z, M1, u1)) : Rn fl d w q u (pc, L, st, M) (Sum.inr z, M1, bif u1 then u else false) := by
  subst hcd how
  obtain ⟨f1, h1⟩ := h1
  refine ⟨f1 + 1, ?_⟩
  rw [aRun, hf]
  dsimp only
  rw [hk, hc]
  refine ⟨⟨hd, hw, hrl, hnj⟩, (Sum.inr z, M1, u1), h1, ?_⟩
  dsimp only
  rw [hh]
/-- a call that throws, with a handler here -/
theorem rn_callH {fl : Bool} {d w q : Nat} {cd : List aC} {ow : Nat} (hcd : tC q = cd) (how : tOwn q = ow) {pc : Nat} {L : List (Option aV)} {st rest as : List aV} {M M1 : aM} {u u1 : Bool} {o : aO} {i : Instr} {len tg q1 h : Nat} {v0 : Int32} {sw : List (Int32 × Nat)} {e0 : Nat} {z : Nat × Nat}
    (hf : cd.find? (fun e => e.1 == pc) = some (e0, i, len, 0, v0, tg, sw)) (hk : aKind ow i = 1) (hc : aCallOf ow i st = some (q1, as, rest)) (hd : 1 ≤ d) (hw : tMl q1 + 19 ≤ w) (hrl : aWt rest ≤ 8) (hnj : aNoJ as = true) (hh : aHnd q pc z.1 = some h)
    (h1 : Rn fl (d - 1) (w - (tMl q1 + 19)) q1 true (0, aEnt q1 as, [], M) (Sum.inr z, M1, u1)) (k : Rn fl d w q (bif u1 then u else false) (h, L, [aR 3 z.2], M1) o) : Rn fl d w q u (pc, L, st, M) o := by
  subst hcd how
  obtain ⟨f1, h1⟩ := h1
  obtain ⟨f2, h2⟩ := k
  refine ⟨max f1 f2 + 1, ?_⟩
  rw [aRun, hf]
  dsimp only
  rw [hk, hc]
  refine ⟨⟨hd, hw, hrl, hnj⟩, (Sum.inr z, M1, u1), aRun_le fl h1 (Nat.le_max_left _ _), ?_⟩
  dsimp only
  rw [hh]
  exact aRun_le fl h2 (Nat.le_max_right _ _)
/-- a member of the library -/
theorem rn_prim {fl : Bool} {d w q : Nat} {cd : List aC} {ow : Nat} (hcd : tC q = cd) (how : tOwn q = ow) {pc : Nat} {L : List (Option aV)} {st : List aV} {M : aM} {u : Bool} {o : aO} {i : Instr} {len tg : Nat} {v0 : Int32} {sw : List (Int32 × Nat)} {e0 : Nat} {P : Prop} {σ1 : aS}
    (hf : cd.find? (fun e => e.1 == pc) = some (e0, i, len, 0, v0, tg, sw)) (hk : aKind ow i = 5) (hs : aStep fl ow pc i len v0 tg L st M = some (P, σ1)) (hP : P) (hd : 6 ≤ d) (hw : 200 ≤ w) (hl : aWt st ≤ 8) (k : Rn fl d w q (bif aWr i then false else u) σ1 o) : Rn fl d w q u (pc, L, st, M) o := by
  subst hcd how
  obtain ⟨f, h⟩ := k
  refine ⟨f + 1, ?_⟩
  rw [aRun, hf]
  dsimp only
  rw [hk, hs]
  exact ⟨⟨hP, hd, hw, hl⟩, h⟩
