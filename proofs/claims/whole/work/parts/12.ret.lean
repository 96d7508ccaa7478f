/-! Returns; a run's cells and slots only grow. -/
theorem aRun_N (fl : Bool) : ∀ (f d w q : Nat) (u : Bool) (σ : aS) (o : aO), aRun fl f d w q u σ o → aN σ.2.2.2 ≤ aN o.2.1 ∧ aZ σ.2.2.2 ≤ aZ o.2.1 := by
  intro f
  induction f with
  | zero => intro d w q u σ o h; exact h.elim
  | succ f ih =>
    intro d w q u σ o h
    obtain ⟨pc, L, st, M⟩ := σ
    rw [aRun] at h
    cases hf : (tC q).find? (fun e => e.1 == pc) with
    | none => rw [hf] at h; exact h.elim
    | some e =>
      obtain ⟨e0, i, len, x, v0, tg, sw⟩ := e
      rw [hf] at h
      dsimp only at h
      cases x with
      | succ x =>
        rw [h.2]
        exact ⟨Nat.le_succ _, Nat.le_add_right _ _⟩
      | zero =>
        dsimp only at h
        revert h
        generalize aKind (tOwn q) i = kd
        intro h
        match kd, h with
        | 0, h =>
          try dsimp only at h
          cases hs : aStep fl (tOwn q) pc i len v0 tg L st M with
          | none => rw [hs] at h; exact h.elim
          | some a =>
            rw [hs] at h
            have g := aStep_N hs
            have g2 := ih _ _ _ _ _ _ h.2
            exact ⟨Nat.le_trans g.1 g2.1, Nat.le_trans g.2.1 g2.2⟩
        | 1, h =>
          try dsimp only at h
          cases hc : aCallOf (tOwn q) i st with
          | none => rw [hc] at h; exact h.elim
          | some y =>
            obtain ⟨q1, as, rest⟩ := y
            rw [hc] at h
            dsimp only at h
            obtain ⟨hd, ⟨r1, M1, u1⟩, h1, h2⟩ := h
            have g := ih _ _ _ _ _ _ h1
            cases r1 with
            | inl v =>
              have g2 := ih _ _ _ _ _ _ h2
              exact ⟨Nat.le_trans g.1 g2.1, Nat.le_trans g.2 g2.2⟩
            | inr z =>
              dsimp only at h2
              cases hh : aHnd q pc z.1 with
              | none => rw [hh] at h2; rw [h2]; exact g
              | some p =>
                rw [hh] at h2
                have g2 := ih _ _ _ _ _ _ h2
                exact ⟨Nat.le_trans g.1 g2.1, Nat.le_trans g.2 g2.2⟩
        | 2, h =>
          try dsimp only at h
          cases hb : aBr i st with
          | none => rw [hb] at h; exact h.elim
          | some y =>
            rw [hb] at h
            by_cases hc : y.1
            · exact ih _ _ _ _ (tg, L, y.2, M) _ (h.1 hc)
            · exact ih _ _ _ _ (pc + len, L, y.2, M) _ (h.2 hc)
        | 3, h =>
          try dsimp only at h
          cases hb : aSwOf i st with
          | none => rw [hb] at h; exact h.elim
          | some y =>
            rw [hb] at h
            exact ih _ _ _ _ (aSw y.1 tg sw, L, y.2, M) _ h
        | 4, h =>
          try dsimp only at h
          cases hb : aEnd (tRt q) i st with
          | none => rw [hb] at h; exact h.elim
          | some y =>
            rw [hb] at h
            rw [h.2]
            exact ⟨Nat.le_refl _, Nat.le_refl _⟩
        | kd + 5, h =>
          try dsimp only at h
          cases hs : aStep fl (tOwn q) pc i len v0 tg L st M with
          | none => rw [hs] at h; exact h.elim
          | some a =>
            rw [hs] at h
            have g := aStep_N hs
            have g2 := ih _ _ _ _ _ _ h.2
            exact ⟨Nat.le_trans g.1 g2.1, Nat.le_trans g.2.1 g2.2⟩
section AR
variable {E : aE} {p : Program} {l : Launch} {e : Env} {R : Room} {s : State} {m : MethodId} {args : Array Value} {below : List Frame} {meth : Method} {c : Code} {n0 z0 : Nat} {pc q len : Nat} {L : List (Option aV)} {st : List aV} {M : aM} {u : Bool} {P : Prop} {i : Instr} {r : Option aV}
theorem ag_ret (X : aCx E p s m args meth c q) (hd : decode (tB q) pc = .ok (i, len)) (hl : len = 1) (he : aEnd (tRt q) i st = some (P, r)) (hP : P) : aG E p l e R s m args below meth c n0 z0 (MQ below (aQc E u r M) args s (aN M - n0) (aZ M - z0) (aFr E u)) u (pc, L, st, M) := by
  intro H locs ls hW hq hu hlv
  subst hl
  have hlk := X.2.2.2.2.2.2.2.2
  have hrt := X.2.2.2.2.2.2.2.1
  have hfr : ∀ q ∈ locs, aFr E u q.base := by
    intro z hz
    cases u with
    | true => rw [(hu rfl).2] at hz; cases hz
    | false => exact ⟨rfl, hq z hz⟩
  have hQ : ∀ (v : Option Value), v = r.map (cv E) → ∀ t : State, t.heap = H → s.WarmedH t.vm → aQc E u r M args s (.returned v) t := by
    intro v hv t ht _
    exact ⟨by rw [hv], by rw [ht]; exact hW, fun h => by rw [ht]; exact (hu h).1⟩
  unfold aEnd at he
  split at he
  · split at he
    · split at he
      · rename_i x hr
        cases he
        rw [hr] at hrt
        exact W.iret X.1 X.2.1 hrt (hQ _ rfl) hfr hd hlk
      · rename_i x hr
        cases he
        rw [hr] at hrt
        exact W.zret X.1 X.2.1 hrt (by rcases hP with rfl | rfl <;> rfl) (hQ _ rfl) hfr hd hlk
      · cases he
    · cases he
  · split at he
    · split at he
      · rename_i hr
        cases he
        rw [hr] at hrt
        exact W.aret X.1 X.2.1 hrt (Or.inl ⟨_, rfl⟩) (by
          rcases cv_ref (E := E) _ with h | h
          · exact Or.inl h
          · exact Or.inr ⟨_, h⟩) (hQ _ rfl) hfr hd hlk
      · cases he
    · cases he
  · split at he
    · split at he
      · rename_i hr
        cases he
        rw [hr] at hrt
        exact W.vret X.1 X.2.1 hrt (hQ _ rfl) hfr hd hlk
      · cases he
    · cases he
  · cases he
end AR
