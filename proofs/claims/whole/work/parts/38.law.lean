/-! THE LAW, out of a run of the abstract machine. -/
/-- the memory at the entry: the script of n ints xs is its row 0 -/
def aM0 (n : Nat) (xs : Nat → Int32) : aM := ((1, 0), fun k => if k = 0 then (2, n) else (0, 0), fun k => if k = 0 then xs else fun _ => 0, fun _ _ => 0, fun _ _ => 0)
/-- WHAT IS LEFT: the constructors come to the memories M2, M4; the law's loop comes to true -/
def LawPure : Prop := ∀ (n : Nat) (xs : Nat → Int32), n ≤ 3072 → ∃ (M2 M4 Mend : aM) (u2 u4 u1 : Bool),
  Rn false 2000 80000 0 true (0, aEnt 0 [aR 10 1], [], aNew (aM0 n xs) 10 0 (aFs 0).length) (Sum.inl none, M2, u2) ∧
  Rn false 2000 80000 131 true (0, aEnt 131 [aR 21 (aN M2)], [], aNew M2 21 0 (aFs 11).length) (Sum.inl none, M4, u4) ∧
  aWf true (aNew M4 6 1 1) ∧
  Rn true 2040 83900 249 false (23, [some (aR 2 0), some (aR 10 1), some (aR 21 (aN M2)), some (aR 6 (aN M4)), some (aI 0), none, none], [], aNew M4 6 1 1) (Sum.inl (some (aI 1)), Mend, u1) ∧
  aN Mend ≤ 601025 ∧ aZ Mend ≤ 7293033
theorem aMany_N {fl : Bool} {cd : List aC} {o : Nat} : ∀ (n : Nat) (u : Bool) (σ : aS) (P : Prop) (u1 : Bool) (σ1 : aS), aMany fl cd o n (u, σ) = some (P, u1, σ1) → aN σ.2.2.2 ≤ aN σ1.2.2.2 ∧ aZ σ.2.2.2 ≤ aZ σ1.2.2.2 := by
  intro n
  induction n with
  | zero => intro u σ P u1 σ1 h; cases h; exact ⟨Nat.le_refl _, Nat.le_refl _⟩
  | succ n ih =>
    intro u σ P u1 σ1 h
    rw [aMany] at h
    cases h1 : aOne fl cd o (u, σ) with
    | none => rw [h1] at h; cases h
    | some z1 =>
      obtain ⟨P1, u2, σ2⟩ := z1
      rw [h1] at h
      dsimp only at h
      cases h2 : aMany fl cd o n (u2, σ2) with
      | none => rw [h2] at h; cases h
      | some z2 =>
        obtain ⟨P2, u3, σ3⟩ := z2
        rw [h2] at h
        cases h
        have g2 := ih _ _ _ _ _ h2
        unfold aOne at h1
        dsimp only at h1
        split at h1
        · cases h1
        · split at h1
          · cases h1
          · split at h1
            · split at h1
              · rename_i hs
                cases h1
                have g := aStep_N hs
                exact ⟨Nat.le_trans g.1 g2.1, Nat.le_trans g.2.1 g2.2⟩
              · cases h1
            · cases h1
section LW
variable {E : aE} {p : Program} {l : Launch} {e : Env} {R : Room} {s : State} {m : MethodId} {args : Array Value} {below : List Frame} {meth : Method} {c : Code} {n0 z0 : Nat} {q : Nat} {Q : State → Prop} {fl : Bool}
/-- a stretch of a method of the law -/
theorem aMany_snd (X : aCx E p s m args meth c q) (h13 : tOwn q = 13) (hq : q < 252) : ∀ (n : Nat) (u : Bool) (σ : aS) (P : Prop) (u1 : Bool) (σ1 : aS), aMany fl (tC q) (tOwn q) n (u, σ) = some (P, u1, σ1) → P → aOk fl σ.2.2.2 σ.2.1 σ.2.2.1 → σ.2.1.length = tMl q → n0 ≤ aN σ.2.2.2 → z0 ≤ aZ σ.2.2.2 → aN σ1.2.2.2 - n0 ≤ R.cells ∧ aZ σ1.2.2.2 - z0 ≤ R.slots → (q = 249 → aScr E s σ.2.2.2) →
    (aOk fl σ1.2.2.2 σ1.2.1 σ1.2.2.1 → σ1.2.1.length = tMl q → n0 ≤ aN σ1.2.2.2 → z0 ≤ aZ σ1.2.2.2 → (q = 249 → aScr E s σ1.2.2.2) → aG E p l e R s m args below meth c n0 z0 Q u1 σ1) → aG E p l e R s m args below meth c n0 z0 Q u σ := by
  intro n
  induction n with
  | zero => intro u σ P u1 σ1 h hP ok hL hn hz hb hs k; cases h; exact k ok hL hn hz hs
  | succ n ih =>
    intro u σ P u1 σ1 h hP ok hL hn hz hb hsc k
    rw [aMany] at h
    cases h1 : aOne fl (tC q) (tOwn q) (u, σ) with
    | none => rw [h1] at h; cases h
    | some z1 =>
      obtain ⟨P1, u2, σ2⟩ := z1
      rw [h1] at h
      dsimp only at h
      cases h2 : aMany fl (tC q) (tOwn q) n (u2, σ2) with
      | none => rw [h2] at h; cases h
      | some z2 =>
        obtain ⟨P2, u3, σ3⟩ := z2
        rw [h2] at h
        cases h
        have g2 := aMany_N _ _ _ _ _ _ h2
        obtain ⟨pc, L, st, M⟩ := σ
        unfold aOne at h1
        dsimp only at h1
        cases hf : (tC q).find? (fun e => e.1 == pc) with
        | none => rw [hf] at h1; cases h1
        | some e9 =>
          obtain ⟨e0, i, len, x, v0, tg, sw⟩ := e9
          have hmem := List.mem_of_find?_eq_some hf
          have he0 : e0 = pc := by simpa using List.find?_some hf
          subst he0
          have hdec := List.all_eq_true.mp (aDec_q hq) _ hmem
          simp only [Bool.and_eq_true, decide_eq_true_eq] at hdec
          obtain ⟨hdg, hsd⟩ := hdec
          rw [hf] at h1
          dsimp only at h1
          cases x with
          | succ x => cases h1
          | zero =>
            dsimp only at h1
            cases hkd : aKind (tOwn q) i with
            | succ kd => rw [hkd] at h1; cases h1
            | zero =>
              rw [hkd] at h1
              dsimp only at h1
              cases hs : aStep fl (tOwn q) e0 i len v0 tg L st M with
              | none => rw [hs] at h1; cases h1
              | some a =>
                obtain ⟨P9, σ9⟩ := a
                rw [hs] at h1
                cases h1
                have g := aStep_N hs
                refine aSSt_13 p e R s m args below meth c n0 z0 Q q e0 i len v0 tg sw L st M P1 σ2 u X hq h13 hkd hmem hdg hsd hs hP.1 ok hL hn hz ⟨by have := g2.1; omega, by have := g2.2; omega⟩ hsc (fun ok1 => ?_)
                exact ih _ σ2 _ _ _ h2 hP.2 ok1 (g.2.2.trans hL) (Nat.le_trans hn g.1) (Nat.le_trans hz g.2.1) hb (fun h9 => aScr_0 (hsc h9) (aStep_0 hs hP.1 ok.1)) k
/-- a constructor, called by the law -/
theorem law_ctor (X : aCx E p s m args meth c 249) {pc k0 q1 k9 f d1 w1 : Nat} {L : List (Option aV)} {st : List aV} {M M1 : aM} {u u1 : Bool} (hk : tInv 13 k0 = some q1) (hkd : (tMI q1).2.2.2.2 = 2) (hpar : tPar q1 = 1) (hd : decode (tB 249) pc = .ok (.invokespecial k0, 3)) (h1 : aRun false f d1 w1 q1 true (0, aEnt q1 [aR (10 + tOwn q1) k9], [], M) (Sum.inl none, M1, u1))
    (hR : d1 + 1 ≤ R.frames ∧ 8 + (tMl q1 + 11) + w1 ≤ R.locals) (hb : aN M1 - n0 ≤ R.cells ∧ aZ M1 - z0 ≤ R.slots) (ok : aOk false M L (aR (10 + tOwn q1) k9 :: st)) (hL : L.length = tMl 249) (hn : n0 ≤ aN M) (hz : z0 ≤ aZ M) (hwt : aWt st ≤ 8) (hsc : aScr E s M)
    (k : aOk false M1 L st → n0 ≤ aN M1 → z0 ≤ aZ M1 → aScr E s M1 → aG E p l e R s m args below meth c n0 z0 Q (bif u1 then u else false) (pc + 3, L, st, M1)) : aG E p l e R s m args below meth c n0 z0 Q u (pc, L, aR (10 + tOwn q1) k9 :: st, M) := by
  obtain ⟨hq1, hkk⟩ := k13c hk
  have hk2 : tOwn q1 ≠ 13 ∧ (tY q1).cls = tCn (tOwn q1) ∧ plainName (tY q1).cls = true := by
    rcases hkk with h9 | h9
    · omega
    · exact h9.2
  obtain ⟨hpm, -, -⟩ := kP_q hq1
  have okas : aOkS M [aR (10 + tOwn q1) k9] := aOkS_cons.mpr ⟨(aOkS_cons.mp ok.1).1, fun v hv => absurd hv List.not_mem_nil⟩
  have ok1 : aOk false M (aEnt q1 [aR (10 + tOwn q1) k9]) [] := ⟨(fun v hv => absurd hv List.not_mem_nil), aEnt_ok okas, ok.2.2⟩
  have g := aRun_N false _ _ _ _ _ _ _ h1
  have hz1 : aZ0 M M1 := aRun_0 _ _ _ _ _ (0, aEnt q1 [aR (10 + tOwn q1) k9], [], M) _ h1 ok1
  obtain ⟨n1, n3, n2⟩ := aRun_ok _ _ _ _ _ (0, aEnt q1 [aR (10 + tOwn q1) k9], [], M) _ h1 ok1
  have hmet := aMet_run (E := E) (l := l) h1 (by omega) hq1 hk2.1 (by show 1 ≤ _; omega) hk2.2.2 hk2.2.1 rfl okas ok.2.2
  have hlk := tInv_lk2 (o := 13) (by decide) hk (Or.inr rfl)
  refine ag_callI (as := []) (rest := st) (r := none) X hmet hkd hq1 (Or.inl hlk) hR hb hn hz g.1 g.2 hL rfl (by show 1 = _; omega) hwt hd ?_
  exact k ⟨fun v hv => n3 _ ((aOkS_cons.mp ok.1).2 v hv), fun j w hj => n3 _ (ok.2.1 j w hj), n1⟩ (Nat.le_trans hn g.1) (Nat.le_trans hz g.2) (aScr_0 hsc hz1)
end LW
