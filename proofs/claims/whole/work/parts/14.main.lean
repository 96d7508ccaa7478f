/-! THE MACHINE FOLLOWS a run of the abstract machine that comes back (plain methods; the laws of single rows as hypotheses that parts 05 to 10 fill). -/
def aSSt (fl : Bool) (E : aE) (l : Launch) : Prop := ∀ (p : Program) (e : Env) (R : Room) (s : State) (m : MethodId) (args : Array Value) (below : List Frame) (meth : Method) (c : Code) (n0 z0 : Nat) (Q : State → Prop) (q pc : Nat) (i : Instr) (len : Nat) (v0 : Int32) (tg : Nat) (sw : List (Int32 × Nat)) (L : List (Option aV)) (st : List aV) (M : aM) (P : Prop) (σ1 : aS) (u : Bool),
  aCx E p s m args meth c q → q < 252 → tOwn q ≠ 13 → aKind (tOwn q) i = 0 → (pc, i, len, 0, v0, tg, sw) ∈ tC q → decode (tB q) pc = .ok (i, len) → aSide pc i len v0 tg sw = true → aStep fl (tOwn q) pc i len v0 tg L st M = some (P, σ1) → P → aOk fl M L st → L.length = tMl q → n0 ≤ aN M → z0 ≤ aZ M → aN σ1.2.2.2 - n0 ≤ R.cells ∧ aZ σ1.2.2.2 - z0 ≤ R.slots →
  (aOk fl σ1.2.2.2 σ1.2.1 σ1.2.2.1 → aG E p l e R s m args below meth c n0 z0 Q (bif aWr i then false else u) σ1) → aG E p l e R s m args below meth c n0 z0 Q u (pc, L, st, M)
def aSPr (fl : Bool) (E : aE) (l : Launch) : Prop := ∀ (p : Program) (e : Env) (R : Room) (s : State) (m : MethodId) (args : Array Value) (below : List Frame) (meth : Method) (c : Code) (n0 z0 : Nat) (Q : State → Prop) (q pc : Nat) (i : Instr) (len : Nat) (v0 : Int32) (tg : Nat) (sw : List (Int32 × Nat)) (L : List (Option aV)) (st : List aV) (M : aM) (P : Prop) (σ1 : aS) (u : Bool),
  aCx E p s m args meth c q → q < 252 → aKind (tOwn q) i = 5 → decode (tB q) pc = .ok (i, len) → aSide pc i len v0 tg sw = true → aStep fl (tOwn q) pc i len v0 tg L st M = some (P, σ1) → P → aOk fl M L st → L.length = tMl q → aWt st ≤ 8 → 6 ≤ R.frames → 200 ≤ R.locals → n0 ≤ aN M → z0 ≤ aZ M → aN σ1.2.2.2 - n0 ≤ R.cells ∧ aZ σ1.2.2.2 - z0 ≤ R.slots →
  (aOk fl σ1.2.2.2 σ1.2.1 σ1.2.2.1 → aG E p l e R s m args below meth c n0 z0 Q (bif aWr i then false else u) σ1) → aG E p l e R s m args below meth c n0 z0 Q u (pc, L, st, M)
def aSSw (E : aE) (l : Launch) : Prop := ∀ (p : Program) (e : Env) (R : Room) (s : State) (m : MethodId) (args : Array Value) (below : List Frame) (meth : Method) (c : Code) (n0 z0 : Nat) (Q : State → Prop) (q pc : Nat) (i : Instr) (len : Nat) (v0 : Int32) (tg : Nat) (sw : List (Int32 × Nat)) (L : List (Option aV)) (st st1 : List aV) (M : aM) (x : Int32) (u : Bool),
  aCx E p s m args meth c q → decode (tB q) pc = .ok (i, len) → aSide pc i len v0 tg sw = true → aSwOf i st = some (x, st1) → aG E p l e R s m args below meth c n0 z0 Q u (aSw x tg sw, L, st1, M) → aG E p l e R s m args below meth c n0 z0 Q u (pc, L, st, M)
/-- what a call asks of the tables: methods of kinds below B call methods of such kinds alone -/
def aCalls (B : Nat) : Prop := ∀ (q : Nat) (e : aC) (st : List aV) (q1 : Nat) (as rest : List aV), q < 252 → tOwn q ≠ 13 → (tMI q).2.2.2.2 < B → e ∈ tC q → aCallOf (tOwn q) e.2.1 st = some (q1, as, rest) → q1 < 252 ∧ (tMI q1).2.2.2.2 < B ∧ (as.reverse ++ rest = st) ∧ as.length ≤ tMl q1 ∧ plainName (tY q1).cls = true ∧ (tY q1).cls = tCn (tOwn q1) ∧ tOwn q1 ≠ 13
/-- a call that comes back, by the callee's contract -/
def aSCl (fl : Bool) (E : aE) (l : Launch) (B : Nat) : Prop := ∀ (p : Program) (e : Env) (R : Room) (s : State) (m : MethodId) (args : Array Value) (below : List Frame) (meth : Method) (c : Code) (n0 z0 : Nat) (Q : State → Prop) (q pc : Nat) (i : Instr) (len : Nat) (L : List (Option aV)) (st : List aV) (M M1 : aM) (u u1 : Bool) (q1 d1 w1 : Nat) (as rest : List aV) (r : Option aV),
  aCx E p s m args meth c q → q < 252 → tOwn q ≠ 13 → (tMI q1).2.2.2.2 < B → q1 < 252 → aKind (tOwn q) i = 1 → decode (tB q) pc = .ok (i, len) → len = 3 → aCallOf (tOwn q) i st = some (q1, as, rest) → aMet E l q1 d1 w1 as M r M1 u1 → d1 + 1 ≤ R.frames → tMl q1 + 19 + w1 ≤ R.locals → aN M1 - n0 ≤ R.cells ∧ aZ M1 - z0 ≤ R.slots → n0 ≤ aN M → z0 ≤ aZ M → aN M ≤ aN M1 → aZ M ≤ aZ M1 → L.length = tMl q → aWt rest ≤ 8 → aOk fl M L st →
  aG E p l e R s m args below meth c n0 z0 Q (bif u1 then u else false) (pc + 3, L, r.toList ++ rest, M1) → aG E p l e R s m args below meth c n0 z0 Q u (pc, L, st, M)
/-- where a run comes back, its end is well typed -/
def aEnds (fl : Bool) : Prop := ∀ (f d w q : Nat) (u : Bool) (L : List (Option aV)) (st : List aV) (M : aM) (pc : Nat) (r : Option aV) (M1 : aM) (u1 : Bool), aRun fl f d w q u (pc, L, st, M) (Sum.inl r, M1, u1) → aOk fl M L st → aWf fl M1 ∧ (∀ v, r = some v → aOkV M1 v) ∧ (∀ v, aOkV M v → aOkV M1 v)
theorem aKind1_len {o pc len tg : Nat} {i : Instr} {v0 : Int32} {sw : List (Int32 × Nat)} (hk : aKind o i = 1) (hs : aSide pc i len v0 tg sw = true) : len = 3 := by
  unfold aKind at hk
  split at hk
  all_goals first
    | (cases hk; done)
    | (simpa [aSide] using hs)
theorem aKind4_len {o pc len tg : Nat} {i : Instr} {v0 : Int32} {sw : List (Int32 × Nat)} (hk : aKind o i = 4) (hs : aSide pc i len v0 tg sw = true) : len = 1 := by
  unfold aKind at hk
  split at hk
  all_goals first
    | (cases hk; done)
    | (split at hk <;> cases hk; done)
    | (simpa [aSide] using hs)
theorem aNoJ_cat {E : aE} {as : List aV} (h : aNoJ as = true) : ∀ v ∈ as, (cv E v).category = 1 := by
  intro v hv
  have h1 := List.all_eq_true.mp h v hv
  rcases v with x | r | x
  · rfl
  · exact cv_cat r
  · cases h1
theorem aSound {fl : Bool} {E : aE} {l : Launch} {B : Nat} (hB : B ≤ 3) (hSS : aSSt fl E l) (hSP : aSPr fl E l) (hSW : aSSw E l) (hSC : aSCl fl E l B) (hCl : aCalls B) (hEn : aEnds fl) (hHd : ∀ q pc x, (tMI q).2.2.2.2 < 3 → aHnd q pc x = none) :
    ∀ (f d w q : Nat) (u : Bool) (σ : aS) (r : Option aV) (M1 : aM) (u1 : Bool), aRun fl f d w q u σ (Sum.inl r, M1, u1) → (tMI q).2.2.2.2 < B → q < 252 → tOwn q ≠ 13 → aOk fl σ.2.2.2 σ.2.1 σ.2.2.1 → σ.2.1.length = tMl q → (∀ v ∈ σ.2.2.1, (cv E v).category = 1 ∨ True) →
    ∀ (p : Program) (e : Env) (R : Room) (s : State) (m : MethodId) (args : Array Value) (below : List Frame) (meth : Method) (c : Code) (n0 z0 : Nat), aCx E p s m args meth c q → d ≤ R.frames → w ≤ R.locals → n0 ≤ aN σ.2.2.2 → z0 ≤ aZ σ.2.2.2 → aN M1 - n0 ≤ R.cells ∧ aZ M1 - z0 ≤ R.slots →
    aG E p l e R s m args below meth c n0 z0 (MQ below (aQc E u1 r M1) args s (aN M1 - n0) (aZ M1 - z0) (aFr E u1)) u σ := by
  intro f
  induction f with
  | zero => intro d w q u σ r M1 u1 h; exact h.elim
  | succ f ih =>
    intro d w q u σ r M1 u1 h hpl hq hno ok hLl _ p e R s m args below meth c n0 z0 X hd hw hn0 hz0 hcs
    obtain ⟨pc, L, st, M⟩ := σ
    rw [aRun] at h
    cases hf : (tC q).find? (fun e => e.1 == pc) with
    | none => rw [hf] at h; exact h.elim
    | some e9 =>
      obtain ⟨e0, i, len, x, v0, tg, sw⟩ := e9
      have hmem := List.mem_of_find?_eq_some hf
      have he0 : e0 = pc := by simpa using List.find?_some hf
      subst he0
      have hdec := List.all_eq_true.mp (aDec_q hq) _ hmem
      simp only [Bool.and_eq_true, decide_eq_true_eq] at hdec
      obtain ⟨hdg, hsd⟩ := hdec
      rw [hf] at h
      dsimp only at h
      cases x with
      | succ x => exact absurd h.2 (by simp)
      | zero =>
        dsimp only at h
        revert h
        generalize hkd : aKind (tOwn q) i = kd
        intro h
        match kd, hkd, h with
        | 0, hkd, h =>
          try dsimp only at h
          cases hs : aStep fl (tOwn q) e0 i len v0 tg L st M with
          | none => rw [hs] at h; exact h.elim
          | some a =>
            obtain ⟨P, σ1⟩ := a
            rw [hs] at h
            have g := aStep_N hs
            have g2 := aRun_N fl _ _ _ _ _ _ _ h.2
            refine hSS p e R s m args below meth c n0 z0 _ q e0 i len v0 tg sw L st M P σ1 u X hq hno hkd hmem hdg hsd hs h.1 ok hLl hn0 hz0 ⟨by have := g2.1; dsimp only at this; omega, by have := g2.2; dsimp only at this; omega⟩ (fun ok1 => ?_)
            exact ih d w q _ σ1 r M1 u1 h.2 hpl hq hno ok1 (g.2.2.trans hLl) (fun _ _ => Or.inr trivial) p e R s m args below meth c n0 z0 X hd hw (Nat.le_trans hn0 g.1) (Nat.le_trans hz0 g.2.1) hcs
        | 1, hkd, h =>
          try dsimp only at h
          cases hc : aCallOf (tOwn q) i st with
          | none => rw [hc] at h; exact h.elim
          | some y =>
            obtain ⟨q1, as, rest⟩ := y
            rw [hc] at h
            dsimp only at h
            obtain ⟨⟨hd1, hw1, hrl, hnj⟩, ⟨r1, M2, u2⟩, h1, h2⟩ := h
            obtain ⟨c1, c2, c3, c4, c5, c6, c7⟩ := hCl q _ st q1 as rest hq hno hpl hmem hc
            have g := aRun_N fl _ _ _ _ _ _ _ h1
            cases r1 with
            | inr z =>
              dsimp only at h2
              rw [hHd q e0 z.1 (by omega)] at h2
              exact absurd h2 (by simp)
            | inl v =>
              dsimp only at h2
              have g2 := aRun_N fl _ _ _ _ _ _ _ h2
              have okas : aOkS M as := fun v hv => ok.1 v (by rw [← c3]; exact List.mem_append_left _ (List.mem_reverse.mpr hv))
              have okrest : aOkS M rest := fun v hv => ok.1 v (by rw [← c3]; exact List.mem_append_right _ hv)
              have okL : aOkL M (aEnt q1 as) := by
                intro j w hj
                unfold aEnt at hj
                by_cases hi : j < as.length
                · rw [List.getElem?_append_left (by rw [List.length_map]; exact hi), List.getElem?_map] at hj
                  cases hv : as[j]? with
                  | none => rw [hv] at hj; cases hj
                  | some w9 =>
                    rw [hv] at hj
                    have : w9 = w := by simpa using hj
                    subst this
                    exact okas _ (List.mem_of_getElem? hv)
                · rw [List.getElem?_append_right (by rw [List.length_map]; omega), List.getElem?_replicate] at hj
                  split at hj <;> cases hj
              have ok1 : aOk fl M (aEnt q1 as) [] := ⟨(fun v hv => absurd hv List.not_mem_nil), okL, ok.2.2⟩
              obtain ⟨n1, n2, n3⟩ := hEn f (d - 1) (w - (tMl q1 + 19)) q1 true (aEnt q1 as) [] M 0 v M2 u2 h1 ok1
              have hmet : aMet E l q1 (d - 1) (w - (tMl q1 + 19)) as M v M2 u2 := by
                refine aMet_of c1 (by omega) ?_ c4 c5 c6 (fun p' e' s' m' args' below' meth' c' X' => ?_)
                · exact aNoJ_cat hnj
                · exact ih (d - 1) (w - (tMl q1 + 19)) q1 true (0, aEnt q1 as, [], M) v M2 u2 h1 c2 c1 c7 ok1 (by unfold aEnt; rw [List.length_append, List.length_map, List.length_replicate]; omega) (fun _ _ => Or.inr trivial) p' e' (aRm (d - 1) (w - (tMl q1 + 19)) M M2) s' m' args' below' meth' c' (aN M) (aZ M) X' (Nat.le_refl _) (Nat.le_refl _) (Nat.le_refl _) (Nat.le_refl _) ⟨Nat.le_refl _, Nat.le_refl _⟩
              have hl3 : len = 3 := aKind1_len hkd hsd
              refine hSC p e R s m args below meth c n0 z0 _ q e0 i len L st M M2 u u2 q1 _ _ as rest v X hq hno c2 c1 hkd hdg hl3 hc hmet (by omega) (by omega) ⟨by have := g2.1; dsimp only at this; omega, by have := g2.2; dsimp only at this; omega⟩ hn0 hz0 g.1 g.2 hLl hrl ok ?_
              refine ih d w q _ (e0 + 3, L, v.toList ++ rest, M2) r M1 u1 h2 hpl hq hno ⟨?_, fun j w hj => n3 _ (ok.2.1 j w hj), n1⟩ hLl (fun _ _ => Or.inr trivial) p e R s m args below meth c n0 z0 X hd hw (Nat.le_trans hn0 g.1) (Nat.le_trans hz0 g.2) hcs
              intro w9 hw9
              rcases List.mem_append.mp hw9 with h | h
              · cases v with
                | none => cases h
                | some v =>
                  have : w9 = v := by simpa using h
                  subst this
                  exact n2 _ rfl
              · exact n3 _ (okrest w9 h)
        | 2, hkd, h =>
          try dsimp only at h
          cases hb : aBr i st with
          | none => rw [hb] at h; exact h.elim
          | some y =>
            obtain ⟨cd, st1⟩ := y
            rw [hb] at h
            unfold aBr at hb
            split at hb
            · split at hb
              · cases hb
                simp only [aSide, Bool.and_eq_true, beq_iff_eq] at hsd
                obtain ⟨hl3, hg⟩ := hsd
                subst hl3
                have ok1 : aOk fl M L st1 := ⟨(aOkS_cons.mp ok.1).2, ok.2⟩
                exact ag_if X.1 X.2.1 hdg hg (fun hc => ih d w q u (tg, L, st1, M) r M1 u1 (h.1 hc) hpl hq hno ok1 hLl (fun _ _ => Or.inr trivial) p e R s m args below meth c n0 z0 X hd hw hn0 hz0 hcs) (fun hc => ih d w q u (e0 + 3, L, st1, M) r M1 u1 (h.2 hc) hpl hq hno ok1 hLl (fun _ _ => Or.inr trivial) p e R s m args below meth c n0 z0 X hd hw hn0 hz0 hcs)
              · cases hb
            · split at hb
              · cases hb
                simp only [aSide, Bool.and_eq_true, beq_iff_eq] at hsd
                obtain ⟨hl3, hg⟩ := hsd
                subst hl3
                have ok1 : aOk fl M L st1 := ⟨(aOkS_cons.mp (aOkS_cons.mp ok.1).2).2, ok.2⟩
                exact ag_icmp X.1 X.2.1 hdg hg (fun hc => ih d w q u (tg, L, st1, M) r M1 u1 (h.1 hc) hpl hq hno ok1 hLl (fun _ _ => Or.inr trivial) p e R s m args below meth c n0 z0 X hd hw hn0 hz0 hcs) (fun hc => ih d w q u (e0 + 3, L, st1, M) r M1 u1 (h.2 hc) hpl hq hno ok1 hLl (fun _ _ => Or.inr trivial) p e R s m args below meth c n0 z0 X hd hw hn0 hz0 hcs)
              · cases hb
            · cases hb
        | 3, hkd, h =>
          try dsimp only at h
          cases hb : aSwOf i st with
          | none => rw [hb] at h; exact h.elim
          | some y =>
            obtain ⟨x9, st1⟩ := y
            rw [hb] at h
            have ok1 : aOk fl M L st1 := by
              refine ⟨fun v hv => ok.1 v ?_, ok.2⟩
              unfold aSwOf at hb
              repeat' split at hb
              all_goals first | (cases hb; exact List.mem_cons_of_mem _ hv) | cases hb
            exact hSW p e R s m args below meth c n0 z0 _ q e0 i len v0 tg sw L st st1 M x9 u X hdg hsd hb (ih d w q u (aSw x9 tg sw, L, st1, M) r M1 u1 h hpl hq hno ok1 hLl (fun _ _ => Or.inr trivial) p e R s m args below meth c n0 z0 X hd hw hn0 hz0 hcs)
        | 4, hkd, h =>
          try dsimp only at h
          cases hb : aEnd (tRt q) i st with
          | none => rw [hb] at h; exact h.elim
          | some y =>
            obtain ⟨P, r9⟩ := y
            rw [hb] at h
            obtain ⟨hP, ho⟩ := h
            cases ho
            have hl1 : len = 1 := aKind4_len hkd hsd
            exact ag_ret X hdg hl1 hb hP
        | kd + 5, hkd, h =>
          try dsimp only at h
          cases hs : aStep fl (tOwn q) e0 i len v0 tg L st M with
          | none => rw [hs] at h; exact h.elim
          | some a =>
            obtain ⟨P, σ1⟩ := a
            rw [hs] at h
            have g := aStep_N hs
            have g2 := aRun_N fl _ _ _ _ _ _ _ h.2
            have hk5 : aKind (tOwn q) i = 5 := by
              have : aKind (tOwn q) i ≤ 5 := by
                unfold aKind
                split <;> first | decide | (split <;> decide)
              omega
            obtain ⟨hP, h6, h200, hsl⟩ := h.1
            refine hSP p e R s m args below meth c n0 z0 _ q e0 i len v0 tg sw L st M P σ1 u X hq hk5 hdg hsd hs hP ok hLl hsl (by omega) (by omega) hn0 hz0 ⟨by have := g2.1; dsimp only at this; omega, by have := g2.2; dsimp only at this; omega⟩ (fun ok1 => ?_)
            exact ih d w q _ σ1 r M1 u1 h.2 hpl hq hno ok1 (g.2.2.trans hLl) (fun _ _ => Or.inr trivial) p e R s m args below meth c n0 z0 X hd hw (Nat.le_trans hn0 g.1) (Nat.le_trans hz0 g.2.1) hcs
