/-! THE MACHINE FOLLOWS a run that throws. -/
/-- the contract of a method that comes back, out of its run -/
theorem aMet_run {fl : Bool} {E : aE} {l : Launch} {f d w q1 : Nat} {as : List aV} {M M2 : aM} {v : Option aV} {u2 : Bool} (h1 : aRun fl f d w q1 true (0, aEnt q1 as, [], M) (Sum.inl v, M2, u2)) (hk : (tMI q1).2.2.2.2 < 3) (hq : q1 < 252) (h13 : tOwn q1 ≠ 13) (hal : as.length ≤ tMl q1) (hpl : plainName (tY q1).cls = true) (hcl : (tY q1).cls = tCn (tOwn q1)) (hnj : aNoJ as = true) (okas : aOkS M as) (okw : aWf fl M) : aMet E l q1 d w as M v M2 u2 := by
  refine aMet_of hq hk (aNoJ_cat hnj) hal hpl hcl (fun p' e' s' m' args' below' meth' c' X' => ?_)
  exact aSound_A f d w q1 true (0, aEnt q1 as, [], M) v M2 u2 h1 hk hq h13 ⟨(fun v hv => absurd hv List.not_mem_nil), aEnt_ok okas, okw⟩ (by unfold aEnt; rw [List.length_append, List.length_map, List.length_replicate]; omega) (fun _ _ => Or.inr trivial) p' e' (aRm d w M M2) s' m' args' below' meth' c' (aN M) (aZ M) X' (Nat.le_refl _) (Nat.le_refl _) (Nat.le_refl _) (Nat.le_refl _) ⟨Nat.le_refl _, Nat.le_refl _⟩
theorem aSoundX {E : aE} {l : Launch} (hst : l.stackTraces = false) :
    ∀ (f d w q : Nat) (u : Bool) (σ : aS) (x id : Nat) (M1 : aM) (u1 : Bool), aRun true f d w q u σ (Sum.inr (x, id), M1, u1) → (tMI q).2.2.2.2 < 2 ∧ q ≠ 229 → q < 252 → tOwn q ≠ 13 → aOk true σ.2.2.2 σ.2.1 σ.2.2.1 → σ.2.1.length = tMl q →
    ∀ (p : Program) (e : Env) (R : Room) (s : State) (m : MethodId) (args : Array Value) (below : List Frame) (meth : Method) (c : Code) (n0 z0 : Nat), aCx E p s m args meth c q → c.exceptionTable.toList = [] → d ≤ R.frames → w ≤ R.locals → n0 ≤ aN σ.2.2.2 → z0 ≤ aZ σ.2.2.2 → (u = true → n0 = aN σ.2.2.2) → aN M1 - n0 ≤ R.cells ∧ aZ M1 - z0 ≤ R.slots →
    aG E p l e R s m args below meth c n0 z0 (XQ below (aQx E x id M1) args s (aN M1 - n0) (aZ M1 - z0) (aFr E u1)) u σ := by
  intro f
  induction f with
  | zero => intro d w q u σ x id M1 u1 h; exact h.elim
  | succ f ih =>
    intro d w q u σ x id M1 u1 h hpl hq hno ok hLl p e R s m args below meth c n0 z0 X hex hd hw hn0 hz0 hun hcs
    obtain ⟨pc, L, st, M⟩ := σ
    have h00 := h
    rw [aRun] at h
    cases hf : (tC q).find? (fun e => e.1 == pc) with
    | none => rw [hf] at h; exact h.elim
    | some e9 =>
      obtain ⟨e0, i, len, x, v0, tg, sw⟩ := e9
      have hmem := List.mem_of_find?_eq_some hf
      have he0 : e0 = pc := by simpa using List.find?_some hf
      subst he0
      have hdec := List.all_eq_true.mp (aDec_q hq) _ hmem
      simp only [Bool.and_eq_true, decide_eq_true_eq] at hdec
      obtain ⟨hdg, hsd⟩ := hdec
      rw [hf] at h
      dsimp only at h
      cases x with
      | succ x9 =>
        obtain ⟨⟨hu, h6, h100, hsl, hN⟩, ho⟩ := h
        cases ho
        have hk := List.all_eq_true.mp (List.all_eq_true.mp kThr_all q (List.mem_range.mpr hq)) _ hmem
        dsimp only at hk
        rw [show (x + 1 == 0) = false from rfl, Bool.false_or] at hk
        obtain ⟨z, hz, hz9⟩ := List.any_eq_true.mp hk
        simp only [Bool.and_eq_true, beq_iff_eq] at hz9
        obtain ⟨z1, z2, z3⟩ := hz9
        have z3 : z.2.2.1 = x := Nat.succ.inj z3
        have hcs1 : aN M + 1 - n0 ≤ R.cells := hcs.1
        have hcs2 : aZ M + 6 - z0 ≤ R.slots := hcs.2
        have h9 := ag_throw (E := E) (e := e) (R := R) (below := below) (n0 := n0) (z0 := z0) (L := L) (st := st) (M := M) X hst hex hz z1 z2 (hun hu) hz0 hN (by omega) (by omega) ⟨hcs1, hcs2⟩ hLl hsl
        rw [z3] at h9
        rw [hu]
        exact h9
      | zero =>
        dsimp only at h
        revert h
        generalize hkd : aKind (tOwn q) i = kd
        intro h
        match kd, hkd, h with
        | 0, hkd, h =>
          try dsimp only at h
          cases hs : aStep true (tOwn q) e0 i len v0 tg L st M with
          | none => rw [hs] at h; exact h.elim
          | some a =>
            obtain ⟨P, σ1⟩ := a
            rw [hs] at h
            have g := aStep_N hs
            have g2 := aRun_N true _ _ _ _ _ _ _ h.2
            have hstepu : (bif aWr i then false else u) = true → n0 = aN σ1.2.2.2 := by
              intro hu9
              cases hw9 : aWr i with
              | true => rw [hw9] at hu9; cases hu9
              | false => rw [hw9] at hu9; rw [aStep_M hs hw9]; exact hun hu9
            refine aSSt_any p e R s m args below meth c n0 z0 _ q e0 i len v0 tg sw L st M P σ1 u X hq hno hkd hmem hdg hsd hs h.1 ok hLl hn0 hz0 ⟨by have := g2.1; dsimp only at this; omega, by have := g2.2; dsimp only at this; omega⟩ (fun ok1 => ?_)
            exact ih d w q _ σ1 x id M1 u1 h.2 hpl hq hno ok1 (g.2.2.trans hLl) p e R s m args below meth c n0 z0 X hex hd hw (Nat.le_trans hn0 g.1) (Nat.le_trans hz0 g.2.1) (fun hu9 => hstepu hu9) hcs
        | 1, hkd, h =>
          try dsimp only at h
          cases hc : aCallOf (tOwn q) i st with
          | none => rw [hc] at h; exact h.elim
          | some y =>
            obtain ⟨q1, as, rest⟩ := y
            rw [hc] at h
            dsimp only at h
            obtain ⟨⟨hd1, hw1, hrl, hnj⟩, ⟨r1, M2, u2⟩, h1, h2⟩ := h
            obtain ⟨c1, c2, c3, c4, c5, c6, c7⟩ := aCalls_2 q _ st q1 as rest hq hno hpl.1 hpl.2 hmem hc
            have g := aRun_N true _ _ _ _ _ _ _ h1
            have okas : aOkS M as := fun v hv => ok.1 v (by rw [← c3]; exact List.mem_append_left _ (List.mem_reverse.mpr hv))
            have okrest : aOkS M rest := fun v hv => ok.1 v (by rw [← c3]; exact List.mem_append_right _ hv)
            have hl3 : len = 3 := aKind1_len hkd hsd
            subst hl3
            cases r1 with
            | inr z =>
              dsimp only at h2
              rw [aHnd_none q e0 z.1 (by omega)] at h2
              cases h2
              have hmx : aMetX E l q1 (d - 1) (w - (tMl q1 + 19)) as M x id M1 u2 := by
                refine aMetX_of c1 (by omega) (aNoJ_cat hnj) c4 c5 c6 (fun p' e' s' m' args' below' meth' c' X' hex' => ?_)
                exact ih (d - 1) (w - (tMl q1 + 19)) q1 true (0, aEnt q1 as, [], M) x id M1 u2 h1 c2 c1 c7 ⟨(fun v hv => absurd hv List.not_mem_nil), aEnt_ok okas, ok.2.2⟩ (by unfold aEnt; rw [List.length_append, List.length_map, List.length_replicate]; omega) p' e' (aRm (d - 1) (w - (tMl q1 + 19)) M M1) s' m' args' below' meth' c' (aN M) (aZ M) X' hex' (Nat.le_refl _) (Nat.le_refl _) (Nat.le_refl _) (Nat.le_refl _) (fun _ => rfl) ⟨Nat.le_refl _, Nat.le_refl _⟩
              intro H locs ls hW hqq hu hl
              exact ag_xout X.2.2.2.2.2.2.2.2 hex hn0 hz0 g.1 g.2 hqq hu (ag_Xrun X hc c2.1 c1 hmx hdg ⟨by omega, by omega⟩ hcs hn0 hz0 g.1 g.2 hLl hrl ok.1 hW hl)
            | inl v =>
              dsimp only at h2
              have g2 := aRun_N true _ _ _ _ _ _ _ h2
              obtain ⟨n1, n2, n3⟩ := aEnds_all f (d - 1) (w - (tMl q1 + 19)) q1 true (aEnt q1 as) [] M 0 v M2 u2 h1 ⟨(fun v hv => absurd hv List.not_mem_nil), aEnt_ok okas, ok.2.2⟩
              have hmet := aMet_run (E := E) (l := l) h1 (by omega) c1 c7 c4 c5 c6 hnj okas ok.2.2
              refine aSCl_3 (fl := true) p e R s m args below meth c n0 z0 _ q e0 i 3 L st M M2 u u2 q1 _ _ as rest v X hq hno (by omega) c1 hkd hdg rfl hc hmet (by omega) (by omega) ⟨by have := g2.1; dsimp only at this; omega, by have := g2.2; dsimp only at this; omega⟩ hn0 hz0 g.1 g.2 hLl hrl ok ?_
              refine ih d w q _ (e0 + 3, L, v.toList ++ rest, M2) x id M1 u1 h2 hpl hq hno ⟨?_, fun j w hj => n3 _ (ok.2.1 j w hj), n1⟩ hLl p e R s m args below meth c n0 z0 X hex hd hw (Nat.le_trans hn0 g.1) (Nat.le_trans hz0 g.2) ?_ hcs
              · intro w9 hw9
                rcases List.mem_append.mp hw9 with h | h
                · cases v with
                  | none => cases h
                  | some v =>
                    have : w9 = v := by simpa using h
                    subst this
                    exact n2 _ rfl
                · exact n3 _ (okrest w9 h)
              · intro hu9
                cases u2 with
                | false => cases hu9
                | true =>
                  obtain ⟨-, g4⟩ := aRun_u true _ _ _ _ _ _ _ h1 rfl
                  rw [show aN M2 = aN M from congrArg aN g4]
                  exact hun hu9
        | 2, hkd, h =>
          try dsimp only at h
          cases hb : aBr i st with
          | none => rw [hb] at h; exact h.elim
          | some y =>
            obtain ⟨cd, st1⟩ := y
            rw [hb] at h
            unfold aBr at hb
            split at hb
            · split at hb
              · cases hb
                simp only [aSide, Bool.and_eq_true, beq_iff_eq] at hsd
                obtain ⟨hl3, hg⟩ := hsd
                subst hl3
                have ok1 : aOk true M L st1 := ⟨(aOkS_cons.mp ok.1).2, ok.2⟩
                exact ag_if X.1 X.2.1 hdg hg (fun hc => ih d w q u (tg, L, st1, M) x id M1 u1 (h.1 hc) hpl hq hno ok1 hLl p e R s m args below meth c n0 z0 X hex hd hw hn0 hz0 hun hcs) (fun hc => ih d w q u (e0 + 3, L, st1, M) x id M1 u1 (h.2 hc) hpl hq hno ok1 hLl p e R s m args below meth c n0 z0 X hex hd hw hn0 hz0 hun hcs)
              · cases hb
            · split at hb
              · cases hb
                simp only [aSide, Bool.and_eq_true, beq_iff_eq] at hsd
                obtain ⟨hl3, hg⟩ := hsd
                subst hl3
                have ok1 : aOk true M L st1 := ⟨(aOkS_cons.mp (aOkS_cons.mp ok.1).2).2, ok.2⟩
                exact ag_icmp X.1 X.2.1 hdg hg (fun hc => ih d w q u (tg, L, st1, M) x id M1 u1 (h.1 hc) hpl hq hno ok1 hLl p e R s m args below meth c n0 z0 X hex hd hw hn0 hz0 hun hcs) (fun hc => ih d w q u (e0 + 3, L, st1, M) x id M1 u1 (h.2 hc) hpl hq hno ok1 hLl p e R s m args below meth c n0 z0 X hex hd hw hn0 hz0 hun hcs)
              · cases hb
            · cases hb
        | 3, hkd, h =>
          try dsimp only at h
          cases hb : aSwOf i st with
          | none => rw [hb] at h; exact h.elim
          | some y =>
            obtain ⟨x9, st1⟩ := y
            rw [hb] at h
            have ok1 : aOk true M L st1 := by
              refine ⟨fun v hv => ok.1 v ?_, ok.2⟩
              unfold aSwOf at hb
              repeat' split at hb
              all_goals first | (cases hb; exact List.mem_cons_of_mem _ hv) | cases hb
            exact aSSw_all p e R s m args below meth c n0 z0 _ q e0 i len v0 tg sw L st st1 M x9 u X hdg hsd hb (ih d w q u (aSw x9 tg sw, L, st1, M) x id M1 u1 h hpl hq hno ok1 hLl p e R s m args below meth c n0 z0 X hex hd hw hn0 hz0 hun hcs)
        | 4, hkd, h =>
          try dsimp only at h
          cases hb : aEnd (tRt q) i st with
          | none => rw [hb] at h; exact h.elim
          | some y =>
            rw [hb] at h
            exact absurd h.2 (by simp)
        | kd + 5, hkd, h =>
          try dsimp only at h
          cases hs : aStep true (tOwn q) e0 i len v0 tg L st M with
          | none => rw [hs] at h; exact h.elim
          | some a =>
            obtain ⟨P, σ1⟩ := a
            rw [hs] at h
            have g := aStep_N hs
            have g2 := aRun_N true _ _ _ _ _ _ _ h.2
            have hk5 : aKind (tOwn q) i = 5 := by
              have : aKind (tOwn q) i ≤ 5 := by
                unfold aKind
                split <;> first | decide | (split <;> decide)
              omega
            obtain ⟨hP, h6, h200, hsl⟩ := h.1
            have hstepu : (bif aWr i then false else u) = true → n0 = aN σ1.2.2.2 := by
              intro hu9
              cases hw9 : aWr i with
              | true => rw [hw9] at hu9; cases hu9
              | false => rw [hw9] at hu9; rw [aStep_M hs hw9]; exact hun hu9
            refine aSPr_all p e R s m args below meth c n0 z0 _ q e0 i len v0 tg sw L st M P σ1 u X hq hk5 hdg hsd hs hP ok hLl hsl (by omega) (by omega) hn0 hz0 ⟨by have := g2.1; dsimp only at this; omega, by have := g2.2; dsimp only at this; omega⟩ (fun ok1 => ?_)
            exact ih d w q _ σ1 x id M1 u1 h.2 hpl hq hno ok1 (g.2.2.trans hLl) p e R s m args below meth c n0 z0 X hex hd hw (Nat.le_trans hn0 g.1) (Nat.le_trans hz0 g.2.1) (fun hu9 => hstepu hu9) hcs
