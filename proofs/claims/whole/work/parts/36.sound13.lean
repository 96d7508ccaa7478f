/-! THE MACHINE FOLLOWS a run of the law's own methods (behind the constructors). -/
theorem aRun_xf (fl : Bool) : ∀ (f d w q : Nat) (u : Bool) (σ : aS) (z : Nat × Nat) (M1 : aM) (u1 : Bool), aRun fl f d w q u σ (Sum.inr z, M1, u1) → u1 = false := by
  intro f
  induction f with
  | zero => intro d w q u σ z M1 u1 h; exact h.elim
  | succ f ih =>
    intro d w q u σ z M1 u1 h
    obtain ⟨pc, L, st, M⟩ := σ
    rw [aRun] at h
    cases hf : (tC q).find? (fun e => e.1 == pc) with
    | none => rw [hf] at h; exact h.elim
    | some e =>
      obtain ⟨e0, i, len, x, v0, tg, sw⟩ := e
      rw [hf] at h
      dsimp only at h
      cases x with
      | succ x => exact congrArg (fun z => z.2.2) h.2
      | zero =>
        dsimp only at h
        revert h
        generalize aKind (tOwn q) i = kd
        intro h
        match kd, h with
        | 0, h =>
          try dsimp only at h
          cases hs : aStep fl (tOwn q) pc i len v0 tg L st M with
          | none => rw [hs] at h; exact h.elim
          | some a => rw [hs] at h; exact ih _ _ _ _ _ _ _ _ h.2
        | 1, h =>
          try dsimp only at h
          cases hc : aCallOf (tOwn q) i st with
          | none => rw [hc] at h; exact h.elim
          | some y =>
            obtain ⟨q1, as, rest⟩ := y
            rw [hc] at h
            dsimp only at h
            obtain ⟨hd, ⟨r1, M2, u2⟩, h1, h2⟩ := h
            cases r1 with
            | inl v => exact ih _ _ _ _ _ _ _ _ h2
            | inr z9 =>
              dsimp only at h2
              cases hh : aHnd q pc z9.1 with
              | none =>
                rw [hh] at h2
                have h3 := ih _ _ _ _ _ _ _ _ h1
                subst h3
                exact congrArg (fun z => z.2.2) h2
              | some p => rw [hh] at h2; exact ih _ _ _ _ _ _ _ _ h2
        | 2, h =>
          try dsimp only at h
          cases hb : aBr i st with
          | none => rw [hb] at h; exact h.elim
          | some y =>
            rw [hb] at h
            by_cases hc : y.1
            · exact ih _ _ _ _ (tg, L, y.2, M) _ _ _ (h.1 hc)
            · exact ih _ _ _ _ (pc + len, L, y.2, M) _ _ _ (h.2 hc)
        | 3, h =>
          try dsimp only at h
          cases hb : aSwOf i st with
          | none => rw [hb] at h; exact h.elim
          | some y => rw [hb] at h; exact ih _ _ _ _ (aSw y.1 tg sw, L, y.2, M) _ _ _ h
        | 4, h =>
          try dsimp only at h
          cases hb : aEnd (tRt q) i st with
          | none => rw [hb] at h; exact h.elim
          | some y => rw [hb] at h; exact absurd h.2 (by simp)
        | kd + 5, h =>
          try dsimp only at h
          cases hs : aStep fl (tOwn q) pc i len v0 tg L st M with
          | none => rw [hs] at h; exact h.elim
          | some a => rw [hs] at h; exact ih _ _ _ _ _ _ _ _ h.2
theorem aScr_0 {E : aE} {s : State} {M M1 : aM} (h : aScr E s M) (hz : aZ0 M M1) : aScr E s M1 := by
  obtain ⟨n, xs, h1, h2, h3, h4, h5⟩ := h
  exact ⟨n, xs, h1, h2, h3, by rw [hz.1]; exact h4, fun j hj => by rw [hz.2]; exact h5 j hj⟩
theorem k13c_all : (tInvL.getD 13 []).all (fun e => decide (e.2 < 252) && (((tMI e.2).2.2.2.2 == 3 && tOwn e.2 == 13) || (((tMI e.2).2.2.2.2 == 1 || (tMI e.2).2.2.2.2 == 2) && (!(tOwn e.2 == 13) && (decide ((tY e.2).cls = tCn (tOwn e.2)) && plainName (tY e.2).cls))))) = true := by decide +kernel
theorem k13c {k q1 : Nat} (h : tInv 13 k = some q1) : q1 < 252 ∧ (((tMI q1).2.2.2.2 = 3 ∧ tOwn q1 = 13) ∨ (((tMI q1).2.2.2.2 = 1 ∨ (tMI q1).2.2.2.2 = 2) ∧ tOwn q1 ≠ 13 ∧ (tY q1).cls = tCn (tOwn q1) ∧ plainName (tY q1).cls = true)) := by
  have hm := lk_mem (L := tInvL.getD 13 []) h
  have h1 := List.all_eq_true.mp k13c_all _ hm
  simp only [Bool.and_eq_true, Bool.or_eq_true, decide_eq_true_eq, beq_iff_eq, Bool.not_eq_true', beq_eq_false_iff_ne] at h1
  exact h1
theorem k13w_all : (List.range 252).all (fun q => !((tMI q).2.2.2.2 == 3) || (tC q).all (fun e => match e.2.1 with
  | .invokestatic _ => false
  | _ => true)) = true := by decide +kernel
theorem k13i_all : (List.range 252).all (fun q => !((tMI q).2.2.2.2 == 3) || (tC q).all (fun e => match e.2.1 with
  | .invokespecial _ => false
  | _ => true)) = true := by decide +kernel
theorem aHnd_249 (pc x : Nat) : aHnd 249 pc x = none := by
  rw [aHnd_eq]
  have : tHq 249 = [] := by decide +kernel
  rw [this]
  rfl
theorem aSound13 {E : aE} {l : Launch} (hst : l.stackTraces = false) :
    ∀ (f d w q : Nat) (u : Bool) (σ : aS) (r : Option aV) (M1 : aM) (u1 : Bool), aRun true f d w q u σ (Sum.inl r, M1, u1) → tOwn q = 13 → ((tMI q).2.2.2.2 = 3 ∨ q = 249) → q < 252 → aOk true σ.2.2.2 σ.2.1 σ.2.2.1 → σ.2.1.length = tMl q →
    ∀ (p : Program) (e : Env) (R : Room) (s : State) (m : MethodId) (args : Array Value) (below : List Frame) (meth : Method) (c : Code) (n0 z0 : Nat) (Q : State → Prop), aCx E p s m args meth c q → aExT c q → d ≤ R.frames → w ≤ R.locals → n0 ≤ aN σ.2.2.2 → z0 ≤ aZ σ.2.2.2 → aN M1 - n0 ≤ R.cells ∧ aZ M1 - z0 ≤ R.slots → (q = 249 → aScr E s σ.2.2.2) →
    (∀ (pc' : Nat) (L' : List (Option aV)) (st' : List aV) (i' : Instr) (P : Prop), decode (tB q) pc' = .ok (i', 1) → aEnd (tRt q) i' st' = some (P, r) → P → L'.length = tMl q → aG E p l e R s m args below meth c n0 z0 Q u1 (pc', L', st', M1)) →
    aG E p l e R s m args below meth c n0 z0 Q u σ := by
  intro f
  induction f with
  | zero => intro d w q u σ r M1 u1 h; exact h.elim
  | succ f ih =>
    intro d w q u σ r M1 u1 h hno h3 hq ok hLl p e R s m args below meth c n0 z0 Q X hex hd hw hn0 hz0 hcs hsc kR
    obtain ⟨pc, L, st, M⟩ := σ
    rw [aRun] at h
    cases hf : (tC q).find? (fun e => e.1 == pc) with
    | none => rw [hf] at h; exact h.elim
    | some e9 =>
      obtain ⟨e0, i, len, x, v0, tg, sw⟩ := e9
      have hmem := List.mem_of_find?_eq_some hf
      have he0 : e0 = pc := by simpa using List.find?_some hf
      subst he0
      have hdec := List.all_eq_true.mp (aDec_q hq) _ hmem
      simp only [Bool.and_eq_true, decide_eq_true_eq] at hdec
      obtain ⟨hdg, hsd⟩ := hdec
      rw [hf] at h
      dsimp only at h
      cases x with
      | succ x => exact absurd h.2 (by simp)
      | zero =>
        dsimp only at h
        revert h
        generalize hkd : aKind (tOwn q) i = kd
        intro h
        match kd, hkd, h with
        | 0, hkd, h =>
          try dsimp only at h
          cases hs : aStep true (tOwn q) e0 i len v0 tg L st M with
          | none => rw [hs] at h; exact h.elim
          | some a =>
            obtain ⟨P, σ1⟩ := a
            rw [hs] at h
            have g := aStep_N hs
            have g2 := aRun_N true _ _ _ _ _ _ _ h.2
            have hzz := aStep_0 hs h.1 ok.1
            refine aSSt_13 p e R s m args below meth c n0 z0 _ q e0 i len v0 tg sw L st M P σ1 u X hq hno hkd hmem hdg hsd hs h.1 ok hLl hn0 hz0 ⟨by have := g2.1; dsimp only at this; omega, by have := g2.2; dsimp only at this; omega⟩ hsc (fun ok1 => ?_)
            exact ih d w q _ σ1 r M1 u1 h.2 hno h3 hq ok1 (g.2.2.trans hLl) p e R s m args below meth c n0 z0 Q X hex hd hw (Nat.le_trans hn0 g.1) (Nat.le_trans hz0 g.2.1) hcs (fun h9 => aScr_0 (hsc h9) hzz) kR
        | 1, hkd, h =>
          try dsimp only at h
          cases hc : aCallOf (tOwn q) i st with
          | none => rw [hc] at h; exact h.elim
          | some y =>
            obtain ⟨q1, as, rest⟩ := y
            rw [hc] at h
            dsimp only at h
            obtain ⟨⟨hd1, hw1, hrl, hnj⟩, ⟨r1, M2, u2⟩, h1, h2⟩ := h
            obtain ⟨k0, c1, c3, c4, c5⟩ := aCallOf_spec hc
            have c1' : tInv 13 k0 = some q1 := by rw [← hno]; exact c1
            obtain ⟨hq1, hkk⟩ := k13c c1'
            obtain ⟨hpm, -, -⟩ := kP_q hq1
            have hlk := tInv_lk2 (tOwn_lt q) c1 (Or.inr hno)
            have g := aRun_N true _ _ _ _ _ _ _ h1
            have okas : aOkS M as := fun v hv => ok.1 v (by rw [← c3]; exact List.mem_append_left _ (List.mem_reverse.mpr hv))
            have okrest : aOkS M rest := fun v hv => ok.1 v (by rw [← c3]; exact List.mem_append_right _ hv)
            have hent : (aEnt q1 as).length = tMl q1 := by unfold aEnt; rw [List.length_append, List.length_map, List.length_replicate]; omega
            have ok1 : aOk true M (aEnt q1 as) [] := ⟨(fun v hv => absurd hv List.not_mem_nil), aEnt_ok okas, ok.2.2⟩
            have hz1 : aZ0 M M2 := aRun_0 _ _ _ _ _ (0, aEnt q1 as, [], M) _ h1 ok1
            obtain ⟨n1, n3, n2⟩ := aRun_ok _ _ _ _ _ (0, aEnt q1 as, [], M) _ h1 ok1
            have hl3 : len = 3 := aKind1_len hkd hsd
            subst hl3
            cases r1 with
            | inr z =>
              dsimp only at h2
              cases hh : aHnd q e0 z.1 with
              | none => rw [hh] at h2; exact absurd h2 (by simp)
              | some hp =>
                rw [hh] at h2
                obtain ⟨x, id⟩ := z
                have hq3 : (tMI q).2.2.2.2 = 3 := h3.resolve_right (fun h9 => by subst h9; rw [aHnd_249] at hh; cases hh)
                rcases c5 with ⟨rfl, h⟩ | ⟨rfl, h, -⟩ | ⟨rfl, h, -⟩
                · exfalso
                  have h9 := List.all_eq_true.mp k13w_all q (List.mem_range.mpr hq)
                  rw [hq3] at h9
                  have h8 := List.all_eq_true.mp h9 _ hmem
                  cases h8
                · have hk2 : tOwn q1 ≠ 13 ∧ (tY q1).cls = tCn (tOwn q1) ∧ plainName (tY q1).cls = true := by
                    rcases hkk with h9 | h9
                    · omega
                    · exact h9.2
                  have hxf := aRun_xf true _ _ _ _ _ _ _ _ _ h1
                  have hmx : aMetX E l q1 (d - 1) (w - (tMl q1 + 19)) as M x id M2 u2 := by
                    refine aMetX_of hq1 (by omega) (aNoJ_cat hnj) (by omega) hk2.2.2 hk2.2.1 (fun p' e' s' m' args' below' meth' c' X' hex' => ?_)
                    exact aSoundX hst f (d - 1) (w - (tMl q1 + 19)) q1 true (0, aEnt q1 as, [], M) x id M2 u2 h1 ⟨by omega, fun z9 => by rw [z9, show (tMI 229).2.2.2.2 = 0 by decide +kernel] at h; omega⟩ hq1 hk2.1 ok1 hent p' e' (aRm (d - 1) (w - (tMl q1 + 19)) M M2) s' m' args' below' meth' c' (aN M) (aZ M) X' hex' (Nat.le_refl _) (Nat.le_refl _) (Nat.le_refl _) (Nat.le_refl _) (fun _ => rfl) ⟨Nat.le_refl _, Nat.le_refl _⟩
                  have g2 := aRun_N true _ _ _ _ _ _ _ h2
                  rw [hxf] at h2
                  refine ag_callH X hno hq hex hc (by omega) hq1 hmx hxf hdg ⟨by omega, by omega⟩ ⟨by have := g2.1; dsimp only at this; omega, by have := g2.2; dsimp only at this; omega⟩ hn0 hz0 g.1 g.2 hLl hrl ok.1 hh ?_
                  exact ih d w q _ (hp, L, [aR 3 id], M2) r M1 u1 h2 hno h3 hq ⟨aOkS_cons.mpr ⟨Or.inl (by decide), fun v hv => absurd hv List.not_mem_nil⟩, fun j w hj => n3 _ (ok.2.1 j w hj), n1⟩ hLl p e R s m args below meth c n0 z0 Q X hex hd hw (Nat.le_trans hn0 g.1) (Nat.le_trans hz0 g.2) hcs (fun h9 => aScr_0 (hsc h9) hz1) kR
                · exfalso
                  have hk2 : tOwn q1 ≠ 13 ∧ (tY q1).cls = tCn (tOwn q1) ∧ plainName (tY q1).cls = true := by
                    rcases hkk with h9 | h9
                    · omega
                    · exact h9.2
                  have h9 := List.all_eq_true.mp k13i_all q (List.mem_range.mpr hq)
                  rw [hq3] at h9
                  have h8 := List.all_eq_true.mp h9 _ hmem
                  cases h8
            | inl v =>
              dsimp only at h2
              have g2 := aRun_N true _ _ _ _ _ _ _ h2
              have hcont : aG E p l e R s m args below meth c n0 z0 Q (bif u2 then u else false) (e0 + 3, L, v.toList ++ rest, M2) := by
                refine ih d w q _ (e0 + 3, L, v.toList ++ rest, M2) r M1 u1 h2 hno h3 hq ⟨?_, fun j w hj => n3 _ (ok.2.1 j w hj), n1⟩ hLl p e R s m args below meth c n0 z0 Q X hex hd hw (Nat.le_trans hn0 g.1) (Nat.le_trans hz0 g.2) hcs (fun h9 => aScr_0 (hsc h9) hz1) kR
                intro w9 hw9
                rcases List.mem_append.mp hw9 with h | h
                · cases v with
                  | none => cases h
                  | some v =>
                    have : w9 = v := by simpa using h
                    subst this
                    exact n2 _ rfl
                · exact n3 _ (okrest w9 h)
              have hbd : aN M2 - n0 ≤ R.cells ∧ aZ M2 - z0 ≤ R.slots := ⟨by have := g2.1; dsimp only at this; omega, by have := g2.2; dsimp only at this; omega⟩
              rcases c5 with ⟨rfl, h⟩ | ⟨rfl, h, k9, as', rfl⟩ | ⟨rfl, h, k9, as', rfl⟩
              · have hk3 : (tMI q1).2.2.2.2 = 3 ∧ tOwn q1 = 13 := by
                  rcases hkk with h9 | h9
                  · exact h9
                  · omega
                have hmw : aMetW E l q1 (d - 1) (w - (tMl q1 + 19)) as M v M2 u2 := by
                  refine aMetW_of hq1 hk3.1 (aNoJ_cat hnj) (by omega) (fun p' e' s' m' args' below' meth' c' X' hex' => ?_)
                  exact ih (d - 1) (w - (tMl q1 + 19)) q1 true (0, aEnt q1 as, [], M) v M2 u2 h1 hk3.2 (Or.inl hk3.1) hq1 ok1 hent p' e' (aRm (d - 1) (w - (tMl q1 + 19)) M M2) s' m' args' below' meth' c' (aN M) (aZ M) _ X' hex' (Nat.le_refl _) (Nat.le_refl _) (Nat.le_refl _) (Nat.le_refl _) ⟨Nat.le_refl _, Nat.le_refl _⟩ (fun h9 => by
                    subst h9
                    exact absurd hk3.1 (by decide +kernel)) (fun pc' L' st' i' P' hd' he' hP' hL' => ag_ret X' hd' rfl he' hP')
                exact ag_callW X hmw hk3.1 hq1 hlk ⟨by omega, by omega⟩ hbd hn0 hz0 g.1 g.2 hLl c3.symm c4 hrl hdg hcont
              · have hk2 : tOwn q1 ≠ 13 ∧ (tY q1).cls = tCn (tOwn q1) ∧ plainName (tY q1).cls = true := by
                  rcases hkk with h9 | h9
                  · omega
                  · exact h9.2
                have hmet := aMet_run (E := E) (l := l) h1 (by omega) hq1 hk2.1 (by omega) hk2.2.2 hk2.2.1 hnj okas ok.2.2
                have ho := (kP_q hq1).2.2 h
                have hty : aTy M (10 + tOwn q1) k9 := by
                  have := ok.1 (aR (10 + tOwn q1) k9) (by rw [← c3]; simp)
                  rcases this with h9 | h9
                  · omega
                  · exact h9
                exact ag_callV X hmet h hq1 ho hty hlk ⟨by omega, by omega⟩ hbd hn0 hz0 g.1 g.2 hLl (by rw [← c3]; simp) (by simpa using c4) hrl hdg hcont
              · have hk2 : tOwn q1 ≠ 13 ∧ (tY q1).cls = tCn (tOwn q1) ∧ plainName (tY q1).cls = true := by
                  rcases hkk with h9 | h9
                  · omega
                  · exact h9.2
                have hmet := aMet_run (E := E) (l := l) h1 (by omega) hq1 hk2.1 (by omega) hk2.2.2 hk2.2.1 hnj okas ok.2.2
                exact ag_callI X hmet h hq1 (Or.inl hlk) ⟨by omega, by omega⟩ hbd hn0 hz0 g.1 g.2 hLl (by rw [← c3]; simp) (by simpa using c4) hrl hdg hcont
        | 2, hkd, h =>
          try dsimp only at h
          cases hb : aBr i st with
          | none => rw [hb] at h; exact h.elim
          | some y =>
            obtain ⟨cd, st1⟩ := y
            rw [hb] at h
            unfold aBr at hb
            split at hb
            · split at hb
              · cases hb
                simp only [aSide, Bool.and_eq_true, beq_iff_eq] at hsd
                obtain ⟨hl3, hg⟩ := hsd
                subst hl3
                have ok1 : aOk true M L st1 := ⟨(aOkS_cons.mp ok.1).2, ok.2⟩
                exact ag_if X.1 X.2.1 hdg hg (fun hc => ih d w q u (tg, L, st1, M) r M1 u1 (h.1 hc) hno h3 hq ok1 hLl p e R s m args below meth c n0 z0 Q X hex hd hw hn0 hz0 hcs hsc kR) (fun hc => ih d w q u (e0 + 3, L, st1, M) r M1 u1 (h.2 hc) hno h3 hq ok1 hLl p e R s m args below meth c n0 z0 Q X hex hd hw hn0 hz0 hcs hsc kR)
              · cases hb
            · split at hb
              · cases hb
                simp only [aSide, Bool.and_eq_true, beq_iff_eq] at hsd
                obtain ⟨hl3, hg⟩ := hsd
                subst hl3
                have ok1 : aOk true M L st1 := ⟨(aOkS_cons.mp (aOkS_cons.mp ok.1).2).2, ok.2⟩
                exact ag_icmp X.1 X.2.1 hdg hg (fun hc => ih d w q u (tg, L, st1, M) r M1 u1 (h.1 hc) hno h3 hq ok1 hLl p e R s m args below meth c n0 z0 Q X hex hd hw hn0 hz0 hcs hsc kR) (fun hc => ih d w q u (e0 + 3, L, st1, M) r M1 u1 (h.2 hc) hno h3 hq ok1 hLl p e R s m args below meth c n0 z0 Q X hex hd hw hn0 hz0 hcs hsc kR)
              · cases hb
            · cases hb
        | 3, hkd, h =>
          try dsimp only at h
          cases hb : aSwOf i st with
          | none => rw [hb] at h; exact h.elim
          | some y =>
            obtain ⟨x9, st1⟩ := y
            rw [hb] at h
            have ok1 : aOk true M L st1 := by
              refine ⟨fun v hv => ok.1 v ?_, ok.2⟩
              unfold aSwOf at hb
              repeat' split at hb
              all_goals first | (cases hb; exact List.mem_cons_of_mem _ hv) | cases hb
            exact aSSw_all p e R s m args below meth c n0 z0 _ q e0 i len v0 tg sw L st st1 M x9 u X hdg hsd hb (ih d w q u (aSw x9 tg sw, L, st1, M) r M1 u1 h hno h3 hq ok1 hLl p e R s m args below meth c n0 z0 Q X hex hd hw hn0 hz0 hcs hsc kR)
        | 4, hkd, h =>
          try dsimp only at h
          cases hb : aEnd (tRt q) i st with
          | none => rw [hb] at h; exact h.elim
          | some y =>
            obtain ⟨P, r9⟩ := y
            rw [hb] at h
            obtain ⟨hP, ho⟩ := h
            cases ho
            have hl1 : len = 1 := aKind4_len hkd hsd
            subst hl1
            exact kR e0 L st i P hdg hb hP hLl
        | kd + 5, hkd, h =>
          try dsimp only at h
          cases hs : aStep true (tOwn q) e0 i len v0 tg L st M with
          | none => rw [hs] at h; exact h.elim
          | some a =>
            obtain ⟨P, σ1⟩ := a
            rw [hs] at h
            have g := aStep_N hs
            have g2 := aRun_N true _ _ _ _ _ _ _ h.2
            have hk5 : aKind (tOwn q) i = 5 := by
              have : aKind (tOwn q) i ≤ 5 := by
                unfold aKind
                split <;> first | decide | (split <;> decide)
              omega
            obtain ⟨hP, h6, h200, hsl⟩ := h.1
            have hzz := aStep_0 hs hP ok.1
            refine aSPr_all p e R s m args below meth c n0 z0 _ q e0 i len v0 tg sw L st M P σ1 u X hq hk5 hdg hsd hs hP ok hLl hsl (by omega) (by omega) hn0 hz0 ⟨by have := g2.1; dsimp only at this; omega, by have := g2.2; dsimp only at this; omega⟩ (fun ok1 => ?_)
            exact ih d w q _ σ1 r M1 u1 h.2 hno h3 hq ok1 (g.2.2.trans hLl) p e R s m args below meth c n0 z0 Q X hex hd hw (Nat.le_trans hn0 g.1) (Nat.le_trans hz0 g.2.1) hcs (fun h9 => aScr_0 (hsc h9) hzz) kR
