/-! What a call takes from the stack; types at a run's end. -/
theorem aCallOf_spec {o q1 : Nat} {i : Instr} {st as rest : List aV} (h : aCallOf o i st = some (q1, as, rest)) : ∃ k, tInv o k = some q1 ∧ as.reverse ++ rest = st ∧ as.length = tPar q1 ∧ ((i = .invokestatic k ∧ ((tMI q1).2.2.2.2 = 0 ∨ (tMI q1).2.2.2.2 = 3)) ∨ (i = .invokevirtual k ∧ (tMI q1).2.2.2.2 = 1 ∧ ∃ k9 as', as = aR (10 + tOwn q1) k9 :: as') ∨ (i = .invokespecial k ∧ (tMI q1).2.2.2.2 = 2 ∧ ∃ k9 as', as = aR (10 + tOwn q1) k9 :: as')) := by
  cases i
  case invokestatic k =>
    unfold aCallOf at h
    dsimp only at h
    cases ht : tInv o k with
    | none => rw [ht] at h; cases h
    | some q =>
      rw [ht] at h
      dsimp only at h
      cases hb : (decide (tPar q ≤ st.length) && ((tMI q).2.2.2.2 == 0 || (tMI q).2.2.2.2 == 3)) with
      | false => rw [hb] at h; cases h
      | true =>
        rw [hb] at h
        cases h
        simp only [Bool.and_eq_true, decide_eq_true_eq, Bool.or_eq_true, beq_iff_eq] at hb
        exact ⟨k, ht, by rw [List.reverse_reverse]; exact List.take_append_drop _ _, by rw [List.length_reverse, List.length_take]; omega, Or.inl ⟨rfl, hb.2⟩⟩
  case invokevirtual k =>
    unfold aCallOf at h
    dsimp only at h
    cases ht : tInv o k with
    | none => rw [ht] at h; cases h
    | some q =>
      rw [ht] at h
      dsimp only at h
      cases hb : (decide (tPar q ≤ st.length) && (tMI q).2.2.2.2 == 1) with
      | false => rw [hb] at h; cases h
      | true =>
        rw [hb] at h
        dsimp only [cond] at h
        simp only [Bool.and_eq_true, decide_eq_true_eq, beq_iff_eq] at hb
        split at h
        · rename_i r as' hr
          cases hc : (r.1 == 10 + tOwn q) with
          | false => rw [hc] at h; cases h
          | true =>
            rw [hc] at h
            cases h
            have hr1 : r.1 = 10 + tOwn q1 := by simpa using hc
            have hr' : (st.take (tPar q1)).reverse = aR r.1 r.2 :: as' := hr
            refine ⟨k, ht, ?_, ?_, Or.inr (Or.inl ⟨rfl, hb.2, r.2, as', by rw [hr1]⟩)⟩
            · rw [← hr', List.reverse_reverse]; exact List.take_append_drop _ _
            · rw [← hr', List.length_reverse, List.length_take]; omega
        · cases h
  case invokespecial k =>
    unfold aCallOf at h
    dsimp only at h
    cases ht : tInv o k with
    | none => rw [ht] at h; cases h
    | some q =>
      rw [ht] at h
      dsimp only at h
      cases hb : (decide (tPar q ≤ st.length) && (tMI q).2.2.2.2 == 2) with
      | false => rw [hb] at h; cases h
      | true =>
        rw [hb] at h
        dsimp only [cond] at h
        simp only [Bool.and_eq_true, decide_eq_true_eq, beq_iff_eq] at hb
        split at h
        · rename_i r as' hr
          cases hc : (r.1 == 10 + tOwn q) with
          | false => rw [hc] at h; cases h
          | true =>
            rw [hc] at h
            cases h
            have hr1 : r.1 = 10 + tOwn q1 := by simpa using hc
            have hr' : (st.take (tPar q1)).reverse = aR r.1 r.2 :: as' := hr
            refine ⟨k, ht, ?_, ?_, Or.inr (Or.inr ⟨rfl, hb.2, r.2, as', by rw [hr1]⟩)⟩
            · rw [← hr', List.reverse_reverse]; exact List.take_append_drop _ _
            · rw [← hr', List.length_reverse, List.length_take]; omega
        · cases h
  all_goals exact absurd (show (none : Option (Nat × List aV × List aV)) = some (q1, as, rest) from h) (by simp)
theorem aEnt_ok {M : aM} {q1 : Nat} {as : List aV} (h : aOkS M as) : aOkL M (aEnt q1 as) := by
  intro j w hj
  unfold aEnt at hj
  by_cases hi : j < as.length
  · rw [List.getElem?_append_left (by rw [List.length_map]; exact hi), List.getElem?_map] at hj
    cases hv : as[j]? with
    | none => rw [hv] at hj; cases hj
    | some w9 =>
      rw [hv] at hj
      have : w9 = w := by simpa using hj
      subst this
      exact h _ (List.mem_of_getElem? hv)
  · rw [List.getElem?_append_right (by rw [List.length_map]; omega), List.getElem?_replicate] at hj
    split at hj <;> cases hj
theorem aRun_ok {fl : Bool} : ∀ (f d w q : Nat) (u : Bool) (σ : aS) (o : aO), aRun fl f d w q u σ o → aOk fl σ.2.2.2 σ.2.1 σ.2.2.1 → aWf fl o.2.1 ∧ aKp σ.2.2.2 o.2.1 ∧ ∀ v, o.1 = Sum.inl (some v) → aOkV o.2.1 v := by
  intro f
  induction f with
  | zero => intro d w q u σ o h; exact h.elim
  | succ f ih =>
    intro d w q u σ o h ok
    obtain ⟨pc, L, st, M⟩ := σ
    rw [aRun] at h
    cases hf : (tC q).find? (fun e => e.1 == pc) with
    | none => rw [hf] at h; exact h.elim
    | some e =>
      obtain ⟨e0, i, len, x, v0, tg, sw⟩ := e
      rw [hf] at h
      dsimp only at h
      cases x with
      | succ x =>
        rw [h.2]
        obtain ⟨a, b⟩ := aWf_exc (x := x) (n := 6) ok.2.2
        exact ⟨a, b, fun v hv => by cases hv⟩
      | zero =>
        dsimp only at h
        revert h
        generalize aKind (tOwn q) i = kd
        intro h
        match kd, h with
        | 0, h =>
          try dsimp only at h
          cases hs : aStep fl (tOwn q) pc i len v0 tg L st M with
          | none => rw [hs] at h; exact h.elim
          | some a =>
            rw [hs] at h
            obtain ⟨ok1, kp⟩ := aStep_ok (tOwn_lt q) hs h.1 ok
            obtain ⟨a1, a2, a3⟩ := ih _ _ _ _ _ _ h.2 ok1
            exact ⟨a1, fun v hv => a2 v (kp v hv), a3⟩
        | 1, h =>
          try dsimp only at h
          cases hc : aCallOf (tOwn q) i st with
          | none => rw [hc] at h; exact h.elim
          | some y =>
            obtain ⟨q1, as, rest⟩ := y
            rw [hc] at h
            dsimp only at h
            obtain ⟨hd, ⟨r1, M1, u1⟩, h1, h2⟩ := h
            obtain ⟨k, -, c3, -, -⟩ := aCallOf_spec hc
            have okas : aOkS M as := fun v hv => ok.1 v (by rw [← c3]; exact List.mem_append_left _ (List.mem_reverse.mpr hv))
            have okrest : aOkS M rest := fun v hv => ok.1 v (by rw [← c3]; exact List.mem_append_right _ hv)
            obtain ⟨b1, b2, b3⟩ := ih _ _ _ _ (0, aEnt q1 as, [], M) _ h1 ⟨(fun v hv => absurd hv List.not_mem_nil), aEnt_ok okas, ok.2.2⟩
            have okL1 : aOkL M1 L := fun j w hj => b2 _ (ok.2.1 j w hj)
            cases r1 with
            | inl v =>
              dsimp only at h2
              have okS1 : aOkS M1 (v.toList ++ rest) := by
                intro w9 hw9
                rcases List.mem_append.mp hw9 with h | h
                · cases v with
                  | none => cases h
                  | some v =>
                    have : w9 = v := by simpa using h
                    subst this
                    exact b3 _ rfl
                · exact b2 _ (okrest w9 h)
              obtain ⟨a1, a2, a3⟩ := ih _ _ _ _ (pc + 3, L, v.toList ++ rest, M1) _ h2 ⟨okS1, okL1, b1⟩
              exact ⟨a1, fun v hv => a2 v (b2 v hv), a3⟩
            | inr z =>
              dsimp only at h2
              cases hh : aHnd q pc z.1 with
              | none =>
                rw [hh] at h2
                rw [h2]
                exact ⟨b1, b2, fun v hv => by cases hv⟩
              | some p =>
                rw [hh] at h2
                obtain ⟨a1, a2, a3⟩ := ih _ _ _ _ (p, L, [aR 3 z.2], M1) _ h2 ⟨aOkS_cons.mpr ⟨Or.inl (by decide), fun v hv => absurd hv List.not_mem_nil⟩, okL1, b1⟩
                exact ⟨a1, fun v hv => a2 v (b2 v hv), a3⟩
        | 2, h =>
          try dsimp only at h
          cases hb : aBr i st with
          | none => rw [hb] at h; exact h.elim
          | some y =>
            rw [hb] at h
            have ok1 : aOk fl M L y.2 := by
              refine ⟨fun v hv => ok.1 v ?_, ok.2⟩
              unfold aBr at hb
              repeat' split at hb
              all_goals first | (cases hb; exact List.mem_cons_of_mem _ hv) | (cases hb; exact List.mem_cons_of_mem _ (List.mem_cons_of_mem _ hv)) | cases hb
            by_cases hc : y.1
            · exact ih _ _ _ _ (tg, L, y.2, M) _ (h.1 hc) ok1
            · exact ih _ _ _ _ (pc + len, L, y.2, M) _ (h.2 hc) ok1
        | 3, h =>
          try dsimp only at h
          cases hb : aSwOf i st with
          | none => rw [hb] at h; exact h.elim
          | some y =>
            rw [hb] at h
            have ok1 : aOk fl M L y.2 := by
              refine ⟨fun v hv => ok.1 v ?_, ok.2⟩
              unfold aSwOf at hb
              repeat' split at hb
              all_goals first | (cases hb; exact List.mem_cons_of_mem _ hv) | cases hb
            exact ih _ _ _ _ (aSw y.1 tg sw, L, y.2, M) _ h ok1
        | 4, h =>
          try dsimp only at h
          cases hb : aEnd (tRt q) i st with
          | none => rw [hb] at h; exact h.elim
          | some y =>
            rw [hb] at h
            rw [h.2]
            refine ⟨ok.2.2, aKp_rf, fun v hv => ?_⟩
            have hv : y.2 = some v := Sum.inl.inj hv
            unfold aEnd at hb
            repeat' split at hb
            all_goals first
              | (cases hb; cases hv; exact ok.1 _ List.mem_cons_self)
              | (cases hb; cases hv)
              | cases hb
        | kd + 5, h =>
          try dsimp only at h
          cases hs : aStep fl (tOwn q) pc i len v0 tg L st M with
          | none => rw [hs] at h; exact h.elim
          | some a =>
            rw [hs] at h
            obtain ⟨ok1, kp⟩ := aStep_ok (tOwn_lt q) hs h.1.1 ok
            obtain ⟨a1, a2, a3⟩ := ih _ _ _ _ _ _ h.2 ok1
            exact ⟨a1, fun v hv => a2 v (kp v hv), a3⟩
theorem aEnds_all {fl : Bool} : aEnds fl := by
  intro f d w q u L st M pc r M1 u1 h ok
  obtain ⟨a1, a2, a3⟩ := aRun_ok f d w q u (pc, L, st, M) _ h ok
  exact ⟨a1, fun v hv => a3 v (by rw [hv]), a2⟩
theorem aEnds_true : aEnds true := aEnds_all
