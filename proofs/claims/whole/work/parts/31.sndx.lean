/-! THE MACHINE FOLLOWS a run that throws (methods of the class, behind the constructors). -/
set_option maxHeartbeats 2000000 in
theorem aStep_M {fl : Bool} {o pc len tg : Nat} {i : Instr} {v0 : Int32} {L : List (Option aV)} {st : List aV} {M : aM} {P : Prop} {σ1 : aS} (hs : aStep fl o pc i len v0 tg L st M = some (P, σ1)) (hw : aWr i = false) : σ1.2.2.2 = M := by
  cases i
  all_goals first
    | (cases hw; done)
    | exact absurd (show (none : aA) = some (P, σ1) from hs) (by simp)
    | skip
  all_goals
    unfold aStep at hs
    (try simp only [Bool.cond_eq_ite] at hs)
    repeat' split at hs
  all_goals first
    | (cases hs; done)
    | (cases hs; rfl)
theorem aRun_u (fl : Bool) : ∀ (f d w q : Nat) (u : Bool) (σ : aS) (o : aO), aRun fl f d w q u σ o → o.2.2 = true → u = true ∧ o.2.1 = σ.2.2.2 := by
  intro f
  induction f with
  | zero => intro d w q u σ o h; exact h.elim
  | succ f ih =>
    intro d w q u σ o h ho
    obtain ⟨pc, L, st, M⟩ := σ
    rw [aRun] at h
    cases hf : (tC q).find? (fun e => e.1 == pc) with
    | none => rw [hf] at h; exact h.elim
    | some e =>
      obtain ⟨e0, i, len, x, v0, tg, sw⟩ := e
      rw [hf] at h
      dsimp only at h
      cases x with
      | succ x => rw [h.2] at ho; cases ho
      | zero =>
        dsimp only at h
        revert h
        generalize aKind (tOwn q) i = kd
        intro h
        match kd, h with
        | 0, h =>
          try dsimp only at h
          cases hs : aStep fl (tOwn q) pc i len v0 tg L st M with
          | none => rw [hs] at h; exact h.elim
          | some a =>
            rw [hs] at h
            obtain ⟨h1, h2⟩ := ih _ _ _ _ _ _ h.2 ho
            cases hw : aWr i with
            | true => rw [hw] at h1; cases h1
            | false => rw [hw] at h1; exact ⟨h1, h2.trans (aStep_M hs hw)⟩
        | 1, h =>
          try dsimp only at h
          cases hc : aCallOf (tOwn q) i st with
          | none => rw [hc] at h; exact h.elim
          | some y =>
            obtain ⟨q1, as, rest⟩ := y
            rw [hc] at h
            dsimp only at h
            obtain ⟨hd, ⟨r1, M1, u1⟩, h1, h2⟩ := h
            have key : ∀ σ2 : aS, aRun fl f d w q (bif u1 then u else false) σ2 o → σ2.2.2.2 = M1 → u = true ∧ o.2.1 = M := by
              intro σ2 h9 e9
              obtain ⟨g1, g2⟩ := ih _ _ _ _ _ _ h9 ho
              cases u1 with
              | false => cases g1
              | true =>
                obtain ⟨-, g4⟩ := ih _ _ _ _ _ _ h1 rfl
                exact ⟨g1, by rw [g2, e9]; exact g4⟩
            cases r1 with
            | inl v => exact key _ h2 rfl
            | inr z =>
              dsimp only at h2
              cases hh : aHnd q pc z.1 with
              | none =>
                rw [hh] at h2
                have h2 : o = (Sum.inr z, M1, bif u1 then u else false) := h2
                rw [h2] at ho
                cases u1 with
                | false => cases ho
                | true =>
                  obtain ⟨-, g4⟩ := ih _ _ _ _ _ _ h1 rfl
                  rw [h2]
                  exact ⟨ho, g4⟩
              | some p =>
                rw [hh] at h2
                exact key _ h2 rfl
        | 2, h =>
          try dsimp only at h
          cases hb : aBr i st with
          | none => rw [hb] at h; exact h.elim
          | some y =>
            rw [hb] at h
            by_cases hc : y.1
            · exact ih _ _ _ _ (tg, L, y.2, M) _ (h.1 hc) ho
            · exact ih _ _ _ _ (pc + len, L, y.2, M) _ (h.2 hc) ho
        | 3, h =>
          try dsimp only at h
          cases hb : aSwOf i st with
          | none => rw [hb] at h; exact h.elim
          | some y =>
            rw [hb] at h
            exact ih _ _ _ _ (aSw y.1 tg sw, L, y.2, M) _ h ho
        | 4, h =>
          try dsimp only at h
          cases hb : aEnd (tRt q) i st with
          | none => rw [hb] at h; exact h.elim
          | some y =>
            rw [hb] at h
            rw [h.2] at ho ⊢
            exact ⟨ho, rfl⟩
        | kd + 5, h =>
          try dsimp only at h
          cases hs : aStep fl (tOwn q) pc i len v0 tg L st M with
          | none => rw [hs] at h; exact h.elim
          | some a =>
            rw [hs] at h
            obtain ⟨h1, h2⟩ := ih _ _ _ _ _ _ h.2 ho
            cases hw : aWr i with
            | true => rw [hw] at h1; cases h1
            | false => rw [hw] at h1; exact ⟨h1, h2.trans (aStep_M hs hw)⟩
theorem k13_all : ((tInvL.getD 13 []).zip (tInvI.getD 13 [])).all (fun z => z.2.2 == 0) = true := by decide +kernel
theorem tInv_lk2 {o k q1 : Nat} (ho : o < 16) (h : tInv o k = some q1) (hk2 : (tMI q1).2.2.2.2 ≠ 2 ∨ o = 13) : Cond.methodLink (tCn o) k (tY q1) ∈ aTbl := by
  by_cases h13 : o = 13
  · subst h13
    have hm := lk_mem (L := tInvL.getD 13 []) h
    have hk := kIo_all ho
    unfold kIo at hk
    simp only [Bool.and_eq_true, decide_eq_true_eq] at hk
    have hall : ((tInvL.getD 13 []).zip (tInvI.getD 13 [])).all (fun z => kI 13 z.1 z.2 && z.2.2 == 0) = true := by
      refine List.all_eq_true.mpr fun z hz => ?_
      rw [List.all_eq_true.mp hk.2 z hz, List.all_eq_true.mp k13_all z hz]
      rfl
    obtain ⟨x, hx⟩ := zip_all hk.1 hall hm
    simp only [Bool.and_eq_true, beq_iff_eq] at hx
    obtain ⟨h1, h2⟩ := hx
    unfold kI at h1
    simp only [Bool.and_eq_true, decide_eq_true_eq] at h1
    have h5 := h1.1
    rw [h2] at h5
    exact in_tbl_i (of_decide_eq_true h5) rfl
  · exact (tInv_ok ho h13 h).2.2.2.resolve_left (fun n => hk2.elim (fun z => z n) h13)
section SX
variable {E : aE} {p : Program} {l : Launch} {e : Env} {R : Room} {s : State} {m : MethodId} {args : Array Value} {below : List Frame} {meth : Method} {c : Code} {n0 z0 : Nat} {pc q : Nat} {L : List (Option aV)} {st : List aV} {M M1 : aM} {u u1 : Bool} {q1 d1 w1 x id : Nat} {as rest : List aV} {i : Instr} {H : Heap} {locs : List Loc} {ls : Array Slot}
/-- a call of a method that throws -/
theorem ag_Xrun (X : aCx E p s m args meth c q) (hc : aCallOf (tOwn q) i st = some (q1, as, rest)) (hk1 : (tMI q1).2.2.2.2 < 2) (hq1 : q1 < 252) (hM : aMetX E l q1 d1 w1 as M x id M1 u1) (hd : decode (tB q) pc = .ok (i, 3)) (hR : d1 + 1 ≤ R.frames ∧ 8 + (tMl q1 + 11) + w1 ≤ R.locals) (hf : aN M1 - n0 ≤ R.cells ∧ aZ M1 - z0 ≤ R.slots) (hn0 : n0 ≤ aN M) (hz0 : z0 ≤ aZ M) (hN : aN M ≤ aN M1) (hZ : aZ M ≤ aZ M1) (hLl : L.length = tMl q) (hrl : aWt rest ≤ 8) (ok : aOkS M st) (hW : aWd E M H) (hl : aLv E ls L) :
    X_Run p l e R s m args below meth c H locs (aN M - n0) (aZ M - z0) (aN M1 - aN M) (aZ M1 - aZ M) (F0 m pc ls (st.map (cv E))) (rest.map (cv E)) (aQx E x id M1 (as.map (cv E)).toArray) (aFr E u1) := by
  obtain ⟨k0, c1, c2, c3, c4⟩ := aCallOf_spec hc
  have hlk := tInv_lk2 (tOwn_lt q) c1 (Or.inl (by omega))
  have hkm := kM_q hq1
  unfold kM at hkm
  have hcode := kK_q hq1 (by omega)
  rcases c4 with ⟨rfl, h⟩ | ⟨rfl, h, k9, as', rfl⟩ | ⟨rfl, h, k9, as', rfl⟩
  · rw [show (tMI q1).2.2.2.2 = 0 by omega] at hkm
    simp only [Bool.and_eq_true, decide_eq_true_eq] at hkm
    obtain ⟨m1, m2, m3, m4⟩ := hkm
    have hG : GoodIn aTbl (va_wsS (tCn (tOwn q)) k0 (tY q1) (aWs q1)) := goodT (fun w hw => by
      unfold va_wsS aWs at hw
      simp only [List.cons_append, List.nil_append, List.mem_cons] at hw
      rcases hw with rfl | rfl | rfl | rfl | hw
      · exact hlk
      · exact in_tbl_i m1 rfl
      · exact in_tbl_i m2 rfl
      · exact in_tbl_i hcode rfl
      · exact hw)
    have cw := va_cwS (R := R) (s := s) (args := args) (own := tCn (tOwn q)) (index := k0) (y := tY q1) (bytes := tB q1) (maxL := tMl q1) (mc := aN M1 - aN M) (ms := aZ M1 - aZ M) (ret := tRt q1) (Ts := aTbl) (ws := aWs q1) (ws' := aTbl) (rm := aRm d1 w1 M M1) (tPar q1) X.2.2.2.2.1 hG rfl rfl rfl ⟨by rw [m3]; exact tCn_mh _, by rw [m3]; exact tCn_vh _, m4⟩ hR
    refine x_runS (As := as.map (cv E)) (rest := rest.map (cv E)) ⟨X.1, X.2.1, X.2.2.1, X.2.2.2.1, X.2.2.2.2.1⟩ hM cw ⟨aPc_blind E M as, fun U hU hWm => ⟨rfl, by rw [hU]; exact hW, aKx_warm hWm X.2.2.2.2.2.1⟩⟩ rfl (by rw [List.length_map]; exact c3) (hl.1.trans hLl) ?_ (lv_room (cat_sum rest hrl)) hd ⟨by omega, by omega⟩
    show st.map (cv E) = _
    rw [← c2, List.map_append, List.map_reverse]
  · rw [h] at hkm
    simp only [Bool.and_eq_true, decide_eq_true_eq] at hkm
    obtain ⟨m1, m2, m3, m4, m5⟩ := hkm
    have ho := (kP_q hq1).2.2 h
    have hty : aTy M (10 + tOwn q1) k9 := by
      have := ok (aR (10 + tOwn q1) k9) (by rw [← c2]; simp)
      rcases this with h9 | h9
      · omega
      · exact h9
    have hG : GoodIn aTbl (wsV (tCn (tOwn q)) k0 (tY q1).cls (tY q1) (aWs q1)) := goodT (fun w hw => by
      unfold wsV aWs at hw
      simp only [List.cons_append, List.nil_append, List.mem_cons] at hw
      rcases hw with rfl | rfl | rfl | rfl | rfl | hw
      · exact hlk
      · exact in_tbl_i m1 rfl
      · exact in_tbl_i m5 rfl
      · exact in_tbl_i m2 rfl
      · exact in_tbl_i hcode rfl
      · exact hw)
    have hal : as'.length + 1 = tPar q1 := by simpa using c3
    have hpar : (parseMethodDescriptor (tY q1).desc).map (fun d => d.parameters.length) = some as'.length := by
      cases hp : (parseMethodDescriptor (tY q1).desc).map (fun d => d.parameters.length) with
      | none => rw [hp] at m4; cases m4
      | some n =>
        rw [hp] at m4
        have : n + 1 = tPar q1 := Option.some.inj m4
        rw [show n = as'.length by omega]
    have cw := cwV (R := R) (s := s) (args := args) (own := tCn (tOwn q)) (C := (tY q1).cls) (index := k0) (y := tY q1) (bytes := tB q1) (maxL := tMl q1) (mc := aN M1 - aN M) (ms := aZ M1 - aZ M) (ret := tRt q1) (Ts := aTbl) (ws := aWs q1) (ws' := aTbl) (rm := aRm d1 w1 M M1) as'.length X.2.2.2.2.1 hG rfl rfl rfl ⟨rfl, by rw [m3]; exact tCn_mh _, by rw [m3]; exact tCn_vh _, hpar⟩ hR
    have hrc := aRecv (E := E) (s := s) X.2.2.2.2.2.1 hW ho hty
    rw [← m3] at hrc
    have hcv : cv E (aR (10 + tOwn q1) k9) = .ref (E.1 + k9) := cv_10 _ _
    rw [List.map_cons, hcv]
    refine x_runV (b := E.1 + k9) (As := as'.map (cv E)) (rest := rest.map (cv E)) ⟨X.1, X.2.1, X.2.2.1, X.2.2.2.1, X.2.2.2.2.1⟩ hM cw ⟨aPc_blind E M _, hrc, fun U hU hWm => ⟨by rw [List.map_cons, hcv], by rw [hU]; exact hW, aKx_warm hWm X.2.2.2.2.2.1⟩⟩ rfl (by rw [List.length_map]) (hl.1.trans hLl) ?_ (lv_room (cat_sum rest hrl)) hd ⟨by omega, by omega⟩
    show st.map (cv E) = _
    rw [← c2, List.reverse_cons, List.append_assoc, List.map_append, List.map_append, List.map_reverse, List.map_cons, hcv]
    rfl
  · omega
theorem aMetX_of (hq1 : q1 < 252) (hkd : (tMI q1).2.2.2.2 < 3) (hc : ∀ v ∈ as, (cv E v).category = 1) (hn : as.length ≤ tMl q1) (hpl : plainName (tY q1).cls = true) (hcl : (tY q1).cls = tCn (tOwn q1))
    (body : ∀ (p : Program) (e : Env) (s : State) (m : MethodId) (args : Array Value) (below : List Frame) (meth : Method) (c : Code), aCx E p s m args meth c q1 → c.exceptionTable.toList = [] → aG E p l e (aRm d1 w1 M M1) s m args below meth c (aN M) (aZ M) (XQ below (aQx E x id M1) args s (aN M1 - aN M) (aZ M1 - aZ M) (aFr E u1)) true (0, aEnt q1 as, [], M)) : aMetX E l q1 d1 w1 as M x id M1 u1 := by
  refine MetX.ofW (cc := tB q1) (maxL := tMl q1) (ret := tRt q1) hpl rfl ?_
  intro p e s m args below meth c s₁ B hml hex hv
  obtain ⟨rfl, hW, hK⟩ := hv
  have hts := atoms_spec (ws := aWs q1) B.pre
  have hown : s.vm.findClass (tY q1).cls = some m.cls := findClass_of_methodNamed B.named
  have X : aCx E p s m (as.map (cv E)).toArray meth c q1 := ⟨B.exec, B.bytes, hml, by rw [← hcl]; exact hown, fun w hw => hts w (List.mem_cons_of_mem _ hw), hK, (name_of_methodNamed B.named B.method).1, B.returns, B.notSynchronized⟩
  rw [lg_entry_eq]
  have h9 := body p e s m _ below meth c X hex s.heap [] _ hW (fun q h => by cases h) (fun _ => ⟨rfl, rfl⟩) (aLv_entry hc hn)
  rw [show aN (0, aEnt q1 as, ([] : List aV), M).2.2.2 - aN M = 0 from Nat.sub_self _, show aZ (0, aEnt q1 as, ([] : List aV), M).2.2.2 - aZ M = 0 from Nat.sub_self _] at h9
  exact h9
end SX
