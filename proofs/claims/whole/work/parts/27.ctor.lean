/-! The constructors: calls of them; THE MACHINE FOLLOWS there too. -/
theorem aSSt_any {fl : Bool} {E : aE} {l : Launch} : aSSt fl E l := by
  have hld : aSLd fl E l := aSLd_all
  intro p e R s m args below meth c n0 z0 Q q pc i len v0 tg sw L st M P σ1 u X hq hno hkd hmem hdg hsd hs hP ok hLl hn0 hz0 hcs k
  cases i
  case iconst => exact as_iconst X hdg hsd hs hP ok k
  case bipush => exact as_bipush X hdg hsd hs hP ok k
  case sipush => exact as_sipush X hdg hsd hs hP ok k
  case iload_n => exact as_iload_n X hdg hsd hs hP ok k
  case iload => exact as_iload X hdg hsd hs hP ok k
  case aload_n => exact as_aload_n X hdg hsd hs hP ok k
  case aload => exact as_aload X hdg hsd hs hP ok k
  case istore_n => exact as_istore_n X hdg hsd hs hP ok k
  case istore => exact as_istore X hdg hsd hs hP ok k
  case astore_n => exact as_astore_n X hdg hsd hs hP ok k
  case astore => exact as_astore X hdg hsd hs hP ok k
  case iinc => exact as_iinc X hdg hsd hs hP ok k
  case iadd => exact as_iadd X hdg hsd hs hP ok k
  case isub => exact as_isub X hdg hsd hs hP ok k
  case imul => exact as_imul X hdg hsd hs hP ok k
  case iand => exact as_iand X hdg hsd hs hP ok k
  case ior => exact as_ior X hdg hsd hs hP ok k
  case ixor => exact as_ixor X hdg hsd hs hP ok k
  case ishl => exact as_ishl X hdg hsd hs hP ok k
  case ishr => exact as_ishr X hdg hsd hs hP ok k
  case iushr => exact as_iushr X hdg hsd hs hP ok k
  case idiv => exact as_idiv X hdg hsd hs hP ok k
  case irem => exact as_irem X hdg hsd hs hP ok k
  case ineg => exact as_ineg X hdg hsd hs hP ok k
  case i2l => exact as_i2l X hdg hsd hs hP ok k
  case i2c => exact as_i2c X hdg hsd hs hP ok k
  case i2b => exact as_i2b X hdg hsd hs hP ok k
  case lcmp => exact as_lcmp X hdg hsd hs hP ok k
  case dup => exact as_dup X hdg hsd hs hP ok k
  case pop => exact as_pop X hdg hsd hs hP ok k
  case dup2 => exact as_dup2 X hdg hsd hs hP ok k
  case goto => exact as_goto X hdg hsd hs hP ok k
  case aconst_null => exact as_aconst_null X hdg hsd hs hP ok k
  case baload => exact as_baload X hdg hsd hs hP ok k
  case laload => exact as_laload X hdg hsd hs hP ok k
  case iastore => exact as_iastore X hdg hsd hs hP ok k
  case bastore => exact as_bastore X hdg hsd hs hP ok k
  case lastore => exact as_lastore X hdg hsd hs hP ok k
  case getfield => exact as_getfield X hdg hsd hs hP ok k
  case aaload => exact as_aaload X hdg hsd hs hP ok k
  case aastore => exact as_aastore X hdg hsd hs hP ok k
  case iaload => exact as_iaload X (fun h => absurd h hno) hdg hsd hs hP ok k
  case arraylength => exact as_arraylength X (fun h => absurd h hno) hdg hsd hs hP ok k
  case putfield i9 =>
    refine as_putfield X (fun _ ci j f hf h2 => ?_) hdg hsd hs hP ok k
    have h9 := List.all_eq_true.mp kH_all q (List.mem_range.mpr hq)
    rw [show (tOwn q == 13) = false by simp [hno], Bool.false_or] at h9
    have h8 := List.all_eq_true.mp h9 _ hmem
    dsimp only at h8
    rw [hf] at h8
    dsimp only at h8
    rw [show (f.1 == 2) = true by simp [h2]] at h8
    simp only [Bool.not_true, Bool.false_or, Bool.and_eq_true, decide_eq_true_eq, beq_iff_eq] at h8
    exact h8
  case ldc k9 =>
    have hl9 : len = 2 := by simpa [aSide] using hsd
    unfold aStep at hs
    dsimp only at hs
    cases hv : tLdc (tOwn q) k9 with
    | none => rw [hv] at hs; cases hs
    | some v =>
      rw [hv] at hs
      cases hs
      exact hld p e R s m args below meth c n0 z0 Q q pc k9 len _ v L st M u X (Or.inl ⟨rfl, hl9⟩) hdg hv (k ⟨aOkS_cons.mpr ⟨tLdc_ok hv, ok.1⟩, ok.2⟩)
  case ldc_w k9 =>
    have hl9 : len = 3 := by simpa [aSide] using hsd
    unfold aStep at hs
    dsimp only at hs
    cases hv : tLdc (tOwn q) k9 with
    | none => rw [hv] at hs; cases hs
    | some v =>
      rw [hv] at hs
      cases hs
      exact hld p e R s m args below meth c n0 z0 Q q pc k9 len _ v L st M u X (Or.inr ⟨rfl, hl9⟩) hdg hv (k ⟨aOkS_cons.mpr ⟨tLdc_ok hv, ok.1⟩, ok.2⟩)
  case new k9 =>
    have hl9 : len = 3 := by simpa [aSide] using hsd
    subst hl9
    unfold aStep at hs
    dsimp only at hs
    cases hv : tNew (tOwn q) k9 with
    | none => rw [hv] at hs; cases hs
    | some v =>
      rw [hv] at hs
      cases fl with
      | true => cases hs
      | false =>
        dsimp only [cond] at hs
        have hs0 := hs
        cases hs
        have ok1 := (aStep_ok (fl := false) (o := tOwn q) (pc := pc) (i := .new k9) (len := 3) (v0 := v0) (tg := tg) (L := L) (st := st) (M := M) (P := 0 < aN M) (tOwn_lt q) (by unfold aStep; dsimp only; rw [hv]; rfl) hP ok).1
        exact ag_new X hv hP hn0 hz0 hcs hdg (k ok1)
  case anewarray k9 =>
    have hl9 : len = 3 := by simpa [aSide] using hsd
    subst hl9
    have hs0 := hs
    unfold aStep at hs
    dsimp only at hs
    cases hv : tNew (tOwn q) k9 with
    | none => rw [hv] at hs; cases hs
    | some v =>
      rw [hv] at hs
      cases fl with
      | true => cases hs
      | false =>
        dsimp only [cond] at hs
        split at hs
        · rename_i n st9
          cases hs
          have ok1 := (aStep_ok (tOwn_lt q) hs0 hP ok).1
          obtain ⟨p1, p2, p3, rfl⟩ := hP
          exact ag_anew X hv p2 p1 p3 hn0 hz0 hcs hdg (k ok1)
        · cases hs
  case newarray ty =>
    have hl9 : len = 2 := by simpa [aSide] using hsd
    subst hl9
    have hs0 := hs
    have kx := X.2.2.2.2.2.1
    unfold aStep at hs
    dsimp only at hs
    cases fl with
    | true => cases hs
    | false =>
      dsimp only [cond] at hs
      split at hs
      · rename_i n st9
        split at hs
        · cases hs
          have ok1 := (aStep_ok (tOwn_lt q) hs0 hP ok).1
          obtain ⟨p1, p2, p3⟩ := hP
          exact ag_newarr (t := 4) X p2 p1 p3 hn0 hz0 hcs hdg wa_int (by decide) (by decide) kx.2.2.2.2.2.2.2.1.1 (fun H1 h1 => aCell_4 (by rw [aNew_K0]) (by rw [h1, aNew_K0, aNew_I0]; rfl)) (k ok1)
        · cases hs
          have ok1 := (aStep_ok (tOwn_lt q) hs0 hP ok).1
          obtain ⟨p1, p2, p3⟩ := hP
          exact ag_newarr (t := 5) X p2 p1 p3 hn0 hz0 hcs hdg wa_boolean (by decide) (by decide) kx.2.2.2.2.2.2.2.1.2.1 (fun H1 h1 => aCell_5 (by rw [aNew_K0]) (by rw [h1, aNew_K0, aNew_I0]; rfl)) (k ok1)
        · cases hs
          have ok1 := (aStep_ok (tOwn_lt q) hs0 hP ok).1
          obtain ⟨p1, p2, p3⟩ := hP
          exact ag_newarr (t := 6) X p2 p1 p3 hn0 hz0 hcs hdg wa_long (by decide) (by decide) kx.2.2.2.2.2.2.2.1.2.2.1 (fun H1 h1 => aCell_6 (by rw [aNew_K0]) (by rw [h1, aNew_K0, aNew_J0]; rfl)) (k ok1)
        · cases hs
          have ok1 := (aStep_ok (tOwn_lt q) hs0 hP ok).1
          obtain ⟨p1, p2, p3⟩ := hP
          exact ag_newarr (t := 7) X p2 p1 p3 hn0 hz0 hcs hdg wa_byte (by decide) (by decide) kx.2.2.2.2.2.2.2.1.2.2.2 (fun H1 h1 => aCell_7 (by rw [aNew_K0]) (by rw [h1, aNew_K0, aNew_I0]; rfl)) (k ok1)
        · cases hs
      · cases hs
  case dup_x1 =>
    have hl9 : len = 1 := by simpa [aSide] using hsd
    subst hl9
    unfold aStep at hs
    dsimp only at hs
    split at hs
    · cases hs
      have o9 := aOkS_cons.mp ok.1
      exact ag_dup_x1 X.1 X.2.1 hdg (k ⟨aOkS_cons.mpr ⟨trivial, aOkS_cons.mpr ⟨(aOkS_cons.mp o9.2).1, aOkS_cons.mpr ⟨trivial, (aOkS_cons.mp o9.2).2⟩⟩⟩, ok.2⟩)
    · cases hs
  case dup_x2 =>
    have hl9 : len = 1 := by simpa [aSide] using hsd
    subst hl9
    unfold aStep at hs
    dsimp only at hs
    split at hs
    · cases hs
      have o9 := aOkS_cons.mp ok.1
      have o8 := aOkS_cons.mp o9.2
      exact ag_dup_x2 X.1 X.2.1 hdg (k ⟨aOkS_cons.mpr ⟨trivial, aOkS_cons.mpr ⟨trivial, aOkS_cons.mpr ⟨(aOkS_cons.mp o8.2).1, aOkS_cons.mpr ⟨trivial, (aOkS_cons.mp o8.2).2⟩⟩⟩⟩, ok.2⟩)
    · cases hs
  case invokevirtual k9 => unfold aKind at hkd; dsimp only at hkd; split at hkd <;> cases hkd
  case invokestatic k9 => unfold aKind at hkd; dsimp only at hkd; split at hkd <;> cases hkd
  case invokespecial k9 => unfold aKind at hkd; dsimp only at hkd; split at hkd <;> cases hkd
  all_goals exact absurd (show (none : aA) = some (P, σ1) from hs) (by simp)
theorem tInv_lk {o k q1 : Nat} (ho : o < 16) (h : tInv o k = some q1) : q1 < 252 ∧ (Cond.methodLink (tCn o) k (tY q1) ∈ aTbl ∨ Cond.methodLinkNest (tCn o) k (tY q1) "PolicyJudge" ∈ lw_tbl) := by
  have hm := lk_mem (L := tInvL.getD o []) h
  have hk := kIo_all ho
  unfold kIo at hk
  simp only [Bool.and_eq_true, decide_eq_true_eq] at hk
  obtain ⟨x, hx⟩ := zip_all hk.1 hk.2 hm
  unfold kI at hx
  simp only [Bool.and_eq_true, decide_eq_true_eq] at hx
  refine ⟨hx.2.1, ?_⟩
  have h5 := hx.1
  split at h5
  · exact Or.inl (in_tbl_i (of_decide_eq_true h5) rfl)
  · exact Or.inr (List.mem_of_getElem? (of_decide_eq_true h5))
section ACI
variable {E : aE} {p : Program} {l : Launch} {e : Env} {R : Room} {s : State} {m : MethodId} {args : Array Value} {below : List Frame} {meth : Method} {c : Code} {Q : State → Prop} {n0 z0 : Nat} {pc q : Nat} {L : List (Option aV)} {st : List aV} {M M1 : aM} {u u1 : Bool} {q1 d1 w1 index : Nat} {as rest : List aV} {r : Option aV}
theorem ag_callI (X : aCx E p s m args meth c q) {k9 : Nat} (hM : aMet E l q1 d1 w1 (aR (10 + tOwn q1) k9 :: as) M r M1 u1) (hkd : (tMI q1).2.2.2.2 = 2) (hq1 : q1 < 252) (hlk : Cond.methodLink (tCn (tOwn q)) index (tY q1) ∈ aTbl ∨ Cond.methodLinkNest (tCn (tOwn q)) index (tY q1) "PolicyJudge" ∈ lw_tbl) (hR : d1 + 1 ≤ R.frames ∧ 8 + (tMl q1 + 11) + w1 ≤ R.locals) (hf : aN M1 - n0 ≤ R.cells ∧ aZ M1 - z0 ≤ R.slots) (hn0 : n0 ≤ aN M) (hz0 : z0 ≤ aZ M) (hN : aN M ≤ aN M1) (hZ : aZ M ≤ aZ M1) (hLl : L.length = tMl q) (hst : st = as.reverse ++ aR (10 + tOwn q1) k9 :: rest) (hal : as.length + 1 = tPar q1) (hrl : aWt rest ≤ 8) (hd : decode (tB q) pc = .ok (.invokespecial index, 3))
    (k : aG E p l e R s m args below meth c n0 z0 Q (bif u1 then u else false) (pc + 3, L, r.toList ++ rest, M1)) : aG E p l e R s m args below meth c n0 z0 Q u (pc, L, st, M) := by
  intro H locs ls hW hq hu hl
  have hkm := kM_q hq1
  unfold kM at hkm
  rw [hkd] at hkm
  simp only [Bool.and_eq_true, decide_eq_true_eq] at hkm
  obtain ⟨m1, m2, m3, m4, m5, m6⟩ := hkm
  have hcode := kK_q hq1 (by rw [hkd]; decide)
  have hG : GoodIn aTbl (aWs q1) := goodT (fun w hw => by
    unfold aWs at hw
    rcases List.mem_cons.mp hw with rfl | hw
    · exact in_tbl_i hcode rfl
    · exact hw)
  have hws : aWs q1 = Cond.code (tY q1) (tB q1) (tMl q1) none :: aTbl := by unfold aWs; rw [m6]
  have hpar : (parseMethodDescriptor (tY q1).desc).map (fun d => d.parameters.length) = some as.length := by
    cases hp : (parseMethodDescriptor (tY q1).desc).map (fun d => d.parameters.length) with
    | none => rw [hp] at m4; cases m4
    | some n =>
      rw [hp] at m4
      have : n + 1 = tPar q1 := Option.some.inj m4
      rw [show n = as.length by omega]
  have hini := X.2.2.2.2.1 _ (in_tbl_i m2 rfl)
  have hin := X.2.2.2.2.1 _ (in_tbl_i m1 rfl)
  have hdd : (tY q1).cls ≠ "java/lang/invoke/MethodHandle" ∧ (tY q1).cls ≠ "java/lang/invoke/VarHandle" ∧ (parseMethodDescriptor (tY q1).desc).map (fun d => d.parameters.length) = some as.length := ⟨by rw [m3]; exact tCn_mh _, by rw [m3]; exact tCn_vh _, hpar⟩
  have hcv : cv E (aR (10 + tOwn q1) k9) = .ref (E.1 + k9) := cv_10 _ _
  have hstk : st.map (cv E) = (as.map (cv E)).reverse ++ .ref (E.1 + k9) :: rest.map (cv E) := by rw [hst, List.map_append, List.map_reverse, List.map_cons, hcv]
  have hpre : PreS s H (aPc E M (aR (10 + tOwn q1) k9 :: as)) (.ref (E.1 + k9) :: as.map (cv E)) := ⟨aPc_blind E M _, fun U hU hWm => ⟨by rw [List.map_cons, hcv], by rw [hU]; exact hW, aKx_warm hWm X.2.2.2.2.2.1⟩⟩
  rcases hlk with hlk | hlk
  · have cw := cwI (R := R) (s := s) (args := args) (own := tCn (tOwn q)) (index := index) (y := tY q1) (bytes := tB q1) (maxL := tMl q1) (mc := aN M1 - aN M) (ms := aZ M1 - aZ M) (Ts := aTbl) (ws := aWs q1) (ws' := aTbl) (rm := aRm d1 w1 M M1) as.length X.2.2.2.2.1 hG hws rfl rfl hini (X.2.2.2.2.1 _ hlk) hin m5 hdd hR
    exact ag_back (g := F0 m pc ls (st.map (cv E))) rfl hn0 hz0 hN hZ hq hu hl (va_runI (b := E.1 + k9) (As := as.map (cv E)) (rest := rest.map (cv E)) ⟨X.1, X.2.1, X.2.2.1, X.2.2.2.1, X.2.2.2.2.1⟩ hM cw hpre rfl (by rw [List.length_map]) (hl.1.trans hLl) hstk (lv_room (cat_sum rest hrl)) hd ⟨by omega, by omega⟩) k
  · have hnw : va_Nw (.methodLinkNest (tCn (tOwn q)) index (tY q1) "PolicyJudge") s := by
      obtain ⟨-, -, -, -, -, -, -, -, s0, w1, -, -, w4, -, -⟩ := X.2.2.2.2.2.1
      exact va_Nw.warmM w1 (va_Nw.of rfl (w4 _ hlk))
    have cw := va_cnB (R := R) (s := s) (args := args) (own := tCn (tOwn q)) (host := "PolicyJudge") (index := index) (y := tY q1) (bytes := tB q1) (maxL := tMl q1) (mc := aN M1 - aN M) (ms := aZ M1 - aZ M) (ret := none) (Ts := aTbl) (ws := aWs q1) (ws' := aTbl) (rm := aRm d1 w1 M M1) as.length X.2.2.2.2.1 hG hws rfl rfl hnw hini hdd hR
    exact ag_back (g := F0 m pc ls (st.map (cv E))) rfl hn0 hz0 hN hZ hq hu hl (va_runIN (b := E.1 + k9) (As := as.map (cv E)) (rest := rest.map (cv E)) ⟨X.1, X.2.1, X.2.2.1, X.2.2.2.1, X.2.2.2.2.1⟩ hM ⟨cw, m5, hin⟩ hpre rfl (by rw [List.length_map]) (hl.1.trans hLl) hstk (lv_room (cat_sum rest hrl)) hd ⟨by omega, by omega⟩) k
end ACI
theorem aCalls_3 : aCalls 3 := by
  intro q e st q1 as rest hq h13 hkd hmem hc
  obtain ⟨k, c1, c2, c3, c4⟩ := aCallOf_spec hc
  obtain ⟨d1, d2, d3, d4⟩ := tInv_ok (tOwn_lt q) h13 c1
  obtain ⟨p1, p2, -⟩ := kP_q d1
  have hcls : (tY q1).cls = tCn (tOwn q1) := by
    have hkm := kM_q d1
    unfold kM at hkm
    rcases (show (tMI q1).2.2.2.2 = 0 ∨ (tMI q1).2.2.2.2 = 1 ∨ (tMI q1).2.2.2.2 = 2 by omega) with h | h | h <;> rw [h] at hkm <;> simp only [Bool.and_eq_true, decide_eq_true_eq] at hkm
    · exact hkm.2.2.1
    · exact hkm.2.2.1
    · exact hkm.2.2.1
  exact ⟨d1, d2, c2, by omega, p2, hcls, d3⟩
theorem aSCl_3 {fl : Bool} {E : aE} {l : Launch} : aSCl fl E l 3 := by
  intro p e R s m args below meth c n0 z0 Q q pc i len L st M M1 u u1 q1 d1 w1 as rest r X hq h13 hk1 hq1 hkd hdg hl3 hc hM hd hw hcs hn0 hz0 hN hZ hLl hrl ok k
  subst hl3
  obtain ⟨k0, c1, c2, c3, c4⟩ := aCallOf_spec hc
  obtain ⟨-, -, -, t4⟩ := tInv_ok (tOwn_lt q) h13 c1
  rcases c4 with ⟨rfl, h⟩ | ⟨rfl, h, k9, as', rfl⟩ | ⟨rfl, h, k9, as', rfl⟩
  · exact ag_callS X hM (by omega) hq1 (t4.resolve_left (by omega)) ⟨hd, by omega⟩ hcs hn0 hz0 hN hZ hLl c2.symm c3 hrl hdg k
  · have ho := (kP_q hq1).2.2 h
    have hty : aTy M (10 + tOwn q1) k9 := by
      have := ok.1 (aR (10 + tOwn q1) k9) (by rw [← c2]; simp)
      rcases this with h9 | h9
      · omega
      · exact h9
    exact ag_callV X hM h hq1 ho hty (t4.resolve_left (by omega)) ⟨hd, by omega⟩ hcs hn0 hz0 hN hZ hLl (by rw [← c2]; simp) (by simpa using c3) hrl hdg k
  · exact ag_callI X hM h hq1 (tInv_lk (tOwn_lt q) c1).2 ⟨hd, by omega⟩ hcs hn0 hz0 hN hZ hLl (by rw [← c2]; simp) (by simpa using c3) hrl hdg k
/-- THE MACHINE FOLLOWS a run that comes back, of any method of the class or of the reference, constructors too -/
theorem aSound_A {fl : Bool} {E : aE} {l : Launch} : ∀ (f d w q : Nat) (u : Bool) (σ : aS) (r : Option aV) (M1 : aM) (u1 : Bool), aRun fl f d w q u σ (Sum.inl r, M1, u1) → (tMI q).2.2.2.2 < 3 → q < 252 → tOwn q ≠ 13 → aOk fl σ.2.2.2 σ.2.1 σ.2.2.1 → σ.2.1.length = tMl q → (∀ v ∈ σ.2.2.1, (cv E v).category = 1 ∨ True) →
    ∀ (p : Program) (e : Env) (R : Room) (s : State) (m : MethodId) (args : Array Value) (below : List Frame) (meth : Method) (c : Code) (n0 z0 : Nat), aCx E p s m args meth c q → d ≤ R.frames → w ≤ R.locals → n0 ≤ aN σ.2.2.2 → z0 ≤ aZ σ.2.2.2 → aN M1 - n0 ≤ R.cells ∧ aZ M1 - z0 ≤ R.slots →
    aG E p l e R s m args below meth c n0 z0 (MQ below (aQc E u1 r M1) args s (aN M1 - n0) (aZ M1 - z0) (aFr E u1)) u σ :=
  aSound (B := 3) (by decide) aSSt_any aSPr_all aSSw_all aSCl_3 aCalls_3 aEnds_all aHnd_none
