/-! All steps that go on, behind the constructors (fl = true); constants of the pool as a hypothesis. -/
def aSLd (fl : Bool) (E : aE) (l : Launch) : Prop := ∀ (p : Program) (e : Env) (R : Room) (s : State) (m : MethodId) (args : Array Value) (below : List Frame) (meth : Method) (c : Code) (n0 z0 : Nat) (Q : State → Prop) (q pc k len : Nat) (i : Instr) (v : aV) (L : List (Option aV)) (st : List aV) (M : aM) (u : Bool),
  aCx E p s m args meth c q → (i = .ldc k ∧ len = 2 ∨ i = .ldc_w k ∧ len = 3) → decode (tB q) pc = .ok (i, len) → tLdc (tOwn q) k = some v → aG E p l e R s m args below meth c n0 z0 Q u (pc + len, L, v :: st, M) → aG E p l e R s m args below meth c n0 z0 Q u (pc, L, st, M)
theorem tLdc_ok {o k : Nat} {v : aV} {M : aM} (h : tLdc o k = some v) : aOkV M v := by
  have hm := lk_mem (L := tLdcL.getD o []) h
  have h1 : ∀ l ∈ tLdcL, ∀ e ∈ l, (match e.2 with
    | Sum.inl _ => true
    | Sum.inr (Sum.inl r) => decide (r.1 < 4)
    | Sum.inr (Sum.inr _) => true) = true := by decide +kernel
  rw [List.getD_eq_getElem?_getD] at hm
  cases hl : tLdcL[o]? with
  | none => rw [hl] at hm; cases hm
  | some l =>
    rw [hl] at hm
    have h2 := h1 l (List.mem_of_getElem? hl) (k, v) hm
    rcases v with x | r | x
    · trivial
    · exact Or.inl (by simpa using h2)
    · trivial
theorem aSSt_true {E : aE} {l : Launch} (hld : aSLd true E l) : aSSt true E l := by
  intro p e R s m args below meth c n0 z0 Q q pc i len v0 tg sw L st M P σ1 u X hq hno hkd hmem hdg hsd hs hP ok hLl hn0 hz0 hcs k
  cases i
  case iconst => exact as_iconst X hdg hsd hs hP ok k
  case bipush => exact as_bipush X hdg hsd hs hP ok k
  case sipush => exact as_sipush X hdg hsd hs hP ok k
  case iload_n => exact as_iload_n X hdg hsd hs hP ok k
  case iload => exact as_iload X hdg hsd hs hP ok k
  case aload_n => exact as_aload_n X hdg hsd hs hP ok k
  case aload => exact as_aload X hdg hsd hs hP ok k
  case istore_n => exact as_istore_n X hdg hsd hs hP ok k
  case istore => exact as_istore X hdg hsd hs hP ok k
  case astore_n => exact as_astore_n X hdg hsd hs hP ok k
  case astore => exact as_astore X hdg hsd hs hP ok k
  case iinc => exact as_iinc X hdg hsd hs hP ok k
  case iadd => exact as_iadd X hdg hsd hs hP ok k
  case isub => exact as_isub X hdg hsd hs hP ok k
  case imul => exact as_imul X hdg hsd hs hP ok k
  case iand => exact as_iand X hdg hsd hs hP ok k
  case ior => exact as_ior X hdg hsd hs hP ok k
  case ixor => exact as_ixor X hdg hsd hs hP ok k
  case ishl => exact as_ishl X hdg hsd hs hP ok k
  case ishr => exact as_ishr X hdg hsd hs hP ok k
  case iushr => exact as_iushr X hdg hsd hs hP ok k
  case idiv => exact as_idiv X hdg hsd hs hP ok k
  case irem => exact as_irem X hdg hsd hs hP ok k
  case ineg => exact as_ineg X hdg hsd hs hP ok k
  case i2l => exact as_i2l X hdg hsd hs hP ok k
  case i2c => exact as_i2c X hdg hsd hs hP ok k
  case i2b => exact as_i2b X hdg hsd hs hP ok k
  case lcmp => exact as_lcmp X hdg hsd hs hP ok k
  case dup => exact as_dup X hdg hsd hs hP ok k
  case pop => exact as_pop X hdg hsd hs hP ok k
  case dup2 => exact as_dup2 X hdg hsd hs hP ok k
  case goto => exact as_goto X hdg hsd hs hP ok k
  case aconst_null => exact as_aconst_null X hdg hsd hs hP ok k
  case baload => exact as_baload X hdg hsd hs hP ok k
  case laload => exact as_laload X hdg hsd hs hP ok k
  case iastore => exact as_iastore X hdg hsd hs hP ok k
  case bastore => exact as_bastore X hdg hsd hs hP ok k
  case lastore => exact as_lastore X hdg hsd hs hP ok k
  case getfield => exact as_getfield X hdg hsd hs hP ok k
  case aaload => exact as_aaload X hdg hsd hs hP ok k
  case aastore => exact as_aastore X hdg hsd hs hP ok k
  case iaload => exact as_iaload X (fun h => absurd h hno) hdg hsd hs hP ok k
  case arraylength => exact as_arraylength X (fun h => absurd h hno) hdg hsd hs hP ok k
  case putfield => exact as_putfield X (fun h => by cases h) hdg hsd hs hP ok k
  case ldc k9 =>
    have hl9 : len = 2 := by simpa [aSide] using hsd
    unfold aStep at hs
    dsimp only at hs
    cases hv : tLdc (tOwn q) k9 with
    | none => rw [hv] at hs; cases hs
    | some v =>
      rw [hv] at hs
      cases hs
      exact hld p e R s m args below meth c n0 z0 Q q pc k9 len _ v L st M u X (Or.inl ⟨rfl, hl9⟩) hdg hv (k ⟨aOkS_cons.mpr ⟨tLdc_ok hv, ok.1⟩, ok.2⟩)
  case ldc_w k9 =>
    have hl9 : len = 3 := by simpa [aSide] using hsd
    unfold aStep at hs
    dsimp only at hs
    cases hv : tLdc (tOwn q) k9 with
    | none => rw [hv] at hs; cases hs
    | some v =>
      rw [hv] at hs
      cases hs
      exact hld p e R s m args below meth c n0 z0 Q q pc k9 len _ v L st M u X (Or.inr ⟨rfl, hl9⟩) hdg hv (k ⟨aOkS_cons.mpr ⟨tLdc_ok hv, ok.1⟩, ok.2⟩)
  case new k9 =>
    unfold aStep at hs
    dsimp only at hs
    cases hv : tNew (tOwn q) k9 with
    | none => rw [hv] at hs; cases hs
    | some v => rw [hv] at hs; cases hs
  case anewarray k9 =>
    unfold aStep at hs
    dsimp only at hs
    cases hv : tNew (tOwn q) k9 with
    | none => rw [hv] at hs; cases hs
    | some v => rw [hv] at hs; cases hs
  case newarray k9 => cases hs
  case dup_x1 =>
    have hl9 : len = 1 := by simpa [aSide] using hsd
    subst hl9
    unfold aStep at hs
    dsimp only at hs
    split at hs
    · cases hs
      have o9 := aOkS_cons.mp ok.1
      exact ag_dup_x1 X.1 X.2.1 hdg (k ⟨aOkS_cons.mpr ⟨trivial, aOkS_cons.mpr ⟨(aOkS_cons.mp o9.2).1, aOkS_cons.mpr ⟨trivial, (aOkS_cons.mp o9.2).2⟩⟩⟩, ok.2⟩)
    · cases hs
  case dup_x2 =>
    have hl9 : len = 1 := by simpa [aSide] using hsd
    subst hl9
    unfold aStep at hs
    dsimp only at hs
    split at hs
    · cases hs
      have o9 := aOkS_cons.mp ok.1
      have o8 := aOkS_cons.mp o9.2
      exact ag_dup_x2 X.1 X.2.1 hdg (k ⟨aOkS_cons.mpr ⟨trivial, aOkS_cons.mpr ⟨trivial, aOkS_cons.mpr ⟨(aOkS_cons.mp o8.2).1, aOkS_cons.mpr ⟨trivial, (aOkS_cons.mp o8.2).2⟩⟩⟩⟩, ok.2⟩)
    · cases hs
  case invokevirtual k9 => unfold aKind at hkd; dsimp only at hkd; split at hkd <;> cases hkd
  case invokestatic k9 => unfold aKind at hkd; dsimp only at hkd; split at hkd <;> cases hkd
  case invokespecial k9 => unfold aKind at hkd; dsimp only at hkd; split at hkd <;> cases hkd
  all_goals exact absurd (show (none : aA) = some (P, σ1) from hs) (by simp)
