/-! The law's own methods: single steps; the script. -/
/-- the script, as the memory's row 0 has it -/
def aScr (E : aE) (s : State) (M : aM) : Prop := ∃ (n : Nat) (xs : Nat → Int32), va_X E.2.1 n xs s E.2.2.2.1 ∧ E.2.1 ≤ E.1 ∧ E.2.2.2.1.size = E.1 + 1 ∧ (rK M 0).2 = n ∧ ∀ j, j < n → rI M 0 j = xs j
theorem k13p_all : (List.range 252).all (fun q => !(tOwn q == 13) || (tC q).all (fun e => match e.2.1 with
  | .putfield _ => false
  | _ => true)) = true := by decide +kernel
theorem k13s_all : (List.range 252).all (fun q => !(tOwn q == 13) || (q == 249 || (tC q).all (fun e => match e.2.1 with
  | .iaload => false
  | .arraylength => false
  | _ => true))) = true := by decide +kernel
theorem k13s {q : Nat} {e : aC} (hq : q < 252) (hno : tOwn q = 13) (hmem : e ∈ tC q) (h : e.2.1 = .iaload ∨ e.2.1 = .arraylength) : q = 249 := by
  have h9 := List.all_eq_true.mp k13s_all q (List.mem_range.mpr hq)
  rw [hno, show (!((13 : Nat) == 13)) = false from rfl, Bool.false_or, Bool.or_eq_true] at h9
  rcases h9 with h9 | h9
  · simpa using h9
  · have h8 := List.all_eq_true.mp h9 _ hmem
    rcases h with h | h <;> rw [h] at h8 <;> cases h8
section SC
variable {E : aE} {p : Program} {l : Launch} {e : Env} {R : Room} {s : State} {m : MethodId} {args : Array Value} {below : List Frame} {meth : Method} {c : Code} {Q : State → Prop} {n0 z0 : Nat} {pc q : Nat} {L : List (Option aV)} {st : List aV} {M : aM} {u : Bool}
theorem scr_H {H : Heap} (hs : aScr E s M) (hW : aWd E M H) : va_X E.2.1 (rK M 0).2 (fun j => rI M 0 j) s H := by
  obtain ⟨n, xs, hX, h1, h2, h3, h4⟩ := hs
  obtain ⟨scr, g1, g2, g3, g4, g5⟩ := hX
  refine ⟨scr, by rw [hW.2.2 _ h1]; exact g1, g2, g3, by rw [h3]; exact g4, fun j hj => ?_⟩
  rw [h3] at hj
  rw [g5 j hj]
  show _ = some (Value.int (rI M 0 j))
  rw [h4 j hj]
theorem ag_scr_ld (X : aCx E p s m args meth c q) (hs : aScr E s M) {i : Int32} (hin : vp_in i (rK M 0).2) (hd : decode (tB q) pc = .ok (.iaload, 1)) (k : aG E p l e R s m args below meth c n0 z0 Q u (pc + 1, L, aI (rI M 0 i.toNatClampNeg) :: st, M)) : aG E p l e R s m args below meth c n0 z0 Q u (pc, L, aI i :: aR 2 0 :: st, M) := by
  intro H locs ls hW hq hu hl
  have hX := scr_H hs hW
  obtain ⟨scr, g1, g2, g3, g4, g5⟩ := hX
  have hlt : i.toNatClampNeg < (rK M 0).2 := Nat.not_le.mp fun q => hin (Or.inr q)
  exact W.iald (v := .int (rI M 0 i.toNatClampNeg)) X.1 X.2.1 g1 g2 g3 (by rw [g4]; exact hin) (g5 _ hlt) rfl rfl hd (k H locs ls hW hq hu hl)
theorem ag_scr_len (X : aCx E p s m args meth c q) (hs : aScr E s M) (hd : decode (tB q) pc = .ok (.arraylength, 1)) (k : aG E p l e R s m args below meth c n0 z0 Q u (pc + 1, L, aI (Int32.ofNat (rK M 0).2) :: st, M)) : aG E p l e R s m args below meth c n0 z0 Q u (pc, L, aR 2 0 :: st, M) := by
  intro H locs ls hW hq hu hl
  obtain ⟨scr, g1, g2, g3, g4, g5⟩ := scr_H hs hW
  exact W.alen (n := Int32.ofNat (rK M 0).2) X.1 X.2.1 g1 g2 (by rw [g4] <;> rfl) rfl rfl hd (k H locs ls hW hq hu hl)
end SC
theorem aSSt_13 {fl : Bool} {E : aE} {l : Launch} (p : Program) (e : Env) (R : Room) (s : State) (m : MethodId) (args : Array Value) (below : List Frame) (meth : Method) (c : Code) (n0 z0 : Nat) (Q : State → Prop) (q pc : Nat) (i : Instr) (len : Nat) (v0 : Int32) (tg : Nat) (sw : List (Int32 × Nat)) (L : List (Option aV)) (st : List aV) (M : aM) (P : Prop) (σ1 : aS) (u : Bool)
    (X : aCx E p s m args meth c q) (hq : q < 252) (hno : tOwn q = 13) (hkd : aKind (tOwn q) i = 0) (hmem : (pc, i, len, 0, v0, tg, sw) ∈ tC q) (hdg : decode (tB q) pc = .ok (i, len)) (hsd : aSide pc i len v0 tg sw = true) (hs : aStep fl (tOwn q) pc i len v0 tg L st M = some (P, σ1)) (hP : P) (ok : aOk fl M L st) (hLl : L.length = tMl q) (hn0 : n0 ≤ aN M) (hz0 : z0 ≤ aZ M) (hcs : aN σ1.2.2.2 - n0 ≤ R.cells ∧ aZ σ1.2.2.2 - z0 ≤ R.slots) (hscr : q = 249 → aScr E s M)
    (k : aOk fl σ1.2.2.2 σ1.2.1 σ1.2.2.1 → aG E p l e R s m args below meth c n0 z0 Q (bif aWr i then false else u) σ1) : aG E p l e R s m args below meth c n0 z0 Q u (pc, L, st, M) := by
  have hld : aSLd fl E l := aSLd_all
  cases i
  case iconst => exact as_iconst X hdg hsd hs hP ok k
  case bipush => exact as_bipush X hdg hsd hs hP ok k
  case sipush => exact as_sipush X hdg hsd hs hP ok k
  case iload_n => exact as_iload_n X hdg hsd hs hP ok k
  case iload => exact as_iload X hdg hsd hs hP ok k
  case aload_n => exact as_aload_n X hdg hsd hs hP ok k
  case aload => exact as_aload X hdg hsd hs hP ok k
  case istore_n => exact as_istore_n X hdg hsd hs hP ok k
  case istore => exact as_istore X hdg hsd hs hP ok k
  case astore_n => exact as_astore_n X hdg hsd hs hP ok k
  case astore => exact as_astore X hdg hsd hs hP ok k
  case iinc => exact as_iinc X hdg hsd hs hP ok k
  case iadd => exact as_iadd X hdg hsd hs hP ok k
  case isub => exact as_isub X hdg hsd hs hP ok k
  case imul => exact as_imul X hdg hsd hs hP ok k
  case iand => exact as_iand X hdg hsd hs hP ok k
  case ior => exact as_ior X hdg hsd hs hP ok k
  case ixor => exact as_ixor X hdg hsd hs hP ok k
  case ishl => exact as_ishl X hdg hsd hs hP ok k
  case ishr => exact as_ishr X hdg hsd hs hP ok k
  case iushr => exact as_iushr X hdg hsd hs hP ok k
  case idiv => exact as_idiv X hdg hsd hs hP ok k
  case irem => exact as_irem X hdg hsd hs hP ok k
  case ineg => exact as_ineg X hdg hsd hs hP ok k
  case i2l => exact as_i2l X hdg hsd hs hP ok k
  case i2c => exact as_i2c X hdg hsd hs hP ok k
  case i2b => exact as_i2b X hdg hsd hs hP ok k
  case lcmp => exact as_lcmp X hdg hsd hs hP ok k
  case dup => exact as_dup X hdg hsd hs hP ok k
  case pop => exact as_pop X hdg hsd hs hP ok k
  case dup2 => exact as_dup2 X hdg hsd hs hP ok k
  case goto => exact as_goto X hdg hsd hs hP ok k
  case aconst_null => exact as_aconst_null X hdg hsd hs hP ok k
  case baload => exact as_baload X hdg hsd hs hP ok k
  case laload => exact as_laload X hdg hsd hs hP ok k
  case iastore => exact as_iastore X hdg hsd hs hP ok k
  case bastore => exact as_bastore X hdg hsd hs hP ok k
  case lastore => exact as_lastore X hdg hsd hs hP ok k
  case getfield => exact as_getfield X hdg hsd hs hP ok k
  case aaload => exact as_aaload X hdg hsd hs hP ok k
  case aastore => exact as_aastore X hdg hsd hs hP ok k
  case iaload =>
    refine as_iaload X (fun h13 i9 st9 hst hin kk => ?_) hdg hsd hs hP ok k
    have hl9 : len = 1 := by simpa [aSide] using hsd
    subst hl9
    exact ag_scr_ld X (hscr (k13s hq hno hmem (Or.inl rfl))) hin hdg kk
  case arraylength =>
    refine as_arraylength X (fun h13 st9 hst kk => ?_) hdg hsd hs hP ok k
    have hl9 : len = 1 := by simpa [aSide] using hsd
    subst hl9
    exact ag_scr_len X (hscr (k13s hq hno hmem (Or.inr rfl))) hdg kk
  case putfield i9 =>
    exfalso
    have h9 := List.all_eq_true.mp k13p_all q (List.mem_range.mpr hq)
    rw [hno] at h9
    have h8 := List.all_eq_true.mp h9 _ hmem
    cases h8
  case ldc k9 =>
    have hl9 : len = 2 := by simpa [aSide] using hsd
    unfold aStep at hs
    dsimp only at hs
    cases hv : tLdc (tOwn q) k9 with
    | none => rw [hv] at hs; cases hs
    | some v =>
      rw [hv] at hs
      cases hs
      exact hld p e R s m args below meth c n0 z0 Q q pc k9 len _ v L st M u X (Or.inl ⟨rfl, hl9⟩) hdg hv (k ⟨aOkS_cons.mpr ⟨tLdc_ok hv, ok.1⟩, ok.2⟩)
  case ldc_w k9 =>
    have hl9 : len = 3 := by simpa [aSide] using hsd
    unfold aStep at hs
    dsimp only at hs
    cases hv : tLdc (tOwn q) k9 with
    | none => rw [hv] at hs; cases hs
    | some v =>
      rw [hv] at hs
      cases hs
      exact hld p e R s m args below meth c n0 z0 Q q pc k9 len _ v L st M u X (Or.inr ⟨rfl, hl9⟩) hdg hv (k ⟨aOkS_cons.mpr ⟨tLdc_ok hv, ok.1⟩, ok.2⟩)
  case new k9 =>
    have hl9 : len = 3 := by simpa [aSide] using hsd
    subst hl9
    unfold aStep at hs
    dsimp only at hs
    cases hv : tNew (tOwn q) k9 with
    | none => rw [hv] at hs; cases hs
    | some v =>
      rw [hv] at hs
      cases fl with
      | true => cases hs
      | false =>
        dsimp only [cond] at hs
        have hs0 := hs
        cases hs
        have ok1 := (aStep_ok (fl := false) (o := tOwn q) (pc := pc) (i := .new k9) (len := 3) (v0 := v0) (tg := tg) (L := L) (st := st) (M := M) (P := 0 < aN M) (tOwn_lt q) (by unfold aStep; dsimp only; rw [hv]; rfl) hP ok).1
        exact ag_new X hv hP hn0 hz0 hcs hdg (k ok1)
  case anewarray k9 =>
    have hl9 : len = 3 := by simpa [aSide] using hsd
    subst hl9
    have hs0 := hs
    unfold aStep at hs
    dsimp only at hs
    cases hv : tNew (tOwn q) k9 with
    | none => rw [hv] at hs; cases hs
    | some v =>
      rw [hv] at hs
      cases fl with
      | true => cases hs
      | false =>
        dsimp only [cond] at hs
        split at hs
        · rename_i n st9
          cases hs
          have ok1 := (aStep_ok (tOwn_lt q) hs0 hP ok).1
          obtain ⟨p1, p2, p3, rfl⟩ := hP
          exact ag_anew X hv p2 p1 p3 hn0 hz0 hcs hdg (k ok1)
        · cases hs
  case newarray ty =>
    have hl9 : len = 2 := by simpa [aSide] using hsd
    subst hl9
    have hs0 := hs
    have kx := X.2.2.2.2.2.1
    unfold aStep at hs
    dsimp only at hs
    cases fl with
    | true => cases hs
    | false =>
      dsimp only [cond] at hs
      split at hs
      · rename_i n st9
        split at hs
        · cases hs
          have ok1 := (aStep_ok (tOwn_lt q) hs0 hP ok).1
          obtain ⟨p1, p2, p3⟩ := hP
          exact ag_newarr (t := 4) X p2 p1 p3 hn0 hz0 hcs hdg wa_int (by decide) (by decide) kx.2.2.2.2.2.2.2.1.1 (fun H1 h1 => aCell_4 (by rw [aNew_K0]) (by rw [h1, aNew_K0, aNew_I0]; rfl)) (k ok1)
        · cases hs
          have ok1 := (aStep_ok (tOwn_lt q) hs0 hP ok).1
          obtain ⟨p1, p2, p3⟩ := hP
          exact ag_newarr (t := 5) X p2 p1 p3 hn0 hz0 hcs hdg wa_boolean (by decide) (by decide) kx.2.2.2.2.2.2.2.1.2.1 (fun H1 h1 => aCell_5 (by rw [aNew_K0]) (by rw [h1, aNew_K0, aNew_I0]; rfl)) (k ok1)
        · cases hs
          have ok1 := (aStep_ok (tOwn_lt q) hs0 hP ok).1
          obtain ⟨p1, p2, p3⟩ := hP
          exact ag_newarr (t := 6) X p2 p1 p3 hn0 hz0 hcs hdg wa_long (by decide) (by decide) kx.2.2.2.2.2.2.2.1.2.2.1 (fun H1 h1 => aCell_6 (by rw [aNew_K0]) (by rw [h1, aNew_K0, aNew_J0]; rfl)) (k ok1)
        · cases hs
          have ok1 := (aStep_ok (tOwn_lt q) hs0 hP ok).1
          obtain ⟨p1, p2, p3⟩ := hP
          exact ag_newarr (t := 7) X p2 p1 p3 hn0 hz0 hcs hdg wa_byte (by decide) (by decide) kx.2.2.2.2.2.2.2.1.2.2.2 (fun H1 h1 => aCell_7 (by rw [aNew_K0]) (by rw [h1, aNew_K0, aNew_I0]; rfl)) (k ok1)
        · cases hs
      · cases hs
  case dup_x1 =>
    have hl9 : len = 1 := by simpa [aSide] using hsd
    subst hl9
    unfold aStep at hs
    dsimp only at hs
    split at hs
    · cases hs
      have o9 := aOkS_cons.mp ok.1
      exact ag_dup_x1 X.1 X.2.1 hdg (k ⟨aOkS_cons.mpr ⟨trivial, aOkS_cons.mpr ⟨(aOkS_cons.mp o9.2).1, aOkS_cons.mpr ⟨trivial, (aOkS_cons.mp o9.2).2⟩⟩⟩, ok.2⟩)
    · cases hs
  case dup_x2 =>
    have hl9 : len = 1 := by simpa [aSide] using hsd
    subst hl9
    unfold aStep at hs
    dsimp only at hs
    split at hs
    · cases hs
      have o9 := aOkS_cons.mp ok.1
      have o8 := aOkS_cons.mp o9.2
      exact ag_dup_x2 X.1 X.2.1 hdg (k ⟨aOkS_cons.mpr ⟨trivial, aOkS_cons.mpr ⟨trivial, aOkS_cons.mpr ⟨(aOkS_cons.mp o8.2).1, aOkS_cons.mpr ⟨trivial, (aOkS_cons.mp o8.2).2⟩⟩⟩⟩, ok.2⟩)
    · cases hs
  case invokevirtual k9 => unfold aKind at hkd; dsimp only at hkd; split at hkd <;> cases hkd
  case invokestatic k9 => unfold aKind at hkd; dsimp only at hkd; split at hkd <;> cases hkd
  case invokespecial k9 => unfold aKind at hkd; dsimp only at hkd; split at hkd <;> cases hkd
  all_goals exact absurd (show (none : aA) = some (P, σ1) from hs) (by simp)
