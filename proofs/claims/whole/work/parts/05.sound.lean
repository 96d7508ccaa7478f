/-! THE MACHINE FOLLOWS the abstract machine. -/
def aTy (M : aM) (t k : Nat) : Prop := 0 < k ∧ k < aN M ∧ (rK M k).1 = t
def aOkV (M : aM) (v : aV) : Prop := match v with
  | Sum.inl _ => True
  | Sum.inr (Sum.inl (t, k)) => t < 4 ∨ aTy M t k
  | Sum.inr (Sum.inr _) => True
def aOkS (M : aM) (st : List aV) : Prop := ∀ v ∈ st, aOkV M v
def aOkL (M : aM) (L : List (Option aV)) : Prop := ∀ (i : Nat) (v : aV), L[i]? = some (some v) → aOkV M v
/-- references lie where their types say; with fl: none is null, the final ones at their ways -/
def aWf (fl : Bool) (M : aM) : Prop :=
  (∀ k ci, 0 < k → k < aN M → (rK M k).1 = 10 + ci → ci < 90 → ∀ j, j < (aFs ci).length → ((aFd ci j).1 = 2 ∨ (aFd ci j).1 = 3) → (rR M k j = 0 ∨ aTy M (aFd ci j).2.1 (rR M k j)) ∧ (fl = true → rR M k j ≠ 0 ∧ ((aFd ci j).1 = 2 → rR M k j = k + (aFd ci j).2.2))) ∧
  (∀ k ci, 0 < k → k < aN M → (rK M k).1 = 100 + ci → ci = 3 ∧ ∀ j, j < (rK M k).2 → (rR M k j = 0 ∨ aTy M (10 + ci) (rR M k j)) ∧ (fl = true → rR M k j ≠ 0))
theorem aOkS_cons {M : aM} {v : aV} {st : List aV} : aOkS M (v :: st) ↔ aOkV M v ∧ aOkS M st := by
  unfold aOkS; exact List.forall_mem_cons
theorem aOkI {M : aM} (x : Int32) : aOkV M (aI x) := trivial
theorem aOkJ {M : aM} (x : Int64) : aOkV M (aJ x) := trivial
theorem aOkL_set {M : aM} {L : List (Option aV)} {i : Nat} {v : aV} (h : aOkL M L) (hv : aOkV M v) : aOkL M (L.set i (some v)) := by
  intro j w hj
  by_cases hji : i = j
  · subst hji
    have hl : i < L.length := by
      rcases Nat.lt_or_ge i L.length with q | q
      · exact q
      · rw [List.set_eq_of_length_le q, List.getElem?_eq_none q] at hj; cases hj
    rw [List.getElem?_set_self hl] at hj
    cases hj
    exact hv
  · rw [List.getElem?_set_ne hji] at hj
    exact h j w hj
/-- a memory whose cells have the same types -/
def aSame (M M1 : aM) : Prop := M1.1 = M.1 ∧ ∀ i, rK M1 i = rK M i
theorem aTy_same {M M1 : aM} (h : aSame M M1) {t k : Nat} (ht : aTy M t k) : aTy M1 t k := by
  obtain ⟨h0, h1, h2⟩ := ht
  have eN : aN M1 = aN M := congrArg Prod.fst h.1
  exact ⟨h0, by rw [eN]; exact h1, by rw [h.2]; exact h2⟩
theorem aOkV_same {M M1 : aM} (h : aSame M M1) {v : aV} (hv : aOkV M v) : aOkV M1 v := by
  rcases v with x | ⟨t, k⟩ | x
  · trivial
  · rcases hv with q | q
    · exact Or.inl q
    · exact Or.inr (aTy_same h q)
  · trivial
theorem aOkS_same {M M1 : aM} (h : aSame M M1) {st : List aV} (hv : aOkS M st) : aOkS M1 st := fun v hm => aOkV_same h (hv v hm)
theorem aOkL_same {M M1 : aM} (h : aSame M M1) {L : List (Option aV)} (hv : aOkL M L) : aOkL M1 L := fun i v hm => aOkV_same h (hv i v hm)
theorem aSame_wI (M : aM) (k j : Nat) (x : Int32) : aSame M (wI M k j x) := ⟨rfl, fun _ => rfl⟩
theorem aSame_wR (M : aM) (k j : Nat) (x : Nat) : aSame M (wR M k j x) := ⟨rfl, fun _ => rfl⟩
theorem aSame_wJ (M : aM) (k j : Nat) (x : Int64) : aSame M (wJ M k j x) := ⟨rfl, fun _ => rfl⟩
theorem aWf_same {fl : Bool} {M M1 : aM} (h : aSame M M1) (hR : ∀ i, rR M1 i = rR M i) (hw : aWf fl M) : aWf fl M1 := by
  have eN : aN M1 = aN M := congrArg Prod.fst h.1
  refine ⟨fun k ci h0 h1 h2 h3 j hj hs => ?_, fun k ci h0 h1 h2 => ?_⟩
  · rw [eN] at h1
    rw [h.2] at h2
    obtain ⟨a1, a2⟩ := hw.1 k ci h0 h1 h2 h3 j hj hs
    rw [hR]
    exact ⟨a1.imp id (aTy_same h), a2⟩
  · rw [eN] at h1
    rw [h.2] at h2
    obtain ⟨a0, a9⟩ := hw.2 k ci h0 h1 h2
    refine ⟨a0, fun j hj => ?_⟩
    rw [h.2] at hj
    obtain ⟨a1, a2⟩ := a9 j hj
    rw [hR]
    exact ⟨a1.imp id (aTy_same h), a2⟩
def aOk (fl : Bool) (M : aM) (L : List (Option aV)) (st : List aV) : Prop := aOkS M st ∧ aOkL M L ∧ aWf fl M
/-- the words that keep -/
def aTbl : List Cond := lw_tbl.filter goodWord
/-- the tables are the start's, but for what was resolved since; what the Statement gives of the start -/
def aS0 (E : aE) (U : State) : Prop := ∃ s0 : State, s0.WarmedH U.vm ∧ s0.heap = E.2.2.2.1 ∧ s0.heap.size = E.1 + 1 ∧ (∀ w ∈ lw_tbl, w.before #[Value.ref E.2.1] s0 = true) ∧ (Jvm.Cond.and given_1 narrow_1).before #[Value.ref E.2.1] s0 = true ∧ (∀ o k id : Nat, tLdc o k = some (aR 1 id) → (Term.string (tCn o) k).eval #[Value.ref E.2.1] s0 none [] s0 = some (.ref (E.2.2.1 id)))
/-- what is known of the classes and arrays -/
def aKx (E : aE) (U : State) : Prop := va_K E.2.2.2.2.1 aCls [] U ∧ ArrOfT U (E.2.2.2.2.2 4) .int ∧ ArrOfT U (E.2.2.2.2.2 5) .boolean ∧ ArrOfT U (E.2.2.2.2.2 6) .long ∧ ArrOfT U (E.2.2.2.2.2 7) .byte ∧ ArrOfT U (E.2.2.2.2.2 103) (.object "PolicyJudge$Text") ∧ va_RA U (E.2.2.2.2.2 103) (.object "PolicyJudge$Text") ∧ (va_RA U (E.2.2.2.2.2 4) .int ∧ va_RA U (E.2.2.2.2.2 5) .boolean ∧ va_RA U (E.2.2.2.2.2 6) .long ∧ va_RA U (E.2.2.2.2.2 7) .byte) ∧ aS0 E U
/-- a method's walk: what holds at its entry -/
def aCx (E : aE) (p : Program) (s : State) (m : MethodId) (args : Array Value) (meth : Method) (c : Code) (q : Nat) : Prop :=
  p.tables.exec = Jvm.exec ∧ c.code = tB q ∧ c.maxLocals = tMl q ∧ s.vm.findClass (tCn (tOwn q)) = some m.cls ∧ (∀ w ∈ aTbl, w.before args s = true) ∧ aKx E s ∧ meth.name = (tY q).name ∧ meth.sig.returnType = tRt q ∧ meth.locks = false
section AS
variable {E : aE} {p : Program} {l : Launch} {e : Env} {R : Room} {s : State} {m : MethodId} {args : Array Value} {below : List Frame} {meth : Method} {c : Code} {Q : State → Prop} {n0 z0 : Nat} {pc q len tg : Nat} {L : List (Option aV)} {st : List aV} {M : aM} {u fl : Bool} {v0 : Int32} {sw : List (Int32 × Nat)} {P : Prop} {σ1 : aS}
theorem as_iconst (X : aCx E p s m args meth c q) {n : Int} (hd : decode (tB q) pc = .ok (.iconst n, len)) (hsd : aSide pc (.iconst n) len v0 tg sw = true) (hs : aStep fl (tOwn q) pc (.iconst n) len v0 tg L st M = some (P, σ1)) (hP : P) (ok : aOk fl M L st) (k : aOk fl σ1.2.2.2 σ1.2.1 σ1.2.2.1 → aG E p l e R s m args below meth c n0 z0 Q (bif aWr (.iconst n) then false else u) σ1) : aG E p l e R s m args below meth c n0 z0 Q u (pc, L, st, M) := by
  simp only [aSide, Bool.and_eq_true, beq_iff_eq] at hsd
  obtain ⟨hl9, hv⟩ := hsd
  subst hl9
  cases hs
  exact ag_iconst X.1 X.2.1 hd hv (k ⟨aOkS_cons.mpr ⟨trivial, ok.1⟩, ok.2⟩)

theorem as_bipush (X : aCx E p s m args meth c q) {n : Int} (hd : decode (tB q) pc = .ok (.bipush n, len)) (hsd : aSide pc (.bipush n) len v0 tg sw = true) (hs : aStep fl (tOwn q) pc (.bipush n) len v0 tg L st M = some (P, σ1)) (hP : P) (ok : aOk fl M L st) (k : aOk fl σ1.2.2.2 σ1.2.1 σ1.2.2.1 → aG E p l e R s m args below meth c n0 z0 Q (bif aWr (.bipush n) then false else u) σ1) : aG E p l e R s m args below meth c n0 z0 Q u (pc, L, st, M) := by
  simp only [aSide, Bool.and_eq_true, beq_iff_eq] at hsd
  obtain ⟨hl9, hv⟩ := hsd
  subst hl9
  cases hs
  exact ag_bipush X.1 X.2.1 hd hv (k ⟨aOkS_cons.mpr ⟨trivial, ok.1⟩, ok.2⟩)

theorem as_sipush (X : aCx E p s m args meth c q) {n : Int} (hd : decode (tB q) pc = .ok (.sipush n, len)) (hsd : aSide pc (.sipush n) len v0 tg sw = true) (hs : aStep fl (tOwn q) pc (.sipush n) len v0 tg L st M = some (P, σ1)) (hP : P) (ok : aOk fl M L st) (k : aOk fl σ1.2.2.2 σ1.2.1 σ1.2.2.1 → aG E p l e R s m args below meth c n0 z0 Q (bif aWr (.sipush n) then false else u) σ1) : aG E p l e R s m args below meth c n0 z0 Q u (pc, L, st, M) := by
  simp only [aSide, Bool.and_eq_true, beq_iff_eq] at hsd
  obtain ⟨hl9, hv⟩ := hsd
  subst hl9
  cases hs
  exact ag_sipush X.1 X.2.1 hd hv (k ⟨aOkS_cons.mpr ⟨trivial, ok.1⟩, ok.2⟩)

theorem as_iload_n (X : aCx E p s m args meth c q) {i : Fin 4} (hd : decode (tB q) pc = .ok (.iload_n i, len)) (hsd : aSide pc (.iload_n i) len v0 tg sw = true) (hs : aStep fl (tOwn q) pc (.iload_n i) len v0 tg L st M = some (P, σ1)) (hP : P) (ok : aOk fl M L st) (k : aOk fl σ1.2.2.2 σ1.2.1 σ1.2.2.1 → aG E p l e R s m args below meth c n0 z0 Q (bif aWr (.iload_n i) then false else u) σ1) : aG E p l e R s m args below meth c n0 z0 Q u (pc, L, st, M) := by
  have hl9 : len = 1 := by simpa [aSide] using hsd
  subst hl9
  cases hv : aLd L i.val with
  | none => unfold aStep at hs; dsimp only at hs; rw [hv] at hs; cases hs
  | some v =>
    unfold aStep at hs
    dsimp only at hs
    rw [hv] at hs
    rcases v with x | r | x
    · cases hs; exact ag_iload_n X.1 X.2.1 hd hv (k ⟨aOkS_cons.mpr ⟨trivial, ok.1⟩, ok.2⟩)
    · cases hs
    · cases hs

theorem as_iload (X : aCx E p s m args meth c q) {i : Nat} (hd : decode (tB q) pc = .ok (.iload i, len)) (hsd : aSide pc (.iload i) len v0 tg sw = true) (hs : aStep fl (tOwn q) pc (.iload i) len v0 tg L st M = some (P, σ1)) (hP : P) (ok : aOk fl M L st) (k : aOk fl σ1.2.2.2 σ1.2.1 σ1.2.2.1 → aG E p l e R s m args below meth c n0 z0 Q (bif aWr (.iload i) then false else u) σ1) : aG E p l e R s m args below meth c n0 z0 Q u (pc, L, st, M) := by
  have hl9 : len = 2 := by simpa [aSide] using hsd
  subst hl9
  cases hv : aLd L i with
  | none => unfold aStep at hs; dsimp only at hs; rw [hv] at hs; cases hs
  | some v =>
    unfold aStep at hs
    dsimp only at hs
    rw [hv] at hs
    rcases v with x | r | x
    · cases hs; exact ag_iload X.1 X.2.1 hd hv (k ⟨aOkS_cons.mpr ⟨trivial, ok.1⟩, ok.2⟩)
    · cases hs
    · cases hs

theorem as_aload_n (X : aCx E p s m args meth c q) {i : Fin 4} (hd : decode (tB q) pc = .ok (.aload_n i, len)) (hsd : aSide pc (.aload_n i) len v0 tg sw = true) (hs : aStep fl (tOwn q) pc (.aload_n i) len v0 tg L st M = some (P, σ1)) (hP : P) (ok : aOk fl M L st) (k : aOk fl σ1.2.2.2 σ1.2.1 σ1.2.2.1 → aG E p l e R s m args below meth c n0 z0 Q (bif aWr (.aload_n i) then false else u) σ1) : aG E p l e R s m args below meth c n0 z0 Q u (pc, L, st, M) := by
  have hl9 : len = 1 := by simpa [aSide] using hsd
  subst hl9
  cases hv : aLd L i.val with
  | none => unfold aStep at hs; dsimp only at hs; rw [hv] at hs; cases hs
  | some v =>
    unfold aStep at hs
    dsimp only at hs
    rw [hv] at hs
    rcases v with x | r | x
    · cases hs
    · cases hs; exact ag_aload_n X.1 X.2.1 hd hv (k ⟨aOkS_cons.mpr ⟨ok.2.1 _ _ (aLd_some hv), ok.1⟩, ok.2⟩)
    · cases hs

theorem as_aload (X : aCx E p s m args meth c q) {i : Nat} (hd : decode (tB q) pc = .ok (.aload i, len)) (hsd : aSide pc (.aload i) len v0 tg sw = true) (hs : aStep fl (tOwn q) pc (.aload i) len v0 tg L st M = some (P, σ1)) (hP : P) (ok : aOk fl M L st) (k : aOk fl σ1.2.2.2 σ1.2.1 σ1.2.2.1 → aG E p l e R s m args below meth c n0 z0 Q (bif aWr (.aload i) then false else u) σ1) : aG E p l e R s m args below meth c n0 z0 Q u (pc, L, st, M) := by
  have hl9 : len = 2 := by simpa [aSide] using hsd
  subst hl9
  cases hv : aLd L i with
  | none => unfold aStep at hs; dsimp only at hs; rw [hv] at hs; cases hs
  | some v =>
    unfold aStep at hs
    dsimp only at hs
    rw [hv] at hs
    rcases v with x | r | x
    · cases hs
    · cases hs; exact ag_aload X.1 X.2.1 hd hv (k ⟨aOkS_cons.mpr ⟨ok.2.1 _ _ (aLd_some hv), ok.1⟩, ok.2⟩)
    · cases hs

theorem as_istore_n (X : aCx E p s m args meth c q) {i : Fin 4} (hd : decode (tB q) pc = .ok (.istore_n i, len)) (hsd : aSide pc (.istore_n i) len v0 tg sw = true) (hs : aStep fl (tOwn q) pc (.istore_n i) len v0 tg L st M = some (P, σ1)) (hP : P) (ok : aOk fl M L st) (k : aOk fl σ1.2.2.2 σ1.2.1 σ1.2.2.1 → aG E p l e R s m args below meth c n0 z0 Q (bif aWr (.istore_n i) then false else u) σ1) : aG E p l e R s m args below meth c n0 z0 Q u (pc, L, st, M) := by
  have hl9 : len = 1 := by simpa [aSide] using hsd
  subst hl9
  rcases st with _ | ⟨v, st⟩
  · cases hs
  · rcases v with x | r | x
    · unfold aStep at hs
      dsimp only at hs
      by_cases hi : i.val < L.length
      · rw [decide_eq_true hi] at hs
        cases hs
        exact ag_istore_n X.1 X.2.1 hd hi (k ⟨(aOkS_cons.mp ok.1).2, aOkL_set ok.2.1 trivial, ok.2.2⟩)
      · rw [decide_eq_false hi] at hs
        cases hs
    · cases hs
    · cases hs

theorem as_istore (X : aCx E p s m args meth c q) {i : Nat} (hd : decode (tB q) pc = .ok (.istore i, len)) (hsd : aSide pc (.istore i) len v0 tg sw = true) (hs : aStep fl (tOwn q) pc (.istore i) len v0 tg L st M = some (P, σ1)) (hP : P) (ok : aOk fl M L st) (k : aOk fl σ1.2.2.2 σ1.2.1 σ1.2.2.1 → aG E p l e R s m args below meth c n0 z0 Q (bif aWr (.istore i) then false else u) σ1) : aG E p l e R s m args below meth c n0 z0 Q u (pc, L, st, M) := by
  have hl9 : len = 2 := by simpa [aSide] using hsd
  subst hl9
  rcases st with _ | ⟨v, st⟩
  · cases hs
  · rcases v with x | r | x
    · unfold aStep at hs
      dsimp only at hs
      by_cases hi : i < L.length
      · rw [decide_eq_true hi] at hs
        cases hs
        exact ag_istore X.1 X.2.1 hd hi (k ⟨(aOkS_cons.mp ok.1).2, aOkL_set ok.2.1 trivial, ok.2.2⟩)
      · rw [decide_eq_false hi] at hs
        cases hs
    · cases hs
    · cases hs

theorem as_astore_n (X : aCx E p s m args meth c q) {i : Fin 4} (hd : decode (tB q) pc = .ok (.astore_n i, len)) (hsd : aSide pc (.astore_n i) len v0 tg sw = true) (hs : aStep fl (tOwn q) pc (.astore_n i) len v0 tg L st M = some (P, σ1)) (hP : P) (ok : aOk fl M L st) (k : aOk fl σ1.2.2.2 σ1.2.1 σ1.2.2.1 → aG E p l e R s m args below meth c n0 z0 Q (bif aWr (.astore_n i) then false else u) σ1) : aG E p l e R s m args below meth c n0 z0 Q u (pc, L, st, M) := by
  have hl9 : len = 1 := by simpa [aSide] using hsd
  subst hl9
  rcases st with _ | ⟨v, st⟩
  · cases hs
  · rcases v with x | r | x
    · cases hs
    · unfold aStep at hs
      dsimp only at hs
      by_cases hi : i.val < L.length
      · rw [decide_eq_true hi] at hs
        cases hs
        exact ag_astore_n X.1 X.2.1 hd hi (k ⟨(aOkS_cons.mp ok.1).2, aOkL_set ok.2.1 (aOkS_cons.mp ok.1).1, ok.2.2⟩)
      · rw [decide_eq_false hi] at hs
        cases hs
    · cases hs

theorem as_astore (X : aCx E p s m args meth c q) {i : Nat} (hd : decode (tB q) pc = .ok (.astore i, len)) (hsd : aSide pc (.astore i) len v0 tg sw = true) (hs : aStep fl (tOwn q) pc (.astore i) len v0 tg L st M = some (P, σ1)) (hP : P) (ok : aOk fl M L st) (k : aOk fl σ1.2.2.2 σ1.2.1 σ1.2.2.1 → aG E p l e R s m args below meth c n0 z0 Q (bif aWr (.astore i) then false else u) σ1) : aG E p l e R s m args below meth c n0 z0 Q u (pc, L, st, M) := by
  have hl9 : len = 2 := by simpa [aSide] using hsd
  subst hl9
  rcases st with _ | ⟨v, st⟩
  · cases hs
  · rcases v with x | r | x
    · cases hs
    · unfold aStep at hs
      dsimp only at hs
      by_cases hi : i < L.length
      · rw [decide_eq_true hi] at hs
        cases hs
        exact ag_astore X.1 X.2.1 hd hi (k ⟨(aOkS_cons.mp ok.1).2, aOkL_set ok.2.1 (aOkS_cons.mp ok.1).1, ok.2.2⟩)
      · rw [decide_eq_false hi] at hs
        cases hs
    · cases hs

theorem as_iinc (X : aCx E p s m args meth c q) {i : Nat} {n : Int} (hd : decode (tB q) pc = .ok (.iinc i n, len)) (hsd : aSide pc (.iinc i n) len v0 tg sw = true) (hs : aStep fl (tOwn q) pc (.iinc i n) len v0 tg L st M = some (P, σ1)) (hP : P) (ok : aOk fl M L st) (k : aOk fl σ1.2.2.2 σ1.2.1 σ1.2.2.1 → aG E p l e R s m args below meth c n0 z0 Q (bif aWr (.iinc i n) then false else u) σ1) : aG E p l e R s m args below meth c n0 z0 Q u (pc, L, st, M) := by
  simp only [aSide, Bool.and_eq_true, beq_iff_eq] at hsd
  obtain ⟨hl9, hv0⟩ := hsd
  subst hl9
  unfold aStep at hs
  dsimp only at hs
  cases hv : aLd L i with
  | none => rw [hv] at hs; cases hs
  | some v =>
    rw [hv] at hs
    rcases v with x | r | x
    · dsimp only at hs
      by_cases hi : i < L.length
      · rw [decide_eq_true hi] at hs
        cases hs
        exact ag_iinc X.1 X.2.1 hd hv hi hv0 (k ⟨ok.1, aOkL_set ok.2.1 trivial, ok.2.2⟩)
      · rw [decide_eq_false hi] at hs
        cases hs
    · cases hs
    · cases hs

theorem as_iadd (X : aCx E p s m args meth c q) (hd : decode (tB q) pc = .ok (.iadd, len)) (hsd : aSide pc (.iadd) len v0 tg sw = true) (hs : aStep fl (tOwn q) pc (.iadd) len v0 tg L st M = some (P, σ1)) (hP : P) (ok : aOk fl M L st) (k : aOk fl σ1.2.2.2 σ1.2.1 σ1.2.2.1 → aG E p l e R s m args below meth c n0 z0 Q (bif aWr (.iadd) then false else u) σ1) : aG E p l e R s m args below meth c n0 z0 Q u (pc, L, st, M) := by
  have hl9 : len = 1 := by simpa [aSide] using hsd
  subst hl9
  rcases st with _ | ⟨v, st⟩
  · cases hs
  · rcases v with y | r | y
    · rcases st with _ | ⟨v, st⟩
      · cases hs
      · rcases v with x | r | x
        · cases hs
          exact ag_iadd X.1 X.2.1 hd (k ⟨aOkS_cons.mpr ⟨trivial, (aOkS_cons.mp (aOkS_cons.mp ok.1).2).2⟩, ok.2⟩)
        · cases hs
        · cases hs
    · cases hs
    · cases hs

theorem as_isub (X : aCx E p s m args meth c q) (hd : decode (tB q) pc = .ok (.isub, len)) (hsd : aSide pc (.isub) len v0 tg sw = true) (hs : aStep fl (tOwn q) pc (.isub) len v0 tg L st M = some (P, σ1)) (hP : P) (ok : aOk fl M L st) (k : aOk fl σ1.2.2.2 σ1.2.1 σ1.2.2.1 → aG E p l e R s m args below meth c n0 z0 Q (bif aWr (.isub) then false else u) σ1) : aG E p l e R s m args below meth c n0 z0 Q u (pc, L, st, M) := by
  have hl9 : len = 1 := by simpa [aSide] using hsd
  subst hl9
  rcases st with _ | ⟨v, st⟩
  · cases hs
  · rcases v with y | r | y
    · rcases st with _ | ⟨v, st⟩
      · cases hs
      · rcases v with x | r | x
        · cases hs
          exact ag_isub X.1 X.2.1 hd (k ⟨aOkS_cons.mpr ⟨trivial, (aOkS_cons.mp (aOkS_cons.mp ok.1).2).2⟩, ok.2⟩)
        · cases hs
        · cases hs
    · cases hs
    · cases hs

theorem as_imul (X : aCx E p s m args meth c q) (hd : decode (tB q) pc = .ok (.imul, len)) (hsd : aSide pc (.imul) len v0 tg sw = true) (hs : aStep fl (tOwn q) pc (.imul) len v0 tg L st M = some (P, σ1)) (hP : P) (ok : aOk fl M L st) (k : aOk fl σ1.2.2.2 σ1.2.1 σ1.2.2.1 → aG E p l e R s m args below meth c n0 z0 Q (bif aWr (.imul) then false else u) σ1) : aG E p l e R s m args below meth c n0 z0 Q u (pc, L, st, M) := by
  have hl9 : len = 1 := by simpa [aSide] using hsd
  subst hl9
  rcases st with _ | ⟨v, st⟩
  · cases hs
  · rcases v with y | r | y
    · rcases st with _ | ⟨v, st⟩
      · cases hs
      · rcases v with x | r | x
        · cases hs
          exact ag_imul X.1 X.2.1 hd (k ⟨aOkS_cons.mpr ⟨trivial, (aOkS_cons.mp (aOkS_cons.mp ok.1).2).2⟩, ok.2⟩)
        · cases hs
        · cases hs
    · cases hs
    · cases hs

theorem as_iand (X : aCx E p s m args meth c q) (hd : decode (tB q) pc = .ok (.iand, len)) (hsd : aSide pc (.iand) len v0 tg sw = true) (hs : aStep fl (tOwn q) pc (.iand) len v0 tg L st M = some (P, σ1)) (hP : P) (ok : aOk fl M L st) (k : aOk fl σ1.2.2.2 σ1.2.1 σ1.2.2.1 → aG E p l e R s m args below meth c n0 z0 Q (bif aWr (.iand) then false else u) σ1) : aG E p l e R s m args below meth c n0 z0 Q u (pc, L, st, M) := by
  have hl9 : len = 1 := by simpa [aSide] using hsd
  subst hl9
  rcases st with _ | ⟨v, st⟩
  · cases hs
  · rcases v with y | r | y
    · rcases st with _ | ⟨v, st⟩
      · cases hs
      · rcases v with x | r | x
        · cases hs
          exact ag_iand X.1 X.2.1 hd (k ⟨aOkS_cons.mpr ⟨trivial, (aOkS_cons.mp (aOkS_cons.mp ok.1).2).2⟩, ok.2⟩)
        · cases hs
        · cases hs
    · cases hs
    · cases hs

theorem as_ior (X : aCx E p s m args meth c q) (hd : decode (tB q) pc = .ok (.ior, len)) (hsd : aSide pc (.ior) len v0 tg sw = true) (hs : aStep fl (tOwn q) pc (.ior) len v0 tg L st M = some (P, σ1)) (hP : P) (ok : aOk fl M L st) (k : aOk fl σ1.2.2.2 σ1.2.1 σ1.2.2.1 → aG E p l e R s m args below meth c n0 z0 Q (bif aWr (.ior) then false else u) σ1) : aG E p l e R s m args below meth c n0 z0 Q u (pc, L, st, M) := by
  have hl9 : len = 1 := by simpa [aSide] using hsd
  subst hl9
  rcases st with _ | ⟨v, st⟩
  · cases hs
  · rcases v with y | r | y
    · rcases st with _ | ⟨v, st⟩
      · cases hs
      · rcases v with x | r | x
        · cases hs
          exact ag_ior X.1 X.2.1 hd (k ⟨aOkS_cons.mpr ⟨trivial, (aOkS_cons.mp (aOkS_cons.mp ok.1).2).2⟩, ok.2⟩)
        · cases hs
        · cases hs
    · cases hs
    · cases hs

theorem as_ixor (X : aCx E p s m args meth c q) (hd : decode (tB q) pc = .ok (.ixor, len)) (hsd : aSide pc (.ixor) len v0 tg sw = true) (hs : aStep fl (tOwn q) pc (.ixor) len v0 tg L st M = some (P, σ1)) (hP : P) (ok : aOk fl M L st) (k : aOk fl σ1.2.2.2 σ1.2.1 σ1.2.2.1 → aG E p l e R s m args below meth c n0 z0 Q (bif aWr (.ixor) then false else u) σ1) : aG E p l e R s m args below meth c n0 z0 Q u (pc, L, st, M) := by
  have hl9 : len = 1 := by simpa [aSide] using hsd
  subst hl9
  rcases st with _ | ⟨v, st⟩
  · cases hs
  · rcases v with y | r | y
    · rcases st with _ | ⟨v, st⟩
      · cases hs
      · rcases v with x | r | x
        · cases hs
          exact ag_ixor X.1 X.2.1 hd (k ⟨aOkS_cons.mpr ⟨trivial, (aOkS_cons.mp (aOkS_cons.mp ok.1).2).2⟩, ok.2⟩)
        · cases hs
        · cases hs
    · cases hs
    · cases hs

theorem as_ishl (X : aCx E p s m args meth c q) (hd : decode (tB q) pc = .ok (.ishl, len)) (hsd : aSide pc (.ishl) len v0 tg sw = true) (hs : aStep fl (tOwn q) pc (.ishl) len v0 tg L st M = some (P, σ1)) (hP : P) (ok : aOk fl M L st) (k : aOk fl σ1.2.2.2 σ1.2.1 σ1.2.2.1 → aG E p l e R s m args below meth c n0 z0 Q (bif aWr (.ishl) then false else u) σ1) : aG E p l e R s m args below meth c n0 z0 Q u (pc, L, st, M) := by
  have hl9 : len = 1 := by simpa [aSide] using hsd
  subst hl9
  rcases st with _ | ⟨v, st⟩
  · cases hs
  · rcases v with y | r | y
    · rcases st with _ | ⟨v, st⟩
      · cases hs
      · rcases v with x | r | x
        · cases hs
          exact ag_ishl X.1 X.2.1 hd (k ⟨aOkS_cons.mpr ⟨trivial, (aOkS_cons.mp (aOkS_cons.mp ok.1).2).2⟩, ok.2⟩)
        · cases hs
        · cases hs
    · cases hs
    · cases hs

theorem as_ishr (X : aCx E p s m args meth c q) (hd : decode (tB q) pc = .ok (.ishr, len)) (hsd : aSide pc (.ishr) len v0 tg sw = true) (hs : aStep fl (tOwn q) pc (.ishr) len v0 tg L st M = some (P, σ1)) (hP : P) (ok : aOk fl M L st) (k : aOk fl σ1.2.2.2 σ1.2.1 σ1.2.2.1 → aG E p l e R s m args below meth c n0 z0 Q (bif aWr (.ishr) then false else u) σ1) : aG E p l e R s m args below meth c n0 z0 Q u (pc, L, st, M) := by
  have hl9 : len = 1 := by simpa [aSide] using hsd
  subst hl9
  rcases st with _ | ⟨v, st⟩
  · cases hs
  · rcases v with y | r | y
    · rcases st with _ | ⟨v, st⟩
      · cases hs
      · rcases v with x | r | x
        · cases hs
          exact ag_ishr X.1 X.2.1 hd (k ⟨aOkS_cons.mpr ⟨trivial, (aOkS_cons.mp (aOkS_cons.mp ok.1).2).2⟩, ok.2⟩)
        · cases hs
        · cases hs
    · cases hs
    · cases hs

theorem as_iushr (X : aCx E p s m args meth c q) (hd : decode (tB q) pc = .ok (.iushr, len)) (hsd : aSide pc (.iushr) len v0 tg sw = true) (hs : aStep fl (tOwn q) pc (.iushr) len v0 tg L st M = some (P, σ1)) (hP : P) (ok : aOk fl M L st) (k : aOk fl σ1.2.2.2 σ1.2.1 σ1.2.2.1 → aG E p l e R s m args below meth c n0 z0 Q (bif aWr (.iushr) then false else u) σ1) : aG E p l e R s m args below meth c n0 z0 Q u (pc, L, st, M) := by
  have hl9 : len = 1 := by simpa [aSide] using hsd
  subst hl9
  rcases st with _ | ⟨v, st⟩
  · cases hs
  · rcases v with y | r | y
    · rcases st with _ | ⟨v, st⟩
      · cases hs
      · rcases v with x | r | x
        · cases hs
          exact ag_iushr X.1 X.2.1 hd (k ⟨aOkS_cons.mpr ⟨trivial, (aOkS_cons.mp (aOkS_cons.mp ok.1).2).2⟩, ok.2⟩)
        · cases hs
        · cases hs
    · cases hs
    · cases hs

theorem as_idiv (X : aCx E p s m args meth c q) (hd : decode (tB q) pc = .ok (.idiv, len)) (hsd : aSide pc (.idiv) len v0 tg sw = true) (hs : aStep fl (tOwn q) pc (.idiv) len v0 tg L st M = some (P, σ1)) (hP : P) (ok : aOk fl M L st) (k : aOk fl σ1.2.2.2 σ1.2.1 σ1.2.2.1 → aG E p l e R s m args below meth c n0 z0 Q (bif aWr (.idiv) then false else u) σ1) : aG E p l e R s m args below meth c n0 z0 Q u (pc, L, st, M) := by
  have hl9 : len = 1 := by simpa [aSide] using hsd
  subst hl9
  rcases st with _ | ⟨v, st⟩
  · cases hs
  · rcases v with y | r | y
    · rcases st with _ | ⟨v, st⟩
      · cases hs
      · rcases v with x | r | x
        · cases hs
          exact ag_idiv X.1 X.2.1 hd hP (k ⟨aOkS_cons.mpr ⟨trivial, (aOkS_cons.mp (aOkS_cons.mp ok.1).2).2⟩, ok.2⟩)
        · cases hs
        · cases hs
    · cases hs
    · cases hs

theorem as_irem (X : aCx E p s m args meth c q) (hd : decode (tB q) pc = .ok (.irem, len)) (hsd : aSide pc (.irem) len v0 tg sw = true) (hs : aStep fl (tOwn q) pc (.irem) len v0 tg L st M = some (P, σ1)) (hP : P) (ok : aOk fl M L st) (k : aOk fl σ1.2.2.2 σ1.2.1 σ1.2.2.1 → aG E p l e R s m args below meth c n0 z0 Q (bif aWr (.irem) then false else u) σ1) : aG E p l e R s m args below meth c n0 z0 Q u (pc, L, st, M) := by
  have hl9 : len = 1 := by simpa [aSide] using hsd
  subst hl9
  rcases st with _ | ⟨v, st⟩
  · cases hs
  · rcases v with y | r | y
    · rcases st with _ | ⟨v, st⟩
      · cases hs
      · rcases v with x | r | x
        · cases hs
          exact ag_irem X.1 X.2.1 hd hP (k ⟨aOkS_cons.mpr ⟨trivial, (aOkS_cons.mp (aOkS_cons.mp ok.1).2).2⟩, ok.2⟩)
        · cases hs
        · cases hs
    · cases hs
    · cases hs

theorem as_ineg (X : aCx E p s m args meth c q) (hd : decode (tB q) pc = .ok (.ineg, len)) (hsd : aSide pc (.ineg) len v0 tg sw = true) (hs : aStep fl (tOwn q) pc (.ineg) len v0 tg L st M = some (P, σ1)) (hP : P) (ok : aOk fl M L st) (k : aOk fl σ1.2.2.2 σ1.2.1 σ1.2.2.1 → aG E p l e R s m args below meth c n0 z0 Q (bif aWr (.ineg) then false else u) σ1) : aG E p l e R s m args below meth c n0 z0 Q u (pc, L, st, M) := by
  have hl9 : len = 1 := by simpa [aSide] using hsd
  subst hl9
  rcases st with _ | ⟨v, st⟩
  · cases hs
  · rcases v with x | r | x
    · cases hs
      exact ag_ineg X.1 X.2.1 hd (k ⟨aOkS_cons.mpr ⟨trivial, (aOkS_cons.mp ok.1).2⟩, ok.2⟩)
    · cases hs
    · cases hs

theorem as_i2l (X : aCx E p s m args meth c q) (hd : decode (tB q) pc = .ok (.i2l, len)) (hsd : aSide pc (.i2l) len v0 tg sw = true) (hs : aStep fl (tOwn q) pc (.i2l) len v0 tg L st M = some (P, σ1)) (hP : P) (ok : aOk fl M L st) (k : aOk fl σ1.2.2.2 σ1.2.1 σ1.2.2.1 → aG E p l e R s m args below meth c n0 z0 Q (bif aWr (.i2l) then false else u) σ1) : aG E p l e R s m args below meth c n0 z0 Q u (pc, L, st, M) := by
  have hl9 : len = 1 := by simpa [aSide] using hsd
  subst hl9
  rcases st with _ | ⟨v, st⟩
  · cases hs
  · rcases v with x | r | x
    · cases hs
      exact ag_i2l X.1 X.2.1 hd (k ⟨aOkS_cons.mpr ⟨trivial, (aOkS_cons.mp ok.1).2⟩, ok.2⟩)
    · cases hs
    · cases hs

theorem as_i2c (X : aCx E p s m args meth c q) (hd : decode (tB q) pc = .ok (.i2c, len)) (hsd : aSide pc (.i2c) len v0 tg sw = true) (hs : aStep fl (tOwn q) pc (.i2c) len v0 tg L st M = some (P, σ1)) (hP : P) (ok : aOk fl M L st) (k : aOk fl σ1.2.2.2 σ1.2.1 σ1.2.2.1 → aG E p l e R s m args below meth c n0 z0 Q (bif aWr (.i2c) then false else u) σ1) : aG E p l e R s m args below meth c n0 z0 Q u (pc, L, st, M) := by
  have hl9 : len = 1 := by simpa [aSide] using hsd
  subst hl9
  rcases st with _ | ⟨v, st⟩
  · cases hs
  · rcases v with x | r | x
    · cases hs
      exact ag_i2c X.1 X.2.1 hd (k ⟨aOkS_cons.mpr ⟨trivial, (aOkS_cons.mp ok.1).2⟩, ok.2⟩)
    · cases hs
    · cases hs

theorem as_i2b (X : aCx E p s m args meth c q) (hd : decode (tB q) pc = .ok (.i2b, len)) (hsd : aSide pc (.i2b) len v0 tg sw = true) (hs : aStep fl (tOwn q) pc (.i2b) len v0 tg L st M = some (P, σ1)) (hP : P) (ok : aOk fl M L st) (k : aOk fl σ1.2.2.2 σ1.2.1 σ1.2.2.1 → aG E p l e R s m args below meth c n0 z0 Q (bif aWr (.i2b) then false else u) σ1) : aG E p l e R s m args below meth c n0 z0 Q u (pc, L, st, M) := by
  have hl9 : len = 1 := by simpa [aSide] using hsd
  subst hl9
  rcases st with _ | ⟨v, st⟩
  · cases hs
  · rcases v with x | r | x
    · cases hs
      exact ag_i2b X.1 X.2.1 hd (k ⟨aOkS_cons.mpr ⟨trivial, (aOkS_cons.mp ok.1).2⟩, ok.2⟩)
    · cases hs
    · cases hs

theorem as_lcmp (X : aCx E p s m args meth c q) (hd : decode (tB q) pc = .ok (.lcmp, len)) (hsd : aSide pc (.lcmp) len v0 tg sw = true) (hs : aStep fl (tOwn q) pc (.lcmp) len v0 tg L st M = some (P, σ1)) (hP : P) (ok : aOk fl M L st) (k : aOk fl σ1.2.2.2 σ1.2.1 σ1.2.2.1 → aG E p l e R s m args below meth c n0 z0 Q (bif aWr (.lcmp) then false else u) σ1) : aG E p l e R s m args below meth c n0 z0 Q u (pc, L, st, M) := by
  have hl9 : len = 1 := by simpa [aSide] using hsd
  subst hl9
  rcases st with _ | ⟨v, st⟩
  · cases hs
  · rcases v with y | r | y
    · cases hs
    · cases hs
    · rcases st with _ | ⟨v, st⟩
      · cases hs
      · rcases v with x | r | x
        · cases hs
        · cases hs
        · cases hs
          exact ag_lcmp X.1 X.2.1 hd (k ⟨aOkS_cons.mpr ⟨trivial, (aOkS_cons.mp (aOkS_cons.mp ok.1).2).2⟩, ok.2⟩)

theorem as_dup (X : aCx E p s m args meth c q) (hd : decode (tB q) pc = .ok (.dup, len)) (hsd : aSide pc (.dup) len v0 tg sw = true) (hs : aStep fl (tOwn q) pc (.dup) len v0 tg L st M = some (P, σ1)) (hP : P) (ok : aOk fl M L st) (k : aOk fl σ1.2.2.2 σ1.2.1 σ1.2.2.1 → aG E p l e R s m args below meth c n0 z0 Q (bif aWr (.dup) then false else u) σ1) : aG E p l e R s m args below meth c n0 z0 Q u (pc, L, st, M) := by
  have hl9 : len = 1 := by simpa [aSide] using hsd
  subst hl9
  rcases st with _ | ⟨v, st⟩
  · cases hs
  · rcases v with x | r | x
    · cases hs
      exact ag_dup_i X.1 X.2.1 hd (k ⟨aOkS_cons.mpr ⟨trivial, ok.1⟩, ok.2⟩)
    · cases hs
      exact ag_dup_r X.1 X.2.1 hd (k ⟨aOkS_cons.mpr ⟨(aOkS_cons.mp ok.1).1, ok.1⟩, ok.2⟩)
    · cases hs

theorem as_pop (X : aCx E p s m args meth c q) (hd : decode (tB q) pc = .ok (.pop, len)) (hsd : aSide pc (.pop) len v0 tg sw = true) (hs : aStep fl (tOwn q) pc (.pop) len v0 tg L st M = some (P, σ1)) (hP : P) (ok : aOk fl M L st) (k : aOk fl σ1.2.2.2 σ1.2.1 σ1.2.2.1 → aG E p l e R s m args below meth c n0 z0 Q (bif aWr (.pop) then false else u) σ1) : aG E p l e R s m args below meth c n0 z0 Q u (pc, L, st, M) := by
  have hl9 : len = 1 := by simpa [aSide] using hsd
  subst hl9
  rcases st with _ | ⟨v, st⟩
  · cases hs
  · rcases v with x | r | x
    · cases hs
      exact ag_pop_i X.1 X.2.1 hd (k ⟨(aOkS_cons.mp ok.1).2, ok.2⟩)
    · cases hs
      exact ag_pop_r X.1 X.2.1 hd (k ⟨(aOkS_cons.mp ok.1).2, ok.2⟩)
    · cases hs

theorem as_dup2 (X : aCx E p s m args meth c q) (hd : decode (tB q) pc = .ok (.dup2, len)) (hsd : aSide pc (.dup2) len v0 tg sw = true) (hs : aStep fl (tOwn q) pc (.dup2) len v0 tg L st M = some (P, σ1)) (hP : P) (ok : aOk fl M L st) (k : aOk fl σ1.2.2.2 σ1.2.1 σ1.2.2.1 → aG E p l e R s m args below meth c n0 z0 Q (bif aWr (.dup2) then false else u) σ1) : aG E p l e R s m args below meth c n0 z0 Q u (pc, L, st, M) := by
  have hl9 : len = 1 := by simpa [aSide] using hsd
  subst hl9
  rcases st with _ | ⟨v, st⟩
  · cases hs
  · rcases v with x | r | x
    · rcases st with _ | ⟨v, st⟩
      · cases hs
      · rcases v with y | r | y
        · cases hs
        · cases hs
          exact ag_dup2 X.1 X.2.1 hd (k ⟨aOkS_cons.mpr ⟨trivial, aOkS_cons.mpr ⟨(aOkS_cons.mp (aOkS_cons.mp ok.1).2).1, ok.1⟩⟩, ok.2⟩)
        · cases hs
    · cases hs
    · cases hs

theorem as_goto (X : aCx E p s m args meth c q) {n : Int} (hd : decode (tB q) pc = .ok (.goto n, len)) (hsd : aSide pc (.goto n) len v0 tg sw = true) (hs : aStep fl (tOwn q) pc (.goto n) len v0 tg L st M = some (P, σ1)) (hP : P) (ok : aOk fl M L st) (k : aOk fl σ1.2.2.2 σ1.2.1 σ1.2.2.1 → aG E p l e R s m args below meth c n0 z0 Q (bif aWr (.goto n) then false else u) σ1) : aG E p l e R s m args below meth c n0 z0 Q u (pc, L, st, M) := by
  simp only [aSide, Bool.and_eq_true, beq_iff_eq] at hsd
  obtain ⟨hl9, hg⟩ := hsd
  subst hl9
  cases hs
  exact ag_goto X.1 X.2.1 hd hg (k ok)

theorem as_aconst_null (X : aCx E p s m args meth c q) (hd : decode (tB q) pc = .ok (.aconst_null, len)) (hsd : aSide pc (.aconst_null) len v0 tg sw = true) (hs : aStep fl (tOwn q) pc (.aconst_null) len v0 tg L st M = some (P, σ1)) (hP : P) (ok : aOk fl M L st) (k : aOk fl σ1.2.2.2 σ1.2.1 σ1.2.2.1 → aG E p l e R s m args below meth c n0 z0 Q (bif aWr (.aconst_null) then false else u) σ1) : aG E p l e R s m args below meth c n0 z0 Q u (pc, L, st, M) := by
  have hl9 : len = 1 := by simpa [aSide] using hsd
  subst hl9
  cases hs
  exact ag_null X.1 X.2.1 hd (k ⟨aOkS_cons.mpr ⟨Or.inl (by decide), ok.1⟩, ok.2⟩)

theorem as_iaload (X : aCx E p s m args meth c q) (hscr : tOwn q = 13 → ∀ (i : Int32) (st9 : List aV), st = aI i :: aR 2 0 :: st9 → vp_in i (rK M 0).2 → aG E p l e R s m args below meth c n0 z0 Q u (pc + 1, L, aI (rI M 0 i.toNatClampNeg) :: st9, M) → aG E p l e R s m args below meth c n0 z0 Q u (pc, L, aI i :: aR 2 0 :: st9, M)) (hd : decode (tB q) pc = .ok (.iaload, len)) (hsd : aSide pc (.iaload) len v0 tg sw = true) (hs : aStep fl (tOwn q) pc (.iaload) len v0 tg L st M = some (P, σ1)) (hP : P) (ok : aOk fl M L st) (k : aOk fl σ1.2.2.2 σ1.2.1 σ1.2.2.1 → aG E p l e R s m args below meth c n0 z0 Q (bif aWr (.iaload) then false else u) σ1) : aG E p l e R s m args below meth c n0 z0 Q u (pc, L, st, M) := by
  have hl9 : len = 1 := by simpa [aSide] using hsd
  subst hl9
  rcases st with _ | ⟨v, st⟩
  · cases hs
  · rcases v with i | r | i
    · rcases st with _ | ⟨v, st⟩
      · cases hs
      · rcases v with x | r | x
        · cases hs
        · obtain ⟨t, k9⟩ := r
          have o9 := aOkS_cons.mp ok.1
          have o8 := aOkS_cons.mp o9.2
          unfold aStep at hs
          dsimp only at hs
          by_cases h4 : t = 4
          · subst h4
            cases hs
            rcases o8.1 with h9 | h9
            · omega
            · exact ag_iald X.1 X.2.1 X.2.2.2.2.2.1.2.1 h9.1 h9.2.1 h9.2.2 hP hd (k ⟨aOkS_cons.mpr ⟨trivial, o8.2⟩, ok.2⟩)
          · by_cases h2 : t = 2 ∧ k9 = 0 ∧ tOwn q = 13
            · obtain ⟨rfl, rfl, h13⟩ := h2
              rw [show (((2 : Nat) == 4) || (((2 : Nat) == 2) && (((0 : Nat) == 0) && (tOwn q == 13)))) = true by simp [h13]] at hs
              cases hs
              exact hscr h13 i st rfl hP (k ⟨aOkS_cons.mpr ⟨trivial, o8.2⟩, ok.2⟩)
            · rw [show ((t == 4) || ((t == 2) && ((k9 == 0) && (tOwn q == 13)))) = false by
                rw [show (t == 4) = false by simp [h4], Bool.false_or]
                cases ha : (t == 2) with
                | false => rfl
                | true =>
                  cases hk : (k9 == 0) with
                  | false => rfl
                  | true =>
                    cases hb : (tOwn q == 13) with
                    | false => rfl
                    | true => exact absurd ⟨by simpa using ha, by simpa using hk, by simpa using hb⟩ h2] at hs
              cases hs
        · cases hs
    · cases hs
    · cases hs

theorem as_baload (X : aCx E p s m args meth c q) (hd : decode (tB q) pc = .ok (.baload, len)) (hsd : aSide pc (.baload) len v0 tg sw = true) (hs : aStep fl (tOwn q) pc (.baload) len v0 tg L st M = some (P, σ1)) (hP : P) (ok : aOk fl M L st) (k : aOk fl σ1.2.2.2 σ1.2.1 σ1.2.2.1 → aG E p l e R s m args below meth c n0 z0 Q (bif aWr (.baload) then false else u) σ1) : aG E p l e R s m args below meth c n0 z0 Q u (pc, L, st, M) := by
  have hl9 : len = 1 := by simpa [aSide] using hsd
  subst hl9
  rcases st with _ | ⟨v, st⟩
  · cases hs
  · rcases v with i | r | i
    · rcases st with _ | ⟨v, st⟩
      · cases hs
      · rcases v with x | r | x
        · cases hs
        · obtain ⟨t, k9⟩ := r
          have o9 := aOkS_cons.mp ok.1
          have o8 := aOkS_cons.mp o9.2
          unfold aStep at hs
          dsimp only at hs
          by_cases h4 : t = 5
          · subst h4
            cases hs
            rcases o8.1 with h9 | h9
            · omega
            · exact ag_zald X.1 X.2.1 X.2.2.2.2.2.1.2.2.1 h9.1 h9.2.1 h9.2.2 hP hd (k ⟨aOkS_cons.mpr ⟨trivial, o8.2⟩, ok.2⟩)
          · by_cases h2 : t = 7
            · subst h2
              cases hs
              rcases o8.1 with h9 | h9
              · omega
              · exact ag_bald X.1 X.2.1 X.2.2.2.2.2.1.2.2.2.2.1 h9.1 h9.2.1 h9.2.2 hP hd (k ⟨aOkS_cons.mpr ⟨trivial, o8.2⟩, ok.2⟩)
            · rw [show ((t == 5) || (t == 7)) = false by simp [h4, h2]] at hs
              cases hs
        · cases hs
    · cases hs
    · cases hs

theorem as_laload (X : aCx E p s m args meth c q) (hd : decode (tB q) pc = .ok (.laload, len)) (hsd : aSide pc (.laload) len v0 tg sw = true) (hs : aStep fl (tOwn q) pc (.laload) len v0 tg L st M = some (P, σ1)) (hP : P) (ok : aOk fl M L st) (k : aOk fl σ1.2.2.2 σ1.2.1 σ1.2.2.1 → aG E p l e R s m args below meth c n0 z0 Q (bif aWr (.laload) then false else u) σ1) : aG E p l e R s m args below meth c n0 z0 Q u (pc, L, st, M) := by
  have hl9 : len = 1 := by simpa [aSide] using hsd
  subst hl9
  rcases st with _ | ⟨v, st⟩
  · cases hs
  · rcases v with i | r | i
    · rcases st with _ | ⟨v, st⟩
      · cases hs
      · rcases v with x | r | x
        · cases hs
        · obtain ⟨t, k9⟩ := r
          have o9 := aOkS_cons.mp ok.1
          have o8 := aOkS_cons.mp o9.2
          unfold aStep at hs
          dsimp only at hs
          by_cases h4 : t = 6
          · subst h4
            cases hs
            rcases o8.1 with h9 | h9
            · omega
            · exact ag_lald X.1 X.2.1 X.2.2.2.2.2.1.2.2.2.1 h9.1 h9.2.1 h9.2.2 hP hd (k ⟨aOkS_cons.mpr ⟨trivial, o8.2⟩, ok.2⟩)
          · rw [show (t == 6) = false by simp [h4]] at hs
            cases hs
        · cases hs
    · cases hs
    · cases hs

theorem as_iastore (X : aCx E p s m args meth c q) (hd : decode (tB q) pc = .ok (.iastore, len)) (hsd : aSide pc (.iastore) len v0 tg sw = true) (hs : aStep fl (tOwn q) pc (.iastore) len v0 tg L st M = some (P, σ1)) (hP : P) (ok : aOk fl M L st) (k : aOk fl σ1.2.2.2 σ1.2.1 σ1.2.2.1 → aG E p l e R s m args below meth c n0 z0 Q (bif aWr (.iastore) then false else u) σ1) : aG E p l e R s m args below meth c n0 z0 Q u (pc, L, st, M) := by
  have hl9 : len = 1 := by simpa [aSide] using hsd
  subst hl9
  rcases st with _ | ⟨v, st⟩
  · cases hs
  · rcases v with x | x | x
    · rcases st with _ | ⟨v, st⟩
      · cases hs
      · rcases v with i | r | i
        · rcases st with _ | ⟨v, st⟩
          · cases hs
          · rcases v with y | r | y
            · cases hs
            · obtain ⟨t, k9⟩ := r
              have o9 := aOkS_cons.mp ok.1
              have o8 := aOkS_cons.mp o9.2
              have o7 := aOkS_cons.mp o8.2
              unfold aStep at hs
              dsimp only at hs
              by_cases h4 : t = 4
              · subst h4
                cases hs
                rcases o7.1 with h9 | h9
                · omega
                · exact ag_iast X.1 X.2.1 X.2.2.2.2.2.1.2.1 h9.1 h9.2.1 h9.2.2 hP hd (k ⟨aOkS_same (aSame_wI _ _ _ _) o7.2, aOkL_same (aSame_wI _ _ _ _) ok.2.1, aWf_same (aSame_wI _ _ _ _) (fun _ => rfl) ok.2.2⟩)
              · rw [show (t == 4) = false by simp [h4]] at hs
                cases hs
            · cases hs
        · cases hs
        · cases hs
    · cases hs
    · cases hs

theorem as_bastore (X : aCx E p s m args meth c q) (hd : decode (tB q) pc = .ok (.bastore, len)) (hsd : aSide pc (.bastore) len v0 tg sw = true) (hs : aStep fl (tOwn q) pc (.bastore) len v0 tg L st M = some (P, σ1)) (hP : P) (ok : aOk fl M L st) (k : aOk fl σ1.2.2.2 σ1.2.1 σ1.2.2.1 → aG E p l e R s m args below meth c n0 z0 Q (bif aWr (.bastore) then false else u) σ1) : aG E p l e R s m args below meth c n0 z0 Q u (pc, L, st, M) := by
  have hl9 : len = 1 := by simpa [aSide] using hsd
  subst hl9
  rcases st with _ | ⟨v, st⟩
  · cases hs
  · rcases v with x | x | x
    · rcases st with _ | ⟨v, st⟩
      · cases hs
      · rcases v with i | r | i
        · rcases st with _ | ⟨v, st⟩
          · cases hs
          · rcases v with y | r | y
            · cases hs
            · obtain ⟨t, k9⟩ := r
              have o9 := aOkS_cons.mp ok.1
              have o8 := aOkS_cons.mp o9.2
              have o7 := aOkS_cons.mp o8.2
              unfold aStep at hs
              dsimp only at hs
              by_cases h4 : t = 5
              · subst h4
                cases hs
                rcases o7.1 with h9 | h9
                · omega
                · exact ag_zast X.1 X.2.1 X.2.2.2.2.2.1.2.2.1 h9.1 h9.2.1 h9.2.2 hP.1 hP.2 hd (k ⟨aOkS_same (aSame_wI _ _ _ _) o7.2, aOkL_same (aSame_wI _ _ _ _) ok.2.1, aWf_same (aSame_wI _ _ _ _) (fun _ => rfl) ok.2.2⟩)
              · rw [show (t == 5) = false by simp [h4]] at hs
                by_cases h7 : t = 7
                · subst h7
                  cases hs
                  rcases o7.1 with h9 | h9
                  · omega
                  · exact ag_bast X.1 X.2.1 X.2.2.2.2.2.1.2.2.2.2.1 h9.1 h9.2.1 h9.2.2 hP hd (k ⟨aOkS_same (aSame_wI _ _ _ _) o7.2, aOkL_same (aSame_wI _ _ _ _) ok.2.1, aWf_same (aSame_wI _ _ _ _) (fun _ => rfl) ok.2.2⟩)
                · rw [show (t == 7) = false by simp [h7]] at hs
                  cases hs
            · cases hs
        · cases hs
        · cases hs
    · cases hs
    · cases hs

theorem as_lastore (X : aCx E p s m args meth c q) (hd : decode (tB q) pc = .ok (.lastore, len)) (hsd : aSide pc (.lastore) len v0 tg sw = true) (hs : aStep fl (tOwn q) pc (.lastore) len v0 tg L st M = some (P, σ1)) (hP : P) (ok : aOk fl M L st) (k : aOk fl σ1.2.2.2 σ1.2.1 σ1.2.2.1 → aG E p l e R s m args below meth c n0 z0 Q (bif aWr (.lastore) then false else u) σ1) : aG E p l e R s m args below meth c n0 z0 Q u (pc, L, st, M) := by
  have hl9 : len = 1 := by simpa [aSide] using hsd
  subst hl9
  rcases st with _ | ⟨v, st⟩
  · cases hs
  · rcases v with x | x | x
    · cases hs
    · cases hs
    · rcases st with _ | ⟨v, st⟩
      · cases hs
      · rcases v with i | r | i
        · rcases st with _ | ⟨v, st⟩
          · cases hs
          · rcases v with y | r | y
            · cases hs
            · obtain ⟨t, k9⟩ := r
              have o9 := aOkS_cons.mp ok.1
              have o8 := aOkS_cons.mp o9.2
              have o7 := aOkS_cons.mp o8.2
              unfold aStep at hs
              dsimp only at hs
              by_cases h4 : t = 6
              · subst h4
                cases hs
                rcases o7.1 with h9 | h9
                · omega
                · exact ag_last X.1 X.2.1 X.2.2.2.2.2.1.2.2.2.1 h9.1 h9.2.1 h9.2.2 hP hd (k ⟨aOkS_same (aSame_wJ _ _ _ _) o7.2, aOkL_same (aSame_wJ _ _ _ _) ok.2.1, aWf_same (aSame_wJ _ _ _ _) (fun _ => rfl) ok.2.2⟩)
              · rw [show (t == 6) = false by simp [h4]] at hs
                cases hs
            · cases hs
        · cases hs
        · cases hs

end AS
