/-! Members of the library: Math.max, Math.min, Object's constructor (their words as hypotheses). -/
section AL
variable {E : aE} {p : Program} {l : Launch} {e : Env} {R : Room} {s : State} {m : MethodId} {args : Array Value} {below : List Frame} {meth : Method} {c : Code} {Q : State → Prop} {n0 z0 : Nat} {pc q index : Nat} {L : List (Option aV)} {st : List aV} {M : aM} {u : Bool} {x y : Int32}
theorem ag_max (X : aCx E p s m args meth c q) (hlk : Cond.methodLink (tCn (tOwn q)) index Lib.Math.max.name ∈ aTbl) (hst : Cond.static Lib.Math.max.name ∈ aTbl) (hini : Cond.initialized "java/lang/Math" ∈ aTbl) (hco : Cond.code Lib.Math.max.name Lib.Math.max.code 2 (some .int) ∈ aTbl) (hfr : 1 ≤ R.frames) (hlo : 40 ≤ R.locals) (hcs : aN M - n0 ≤ R.cells ∧ aZ M - z0 ≤ R.slots) (hLl : L.length = tMl q) (hsl : aWt st ≤ 8) (hd : decode (tB q) pc = .ok (.invokestatic index, 3))
    (k : aG E p l e R s m args below meth c n0 z0 Q u (pc + 3, L, aI (if x < y then y else x) :: st, M)) : aG E p l e R s m args below meth c n0 z0 Q u (pc, L, aI y :: aI x :: st, M) := by
  intro H locs ls hW hq hu hl
  have hc8 := cat_sum (E := E) st hsl
  exact va_mmax X.1 X.2.1 (by rw [X.2.2.1, hl.1]; exact hLl.symm) X.2.2.2.1 (X.2.2.2.2.1 _ hlk) (X.2.2.2.2.1 _ hst) (X.2.2.2.2.1 _ hini) (X.2.2.2.2.1 _ hco) hfr (by omega) hcs.1 hcs.2 hd (k H locs ls hW hq hu hl)
theorem ag_min (X : aCx E p s m args meth c q) (hlk : Cond.methodLink (tCn (tOwn q)) index Lib.Math.min.name ∈ aTbl) (hst : Cond.static Lib.Math.min.name ∈ aTbl) (hini : Cond.initialized "java/lang/Math" ∈ aTbl) (hco : Cond.code Lib.Math.min.name Lib.Math.min.code 2 (some .int) ∈ aTbl) (hfr : 1 ≤ R.frames) (hlo : 40 ≤ R.locals) (hcs : aN M - n0 ≤ R.cells ∧ aZ M - z0 ≤ R.slots) (hLl : L.length = tMl q) (hsl : aWt st ≤ 8) (hd : decode (tB q) pc = .ok (.invokestatic index, 3))
    (k : aG E p l e R s m args below meth c n0 z0 Q u (pc + 3, L, aI (if y < x then y else x) :: st, M)) : aG E p l e R s m args below meth c n0 z0 Q u (pc, L, aI y :: aI x :: st, M) := by
  intro H locs ls hW hq hu hl
  have hc8 := cat_sum (E := E) st hsl
  exact va_mmin X.1 X.2.1 (by rw [X.2.2.1, hl.1]; exact hLl.symm) X.2.2.2.1 (X.2.2.2.2.1 _ hlk) (X.2.2.2.2.1 _ hst) (X.2.2.2.2.1 _ hini) (X.2.2.2.2.1 _ hco) hfr (by omega) hcs.1 hcs.2 hd (k H locs ls hW hq hu hl)
theorem ag_objinit (X : aCx E p s m args meth c q) {t k9 : Nat} (ht : t ≠ 0) (hlk : Cond.methodLink (tCn (tOwn q)) index Lib.objectInit ∈ aTbl) (hin : Cond.instanceMethod Lib.objectInit ∈ aTbl) (hco : Cond.code Lib.objectInit ⟨#[0xb1]⟩ 1 none ∈ aTbl) (hfr : 1 ≤ R.frames) (hlo : 40 ≤ R.locals) (hLl : L.length = tMl q) (hsl : aWt st ≤ 8) (hd : decode (tB q) pc = .ok (.invokespecial index, 3))
    (k : aG E p l e R s m args below meth c n0 z0 Q u (pc + 3, L, st, M)) : aG E p l e R s m args below meth c n0 z0 Q u (pc, L, aR t k9 :: st, M) := by
  intro H locs ls hW hq hu hl
  have hc8 := cat_sum (E := E) st hsl
  have hcv : cv E (aR t k9) = .ref (aAd E t k9) := by
    show (if t = 0 then Value.null else .ref (aAd E t k9)) = _
    rw [if_neg ht]
  show W p l e R s m args below meth c H locs _ _ Q (F0 m pc ls (cv E (aR t k9) :: st.map (cv E)))
  rw [hcv]
  refine W.objInit X.1 X.2.1 X.2.2.2.1 (X.2.2.2.2.1 _ hlk) (X.2.2.2.2.1 _ hin) (X.2.2.2.2.1 _ hco) rfl (by rw [X.2.2.1]; exact hl.1.trans hLl) rfl hd hfr ?_ (k H locs ls hW hq hu hl)
  show 2 * 0 + _ + 12 ≤ _
  omega
theorem ag_ldcI (X : aCx E p s m args meth c q) (hco : Cond.constant (tCn (tOwn q)) index x ∈ aTbl) (hd : decode (tB q) pc = .ok (.ldc index, 2)) (k : aG E p l e R s m args below meth c n0 z0 Q u (pc + 2, L, aI x :: st, M)) : aG E p l e R s m args below meth c n0 z0 Q u (pc, L, st, M) :=
  fun H locs ls hW hq hu hl => lv_ldc X.1 X.2.1 X.2.2.2.1 (X.2.2.2.2.1 _ hco) hd (k H locs ls hW hq hu hl)
theorem ag_ldcwI (X : aCx E p s m args meth c q) (hco : Cond.constant (tCn (tOwn q)) index x ∈ aTbl) (hd : decode (tB q) pc = .ok (.ldc_w index, 3)) (k : aG E p l e R s m args below meth c n0 z0 Q u (pc + 3, L, aI x :: st, M)) : aG E p l e R s m args below meth c n0 z0 Q u (pc, L, st, M) :=
  fun H locs ls hW hq hu hl => lv_ldcw X.1 X.2.1 X.2.2.2.1 (X.2.2.2.2.1 _ hco) hd (k H locs ls hW hq hu hl)
theorem ag_ldcS (X : aCx E p s m args meth c q) {tx : String} {id : Nat} (hZ : vk_R (tCn (tOwn q)) index tx (E.2.2.1 id) s) (hd : decode (tB q) pc = .ok (.ldc index, 2)) (k : aG E p l e R s m args below meth c n0 z0 Q u (pc + 2, L, aR 1 id :: st, M)) : aG E p l e R s m args below meth c n0 z0 Q u (pc, L, st, M) :=
  fun H locs ls hW hq hu hl => va_ldcS X.1 X.2.1 X.2.2.2.1 hZ hd (k H locs ls hW hq hu hl)
end AL
