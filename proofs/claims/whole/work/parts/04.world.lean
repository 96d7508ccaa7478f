/-! THE WORLD of the abstract machine's memory, in the heap; one-instruction laws over it. -/
/-- where things lie: the address below the first new cell, the script's, the texts', the heap at the start, the classes, the array classes by their tags -/
abbrev aE : Type := Nat × Nat × (Nat → Nat) × Heap × va_G × (Nat → ClassId)
def aAd (E : aE) (t k : Nat) : Nat := if t = 1 then E.2.2.1 k else if t = 2 then E.2.1 else E.1 + k
def cv (E : aE) : aV → Value
  | Sum.inl x => .int x
  | Sum.inr (Sum.inl (t, k)) => if t = 0 then .null else .ref (aAd E t k)
  | Sum.inr (Sum.inr x) => .long x
/-- a reference that lies in a cell: 0 is null -/
def cr (E : aE) (t k : Nat) : Value := if k = 0 then .null else .ref (aAd E t k)
def cf (E : aE) (M : aM) (k j : Nat) (f : aF) : Value := match f.1 with
  | 0 => .int (rI M k j)
  | 1 => .int (rI M k j)
  | 2 => cr E f.2.1 (rR M k j)
  | 3 => cr E f.2.1 (rR M k j)
  | _ => .long (rJ M k j)
def aFd (c j : Nat) : aF := (aFs c).getD j (0, 0, 0)
/-- the cell of id k is as the memory has it -/
def aCell (E : aE) (M : aM) (k : Nat) (H : Heap) : Prop :=
  ((rK M k).1 = 4 → H[E.1 + k]? = some (arrV (E.2.2.2.2.2 4) (rK M k).2 (fun j => .int (rI M k j)))) ∧
  ((rK M k).1 = 5 → H[E.1 + k]? = some (arrV (E.2.2.2.2.2 5) (rK M k).2 (fun j => .int (rI M k j)))) ∧
  ((rK M k).1 = 6 → H[E.1 + k]? = some (arrV (E.2.2.2.2.2 6) (rK M k).2 (fun j => .long (rJ M k j)))) ∧
  ((rK M k).1 = 7 → H[E.1 + k]? = some (arrV (E.2.2.2.2.2 7) (rK M k).2 (fun j => .int (rI M k j)))) ∧
  (∀ c, (rK M k).1 = 100 + c → H[E.1 + k]? = some (arrV (E.2.2.2.2.2 (100 + c)) (rK M k).2 (fun j => cr E (10 + c) (rR M k j)))) ∧
  (∀ c, c < 90 → (rK M k).1 = 10 + c → ∃ r, aCls[c]? = some r ∧ t_OB (E.1 + k) (E.2.2.2.2.1.1 c) r.2.2 (E.2.2.2.2.1.2 c) H (fun j => cf E M k j (aFd c j)))
/-- the memory lies in the heap; below, nothing has moved -/
def aWd (E : aE) (M : aM) (H : Heap) : Prop := H.size = E.1 + aN M ∧ (∀ k, 0 < k → k < aN M → aCell E M k H) ∧ ∀ q, q ≤ E.1 → H[q]? = E.2.2.2.1[q]?
/-- locals by their places -/
def aLv (E : aE) (ls : Array Slot) (L : List (Option aV)) : Prop := ls.size = L.length ∧ lv_wf ls ∧ ∀ (i : Nat) (v : aV), L[i]? = some (some v) → ls[i]? = some (.val (cv E v)) ∧ (cv E v).category = 1
theorem aLd_some {L : List (Option aV)} {n : Nat} {v : aV} (h : aLd L n = some v) : L[n]? = some (some v) := by
  unfold aLd at h
  rw [List.getD_eq_getElem?_getD] at h
  cases hL : L[n]? with
  | none => rw [hL] at h; cases h
  | some x => rw [hL] at h; exact congrArg some h
theorem aLv_store {E : aE} {ls : Array Slot} {L : List (Option aV)} {i : Nat} {v : aV} (h : aLv E ls L) (hi : i < L.length) (hc : (cv E v).category = 1) : ∃ ls', storeLocals ls i (cv E v) = some ls' ∧ aLv E ls' (L.set i (some v)) := by
  obtain ⟨hs, hw, hv⟩ := h
  have h0 : lv_has ls L.length [] := ⟨hs, hw, fun q hq => by cases hq⟩
  obtain ⟨ls', e', h'⟩ := lv_store1 (v := cv E v) h0 hi hc
  refine ⟨ls', e', by rw [List.length_set]; exact h'.1, h'.2.1, fun j w hj => ?_⟩
  by_cases hji : j = i
  · subst hji
    rw [List.getElem?_set_self hi] at hj
    cases hj
    exact ⟨h'.2.2 (j, cv E v) List.mem_cons_self, hc⟩
  · rw [List.getElem?_set_ne (Ne.symm hji)] at hj
    obtain ⟨a1, a2⟩ := hv j w hj
    have h1 : lv_has ls L.length [(j, cv E w)] := ⟨hs, hw, fun q hq => by rw [List.mem_singleton.mp hq]; exact a1⟩
    obtain ⟨ls2, e2, h2⟩ := lv_store1 (v := cv E v) h1 hi hc
    rw [e'] at e2
    cases e2
    refine ⟨h2.2.2 (j, cv E w) (List.mem_cons_of_mem _ (List.mem_filter.mpr ⟨List.mem_singleton.mpr rfl, ?_⟩)), a2⟩
    simp [hji, a2]
section AG
variable {E : aE} {p : Program} {l : Launch} {e : Env} {R : Room} {s : State} {m : MethodId} {args : Array Value} {below : List Frame} {meth : Method} {c : Code} {Q : State → Prop} {cc : ByteArray} {n0 z0 : Nat} {pc : Nat} {L : List (Option aV)} {st : List aV} {M : aM} {u : Bool}
/-- the machine, at the frame σ over a heap that holds σ's memory, comes to a state with Q -/
def aG (E : aE) (p : Program) (l : Launch) (e : Env) (R : Room) (s : State) (m : MethodId) (args : Array Value) (below : List Frame) (meth : Method) (c : Code) (n0 z0 : Nat) (Q : State → Prop) (u : Bool) (σ : aS) : Prop :=
  ∀ (H : Heap) (locs : List Loc) (ls : Array Slot), aWd E σ.2.2.2 H → (∀ q ∈ locs, E.1 < q.base) → (u = true → H = s.heap ∧ locs = []) → aLv E ls σ.2.1 → W p l e R s m args below meth c H locs (aN σ.2.2.2 - n0) (aZ σ.2.2.2 - z0) Q (F0 m σ.1 ls (σ.2.2.1.map (cv E)))
theorem ag_iconst (hx : p.tables.exec = Jvm.exec) (hb : c.code = cc) {n : Int} {v0 : Int32} (hd : decode cc pc = .ok (.iconst n, 1)) (hv : Int32.ofInt n = v0) (k : aG E p l e R s m args below meth c n0 z0 Q u (pc + 1, L, aI v0 :: st, M)) : aG E p l e R s m args below meth c n0 z0 Q u (pc, L, st, M) :=
  fun H locs ls hW hq hu hl => lv_iconst hx hb hd hv (k H locs ls hW hq hu hl)
theorem ag_bipush (hx : p.tables.exec = Jvm.exec) (hb : c.code = cc) {n : Int} {v0 : Int32} (hd : decode cc pc = .ok (.bipush n, 2)) (hv : (Int8.ofInt n).toInt32 = v0) (k : aG E p l e R s m args below meth c n0 z0 Q u (pc + 2, L, aI v0 :: st, M)) : aG E p l e R s m args below meth c n0 z0 Q u (pc, L, st, M) :=
  fun H locs ls hW hq hu hl => lv_bipush hx hb hd hv (k H locs ls hW hq hu hl)
theorem ag_sipush (hx : p.tables.exec = Jvm.exec) (hb : c.code = cc) {n : Int} {v0 : Int32} (hd : decode cc pc = .ok (.sipush n, 3)) (hv : (Int16.ofInt n).toInt32 = v0) (k : aG E p l e R s m args below meth c n0 z0 Q u (pc + 3, L, aI v0 :: st, M)) : aG E p l e R s m args below meth c n0 z0 Q u (pc, L, st, M) :=
  fun H locs ls hW hq hu hl => lv_sipush hx hb hd hv (k H locs ls hW hq hu hl)
theorem ag_iload_n (hx : p.tables.exec = Jvm.exec) (hb : c.code = cc) {i : Fin 4} {x : Int32} (hd : decode cc pc = .ok (.iload_n i, 1)) (hv : aLd L i.val = some (Sum.inl x)) (k : aG E p l e R s m args below meth c n0 z0 Q u (pc + 1, L, aI x :: st, M)) : aG E p l e R s m args below meth c n0 z0 Q u (pc, L, st, M) :=
  fun H locs ls hW hq hu hl => lv_iload_n hx hb hd rfl (hl.2.2 _ _ (aLd_some hv)).1 (k H locs ls hW hq hu hl)
theorem ag_iload (hx : p.tables.exec = Jvm.exec) (hb : c.code = cc) {i : Nat} {x : Int32} (hd : decode cc pc = .ok (.iload i, 2)) (hv : aLd L i = some (Sum.inl x)) (k : aG E p l e R s m args below meth c n0 z0 Q u (pc + 2, L, aI x :: st, M)) : aG E p l e R s m args below meth c n0 z0 Q u (pc, L, st, M) :=
  fun H locs ls hW hq hu hl => lv_iload hx hb hd (hl.2.2 _ _ (aLd_some hv)).1 (k H locs ls hW hq hu hl)
theorem cv_ref {E : aE} (r : Nat × Nat) : (cv E (Sum.inr (Sum.inl r)) = .null) ∨ (cv E (Sum.inr (Sum.inl r)) = .ref (aAd E r.1 r.2)) := by
  obtain ⟨t, k⟩ := r
  by_cases h : t = 0
  · exact Or.inl (by simp [cv, h])
  · exact Or.inr (by simp [cv, h])
theorem ag_aload_n (hx : p.tables.exec = Jvm.exec) (hb : c.code = cc) {i : Fin 4} {r : Nat × Nat} (hd : decode cc pc = .ok (.aload_n i, 1)) (hv : aLd L i.val = some (Sum.inr (Sum.inl r))) (k : aG E p l e R s m args below meth c n0 z0 Q u (pc + 1, L, aR r.1 r.2 :: st, M)) : aG E p l e R s m args below meth c n0 z0 Q u (pc, L, st, M) := by
  intro H locs ls hW hq hu hl
  have h1 := (hl.2.2 _ _ (aLd_some hv)).1
  have h2 := k H locs ls hW hq hu hl
  simp only [List.map_cons] at h2
  rcases cv_ref (E := E) r with h | h
  · rw [h] at h1
    rw [show cv E (aR r.1 r.2) = .null from h] at h2
    exact lv_aload_nN hx hb hd rfl h1 h2
  · rw [h] at h1
    rw [show cv E (aR r.1 r.2) = .ref (aAd E r.1 r.2) from h] at h2
    exact lv_aload_n hx hb hd rfl h1 h2
theorem ag_aload (hx : p.tables.exec = Jvm.exec) (hb : c.code = cc) {i : Nat} {r : Nat × Nat} (hd : decode cc pc = .ok (.aload i, 2)) (hv : aLd L i = some (Sum.inr (Sum.inl r))) (k : aG E p l e R s m args below meth c n0 z0 Q u (pc + 2, L, aR r.1 r.2 :: st, M)) : aG E p l e R s m args below meth c n0 z0 Q u (pc, L, st, M) := by
  intro H locs ls hW hq hu hl
  have h1 := (hl.2.2 _ _ (aLd_some hv)).1
  have h2 := k H locs ls hW hq hu hl
  simp only [List.map_cons] at h2
  rcases cv_ref (E := E) r with h | h
  · rw [h] at h1
    rw [show cv E (aR r.1 r.2) = .null from h] at h2
    exact lv_aloadN hx hb hd h1 h2
  · rw [h] at h1
    rw [show cv E (aR r.1 r.2) = .ref (aAd E r.1 r.2) from h] at h2
    exact lv_aload hx hb hd h1 h2
theorem ag_istore_n (hx : p.tables.exec = Jvm.exec) (hb : c.code = cc) {i : Fin 4} {x : Int32} (hd : decode cc pc = .ok (.istore_n i, 1)) (hi : i.val < L.length) (k : aG E p l e R s m args below meth c n0 z0 Q u (pc + 1, L.set i.val (some (aI x)), st, M)) : aG E p l e R s m args below meth c n0 z0 Q u (pc, L, aI x :: st, M) := by
  intro H locs ls hW hq hu hl T hT X
  obtain ⟨ls', e', h'⟩ := aLv_store (v := aI x) hl hi rfl
  have e' : storeLocals ls i.val (.int x) = some ls' := e'
  obtain ⟨t, a, b⟩ := k H locs ls' hW hq hu h' T hT X
  refine ⟨t, ?_, b⟩
  show Steps p.tables e below (T.setTop (F0 m pc ls (.int x :: st.map (cv E)))) t
  jvm_step X.here [X.here.top, ↓top_set X.here.top, hx, hb, hd, e']
  exact a
theorem ag_istore (hx : p.tables.exec = Jvm.exec) (hb : c.code = cc) {i : Nat} {x : Int32} (hd : decode cc pc = .ok (.istore i, 2)) (hi : i < L.length) (k : aG E p l e R s m args below meth c n0 z0 Q u (pc + 2, L.set i (some (aI x)), st, M)) : aG E p l e R s m args below meth c n0 z0 Q u (pc, L, aI x :: st, M) := by
  intro H locs ls hW hq hu hl T hT X
  obtain ⟨ls', e', h'⟩ := aLv_store (v := aI x) hl hi rfl
  have e' : storeLocals ls i (.int x) = some ls' := e'
  obtain ⟨t, a, b⟩ := k H locs ls' hW hq hu h' T hT X
  refine ⟨t, ?_, b⟩
  show Steps p.tables e below (T.setTop (F0 m pc ls (.int x :: st.map (cv E)))) t
  jvm_step X.here [X.here.top, ↓top_set X.here.top, hx, hb, hd, e']
  exact a
theorem ag_astore_n (hx : p.tables.exec = Jvm.exec) (hb : c.code = cc) {i : Fin 4} {r : Nat × Nat} (hd : decode cc pc = .ok (.astore_n i, 1)) (hi : i.val < L.length) (k : aG E p l e R s m args below meth c n0 z0 Q u (pc + 1, L.set i.val (some (aR r.1 r.2)), st, M)) : aG E p l e R s m args below meth c n0 z0 Q u (pc, L, aR r.1 r.2 :: st, M) := by
  intro H locs ls hW hq hu hl T hT X
  have hk : ∀ v, cv E (aR r.1 r.2) = v → v.isRef = true → v.category = 1 → ∃ t, Steps p.tables e below (T.setTop (F0 m pc ls (v :: st.map (cv E)))) t ∧ Q t := by
    intro v hv hr hc
    obtain ⟨ls', e', h'⟩ := aLv_store (v := aR r.1 r.2) hl hi (by rw [hv]; exact hc)
    rw [hv] at e'
    obtain ⟨t, a, b⟩ := k H locs ls' hW hq hu h' T hT X
    refine ⟨t, ?_, b⟩
    jvm_step X.here [X.here.top, ↓top_set X.here.top, hx, hb, hd, e', hr]
    exact a
  rcases cv_ref (E := E) r with h | h
  · exact hk _ rfl (by rw [show cv E (aR r.1 r.2) = _ from h]; rfl) (by rw [show cv E (aR r.1 r.2) = _ from h]; rfl)
  · exact hk _ rfl (by rw [show cv E (aR r.1 r.2) = _ from h]; rfl) (by rw [show cv E (aR r.1 r.2) = _ from h]; rfl)
theorem ag_astore (hx : p.tables.exec = Jvm.exec) (hb : c.code = cc) {i : Nat} {r : Nat × Nat} (hd : decode cc pc = .ok (.astore i, 2)) (hi : i < L.length) (k : aG E p l e R s m args below meth c n0 z0 Q u (pc + 2, L.set i (some (aR r.1 r.2)), st, M)) : aG E p l e R s m args below meth c n0 z0 Q u (pc, L, aR r.1 r.2 :: st, M) := by
  intro H locs ls hW hq hu hl T hT X
  have hk : ∀ v, cv E (aR r.1 r.2) = v → v.isRef = true → v.category = 1 → ∃ t, Steps p.tables e below (T.setTop (F0 m pc ls (v :: st.map (cv E)))) t ∧ Q t := by
    intro v hv hr hc
    obtain ⟨ls', e', h'⟩ := aLv_store (v := aR r.1 r.2) hl hi (by rw [hv]; exact hc)
    rw [hv] at e'
    obtain ⟨t, a, b⟩ := k H locs ls' hW hq hu h' T hT X
    refine ⟨t, ?_, b⟩
    jvm_step X.here [X.here.top, ↓top_set X.here.top, hx, hb, hd, e', hr]
    exact a
  rcases cv_ref (E := E) r with h | h
  · exact hk _ rfl (by rw [show cv E (aR r.1 r.2) = _ from h]; rfl) (by rw [show cv E (aR r.1 r.2) = _ from h]; rfl)
  · exact hk _ rfl (by rw [show cv E (aR r.1 r.2) = _ from h]; rfl) (by rw [show cv E (aR r.1 r.2) = _ from h]; rfl)
theorem ag_iinc (hx : p.tables.exec = Jvm.exec) (hb : c.code = cc) {i : Nat} {n : Int} {x v0 : Int32} (hd : decode cc pc = .ok (.iinc i n, 3)) (hv : aLd L i = some (Sum.inl x)) (hi : i < L.length) (h9 : Int32.ofInt n = v0) (k : aG E p l e R s m args below meth c n0 z0 Q u (pc + 3, L.set i (some (aI (x + v0))), st, M)) : aG E p l e R s m args below meth c n0 z0 Q u (pc, L, st, M) := by
  subst h9
  intro H locs ls hW hq hu hl T hT X
  have hg : ls[i]? = some (.val (.int x)) := (hl.2.2 _ _ (aLd_some hv)).1
  obtain ⟨ls', e', h'⟩ := aLv_store (v := aI (x + Int32.ofInt n)) hl hi rfl
  have e' : storeLocals ls i (.int (x + Int32.ofInt n)) = some ls' := e'
  obtain ⟨t, a, b⟩ := k H locs ls' hW hq hu h' T hT X
  refine ⟨t, ?_, b⟩
  show Steps p.tables e below (T.setTop (F0 m pc ls (st.map (cv E)))) t
  jvm_step X.here [X.here.top, ↓top_set X.here.top, hx, hb, hd, hg, e']
  exact a
theorem ag_iadd (hx : p.tables.exec = Jvm.exec) (hb : c.code = cc) {x y : Int32} (hd : decode cc pc = .ok (.iadd, 1)) (k : aG E p l e R s m args below meth c n0 z0 Q u (pc + 1, L, aI (x + y) :: st, M)) : aG E p l e R s m args below meth c n0 z0 Q u (pc, L, aI y :: aI x :: st, M) :=
  fun H locs ls hW hq hu hl => lv_iadd hx hb hd (k H locs ls hW hq hu hl)
theorem ag_isub (hx : p.tables.exec = Jvm.exec) (hb : c.code = cc) {x y : Int32} (hd : decode cc pc = .ok (.isub, 1)) (k : aG E p l e R s m args below meth c n0 z0 Q u (pc + 1, L, aI (x - y) :: st, M)) : aG E p l e R s m args below meth c n0 z0 Q u (pc, L, aI y :: aI x :: st, M) :=
  fun H locs ls hW hq hu hl => lv_isub hx hb hd (k H locs ls hW hq hu hl)
theorem ag_imul (hx : p.tables.exec = Jvm.exec) (hb : c.code = cc) {x y : Int32} (hd : decode cc pc = .ok (.imul, 1)) (k : aG E p l e R s m args below meth c n0 z0 Q u (pc + 1, L, aI (x * y) :: st, M)) : aG E p l e R s m args below meth c n0 z0 Q u (pc, L, aI y :: aI x :: st, M) :=
  fun H locs ls hW hq hu hl => lv_imul hx hb hd (k H locs ls hW hq hu hl)
theorem ag_iand (hx : p.tables.exec = Jvm.exec) (hb : c.code = cc) {x y : Int32} (hd : decode cc pc = .ok (.iand, 1)) (k : aG E p l e R s m args below meth c n0 z0 Q u (pc + 1, L, aI (x &&& y) :: st, M)) : aG E p l e R s m args below meth c n0 z0 Q u (pc, L, aI y :: aI x :: st, M) :=
  fun H locs ls hW hq hu hl => lv_iand hx hb hd (k H locs ls hW hq hu hl)
theorem ag_ior (hx : p.tables.exec = Jvm.exec) (hb : c.code = cc) {x y : Int32} (hd : decode cc pc = .ok (.ior, 1)) (k : aG E p l e R s m args below meth c n0 z0 Q u (pc + 1, L, aI (x ||| y) :: st, M)) : aG E p l e R s m args below meth c n0 z0 Q u (pc, L, aI y :: aI x :: st, M) :=
  fun H locs ls hW hq hu hl => lv_ior hx hb hd (k H locs ls hW hq hu hl)
theorem ag_ixor (hx : p.tables.exec = Jvm.exec) (hb : c.code = cc) {x y : Int32} (hd : decode cc pc = .ok (.ixor, 1)) (k : aG E p l e R s m args below meth c n0 z0 Q u (pc + 1, L, aI (x ^^^ y) :: st, M)) : aG E p l e R s m args below meth c n0 z0 Q u (pc, L, aI y :: aI x :: st, M) :=
  fun H locs ls hW hq hu hl => lv_ixor hx hb hd (k H locs ls hW hq hu hl)
theorem ag_ishl (hx : p.tables.exec = Jvm.exec) (hb : c.code = cc) {x y : Int32} (hd : decode cc pc = .ok (.ishl, 1)) (k : aG E p l e R s m args below meth c n0 z0 Q u (pc + 1, L, aI (x <<< (y &&& 31)) :: st, M)) : aG E p l e R s m args below meth c n0 z0 Q u (pc, L, aI y :: aI x :: st, M) :=
  fun H locs ls hW hq hu hl => lv_ishl hx hb hd (k H locs ls hW hq hu hl)
theorem ag_ishr (hx : p.tables.exec = Jvm.exec) (hb : c.code = cc) {x y : Int32} (hd : decode cc pc = .ok (.ishr, 1)) (k : aG E p l e R s m args below meth c n0 z0 Q u (pc + 1, L, aI (x >>> (y &&& 31)) :: st, M)) : aG E p l e R s m args below meth c n0 z0 Q u (pc, L, aI y :: aI x :: st, M) :=
  fun H locs ls hW hq hu hl => lv_ishr hx hb hd (k H locs ls hW hq hu hl)
theorem ag_idiv (hx : p.tables.exec = Jvm.exec) (hb : c.code = cc) {x y : Int32} (hd : decode cc pc = .ok (.idiv, 1)) (h0 : ¬ y = 0) (k : aG E p l e R s m args below meth c n0 z0 Q u (pc + 1, L, aI (x / y) :: st, M)) : aG E p l e R s m args below meth c n0 z0 Q u (pc, L, aI y :: aI x :: st, M) :=
  fun H locs ls hW hq hu hl => lv_idiv hx hb hd h0 (k H locs ls hW hq hu hl)
theorem ag_irem (hx : p.tables.exec = Jvm.exec) (hb : c.code = cc) {x y : Int32} (hd : decode cc pc = .ok (.irem, 1)) (h0 : ¬ y = 0) (k : aG E p l e R s m args below meth c n0 z0 Q u (pc + 1, L, aI (x - x / y * y) :: st, M)) : aG E p l e R s m args below meth c n0 z0 Q u (pc, L, aI y :: aI x :: st, M) :=
  fun H locs ls hW hq hu hl => lv_irem hx hb hd h0 (k H locs ls hW hq hu hl)
theorem ag_ineg (hx : p.tables.exec = Jvm.exec) (hb : c.code = cc) {x : Int32} (hd : decode cc pc = .ok (.ineg, 1)) (k : aG E p l e R s m args below meth c n0 z0 Q u (pc + 1, L, aI (-x) :: st, M)) : aG E p l e R s m args below meth c n0 z0 Q u (pc, L, aI x :: st, M) :=
  fun H locs ls hW hq hu hl => lv_ineg hx hb hd (k H locs ls hW hq hu hl)
theorem ag_iushr (hx : p.tables.exec = Jvm.exec) (hb : c.code = cc) {x y : Int32} (hd : decode cc pc = .ok (.iushr, 1)) (k : aG E p l e R s m args below meth c n0 z0 Q u (pc + 1, L, aI ((x.toUInt32 >>> (y.toUInt32 &&& Int32.toUInt32 31)).toInt32) :: st, M)) : aG E p l e R s m args below meth c n0 z0 Q u (pc, L, aI y :: aI x :: st, M) :=
  fun H locs ls hW hq hu hl => lv_iushr hx hb hd rfl (k H locs ls hW hq hu hl)
theorem ag_i2l (hx : p.tables.exec = Jvm.exec) (hb : c.code = cc) {x : Int32} (hd : decode cc pc = .ok (.i2l, 1)) (k : aG E p l e R s m args below meth c n0 z0 Q u (pc + 1, L, aJ x.toInt64 :: st, M)) : aG E p l e R s m args below meth c n0 z0 Q u (pc, L, aI x :: st, M) :=
  fun H locs ls hW hq hu hl => lv_i2l hx hb hd rfl (k H locs ls hW hq hu hl)
theorem ag_i2c (hx : p.tables.exec = Jvm.exec) (hb : c.code = cc) {x : Int32} (hd : decode cc pc = .ok (.i2c, 1)) (k : aG E p l e R s m args below meth c n0 z0 Q u (pc + 1, L, aI ((x.toUInt32 % 65536).toInt32) :: st, M)) : aG E p l e R s m args below meth c n0 z0 Q u (pc, L, aI x :: st, M) :=
  fun H locs ls hW hq hu hl => lv_i2c hx hb hd rfl (k H locs ls hW hq hu hl)
theorem ag_i2b (hx : p.tables.exec = Jvm.exec) (hb : c.code = cc) {x : Int32} (hd : decode cc pc = .ok (.i2b, 1)) (k : aG E p l e R s m args below meth c n0 z0 Q u (pc + 1, L, aI (x.toInt8.toInt32) :: st, M)) : aG E p l e R s m args below meth c n0 z0 Q u (pc, L, aI x :: st, M) :=
  fun H locs ls hW hq hu hl => lv_i2b hx hb hd rfl (k H locs ls hW hq hu hl)
theorem ag_lcmp (hx : p.tables.exec = Jvm.exec) (hb : c.code = cc) {x y : Int64} (hd : decode cc pc = .ok (.lcmp, 1)) (k : aG E p l e R s m args below meth c n0 z0 Q u (pc + 1, L, aI (lg_cmp x y) :: st, M)) : aG E p l e R s m args below meth c n0 z0 Q u (pc, L, aJ y :: aJ x :: st, M) :=
  fun H locs ls hW hq hu hl => W.lcmp hx hb hd (k H locs ls hW hq hu hl)
theorem cv_cat {E : aE} (r : Nat × Nat) : (cv E (Sum.inr (Sum.inl r))).category = 1 := by
  rcases cv_ref (E := E) r with h | h <;> rw [h] <;> rfl
theorem ag_dup_i (hx : p.tables.exec = Jvm.exec) (hb : c.code = cc) {x : Int32} (hd : decode cc pc = .ok (.dup, 1)) (k : aG E p l e R s m args below meth c n0 z0 Q u (pc + 1, L, aI x :: aI x :: st, M)) : aG E p l e R s m args below meth c n0 z0 Q u (pc, L, aI x :: st, M) :=
  fun H locs ls hW hq hu hl => lv_dup hx hb hd rfl (k H locs ls hW hq hu hl)
theorem ag_dup_r (hx : p.tables.exec = Jvm.exec) (hb : c.code = cc) {r : Nat × Nat} (hd : decode cc pc = .ok (.dup, 1)) (k : aG E p l e R s m args below meth c n0 z0 Q u (pc + 1, L, aR r.1 r.2 :: aR r.1 r.2 :: st, M)) : aG E p l e R s m args below meth c n0 z0 Q u (pc, L, aR r.1 r.2 :: st, M) :=
  fun H locs ls hW hq hu hl => lv_dup hx hb hd (cv_cat r) (k H locs ls hW hq hu hl)
theorem ag_dup_x1 (hx : p.tables.exec = Jvm.exec) (hb : c.code = cc) {x : Int32} {r : Nat × Nat} (hd : decode cc pc = .ok (.dup_x1, 1)) (k : aG E p l e R s m args below meth c n0 z0 Q u (pc + 1, L, aI x :: aR r.1 r.2 :: aI x :: st, M)) : aG E p l e R s m args below meth c n0 z0 Q u (pc, L, aI x :: aR r.1 r.2 :: st, M) :=
  fun H locs ls hW hq hu hl => lv_dup_x1 hx hb hd rfl (cv_cat r) (k H locs ls hW hq hu hl)
theorem ag_dup_x2 (hx : p.tables.exec = Jvm.exec) (hb : c.code = cc) {x y : Int32} {r : Nat × Nat} (hd : decode cc pc = .ok (.dup_x2, 1)) (k : aG E p l e R s m args below meth c n0 z0 Q u (pc + 1, L, aI x :: aI y :: aR r.1 r.2 :: aI x :: st, M)) : aG E p l e R s m args below meth c n0 z0 Q u (pc, L, aI x :: aI y :: aR r.1 r.2 :: st, M) :=
  fun H locs ls hW hq hu hl => lv_dup_x2 hx hb hd rfl rfl (cv_cat r) (k H locs ls hW hq hu hl)
theorem ag_dup2 (hx : p.tables.exec = Jvm.exec) (hb : c.code = cc) {x : Int32} {r : Nat × Nat} (hd : decode cc pc = .ok (.dup2, 1)) (k : aG E p l e R s m args below meth c n0 z0 Q u (pc + 1, L, aI x :: aR r.1 r.2 :: aI x :: aR r.1 r.2 :: st, M)) : aG E p l e R s m args below meth c n0 z0 Q u (pc, L, aI x :: aR r.1 r.2 :: st, M) :=
  fun H locs ls hW hq hu hl => lv_dup2_11 hx hb hd rfl (cv_cat r) (k H locs ls hW hq hu hl)
theorem ag_pop_i (hx : p.tables.exec = Jvm.exec) (hb : c.code = cc) {x : Int32} (hd : decode cc pc = .ok (.pop, 1)) (k : aG E p l e R s m args below meth c n0 z0 Q u (pc + 1, L, st, M)) : aG E p l e R s m args below meth c n0 z0 Q u (pc, L, aI x :: st, M) :=
  fun H locs ls hW hq hu hl => lv_pop hx hb hd rfl (k H locs ls hW hq hu hl)
theorem ag_pop_r (hx : p.tables.exec = Jvm.exec) (hb : c.code = cc) {r : Nat × Nat} (hd : decode cc pc = .ok (.pop, 1)) (k : aG E p l e R s m args below meth c n0 z0 Q u (pc + 1, L, st, M)) : aG E p l e R s m args below meth c n0 z0 Q u (pc, L, aR r.1 r.2 :: st, M) :=
  fun H locs ls hW hq hu hl => lv_pop hx hb hd (cv_cat r) (k H locs ls hW hq hu hl)
theorem ag_null (hx : p.tables.exec = Jvm.exec) (hb : c.code = cc) (hd : decode cc pc = .ok (.aconst_null, 1)) (k : aG E p l e R s m args below meth c n0 z0 Q u (pc + 1, L, aR 0 0 :: st, M)) : aG E p l e R s m args below meth c n0 z0 Q u (pc, L, st, M) :=
  fun H locs ls hW hq hu hl => lv_null hx hb hd (k H locs ls hW hq hu hl)
theorem ag_goto (hx : p.tables.exec = Jvm.exec) (hb : c.code = cc) {off : Int} (hd : decode cc pc = .ok (.goto off, 3)) {tg : Nat} (h0 : (pc : Int) + off = (tg : Int)) (k : aG E p l e R s m args below meth c n0 z0 Q u (tg, L, st, M)) : aG E p l e R s m args below meth c n0 z0 Q u (pc, L, st, M) :=
  fun H locs ls hW hq hu hl => lv_goto hx hb hd h0 (k H locs ls hW hq hu hl)
theorem ag_if (hx : p.tables.exec = Jvm.exec) (hb : c.code = cc) {cd : ClassFile.Cond} {x : Int32} {off : Int} (hd : decode cc pc = .ok (.ifCond cd off, 3)) {tg : Nat} (h0 : (pc : Int) + off = (tg : Int)) (kt : aCnd cd x 0 → aG E p l e R s m args below meth c n0 z0 Q u (tg, L, st, M)) (kf : ¬ aCnd cd x 0 → aG E p l e R s m args below meth c n0 z0 Q u (pc + 3, L, st, M)) : aG E p l e R s m args below meth c n0 z0 Q u (pc, L, aI x :: st, M) := by
  intro H locs ls hW hq hu hl
  have ht := h0
  have k1 := fun h => kt h H locs ls hW hq hu hl
  have k2 := fun h => kf h H locs ls hW hq hu hl
  cases cd
  · exact lv_if_eq hx hb hd ht k1 k2
  · exact lv_if_ne hx hb hd ht k1 (fun h => k2 (fun n => n h))
  · exact lv_if_lt hx hb hd ht k1 k2
  · exact lv_if_ge hx hb hd ht k1 k2
  · exact lv_if_gt hx hb hd ht k1 k2
  · exact lv_if_le hx hb hd ht k1 k2
theorem ag_icmp (hx : p.tables.exec = Jvm.exec) (hb : c.code = cc) {cd : ClassFile.Cond} {x y : Int32} {off : Int} (hd : decode cc pc = .ok (.if_icmp cd off, 3)) {tg : Nat} (h0 : (pc : Int) + off = (tg : Int)) (kt : aCnd cd x y → aG E p l e R s m args below meth c n0 z0 Q u (tg, L, st, M)) (kf : ¬ aCnd cd x y → aG E p l e R s m args below meth c n0 z0 Q u (pc + 3, L, st, M)) : aG E p l e R s m args below meth c n0 z0 Q u (pc, L, aI y :: aI x :: st, M) := by
  intro H locs ls hW hq hu hl
  have ht := h0
  have k1 := fun h => kt h H locs ls hW hq hu hl
  have k2 := fun h => kf h H locs ls hW hq hu hl
  cases cd
  · exact lv_icmp_eq hx hb hd ht k1 k2
  · exact lv_icmp_ne hx hb hd ht k1 (fun h => k2 (fun n => n h))
  · exact lv_icmp_lt hx hb hd ht k1 k2
  · exact lv_icmp_ge hx hb hd ht k1 k2
  · exact lv_icmp_gt hx hb hd ht k1 k2
  · exact lv_icmp_le hx hb hd ht k1 k2
theorem ag_table_out (hx : p.tables.exec = Jvm.exec) (hb : c.code = cc) {d lo hi : Int} {offs : Array Int} {len : Nat} {x : Int32} (hd : decode cc pc = .ok (.tableswitch d lo hi offs, len)) (h : x.toInt < lo ∨ hi < x.toInt) {tg : Nat} (h0 : (pc : Int) + d = (tg : Int)) (k : aG E p l e R s m args below meth c n0 z0 Q u (tg, L, st, M)) : aG E p l e R s m args below meth c n0 z0 Q u (pc, L, aI x :: st, M) :=
  fun H locs ls hW hq hu hl => lv_tableOut hx hb hd h h0 (k H locs ls hW hq hu hl)
theorem ag_table_in (hx : p.tables.exec = Jvm.exec) (hb : c.code = cc) {d lo hi off : Int} {offs : Array Int} {len : Nat} {x : Int32} (hd : decode cc pc = .ok (.tableswitch d lo hi offs, len)) (h : ¬ (x.toInt < lo ∨ hi < x.toInt)) (ho : offs[(x.toInt - lo).toNat]? = some off) {tg : Nat} (h0 : (pc : Int) + off = (tg : Int)) (k : aG E p l e R s m args below meth c n0 z0 Q u (tg, L, st, M)) : aG E p l e R s m args below meth c n0 z0 Q u (pc, L, aI x :: st, M) :=
  fun H locs ls hW hq hu hl => lv_tableIn hx hb hd (fun q => h (Or.inl q)) (fun q => h (Or.inr q)) ho h0 (k H locs ls hW hq hu hl)
theorem ag_lookup (hx : p.tables.exec = Jvm.exec) (hb : c.code = cc) {d : Int} {ps : Array (Int × Int)} {len : Nat} {x : Int32} (hd : decode cc pc = .ok (.lookupswitch d ps, len)) (hp : (ps.toList.zip (ps.toList.drop 1)).all (fun (a, next) => a.1 < next.1) = true) {tg : Nat} (h0 : (pc : Int) + Op.lookupswitch.offset ps.toList d x.toInt = (tg : Int)) (k : aG E p l e R s m args below meth c n0 z0 Q u (tg, L, st, M)) : aG E p l e R s m args below meth c n0 z0 Q u (pc, L, aI x :: st, M) :=
  fun H locs ls hW hq hu hl => lv_lookup hx hb hd hp rfl h0 (k H locs ls hW hq hu hl)
theorem aCell_kept {E : aE} {M M' : aM} {k : Nat} {H H1 : Heap} (eK : rK M' k = rK M k) (eI : rI M' k = rI M k) (eR : rR M' k = rR M k) (eJ : rJ M' k = rJ M k) (hq : H1[E.1 + k]? = H[E.1 + k]?) (h : aCell E M k H) : aCell E M' k H1 := by
  obtain ⟨h4, h5, h6, h7, h100, h10⟩ := h
  unfold aCell
  rw [eK, hq]
  refine ⟨fun q => ?_, fun q => ?_, fun q => ?_, fun q => ?_, fun c q => ?_, fun c hc q => ?_⟩
  · rw [h4 q, eI]
  · rw [h5 q, eI]
  · rw [h6 q, eJ]
  · rw [h7 q, eI]
  · rw [h100 c q, eR]
  · obtain ⟨r, hr, cell, q1, q2, q3, q4⟩ := h10 c hc q
    refine ⟨r, hr, cell, by rw [hq]; exact q1, q2, q3, fun j hj => ?_⟩
    rw [q4 j hj]
    simp only [cf, eI, eR, eJ]
theorem aWd_set {E : aE} {M M' : aM} {H H1 : Heap} {k : Nat} (hW : aWd E M H) (e0 : M'.1 = M.1) (eK : ∀ i, rK M' i = rK M i) (eI : ∀ i, i ≠ k → rI M' i = rI M i) (eR : ∀ i, i ≠ k → rR M' i = rR M i) (eJ : ∀ i, i ≠ k → rJ M' i = rJ M i) (hk0 : 0 < k) (hz : H1.size = H.size) (ho : ∀ q, q ≠ E.1 + k → H1[q]? = H[q]?) (hc : aCell E M' k H1) : aWd E M' H1 := by
  obtain ⟨w1, w2, w3⟩ := hW
  have eN : aN M' = aN M := congrArg Prod.fst e0
  refine ⟨by rw [hz, w1, eN], fun i hi0 hi => ?_, fun q hq => ?_⟩
  · by_cases hik : i = k
    · subst hik; exact hc
    · exact aCell_kept (eK i) (eI i hik) (eR i hik) (eJ i hik) (ho _ (by omega)) (w2 i hi0 (by rw [← eN]; exact hi))
  · rw [ho q (by omega)]; exact w3 q hq
theorem a2_row {α : Type} (f : Nat → Nat → α) (k j : Nat) (v : α) : a2 f k j v k = fun j' => if j' = j then v else f k j' := by
  funext j'; simp [a2]
theorem a2_off {α : Type} (f : Nat → Nat → α) {k i : Nat} (j : Nat) (v : α) (h : i ≠ k) : a2 f k j v i = f i := by
  simp [a2, h]
theorem aWd_wI {E : aE} {M : aM} {H H1 : Heap} {k j : Nat} {x : Int32} (hW : aWd E M H) (hk0 : 0 < k) (hz : H1.size = H.size) (ho : ∀ q, q ≠ E.1 + k → H1[q]? = H[q]?) (hc : aCell E (wI M k j x) k H1) : aWd E (wI M k j x) H1 :=
  aWd_set hW rfl (fun _ => rfl) (fun i hi => a2_off _ _ _ hi) (fun _ _ => rfl) (fun _ _ => rfl) hk0 hz ho hc
theorem aWd_wR {E : aE} {M : aM} {H H1 : Heap} {k j : Nat} {x : Nat} (hW : aWd E M H) (hk0 : 0 < k) (hz : H1.size = H.size) (ho : ∀ q, q ≠ E.1 + k → H1[q]? = H[q]?) (hc : aCell E (wR M k j x) k H1) : aWd E (wR M k j x) H1 :=
  aWd_set hW rfl (fun _ => rfl) (fun _ _ => rfl) (fun i hi => a2_off _ _ _ hi) (fun _ _ => rfl) hk0 hz ho hc
theorem aWd_wJ {E : aE} {M : aM} {H H1 : Heap} {k j : Nat} {x : Int64} (hW : aWd E M H) (hk0 : 0 < k) (hz : H1.size = H.size) (ho : ∀ q, q ≠ E.1 + k → H1[q]? = H[q]?) (hc : aCell E (wJ M k j x) k H1) : aWd E (wJ M k j x) H1 :=
  aWd_set hW rfl (fun _ => rfl) (fun _ _ => rfl) (fun _ _ => rfl) (fun i hi => a2_off _ _ _ hi) hk0 hz ho hc
/-- an array's cell, of a tag that no other clause speaks of -/
theorem aCell_4 {E : aE} {M : aM} {k : Nat} {H : Heap} (ht : (rK M k).1 = 4) (h : H[E.1 + k]? = some (arrV (E.2.2.2.2.2 4) (rK M k).2 (fun j => .int (rI M k j)))) : aCell E M k H := by
  refine ⟨fun _ => h, fun q => ?_, fun q => ?_, fun q => ?_, fun c q => ?_, fun c _ q => ?_⟩ <;> (rw [ht] at q; omega)
theorem aCell_5 {E : aE} {M : aM} {k : Nat} {H : Heap} (ht : (rK M k).1 = 5) (h : H[E.1 + k]? = some (arrV (E.2.2.2.2.2 5) (rK M k).2 (fun j => .int (rI M k j)))) : aCell E M k H := by
  refine ⟨fun q => ?_, fun _ => h, fun q => ?_, fun q => ?_, fun c q => ?_, fun c _ q => ?_⟩ <;> (rw [ht] at q; omega)
theorem aCell_6 {E : aE} {M : aM} {k : Nat} {H : Heap} (ht : (rK M k).1 = 6) (h : H[E.1 + k]? = some (arrV (E.2.2.2.2.2 6) (rK M k).2 (fun j => .long (rJ M k j)))) : aCell E M k H := by
  refine ⟨fun q => ?_, fun q => ?_, fun _ => h, fun q => ?_, fun c q => ?_, fun c _ q => ?_⟩ <;> (rw [ht] at q; omega)
theorem aCell_7 {E : aE} {M : aM} {k : Nat} {H : Heap} (ht : (rK M k).1 = 7) (h : H[E.1 + k]? = some (arrV (E.2.2.2.2.2 7) (rK M k).2 (fun j => .int (rI M k j)))) : aCell E M k H := by
  refine ⟨fun q => ?_, fun q => ?_, fun q => ?_, fun _ => h, fun c q => ?_, fun c _ q => ?_⟩ <;> (rw [ht] at q; omega)
theorem aCell_100 {E : aE} {M : aM} {k : Nat} {H : Heap} {c : Nat} (ht : (rK M k).1 = 100 + c) (h : H[E.1 + k]? = some (arrV (E.2.2.2.2.2 (100 + c)) (rK M k).2 (fun j => cr E (10 + c) (rR M k j)))) : aCell E M k H := by
  refine ⟨fun q => ?_, fun q => ?_, fun q => ?_, fun q => ?_, fun c' q => ?_, fun c' _ q => ?_⟩
  · rw [ht] at q; omega
  · rw [ht] at q; omega
  · rw [ht] at q; omega
  · rw [ht] at q; omega
  · have : c' = c := by rw [ht] at q; omega
    subst this; exact h
  · rw [ht] at q; omega
theorem aCell_10 {E : aE} {M : aM} {k : Nat} {H : Heap} {c : Nat} (hc : c < 90) (ht : (rK M k).1 = 10 + c) {r : vw_C} (hr : aCls[c]? = some r) (h : t_OB (E.1 + k) (E.2.2.2.2.1.1 c) r.2.2 (E.2.2.2.2.1.2 c) H (fun j => cf E M k j (aFd c j))) : aCell E M k H := by
  refine ⟨fun q => ?_, fun q => ?_, fun q => ?_, fun q => ?_, fun c' q => ?_, fun c' _ q => ?_⟩
  · rw [ht] at q; omega
  · rw [ht] at q; omega
  · rw [ht] at q; omega
  · rw [ht] at q; omega
  · rw [ht] at q; omega
  · have : c' = c := by rw [ht] at q; omega
    subst this; exact ⟨r, hr, h⟩
theorem ag_iald (hx : p.tables.exec = Jvm.exec) (hb : c.code = cc) (hA : ArrOfT s (E.2.2.2.2.2 4) .int) {k : Nat} {i : Int32} (hk0 : 0 < k) (hk : k < aN M) (ht : (rK M k).1 = 4) (hin : vp_in i (rK M k).2) (hd : decode cc pc = .ok (.iaload, 1)) (kk : aG E p l e R s m args below meth c n0 z0 Q u (pc + 1, L, aI (rI M k i.toNatClampNeg) :: st, M)) : aG E p l e R s m args below meth c n0 z0 Q u (pc, L, aI i :: aR 4 k :: st, M) := by
  intro H locs ls hW hq hu hl
  have hlt : i.toNatClampNeg < (rK M k).2 := Nat.not_le.mp fun q => hin (Or.inr q)
  have hc := (hW.2.1 k hk0 hk).1 ht
  exact W.iald (v := .int (rI M k i.toNatClampNeg)) hx hb hc (hA _ (fun j => .int (rI M k j))) (fun q => by cases q) (by rw [arrV_size]; exact hin) (arrV_read _ (fun j => .int (rI M k j)) hlt) rfl rfl hd (kk H locs ls hW hq hu hl)
theorem ag_zald (hx : p.tables.exec = Jvm.exec) (hb : c.code = cc) (hA : ArrOfT s (E.2.2.2.2.2 5) .boolean) {k : Nat} {i : Int32} (hk0 : 0 < k) (hk : k < aN M) (ht : (rK M k).1 = 5) (hin : vp_in i (rK M k).2) (hd : decode cc pc = .ok (.baload, 1)) (kk : aG E p l e R s m args below meth c n0 z0 Q u (pc + 1, L, aI (rI M k i.toNatClampNeg) :: st, M)) : aG E p l e R s m args below meth c n0 z0 Q u (pc, L, aI i :: aR 5 k :: st, M) := by
  intro H locs ls hW hq hu hl
  have hlt : i.toNatClampNeg < (rK M k).2 := Nat.not_le.mp fun q => hin (Or.inr q)
  have hc := (hW.2.1 k hk0 hk).2.1 ht
  exact W.zald (v := .int (rI M k i.toNatClampNeg)) hx hb hc (hA _ (fun j => .int (rI M k j))) (fun q => by cases q) (by rw [arrV_size]; exact hin) (arrV_read _ (fun j => .int (rI M k j)) hlt) rfl rfl hd (kk H locs ls hW hq hu hl)
theorem ag_bald (hx : p.tables.exec = Jvm.exec) (hb : c.code = cc) (hA : ArrOfT s (E.2.2.2.2.2 7) .byte) {k : Nat} {i : Int32} (hk0 : 0 < k) (hk : k < aN M) (ht : (rK M k).1 = 7) (hin : vp_in i (rK M k).2) (hd : decode cc pc = .ok (.baload, 1)) (kk : aG E p l e R s m args below meth c n0 z0 Q u (pc + 1, L, aI (rI M k i.toNatClampNeg) :: st, M)) : aG E p l e R s m args below meth c n0 z0 Q u (pc, L, aI i :: aR 7 k :: st, M) := by
  intro H locs ls hW hq hu hl
  have hlt : i.toNatClampNeg < (rK M k).2 := Nat.not_le.mp fun q => hin (Or.inr q)
  have hc := (hW.2.1 k hk0 hk).2.2.2.1 ht
  exact W.bald (v := .int (rI M k i.toNatClampNeg)) hx hb hc (hA _ (fun j => .int (rI M k j))) (fun q => by cases q) (by rw [arrV_size]; exact hin) (arrV_read _ (fun j => .int (rI M k j)) hlt) rfl rfl hd (kk H locs ls hW hq hu hl)
theorem ag_bast (hx : p.tables.exec = Jvm.exec) (hb : c.code = cc) (hA : ArrOfT s (E.2.2.2.2.2 7) .byte) {k : Nat} {i x : Int32} (hk0 : 0 < k) (hk : k < aN M) (ht : (rK M k).1 = 7) (hin : vp_in i (rK M k).2) (hd : decode cc pc = .ok (.bastore, 1)) (kk : aG E p l e R s m args below meth c n0 z0 Q false (pc + 1, L, st, wI M k i.toNatClampNeg x.toInt8.toInt32)) : aG E p l e R s m args below meth c n0 z0 Q u (pc, L, aI x :: aI i :: aR 7 k :: st, M) := by
  intro H locs ls hW hq hu hl
  have hc := (hW.2.1 k hk0 hk).2.2.2.1 ht
  refine W.bast hx hb hc (hA _ (fun j => .int (rI M k j))) (fun q => by cases q) (by rw [arrV_size]; exact hin) rfl rfl hd fun H1 e1 z oq => ?_
  refine kk H1 _ ls (aWd_wI hW hk0 z oq (aCell_7 ht ?_)) (fun q h => ?_) (fun h => by cases h) hl
  · have hn : narrow .byte (.int x) = .int x.toInt8.toInt32 := rfl
    rw [e1, hn, arrV_store]
    show some (arrV _ _ _) = some (arrV _ (rK M k).2 (fun j => .int (a2 _ k i.toNatClampNeg x.toInt8.toInt32 k j)))
    congr 2
    funext q
    rw [a2_row]
    by_cases hq : q = i.toNatClampNeg
    · subst hq; simp [updV]
    · simp [updV, hq, rI]
  · rcases List.mem_append.mp h with h | h
    · exact hq q h
    · rw [List.mem_singleton.mp h]; show E.1 < E.1 + k; omega
theorem ag_lald (hx : p.tables.exec = Jvm.exec) (hb : c.code = cc) (hA : ArrOfT s (E.2.2.2.2.2 6) .long) {k : Nat} {i : Int32} (hk0 : 0 < k) (hk : k < aN M) (ht : (rK M k).1 = 6) (hin : vp_in i (rK M k).2) (hd : decode cc pc = .ok (.laload, 1)) (kk : aG E p l e R s m args below meth c n0 z0 Q u (pc + 1, L, aJ (rJ M k i.toNatClampNeg) :: st, M)) : aG E p l e R s m args below meth c n0 z0 Q u (pc, L, aI i :: aR 6 k :: st, M) := by
  intro H locs ls hW hq hu hl
  have hlt : i.toNatClampNeg < (rK M k).2 := Nat.not_le.mp fun q => hin (Or.inr q)
  have hc := (hW.2.1 k hk0 hk).2.2.1 ht
  exact W.lald (v := .long (rJ M k i.toNatClampNeg)) hx hb hc (hA _ (fun j => .long (rJ M k j))) (fun q => by cases q) (by rw [arrV_size]; exact hin) (arrV_read _ (fun j => .long (rJ M k j)) hlt) rfl rfl hd (kk H locs ls hW hq hu hl)
theorem ag_iast (hx : p.tables.exec = Jvm.exec) (hb : c.code = cc) (hA : ArrOfT s (E.2.2.2.2.2 4) .int) {k : Nat} {i x : Int32} (hk0 : 0 < k) (hk : k < aN M) (ht : (rK M k).1 = 4) (hin : vp_in i (rK M k).2) (hd : decode cc pc = .ok (.iastore, 1)) (kk : aG E p l e R s m args below meth c n0 z0 Q false (pc + 1, L, st, wI M k i.toNatClampNeg x)) : aG E p l e R s m args below meth c n0 z0 Q u (pc, L, aI x :: aI i :: aR 4 k :: st, M) := by
  intro H locs ls hW hq hu hl
  have hc := (hW.2.1 k hk0 hk).1 ht
  refine W.iast hx hb hc (hA _ (fun j => .int (rI M k j))) (fun q => by cases q) (by rw [arrV_size]; exact hin) rfl rfl hd fun H1 e1 z oq => ?_
  refine kk H1 _ ls (aWd_wI hW hk0 z oq (aCell_4 ht ?_)) (fun q h => ?_) (fun h => by cases h) hl
  · rw [e1, arrV_store]
    show some (arrV _ _ _) = some (arrV _ (rK M k).2 (fun j => .int (a2 _ k i.toNatClampNeg x k j)))
    congr 2
    funext q
    rw [a2_row]
    by_cases hq : q = i.toNatClampNeg
    · subst hq; simp [updV]
    · simp [updV, hq, rI]
  · rcases List.mem_append.mp h with h | h
    · exact hq q h
    · rw [List.mem_singleton.mp h]; show E.1 < E.1 + k; omega
theorem ag_zast (hx : p.tables.exec = Jvm.exec) (hb : c.code = cc) (hA : ArrOfT s (E.2.2.2.2.2 5) .boolean) {k : Nat} {i x : Int32} (hk0 : 0 < k) (hk : k < aN M) (ht : (rK M k).1 = 5) (hin : vp_in i (rK M k).2) (h01 : x = 0 ∨ x = 1) (hd : decode cc pc = .ok (.bastore, 1)) (kk : aG E p l e R s m args below meth c n0 z0 Q false (pc + 1, L, st, wI M k i.toNatClampNeg x)) : aG E p l e R s m args below meth c n0 z0 Q u (pc, L, aI x :: aI i :: aR 5 k :: st, M) := by
  intro H locs ls hW hq hu hl
  have hc := (hW.2.1 k hk0 hk).2.1 ht
  refine W.zast hx hb hc (hA _ (fun j => .int (rI M k j))) (fun q => by cases q) (by rw [arrV_size]; exact hin) rfl rfl hd fun H1 e1 z oq => ?_
  refine kk H1 _ ls (aWd_wI hW hk0 z oq (aCell_5 ht ?_)) (fun q h => ?_) (fun h => by cases h) hl
  · have hn : narrow .boolean (.int x) = .int x := by rcases h01 with rfl | rfl <;> rfl
    rw [e1, hn, arrV_store]
    show some (arrV _ _ _) = some (arrV _ (rK M k).2 (fun j => .int (a2 _ k i.toNatClampNeg x k j)))
    congr 2
    funext q
    rw [a2_row]
    by_cases hq : q = i.toNatClampNeg
    · subst hq; simp [updV]
    · simp [updV, hq, rI]
  · rcases List.mem_append.mp h with h | h
    · exact hq q h
    · rw [List.mem_singleton.mp h]; show E.1 < E.1 + k; omega
theorem ag_last (hx : p.tables.exec = Jvm.exec) (hb : c.code = cc) (hA : ArrOfT s (E.2.2.2.2.2 6) .long) {k : Nat} {i : Int32} {x : Int64} (hk0 : 0 < k) (hk : k < aN M) (ht : (rK M k).1 = 6) (hin : vp_in i (rK M k).2) (hd : decode cc pc = .ok (.lastore, 1)) (kk : aG E p l e R s m args below meth c n0 z0 Q false (pc + 1, L, st, wJ M k i.toNatClampNeg x)) : aG E p l e R s m args below meth c n0 z0 Q u (pc, L, aJ x :: aI i :: aR 6 k :: st, M) := by
  intro H locs ls hW hq hu hl
  have hc := (hW.2.1 k hk0 hk).2.2.1 ht
  refine W.last hx hb hc (hA _ (fun j => .long (rJ M k j))) (fun q => by cases q) (by rw [arrV_size]; exact hin) rfl rfl hd fun H1 e1 z oq => ?_
  refine kk H1 _ ls (aWd_wJ hW hk0 z oq (aCell_6 ht ?_)) (fun q h => ?_) (fun h => by cases h) hl
  · rw [e1, arrV_store]
    show some (arrV _ _ _) = some (arrV _ (rK M k).2 (fun j => .long (a2 _ k i.toNatClampNeg x k j)))
    congr 2
    funext q
    rw [a2_row]
    by_cases hq : q = i.toNatClampNeg
    · subst hq; simp [updV]
    · simp [updV, hq, rJ]
  · rcases List.mem_append.mp h with h | h
    · exact hq q h
    · rw [List.mem_singleton.mp h]; show E.1 < E.1 + k; omega
theorem cv_10 {E : aE} (ci k : Nat) : cv E (aR (10 + ci) k) = .ref (E.1 + k) := by
  show (if 10 + ci = 0 then Value.null else .ref (aAd E (10 + ci) k)) = _
  rw [if_neg (by omega)]
  unfold aAd
  rw [if_neg (by omega), if_neg (by omega)]
theorem cv_100 {E : aE} (ci k : Nat) : cv E (aR (100 + ci) k) = .ref (E.1 + k) := by
  show (if 100 + ci = 0 then Value.null else .ref (aAd E (100 + ci) k)) = _
  rw [if_neg (by omega)]
  unfold aAd
  rw [if_neg (by omega), if_neg (by omega)]
theorem ag_get (hx : p.tables.exec = Jvm.exec) (hb : c.code = cc) {own ref C : String} {T : u_T} {N ci index : Nat} {Ts : List Cond} (hts : ∀ w ∈ Ts, w.before args s = true) (hin : ∀ w ∈ u_ws C T N, w ∈ Ts) (hown : s.vm.findClass own = some m.cls) (hc : aCls[ci]? = some (C, T, N)) (hci : ci < 90) (hKs : va_K E.2.2.2.2.1 aCls [] s) {k : Nat} (hk0 : 0 < k) (hk : k < aN M) (ht : (rK M k).1 = 10 + ci) (j : Nat) (hj : j < N)
    (hlink : (Cond.fieldLink own index ref (T j).2.1 (T j).2.2.1).before args s = true) (hsame : ∀ x, s.fieldFound? (T j).1 (T j).2.1 (T j).2.2.1 = some x → s.fieldFound? ref (T j).2.1 (T j).2.2.1 = some x) {v : aV} (hv : cf E M k j (aFd ci j) = cv E v) (hd : decode cc pc = .ok (.getfield index, 3))
    (kk : aG E p l e R s m args below meth c n0 z0 Q u (pc + 3, L, v :: st, M)) : aG E p l e R s m args below meth c n0 z0 Q u (pc, L, aR (10 + ci) k :: st, M) := by
  intro H locs ls hW hq hu hl
  obtain ⟨r, h1, cell, q1, q2, q3, q4⟩ := (hW.2.1 k hk0 hk).2.2.2.2.2 ci hci ht
  have hr : r = (C, T, N) := Option.some.inj (h1.symm.trans hc)
  subst hr
  obtain ⟨hS, hfc, kC, hkC, hkind⟩ := hKs.1 ci _ hc
  obtain ⟨cf9, kf, fi, f, hi, hsl⟩ := hS j hj
  have h0 := kk H locs ls hW hq hu hl
  show W p l e R s m args below meth c H locs _ _ Q (F0 m pc ls (cv E (aR (10 + ci) k) :: st.map (cv E)))
  rw [cv_10]
  refine W.getf hx hb hown hlink (hsame _ hi) (u_facts hfc hkC (u_lays hts hin hj) hi).1 q1 (by rw [q3]; exact fun h => by cases h) (v := cv E v) ?_ rfl rfl hd h0
  rw [hsl, q4 j hj]
  exact congrArg some hv
theorem ag_put (hx : p.tables.exec = Jvm.exec) (hb : c.code = cc) {own ref C : String} {T : u_T} {N ci index : Nat} {Ts : List Cond} (hts : ∀ w ∈ Ts, w.before args s = true) (hin : ∀ w ∈ u_ws C T N, w ∈ Ts) (ty0 : Nat → FieldType) (hty : ∀ k, k < N → parseFieldDescriptor (T k).2.2.1 = some (ty0 k)) (hnm : ∀ a, a < N → ∀ b, b < N → a ≠ b → (T a).2.1 ≠ (T b).2.1) (hown : s.vm.findClass own = some m.cls) (hc : aCls[ci]? = some (C, T, N)) (hci : ci < 90) (hKs : va_K E.2.2.2.2.1 aCls [] s) {k : Nat} (hk0 : 0 < k) (hk : k < aN M) (ht : (rK M k).1 = 10 + ci) (j : Nat) (hj : j < N)
    (hlink : (Cond.fieldLink own index ref (T j).2.1 (T j).2.2.1).before args s = true) (hsame : ∀ x, s.fieldFound? (T j).1 (T j).2.1 (T j).2.2.1 = some x → s.fieldFound? ref (T j).2.1 (T j).2.2.1 = some x) (hfin : (T j).2.2.2 = false ∨ ((T j).2.2.2 = true ∧ meth.name = "<init>" ∧ (T j).1 = own)) {v : aV} (hn : narrow (ty0 j) (cv E v) = cv E v) (hfit : fits (ty0 j) (cv E v) = true) (hd : decode cc pc = .ok (.putfield index, 3)) {M' : aM}
    (hM : ∀ H1 : Heap, t_OB (E.1 + k) (E.2.2.2.2.1.1 ci) N (E.2.2.2.2.1.2 ci) H1 (updV (fun i => cf E M k i (aFd ci i)) j (cv E v)) → ∀ H : Heap, aWd E M H → H1.size = H.size → (∀ q, q ≠ E.1 + k → H1[q]? = H[q]?) → aWd E M' H1) (h1M : M'.1 = M.1)
    (kk : aG E p l e R s m args below meth c n0 z0 Q false (pc + 3, L, st, M')) : aG E p l e R s m args below meth c n0 z0 Q u (pc, L, v :: aR (10 + ci) k :: st, M) := by
  intro H locs ls hW hq hu hl
  obtain ⟨r, h1, cell, q1, q2, q3, q4⟩ := (hW.2.1 k hk0 hk).2.2.2.2.2 ci hci ht
  have hr : r = (C, T, N) := Option.some.inj (h1.symm.trans hc)
  subst hr
  obtain ⟨hS, hfc, kC, hkC, hkind⟩ := hKs.1 ci _ hc
  obtain ⟨cf9, kf, fi, f, hi, hsl⟩ := hS j hj
  have hst := (u_facts hfc hkC (u_lays hts hin hj) hi).1
  have hap : ∀ x y, x < N → y < N → x ≠ y → (E.2.2.2.2.1.2 ci) x ≠ (E.2.2.2.2.1.2 ci) y := va_apart (own := own) (D := E.2.2.2.2.1) (cl := aCls) (tys := []) (ci := ci) hts hin ty0 hty hnm hKs hc
  have hlay := hts _ (hin _ (u_in_lay hj))
  unfold u_lay at hlay
  show W p l e R s m args below meth c H locs _ _ Q (F0 m pc ls (cv E v :: cv E (aR (10 + ci) k) :: st.map (cv E)))
  rw [cv_10]
  have fin : ∀ H' : Heap, H'[E.1 + k]? = some (cell.setSlot f.slot (cv E v)) → H'.size = H.size → (∀ q, q ≠ E.1 + k → H'[q]? = H[q]?) → W p l e R s m args below meth c H' (locs ++ [⟨E.1 + k, f.slot⟩]) (aN M - n0) (aZ M - z0) Q (F0 m (pc + 3) ls (st.map (cv E))) := by
    intro H' e1 e2 e3
    have hob : t_OB (E.1 + k) (E.2.2.2.2.1.1 ci) N (E.2.2.2.2.1.2 ci) H' (updV (fun i => cf E M k i (aFd ci i)) j (cv E v)) := by
      rw [hsl] at e1
      exact ⟨_, e1, q2, q3, t_set q4 hap hj (cv E v)⟩
    have hlq : ∀ q ∈ locs ++ [⟨E.1 + k, f.slot⟩], E.1 < q.base := by
      intro q h
      rcases List.mem_append.mp h with h | h
      · exact hq q h
      · rw [List.mem_singleton.mp h]; show E.1 < E.1 + k; omega
    have h9 := kk H' (locs ++ [⟨E.1 + k, f.slot⟩]) ls (hM H' hob H hW e2 e3) hlq (fun h => by cases h) hl
    have eN : aN M' = aN M := congrArg Prod.fst h1M
    have eZ : aZ M' = aZ M := congrArg Prod.snd h1M
    rw [← eN, ← eZ]
    exact h9
  rcases hfin with hfin | ⟨hfin, hin2, hdecl⟩
  · rw [if_neg (by rw [hfin]; decide)] at hlay
    have h6 := u_store hfc hkC hkind hlay hi (hty j hj) hn hfit
    exact W.putK hx hb (f := f) ⟨hown, hlink, ⟨_, _, _, hsame _ hi⟩, hst⟩ (by rw [q2]; exact h6) q1 q3 (by rw [hsl]; exact k2_hasslot (q4 j hj)) rfl rfl hd fin
  · rw [if_pos hfin] at hlay
    have hcf : m.cls = cf9 := by
      obtain ⟨_, _, c', _, _, _, -, -, hf', -, -, -, hown2, -⟩ := Cond.laysFinal_spec hlay
      have e1 : c' = cf9 := by have := hi.symm.trans hf'; simp at this; exact this.1.symm
      rw [hdecl] at hown2
      rw [← e1]; exact Option.some.inj (hown.symm.trans hown2)
    have h6 := u_fits hfc hkC hkind (Or.inr hlay) hi (hty j hj) hn hfit
    exact W.putFinK hx hb hown hlink (hsame _ hi) hst hcf hin2 (by rw [q2]; exact h6) q1 q3 (by rw [hsl]; exact k2_hasslot (q4 j hj)) rfl rfl hd fin
theorem ag_aald (hx : p.tables.exec = Jvm.exec) (hb : c.code = cc) {ci : Nat} {nm : String} (hA : ArrOfT s (E.2.2.2.2.2 (100 + ci)) (.object nm)) {k : Nat} {i : Int32} {v : aV} (hk0 : 0 < k) (hk : k < aN M) (ht : (rK M k).1 = 100 + ci) (hin : vp_in i (rK M k).2) (hv : cr E (10 + ci) (rR M k i.toNatClampNeg) = cv E v) (hd : decode cc pc = .ok (.aaload, 1)) (kk : aG E p l e R s m args below meth c n0 z0 Q u (pc + 1, L, v :: st, M)) : aG E p l e R s m args below meth c n0 z0 Q u (pc, L, aI i :: aR (100 + ci) k :: st, M) := by
  intro H locs ls hW hq hu hl
  have hlt : i.toNatClampNeg < (rK M k).2 := Nat.not_le.mp fun q => hin (Or.inr q)
  have hc := (hW.2.1 k hk0 hk).2.2.2.2.1 ci ht
  show W p l e R s m args below meth c H locs _ _ Q (F0 m pc ls (.int i :: cv E (aR (100 + ci) k) :: st.map (cv E)))
  rw [cv_100]
  exact W.aald (v := cv E v) (ty := .object nm) hx hb hc (hA _ (fun j => cr E (10 + ci) (rR M k j))) rfl (fun q => by cases q) (by rw [arrV_size]; exact hin) (by rw [arrV_read _ (fun j => cr E (10 + ci) (rR M k j)) hlt, hv]) rfl rfl hd (kk H locs ls hW hq hu hl)
theorem ag_aast (hx : p.tables.exec = Jvm.exec) (hb : c.code = cc) {ci : Nat} {r : vw_C} (hr : aCls[ci]? = some r) (hci : ci < 90) (hKs : va_K E.2.2.2.2.1 aCls [] s) (hRA : va_RA s (E.2.2.2.2.2 (100 + ci)) (.object r.1)) {k y : Nat} {i : Int32} (hk0 : 0 < k) (hk : k < aN M) (ht : (rK M k).1 = 100 + ci) (hin : vp_in i (rK M k).2) (hy0 : 0 < y) (hy : y < aN M) (hty : (rK M y).1 = 10 + ci) (hd : decode cc pc = .ok (.aastore, 1)) (kk : aG E p l e R s m args below meth c n0 z0 Q false (pc + 1, L, st, wR M k i.toNatClampNeg y)) : aG E p l e R s m args below meth c n0 z0 Q u (pc, L, aR (10 + ci) y :: aI i :: aR (100 + ci) k :: st, M) := by
  intro H locs ls hW hq hu hl
  have hlt : i.toNatClampNeg < (rK M k).2 := Nat.not_le.mp fun q => hin (Or.inr q)
  have h0 : ¬ i < 0 := fun q => hin (Or.inl q)
  have hc := (hW.2.1 k hk0 hk).2.2.2.2.1 ci ht
  obtain ⟨r', hr', cellV, g1, g2, g3, -⟩ := (hW.2.1 y hy0 hy).2.2.2.2.2 ci hci hty
  have hcls := (hKs.1 ci r hr).2
  obtain ⟨kA, comp, k1, k2, k3, -⟩ := hRA
  have hcomp : comp = E.2.2.2.2.1.1 ci := Option.some.inj (k3.symm.trans hcls.1)
  subst hcomp
  obtain ⟨kC, hkC, -⟩ := hcls.2
  show W p l e R s m args below meth c H locs _ _ Q (F0 m pc ls (cv E (aR (10 + ci) y) :: .int i :: cv E (aR (100 + ci) k) :: st.map (cv E)))
  rw [cv_100, cv_10]
  refine W.aast hx hb hc (fun q h => by cases h) (fun h => by cases h) k1 k2 rfl hkC ⟨h0, by rw [arrV_size]; exact hlt⟩ g1 (fun q h => by rw [g3] at h; cases h) (by rw [g2]; exact hkC) (by rw [g2]; exact va_assign hcls) rfl rfl hd fun H1 e1 z oq => ?_
  refine kk H1 _ ls (aWd_wR hW hk0 z oq (aCell_100 ht ?_)) (fun q h => ?_) (fun h => by cases h) hl
  · rw [e1, arrV_store]
    show some (arrV _ _ _) = some (arrV _ (rK M k).2 (fun j => cr E (10 + ci) (a2 _ k i.toNatClampNeg y k j)))
    congr 2
    funext q
    rw [a2_row]
    by_cases hq : q = i.toNatClampNeg
    · subst hq
      simp only [updV, if_true]
      unfold cr aAd
      rw [if_neg (by omega), if_neg (by omega), if_neg (by omega)]
    · simp [updV, hq, rR]
  · rcases List.mem_append.mp h with h | h
    · exact hq q h
    · rw [List.mem_singleton.mp h]; show E.1 < E.1 + k; omega
end AG
