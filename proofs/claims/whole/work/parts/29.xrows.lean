/-! Rows of throws: a call of a method that throws, passed on or caught. -/
def tExc (x : Nat) : String := (["java/lang/IndexOutOfBoundsException", "java/lang/IllegalArgumentException", "java/lang/IllegalStateException"] : List String).getD x ""
/-- the object of id 'id', of the class of number x, is thrown; the memory behind it -/
def aQx (E : aE) (x id : Nat) (M1 : aM) : Array Value → State → Addr → State → Prop := fun _ st a t => a = E.1 + id ∧ aWd E M1 t.heap ∧ ∃ ce : Cell, t.heap[a]? = some ce ∧ ce.vm = .none ∧ st.vm.findClass (tExc x) = some ce.cls
def aMetX (E : aE) (l : Launch) (q d w : Nat) (as : List aV) (M : aM) (x id : Nat) (M1 : aM) (u : Bool) : Prop := MetX l (tY q) (aWs q) (aRm d w M M1) (aPc E M as) (aQx E x id M1) (aN M1 - aN M) (aZ M1 - aZ M) (aFr E u)
section XR
variable {p : Program} {l : Launch} {e : Env} {R : Room} {s : State} {m : MethodId} {args : Array Value} {below : List Frame} {meth : Method} {c : Code} {H : Heap} {locs : List Loc} {cells slots : Nat} {Q : State → Prop}
def X_Run (p : Program) (l : Launch) (e : Env) (R : Room) (s : State) (m : MethodId) (args : Array Value) (below : List Frame) (meth : Method) (c : Code) (H : Heap) (locs : List Loc) (cells slots mc ms : Nat) (g : JFrame) (rest : List Value) (Qa : State → Addr → State → Prop) (free : Addr → Prop) : Prop :=
  ∀ T : State, T.heap = H → Stand p l e R s m args below meth c T locs cells slots → ∃ (x : Addr) (st₀ t B : State) (L : List Loc), s.WarmedH st₀.vm ∧ Stand p l e R s m args below meth c B (locs ++ L) (cells + mc) (slots + ms) ∧ (∀ q ∈ L, free q.base) ∧ B.heap = t.heap ∧ Qa st₀ x t ∧
    ∀ target, Steps p.tables e below ((B.setTop { g with stack := rest }).pushFrame (.throwing x)) target → Steps p.tables e below (T.setTop g) target
variable {y : MethodName} {bytes cc : ByteArray} {maxL nL mc ms n index : Nat} {ret : Option FieldType} {ws : List Cond} {rm : Room} {Pc : Array Value → State → Prop} {Qx : Array Value → State → Addr → State → Prop} {free : Addr → Prop} {Ts : List Cond} {own C : String} {b : Addr} {As rest : List Value} {g : JFrame}
theorem x_runV (S : CallFix p m c cc nL s args Ts own) (hM : MetX l y ws rm Pc Qx mc ms free) (cw : CallW R s args own C index y bytes maxL ret ws rm mc ms n) (hp : PreV s H C b Pc As)
    (hg : g.method = m) (hn : As.length = n) (hsize : g.locals.size = nL) (hstack : g.stack = As.reverse ++ .ref b :: rest) (hW : 2 * g.monitorRoom + (rest.map fun v => v.category).sum ≤ 8) (hdg : decode cc g.pc = .ok (.invokevirtual index, 3)) (hf : cells + mc ≤ R.cells ∧ slots + ms ≤ R.slots) :
    X_Run p l e R s m args below meth c H locs cells slots mc ms g rest (Qx (Value.ref b :: As).toArray) free := by
  obtain ⟨⟨hrc, hrs, hfr, hlo, hws, hcw, hcode, hini, hy, hlen, hlink⟩, hinst, hsel⟩ := cw
  obtain ⟨hx, hb, hml, hown, -⟩ := S
  obtain ⟨hbl, ⟨cellB, hcell, hobj, hcls⟩, hPc⟩ := hp
  subst hb
  intro T hT X
  obtain ⟨mk, methM, hnamed, hmethM, hstM, habM⟩ := Cond.instanceMethod_spec hinst
  obtain ⟨methM', cM, hmethM', -, -, -, -, -, -, hsigM⟩ := Cond.code_spec hnamed hcode
  cases hmethM.symm.trans hmethM'
  obtain ⟨c2, r2, m2, q1, q2, q3, q4, kP, hkP, hkPi⟩ := Cond.selects_spec hsel
  cases hcls.symm.trans q1
  cases (State.methodFound?_of_named hnamed hy).symm.trans q2
  cases hnamed.symm.trans q3
  have hselP : selectMethod e.platform s.vm cellB.cls mk = .method mk := by rw [Launch.admits_selectMethod X.admits]; exact q4
  obtain ⟨vm₁, X₁, hstep₁⟩ := X.invokevirtual hx hown hlink hnamed hmethM hstM hkP hkPi hy (a := b) (cell := cellB) (by rw [hT]; exact hcell)
    (fun z h => by rw [h] at hobj; cases hobj) hselP hmethM habM hkP hkPi (g := g) hg (argsL := As) (rest := rest) (hn.trans (hlen _ hsigM)) hstack hdg
  obtain ⟨x, t, B, L, e1, e2, X', hq, hL, hsteps⟩ := backX (bytes := bytes) (maxL := maxL) (ret := ret) (W := 8) (len := 3) hM hbl hrc hrs hfr hlo hws hcw (fun a' U hW => word_at hW (Or.inl (by first | rfl | simp [Cond.onTables, Cond.keeps, Cond.steady])) hini) (g := { g with stack := rest }) (ig := .invokevirtual index) (mk := mk) (a := (Value.ref b :: As).toArray) X₁ hg (hsize.trans hml.symm) hdg hW (X₁.named hnamed) hf.1 hf.2 (hPc _ hT X₁.warmed)
  exact ⟨x, (T.setVm vm₁).calling { g with stack := rest } mk (Value.ref b :: As).toArray, t, B, L, X₁.warmed, X', hL, e1, hq, fun target h => hstep₁ _ fun acts => by rw [doInvoke_state]; exact hsteps.trans h⟩
theorem x_runS (S : CallFix p m c cc nL s args Ts own) (hM : MetX l y ws rm Pc Qx mc ms free) (cw : CallB R s args own index y bytes maxL ret ws rm mc ms n ∧ (Cond.static y).before args s = true) (hp : PreS s H Pc As)
    (hg : g.method = m) (hn : As.length = n) (hsize : g.locals.size = nL) (hstack : g.stack = As.reverse ++ rest) (hW : 2 * g.monitorRoom + (rest.map fun v => v.category).sum ≤ 8) (hdg : decode cc g.pc = .ok (.invokestatic index, 3)) (hf : cells + mc ≤ R.cells ∧ slots + ms ≤ R.slots) :
    X_Run p l e R s m args below meth c H locs cells slots mc ms g rest (Qx As.toArray) free := by
  obtain ⟨⟨hrc, hrs, hfr, hlo, hws, hcw, hcode, hini, hy, hlen, hlink⟩, hstat⟩ := cw
  obtain ⟨hx, hb, hml, hown, -⟩ := S
  obtain ⟨hbl, hPc⟩ := hp
  subst hb
  intro T hT X
  obtain ⟨mk, hnamed⟩ := Cond.code_named hcode
  obtain ⟨methM, cM, hmethM, -, -, -, -, -, -, hsigM⟩ := Cond.code_spec hnamed hcode
  have hstatic : methM.isStatic = true := Cond.static_spec hnamed hmethM hstat
  obtain ⟨kP, hkP, -⟩ := className_of_methodNamed hnamed
  have hinitP : kP.init = .initialized := Cond.initialized_spec (findClass_of_methodNamed hnamed) hkP hini
  obtain ⟨vm₁, X₁, hstep₁⟩ := X.invokestatic hx hown hlink hnamed hmethM hstatic hkP hinitP hy (g := g) hg (argsL := As) (rest := rest) (hn.trans (hlen _ hsigM)) hstack hdg
  obtain ⟨x, t, B, L, e1, e2, X', hq, hL, hsteps⟩ := backX (bytes := bytes) (maxL := maxL) (ret := ret) (W := 8) (len := 3) hM hbl hrc hrs hfr hlo hws hcw (fun a' U hW => word_at hW (Or.inl (by first | rfl | simp [Cond.onTables, Cond.keeps, Cond.steady])) hini) (g := { g with stack := rest }) (ig := .invokestatic index) (mk := mk) (a := As.toArray) X₁ hg (hsize.trans hml.symm) hdg hW (X₁.named hnamed) hf.1 hf.2 (hPc _ hT X₁.warmed)
  exact ⟨x, (T.setVm vm₁).calling { g with stack := rest } mk As.toArray, t, B, L, X₁.warmed, X', hL, e1, hq, fun target h => hstep₁ _ fun acts => by rw [doInvoke_state]; exact hsteps.trans h⟩
end XR
section XA
variable {E : aE} {p : Program} {l : Launch} {e : Env} {R : Room} {s : State} {m : MethodId} {args : Array Value} {below : List Frame} {meth : Method} {c : Code} {Q : State → Prop} {n0 z0 : Nat} {pc q : Nat} {L : List (Option aV)} {st : List aV} {M M1 : aM} {u u1 : Bool} {q1 d1 w1 index x id : Nat} {as rest : List aV} {H : Heap} {locs : List Loc} {ls : Array Slot} {a : Array Value} {stk rst : List Value}
theorem x_locs {L9 : List Loc} (hq : ∀ q ∈ locs, E.1 < q.base) (hu : u = true → H = s.heap ∧ locs = []) (hL : ∀ q ∈ L9, aFr E u1 q.base) : ∀ q ∈ locs ++ L9, aFr E (bif u1 then u else false) q.base := by
  intro z hz
  cases u1 with
  | false =>
    rcases List.mem_append.mp hz with h | h
    · exact ⟨rfl, hq z h⟩
    · exact ⟨rfl, (hL z h).2⟩
  | true =>
    rcases List.mem_append.mp hz with h | h
    · cases u with
      | false => exact ⟨rfl, hq z h⟩
      | true => rw [(hu rfl).2] at h; cases h
    · exact absurd (hL z h).1 (by simp)
/-- passed on: this method throws too -/
theorem ag_xout (hlk : meth.locks = false) (hex : c.exceptionTable.toList = []) (hn0 : n0 ≤ aN M) (hz0 : z0 ≤ aZ M) (hN : aN M ≤ aN M1) (hZ : aZ M ≤ aZ M1) (hq : ∀ q ∈ locs, E.1 < q.base) (hu : u = true → H = s.heap ∧ locs = [])
    (hr : X_Run p l e R s m args below meth c H locs (aN M - n0) (aZ M - z0) (aN M1 - aN M) (aZ M1 - aZ M) (F0 m pc ls stk) rst (aQx E x id M1 a) (aFr E u1)) : W p l e R s m args below meth c H locs (aN M - n0) (aZ M - z0) (XQ below (aQx E x id M1) args s (aN M1 - n0) (aZ M1 - z0) (aFr E (bif u1 then u else false))) (F0 m pc ls stk) := by
  intro T hT X9
  obtain ⟨xa, st₀, t, B, L9, hW0, X', hL, e1, ⟨ha, hW1, ce, hce, hvm, hcl⟩, stp⟩ := hr T hT X9
  rw [show aN M - n0 + (aN M1 - aN M) = aN M1 - n0 by omega, show aZ M - z0 + (aZ M1 - aZ M) = aZ M1 - z0 by omega] at X'
  obtain ⟨k1, k2, k3, k4, k5⟩ := X'.leaveThrown xa (g := { F0 m pc ls stk with stack := rst }) rfl rfl rfl (fun y hy => by rw [hex] at hy; cases hy) hlk
  refine ⟨_, stp _ k1, xa, k2, k3, ⟨ha, by show aWd E M1 B.heap; rw [e1]; exact hW1, ce, by show B.heap[xa]? = _; rw [e1]; exact hce, hvm, ?_⟩, _, k4, k5, x_locs hq hu hL⟩
  rw [← hcl]
  exact (hW0.alike.findClass _ _).symm
/-- caught here -/
theorem ag_xcatch (hown : s.vm.findClass (tCn (tOwn q)) = some m.cls) (hts : ∀ w ∈ aTbl, w.before args s = true) {pre rest9 : List ExceptionTableEntry} {xr : ExceptionTableEntry} {h : Nat} (hsplit : c.exceptionTable.toList = pre ++ xr :: rest9)
    (hpass : ∀ y ∈ pre, covers y pc = false ∨ (y.catchType ≠ 0 ∧ ∃ nm, Cond.classLink (tCn (tOwn q)) y.catchType nm ∈ aTbl ∧ (Cond.not (.castable (tExc x) nm)).before args s = true))
    (hx : covers xr pc = true) (h0 : xr.catchType ≠ 0) (hlk9 : Cond.classLink (tCn (tOwn q)) xr.catchType (tExc x) ∈ aTbl) (hcast : (Cond.castable (tExc x) (tExc x)).before args s = true) (hpc : xr.handlerPc = h)
    (hn0 : n0 ≤ aN M) (hz0 : z0 ≤ aZ M) (hN : aN M ≤ aN M1) (hZ : aZ M ≤ aZ M1) (hq : ∀ q ∈ locs, E.1 < q.base) (hu : u = true → H = s.heap ∧ locs = []) (hu1 : u1 = false) (hl : aLv E ls L)
    (hr : X_Run p l e R s m args below meth c H locs (aN M - n0) (aZ M - z0) (aN M1 - aN M) (aZ M1 - aZ M) (F0 m pc ls stk) rst (aQx E x id M1 a) (aFr E u1))
    (k : aG E p l e R s m args below meth c n0 z0 Q false (h, L, [aR 3 id], M1)) : W p l e R s m args below meth c H locs (aN M - n0) (aZ M - z0) Q (F0 m pc ls stk) := by
  subst hu1
  intro T hT X9
  obtain ⟨xa, st₀, t, B, L9, hW0, X', hL, e1, ⟨ha, hW1, ce, hce, hvm, hcl⟩, stp⟩ := hr T hT X9
  rw [show aN M - n0 + (aN M1 - aN M) = aN M1 - n0 by omega, show aZ M - z0 + (aZ M1 - aZ M) = aZ M1 - z0 by omega] at X'
  have hcls : s.vm.findClass (tExc x) = some ce.cls := by rw [← hcl]; exact (hW0.alike.findClass _ _).symm
  have hpl : e.platform.magicAccessors = ({} : Platform).magicAccessors := by rw [X'.admits.platform]
  have hself : s.vm.assignable ce.cls ce.cls = true := by
    have h1 := hcast
    simp only [Cond.before, Cond.holds, Cond.value, hcls] at h1
    simpa using h1
  have hob : ce.vm.isStatics = false := by rw [hvm]; rfl
  obtain ⟨hend, hk0⟩ := X'.catches_of_link hown h0 (hts _ hlk9) hcls hself
  obtain ⟨vm', X2, stp2⟩ := X'.caughtThrough xa (g := { F0 m pc ls stk with stack := rst }) rfl (cell := ce) (by rw [e1]; exact hce) hob hk0 pre xr rest9 hsplit (fun y hy => by
    rcases hpass y hy with h9 | ⟨h8, nm, h7, h6⟩
    · exact Or.inl h9
    · exact RowPassed.of_words hpl hown h8 (hts _ h7) hcls h6) hx hend
  obtain ⟨t2, a1, b1⟩ := k B.heap (locs ++ L9) ls (by rw [e1]; exact hW1) (fun z hz => (x_locs hq hu hL z hz).2) (fun z => by cases z) hl (B.setVm vm') rfl X2
  refine ⟨t2, stp t2 ?_, b1⟩
  rw [X'.pushThrowing_eq]
  refine stp2 t2 ?_
  rw [ha, hpc]
  exact a1
end XA
