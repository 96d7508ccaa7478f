/-! The law's own methods with handlers; calls of them; the handlers. -/
def tCi (x : Nat) : Nat := ([25, 19, 13] : List Nat).getD x 0
def tHq (q : Nat) : List (Nat × Nat × Nat × Nat) := match tHdL.find? (fun e => e.1 == q) with
  | some e => e.2
  | none => []
def tHh (q : Nat) : List (Nat × Nat × Nat × Nat) := (tHq q).map (fun h => (h.1, h.2.1, h.2.2.1, tCi h.2.2.2))
theorem aHnd_eq (q pc x : Nat) : aHnd q pc x = ((tHq q).find? (fun h => decide (h.1 ≤ pc) && decide (pc < h.2.1) && h.2.2.2 == x)).map (fun h => h.2.2.1) := by
  unfold aHnd tHq
  cases tHdL.find? (fun e => e.1 == q) with
  | none => rfl
  | some e => rfl
def kW (q : Nat) : Prop := lw_tbl[(tMI q).1]? = some (.codeWith (tY q) (tB q) (tMl q) (tRt q) (tHh q))
set_option maxRecDepth 20000 in
theorem kw_230 : kW 230 := rfl
set_option maxRecDepth 20000 in
theorem kw_231 : kW 231 := rfl
set_option maxRecDepth 20000 in
theorem kw_232 : kW 232 := rfl
set_option maxRecDepth 20000 in
theorem kw_233 : kW 233 := rfl
set_option maxRecDepth 20000 in
theorem kw_234 : kW 234 := rfl
set_option maxRecDepth 20000 in
theorem kw_235 : kW 235 := rfl
set_option maxRecDepth 20000 in
theorem kw_236 : kW 236 := rfl
set_option maxRecDepth 20000 in
theorem kw_237 : kW 237 := rfl
set_option maxRecDepth 20000 in
theorem kw_238 : kW 238 := rfl
set_option maxRecDepth 20000 in
theorem kw_239 : kW 239 := rfl
set_option maxRecDepth 20000 in
theorem kw_240 : kW 240 := rfl
set_option maxRecDepth 20000 in
theorem kw_241 : kW 241 := rfl
set_option maxRecDepth 20000 in
theorem kw_242 : kW 242 := rfl
set_option maxRecDepth 20000 in
theorem kw_243 : kW 243 := rfl
set_option maxRecDepth 20000 in
theorem kw_244 : kW 244 := rfl
set_option maxRecDepth 20000 in
theorem kw_245 : kW 245 := rfl
set_option maxRecDepth 20000 in
theorem kw_246 : kW 246 := rfl
set_option maxRecDepth 20000 in
theorem kw_247 : kW 247 := rfl
set_option maxRecDepth 20000 in
theorem kw_248 : kW 248 := rfl
theorem kW_q {q : Nat} (hq : q < 252) (hk : (tMI q).2.2.2.2 = 3) : kW q := by
  have h : ∀ q ∈ List.range 252, (tMI q).2.2.2.2 = 3 → 230 ≤ q ∧ q < 249 := by decide +kernel
  obtain ⟨h1, h2⟩ := h q (List.mem_range.mpr hq) hk
  rcases (show q = 230 ∨ q = 231 ∨ q = 232 ∨ q = 233 ∨ q = 234 ∨ q = 235 ∨ q = 236 ∨ q = 237 ∨ q = 238 ∨ q = 239 ∨ q = 240 ∨ q = 241 ∨ q = 242 ∨ q = 243 ∨ q = 244 ∨ q = 245 ∨ q = 246 ∨ q = 247 ∨ q = 248 by omega) with rfl | rfl | rfl | rfl | rfl | rfl | rfl | rfl | rfl | rfl | rfl | rfl | rfl | rfl | rfl | rfl | rfl | rfl | rfl
  · exact kw_230
  · exact kw_231
  · exact kw_232
  · exact kw_233
  · exact kw_234
  · exact kw_235
  · exact kw_236
  · exact kw_237
  · exact kw_238
  · exact kw_239
  · exact kw_240
  · exact kw_241
  · exact kw_242
  · exact kw_243
  · exact kw_244
  · exact kw_245
  · exact kw_246
  · exact kw_247
  · exact kw_248
theorem kW3_all : (List.range 252).all (fun q => !((tMI q).2.2.2.2 == 3) || (decide (lw_tbl[(tMI q).2.1]? = some (.static (tY q))) && (decide (lw_tbl[(tMI q).2.2.1]? = some (.initialized (tY q).cls)) && (decide ((tY q).cls = tCn 13 ∧ tOwn q = 13 ∧ plainName (tY q).cls = true) && decide ((parseMethodDescriptor (tY q).desc).map (fun d => d.parameters.length) = some (tPar q)))))) = true := by decide +kernel
theorem kW3 {q : Nat} (hq : q < 252) (hk : (tMI q).2.2.2.2 = 3) : Cond.static (tY q) ∈ aTbl ∧ Cond.initialized (tY q).cls ∈ aTbl ∧ ((tY q).cls = tCn 13 ∧ tOwn q = 13 ∧ plainName (tY q).cls = true) ∧ (parseMethodDescriptor (tY q).desc).map (fun d => d.parameters.length) = some (tPar q) := by
  have h := List.all_eq_true.mp kW3_all q (List.mem_range.mpr hq)
  rw [hk] at h
  simp only [beq_self_eq_true, Bool.not_true, Bool.false_or, Bool.and_eq_true, decide_eq_true_eq] at h
  exact ⟨in_tbl_i h.1 rfl, in_tbl_i h.2.1 rfl, h.2.2.1, h.2.2.2⟩
theorem cl_0 : Cond.classLink (tCn 13) 25 (tExc 0) ∈ aTbl := in_tbl_i (i := 759) (by decide +kernel) rfl
theorem ck_0 : lw_tbl[769]? = some (.castable (tExc 0) (tExc 0)) := by decide +kernel
theorem cl_1 : Cond.classLink (tCn 13) 19 (tExc 1) ∈ aTbl := in_tbl_i (i := 735) (by decide +kernel) rfl
theorem ck_1 : lw_tbl[742]? = some (.castable (tExc 1) (tExc 1)) := by decide +kernel
theorem cl_2 : Cond.classLink (tCn 13) 13 (tExc 2) ∈ aTbl := in_tbl_i (i := 656) (by decide +kernel) rfl
theorem ck_2 : lw_tbl[663]? = some (.castable (tExc 2) (tExc 2)) := by decide +kernel
theorem nk_1 : sF[52]? = some (.not (.castable (tExc 1) (tExc 0))) := by decide +kernel
theorem nk_2 : sF[51]? = some (.not (.castable (tExc 2) (tExc 0))) := by decide +kernel
theorem cl_all {x : Nat} (h : x < 3) : Cond.classLink (tCn 13) (tCi x) (tExc x) ∈ aTbl := by
  rcases (show x = 0 ∨ x = 1 ∨ x = 2 by omega) with rfl | rfl | rfl
  · exact cl_0
  · exact cl_1
  · exact cl_2
theorem ck_all {E : aE} {s : State} {args : Array Value} (hK : aKx E s) {x : Nat} (h : x < 3) : (Cond.castable (tExc x) (tExc x)).before args s = true := by
  obtain ⟨-, -, -, -, -, -, -, -, s0, w1, -, -, w4, -, -⟩ := hK
  rcases (show x = 0 ∨ x = 1 ∨ x = 2 by omega) with rfl | rfl | rfl
  · exact va_Nw.use rfl (va_Nw.warmC w1 (va_Nw.of rfl (w4 _ (List.mem_of_getElem? ck_0))))
  · exact va_Nw.use rfl (va_Nw.warmC w1 (va_Nw.of rfl (w4 _ (List.mem_of_getElem? ck_1))))
  · exact va_Nw.use rfl (va_Nw.warmC w1 (va_Nw.of rfl (w4 _ (List.mem_of_getElem? ck_2))))
theorem not_cast_at {a0 args : Array Value} {C D : String} {s0 s : State} (hW : s0.WarmedH s.vm) (h : (Cond.not (.castable C D)).before a0 s0 = true) : (Cond.not (.castable C D)).before args s = true := by
  have hal := hW.alike
  have h1 := Cond.holds_not_iff.mp h
  refine Cond.holds_not_iff.mpr ?_
  simp only [Cond.value] at h1 ⊢
  rw [hal.findClass, hal.findClass]
  cases hc : s0.vm.findClass C with
  | none => rw [hc] at h1; simp at h1
  | some c =>
    cases hd : s0.vm.findClass D with
    | none => rw [hc, hd] at h1; simp at h1
    | some d =>
      rw [hc, hd] at h1
      simp only at h1 ⊢
      rw [hal.assignable]
      exact h1
theorem nk_all {E : aE} {s : State} {args : Array Value} (hK : aKx E s) {x : Nat} (h : x = 1 ∨ x = 2) : (Cond.not (.castable (tExc x) (tExc 0))).before args s = true := by
  obtain ⟨-, -, -, -, -, -, -, -, s0, w1, -, -, -, w5, -⟩ := hK
  rcases h with rfl | rfl
  · exact not_cast_at w1 (flat_of_before _ w5 _ (List.mem_of_getElem? nk_1))
  · exact not_cast_at w1 (flat_of_before _ w5 _ (List.mem_of_getElem? nk_2))
theorem kHd_all : (List.range 252).all (fun q => (tHq q).all (fun h => decide (h.2.2.2 < 3)) && match tHq q with
  | [] => true
  | [_] => true
  | [a, b] => a.2.2.2 == 0 && (b.2.2.2 == 1 || b.2.2.2 == 2)
  | _ => false) = true := by decide +kernel
/-- the rows of a handler that is taken -/
theorem hnd_rows {q pc x h : Nat} (hq : q < 252) (hh : aHnd q pc x = some h) : x < 3 ∧ ∃ (pre rest : List (Nat × Nat × Nat × Nat)) (r : Nat × Nat × Nat × Nat), tHq q = pre ++ r :: rest ∧ r.1 ≤ pc ∧ pc < r.2.1 ∧ r.2.2.2 = x ∧ r.2.2.1 = h ∧ ∀ y ∈ pre, (¬ (y.1 ≤ pc ∧ pc < y.2.1)) ∨ (y.2.2.2 = 0 ∧ (x = 1 ∨ x = 2)) := by
  rw [aHnd_eq] at hh
  have hk := List.all_eq_true.mp kHd_all q (List.mem_range.mpr hq)
  simp only [Bool.and_eq_true] at hk
  cases hf : (tHq q).find? (fun h => decide (h.1 ≤ pc) && decide (pc < h.2.1) && h.2.2.2 == x) with
  | none => rw [hf] at hh; cases hh
  | some r =>
    rw [hf] at hh
    have hh : r.2.2.1 = h := Option.some.inj hh
    obtain ⟨hp, pre, rest, hs, hpre⟩ := List.find?_eq_some_iff_append.mp hf
    simp only [Bool.and_eq_true, decide_eq_true_eq, beq_iff_eq] at hp
    have hx3 : x < 3 := by
      have := List.all_eq_true.mp hk.1 r (by rw [hs]; simp)
      rw [← hp.2]
      simpa using this
    refine ⟨hx3, pre, rest, r, hs, hp.1.1, hp.1.2, hp.2, hh, fun y hy => ?_⟩
    have hy1 := hpre y hy
    by_cases hcov : y.1 ≤ pc ∧ pc < y.2.1
    · refine Or.inr ?_
      have h2 := hk.2
      rw [hs] at h2
      have hne : ¬ y.2.2.2 = x := by
        intro e
        simp [hcov.1, hcov.2, e] at hy1
      cases pre with
      | nil => cases hy
      | cons p1 ps =>
        cases ps with
        | nil =>
          have : y = p1 := by simpa using hy
          subst this
          cases rest with
          | nil =>
            simp only [List.cons_append, List.nil_append, Bool.and_eq_true, beq_iff_eq, Bool.or_eq_true] at h2
            rw [hp.2] at h2
            exact ⟨h2.1, h2.2⟩
          | cons a b => simp at h2
        | cons p2 ps =>
          simp at h2
    · exact Or.inl hcov
section WR
variable {p : Program} {l : Launch} {e : Env} {R : Room} {s : State} {m : MethodId} {args : Array Value} {below : List Frame} {meth : Method} {c : Code} {H : Heap} {locs : List Loc} {cells slots : Nat}
variable {y : MethodName} {bytes cc : ByteArray} {maxL nL mc ms n index : Nat} {ret : Option FieldType} {ws : List Cond} {rm : Room} {Pc : Array Value → State → Prop} {Qc : Array Value → State → Outcome → State → Prop} {free : Addr → Prop} {Ts : List Cond} {own : String} {As rest : List Value} {g : JFrame} {hh : List (Nat × Nat × Nat × Nat)}
theorem w_runS (S : CallFix p m c cc nL s args Ts own) (hM : Met l y ws rm Pc Qc mc ms free) (hrc : rm.cells = mc) (hrs : rm.slots = ms) (hfr : rm.frames + 1 ≤ R.frames) (hlo : 8 + (maxL + 11) + rm.locals ≤ R.locals) (hG : GoodIn Ts ws) (hcw : Cond.codeWith y bytes maxL ret hh ∈ ws) (hlink : (Cond.methodLink own index y).before args s = true) (hstat : (Cond.static y).before args s = true) (hini : (Cond.initialized y.cls).before args s = true)
    (hy : y.cls ≠ "java/lang/invoke/MethodHandle" ∧ y.cls ≠ "java/lang/invoke/VarHandle" ∧ (parseMethodDescriptor y.desc).map (fun d => d.parameters.length) = some n) (hp : PreS s H Pc As)
    (hg : g.method = m) (hn : As.length = n) (hsize : g.locals.size = nL) (hstack : g.stack = As.reverse ++ rest) (hW : 2 * g.monitorRoom + (rest.map fun v => v.category).sum ≤ 8) (hdg : decode cc g.pc = .ok (.invokestatic index, 3)) (hf : cells + mc ≤ R.cells ∧ slots + ms ≤ R.slots) :
    va_Run p l e R s m args below meth c H locs cells slots mc ms g rest (Qc As.toArray) free := by
  obtain ⟨hx, hb, hml, hown, ht⟩ := S
  have hws := pay_in ht hG
  have hcode := ht _ (hG _ hcw).1
  obtain ⟨hbl, hPc⟩ := hp
  have hK : Back l R p e below s args y 3 8 (PreOf R mc ms Pc) (PostOf Qc mc ms free) := by
    refine Back.of_freeWith (handlers := hh) (S := headSpec ws rm) (P := Pc) (K := fun _ _ _ _ _ => True) (Q := fun a st o t => Qc a st o t ∧ ∃ L, FrameEnd st o t L mc ms ∧ ∀ q ∈ L, free q.base) (bytes := bytes) (maxL := maxL) (ret := ret)
      (E := fun a st o t L k n => k = mc ∧ n = ms ∧ ∀ q ∈ L, free q.base) hM hfr hlo ?_ ?_ (fun _ _ _ _ _ _ _ _ _ => trivial) ?_ ?_
    · intro m meth c A a X hp
      exact ⟨atoms_intro fun w hw => hws w hw _ _ X.warmed, hws _ hcw _ _ X.warmed, word_at X.warmed (Or.inl (by first | rfl | simp [Cond.onTables, Cond.keeps, Cond.steady])) hini, by rw [show (headSpec ws rm).room.cells = mc from hrc]; exact hp.1, by rw [show (headSpec ws rm).room.slots = ms from hrs]; exact hp.2.1⟩
    · intro m meth c A a g mk X hp
      exact hbl _ _ _ _ hp.2.2
    · intro a st o t ⟨hq, L, hF, hL⟩
      exact ⟨L, mc, ms, hF, rfl, rfl, hL⟩
    · intro m meth c A a g mk v t L k n X hp hq hF ⟨e1, e2, hL⟩
      subst e1; subst e2
      exact ⟨g, mk, t, L, rfl, rfl, hq.1, rfl, hL, rfl, rfl⟩
  subst hb
  intro T hT X
  obtain ⟨mk, methM, cM, hnamed, hmethM, -, -, -, -, -, -, hsigM⟩ := Cond.codeWith_spec hcode
  have hstatic : methM.isStatic = true := Cond.static_spec hnamed hmethM hstat
  obtain ⟨kP, hkP, -⟩ := className_of_methodNamed hnamed
  have hinitP : kP.init = .initialized := Cond.initialized_spec (findClass_of_methodNamed hnamed) hkP hini
  have hlen : As.length = methM.sig.parameters.length := by
    have h9 := hy.2.2
    rw [hsigM] at h9
    rw [hn]
    exact (Option.some.inj h9).symm
  obtain ⟨vm₁, X₁, hstep₁⟩ := X.invokestatic hx hown hlink hnamed hmethM hstatic hkP hinitP ⟨hy.1, hy.2.1⟩ (g := g) hg (argsL := As) (rest := rest) hlen hstack hdg
  obtain ⟨v, ⟨U', l2, c2, s2⟩, X', ⟨g', mk', t, L, e1, e2, hq, h1, hL, h2, h3⟩, hsteps⟩ := hK m meth c ⟨T.setVm vm₁, locs, cells, slots⟩ { g with stack := rest } (.invokestatic index) mk As.toArray X₁ hg (hsize.trans hml.symm) hdg hW (X₁.named hnamed) ⟨hf.1, hf.2, hPc _ hT X₁.warmed⟩
  dsimp only [Pt.U, Pt.locs, Pt.cells, Pt.slots] at X' e1 e2 h1 h2 h3 hsteps
  subst h1; subst h2; subst h3
  exact ⟨v, (T.setVm vm₁).calling g' mk' As.toArray, t, U', L, hT, X', hL, e1, e2, hq, fun target h => hstep₁ _ fun acts => by rw [doInvoke_state]; exact hsteps.trans h⟩
end WR
noncomputable def aWw (q : Nat) : List Cond := .codeWith (tY q) (tB q) (tMl q) (tRt q) (tHh q) :: aTbl
def aMetW (E : aE) (l : Launch) (q d w : Nat) (as : List aV) (M : aM) (r : Option aV) (M1 : aM) (u : Bool) : Prop := Met l (tY q) (aWw q) (aRm d w M M1) (aPc E M as) (aQc E u r M1) (aN M1 - aN M) (aZ M1 - aZ M) (aFr E u)
def aExT (c : Code) (q : Nat) : Prop := c.exceptionTable.toList.map (fun h => (h.startPc, h.endPc, h.handlerPc, h.catchType)) = tHh q
section AW
variable {E : aE} {p : Program} {l : Launch} {e : Env} {R : Room} {s : State} {m : MethodId} {args : Array Value} {below : List Frame} {meth : Method} {c : Code} {Q : State → Prop} {n0 z0 : Nat} {pc q : Nat} {L : List (Option aV)} {st : List aV} {M M1 : aM} {u u1 : Bool} {q1 d1 w1 index : Nat} {as rest : List aV} {r : Option aV}
theorem aMetW_of (hq1 : q1 < 252) (hkd : (tMI q1).2.2.2.2 = 3) (hc : ∀ v ∈ as, (cv E v).category = 1) (hn : as.length ≤ tMl q1)
    (body : ∀ (p : Program) (e : Env) (s : State) (m : MethodId) (args : Array Value) (below : List Frame) (meth : Method) (c : Code), aCx E p s m args meth c q1 → aExT c q1 → aG E p l e (aRm d1 w1 M M1) s m args below meth c (aN M) (aZ M) (MQ below (aQc E u1 r M1) args s (aN M1 - aN M) (aZ M1 - aZ M) (aFr E u1)) true (0, aEnt q1 as, [], M)) : aMetW E l q1 d1 w1 as M r M1 u1 := by
  obtain ⟨-, -, ⟨hcl, hown13, hpl⟩, -⟩ := kW3 hq1 hkd
  refine va_MetW (cc := tB q1) (maxL := tMl q1) (ret := tRt q1) (hh := tHh q1) hpl rfl ?_
  intro p e s m args below meth c s₁ B hml hv
  obtain ⟨rfl, hW, hK⟩ := hv
  have hts := atoms_spec (ws := aWw q1) B.pre
  have hown : s.vm.findClass (tY q1).cls = some m.cls := findClass_of_methodNamed B.named
  have X : aCx E p s m (as.map (cv E)).toArray meth c q1 := ⟨B.exec, B.bytes, hml, by rw [hown13, ← hcl]; exact hown, fun w hw => hts w (List.mem_cons_of_mem _ hw), hK, (name_of_methodNamed B.named B.method).1, B.returns, B.notSynchronized⟩
  have hex : aExT c q1 := by
    obtain ⟨m', meth', c', hn', hm', hc', -, -, he, -⟩ := Cond.codeWith_spec (hts _ List.mem_cons_self)
    cases B.named.symm.trans hn'
    have e1 : meth = meth' := Option.some.inj (B.method.symm.trans hm')
    subst e1
    have e2 : c = c' := Option.some.inj ((Stand.of_body B).code.symm.trans hc')
    subst e2
    exact he
  rw [lg_entry_eq]
  have h9 := body p e s m _ below meth c X hex s.heap [] _ hW (fun q h => by cases h) (fun _ => ⟨rfl, rfl⟩) (aLv_entry hc hn)
  rw [show aN (0, aEnt q1 as, ([] : List aV), M).2.2.2 - aN M = 0 from Nat.sub_self _, show aZ (0, aEnt q1 as, ([] : List aV), M).2.2.2 - aZ M = 0 from Nat.sub_self _] at h9
  exact h9
theorem ag_callW (X : aCx E p s m args meth c q) (hM : aMetW E l q1 d1 w1 as M r M1 u1) (hkd : (tMI q1).2.2.2.2 = 3) (hq1 : q1 < 252) (hlk : Cond.methodLink (tCn (tOwn q)) index (tY q1) ∈ aTbl) (hR : d1 + 1 ≤ R.frames ∧ 8 + (tMl q1 + 11) + w1 ≤ R.locals) (hf : aN M1 - n0 ≤ R.cells ∧ aZ M1 - z0 ≤ R.slots) (hn0 : n0 ≤ aN M) (hz0 : z0 ≤ aZ M) (hN : aN M ≤ aN M1) (hZ : aZ M ≤ aZ M1) (hLl : L.length = tMl q) (hst : st = as.reverse ++ rest) (hal : as.length = tPar q1) (hrl : aWt rest ≤ 8) (hd : decode (tB q) pc = .ok (.invokestatic index, 3))
    (k : aG E p l e R s m args below meth c n0 z0 Q (bif u1 then u else false) (pc + 3, L, r.toList ++ rest, M1)) : aG E p l e R s m args below meth c n0 z0 Q u (pc, L, st, M) := by
  intro H locs ls hW hq hu hl
  obtain ⟨m1, m2, ⟨m3, -, -⟩, m4⟩ := kW3 hq1 hkd
  have hcode := kW_q hq1 hkd
  have hG : GoodIn aTbl (aWw q1) := goodT (fun w hw => by
    unfold aWw at hw
    rcases List.mem_cons.mp hw with rfl | hw
    · exact in_tbl_i hcode rfl
    · exact hw)
  refine ag_back (g := F0 m pc ls (st.map (cv E))) rfl hn0 hz0 hN hZ hq hu hl (w_runS (As := as.map (cv E)) (rest := rest.map (cv E)) (bytes := tB q1) (maxL := tMl q1) (ret := tRt q1) (hh := tHh q1) (n := tPar q1) ⟨X.1, X.2.1, X.2.2.1, X.2.2.2.1, X.2.2.2.2.1⟩ hM rfl rfl hR.1 hR.2 hG List.mem_cons_self (X.2.2.2.2.1 _ hlk) (X.2.2.2.2.1 _ m1) (X.2.2.2.2.1 _ m2) ⟨by rw [m3]; exact tCn_mh _, by rw [m3]; exact tCn_vh _, m4⟩ ⟨aPc_blind E M as, fun U hU hWm => ⟨rfl, by rw [hU]; exact hW, aKx_warm hWm X.2.2.2.2.2.1⟩⟩ rfl (by rw [List.length_map]; exact hal) (hl.1.trans hLl) ?_ (lv_room (cat_sum rest hrl)) hd ⟨by omega, by omega⟩) k
  show st.map (cv E) = _
  rw [hst, List.map_append, List.map_reverse]
/-- a throw that is caught in a method of the law -/
theorem ag_callH (X : aCx E p s m args meth c q) (hown : tOwn q = 13) (hq252 : q < 252) (hex : aExT c q) {i : Instr} {x id h : Nat} (hc : aCallOf (tOwn q) i st = some (q1, as, rest)) (hk1 : (tMI q1).2.2.2.2 < 2) (hq1 : q1 < 252) (hM : aMetX E l q1 d1 w1 as M x id M1 u1) (hu1 : u1 = false) (hd : decode (tB q) pc = .ok (i, 3)) (hR : d1 + 1 ≤ R.frames ∧ 8 + (tMl q1 + 11) + w1 ≤ R.locals) (hf : aN M1 - n0 ≤ R.cells ∧ aZ M1 - z0 ≤ R.slots) (hn0 : n0 ≤ aN M) (hz0 : z0 ≤ aZ M) (hN : aN M ≤ aN M1) (hZ : aZ M ≤ aZ M1) (hLl : L.length = tMl q) (hrl : aWt rest ≤ 8) (ok : aOkS M st) (hh : aHnd q pc x = some h)
    (k : aG E p l e R s m args below meth c n0 z0 Q false (h, L, [aR 3 id], M1)) : aG E p l e R s m args below meth c n0 z0 Q u (pc, L, st, M) := by
  intro H locs ls hW hq hu hl
  obtain ⟨hx3, pre, rest9, r9, hs, c1, c2, c3, c4, hpre⟩ := hnd_rows hq252 hh
  unfold aExT tHh at hex
  rw [hs, List.map_append, List.map_cons] at hex
  obtain ⟨pre', t1, e1, e2, e3⟩ := List.map_eq_append_iff.mp hex
  obtain ⟨xr, rest', e4, e5, e6⟩ := List.map_eq_cons_iff.mp e3
  subst e4
  have f1 : xr.startPc = r9.1 := congrArg (fun z => z.1) e5
  have f2 : xr.endPc = r9.2.1 := congrArg (fun z => z.2.1) e5
  have f3 : xr.handlerPc = r9.2.2.1 := congrArg (fun z => z.2.2.1) e5
  have f4 : xr.catchType = tCi r9.2.2.2 := congrArg (fun z => z.2.2.2) e5
  have hci : ∀ x, x < 3 → tCi x ≠ 0 := by decide
  refine ag_xcatch (q := q) X.2.2.2.1 X.2.2.2.2.1 (pre := pre') (rest9 := rest') (xr := xr) (h := h) e1 ?_ ?_ ?_ ?_ (ck_all X.2.2.2.2.2.1 hx3) (by rw [f3, c4]) hn0 hz0 hN hZ hq hu hu1 hl (ag_Xrun X hc hk1 hq1 hM hd hR hf hn0 hz0 hN hZ hLl hrl ok hW hl) k
  · intro y hy
    obtain ⟨a, ha, hya⟩ : ∃ a ∈ pre, (a.1, a.2.1, a.2.2.1, tCi a.2.2.2) = (y.startPc, y.endPc, y.handlerPc, y.catchType) := by
      have : (y.startPc, y.endPc, y.handlerPc, y.catchType) ∈ pre.map (fun h => (h.1, h.2.1, h.2.2.1, tCi h.2.2.2)) := by
        rw [← e2]
        exact List.mem_map.mpr ⟨y, hy, rfl⟩
      obtain ⟨a, ha, hh⟩ := List.mem_map.mp this
      exact ⟨a, ha, hh⟩
    have g1 : a.1 = y.startPc := congrArg (fun z => z.1) hya
    have g2 : a.2.1 = y.endPc := congrArg (fun z => z.2.1) hya
    have g4 : tCi a.2.2.2 = y.catchType := congrArg (fun z => z.2.2.2) hya
    rcases hpre a ha with h9 | ⟨h8, h7⟩
    · refine Or.inl ?_
      simp only [covers]
      rw [← g1, ← g2]
      simpa using h9
    · refine Or.inr ⟨by rw [← g4, h8]; decide, tExc 0, ?_, nk_all X.2.2.2.2.2.1 h7⟩
      rw [← g4, h8, hown]
      exact cl_0
  · simp only [covers]
    rw [f1, f2]
    simp [c1, c2]
  · rw [f4, c3]
    exact hci x hx3
  · rw [f4, c3, hown]
    exact cl_all hx3
end AW
