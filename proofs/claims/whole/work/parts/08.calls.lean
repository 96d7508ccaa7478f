/-! Calls of methods of ours, by their contracts over the abstract memory. -/
def aPc (E : aE) (M : aM) (as : List aV) : Array Value → State → Prop := va_Pc (as.map (cv E)) (fun U => aWd E M U.heap ∧ aKx E U)
def aQc (E : aE) (u : Bool) (r : Option aV) (M1 : aM) : Array Value → State → Outcome → State → Prop := fun _ st oc t => oc = .returned (r.map (cv E)) ∧ aWd E M1 t.heap ∧ (u = true → t.heap = st.heap)
def aFr (E : aE) (u : Bool) : Addr → Prop := fun a => u = false ∧ E.1 < a
noncomputable def aWs (q : Nat) : List Cond := .code (tY q) (tB q) (tMl q) (tRt q) :: aTbl
def aRm (d w : Nat) (M M1 : aM) : Room := { frames := d, cells := aN M1 - aN M, slots := aZ M1 - aZ M, locals := w }
/-- the contract of method q: from the memory M and the arguments 'as' it comes to the answer r and the memory M1 -/
def aMet (E : aE) (l : Launch) (q d w : Nat) (as : List aV) (M : aM) (r : Option aV) (M1 : aM) (u : Bool) : Prop := Met l (tY q) (aWs q) (aRm d w M M1) (aPc E M as) (aQc E u r M1) (aN M1 - aN M) (aZ M1 - aZ M) (aFr E u)
theorem goodT {ws : List Cond} (h : ∀ w ∈ ws, w ∈ aTbl) : GoodIn aTbl ws := fun w hw => ⟨h w hw, good_of_word (List.mem_filter.mp (h w hw)).2⟩
theorem aKx_warm {E : aE} {u U : State} (hW : u.WarmedH U.vm) (h : aKx E u) : aKx E U := by
  obtain ⟨h1, h2, h3, h4, h5, h6, h7, ⟨g4, g5, g6, g7⟩, s0, k1, k2⟩ := h
  have hvm := hW.alike
  exact ⟨va_K.moved hvm h1, arrOfT_moved hvm h2, arrOfT_moved hvm h3, arrOfT_moved hvm h4, arrOfT_moved hvm h5, arrOfT_moved hvm h6, h7.moved hvm, ⟨g4.moved hvm, g5.moved hvm, g6.moved hvm, g7.moved hvm⟩, s0, State.WarmedH.trans k1 hW, k2⟩
theorem aKx_same {E : aE} {u U : State} (hv : U.vm = u.vm) (h : aKx E u) : aKx E U := by
  obtain ⟨h1, h2, h3, h4, h5, h6, h7, ⟨g4, g5, g6, g7⟩, s0, k1, k2⟩ := h
  have hvm : u.vm.Alike U.vm := by rw [hv]; exact Vm.Alike.refl u.vm
  exact ⟨va_K.moved hvm h1, arrOfT_moved hvm h2, arrOfT_moved hvm h3, arrOfT_moved hvm h4, arrOfT_moved hvm h5, arrOfT_moved hvm h6, h7.moved hvm, ⟨g4.moved hvm, g5.moved hvm, g6.moved hvm, g7.moved hvm⟩, s0, by rw [hv]; exact k1, k2⟩
theorem aPc_blind (E : aE) (M : aM) (as : List aV) : FrameBlind (aPc E M as) := fun a U g mk q => ⟨q.1, q.2.1, aKx_same (u := U) (U := U.calling g mk a) rfl q.2.2⟩
theorem cat_sum {E : aE} : ∀ (rest : List aV), aWt rest ≤ 8 → ((rest.map (cv E)).map fun v => v.category).sum ≤ 8 := by
  have h : ∀ (rest : List aV), ((rest.map (cv E)).map fun v => v.category).sum = aWt rest := by
    intro rest
    induction rest with
    | nil => rfl
    | cons a l ih =>
      rw [List.map_cons, List.map_cons, List.sum_cons, ih]
      rcases a with x | r | x
      · show 1 + aWt l = aWt l + 1
        omega
      · rw [show (cv E (Sum.inr (Sum.inl r))).category = 1 from cv_cat r]
        show 1 + aWt l = aWt l + 1
        omega
      · show 2 + aWt l = aWt l + 2
        omega
  intro rest hr
  rw [h rest]
  exact hr
theorem aWt_app : ∀ (a b : List aV), aWt (a ++ b) = aWt a + aWt b := by
  intro a b
  induction a with
  | nil => simp [aWt]
  | cons x l ih =>
    rcases x with x | r | x
    · show aWt (l ++ b) + 1 = aWt l + 1 + aWt b
      omega
    · show aWt (l ++ b) + 1 = aWt l + 1 + aWt b
      omega
    · show aWt (l ++ b) + 2 = aWt l + 2 + aWt b
      omega
theorem tCn_mh (o : Nat) : tCn o ≠ "java/lang/invoke/MethodHandle" := by
  unfold tCn
  rw [List.getD_eq_getElem?_getD]
  cases h : tCnL[o]? with
  | none => exact (by decide +kernel : ("" : String) ≠ "java/lang/invoke/MethodHandle")
  | some x =>
    have h1 : ∀ x ∈ tCnL, x ≠ "java/lang/invoke/MethodHandle" := by decide +kernel
    exact h1 x (List.mem_of_getElem? h)
theorem tCn_vh (o : Nat) : tCn o ≠ "java/lang/invoke/VarHandle" := by
  unfold tCn
  rw [List.getD_eq_getElem?_getD]
  cases h : tCnL[o]? with
  | none => exact (by decide +kernel : ("" : String) ≠ "java/lang/invoke/VarHandle")
  | some x =>
    have h1 : ∀ x ∈ tCnL, x ≠ "java/lang/invoke/VarHandle" := by decide +kernel
    exact h1 x (List.mem_of_getElem? h)
section AC
variable {E : aE} {p : Program} {l : Launch} {e : Env} {R : Room} {s : State} {m : MethodId} {args : Array Value} {below : List Frame} {meth : Method} {c : Code} {Q : State → Prop} {n0 z0 : Nat} {pc q : Nat} {L : List (Option aV)} {st : List aV} {M M1 : aM} {u u1 : Bool} {q1 d1 w1 index : Nat} {as rest : List aV} {r : Option aV}
/-- behind a call that came back -/
theorem ag_back {g : JFrame} (hg : g = F0 m pc g.locals g.stack) (hn0 : n0 ≤ aN M) (hz0 : z0 ≤ aZ M) (hN : aN M ≤ aN M1) (hZ : aZ M ≤ aZ M1) {H : Heap} {locs : List Loc} {a : Array Value} (hq : ∀ q ∈ locs, E.1 < q.base) (hu : u = true → H = s.heap ∧ locs = []) (hl : aLv E g.locals L)
    (hr : va_Run p l e R s m args below meth c H locs (aN M - n0) (aZ M - z0) (aN M1 - aN M) (aZ M1 - aZ M) g (rest.map (cv E)) (aQc E u1 r M1 a) (aFr E u1))
    (k : aG E p l e R s m args below meth c n0 z0 Q (bif u1 then u else false) (pc + 3, L, r.toList ++ rest, M1)) : W p l e R s m args below meth c H locs (aN M - n0) (aZ M - z0) Q g := by
  intro T hT X9
  obtain ⟨v, st₀, t, T', L9, h0, X', hL, e1, e2, ⟨hv, hW1, hu1⟩, stp⟩ := hr T hT X9
  have hv : v = r.map (cv E) := Outcome.returned.inj hv
  subst hv
  rw [show aN M - n0 + (aN M1 - aN M) = aN M1 - n0 by omega, show aZ M - z0 + (aZ M1 - aZ M) = aZ M1 - z0 by omega] at X'
  have hlq : ∀ q ∈ locs ++ L9, E.1 < q.base := by
    intro q h
    rcases List.mem_append.mp h with h | h
    · exact hq q h
    · exact (hL q h).2
  have huq : (bif u1 then u else false) = true → T'.heap = s.heap ∧ locs ++ L9 = [] := by
    intro h
    cases u1 with
    | false => cases h
    | true =>
      obtain ⟨a1, a2⟩ := hu h
      refine ⟨by rw [e1, hu1 rfl, h0]; exact a1, ?_⟩
      rw [a2]
      cases L9 with
      | nil => rfl
      | cons x y => exact absurd (hL x List.mem_cons_self).1 (by simp)
  obtain ⟨t2, a1, b1⟩ := k T'.heap (locs ++ L9) g.locals (by rw [e1]; exact hW1) hlq huq hl T' rfl X'
  refine ⟨t2, stp t2 ?_, b1⟩
  rw [hg]
  have : (r.toList ++ rest).map (cv E) = (r.map (cv E)).toList ++ rest.map (cv E) := by
    rw [List.map_append]
    cases r <;> rfl
  rw [← this]
  exact a1
theorem ag_callS (X : aCx E p s m args meth c q) (hM : aMet E l q1 d1 w1 as M r M1 u1) (hkd : (tMI q1).2.2.2.2 = 0) (hq1 : q1 < 252) (hlk : Cond.methodLink (tCn (tOwn q)) index (tY q1) ∈ aTbl) (hR : d1 + 1 ≤ R.frames ∧ 8 + (tMl q1 + 11) + w1 ≤ R.locals) (hf : aN M1 - n0 ≤ R.cells ∧ aZ M1 - z0 ≤ R.slots) (hn0 : n0 ≤ aN M) (hz0 : z0 ≤ aZ M) (hN : aN M ≤ aN M1) (hZ : aZ M ≤ aZ M1) (hLl : L.length = tMl q) (hst : st = as.reverse ++ rest) (hal : as.length = tPar q1) (hrl : aWt rest ≤ 8) (hd : decode (tB q) pc = .ok (.invokestatic index, 3))
    (k : aG E p l e R s m args below meth c n0 z0 Q (bif u1 then u else false) (pc + 3, L, r.toList ++ rest, M1)) : aG E p l e R s m args below meth c n0 z0 Q u (pc, L, st, M) := by
  intro H locs ls hW hq hu hl
  have hkm := kM_q hq1
  unfold kM at hkm
  rw [hkd] at hkm
  simp only [Bool.and_eq_true, decide_eq_true_eq] at hkm
  obtain ⟨m1, m2, m3, m4⟩ := hkm
  have hcode := kK_q hq1 (by rw [hkd]; decide)
  have hG : GoodIn aTbl (va_wsS (tCn (tOwn q)) index (tY q1) (aWs q1)) := goodT (fun w hw => by
    unfold va_wsS aWs at hw
    simp only [List.cons_append, List.nil_append, List.mem_cons] at hw
    rcases hw with rfl | rfl | rfl | rfl | hw
    · exact hlk
    · exact in_tbl_i m1 rfl
    · exact in_tbl_i m2 rfl
    · exact in_tbl_i hcode rfl
    · exact hw)
  have cw := va_cwS (R := R) (s := s) (args := args) (own := tCn (tOwn q)) (index := index) (y := tY q1) (bytes := tB q1) (maxL := tMl q1) (mc := aN M1 - aN M) (ms := aZ M1 - aZ M) (ret := tRt q1) (Ts := aTbl) (ws := aWs q1) (ws' := aTbl) (rm := aRm d1 w1 M M1) (tPar q1) X.2.2.2.2.1 hG rfl rfl rfl ⟨by rw [m3]; exact tCn_mh _, by rw [m3]; exact tCn_vh _, m4⟩ hR
  refine ag_back (g := F0 m pc ls (st.map (cv E))) rfl hn0 hz0 hN hZ hq hu hl (va_runS (As := as.map (cv E)) (rest := rest.map (cv E)) ⟨X.1, X.2.1, X.2.2.1, X.2.2.2.1, X.2.2.2.2.1⟩ hM cw ⟨aPc_blind E M as, fun U hU hWm => ⟨rfl, by rw [hU]; exact hW, aKx_warm hWm X.2.2.2.2.2.1⟩⟩ rfl (by rw [List.length_map]; exact hal) (hl.1.trans hLl) ?_ (lv_room (cat_sum rest hrl)) hd ⟨by omega, by omega⟩) k
  show st.map (cv E) = _
  rw [hst, List.map_append, List.map_reverse]
/-- the receiver's cell -/
theorem aRecv {H : Heap} {ci k9 : Nat} (hK : aKx E s) (hW : aWd E M H) (hci : ci < 12) (ht : aTy M (10 + ci) k9) : ∃ cell : Cell, H[E.1 + k9]? = some cell ∧ cell.vm.isStatics = false ∧ s.vm.findClass (tCn ci) = some cell.cls := by
  obtain ⟨r, h1, cell, q1, q2, q3, -⟩ := (hW.2.1 k9 ht.1 ht.2.1).2.2.2.2.2 ci (by omega) ht.2.2
  obtain ⟨g1, -⟩ := aCf_all hci
  have h2 := (hK.1.1 ci _ g1).2.1
  exact ⟨cell, q1, by rw [q3]; rfl, by rw [q2]; exact h2⟩
theorem ag_callV (X : aCx E p s m args meth c q) {k9 : Nat} (hM : aMet E l q1 d1 w1 (aR (10 + tOwn q1) k9 :: as) M r M1 u1) (hkd : (tMI q1).2.2.2.2 = 1) (hq1 : q1 < 252) (ho : tOwn q1 < 12) (hk9 : aTy M (10 + tOwn q1) k9) (hlk : Cond.methodLink (tCn (tOwn q)) index (tY q1) ∈ aTbl) (hR : d1 + 1 ≤ R.frames ∧ 8 + (tMl q1 + 11) + w1 ≤ R.locals) (hf : aN M1 - n0 ≤ R.cells ∧ aZ M1 - z0 ≤ R.slots) (hn0 : n0 ≤ aN M) (hz0 : z0 ≤ aZ M) (hN : aN M ≤ aN M1) (hZ : aZ M ≤ aZ M1) (hLl : L.length = tMl q) (hst : st = as.reverse ++ aR (10 + tOwn q1) k9 :: rest) (hal : as.length + 1 = tPar q1) (hrl : aWt rest ≤ 8) (hd : decode (tB q) pc = .ok (.invokevirtual index, 3))
    (k : aG E p l e R s m args below meth c n0 z0 Q (bif u1 then u else false) (pc + 3, L, r.toList ++ rest, M1)) : aG E p l e R s m args below meth c n0 z0 Q u (pc, L, st, M) := by
  intro H locs ls hW hq hu hl
  have hkm := kM_q hq1
  unfold kM at hkm
  rw [hkd] at hkm
  simp only [Bool.and_eq_true, decide_eq_true_eq] at hkm
  obtain ⟨m1, m2, m3, m4, m5⟩ := hkm
  have hcode := kK_q hq1 (by rw [hkd]; decide)
  have hG : GoodIn aTbl (wsV (tCn (tOwn q)) index (tY q1).cls (tY q1) (aWs q1)) := goodT (fun w hw => by
    unfold wsV aWs at hw
    simp only [List.cons_append, List.nil_append, List.mem_cons] at hw
    rcases hw with rfl | rfl | rfl | rfl | rfl | hw
    · exact hlk
    · exact in_tbl_i m1 rfl
    · exact in_tbl_i m5 rfl
    · exact in_tbl_i m2 rfl
    · exact in_tbl_i hcode rfl
    · exact hw)
  have hpar : (parseMethodDescriptor (tY q1).desc).map (fun d => d.parameters.length) = some as.length := by
    cases hp : (parseMethodDescriptor (tY q1).desc).map (fun d => d.parameters.length) with
    | none => rw [hp] at m4; cases m4
    | some n =>
      rw [hp] at m4
      have : n + 1 = tPar q1 := Option.some.inj m4
      rw [show n = as.length by omega]
  have cw := cwV (R := R) (s := s) (args := args) (own := tCn (tOwn q)) (C := (tY q1).cls) (index := index) (y := tY q1) (bytes := tB q1) (maxL := tMl q1) (mc := aN M1 - aN M) (ms := aZ M1 - aZ M) (ret := tRt q1) (Ts := aTbl) (ws := aWs q1) (ws' := aTbl) (rm := aRm d1 w1 M M1) as.length X.2.2.2.2.1 hG rfl rfl rfl ⟨rfl, by rw [m3]; exact tCn_mh _, by rw [m3]; exact tCn_vh _, hpar⟩ hR
  have hrc := aRecv (E := E) (s := s) X.2.2.2.2.2.1 hW ho hk9
  rw [← m3] at hrc
  have hcv : cv E (aR (10 + tOwn q1) k9) = .ref (E.1 + k9) := cv_10 _ _
  refine ag_back (g := F0 m pc ls (st.map (cv E))) rfl hn0 hz0 hN hZ hq hu hl (va_runV (b := E.1 + k9) (As := as.map (cv E)) (rest := rest.map (cv E)) ⟨X.1, X.2.1, X.2.2.1, X.2.2.2.1, X.2.2.2.2.1⟩ hM cw ⟨aPc_blind E M _, hrc, fun U hU hWm => ⟨by rw [List.map_cons, hcv], by rw [hU]; exact hW, aKx_warm hWm X.2.2.2.2.2.1⟩⟩ rfl (by rw [List.length_map]) (hl.1.trans hLl) ?_ (lv_room (cat_sum rest hrl)) hd ⟨by omega, by omega⟩) k
  show st.map (cv E) = _
  rw [hst, List.map_append, List.map_reverse, List.map_cons, hcv]
end AC
