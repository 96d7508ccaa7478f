/-! A method's entry, and its contract out of a walk of its body. -/
theorem lv_args_1 {E : aE} : ∀ (as : List aV) (n : Nat), (∀ v ∈ as, (cv E v).category = 1) → ∀ (i : Nat) (v : aV), as[i]? = some v → (n + i, cv E v) ∈ lv_args n (as.map (cv E)) := by
  intro as
  induction as with
  | nil => intro n _ i v h; simp at h
  | cons a l ih =>
    intro n hc i v h
    rw [List.map_cons, lv_args]
    cases i with
    | zero =>
      have : a = v := by simpa using h
      subst this
      exact List.mem_cons_self
    | succ i =>
      have h1 : l[i]? = some v := by simpa using h
      have h2 := ih (n + 1) (fun v hv => hc v (List.mem_cons_of_mem _ hv)) i v h1
      rw [if_neg (by rw [hc a List.mem_cons_self]; decide)]
      refine List.mem_cons_of_mem _ ?_
      rw [show n + (i + 1) = n + 1 + i by omega]
      exact h2
theorem sl_len {E : aE} : ∀ (as : List aV), (∀ v ∈ as, (cv E v).category = 1) → (lg_sl (as.map (cv E))).length = as.length := by
  intro as
  induction as with
  | nil => intro _; rfl
  | cons a l ih =>
    intro hc
    have h1 := hc a List.mem_cons_self
    have h2 := ih (fun v hv => hc v (List.mem_cons_of_mem _ hv))
    have e : lg_sl ((a :: l).map (cv E)) = (if (cv E a).category = 2 then [.val (cv E a), .second] else [.val (cv E a)]) ++ lg_sl (l.map (cv E)) := by
      unfold lg_sl
      rw [List.map_cons, List.flatMap_cons]
    rw [e, if_neg (by rw [h1]; decide), List.length_append, h2, List.length_cons, List.length_cons, List.length_nil]
    omega
theorem aLv_entry {E : aE} {q : Nat} {as : List aV} (hc : ∀ v ∈ as, (cv E v).category = 1) (hn : as.length ≤ tMl q) : aLv E ((lg_sl (as.map (cv E)) ++ List.replicate (tMl q - (lg_sl (as.map (cv E))).length) Slot.unset).toArray) (aEnt q as) := by
  have hl := lv_entry (as.map (cv E)) (n := tMl q) (by rw [sl_len as hc]; exact hn)
  refine ⟨?_, hl.2.1, fun i v h => ?_⟩
  · rw [hl.1]
    unfold aEnt
    rw [List.length_append, List.length_map, List.length_replicate]
    omega
  · unfold aEnt at h
    by_cases hi : i < as.length
    · rw [List.getElem?_append_left (by rw [List.length_map]; exact hi), List.getElem?_map] at h
      cases hv : as[i]? with
      | none => rw [hv] at h; cases h
      | some w =>
        rw [hv] at h
        have : w = v := by simpa using h
        subst this
        have hm := lv_args_1 as 0 hc i w hv
        rw [Nat.zero_add] at hm
        exact ⟨hl.2.2 _ hm, hc w (List.mem_of_getElem? hv)⟩
    · rw [List.getElem?_append_right (by rw [List.length_map]; omega), List.getElem?_replicate] at h
      split at h <;> cases h
/-- a method's contract, out of a walk of its body from its entry -/
theorem aMet_of {E : aE} {l : Launch} {q1 d1 w1 : Nat} {as : List aV} {M M1 : aM} {r : Option aV} {u1 : Bool} (hq1 : q1 < 252) (hkd : (tMI q1).2.2.2.2 < 3) (hc : ∀ v ∈ as, (cv E v).category = 1) (hn : as.length ≤ tMl q1) (hpl : plainName (tY q1).cls = true) (hcl : (tY q1).cls = tCn (tOwn q1))
    (body : ∀ (p : Program) (e : Env) (s : State) (m : MethodId) (args : Array Value) (below : List Frame) (meth : Method) (c : Code), aCx E p s m args meth c q1 → aG E p l e (aRm d1 w1 M M1) s m args below meth c (aN M) (aZ M) (MQ below (aQc E u1 r M1) args s (aN M1 - aN M) (aZ M1 - aZ M) (aFr E u1)) true (0, aEnt q1 as, [], M)) : aMet E l q1 d1 w1 as M r M1 u1 := by
  refine Met.ofW (cc := tB q1) (maxL := tMl q1) (ret := tRt q1) hpl rfl ?_
  intro p e s m args below meth c s₁ B hml hv
  obtain ⟨rfl, hW, hK⟩ := hv
  have hts := atoms_spec (ws := aWs q1) B.pre
  have hown : s.vm.findClass (tY q1).cls = some m.cls := findClass_of_methodNamed B.named
  have X : aCx E p s m (as.map (cv E)).toArray meth c q1 := ⟨B.exec, B.bytes, hml, by rw [← hcl]; exact hown, fun w hw => hts w (List.mem_cons_of_mem _ hw), hK, (name_of_methodNamed B.named B.method).1, B.returns, B.notSynchronized⟩
  rw [lg_entry_eq]
  have h9 := body p e s m _ below meth c X s.heap [] _ hW (fun q h => by cases h) (fun _ => ⟨rfl, rfl⟩) (aLv_entry hc hn)
  rw [show aN (0, aEnt q1 as, ([] : List aV), M).2.2.2 - aN M = 0 from Nat.sub_self _, show aZ (0, aEnt q1 as, ([] : List aV), M).2.2.2 - aZ M = 0 from Nat.sub_self _] at h9
  exact h9
