/-! What holds at the law's entry: classes, arrays, texts. -/
def tSE : List (List Nat) := [[0, 0, 0, 0, 0, 0, 0, 0, 0, 0, 0], [], [], [], [], [], [], [], [], [], [], [0, 0, 0, 0, 0, 747, 0, 0, 0, 0, 0, 0, 0, 0, 0, 0, 811, 0, 0, 0, 0, 0, 0, 0, 0, 0, 0, 0, 0, 0, 0, 0, 0, 0, 0, 0, 0, 0, 0, 0, 0, 0, 0, 0, 0, 0, 0], [0, 0, 0, 0], [], [0, 0, 0], []]
def kE (o : Nat) (e : Nat × aV) (ix : Nat) : Bool := match e.2 with
  | Sum.inr (Sum.inl r) => (match tSF[r.2]? with
    | some (o1, k1, _) => (o1 == o && k1 == e.1) || decide (sF[ix]? = some (.eq (.string (tCn o1) k1) (.string (tCn o) e.1)))
    | none => false)
  | _ => true
def kEo (o : Nat) : Bool := decide ((tLdcL.getD o []).length = (tSE.getD o []).length) && ((tLdcL.getD o []).zip (tSE.getD o [])).all (fun q => kE o q.1 q.2)
theorem kEo_all : ∀ o ∈ List.range 16, kEo o = true := by decide +kernel
theorem tLdc_o {o k : Nat} {v : aV} (h : tLdc o k = some v) : o < 16 := by
  rcases Nat.lt_or_ge o 16 with h9 | h9
  · exact h9
  · exfalso
    unfold tLdc at h
    rw [show tLdcL.getD o [] = [] from by rw [List.getD_eq_getElem?_getD, List.getElem?_eq_none (by have : tLdcL.length = 16 := by decide +kernel
                                                                                                    omega)]; rfl] at h
    cases h
theorem eq_ref {a : Array Value} {s : State} {t u : Term} {x : Nat} (h : (Cond.eq t u).before a s = true) (ht : t.eval a s none [] s = some (.ref x)) : u.eval a s none [] s = some (.ref x) := by
  cases hv : u.eval a s none [] s with
  | none => simp [Cond.before, Cond.holds, Cond.value, ht, hv] at h
  | some w =>
    simp only [Cond.before, Cond.holds, Cond.value, ht, hv] at h
    cases w <;> simp_all
theorem str_ev {a : Array Value} {s : State} (h : (Jvm.Cond.and given_1 narrow_1).before a s = true) : ∃ ad : Nat → Nat, ∀ o k id : Nat, tLdc o k = some (aR 1 id) → (Term.string (tCn o) k).eval a s none [] s = some (.ref (ad id)) := by
  have h0 : ∀ id : Nat, ∃ x : Nat, id < 59 → ∀ o k st, tSF[id]? = some (o, k, st) → (Term.string (tCn o) k).eval a s none [] s = some (.ref x) := by
    intro id
    by_cases hid : id < 59
    · have hk := kS_q hid
      unfold kS at hk
      cases hf : tSF[id]? with
      | none => rw [hf] at hk; cases hk
      | some z =>
        obtain ⟨o, k, st⟩ := z
        rw [hf] at hk
        simp only [Bool.and_eq_true, decide_eq_true_eq] at hk
        have hc := sF_drop h hk.2.1
        have hex := hc (Cond.exactly (.string (tCn o) k) "java/lang/String") (List.mem_append_left _ List.mem_cons_self)
        obtain ⟨ad', c, cA, kA, q1, -⟩ := Cond.exactly_spec (args := a) (first := s) (o := none) (s := s) (idx := []) (t := .string (tCn o) k) (cls := "java/lang/String") hex
        refine ⟨ad', fun _ o' k' st' h' => ?_⟩
        cases h'
        exact q1
    · exact ⟨0, fun h9 => absurd h9 hid⟩
  obtain ⟨ad, had⟩ := Classical.axiomOfChoice h0
  refine ⟨ad, fun o k id hv => ?_⟩
  have ho := tLdc_o hv
  have hid := tLdc_lt hv
  have hm := lk_mem (L := tLdcL.getD o []) hv
  have hk := kEo_all o (List.mem_range.mpr ho)
  unfold kEo at hk
  simp only [Bool.and_eq_true, decide_eq_true_eq] at hk
  obtain ⟨x, hx⟩ := zip_all hk.1 hk.2 hm
  unfold kE at hx
  dsimp only at hx
  cases hf : tSF[id]? with
  | none => rw [hf] at hx; cases hx
  | some z =>
    obtain ⟨o1, k1, st⟩ := z
    rw [hf] at hx
    have h1 := had id hid o1 k1 st hf
    simp only [Bool.or_eq_true, Bool.and_eq_true, beq_iff_eq, decide_eq_true_eq] at hx
    rcases hx with ⟨rfl, rfl⟩ | hx
    · exact h1
    · exact eq_ref (flat_of_before _ h _ (List.mem_of_getElem? hx)) h1
theorem arr_ev {s : State} {args : Array Value} {ty : FieldType} (h : (Cond.arrayClass ty).before args s = true) (hty : ∀ C, ty ≠ .object C) : ∃ cA, ArrOfT s cA ty ∧ va_RA s cA ty := by
  obtain ⟨c, k, comp, h1, h2, h3⟩ := Cond.arrayClass_spec h
  refine ⟨c, fun n z => ⟨(fun k h => by cases h), k, h2, comp, h3⟩, ?_⟩
  unfold va_RA
  split
  · exact absurd rfl (hty _)
  · exact h1
/-- the world at the entry -/
theorem aKx_start {s : State} {b : Nat} (hbl : b < s.heap.size) (hts : ∀ w ∈ lw_tbl, w.before #[Value.ref b] s = true) (hgv : (Jvm.Cond.and given_1 narrow_1).before #[Value.ref b] s = true) : ∃ E : aE, aKx E s ∧ E.1 + 1 = s.heap.size ∧ E.2.1 = b ∧ E.2.2.2.1 = s.heap := by
  have htb : ∀ w ∈ aTbl, w.before #[Value.ref b] s = true := fun w hw => hts w (List.mem_filter.mp hw).1
  obtain ⟨ad, had⟩ := str_ev hgv
  have h0 : ∀ ci : Nat, ∃ z : ClassId × (Nat → Nat), ci < 12 → u_Kn s (tCn ci) (tFT ci) (aFs ci).length z.1 z.2 := by
    intro ci
    by_cases hci : ci < 12
    · obtain ⟨g1, g2, -⟩ := aCf_all hci
      obtain ⟨w1, -⟩ := ins_w hci
      obtain ⟨c, iS, h⟩ := u_known htb g2 (htb _ w1)
      exact ⟨(c, iS), fun _ => h⟩
    · exact ⟨(0, fun _ => 0), fun h => absurd h hci⟩
  obtain ⟨dz, hdz⟩ := Classical.axiomOfChoice h0
  obtain ⟨c4, a4, r4⟩ := arr_ev (ty := .int) (htb _ wa_int) (by intro C h; cases h)
  obtain ⟨c5, a5, r5⟩ := arr_ev (ty := .boolean) (htb _ wa_boolean) (by intro C h; cases h)
  obtain ⟨c6, a6, r6⟩ := arr_ev (ty := .long) (htb _ wa_long) (by intro C h; cases h)
  obtain ⟨c7, a7, r7⟩ := arr_ev (ty := .byte) (htb _ wa_byte) (by intro C h; cases h)
  obtain ⟨comp, c103, k103, h1, -, h3, h4, h5⟩ := Cond.arrayOver_spec (args := #[Value.ref b]) (first := s) (o := none) (idx := []) (hts _ (List.mem_of_getElem? wa_over))
  refine ⟨(s.heap.size - 1, b, ad, s.heap, (fun c => (dz c).1, fun c => (dz c).2), fun t => if t = 4 then c4 else if t = 5 then c5 else if t = 6 then c6 else if t = 7 then c7 else c103), ⟨⟨fun ci q hq => ?_, fun k q h => by simp at h⟩, a4, a5, a6, a7, fun n z => ⟨(fun k h => by cases h), k103, h3, comp, h4⟩, ⟨k103, comp, h3, h4, h1, h5⟩, ⟨r4, r5, r6, r7⟩, s, State.WarmedH.refl s, rfl, ?_, hts, hgv, had⟩, ?_, rfl, rfl⟩
  · have hlt : ci < 12 := by
      have := (List.getElem?_eq_some_iff.mp hq).1
      have h12 : aCls.length = 12 := rfl
      omega
    rw [(aCf_all hlt).1] at hq
    cases hq
    exact hdz ci hlt
  · show s.heap.size = s.heap.size - 1 + 1
    omega
  · show s.heap.size - 1 + 1 = s.heap.size
    omega
