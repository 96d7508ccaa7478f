/-! What the Statement gives of the texts. -/
def sF : List Cond := flatC (Jvm.Cond.and given_1 narrow_1)
def strC (o k : Nat) (bs : List Int32) : List Cond := [.exactly (.string (tCn o) k) "java/lang/String", .eq (.field (.string (tCn o) k) "java/lang/String" "coder" "B") (.int 0), .arrayOf (.field (.string (tCn o) k) "java/lang/String" "value" "[B") .byte, .eq (.length (.field (.string (tCn o) k) "java/lang/String" "value" "[B")) (.int (Int32.ofNat bs.length))] ++ (List.range bs.length).map (fun j => .eq (.elem (.field (.string (tCn o) k) "java/lang/String" "value" "[B") (.int (Int32.ofNat j))) (.int (bs.getD j 0)))
def tSF : List (Nat × Nat × Nat) := [(12, 14, 53), (12, 20, 101), (12, 22, 132), (12, 24, 161), (0, 49, 209), (0, 60, 239), (0, 261, 270), (0, 258, 303), (0, 263, 325), (0, 173, 354), (0, 267, 387), (0, 265, 407), (0, 210, 430), (0, 227, 453), (0, 250, 484), (11, 296, 521), (11, 230, 529), (11, 260, 676), (11, 265, 684), (11, 301, 692), (11, 269, 748), (11, 346, 755), (11, 351, 762), (11, 333, 812), (11, 338, 819), (11, 286, 825), (11, 294, 835), (11, 288, 843), (11, 309, 851), (11, 538, 859), (11, 540, 868), (11, 542, 883), (11, 544, 893), (11, 546, 903), (11, 522, 908), (11, 458, 916), (11, 460, 926), (11, 462, 937), (11, 463, 946), (11, 465, 953), (11, 467, 965), (11, 511, 979), (11, 493, 988), (11, 495, 996), (11, 497, 1005), (11, 476, 1014), (11, 478, 1022), (11, 483, 1029), (11, 485, 1037), (11, 487, 1047), (11, 489, 1053), (11, 491, 1063), (11, 502, 1071), (11, 504, 1079), (11, 506, 1087), (11, 530, 1096), (11, 532, 1102), (11, 534, 1118), (11, 536, 1132)]
def kS (id : Nat) : Bool := match tSF[id]? with
  | some (o, k, st) => decide (tLdc o k = some (aR 1 id)) && (decide ((sF.drop st).take (4 + (tStr.getD id []).length) = strC o k (tStr.getD id [])) && (decide ((tStr.getD id []).length < 2 ^ 31) && (tStr.getD id []).all (fun b => decide (¬ b < 0) && decide (b < 128))))
  | none => false
theorem ks_0 : (List.range' 0 7).all kS = true := by decide +kernel
theorem ks_7 : (List.range' 7 7).all kS = true := by decide +kernel
theorem ks_14 : (List.range' 14 7).all kS = true := by decide +kernel
theorem ks_21 : (List.range' 21 7).all kS = true := by decide +kernel
theorem ks_28 : (List.range' 28 7).all kS = true := by decide +kernel
theorem ks_35 : (List.range' 35 7).all kS = true := by decide +kernel
theorem ks_42 : (List.range' 42 7).all kS = true := by decide +kernel
theorem ks_49 : (List.range' 49 7).all kS = true := by decide +kernel
theorem ks_56 : (List.range' 56 3).all kS = true := by decide +kernel
theorem kS_r {a n q : Nat} (h : (List.range' a n).all kS = true) (h1 : a ≤ q) (h2 : q < a + n) : kS q = true := List.all_eq_true.mp h q (List.mem_range'_1.mpr ⟨h1, h2⟩)
theorem kS_q {q : Nat} (hq : q < 59) : kS q = true := by
  rcases Nat.lt_or_ge q 7 with h | h
  · exact kS_r ks_0 (by omega) h
  rcases Nat.lt_or_ge q 14 with h | h
  · exact kS_r ks_7 (by omega) h
  rcases Nat.lt_or_ge q 21 with h | h
  · exact kS_r ks_14 (by omega) h
  rcases Nat.lt_or_ge q 28 with h | h
  · exact kS_r ks_21 (by omega) h
  rcases Nat.lt_or_ge q 35 with h | h
  · exact kS_r ks_28 (by omega) h
  rcases Nat.lt_or_ge q 42 with h | h
  · exact kS_r ks_35 (by omega) h
  rcases Nat.lt_or_ge q 49 with h | h
  · exact kS_r ks_42 (by omega) h
  rcases Nat.lt_or_ge q 56 with h | h
  · exact kS_r ks_49 (by omega) h
  rcases Nat.lt_or_ge q 59 with h | h
  · exact kS_r ks_56 (by omega) h
  · omega
theorem tStr_len : tStr.length = 59 := by decide +kernel
theorem tLdc_lt {o k id : Nat} (hv : tLdc o k = some (aR 1 id)) : id < 59 := by
  have hm := lk_mem (L := tLdcL.getD o []) hv
  have h1 : ∀ l ∈ tLdcL, ∀ e ∈ l, (match e.2 with
    | Sum.inr (Sum.inl r) => decide (r.2 < 59)
    | _ => true) = true := by decide +kernel
  rw [List.getD_eq_getElem?_getD] at hm
  cases hl : tLdcL[o]? with
  | none => rw [hl] at hm; cases hm
  | some l0 =>
    rw [hl] at hm
    have := h1 l0 (List.mem_of_getElem? hl) _ hm
    exact of_decide_eq_true this
def jF : Nat → Prop := fun _ => False
/-- the text of bytes bs lies at a, its bytes at v; what its methods read beside -/
def jS (a v : Nat) (bs : List Int32) (U : State) : Prop := va_O "java/lang/String" a jF U U.heap ∧ va_OF "java/lang/String" "coder" "B" (.int 0) a jF U U.heap ∧ va_OF "java/lang/String" "value" "[B" (.ref v) a jF U U.heap ∧ va_T .byte v bs.length (fun j => .int (bs.getD j 0)) jF U U.heap ∧ va_Z "java/lang/String" "COMPACT_STRINGS" "Z" (.int 1) jF U U.heap ∧ va_Zq "jdk/internal/util/Preconditions" "SIOOBE_FORMATTER" "Ljava/util/function/BiFunction;" jF U U.heap
theorem jS.moved {a v : Nat} {bs : List Int32} {u U : State} (hvm : u.vm.Alike U.vm) (hh : U.heap = u.heap) (h : jS a v bs u) : jS a v bs U := by
  obtain ⟨h1, h2, h3, h4, h5, h6⟩ := h
  unfold jS
  rw [hh]
  exact ⟨va_O.moved hvm h1, va_OF.moved hvm h2, va_OF.moved hvm h3, va_T.moved hvm h4, va_Z.moved hvm h5, va_Zq.moved hvm h6⟩
theorem jS.at {a v : Nat} {bs : List Int32} {u U : State} (hvm : u.vm.Alike U.vm) (hh : ∀ q : Nat, q < u.heap.size → U.heap[q]? = u.heap[q]?) (h : jS a v bs u) : jS a v bs U := by
  obtain ⟨h1, h2, h3, h4, h5, h6⟩ := h
  have hq : ∀ q : Nat, q < u.heap.size → ¬ jF q → U.heap[q]? = u.heap[q]? := fun q h _ => hh q h
  refine ⟨(va_O.moved hvm h1).kept hq, (va_OF.moved hvm h2).kept hq, (va_OF.moved hvm h3).kept hq, (va_T.moved hvm h4).kept hq, (va_Z.moved hvm h5).kept hq, ?_⟩
  rcases va_Zq.moved hvm h6 with h | ⟨t, h⟩
  · exact Or.inl (h.kept hq)
  · exact Or.inr ⟨t, h.kept hq⟩
theorem sF_drop {s : State} {a : Array Value} (h : (Jvm.Cond.and given_1 narrow_1).before a s = true) {st n : Nat} {l : List Cond} (e : (sF.drop st).take n = l) : ∀ c ∈ l, c.before a s = true := by
  intro c hc
  rw [← e] at hc
  exact flat_of_before _ h c (List.mem_of_mem_drop (List.mem_of_mem_take hc))

theorem jS_0 {s0 : State} {a : Array Value} (w4 : ∀ w ∈ lw_tbl, w.before a s0 = true) (h : (Jvm.Cond.and given_1 narrow_1).before a s0 = true) {ad id : Nat} {o k st : Nat} (e1 : (Term.string (tCn o) k).eval a s0 none [] s0 = some (.ref ad)) (e2 : (sF.drop st).take (4 + (tStr.getD id []).length) = strC o k (tStr.getD id [])) (hl : (tStr.getD id []).length < 2 ^ 31) : ∃ v, jS ad v (tStr.getD id []) s0 := by
  have hA : ∀ a : Nat, a < s0.heap.size → ¬ jF a := fun _ _ h => h
  have hc := sF_drop h e2
  have m0 : ∀ x ∈ [Cond.exactly (.string (tCn o) k) "java/lang/String", .eq (.field (.string (tCn o) k) "java/lang/String" "coder" "B") (.int 0), .arrayOf (.field (.string (tCn o) k) "java/lang/String" "value" "[B") .byte, .eq (.length (.field (.string (tCn o) k) "java/lang/String" "value" "[B")) (.int (Int32.ofNat (tStr.getD id []).length))], x.before a s0 = true := fun x hx => hc x (List.mem_append_left _ hx)
  have hex := m0 _ List.mem_cons_self
  have hco := m0 _ (List.mem_cons_of_mem _ List.mem_cons_self)
  have har := m0 _ (List.mem_cons_of_mem _ (List.mem_cons_of_mem _ List.mem_cons_self))
  have hle := m0 _ (List.mem_cons_of_mem _ (List.mem_cons_of_mem _ (List.mem_cons_of_mem _ List.mem_cons_self)))
  have hel : ∀ j : Nat, j < (tStr.getD id []).length → (Cond.eq (.elem (.field (.string (tCn o) k) "java/lang/String" "value" "[B") (.int (Int32.ofNat j))) (.int ((tStr.getD id []).getD j 0))).before a s0 = true := fun j hj => hc _ (List.mem_append_right _ (List.mem_map.mpr ⟨j, List.mem_range.mpr hj, rfl⟩))
  obtain ⟨ad', c, cA, kA, q1, q2, q3, q4, q5, q6, -⟩ := Cond.exactly_spec (args := a) (first := s0) (o := none) (s := s0) (idx := []) (t := .string (tCn o) k) (cls := "java/lang/String") hex
  rw [e1] at q1
  cases q1
  obtain ⟨t, ht, hT⟩ := va_Tof (f := fun j => .int ((tStr.getD id []).getD j 0)) (A := jF) hl har (va_eqt hle) (fun j hj => va_eqt (hel j hj)) hA
  refine ⟨t, ⟨cA, q3, q5, by rw [q6]; exact q2, fun h => h⟩, vk_OFof e1 (va_eqt hco) hA, vk_OFof e1 ht hA, hT, va_Zof (w4 _ (List.mem_of_getElem? (i := 214) (by decide +kernel))) (w4 _ (List.mem_of_getElem? (i := 136) (by decide +kernel))) (va_eqt (flat_of_before _ h _ (List.mem_of_getElem? (i := 4) (by decide +kernel)))) hA, ?_⟩
  exact va_Zqof (w4 _ (List.mem_of_getElem? (i := 230) (by decide +kernel))) (w4 _ (List.mem_of_getElem? (i := 138) (by decide +kernel))) (flat_of_before _ h _ (List.mem_of_getElem? (i := 5) (by decide +kernel))) hA
/-- a text of ours, in every heap that holds the start's -/
theorem aKx_str {E : aE} {s U : State} {M : aM} (hK : aKx E s) (hW : s.WarmedH U.vm) (hH : aWd E M U.heap) {id : Nat} (hid : id < 59) : ∃ v, jS (E.2.2.1 id) v (tStr.getD id []) U := by
  obtain ⟨-, -, -, -, -, -, -, -, s0, w1, w2, w3, w4, w5, w6⟩ := hK
  have hk := kS_q hid
  unfold kS at hk
  cases hf : tSF[id]? with
  | none => rw [hf] at hk; cases hk
  | some z =>
    obtain ⟨o, k, st⟩ := z
    rw [hf] at hk
    simp only [Bool.and_eq_true, decide_eq_true_eq] at hk
    obtain ⟨v, hv⟩ := jS_0 w4 w5 (w6 o k id hk.1) hk.2.1 hk.2.2.1
    refine ⟨v, jS.at (State.WarmedH.trans w1 hW).alike (fun q hq => ?_) hv⟩
    rw [w2]
    exact hH.2.2 q (by omega)
