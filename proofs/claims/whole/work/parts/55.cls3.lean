/-! THE CLASS'S READER, III: attributes, nodes, parts, duties. -/
theorem em_push {α : Type} {φ : α → Int32} {row : Nat → Int32} {f : Nat → α} {n : Nat} {x : α} {y : Int32} (h : ∀ i, i < n → row i = φ (f i)) (e : y = φ x) : ∀ i, i < n + 1 → up row n y i = φ (up f n x i) := by
  intro i hi
  by_cases g : i = n
  · subst g; rw [up_s, up_s, e]
  · rw [up_n g, up_n g]; exact h i (by omega)
theorem em_set {α : Type} {φ : α → Int32} {row : Nat → Int32} {f : Nat → α} {n j : Nat} {x : α} {y : Int32} (h : ∀ i, i < n → row i = φ (f i)) (e : y = φ x) : ∀ i, i < n → up row j y i = φ (up f j x i) := by
  intro i hi
  by_cases g : i = j
  · subst g; rw [up_s, up_s, e]
  · rw [up_n g, up_n g]; exact h i hi
theorem up_all {α : Type} {f : Nat → α} {n : Nat} {x : α} {P : α → Prop} (h : ∀ i, P (f i)) (e : P x) : ∀ i, P (up f n x i) := by
  intro i
  by_cases g : i = n
  · subst g; rw [up_s]; exact e
  · rw [up_n g]; exact h i
theorem up_lt {α : Type} {f : Nat → α} {n : Nat} {x : α} {P : α → Prop} (h : ∀ i, i < n → P (f i)) (e : P x) : ∀ i, i < n + 1 → P (up f n x i) := by
  intro i hi
  by_cases g : i = n
  · subst g; rw [up_s]; exact e
  · rw [up_n g]; exact h i (by omega)
theorem up_le {α : Type} {f : Nat → α} {n j : Nat} {x : α} {P : α → Prop} (h : ∀ i, i < n → P (f i)) (e : P x) : ∀ i, i < n → P (up f j x i) := by
  intro i hi
  by_cases g : i = j
  · subst g; rw [up_s]; exact e
  · rw [up_n g]; exact h i hi
theorem findN_lt {tk : Tk} {T : Txt} {s : Nat} : ∀ n a x, findN tk T s n a = some x → a ≤ x ∧ x < a + n := by
  intro n
  induction n with
  | zero => intro a x h; exact absurd h (by simp [findN])
  | succ n ih =>
    intro a x h
    rw [findN] at h
    by_cases g : sameN tk T s a = true
    · rw [if_pos g] at h
      cases h
      omega
    · rw [if_neg g] at h
      have := ih _ _ h
      omega
theorem hereN_lt {tk : Tk} {s : PS} {a : Nat} (h : hereN tk s = some a) : a < s.T.na := by
  have := findN_lt _ _ _ h
  omega
theorem RepC.addPt {R : Nat → Nat → Int32} {T : Txt} {g : Nat → Nat} {kd : Nat} (h : RepC R T g) (hl : T.np < 400) : RepC (up (up (up (up (up (up (up R 25 (up (R 25) T.np (nI kd))) 26 (up (R 26) T.np 0)) 27 (up (R 27) T.np 0)) 28 (up (R 28) T.np 0)) 29 (up (R 29) T.np (-1))) 30 (up (R 30) T.np (-1))) 24 (up (R 24) 0 (nI (T.np + 1)))) (addPt T kd) g :=
  ⟨h.na,
      h.lna,
      h.asz,
      h.lasz,
      h.amany,
      h.amust,
      h.bag,
      h.anl,
      h.lanl,
      h.anm,
      h.nn,
      h.lnn,
      h.srt,
      h.way,
      h.fa,
      h.lfa,
      h.root,
      h.own,
      h.chn,
      h.lchn,
      h.nxt,
      h.lst,
      h.nnl,
      h.lnnl,
      h.nnm,
      h.nd,
      h.lnd,
      h.dnum,
      h.dof,
      h.dfor,
      rfl,
      hl,
      em_push h.pk rfl,
      em_push h.pa rfl,
      em_push h.pnum rfl,
      em_push h.pj rfl,
      em_push h.pf rfl,
      em_push h.pn rfl⟩
theorem RepC.addDt {R : Nat → Nat → Int32} {T : Txt} {g : Nat → Nat} {o d v : Nat} (h : RepC R T g) (hl : T.nd < 100) : RepC (up (up (up (up (up R 21 (up (R 21) T.nd (nI v))) 22 (up (R 22) T.nd (nI o))) 23 (up (R 23) T.nd (nI d))) 9 (up (R 9) 10 (nI (T.nd + 1)))) 17 (up (R 17) o (nI (T.own o + 1)))) (addDt T o d v) g :=
  ⟨h.na,
      h.lna,
      h.asz,
      h.lasz,
      h.amany,
      h.amust,
      h.bag,
      h.anl,
      h.lanl,
      h.anm,
      h.nn,
      h.lnn,
      h.srt,
      h.way,
      h.fa,
      h.lfa,
      h.root,
      em_set h.own rfl,
      h.chn,
      h.lchn,
      h.nxt,
      h.lst,
      h.nnl,
      h.lnnl,
      h.nnm,
      rfl,
      hl,
      em_push h.dnum rfl,
      em_push h.dof rfl,
      em_push h.dfor rfl,
      h.np,
      h.lnp,
      h.pk,
      h.pa,
      h.pnum,
      h.pj,
      h.pf,
      h.pn⟩
/-- a new node that no set holds -/
theorem RepC.addNd0 {R : Nat → Nat → Int32} {T : Txt} {g : Nat → Nat} {so : Nat} (h : RepC R T g) (hl : T.nn < 100) : RepC (up (up (up (up (up (up (up (up (up R 9 (up (R 9) 0 (nI (T.nn + 1)))) 13 (up (R 13) T.nn (nI so))) 14 (up (R 14) T.nn (-1))) 15 (up (R 15) T.nn (-1))) 16 (up (R 16) T.nn (-1))) 17 (up (R 17) T.nn 0)) 18 (up (R 18) T.nn 0)) 19 (up (R 19) T.nn (-1))) 11 (up (R 11) T.nn 0)) (addNd T so none) g :=
  ⟨h.na,
      h.lna,
      h.asz,
      h.lasz,
      h.amany,
      h.amust,
      h.bag,
      h.anl,
      h.lanl,
      h.anm,
      rfl,
      hl,
      em_push h.srt rfl,
      em_push h.way rfl,
      em_push h.fa rfl,
      up_lt (P := fun o => ∀ a, o = some a → a < T.nn + 1) (fun i hi a ha => Nat.lt_succ_of_lt (h.lfa i hi a ha)) (fun a ha => by cases ha),
      em_push h.root rfl,
      em_push h.own rfl,
      em_push h.chn rfl,
      up_lt (P := fun o => o ≤ T.nn + 1) (fun i hi => Nat.le_succ_of_le (h.lchn i hi)) (by omega),
      em_push h.nxt rfl,
      fun i hi hc => by
      by_cases q : i = T.nn
      · subst q
        exact absurd hc (by show ¬ 0 < up T.chn T.nn 0 T.nn; rw [up_s]; omega)
      · have hc2 : 0 < T.chn i := by
          have : 0 < up T.chn T.nn 0 i := hc
          rwa [up_n q] at this
        have hi2 : i < T.nn + 1 := hi
        have := h.lst i (by omega) hc2
        exact ⟨this.1, Nat.lt_succ_of_lt this.2⟩,
      em_push h.nnl rfl,
      up_lt (P := fun o => o ≤ 12) h.lnnl (by omega),
      fun i hi j hj => by
      by_cases q : i = T.nn
      · subst q
        exact absurd hj (by show ¬ j < up T.nnl T.nn 0 T.nn; rw [up_s]; omega)
      · have hj2 : j < T.nnl i := by
          have : j < up T.nnl T.nn 0 i := hj
          rwa [up_n q] at this
        have hi2 : i < T.nn + 1 := hi
        exact h.nnm i (by omega) j hj2,
      h.nd,
      h.lnd,
      h.dnum,
      h.dof,
      h.dfor,
      h.np,
      h.lnp,
      h.pk,
      h.pa,
      h.pnum,
      h.pj,
      h.pf,
      h.pn⟩
/-- a new node in set a, its first -/
theorem RepC.addNd1 {R : Nat → Nat → Int32} {T : Txt} {g : Nat → Nat} {so a : Nat} (h : RepC R T g) (hl : T.nn < 100) (ha : a < T.nn) (hq : T.chn a = 0) : RepC (up (up (up (up (up (up (up (up (up (up (up R 9 (up (R 9) 0 (nI (T.nn + 1)))) 13 (up (R 13) T.nn (nI so))) 14 (up (R 14) T.nn (-1))) 15 (up (R 15) T.nn (nI a))) 16 (up (R 16) T.nn (-1))) 17 (up (R 17) T.nn 0)) 18 (up (R 18) T.nn 0)) 19 (up (R 19) T.nn (-1))) 11 (up (R 11) T.nn 0)) 20 (up (R 20) a (nI T.nn))) 18 (up (up (R 18) T.nn 0) a (nI (T.chn a + 1)))) (addNd T so (some a)) g :=
  have e0 : (up T.chn T.nn 0) a = T.chn a := up_n (by omega)
  ⟨h.na,
      h.lna,
      h.asz,
      h.lasz,
      h.amany,
      h.amust,
      h.bag,
      h.anl,
      h.lanl,
      h.anm,
      rfl,
      hl,
      em_push h.srt rfl,
      em_push h.way rfl,
      em_push h.fa rfl,
      up_lt (P := fun o => ∀ a, o = some a → a < T.nn + 1) (fun i hi a ha => Nat.lt_succ_of_lt (h.lfa i hi a ha)) (fun a' ha' => by cases ha'; omega),
      em_push h.root rfl,
      em_push h.own rfl,
      em_set (em_push h.chn rfl) (by show _ = nI (up T.chn T.nn 0 a + 1); rw [e0]),
      up_le (P := fun o => o ≤ T.nn + 1) (up_lt (P := fun o => o ≤ T.nn + 1) (fun i hi => Nat.le_succ_of_le (h.lchn i hi)) (by omega)) (by show up T.chn T.nn 0 a + 1 ≤ _; rw [e0]; have := h.lchn a ha; omega),
      by
      show ∀ i, i < T.nn + 1 → (up (R 19) T.nn (-1)) i = oI ((if up T.chn T.nn 0 a = 0 then up T.nxt T.nn none else up (up T.nxt T.nn none) (T.lst a) (some T.nn)) i)
      rw [e0, if_pos hq]
      exact em_push h.nxt rfl,
      fun i hi hc => by
      have hi2 : i < T.nn + 1 := hi
      have hc1 : 0 < up (up T.chn T.nn 0) a (up T.chn T.nn 0 a + 1) i := hc
      show up (R 20) a (nI T.nn) i = nI (up T.lst a T.nn i) ∧ up T.lst a T.nn i < T.nn + 1
      by_cases q : i = a
      · subst q
        rw [up_s, up_s]
        exact ⟨rfl, by omega⟩
      · rw [up_n q, up_n q]
        rw [up_n q] at hc1
        by_cases q2 : i = T.nn
        · subst q2
          rw [up_s] at hc1
          omega
        · rw [up_n q2] at hc1
          have := h.lst i (by omega) hc1
          exact ⟨this.1, Nat.lt_succ_of_lt this.2⟩,
      em_push h.nnl rfl,
      up_lt (P := fun o => o ≤ 12) h.lnnl (by omega),
      fun i hi j hj => by
      have hi2 : i < T.nn + 1 := hi
      by_cases q : i = T.nn
      · subst q
        exact absurd hj (by show ¬ j < up T.nnl T.nn 0 T.nn; rw [up_s]; omega)
      · have hj2 : j < T.nnl i := by
          have : j < up T.nnl T.nn 0 i := hj
          rwa [up_n q] at this
        exact h.nnm i (by omega) j hj2,
      h.nd,
      h.lnd,
      h.dnum,
      h.dof,
      h.dfor,
      h.np,
      h.lnp,
      h.pk,
      h.pa,
      h.pnum,
      h.pj,
      h.pf,
      h.pn⟩
/-- a new node in set a behind another -/
theorem RepC.addNd2 {R : Nat → Nat → Int32} {T : Txt} {g : Nat → Nat} {so a : Nat} (h : RepC R T g) (hl : T.nn < 100) (ha : a < T.nn) (hq : ¬ T.chn a = 0) : RepC (up (up (up (up (up (up (up (up (up (up (up (up R 9 (up (R 9) 0 (nI (T.nn + 1)))) 13 (up (R 13) T.nn (nI so))) 14 (up (R 14) T.nn (-1))) 15 (up (R 15) T.nn (nI a))) 16 (up (R 16) T.nn (-1))) 17 (up (R 17) T.nn 0)) 18 (up (R 18) T.nn 0)) 19 (up (R 19) T.nn (-1))) 11 (up (R 11) T.nn 0)) 19 (up (up (R 19) T.nn (-1)) (T.lst a) (nI T.nn))) 20 (up (R 20) a (nI T.nn))) 18 (up (up (R 18) T.nn 0) a (nI (T.chn a + 1)))) (addNd T so (some a)) g :=
  have e0 : (up T.chn T.nn 0) a = T.chn a := up_n (by omega)
  ⟨h.na,
      h.lna,
      h.asz,
      h.lasz,
      h.amany,
      h.amust,
      h.bag,
      h.anl,
      h.lanl,
      h.anm,
      rfl,
      hl,
      em_push h.srt rfl,
      em_push h.way rfl,
      em_push h.fa rfl,
      up_lt (P := fun o => ∀ a, o = some a → a < T.nn + 1) (fun i hi a ha => Nat.lt_succ_of_lt (h.lfa i hi a ha)) (fun a' ha' => by cases ha'; omega),
      em_push h.root rfl,
      em_push h.own rfl,
      em_set (em_push h.chn rfl) (by show _ = nI (up T.chn T.nn 0 a + 1); rw [e0]),
      up_le (P := fun o => o ≤ T.nn + 1) (up_lt (P := fun o => o ≤ T.nn + 1) (fun i hi => Nat.le_succ_of_le (h.lchn i hi)) (by omega)) (by show up T.chn T.nn 0 a + 1 ≤ _; rw [e0]; have := h.lchn a ha; omega),
      by
      show ∀ i, i < T.nn + 1 → (up (up (R 19) T.nn (-1)) (T.lst a) (nI T.nn)) i = oI ((if up T.chn T.nn 0 a = 0 then up T.nxt T.nn none else up (up T.nxt T.nn none) (T.lst a) (some T.nn)) i)
      rw [e0, if_neg hq]
      exact em_set (em_push h.nxt rfl) rfl,
      fun i hi hc => by
      have hi2 : i < T.nn + 1 := hi
      have hc1 : 0 < up (up T.chn T.nn 0) a (up T.chn T.nn 0 a + 1) i := hc
      show up (R 20) a (nI T.nn) i = nI (up T.lst a T.nn i) ∧ up T.lst a T.nn i < T.nn + 1
      by_cases q : i = a
      · subst q
        rw [up_s, up_s]
        exact ⟨rfl, by omega⟩
      · rw [up_n q, up_n q]
        rw [up_n q] at hc1
        by_cases q2 : i = T.nn
        · subst q2
          rw [up_s] at hc1
          omega
        · rw [up_n q2] at hc1
          have := h.lst i (by omega) hc1
          exact ⟨this.1, Nat.lt_succ_of_lt this.2⟩,
      em_push h.nnl rfl,
      up_lt (P := fun o => o ≤ 12) h.lnnl (by omega),
      fun i hi j hj => by
      have hi2 : i < T.nn + 1 := hi
      by_cases q : i = T.nn
      · subst q
        exact absurd hj (by show ¬ j < up T.nnl T.nn 0 T.nn; rw [up_s]; omega)
      · have hj2 : j < T.nnl i := by
          have : j < up T.nnl T.nn 0 i := hj
          rwa [up_n q] at this
        exact h.nnm i (by omega) j hj2,
      h.nd,
      h.lnd,
      h.dnum,
      h.dof,
      h.dfor,
      h.np,
      h.lnp,
      h.pk,
      h.pa,
      h.pnum,
      h.pj,
      h.pf,
      h.pn⟩
theorem bit_get : ∀ m, m < 256 → ∀ v, v < 8 → ((nI m >>> (nI v &&& 31)) &&& 1) = bI (m.testBit v) := by decide +kernel
theorem bit_set : ∀ m, m < 256 → ∀ v, v < 8 → (nI m ||| ((1 : Int32) <<< (nI v &&& 31))) = nI (m ||| 1 <<< v) ∧ (m ||| 1 <<< v) < 256 := by decide +kernel
