/-! The members of the library that are called, and all of them together. -/
def tPrimI : List (List Nat) := [[162], [170], [176, 1303, 827, 1304], [291], [297], [185, 186, 865, 205, 215], [349], [437], [488, 1051], [579, 1159], [616], [1310, 1567, 1568], [], [], [], []]
def pNm (n : Nat) : MethodName := match n with
  | 1 => Lib.Math.max.name
  | 2 => Lib.Math.min.name
  | 3 => arraycopyName
  | 4 => y_len
  | 5 => y_ch
  | _ => Lib.objectInit
def kPr (o : Nat) (e : Nat × Nat) (ix : Nat) : Bool := decide (lw_tbl[ix]? = some (.methodLink (tCn o) e.1 (pNm e.2))) && decide (1 ≤ e.2 ∧ e.2 ≤ 6)
def kPro (o : Nat) : Bool := decide ((tPrimOL.getD o []).length = (tPrimI.getD o []).length) && ((tPrimOL.getD o []).zip (tPrimI.getD o [])).all (fun q => kPr o q.1 q.2)
theorem kPro_all : ∀ o ∈ List.range 16, kPro o = true := by decide +kernel
theorem prim_lk {o k n : Nat} (ho : o < 16) (h : tPrim o k = n) (hn : n ≠ 0) : Cond.methodLink (tCn o) k (pNm n) ∈ aTbl := by
  unfold tPrim tPrimO at h
  cases hf : ((tPrimOL.getD o []).find? (fun e => e.1 == k)).map (fun e => e.2) with
  | none => rw [hf] at h; exact absurd h.symm hn
  | some n9 =>
    rw [hf] at h
    have h9 : n9 = n := h
    subst h9
    have hm := lk_mem (L := tPrimOL.getD o []) hf
    have hk := kPro_all o (List.mem_range.mpr ho)
    unfold kPro at hk
    simp only [Bool.and_eq_true, decide_eq_true_eq] at hk
    obtain ⟨x, hx⟩ := zip_all hk.1 hk.2 hm
    unfold kPr at hx
    simp only [Bool.and_eq_true, decide_eq_true_eq] at hx
    exact in_tbl_i hx.1 rfl
theorem wp_max_s : Cond.static Lib.Math.max.name ∈ aTbl := in_tbl_i (i := 187) (by decide +kernel) rfl
set_option maxRecDepth 20000 in
theorem wp_max_c : Cond.code Lib.Math.max.name Lib.Math.max.code 2 (some .int) ∈ aTbl := in_tbl_i (i := 188) rfl rfl
theorem wp_min_s : Cond.static Lib.Math.min.name ∈ aTbl := in_tbl_i (i := 866) (by decide +kernel) rfl
set_option maxRecDepth 20000 in
theorem wp_min_c : Cond.code Lib.Math.min.name Lib.Math.min.code 2 (some .int) ∈ aTbl := in_tbl_i (i := 867) rfl rfl
theorem wp_math : Cond.initialized "java/lang/Math" ∈ aTbl := in_tbl_i (i := 135) (by decide +kernel) rfl
theorem wp_sys : Cond.initialized "java/lang/System" ∈ aTbl := in_tbl_i (i := 156) (by decide +kernel) rfl
theorem wp_ac_s : Cond.static arraycopyName ∈ aTbl := in_tbl_i (i := 1160) (by decide +kernel) rfl
theorem wp_ac_n : Cond.native arraycopyName ∈ aTbl := in_tbl_i (i := 1161) (by decide +kernel) rfl
theorem wp_oi_s : Cond.instanceMethod Lib.objectInit ∈ aTbl := in_tbl_i (i := 163) (by decide +kernel) rfl
set_option maxRecDepth 20000 in
theorem wp_oi_c : Cond.code Lib.objectInit ⟨#[0xb1]⟩ 1 none ∈ aTbl := in_tbl_i (i := 164) rfl rfl
section AP
variable {E : aE} {p : Program} {l : Launch} {e : Env} {R : Room} {s : State} {m : MethodId} {args : Array Value} {below : List Frame} {meth : Method} {c : Code} {Q : State → Prop} {n0 z0 : Nat} {pc q index : Nat} {L : List (Option aV)} {st : List aV} {M : aM} {u : Bool} {σ : aS}
theorem aG_false (h : aG E p l e R s m args below meth c n0 z0 Q false σ) : aG E p l e R s m args below meth c n0 z0 Q u σ := fun H locs ls hW hq _ hl => h H locs ls hW hq (fun z => by cases z) hl
theorem warm_rfl (s : State) (H : Heap) : s.WarmedH ({ s with heap := H } : State).vm := State.WarmedH.refl s
theorem ag_strlen (X : aCx E p s m args meth c q) {id : Nat} (hid : id < 59) (hlk : Cond.methodLink (tCn (tOwn q)) index y_len ∈ aTbl) (hfr : 2 ≤ R.frames) (hlo : 40 ≤ R.locals) (hcs : aN M - n0 ≤ R.cells ∧ aZ M - z0 ≤ R.slots) (hLl : L.length = tMl q) (hsl : aWt st ≤ 8) (hd : decode (tB q) pc = .ok (.invokevirtual index, 3))
    (k : aG E p l e R s m args below meth c n0 z0 Q u (pc + 3, L, aI (Int32.ofNat (tStr.getD id []).length) :: st, M)) : aG E p l e R s m args below meth c n0 z0 Q u (pc, L, aR 1 id :: st, M) := by
  intro H locs ls hW hq hu hl
  obtain ⟨v, hj⟩ := aKx_str (U := { s with heap := H }) X.2.2.2.2.2.1 (warm_rfl s H) hW hid
  have hj1 : ∀ U : State, U.heap = H → s.WarmedH U.vm → jS (E.2.2.1 id) v (tStr.getD id []) U := fun U hU hWm => hj.moved (u := { s with heap := H }) hWm.alike hU
  refine j_callV (own := tCn (tOwn q)) (n := 0) (As := []) (b := E.2.2.1 id) (rest := st.map (cv E)) X.1 X.2.1 (by rw [X.2.2.1, hl.1]; exact hLl.symm) X.2.2.2.1 X.2.2.2.2.1 (jc_len l (E.2.2.1 id) v (tStr.getD id [])) hlk wj_len_s wj_len_x wj_len_i wj_len_c ⟨by decide, by decide, by decide +kernel⟩ ⟨hfr, by omega⟩ hcs ?_ hj1 (fun u U hv hh h => h.moved (by rw [hv]; exact Vm.Alike.refl u.vm) hh) rfl (cat_sum st hsl) hd (k H locs ls hW hq hu hl)
  obtain ⟨⟨cell, q1, q2, q3, -⟩, -⟩ := hj
  exact ⟨cell, q1, q2, q3⟩
theorem ch_id : ∀ j : Nat, j < 128 → ((nI j &&& 255).toUInt32 % 65536).toInt32 = nI j := by decide +kernel
theorem ch_str {id j : Nat} (hid : id < 59) : (((tStr.getD id []).getD j 0 &&& 255).toUInt32 % 65536).toInt32 = (tStr.getD id []).getD j 0 := by
  have hk := kS_q hid
  unfold kS at hk
  have hall : (tStr.getD id []).all (fun b => decide (¬ b < 0) && decide (b < 128)) = true := by
    cases hf : tSF[id]? with
    | none => rw [hf] at hk; cases hk
    | some z =>
      rw [hf] at hk
      simp only [Bool.and_eq_true] at hk
      exact hk.2.2.2
  rw [List.getD_eq_getElem?_getD (l := tStr.getD id []) (i := j)]
  cases hg : (tStr.getD id [])[j]? with
  | none => rfl
  | some b =>
    have hb := List.all_eq_true.mp hall b (List.mem_of_getElem? hg)
    simp only [Bool.and_eq_true, decide_eq_true_eq] at hb
    obtain ⟨n, hn, rfl⟩ := nI_of hb.1
    exact ch_id n ((nI_ltI hn (by decide) (b := 128)).mp hb.2)
theorem ag_charAt (X : aCx E p s m args meth c q) {id : Nat} {i : Int32} (hid : id < 59) (hin : vp_in i (tStr.getD id []).length) (hlk : Cond.methodLink (tCn (tOwn q)) index y_ch ∈ aTbl) (hfr : 4 ≤ R.frames) (hlo : 85 ≤ R.locals) (hcs : aN M - n0 ≤ R.cells ∧ aZ M - z0 ≤ R.slots) (hLl : L.length = tMl q) (hsl : aWt st ≤ 8) (hd : decode (tB q) pc = .ok (.invokevirtual index, 3))
    (k : aG E p l e R s m args below meth c n0 z0 Q u (pc + 3, L, aI ((tStr.getD id []).getD i.toNatClampNeg 0) :: st, M)) : aG E p l e R s m args below meth c n0 z0 Q u (pc, L, aI i :: aR 1 id :: st, M) := by
  intro H locs ls hW hq hu hl
  obtain ⟨v, hj⟩ := aKx_str (U := { s with heap := H }) X.2.2.2.2.2.1 (warm_rfl s H) hW hid
  have hj1 : ∀ U : State, U.heap = H → s.WarmedH U.vm → jS (E.2.2.1 id) v (tStr.getD id []) U := fun U hU hWm => hj.moved (u := { s with heap := H }) hWm.alike hU
  have hlen : (tStr.getD id []).length < 2 ^ 31 := by
    have hk := kS_q hid
    unfold kS at hk
    cases hf : tSF[id]? with
    | none => rw [hf] at hk; cases hk
    | some z =>
      rw [hf] at hk
      simp only [Bool.and_eq_true, decide_eq_true_eq] at hk
      exact hk.2.2.1
  have hM := jc_ch l (E.2.2.1 id) v (tStr.getD id []) i hlen hin
  rw [ch_str hid] at hM
  refine j_callV (own := tCn (tOwn q)) (n := 1) (As := [.int i]) (b := E.2.2.1 id) (rest := st.map (cv E)) X.1 X.2.1 (by rw [X.2.2.1, hl.1]; exact hLl.symm) X.2.2.2.1 X.2.2.2.2.1 hM hlk wj_ch_s wj_ch_x wj_ch_i wj_ch_c ⟨by decide, by decide, by decide +kernel⟩ ⟨hfr, by omega⟩ hcs ?_ hj1 (fun u U hv hh h => h.moved (by rw [hv]; exact Vm.Alike.refl u.vm) hh) rfl (cat_sum st hsl) hd (k H locs ls hW hq hu hl)
  obtain ⟨⟨cell, q1, q2, q3, -⟩, -⟩ := hj
  exact ⟨cell, q1, q2, q3⟩
theorem ag_copy (X : aCx E p s m args meth c q) {k0 k1 : Nat} (t0 : aTy M 4 k0) (t1 : aTy M 4 k1) {sp dp n : Int32} (h1 : ¬ sp < 0) (h2 : ¬ dp < 0) (h3 : ¬ n < 0) (h4 : sp.toNatClampNeg + n.toNatClampNeg ≤ (rK M k0).2) (h5 : dp.toNatClampNeg + n.toNatClampNeg ≤ (rK M k1).2) (hlk : Cond.methodLink (tCn (tOwn q)) index arraycopyName ∈ aTbl) (hfr : 1 ≤ R.frames) (hlo : 200 ≤ R.locals) (hLl : L.length = tMl q) (hsl : aWt st ≤ 8) (hd : decode (tB q) pc = .ok (.invokestatic index, 3))
    (k : aG E p l e R s m args below meth c n0 z0 Q false (pc + 3, L, st, aCpy M k0 k1 sp.toNatClampNeg dp.toNatClampNeg n.toNatClampNeg)) : aG E p l e R s m args below meth c n0 z0 Q u (pc, L, aI n :: aI dp :: aR 4 k1 :: aI sp :: aR 4 k0 :: st, M) := by
  have nn : ∀ z : Int32, ¬ z < 0 → z.toInt = (z.toNatClampNeg : Int) := by
    intro z hz
    have hz0 : (0 : Int) ≤ z.toInt := by
      have := Int32.not_lt.mp hz
      simpa using Int32.le_iff_toInt_le.mp this
    show z.toInt = ((z.toInt.toNat : Nat) : Int)
    omega
  intro H locs ls hW hq hu hl T hT X9
  have hA := X.2.2.2.2.2.1.2.1
  have hc0 := (hW.2.1 k0 t0.1 t0.2.1).1 t0.2.2
  have hc1 := (hW.2.1 k1 t1.1 t1.2.1).1 t1.2.2
  obtain ⟨-, y0, hy0, cm0, hyy0⟩ := hA (rK M k0).2 (fun j => .int (rI M k0 j))
  obtain ⟨-, y1, hy1, cm1, hyy1⟩ := hA (rK M k1).2 (fun j => .int (rI M k1 j))
  have hw9 : nativeFrameWords "java/lang/System" "arraycopy" 5 + 11 ≤ 190 := by decide +kernel
  obtain ⟨vm', X', step⟩ := X9.arraycopy X.1 X.2.2.2.1 (X.2.2.2.2.1 _ hlk) (X.2.2.2.2.1 _ wp_ac_n) (X.2.2.2.2.1 _ wp_ac_s) (X.2.2.2.2.1 _ wp_sys) (src := E.1 + k0) (dst := E.1 + k1) (cs := arrV (E.2.2.2.2.2 4) (rK M k0).2 (fun j => .int (rI M k0 j))) (cd := arrV (E.2.2.2.2.2 4) (rK M k1).2 (fun j => .int (rI M k1 j))) (srcPos := sp) (destPos := dp) (n := n) (by rw [hT]; exact hc0) (by rw [hT]; exact hc1)
    (fun _ h => by cases h) (fun _ h => by cases h) (fun h => by cases h) (fun h => by cases h) hy0 hy1 hyy0 hyy1 rfl h1 h2 h3
    (by rw [nn sp h1, nn n h3, arrV_size]; omega)
    (by rw [nn dp h2, nn n h3, arrV_size]; omega)
    (fun vm₁ _ i hi => by
      have e : (arrV (E.2.2.2.2.2 4) (rK M k0).2 (fun j => .int (rI M k0 j))).slots.getD (sp.toNatClampNeg + i) .null = .int (rI M k0 (sp.toNatClampNeg + i)) := by
        rw [Array.getD_eq_getD_getElem?, arrV_read _ _ (by omega)]
        rfl
      refine ⟨?_, ?_⟩
      · rw [e]; rfl
      · rw [e]; exact trivial)
    (g := F0 m pc ls (.int n :: .int dp :: .ref (E.1 + k1) :: .int sp :: .ref (E.1 + k0) :: st.map (cv E))) rfl (by rw [X.2.2.1]; exact hl.1.trans hLl) (rest := st.map (cv E)) rfl (by rw [X.2.1]; exact hd) hfr (by
      have := cat_sum (E := E) st hsl
      show 2 * 0 + _ + _ ≤ _
      omega)
  have e1 : copied (arrV (E.2.2.2.2.2 4) (rK M k0).2 (fun j => .int (rI M k0 j))) (arrV (E.2.2.2.2.2 4) (rK M k1).2 (fun j => .int (rI M k1 j))) sp dp n = arrV (E.2.2.2.2.2 4) (rK M k1).2 (fun j => .int (va_cpy (rI M k0) (rI M k1) sp.toNatClampNeg dp.toNatClampNeg n.toNatClampNeg j)) := va_copied (fun z => .int z) _ _ (rI M k0) (rI M k1) h4
  rw [e1] at X' step
  have hlt : E.1 + k1 < H.size := (Array.getElem?_eq_some_iff.mp hc1).1
  have oq : ∀ z : Nat, z ≠ E.1 + k1 → (H.setIfInBounds (E.1 + k1) (arrV (E.2.2.2.2.2 4) (rK M k1).2 (fun j => .int (va_cpy (rI M k0) (rI M k1) sp.toNatClampNeg dp.toNatClampNeg n.toNatClampNeg j))))[z]? = H[z]? := fun z hz => by simp [Array.getElem?_setIfInBounds, Ne.symm hz]
  have eq1 : (H.setIfInBounds (E.1 + k1) (arrV (E.2.2.2.2.2 4) (rK M k1).2 (fun j => .int (va_cpy (rI M k0) (rI M k1) sp.toNatClampNeg dp.toNatClampNeg n.toNatClampNeg j))))[E.1 + k1]? = some (arrV (E.2.2.2.2.2 4) (rK M k1).2 (fun j => .int (va_cpy (rI M k0) (rI M k1) sp.toNatClampNeg dp.toNatClampNeg n.toNatClampNeg j))) := by simp [Array.getElem?_setIfInBounds, hlt]
  have hI : ∀ i, rI (aCpy M k0 k1 sp.toNatClampNeg dp.toNatClampNeg n.toNatClampNeg) i = if i = k1 then va_cpy (rI M k0) (rI M k1) sp.toNatClampNeg dp.toNatClampNeg n.toNatClampNeg else rI M i := fun _ => rfl
  have hWd : aWd E (aCpy M k0 k1 sp.toNatClampNeg dp.toNatClampNeg n.toNatClampNeg) (H.setIfInBounds (E.1 + k1) (arrV (E.2.2.2.2.2 4) (rK M k1).2 (fun j => .int (va_cpy (rI M k0) (rI M k1) sp.toNatClampNeg dp.toNatClampNeg n.toNatClampNeg j)))) := by
    refine aWd_set (k := k1) hW rfl (fun _ => rfl) (fun i hi => by rw [hI, if_neg hi]) (fun _ _ => rfl) (fun _ _ => rfl) t1.1 (by simp) oq ?_
    refine aCell_4 (M := aCpy M k0 k1 sp.toNatClampNeg dp.toNatClampNeg n.toNatClampNeg) t1.2.2 ?_
    rw [eq1, hI, if_pos rfl]
    rfl
  obtain ⟨t, a1, b1⟩ := k _ _ ls hWd (fun z hz => by
      rcases List.mem_append.mp hz with h | h
      · exact hq z h
      · obtain ⟨y, -, hy⟩ := List.mem_map.mp h
        rw [← hy]
        show E.1 < E.1 + k1
        have := t1.1
        omega) (fun h => by cases h) hl _ (by
      show (T.heap.setIfInBounds _ _) = _
      rw [hT]) X'
  exact ⟨t, step t a1, b1⟩
end AP
theorem aKind5_prim {o : Nat} {i : Instr} (h : aKind o i = 5) : ∃ k, (i = .invokevirtual k ∨ i = .invokestatic k ∨ i = .invokespecial k) := by
  unfold aKind at h
  split at h
  all_goals first
    | (cases h; done)
    | (exact ⟨_, Or.inl rfl⟩)
    | (exact ⟨_, Or.inr (Or.inl rfl)⟩)
    | (exact ⟨_, Or.inr (Or.inr rfl)⟩)
theorem aSPr_all {fl : Bool} {E : aE} {l : Launch} : aSPr fl E l := by
  intro p e R s m args below meth c n0 z0 Q q pc i len v0 tg sw L st M P σ1 u X hq hk5 hdg hsd hs hP ok hLl hsl h6 h200 hn0 hz0 hcs k
  obtain ⟨k9, hi⟩ := aKind5_prim hk5
  have ho := tOwn_lt q
  have hl3 : len = 3 := by rcases hi with rfl | rfl | rfl <;> simpa [aSide] using hsd
  subst hl3
  rcases hi with rfl | rfl | rfl
  · unfold aStep at hs
    dsimp only at hs
    split at hs
    · rename_i hp
      split at hs
      · rename_i r st9
        rw [Bool.cond_eq_ite] at hs
        split at hs
        · rename_i h1
          cases hs
          have h1 : r.1 = 1 := by simpa using h1
          obtain ⟨rt, rk⟩ := r
          have h1 : rt = 1 := h1
          subst h1
          have hsl9 : aWt st9 ≤ 8 := by
            have : aWt st9 + 1 ≤ 8 := hsl
            omega
          exact ag_strlen X hP (prim_lk ho hp (by decide)) (by omega) (by omega) hcs hLl hsl9 hdg (k ⟨aOkS_cons.mpr ⟨trivial, (aOkS_cons.mp ok.1).2⟩, ok.2⟩)
        · cases hs
      · cases hs
    · rename_i hp
      split at hs
      · rename_i i9 r st9
        rw [Bool.cond_eq_ite] at hs
        split at hs
        · rename_i h1
          cases hs
          have h1 : r.1 = 1 := by simpa using h1
          obtain ⟨rt, rk⟩ := r
          have h1 : rt = 1 := h1
          subst h1
          have hsl9 : aWt st9 ≤ 8 := by
            have : aWt st9 + 1 + 1 ≤ 8 := hsl
            omega
          exact ag_charAt X hP.1 hP.2 (prim_lk ho hp (by decide)) (by omega) (by omega) hcs hLl hsl9 hdg (k ⟨aOkS_cons.mpr ⟨trivial, (aOkS_cons.mp (aOkS_cons.mp ok.1).2).2⟩, ok.2⟩)
        · cases hs
      · cases hs
    · cases hs
  · unfold aStep at hs
    dsimp only at hs
    split at hs
    · rename_i hp
      split at hs
      · rename_i y x st9
        cases hs
        have hsl9 : aWt st9 ≤ 8 := by
          have : aWt st9 + 1 + 1 ≤ 8 := hsl
          omega
        exact ag_max X (prim_lk ho hp (by decide)) wp_max_s wp_math wp_max_c (by omega) (by omega) hcs hLl hsl9 hdg (aG_false (k ⟨aOkS_cons.mpr ⟨trivial, (aOkS_cons.mp (aOkS_cons.mp ok.1).2).2⟩, ok.2⟩))
      · cases hs
    · rename_i hp
      split at hs
      · rename_i y x st9
        cases hs
        have hsl9 : aWt st9 ≤ 8 := by
          have : aWt st9 + 1 + 1 ≤ 8 := hsl
          omega
        exact ag_min X (prim_lk ho hp (by decide)) wp_min_s wp_math wp_min_c (by omega) (by omega) hcs hLl hsl9 hdg (aG_false (k ⟨aOkS_cons.mpr ⟨trivial, (aOkS_cons.mp (aOkS_cons.mp ok.1).2).2⟩, ok.2⟩))
      · cases hs
    · rename_i hp
      split at hs
      · rename_i n dp r1 sp r0 st9
        rw [Bool.cond_eq_ite] at hs
        split at hs
        · rename_i h1
          cases hs
          simp only [Bool.and_eq_true, beq_iff_eq] at h1
          obtain ⟨rt0, rk0⟩ := r0
          obtain ⟨rt1, rk1⟩ := r1
          obtain ⟨e0, e1⟩ := h1
          have e0 : rt0 = 4 := e0
          have e1 : rt1 = 4 := e1
          subst e0 e1
          have o1 := aOkS_cons.mp (aOkS_cons.mp ok.1).2
          have o2 := aOkS_cons.mp o1.2
          have o3 := aOkS_cons.mp o2.2
          have o4 := aOkS_cons.mp o3.2
          have ty1 : aTy M 4 rk1 := o2.1.resolve_left (by decide)
          have ty0 : aTy M 4 rk0 := o4.1.resolve_left (by decide)
          have hsl9 : aWt st9 ≤ 8 := by
            have : aWt st9 + 1 + 1 + 1 + 1 + 1 ≤ 8 := hsl
            omega
          have hsm : aSame M (aCpy M rk0 rk1 sp.toNatClampNeg dp.toNatClampNeg n.toNatClampNeg) := ⟨rfl, fun _ => rfl⟩
          exact ag_copy X ty0 ty1 hP.1 hP.2.1 hP.2.2.1 hP.2.2.2.1 hP.2.2.2.2 (prim_lk ho hp (by decide)) (by omega) (by omega) hLl hsl9 hdg (k ⟨aOkS_same hsm o4.2, aOkL_same hsm ok.2.1, aWf_same hsm (fun _ => rfl) ok.2.2⟩)
        · cases hs
      · cases hs
    · cases hs
  · unfold aStep at hs
    dsimp only at hs
    split at hs
    · rename_i hp
      split at hs
      · rename_i r st9
        rw [Bool.cond_eq_ite] at hs
        split at hs
        · cases hs
        · rename_i h1
          cases hs
          have h1 : r.1 ≠ 0 := by simpa using h1
          have hsl9 : aWt st9 ≤ 8 := by
            have : aWt st9 + 1 ≤ 8 := hsl
            omega
          exact ag_objinit X h1 (prim_lk ho hp (by decide)) wp_oi_s wp_oi_c (by omega) (by omega) hLl hsl9 hdg (k ⟨(aOkS_cons.mp ok.1).2, ok.2⟩)
      · cases hs
    · cases hs
