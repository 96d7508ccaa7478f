/-! Making cells; the constructors: the machine follows (fl = false). -/
def tNewI : List (List Nat) := [[165, 571, 574, 611], [171, 286], [], [292, 344, 432, 483], [298], [], [350], [], [], [580], [], [], [180], [157, 1305], [], []]
def tInsI : List (Nat × Nat) := [(158, 130), (166, 131), (172, 132), (287, 140), (293, 141), (181, 134), (345, 142), (433, 143), (484, 144), (575, 145), (612, 146), (1306, 147)]
def kN (o : Nat) (e : Nat × Nat) (ix : Nat) : Bool := decide (lw_tbl[ix]? = some (.classLink (tCn o) e.1 (tCn e.2)))
def kNo (o : Nat) : Bool := decide ((tNewL.getD o []).length = (tNewI.getD o []).length) && ((tNewL.getD o []).zip (tNewI.getD o [])).all (fun q => kN o q.1 q.2)
theorem kNo_all : ∀ o ∈ List.range 16, kNo o = true := by decide +kernel
theorem new_lk {o k ci : Nat} (ho : o < 16) (h : tNew o k = some ci) : Cond.classLink (tCn o) k (tCn ci) ∈ aTbl := by
  have hm := lk_mem (L := tNewL.getD o []) h
  have hk := kNo_all o (List.mem_range.mpr ho)
  unfold kNo at hk
  simp only [Bool.and_eq_true, decide_eq_true_eq] at hk
  obtain ⟨x, hx⟩ := zip_all hk.1 hk.2 hm
  unfold kN at hx
  exact in_tbl_i (of_decide_eq_true hx) rfl
theorem kIns_all : ∀ ci ∈ List.range 12, (decide (lw_tbl[(tInsI.getD ci (0, 0)).1]? = some (.instantiable (tCn ci) (aFs ci).length)) && decide (lw_tbl[(tInsI.getD ci (0, 0)).2]? = some (.initialized (tCn ci)))) = true := by decide +kernel
theorem ins_w {ci : Nat} (h : ci < 12) : Cond.instantiable (tCn ci) (aFs ci).length ∈ aTbl ∧ Cond.initialized (tCn ci) ∈ aTbl := by
  have h1 := kIns_all ci (List.mem_range.mpr h)
  simp only [Bool.and_eq_true, decide_eq_true_eq] at h1
  exact ⟨in_tbl_i h1.1 rfl, in_tbl_i h1.2 rfl⟩
theorem wa_int : Cond.arrayClass .int ∈ aTbl := in_tbl_i (i := 199) (by decide +kernel) rfl
theorem wa_boolean : Cond.arrayClass .boolean ∈ aTbl := in_tbl_i (i := 343) (by decide +kernel) rfl
theorem wa_long : Cond.arrayClass .long ∈ aTbl := in_tbl_i (i := 1934) (by decide +kernel) rfl
theorem wa_byte : Cond.arrayClass .byte ∈ aTbl := in_tbl_i (i := 285) (by decide +kernel) rfl
theorem wa_over : lw_tbl[572]? = some (.arrayOver (.object "PolicyJudge$Text")) := by decide +kernel
theorem aNew_K {M : aM} {t x n k : Nat} (h : k < aN M) : rK (aNew M t x n) k = rK M k := by
  show (if k = aN M then (t, x) else M.2.1 k) = M.2.1 k
  rw [if_neg (by omega)]
theorem aNew_I {M : aM} {t x n k : Nat} (h : k < aN M) : rI (aNew M t x n) k = rI M k := by
  show (if k = aN M then (fun _ => 0) else M.2.2.1 k) = M.2.2.1 k
  rw [if_neg (by omega)]
theorem aNew_R {M : aM} {t x n k : Nat} (h : k < aN M) : rR (aNew M t x n) k = rR M k := by
  show (if k = aN M then (fun _ => 0) else M.2.2.2.1 k) = M.2.2.2.1 k
  rw [if_neg (by omega)]
theorem aNew_J {M : aM} {t x n k : Nat} (h : k < aN M) : rJ (aNew M t x n) k = rJ M k := by
  show (if k = aN M then (fun _ => 0) else M.2.2.2.2 k) = M.2.2.2.2 k
  rw [if_neg (by omega)]
theorem aNew_K0 {M : aM} {t x n : Nat} : rK (aNew M t x n) (aN M) = (t, x) := by
  show (if aN M = aN M then (t, x) else M.2.1 (aN M)) = _
  rw [if_pos rfl]
theorem aNew_I0 {M : aM} {t x n : Nat} : rI (aNew M t x n) (aN M) = fun _ => 0 := by
  show (if aN M = aN M then (fun _ => 0) else M.2.2.1 (aN M)) = _
  rw [if_pos rfl]
theorem aNew_R0 {M : aM} {t x n : Nat} : rR (aNew M t x n) (aN M) = fun _ => 0 := by
  show (if aN M = aN M then (fun _ => 0) else M.2.2.2.1 (aN M)) = _
  rw [if_pos rfl]
theorem aNew_J0 {M : aM} {t x n : Nat} : rJ (aNew M t x n) (aN M) = fun _ => 0 := by
  show (if aN M = aN M then (fun _ => 0) else M.2.2.2.2 (aN M)) = _
  rw [if_pos rfl]
theorem aWd_new {E : aE} {M : aM} {H H1 : Heap} {t x n : Nat} (hW : aWd E M H) (h0 : 0 < aN M) (hz : H1.size = H.size + 1) (ho : ∀ q, q < H.size → H1[q]? = H[q]?) (hc : aCell E (aNew M t x n) (aN M) H1) : aWd E (aNew M t x n) H1 := by
  obtain ⟨w1, w2, w3⟩ := hW
  refine ⟨by rw [hz, w1]; rfl, fun k hk0 hk => ?_, fun q hq => ?_⟩
  · have hk : k < aN M + 1 := hk
    by_cases hkn : k = aN M
    · subst hkn; exact hc
    · have hk' : k < aN M := by omega
      exact aCell_kept (aNew_K hk') (aNew_I hk') (aNew_R hk') (aNew_J hk') (ho _ (by omega)) (w2 k hk0 hk')
  · rw [ho q (by omega)]; exact w3 q hq
section AN
variable {E : aE} {p : Program} {l : Launch} {e : Env} {R : Room} {s : State} {m : MethodId} {args : Array Value} {below : List Frame} {meth : Method} {c : Code} {Q : State → Prop} {n0 z0 : Nat} {pc q index : Nat} {L : List (Option aV)} {st : List aV} {M : aM} {u : Bool}
theorem ag_new (X : aCx E p s m args meth c q) {ci : Nat} (htn : tNew (tOwn q) index = some ci) (h0 : 0 < aN M) (hn0 : n0 ≤ aN M) (hz0 : z0 ≤ aZ M) (hcs : aN M + 1 - n0 ≤ R.cells ∧ aZ M + (aFs ci).length - z0 ≤ R.slots) (hd : decode (tB q) pc = .ok (.new index, 3))
    (kk : aG E p l e R s m args below meth c n0 z0 Q false (pc + 3, L, aR (10 + ci) (aN M) :: st, aNew M (10 + ci) 0 (aFs ci).length)) : aG E p l e R s m args below meth c n0 z0 Q u (pc, L, st, M) := by
  have hci := tNew_lt htn
  obtain ⟨w1, w2⟩ := ins_w hci
  obtain ⟨g1, g2, g3, g4, g5, g6, -⟩ := aCf_all hci
  have hKn := X.2.2.2.2.2.1.1.1 ci _ g1
  intro H locs ls hW hq hu hl
  refine W.newcK X.1 X.2.1 X.2.2.2.1 (X.2.2.2.2.1 _ (new_lk (tOwn_lt q) htn)) (X.2.2.2.2.1 _ w1) (X.2.2.2.2.1 _ w2) rfl hd (by show aN M - n0 + 1 ≤ _; omega) (by show aZ M - z0 + _ ≤ _; omega) hKn.2.1 hW.1 fun H1 kC hkC e1 z1 o1 => ?_
  rw [← hW.1] at z1 o1
  have hob := u_born (tTy ci) X.2.2.2.2.1 g2 hKn hkC e1 g3
  have hcell : aCell E (aNew M (10 + ci) 0 (aFs ci).length) (aN M) H1 := by
    refine aCell_10 (c := ci) (by omega) (by rw [aNew_K0]) g1 (hob.to fun j hj => ?_)
    obtain ⟨t0, t1, t2, t3, t4⟩ := kQ_ty (g6 j hj)
    obtain ⟨hs, -⟩ := kQ_spec (g6 j hj)
    have hI : rI (aNew M (10 + ci) 0 (aFs ci).length) (aN M) j = 0 := by rw [aNew_I0]
    have hR : rR (aNew M (10 + ci) 0 (aFs ci).length) (aN M) j = 0 := by rw [aNew_R0]
    have hJ : rJ (aNew M (10 + ci) 0 (aFs ci).length) (aN M) j = 0 := by rw [aNew_J0]
    revert t0 t1 t2 t3 t4 hs
    generalize aFd ci j = f
    intro t0 t1 t2 t3 t4 hs
    obtain ⟨s0, tt, ww⟩ := f
    match s0, t0, t1, t2, t3, t4, hs with
    | 0, t0, _, _, _, _, _ => rw [(t0 rfl).1]; show _ = Value.int (rI _ _ _); rw [hI]; rfl
    | 1, _, t1, _, _, _, _ => rw [(t1 rfl).1]; show _ = Value.int (rI _ _ _); rw [hI]; rfl
    | 2, _, _, t2, _, _, _ =>
      show _ = cr E tt (rR _ _ _)
      rw [hR]
      rcases (t2 rfl).1 with ⟨C, h⟩ | ⟨C, h⟩ <;> (rw [h]; rfl)
    | 3, _, _, _, t3, _, _ =>
      show _ = cr E tt (rR _ _ _)
      rw [hR]
      rcases (t3 rfl).1 with ⟨C, h⟩ | ⟨C, h⟩ <;> (rw [h]; rfl)
    | 4, _, _, _, _, t4, _ => rw [(t4 rfl).1]; show _ = Value.long (rJ _ _ _); rw [hJ]; rfl
    | n + 5, _, _, _, _, _, hs => exact absurd hs (by show ¬ n + 5 ≤ 4; omega)
  have h9 := kk H1 locs ls (aWd_new hW h0 z1 o1 hcell) hq (fun h => by cases h) hl
  have en : aN (aNew M (10 + ci) 0 (aFs ci).length) - n0 = aN M - n0 + 1 := by show aN M + 1 - n0 = _; omega
  have ez : aZ (aNew M (10 + ci) 0 (aFs ci).length) - z0 = aZ M - z0 + (aFs ci).length := by show aZ M + (aFs ci).length - z0 = _; omega
  dsimp only at h9
  rw [en, ez, List.map_cons, cv_10] at h9
  exact h9
/-- an array of numbers -/
theorem ag_newarr (X : aCx E p s m args meth c q) {at9 : ArrayType} {t : Nat} {n : Int32} (h0 : 0 < aN M) (hn : ¬ n < 0) (hb : n.toNatClampNeg ≤ 60000000) (hn0 : n0 ≤ aN M) (hz0 : z0 ≤ aZ M) (hcs : aN M + 1 - n0 ≤ R.cells ∧ aZ M + n.toNatClampNeg - z0 ≤ R.slots) (hd : decode (tB q) pc = .ok (.newarray at9, 2))
    (hw : Cond.arrayClass (newarray.typeOf at9) ∈ aTbl) (hby : componentBytes (newarray.typeOf at9) ≤ 8) (ht4 : 4 ≤ t) (hRA : s.vm.findClass ("[" ++ (newarray.typeOf at9).toString) = some (E.2.2.2.2.2 t)) (hcl : ∀ H1 : Heap, H1[E.1 + aN M]? = some (arrV (E.2.2.2.2.2 t) n.toNatClampNeg (fun _ => defaultValue (newarray.typeOf at9))) → aCell E (aNew M t n.toNatClampNeg n.toNatClampNeg) (aN M) H1)
    (kk : aG E p l e R s m args below meth c n0 z0 Q false (pc + 2, L, aR t (aN M) :: st, aNew M t n.toNatClampNeg n.toNatClampNeg)) : aG E p l e R s m args below meth c n0 z0 Q u (pc, L, aI n :: st, M) := by
  intro H locs ls hW hq hu hl
  refine va_newaK X.1 X.2.1 (X.2.2.2.2.1 _ hw) (g := F0 m pc ls (.int n :: st.map (cv E))) rfl hd (rest := st.map (cv E)) rfl hn rfl (Nat.le_trans (Nat.mul_le_mul hb hby) (by decide)) (by show aN M - n0 + 1 ≤ _; omega) (by show aZ M - z0 + _ ≤ _; omega) hW.1 fun H1 cA e1 z1 o1 hA hf => ?_
  rw [← hW.1] at z1 o1
  have hcA : E.2.2.2.2.2 t = cA := Option.some.inj (hRA.symm.trans hf)
  rw [← hcA] at e1
  have h9 := kk H1 locs ls (aWd_new hW h0 z1 o1 (hcl H1 e1)) hq (fun h => by cases h) hl
  have en : aN (aNew M t n.toNatClampNeg n.toNatClampNeg) - n0 = aN M - n0 + 1 := by show aN M + 1 - n0 = _; omega
  have ez : aZ (aNew M t n.toNatClampNeg n.toNatClampNeg) - z0 = aZ M - z0 + n.toNatClampNeg := by show aZ M + n.toNatClampNeg - z0 = _; omega
  have ec : cv E (aR t (aN M)) = .ref (E.1 + aN M) := by
    show (if t = 0 then Value.null else .ref (aAd E t (aN M))) = _
    rw [if_neg (by omega)]
    unfold aAd
    rw [if_neg (by omega), if_neg (by omega)]
  dsimp only at h9
  rw [en, ez, List.map_cons, ec] at h9
  exact h9
theorem ag_anew (X : aCx E p s m args meth c q) {n : Int32} (htn : tNew (tOwn q) index = some 3) (h0 : 0 < aN M) (hn : ¬ n < 0) (hb : n.toNatClampNeg ≤ 60000000) (hn0 : n0 ≤ aN M) (hz0 : z0 ≤ aZ M) (hcs : aN M + 1 - n0 ≤ R.cells ∧ aZ M + n.toNatClampNeg - z0 ≤ R.slots) (hd : decode (tB q) pc = .ok (.anewarray index, 3))
    (kk : aG E p l e R s m args below meth c n0 z0 Q false (pc + 3, L, aR 103 (aN M) :: st, aNew M 103 n.toNatClampNeg n.toNatClampNeg)) : aG E p l e R s m args below meth c n0 z0 Q u (pc, L, aI n :: st, M) := by
  have hover : va_AO "PolicyJudge$Text" s := by
    obtain ⟨-, -, -, -, -, -, -, -, s0, w1, -, -, w4, -, -⟩ := X.2.2.2.2.2.1
    exact va_AO.moved w1.alike (va_AO.of (w4 _ (List.mem_of_getElem? wa_over)))
  have hRA := X.2.2.2.2.2.1.2.2.2.2.2.2.1
  intro H locs ls hW hq hu hl
  refine W.anew X.1 X.2.1 X.2.2.2.1 (C := "PolicyJudge$Text") (X.2.2.2.2.1 _ (new_lk (tOwn_lt q) htn)) (va_AO.use hover) (g := F0 m pc ls (.int n :: st.map (cv E))) rfl hd (rest := st.map (cv E)) rfl hn (by omega) (by show aN M - n0 + 1 ≤ _; omega) (by show aZ M - z0 + _ ≤ _; omega) fun cA kA comp f1 f2 f3 f4 => ?_
  generalize hH1 : H.push ({ cls := cA, slots := Array.replicate n.toNatClampNeg .null, vm := .none } : Cell) = H1
  have z1 : H1.size = H.size + 1 := by rw [← hH1, Array.size_push]
  have e1 : H1[H.size]? = some (arrV cA n.toNatClampNeg (fun _ => .null)) := by rw [← hH1, Array.getElem?_push_size, ← arrV_new]
  have o1 : ∀ q : Nat, q < H.size → H1[q]? = H[q]? := fun q hq => by rw [← hH1, Array.getElem?_push, if_neg (Nat.ne_of_lt hq)]
  obtain ⟨kA', comp', b1, b2, b3, b4⟩ := hRA
  have hcA : E.2.2.2.2.2 103 = cA := Option.some.inj (b4.symm.trans f1)
  rw [← hcA] at e1
  have hcell : aCell E (aNew M 103 n.toNatClampNeg n.toNatClampNeg) (aN M) H1 := by
    refine aCell_100 (c := 3) (by rw [aNew_K0]) ?_
    rw [← hW.1, e1, aNew_K0, aNew_R0]
    rfl
  have h9 := kk H1 locs ls (aWd_new hW h0 z1 o1 hcell) hq (fun h => by cases h) hl
  have en : aN (aNew M 103 n.toNatClampNeg n.toNatClampNeg) - n0 = aN M - n0 + 1 := by show aN M + 1 - n0 = _; omega
  have ez : aZ (aNew M 103 n.toNatClampNeg n.toNatClampNeg) - z0 = aZ M - z0 + n.toNatClampNeg := by show aZ M + n.toNatClampNeg - z0 = _; omega
  dsimp only at h9
  rw [en, ez, List.map_cons, cv_100 3 (aN M), ← hW.1] at h9
  exact h9
end AN
/-- final fields are written in their class's constructor alone -/
theorem kH_all : (List.range 252).all (fun q => tOwn q == 13 || (tC q).all (fun e => match e.2.1 with
  | .putfield k => (match tFld (tOwn q) k with
    | some (ci, _, f) => !(f.1 == 2) || (decide ((tY q).name = "<init>") && ci == tOwn q)
    | none => true)
  | _ => true)) = true := by decide +kernel
