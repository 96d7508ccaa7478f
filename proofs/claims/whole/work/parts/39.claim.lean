/-! THE CLAIM out of LawPure. -/
def R_law : String := "PolicyJudgeLaw"
def lw_P (b : Addr) (xs : List Int32) (args : Array Value) (s : State) : Prop := args = #[.ref b] ∧ s.IntsAt b xs ∧ xs.length ≤ 3072 ∧ (Jvm.Cond.and given_1 narrow_1).before args s = true
def lw_Q (_ : Array Value) (s : State) (o : Outcome) (t : State) : Prop := o = .returned (some (.int 1)) ∧ Framed s o t [] 601024 7293033
def lw_Z (below : List Frame) (a : Array Value) (s : State) : State → Prop := fun t => ∃ o, t.status = .running ∧ Ended t below o ∧ lw_Q a s o t
/-- the law's own end, with 1 on the stack, nothing written that was there before, its room as the claim has it -/
theorem lw_ret {p : Program} {l : Launch} {e : Env} {s : State} {m : MethodId} {below : List Frame} {meth : Method} {c : Code} {b : Nat} (hx : p.tables.exec = Jvm.exec) (hb : c.code = code) (hr : meth.sig.returnType = ret) (hlocks : meth.locks = false) {pc : Nat} {H : Heap} {ls : Array Slot} (hdg : decode code pc = .ok (.ireturn, 1)) : W p l e room_1 s m #[Value.ref b] below meth c H [] 601024 7293033 (lw_Z below #[Value.ref b] s) (F0 m pc ls [.int 1]) := by
  intro T hT X
  obtain ⟨fs, hret, hrun, hended, hW, hframe⟩ := X.leave (v := some (.int 1)) (hlocks := hlocks) (fun h => by rw [hr] at h; cases h)
  have hmeth' : T.vm.method? m = some meth := X.method'
  refine ⟨T.setFrames fs, ?_, .returned (some (.int 1)), hrun, hended, rfl, ⟨_, rfl⟩, hW, hframe⟩
  jvm_step X.here [X.here.top, hx, hb, hdg, hmeth', hr, ret, narrow_b1]
  (try refine ⟨rfl, ?_⟩); (try refine ⟨rfl, ?_⟩)
  first | (intro acts; rw [hret _ acts rfl rfl rfl]) | rw [hret _ _ rfl rfl rfl]
  exact Steps.refl _
/-- what holds at the law's entry: the machine, the code, the tables' words (any of lw_tbl by 'hts w (by decide +kernel)'), the script of L ints xs at the cell b, what the Statement gives of the start (any of its parts by flat_of_before) -/
def lw_At (p : Program) (s : State) (m : MethodId) (meth : Method) (c : Code) (b L : Nat) (xs : Nat → Int32) : Prop :=
  p.tables.exec = Jvm.exec ∧ c.code = code ∧ meth.sig.returnType = ret ∧ c.maxLocals = 7 ∧ s.vm.findClass R_law = some m.cls ∧ (∀ w ∈ lw_tbl, w.before #[Value.ref b] s = true) ∧ va_X b L xs s s.heap ∧ b < s.heap.size ∧ meth.locks = false ∧ (Jvm.Cond.and given_1 narrow_1).before #[Value.ref b] s = true ∧ meth.name = (tY 249).name ∧ c.exceptionTable.toList = []
theorem whole_start (hpure : LawPure) {p : Program} {e : Env} {s : State} {m : MethodId} {below : List Frame} {meth : Method} {c : Code} (l : Launch) (hst : l.stackTraces = false) {b L : Nat} {xs : Nat → Int32} (hL : L ≤ 3072) (C0 : lw_At p s m meth c b L xs) : W p l e room_1 s m #[Value.ref b] below meth c s.heap [] 0 0 (lw_Z below #[Value.ref b] s) (entryFrame m ([Value.ref b] : List Value).toArray 7) := by
  obtain ⟨hx, hb, hr, hml, hown, hts, hX, hbl, hlocks, hgv, hname, hexc⟩ := C0
  obtain ⟨E, hK, hE1, hEb, hEH⟩ := aKx_start hbl hts hgv
  have htb : ∀ w ∈ aTbl, w.before #[Value.ref b] s = true := fun w hw => hts w (List.mem_filter.mp hw).1
  have X : aCx E p s m #[Value.ref b] meth c 249 := ⟨hx, hb, hml, hown, htb, hK, hname, hr, hlocks⟩
  obtain ⟨M2, M4, Mend, u2, u4, u1, ⟨f2, h2⟩, ⟨f4, h4⟩, hwf, ⟨f9, h9⟩, hN9, hZ9⟩ := hpure L xs hL
  have n2 := aRun_N false _ _ _ _ _ _ _ h2
  have n4 := aRun_N false _ _ _ _ _ _ _ h4
  have n9 := aRun_N true _ _ _ _ _ _ _ h9
  have e2n : aN (aNew (aM0 L xs) 10 0 (aFs 0).length) = 2 := rfl
  have e2z : aZ (aNew (aM0 L xs) 10 0 (aFs 0).length) = 4 := rfl
  have e4n : aN (aNew M2 21 0 (aFs 11).length) = aN M2 + 1 := rfl
  have e4z : aZ (aNew M2 21 0 (aFs 11).length) = aZ M2 + (aFs 11).length := rfl
  have e9n : aN (aNew M4 6 1 1) = aN M4 + 1 := rfl
  have e9z : aZ (aNew M4 6 1 1) = aZ M4 + 1 := rfl
  have k2n : 2 ≤ aN M2 := by have := n2.1; dsimp only at this; omega
  have k2z : 4 ≤ aZ M2 := by have := n2.2; dsimp only at this; omega
  have k4n : aN M2 + 1 ≤ aN M4 := by have := n4.1; dsimp only at this; omega
  have k4z : aZ M2 + (aFs 11).length ≤ aZ M4 := by have := n4.2; dsimp only at this; omega
  have k9n : aN M4 + 1 ≤ aN Mend := by have := n9.1; dsimp only at this; omega
  have k9z : aZ M4 + 1 ≤ aZ Mend := by have := n9.2; dsimp only at this; omega
  have hrc : room_1.cells = 601024 := rfl
  have hrs : room_1.slots = 7293033 := rfl
  have hrf : room_1.frames = 2048 := rfl
  have hrl : room_1.locals = 84000 := rfl
  have hW0 : aWd E (aM0 L xs) s.heap := by
    refine ⟨by rw [← hE1]; rfl, fun k h0 hk => ?_, fun q _ => by rw [hEH]⟩
    have hk : k < 1 := hk
    omega
  have hscr : aScr E s (aM0 L xs) := ⟨L, xs, by rw [hEb, hEH]; exact hX, by rw [hEb]; omega, by rw [hEH]; exact hE1.symm, rfl, fun j _ => rfl⟩
  have hlen : ∀ (k : Nat), k < 1 → False ∨ True := fun _ _ => Or.inr trivial
  have main : aG E p l e room_1 s m #[Value.ref b] below meth c 1 0 (lw_Z below #[Value.ref b] s) true (0, aEnt 249 [aR 2 0], [], aM0 L xs) := by
    have ok0 : aOk false (aM0 L xs) (aEnt 249 [aR 2 0]) [] := by
      refine ⟨fun v hv => absurd hv List.not_mem_nil, aEnt_ok (aOkS_cons.mpr ⟨Or.inl (by decide), fun v hv => absurd hv List.not_mem_nil⟩), fun k ci h0 hk => ?_, fun k ci h0 hk => ?_⟩
      · have hk : k < 1 := hk
        omega
      · have hk : k < 1 := hk
        omega
    refine aMany_snd (fl := false) X rfl (by decide) 2 true _ _ _ (4, [some (aR 2 0), none, none, none, none, none, none], [aR 10 1, aR 10 1], aNew (aM0 L xs) 10 0 (aFs 0).length) (show aMany false (tC 249) (tOwn 249) 2 (true, (0, aEnt 249 [aR 2 0], [], aM0 L xs)) = some (0 < aN (aM0 L xs) ∧ True ∧ True, false, _) from rfl) ⟨Nat.one_pos, trivial, trivial⟩ ok0 rfl (Nat.le_refl _) (Nat.le_refl _) ⟨by dsimp only; omega, by dsimp only; omega⟩ (fun _ => hscr) (fun ok1 hL1 hn1 hz1 hs1 => ?_)
    refine law_ctor (k0 := 79) (q1 := 0) (k9 := 1) X rfl rfl rfl (by decide +kernel) h2 ⟨by rw [hrf]; decide, by rw [hrl]; decide⟩ ⟨by omega, by omega⟩ ok1 rfl hn1 hz1 (Nat.le_of_ble_eq_true rfl) (hs1 rfl) (fun ok2 hn2 hz2 hs2 => ?_)
    refine aMany_snd (fl := false) X rfl (by decide) 3 _ _ _ _ (12, [some (aR 2 0), some (aR 10 1), none, none, none, none, none], [aR 21 (aN M2), aR 21 (aN M2)], aNew M2 21 0 (aFs 11).length) (show aMany false (tC 249) (tOwn 249) 3 ((bif u2 then false else false), (7, [some (aR 2 0), none, none, none, none, none, none], [aR 10 1], M2)) = some (True ∧ 0 < aN M2 ∧ True ∧ True, false, _) from rfl) ⟨trivial, by omega, trivial, trivial⟩ ok2 rfl hn2 hz2 ⟨by dsimp only; omega, by dsimp only; omega⟩ (fun _ => hs2) (fun ok3 hL3 hn3 hz3 hs3 => ?_)
    refine law_ctor (k0 := 82) (q1 := 131) (k9 := aN M2) X rfl rfl rfl (by decide +kernel) h4 ⟨by rw [hrf]; decide, by rw [hrl]; decide⟩ ⟨by omega, by omega⟩ ok3 rfl hn3 hz3 (Nat.le_of_ble_eq_true rfl) (hs3 rfl) (fun ok4 hn4 hz4 hs4 => ?_)
    refine aMany_snd (fl := false) X rfl (by decide) 6 _ _ _ _ (23, [some (aR 2 0), some (aR 10 1), some (aR 21 (aN M2)), some (aR 6 (aN M4)), some (aI 0), none, none], [], aNew M4 6 1 1) (show aMany false (tC 249) (tOwn 249) 6 ((bif u4 then false else false), (15, [some (aR 2 0), some (aR 10 1), none, none, none, none, none], [aR 21 (aN M2)], M4)) = some (True ∧ True ∧ (¬ (1 : Int32) < 0 ∧ 0 < aN M4 ∧ (1 : Int32).toNatClampNeg ≤ 60000000) ∧ True ∧ True ∧ True ∧ True, false, _) from rfl) ⟨trivial, trivial, ⟨by decide, by omega, by decide⟩, trivial, trivial, trivial, trivial⟩ ok4 rfl hn4 hz4 ⟨by dsimp only; omega, by dsimp only; omega⟩ (fun _ => hs4) (fun ok5 hL5 hn5 hz5 hs5 => ?_)
    refine aSound13 hst f9 2040 83900 249 false _ _ Mend u1 h9 rfl (Or.inr rfl) (by decide) ⟨ok5.1, ok5.2.1, hwf⟩ rfl p e room_1 s m _ below meth c 1 0 _ X ?_ (by rw [hrf]; decide) (by rw [hrl]; decide) (by dsimp only; omega) (by dsimp only; omega) ⟨by omega, by omega⟩ hs5 ?_
    · show c.exceptionTable.toList.map _ = tHh 249
      rw [hexc]
      decide +kernel
    · intro pc' L' st' i' P hd' he' hP' hL'
      have hcase : i' = .ireturn ∧ st' = [aI 1] := by
        unfold aEnd at he'
        repeat' split at he'
        all_goals first
          | (cases he'; done)
          | (cases he'; exact ⟨rfl, rfl⟩)
      obtain ⟨rfl, rfl⟩ := hcase
      intro H locs ls hW hq hu hl
      refine va_forget (fun q h => by have := hq q h; omega) ?_
      refine W.widen (k := 601024) (n := 7293033) (by dsimp only; omega) (by dsimp only; omega) ?_
      exact lw_ret hx hb hr hlocks hd'
  have hcv : cv E (aR 2 0) = .ref b := by
    show Value.ref (aAd E 2 0) = _
    show Value.ref (if (2 : Nat) = 1 then _ else if (2 : Nat) = 2 then E.2.1 else _) = _
    rw [if_neg (by decide), if_pos rfl, hEb]
  have hle := aLv_entry (E := E) (q := 249) (as := [aR 2 0]) (fun v hv => by
    have : v = aR 2 0 := by simpa using hv
    subst this
    rw [hcv]
    rfl) (by decide)
  rw [lg_entry_eq]
  have hfin := main s.heap [] _ hW0 (fun q h => by cases h) (fun _ => ⟨rfl, rfl⟩) hle
  rw [show ([aR 2 0] : List aV).map (cv E) = [Value.ref b] by rw [List.map_cons, hcv]; rfl] at hfin
  exact hfin
set_option maxHeartbeats 4000000 in
theorem lw_walk (hpure : LawPure) (l : Launch) (hst : l.stackTraces = false) (b : Addr) (xs : List Int32) : MetFree l x (headSpec (Jvm.Cond.code x code maxLocals ret :: tables_1) room_1) (lw_P b xs) (fun _ _ _ _ _ => True) lw_Q := by
  refine MetFree.of_bodyS (code := code) (maxLocals := maxLocals) (ret := ret) (by decide) ?_ ?_
  · intro args s m h hn
    obtain ⟨meth, c, h1, h2, h3, h4, h5, h6, -, -⟩ := Cond.code_spec hn (atoms_spec (ws := Jvm.Cond.code x code maxLocals ret :: tables_1) h _ List.mem_cons_self)
    exact ⟨meth, c, h1, h2, h3, h4, h5, h6⟩
  · intro p e s m args below meth c s₁ B hml0 hP _
    obtain ⟨rfl, hx, hbd, hgv⟩ := hP
    obtain ⟨scr, harrAt, hlist, hof, hsmall⟩ := hx
    obtain ⟨hcb, hkn, -, -⟩ := State.arrayAt?_spec harrAt
    have hown : s.vm.findClass R_law = some m.cls := findClass_of_methodNamed B.named
    have hts0 : ∀ c ∈ (Jvm.Cond.code x code maxLocals ret :: tables_1), c.before #[Value.ref b] s = true := atoms_spec (ws := Jvm.Cond.code x code maxLocals ret :: tables_1) B.pre
    have hts : ∀ w ∈ lw_tbl, w.before #[Value.ref b] s = true := k2_hts_sels lw_privs (fun w hw => hts0 w (List.mem_cons_of_mem _ hw)) lw_privs_ok
    have hml : c.maxLocals = 7 := B.maxLocals_eq (hts0 _ List.mem_cons_self)
    have hex : c.exceptionTable.toList = [] := by
      obtain ⟨meth', c', hm', hc', -, -, -, -, hempty, -⟩ := Cond.code_spec B.named (hts0 _ List.mem_cons_self)
      have e1 : meth = meth' := Option.some.inj (B.method.symm.trans hm')
      subst e1
      have e2 : c = c' := Option.some.inj ((Stand.of_body B).code.symm.trans hc')
      subst e2
      have h0 : c.exceptionTable.size = 0 := by simpa [Array.isEmpty] using hempty
      exact List.eq_nil_of_length_eq_zero (by simpa using h0)
    have X₀ : Stand p l e room_1 s m #[Value.ref b] below meth c s₁ [] 0 0 := Stand.of_body B
    have hh0 : s₁.heap = s.heap := by rw [B.state]; rfl
    have hsz : scr.slots.size = xs.length := by rw [← Array.length_toList, hlist, List.length_map]
    have hval : ∀ j : Nat, j < xs.length → scr.slots[j]? = some (.int (xs.getD j 0)) := fun j hj => by
      rw [← Array.getElem?_toList, hlist]
      simp [hj]
    have hbl : b < s.heap.size := (Array.getElem?_eq_some_iff.mp hcb).1
    have hX : va_X b xs.length (fun j => xs.getD j 0) s s.heap := ⟨scr, hcb, hof, hkn, hsz, hval⟩
    have K : W p l e room_1 s m #[Value.ref b] below meth c s₁.heap [] 0 0 (lw_Z below #[Value.ref b] s) (entryFrame m ([Value.ref b] : List Value).toArray 7) := by
      rw [hh0]
      exact whole_start hpure l hst hbd ⟨B.exec, B.bytes, B.returns, hml, hown, hts, hX, hbl, B.notSynchronized, hgv, (name_of_methodNamed B.named B.method).1, hex⟩
    obtain ⟨t, a1, o, b1, b2, b3⟩ := K s₁ rfl X₀
    exact ⟨t, o, a1, b1, b2, b3⟩
theorem lw_pre_spec {args : Array Value} {s : State} (h : (Jvm.Cond.and given_1 narrow_1).before args s = true) (hr : rest_1_c.before args s = true) : ∃ (b : Addr) (xs : List Int32), lw_P b xs args s := by
  have hs := flat_of_before _ h
  have hq := flat_of_before _ hr
  have hc : (Cond.count 1).before args s = true := hs _ (by decide +kernel)
  have harr : (Cond.arrayOf (.arg 0) .int).before args s = true := hs _ (by decide +kernel)
  have hle : (Cond.le (.length (.arg 0)) (.int 3072)).before args s = true := hs _ (by decide +kernel)
  have hlen : (Cond.isInt (.length (.arg 0))).before args s = true := hq _ (by decide +kernel)
  have hall : (Cond.all (.arg 0) (.isInt (.elem (.arg 0) (.index 0)))).before args s = true := hq _ (by decide +kernel)
  obtain ⟨b, xs, hb, hx⟩ := State.ints_of_pre rfl harr hlen hall
  have hsm : xs.length < 2 ^ 31 := hx.choose_spec.2.2.2
  have hev : (Term.length (.arg 0)).eval args s none [] s = some (.int xs.length.toInt32) := hx.length_eval hb
  have hv := Cond.le_ints hev (show (Term.int 3072).eval args s none [] s = some (.int 3072) from rfl)
  have hd : xs.length.toInt32 ≤ 3072 := by
    simpa [Cond.before, Cond.holds, hv] using hle
  have hN : xs.length ≤ 3072 := (Int32.ofNat_le_ofNat hsm (by decide)).mp (show Int32.ofNat xs.length ≤ Int32.ofNat 3072 from hd)
  exact ⟨b, xs, Cond.one_arg hc (show args[0]? = some (.ref b) from hb), hx, hN, h⟩
theorem lw_comes (hpure : LawPure) (l : Launch) (hst : l.stackTraces = false) : Comes l x (Jvm.Cond.code x code maxLocals ret :: tables_1) room_1 (fun tb e args s => Calls_1 tb e args s ∧ rest_1 tb e args s ∧ Pre_1 tb e args s)
    (fun _ _ args s o t => lw_Q args s o t) := by
  intro p e ha hc hk s m args below hf hfit hheap happ hpre
  obtain ⟨b, xs, hP⟩ := lw_pre_spec hpre.2.2 hpre.2.1
  obtain ⟨k, o, h1, h2, h3, hQ⟩ := lw_walk hpure l hst b xs p e ha hc hk s m args below hf ((Spec.applies_iff_loose hf).mp happ).1 hP trivial
  exact ⟨k, o, h1, h2, h3, hQ⟩
theorem lw_frame {s t : State} {o : Outcome} {args : Array Value} (h : Framed s o t [] 601024 7293033) :
    Framed s o t (fieldLocs frame_1_writes args s ++ arrayLocs frame_1_arrays args s ++ staticLocs frame_1_statics s) 601024 7293033 := h
theorem lw_limb (hpure : LawPure) (L : Cond) (hL : ∀ (args : Array Value) (s t : State), L.after args s (.returned (some (.int 1))) t = true) :
    ArmFor flags0 classFile x code maxLocals ret World_1 tables_1 room_1 Calls_1 rest_1 Pre_1
      (fun tb e a s o t => postC L tb e a s o t ∧ Framed s o t (fieldLocs frame_1_writes a s ++ arrayLocs frame_1_arrays a s ++ staticLocs frame_1_statics s) 601024 7293033) := by
  intro l hfl _ _ p e ha hc hk s m args below hf hfit hheap happ hpre
  obtain ⟨k, o, h1, h2, h3, rfl, hF⟩ := lw_comes hpure l (by unfold Launch.stackTraces; rw [hfl]; decide +kernel) p e ha hc hk s m args below hf hfit hheap happ hpre
  exact ⟨k, _, h1, h2, h3, hL args s _, lw_frame hF⟩
theorem i_vc_of (hpure : LawPure) : Claimed_1_1 ∧ Claimed_1_2 := ⟨lw_limb hpure limb_1_1 (fun args s t => by simp [limb_1_1, Cond.after, Cond.holds, Cond.value]), lw_limb hpure limb_1_2 (fun args s t => Cond.after_iff.mpr (by
  first | (rw [show limb_1_2 = Cond.eq .result (.int 1) from rfl, Cond.eq_ints (x := 1) (y := 1) rfl rfl]; simp; done) | (simp [limb_1_2, Cond.value, Term.eval]; done)))⟩
