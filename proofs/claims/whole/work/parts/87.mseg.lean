/-! TRUTHS of expressions; the model works through the parts that are completed. -/
section MG
variable {M0 : aM} {t : Nat} {T : Txt} {g : Nat → Nat} {post : aM → Prop}
/-- one part -/
theorem m_step1 (R : RepM (mR M0 t) T g) (K : KOk (rK M0)) (ht : t ≤ 1) (hg : ∀ i, g i < 256) {h lo hi p : Nat} {seg pre rest : List Nat} {M : aM} (e : EX T (h + 1) lo hi p seg) (hhi : hi ≤ T.np) (hd : T.dn = pre ++ (p :: rest)) (f : Fw M0 M 0 400) (w1 : T.pk p = 12 → ∀ c, T.pf p = some c → rI M 172 c = nI (ev T g h c)) (w2 : T.pk p = 10 ∨ T.pk p = 11 → ∀ c, c ∈ walk T (T.pj p) (T.pf p) → rI M 172 c = nI (ev T g h c))
    (q : w_Mo_judge_L2 post (rest.length + 1) 136 (nI t) (nI (pre.length + 1)) (wI M 172 p (nI (ev T g (h + 1) p)))) : w_Mo_judge_L2 post (rest.length + 1 + 1) 136 (nI t) (nI pre.length) M := by
  have R' : RepM (mR M t) T g := by rw [f.mR]; exact R
  have K' : KOk (rK M) := by rw [show rK M = rK M0 from f.2.1]; exact K
  have k23 : (rK M 159).2 = 3 := mK K' 158 3
  have k22 : (rK M 158).2 = 1200 := mK K' 157 1200
  have hlen : T.dn.length = pre.length + (rest.length + 1) := by rw [hd, List.length_append]; rfl
  have ldn := R'.ldn
  have lnp := R'.lnp
  have ec : rI M 159 (t * 1 + 0) = nI T.dn.length := R'.cm
  have ec' : rI M 159 t = nI T.dn.length := by rw [← ec]; congr 1; omega
  have ed : rI M 158 (t * 400 + pre.length) = nI (T.dn.getD pre.length 0) := R'.dn pre.length (by omega)
  have eg : T.dn.getD pre.length 0 = p := by rw [hd, List.getD_eq_getElem?_getD, List.getElem?_append_right (Nat.le_refl _)]; simp
  rw [eg, Nat.mul_comm] at ed
  have e4 : (400 : Int32) * nI t + nI pre.length = nI (400 * t + pre.length) := by rw [show (400 : Int32) = nI 400 from rfl, pk_mul, nI_add]
  unfold w_Mo_judge_L2
  simp (disch := omega) only [Nat.reduceAdd, nI_clamp, ec', e4, ed, k23, k22]
  refine ⟨vin (by omega), pk_le T.dn.length pre.length (fun z => by omega) (fun _ => ⟨vin (by omega), ?_⟩)⟩
  refine m_work R' K' ht hg e hhi w1 w2 ?_
  rw [nI_1]
  exact q
/-- a tree -/
theorem m_seg (R : RepM (mR M0 t) T g) (K : KOk (rK M0)) (ht : t ≤ 1) (hg : ∀ i, g i < 256) : ∀ (h lo hi p : Nat) (seg : List Nat), EX T h lo hi p seg → hi ≤ T.np → ∀ (pre rest : List Nat) (M : aM), T.dn = pre ++ (seg ++ rest) → Fw M0 M 0 400 → (∀ M', Fw M M' lo hi → rI M' 172 p = nI (ev T g h p) → w_Mo_judge_L2 post (rest.length + 1) 136 (nI t) (nI (pre.length + seg.length)) M') → w_Mo_judge_L2 post (seg.length + rest.length + 1) 136 (nI t) (nI pre.length) M := by
  have lnp := R.lnp
  intro h
  induction h with
  | zero => intro lo hi p seg e; exact e.elim
  | succ h ih =>
    intro lo hi p seg e hhi pre rest M hd f q
    have e' := e
    obtain ⟨e1, e2, e3⟩ := e
    rcases e3 with ⟨a1, a2⟩ | ⟨a1, a2, c, lo', hi', sg, a3, a4, a5, a6, a7, a8, a9⟩ | ⟨a1, ms, a2, a3, a4, a5, a6⟩
    · subst a2
      have hk : T.pk p ≠ 10 ∧ T.pk p ≠ 11 ∧ T.pk p ≠ 12 := by
        rcases a1 with b | ⟨_, b | b | b | b | b⟩ <;> omega
      rw [show [p].length + rest.length + 1 = rest.length + 1 + 1 by show 1 + rest.length + 1 = _; omega]
      refine m_step1 R K ht hg e' hhi hd f (fun z => absurd z hk.2.2) (fun z => by omega) ?_
      exact q _ (Fw.refl.w ⟨e1, e2⟩) rw_ss
    · subst a8
      have hc := a7.in_
      rw [show (sg ++ [p]).length + rest.length + 1 = sg.length + (p :: rest).length + 1 by rw [List.length_append]; show sg.length + 1 + rest.length + 1 = sg.length + (rest.length + 1) + 1; omega]
      refine ih lo' hi' c sg a7 (by omega) pre (p :: rest) M (by rw [hd]; simp) f (fun M1 f1 g1 => ?_)
      show w_Mo_judge_L2 post (rest.length + 1 + 1) 136 (nI t) (nI (pre.length + sg.length)) M1
      rw [← List.length_append]
      have f01 : Fw M0 M1 0 400 := f.trans (f1.wide (by omega) (by omega))
      refine m_step1 R K ht hg e' hhi (by rw [hd]; simp) f01 (fun _ c' hc' => ?_) (fun z => by omega) ?_
      · rw [a3] at hc'
        cases hc'
        exact g1
      · have := q (wI M1 172 p (nI (ev T g (h + 1) p))) ((f1.wide a4 a5).w ⟨e1, e2⟩) rw_ss
        rw [List.length_append] at this
        rw [List.length_append]
        exact this
    · subst a6
      have hwk : walk T (T.pj p) (T.pf p) = ms.map Prod.fst := by rw [← a3]; exact walk_chn ms _ _ a4
      -- member by member
      have key : ∀ (l dn : List Mb) (o : Option Nat) (lo2 : Nat) (pre2 : List Nat) (M1 : aM), ms = dn ++ l → chn T o lo2 l → lo ≤ lo2 → T.dn = pre2 ++ (sgs l ++ (p :: rest)) → pre2.length = pre.length + (sgs dn).length → Fw M M1 lo hi → (∀ m, m ∈ dn → m.2.1.2 ≤ lo2 ∧ rI M1 172 m.1 = nI (ev T g h m.1)) → w_Mo_judge_L2 post ((sgs l).length + (rest.length + 1) + 1) 136 (nI t) (nI pre2.length) M1 := by
        intro l
        induction l with
        | nil =>
          intro dn o lo2 pre2 M1 hms hc hlo hd2 hl2 f1 hw
          have edn : ms = dn := by rw [hms, List.append_nil]
          show w_Mo_judge_L2 post (0 + (rest.length + 1) + 1) 136 (nI t) (nI pre2.length) M1
          rw [Nat.zero_add]
          have f01 : Fw M0 M1 0 400 := f.trans (f1.wide (by omega) (by omega))
          refine m_step1 R K ht hg e' hhi hd2 f01 (fun z => by omega) (fun _ c' hc' => ?_) ?_
          · rw [hwk, edn] at hc'
            obtain ⟨m, hm1, hm2⟩ := List.mem_map.1 hc'
            rw [← hm2]
            exact (hw m hm1).2
          · have := q (wI M1 172 p (nI (ev T g (h + 1) p))) (f1.w ⟨e1, e2⟩) rw_ss
            rw [List.length_append, edn] at this
            rw [hl2]
            exact this
        | cons m l ihl =>
          intro dn o lo2 pre2 M1 hms hc hlo hd2 hl2 f1 hw
          obtain ⟨c1, c2, c3, c4, c5⟩ := hc
          have hm : m ∈ ms := by rw [hms]; exact List.mem_append_right _ (List.mem_cons_self ..)
          obtain ⟨b1, b2, b3⟩ := a5 m hm
          have f01 : Fw M0 M1 0 400 := f.trans (f1.wide (by omega) (by omega))
          have es : sgs (m :: l) = m.2.2 ++ sgs l := rfl
          rw [es, List.length_append, show m.2.2.length + (sgs l).length + (rest.length + 1) + 1 = m.2.2.length + (sgs l ++ (p :: rest)).length + 1 by rw [List.length_append]; show _ = m.2.2.length + ((sgs l).length + (rest.length + 1)) + 1; omega]
          refine ih _ _ m.1 m.2.2 b3 (by omega) pre2 (sgs l ++ (p :: rest)) M1 (by rw [hd2, es]; simp) f01 (fun M2 f2 g2 => ?_)
          rw [← List.length_append]
          have := ihl (dn ++ [m]) _ _ (pre2 ++ m.2.2) M2 (by rw [hms]; simp) c5 (by omega) (by rw [hd2, es]; simp) (by rw [List.length_append, hl2, sgs_app, List.length_append]; omega) (f1.trans (f2.wide (by omega) b1)) (fun m' hm' => ?_)
          · rw [List.length_append]
            exact this
          · rcases List.mem_append.1 hm' with hm' | hm'
            · obtain ⟨d1, d2⟩ := hw m' hm'
              have hm2 : m' ∈ ms := by rw [hms]; exact List.mem_append_left _ hm'
              have hl3 := chn_lo ms _ _ a4 m' hm2
              refine ⟨by omega, ?_⟩
              rw [f2.2.2.2.2 m'.1 (by omega)]
              exact d2
            · rw [List.mem_singleton.1 hm']
              exact ⟨Nat.le_refl _, g2⟩
      have := key ms [] _ _ pre M rfl a4 (Nat.le_refl _) (by rw [hd]; simp) rfl Fw.refl (fun m hm => by cases hm)
      rw [List.length_append]
      show w_Mo_judge_L2 post ((sgs ms).length + 1 + rest.length + 1) 136 (nI t) (nI pre.length) M
      rw [show (sgs ms).length + 1 + rest.length + 1 = (sgs ms).length + (rest.length + 1) + 1 by omega]
      exact this
/-- all expressions of a text -/
theorem m_roots (R : RepM (mR M0 t) T g) (K : KOk (rK M0)) (ht : t ≤ 1) (hg : ∀ i, g i < 256) {rs : List (Nat × Mb)} (I : RI T rs) (q : ∀ M', Fw M0 M' 0 400 → (∀ r, r ∈ rs → rI M' 172 r.2.1 = nI (ev T g 43 r.2.1)) → ∃ n9, w_Mo_judge_L44 post n9 136 (nI t) (nI T.nn - 1) M') : w_Mo_judge post 136 (nI t) M0 := by
  have lnp := R.lnp
  have ldn := R.ldn
  have key : ∀ (l dn : List (Nat × Mb)) (lo : Nat) (pre : List Nat) (M : aM), rs = dn ++ l → inc T.np lo (l.map Prod.snd) → T.dn = pre ++ sgs (l.map Prod.snd) → pre.length = (sgs (dn.map Prod.snd)).length → Fw M0 M 0 400 → (∀ r, r ∈ dn → r.2.2.1.2 ≤ lo ∧ r.2.1 < r.2.2.1.2 ∧ rI M 172 r.2.1 = nI (ev T g 43 r.2.1)) → w_Mo_judge_L2 post ((sgs (l.map Prod.snd)).length + 1) 136 (nI t) (nI pre.length) M := by
    intro l
    induction l with
    | nil =>
      intro dn lo pre M hrs hi hd hl f hw
      have edn : rs = dn := by rw [hrs, List.append_nil]
      have R' : RepM (mR M t) T g := by rw [f.mR]; exact R
      have K' : KOk (rK M) := by rw [show rK M = rK M0 from f.2.1]; exact K
      have k23 : (rK M 159).2 = 3 := mK K' 158 3
      have k10 : (rK M 146).2 = 3 := mK K' 145 3
      have hlen : T.dn.length = pre.length := by rw [hd, List.length_append]; rfl
      have ec : rI M 159 (t * 1 + 0) = nI T.dn.length := R'.cm
      have ec' : rI M 159 t = nI T.dn.length := by rw [← ec]; congr 1; omega
      have en : rI M 146 (t * 1 + 0) = nI T.nn := R'.nn
      have en' : rI M 146 t = nI T.nn := by rw [← en]; congr 1; omega
      unfold w_Mo_judge_L2
      simp (disch := omega) only [Nat.reduceAdd, nI_clamp, ec', en', k23, k10]
      refine ⟨vin (by omega), pk_le T.dn.length pre.length (fun _ => ⟨vin (by omega), ?_⟩) (fun z => by omega)⟩
      exact q M f (fun r hr => (hw r (by rw [← edn]; exact hr)).2.2)
    | cons r l ihl =>
      intro dn lo pre M hrs hi hd hl f hw
      obtain ⟨i1, i2, i3, i4⟩ := hi
      have hr : r ∈ rs := by rw [hrs]; exact List.mem_append_right _ (List.mem_cons_self ..)
      have hex := I.ex r hr
      have hhi := (inc_hi _ _ i4).1
      have es : sgs ((r :: l).map Prod.snd) = r.2.2.2 ++ sgs (l.map Prod.snd) := rfl
      rw [es, List.length_append]
      refine m_seg R K ht hg 43 _ _ r.2.1 r.2.2.2 hex hhi pre (sgs (l.map Prod.snd)) M (by rw [hd, es]) f (fun M1 f1 g1 => ?_)
      rw [← List.length_append]
      refine ihl (dn ++ [r]) _ (pre ++ r.2.2.2) M1 (by rw [hrs]; simp) i4 (by rw [hd, es]; simp) ?_ (f.trans (f1.wide (by omega) (by omega))) (fun r' hr' => ?_)
      · rw [List.length_append, hl, List.map_append]
        show _ = (sgs (dn.map Prod.snd ++ [r.2])).length
        rw [sgs_app, List.length_append]
      · rcases List.mem_append.1 hr' with hr' | hr'
        · obtain ⟨d1, d2, d3⟩ := hw r' hr'
          refine ⟨by omega, d2, ?_⟩
          rw [f1.2.2.2.2 r'.2.1 (by omega)]
          exact d3
        · rw [List.mem_singleton.1 hr']
          exact ⟨Nat.le_refl _, i3, g1⟩
  unfold w_Mo_judge
  have := key rs [] 0 [] M0 rfl I.ic (by rw [I.dn]; rfl) rfl Fw.refl (fun r hr => by cases hr)
  exact ⟨_, this⟩
end MG
