/-! HOW LONG the print is, V: trees, nodes, the whole. -/
theorem sm_le {f : Nat → Nat} {a : Nat} : ∀ b, a ≤ b → sm f a ≤ sm f b := by
  intro b
  induction b with
  | zero => intro h; rw [show a = 0 by omega]; exact Nat.le_refl _
  | succ b ih =>
    intro h
    by_cases q : a = b + 1
    · rw [q]; exact Nat.le_refl _
    · have := ih (by omega)
      rw [sm]; omega
theorem sm_0 {f : Nat → Nat} {p : Nat} (n : Nat) : sm (up f p 0) n + (if p < n then f p else 0) = sm f n := by
  by_cases h : p < n
  · rw [if_pos h]
    have := sm_up (f := f) (f' := up f p 0) (i := p) n h (fun j _ hn => up_n hn)
    rw [up_s] at this
    omega
  · rw [if_neg h]
    have := sm_fr (f := f) (f' := up f p 0) n (fun j hj => up_n (by omega))
    omega
theorem sm_add {a b : Nat → Nat} : ∀ n, sm (fun i => a i + b i) n = sm a n + sm b n := by
  intro n
  induction n with
  | zero => rfl
  | succ n ih => rw [sm, sm, sm, ih]; omega
theorem sm_c {c : Nat} : ∀ n, sm (fun _ => c) n = c * n := by
  intro n
  induction n with
  | zero => rfl
  | succ n ih => rw [sm, ih, Nat.mul_succ]
theorem sm_z {f : Nat → Nat} : ∀ n, (∀ i, i < n → f i = 0) → sm f n = 0 := by
  intro n
  induction n with
  | zero => intro _; rfl
  | succ n ih => intro h; rw [sm, ih (fun i hi => h i (by omega)), h n (by omega)]
theorem sm_one {x c : Nat} (n : Nat) : sm (fun i => if x = i then c else 0) n ≤ c := by
  by_cases h : x < n
  · have := sm_up (f := fun _ => 0) (f' := fun i => if x = i then c else 0) (i := x) n h (fun j _ hn => by rw [if_neg (fun z => hn z.symm)])
    rw [if_pos rfl, sm_z (f := fun _ => 0) n (fun _ _ => rfl)] at this
    omega
  · rw [sm_z n (fun i hi => by rw [if_neg (by omega)])]; omega
theorem sm_sw {dof g : Nat → Nat} {n : Nat} : ∀ m, sm (fun i => sm (fun d => if dof d = i then g d else 0) m) n ≤ sm g m := by
  intro m
  induction m with
  | zero =>
    show sm (fun _ => 0) n ≤ 0
    rw [sm_z n (fun _ _ => rfl)]; omega
  | succ m ih =>
    have e : sm (fun i => sm (fun d => if dof d = i then g d else 0) (m + 1)) n = sm (fun i => sm (fun d => if dof d = i then g d else 0) m) n + sm (fun i => if dof m = i then g m else 0) n := sm_add n
    have o := sm_one (x := dof m) (c := g m) n
    rw [e, sm]; omega
theorem sm_list {F : Nat × Mb → Nat} {n : Nat} : ∀ (rs : List (Nat × Mb)) (f : Nat → Nat), (∀ i, i < n → 0 < f i → ∃ r, r ∈ rs ∧ r.1 = i ∧ f i ≤ F r) → sm f n ≤ (rs.map F).sum := by
  intro rs
  induction rs with
  | nil =>
    intro f h
    rw [sm_z n (fun i hi => by
      rcases Nat.eq_zero_or_pos (f i) with q | q
      · exact q
      · obtain ⟨r, hr, _⟩ := h i hi q; cases hr)]
    exact Nat.zero_le _
  | cons r l ih =>
    intro f h
    rw [List.map_cons, List.sum_cons]
    by_cases q : f r.1 ≤ F r
    · have a := ih (up f r.1 0) (fun i hi hp => by
        by_cases e : i = r.1
        · rw [e, up_s] at hp; omega
        · rw [up_n e] at hp ⊢
          obtain ⟨r', h1, h2, h3⟩ := h i hi hp
          rcases List.mem_cons.mp h1 with h1 | h1
          · rw [h1] at h2; exact absurd h2.symm e
          · exact ⟨r', h1, h2, h3⟩)
      have b := sm_0 (f := f) (p := r.1) n
      split at b <;> omega
    · have a := ih f (fun i hi hp => by
        obtain ⟨r', h1, h2, h3⟩ := h i hi hp
        rcases List.mem_cons.mp h1 with h1 | h1
        · rw [h1] at h2 h3; rw [← h2] at h3; exact absurd h3 q
        · exact ⟨r', h1, h2, h3⟩)
      omega
theorem chn_sum {T : Txt} {g : Nat → Nat} {L : Mb → Nat} {hi : Nat} : ∀ (ms : List Mb) (o : Option Nat) (lo : Nat), chn T o lo ms → lo ≤ hi → (∀ m, m ∈ ms → m.2.1.2 ≤ hi ∧ L m + sm g m.2.1.1 ≤ sm g m.2.1.2) → (ms.map L).sum + sm g lo ≤ sm g hi := by
  intro ms
  induction ms with
  | nil =>
    intro o lo _ h _
    show 0 + sm g lo ≤ sm g hi
    have := sm_le (f := g) hi h
    omega
  | cons m l ih =>
    intro o lo h hl hm
    obtain ⟨h1, h2, h3, h4, h5⟩ := h
    obtain ⟨g1, g2⟩ := hm m (List.mem_cons_self ..)
    have a := ih _ _ h5 g1 (fun m' h' => hm m' (List.mem_cons_of_mem _ h'))
    have b := sm_le (f := g) _ h2
    rw [List.map_cons, List.sum_cons]
    omega
theorem inc_sum {g : Nat → Nat} {L : Mb → Nat} {np : Nat} : ∀ (ms : List Mb) (lo : Nat), inc np lo ms → (∀ m, m ∈ ms → L m + sm g m.2.1.1 ≤ sm g m.2.1.2) → (ms.map L).sum + sm g lo ≤ sm g np := by
  intro ms
  induction ms with
  | nil =>
    intro lo h _
    show 0 + sm g lo ≤ sm g np
    have := sm_le (f := g) np h
    omega
  | cons m l ih =>
    intro lo h hm
    obtain ⟨h2, h3, h4, h5⟩ := h
    have g2 := hm m (List.mem_cons_self ..)
    have a := ih _ h5 (fun m' h' => hm m' (List.mem_cons_of_mem _ h'))
    have b := sm_le (f := g) _ h2
    rw [List.map_cons, List.sum_cons]
    omega
theorem fm_len {s : List Nat} : ∀ r : List (List Nat), (r.flatMap (fun y => s ++ y)).length = (r.map List.length).sum + s.length * r.length := by
  intro r
  induction r with
  | nil => rfl
  | cons x r ih =>
    rw [List.flatMap_cons, List.length_append, List.length_append, ih, List.map_cons, List.sum_cons, List.length_cons, Nat.mul_succ]; omega
theorem sJs_len {s : List Nat} (xs : List (List Nat)) : (sJs s xs).length = (xs.map List.length).sum + s.length * (xs.length - 1) := by
  cases xs with
  | nil => rfl
  | cons x r =>
    rw [sJs, List.length_append, fm_len, List.map_cons, List.sum_cons, List.length_cons, Nat.add_sub_cancel]; omega
theorem sBr_lx {o i : Nat} {x : List Nat} : (sBr (brk o i) x).length ≤ x.length + (if i = 10 ∨ i = 11 then 2 else 0) := by
  by_cases h : i = 10 ∨ i = 11
  · rw [if_pos h]
    unfold sBr
    split
    · rw [List.length_cons, List.length_append]; show x.length + 1 + 1 ≤ _; omega
    · omega
  · rw [if_neg h]
    have : brk o i = false := by
      unfold brk
      rw [show (i == 10) = false by simp; omega, show (i == 11) = false by simp; omega]; rfl
    rw [this]; exact Nat.le_refl _
theorem sEx_len {T : Txt} : ∀ (h lo hi p : Nat) (seg : List Nat), EX T h lo hi p seg → (sEx T h p).length + (if T.pk p = 10 ∨ T.pk p = 11 then 2 else 0) + sm (cpt T) lo ≤ sm (cpt T) hi := by
  intro h
  induction h with
  | zero => intro lo hi p seg e; exact e.elim
  | succ h ih =>
    intro lo hi p seg e
    obtain ⟨e1, e2, e3⟩ := e
    have g1 := sm_0 (f := cpt T) (p := p) lo
    have g2 := sm_0 (f := cpt T) (p := p) hi
    rw [if_neg (by omega)] at g1
    rw [if_pos e2] at g2
    -- a member, seen from outside
    have mem : ∀ lo' hi' c sg, EX T h lo' hi' c sg → (p < lo' ∨ hi' ≤ p) → ∀ o, (sBr (brk o (T.pk c)) (sEx T h c)).length + sm (up (cpt T) p 0) lo' ≤ sm (up (cpt T) p 0) hi' := by
      intro lo' hi' c sg ex hp o
      have i1 := ih _ _ _ _ ex
      have i2 := EX.in_ ex
      have g3 := sm_0 (f := cpt T) (p := p) lo'
      have g4 := sm_0 (f := cpt T) (p := p) hi'
      have b := sBr_lx (o := o) (i := T.pk c) (x := sEx T h c)
      rcases hp with hp | hp
      · rw [if_pos hp] at g3
        rw [if_pos (by omega)] at g4
        omega
      · rw [if_neg (by omega)] at g3
        rw [if_neg (by omega)] at g4
        omega
    have gle := sm_le (f := up (cpt T) p 0) hi (show lo ≤ hi by omega)
    rcases e3 with ⟨lf, _⟩ | ⟨a1, a2, c, lo', hi', sg, a3, a4, a5, a6, a7, _⟩ | ⟨a1, ms, a2, a3, a4, a5, _⟩
    · have n1 : T.pk p ≠ 10 ∧ T.pk p ≠ 11 ∧ T.pk p ≠ 12 ∧ T.pk p ≠ 128 := by unfold leafOk at lf; omega
      have ec : (sEx T (h + 1) p).length = cpt T p := by
        rw [sEx, if_neg n1.1, if_neg n1.2.1, if_neg n1.2.2.1]
        unfold cpt
        rw [if_neg n1.1, if_neg n1.2.1, if_neg n1.2.2.1, if_neg n1.2.2.2]
        split <;> rfl
      rw [ec, if_neg (by omega)]
      omega
    · have m := mem _ _ _ _ a7 a6 12
      have l1 := sm_le (f := up (cpt T) p 0) _ a4
      have l2 := sm_le (f := up (cpt T) p 0) _ a5
      have ec : cpt T p = 4 := by
        unfold cpt
        rw [if_neg (by omega), if_neg (by omega), if_pos a1]
      rw [sEx, if_neg (by omega), if_neg (by omega), if_pos a1, a3, if_neg (by omega), List.length_append, show (sN 52).length = 4 from rfl]
      show 4 + (sBr (brk 12 (T.pk c)) (sEx T h c)).length + 0 + sm (cpt T) lo ≤ _
      omega
    · rw [if_pos a1]
      have jn : ∀ (w : Nat) (s : List Nat), s.length * (T.pj p - 1) + 2 ≤ cpt T p → (sJs s ((walk T (T.pj p) (T.pf p)).map (fun c => sBr (brk w (T.pk c)) (sEx T h c)))).length + 2 + sm (cpt T) lo ≤ sm (cpt T) hi := by
        intro w s hc
        rw [sJs_len, ← a3, walk_chn ms _ _ a4, List.map_map, List.map_map, List.length_map, List.length_map, a3]
        have k := chn_sum (T := T) (g := up (cpt T) p 0) (L := (List.length ∘ (fun c => sBr (brk w (T.pk c)) (sEx T h c))) ∘ Prod.fst) (hi := hi) ms _ _ a4 (by omega) (fun m hm => by
          obtain ⟨h1, h2, h3⟩ := a5 m hm
          exact ⟨h1, mem _ _ _ _ h3 h2 w⟩)
        omega
      rcases a1 with a1 | a1
      · rw [sEx, if_pos a1]
        refine jn 10 _ ?_
        unfold cpt
        rw [if_pos a1, show (sN 53).length = 4 from rfl]; omega
      · rw [sEx, if_neg (by omega), if_pos a1]
        refine jn 11 _ ?_
        unfold cpt
        rw [if_neg (by omega), if_pos a1, show (sN 54).length = 5 from rfl]; omega
def xl (T : Txt) (i : Nat) : Nat := match T.root i with
  | none => 0
  | some p => (sEx T 43 p).length
theorem xl_sum {T : Txt} (ok : TOk T) : sm (xl T) T.nn ≤ CP T := by
  obtain ⟨rs, R⟩ := ok.R
  have a := sm_list (F := fun r => (sEx T 43 r.2.1).length) (n := T.nn) rs (xl T) (fun i hi hp => by
    cases hr : T.root i with
    | none => unfold xl at hp; rw [hr] at hp; exact absurd hp (Nat.lt_irrefl 0)
    | some p =>
      obtain ⟨m, hm, e⟩ := R.ro i hi p hr
      refine ⟨(i, m), hm, rfl, ?_⟩
      unfold xl
      rw [hr]
      show (sEx T 43 p).length ≤ (sEx T 43 m.1).length
      rw [e]; exact Nat.le_refl _)
  have b := inc_sum (g := cpt T) (L := fun m => (sEx T 43 m.1).length) (np := T.np) (rs.map Prod.snd) 0 R.ic (fun m hm => by
    obtain ⟨r, hr, e⟩ := List.mem_map.mp hm
    have := sEx_len _ _ _ _ _ (R.ex r hr)
    rw [e] at this
    show (sEx T 43 m.1).length + _ ≤ _
    omega)
  rw [List.map_map] at b
  have e : (rs.map ((fun m : Mb => (sEx T 43 m.1).length) ∘ Prod.snd)).sum = (rs.map (fun r => (sEx T 43 r.2.1).length)).sum := rfl
  rw [e] at b
  unfold CP
  omega
theorem sFor_len {T : Txt} {i : Nat} : (sFor T i).length = xl T i + (if (T.root i).isSome then 5 else 0) := by
  unfold sFor xl
  cases T.root i with
  | none => rfl
  | some p =>
    show (sN 41 ++ sEx T 43 p).length = (sEx T 43 p).length + 5
    rw [List.length_append, show (sN 41).length = 5 from rfl]; omega
def dS (T : Txt) (i d : Nat) : Nat := if T.dof d = i then dct T d + 29 else 0
theorem blk_lx (n : Nat) : (blk n).length = n := by unfold blk; exact List.length_replicate
theorem sDs_len {T : Txt} {i e : Nat} (hs : T.srt i = 2) (he : e ≤ 20) : ∀ n d, (sDs T i e n d).length + sm (dS T i) d ≤ sm (dS T i) (d + n) := by
  intro n
  induction n with
  | zero => intro d; show 0 + sm _ d ≤ _; rw [Nat.zero_add]; exact Nat.le_refl _
  | succ n ih =>
    intro d
    have a := ih (d + 1)
    rw [sm, show d + 1 + n = d + (n + 1) by omega] at a
    rw [sDs]
    by_cases q : T.dof d = i
    · rw [if_pos q]
      have ed : dS T i d = 19 + (wd (if T.dfor d = 1 then 6 else 7)).length + (sNum (T.dnum d)).length + 29 := by
        unfold dS dct
        rw [if_pos q, q, if_pos hs]
      simp only [List.length_append, List.length_cons, blk_lx]
      rw [show (wd 9).length = 4 from rfl, show (sN 59).length = 2 from rfl]
      omega
    · rw [if_neg q]; omega
theorem sDr_len {T : Txt} {i : Nat} (hs : T.srt i ≠ 2) : ∀ n d b, (sDr T i n d b).length + sm (dS T i) d ≤ sm (dS T i) (d + n) := by
  intro n
  induction n with
  | zero => intro d b; show 0 + sm _ d ≤ _; rw [Nat.zero_add]; exact Nat.le_refl _
  | succ n ih =>
    intro d b
    have a := fun b => ih (d + 1) b
    rw [sm, show d + 1 + n = d + (n + 1) by omega] at a
    rw [sDr]
    by_cases q : T.dof d = i
    · rw [if_pos q]
      have ed : dS T i d = 2 + (sNum (T.dnum d)).length + 29 := by
        unfold dS dct
        rw [if_pos q, q, if_neg hs]
      have lb : (if b = true then sN 49 else sN 58).length ≤ 6 := by cases b <;> decide
      have := a true
      rw [List.length_append, List.length_append]
      omega
    · rw [if_neg q]
      have := a b
      omega
def nW (T : Txt) (i : Nat) : Nat := (ncs T i + 68) + (xl T i + sm (dS T i) T.nd)
theorem node_len {T : Txt} (ok : TOk T) (D : TDp T) {i : Nat} (hi : i < T.nn) : 2 * dO T (T.fa i) + (sNode T i (dO T (T.fa i))).length + (if T.srt i = 2 then 2 * dO T (T.fa i) + 2 else 0) ≤ nW T i := by
  obtain ⟨f1, f2⟩ := fa_dp ok hi
  unfold nW ncs sNode
  by_cases q : T.srt i = 2
  · obtain ⟨n, h1, h2⟩ := D.s i hi q
    have ed := dO_of h2 (by omega)
    have ds := sDs_len (T := T) (i := i) (e := dO T (T.fa i) + 1) q (by omega) T.nd 0
    rw [Nat.zero_add] at ds
    have z0 : sm (dS T i) 0 = 0 := rfl
    rw [if_pos q, if_pos q, if_pos q]
    unfold sSet nnS
    simp only [List.length_append, List.length_cons, sNm_len, sFor_len]
    rw [show (wd 4).length = 3 from rfl, show (sN 61).length = 3 from rfl]
    omega
  · have ds := sDr_len (T := T) (i := i) q T.nd 0 false
    rw [Nat.zero_add] at ds
    have z0 : sm (dS T i) 0 = 0 := rfl
    have nl : (if 0 < T.nnl i then 32 :: nnS T i else []).length = (if 0 < T.nnl i then 1 + T.nnl i else 0) := by
      split
      · rw [List.length_cons]; unfold nnS; rw [sNm_len]; omega
      · rfl
    rw [if_neg q, if_neg q, if_neg q]
    unfold sRul
    simp only [List.length_append, sFor_len]
    rw [nl, show (sN 59).length = 2 from rfl]
    omega
theorem sCls_1 (d : Nat) : (sCls (d + 1) (d + 1)).length = 2 * d + 2 + (sCls d d).length := by
  rw [sCls, Nat.add_sub_cancel, List.length_append, List.length_append, blk_lx, show (sN 60).length = 2 from rfl]; omega
theorem sCls_2 (E : Nat) : ∀ m, (sCls m (E + m)).length + (sCls E E).length = (sCls (E + m) (E + m)).length := by
  intro m
  induction m with
  | zero => show 0 + _ = _; rw [Nat.zero_add]; rfl
  | succ m ih =>
    have a := sCls_1 (E + m)
    rw [← Nat.add_assoc, a, sCls, Nat.add_sub_cancel, List.length_append, List.length_append, blk_lx, show (sN 60).length = 2 from rfl]; omega
theorem Dp_ij {fa : Nat → Option Nat} : ∀ n o m, Dp fa o n → Dp fa o m → n = m := by
  intro n
  induction n with
  | zero =>
    intro o m h1 h2
    cases m with
    | zero => rfl
    | succ m => obtain ⟨a, ha, _⟩ := h2; rw [show o = none from h1] at ha; cases ha
  | succ n ihn =>
    intro o m h1 h2
    obtain ⟨a, rfl, h1⟩ := h1
    cases m with
    | zero => cases (show some a = none from h2)
    | succ m => obtain ⟨b, hb, h2⟩ := h2; cases hb; rw [ihn _ _ h1 h2]
theorem nds_len {T : Txt} (ok : TOk T) (D : TDp T) : ∀ n k, k + n = T.nn → (sNds T n k (opn T k)).length + sm (nW T) k ≤ (sCls (dO T (opn T k)) (dO T (opn T k))).length + sm (nW T) T.nn := by
  intro n
  induction n with
  | zero =>
    intro k hk
    rw [show k = T.nn by omega]
    exact Nat.le_refl _
  | succ n ih =>
    intro k hk
    obtain ⟨d1, d2, d3⟩ := opn_dp ok D (k := k) (by omega)
    obtain ⟨m, hm⟩ := opn_pt ok (k := k) (by omega)
    obtain ⟨f1, f2⟩ := fa_dp ok (k := k) (by omega)
    have em := Dp_ij _ _ _ d1 (PtO.dp _ _ _ _ hm f1)
    have c2 := sCls_2 (dO T (T.fa k)) m
    have nl := node_len ok D (i := k) (by omega)
    have a := ih (k + 1) (by omega)
    rw [sm] at a
    have eo : opn T (k + 1) = if T.srt k = 2 then some k else T.fa k := rfl
    rw [← em] at c2
    rw [sNds, ← eo, show dO T (opn T k) - dO T (T.fa k) = m by omega, List.length_append, List.length_append, List.length_append, blk_lx]
    by_cases z : T.srt k = 2
    · have ed : dO T (opn T (k + 1)) = dO T (T.fa k) + 1 := by rw [eo, if_pos z]; exact dO_of ⟨k, rfl, f1⟩ (by omega)
      rw [ed, sCls_1] at a
      rw [if_pos z] at nl
      omega
    · have ed : dO T (opn T (k + 1)) = dO T (T.fa k) := by rw [eo, if_neg z]
      rw [ed] at a
      rw [if_neg z] at nl
      omega
theorem sAtt_len {T : Txt} (A : AI T) {i : Nat} (hi : i < T.na) : (sAtt T i).length ≤ 31 := by
  have l := (A.l i hi).2
  have n := sNum_len (v := T.asz i) (w := 1) (by have := (A.z i hi).2; omega) (by omega) (by omega)
  have b1 : (if T.amany i = true then 32 :: wd 2 else []).length ≤ (32 :: wd 2).length := by split <;> simp
  have b2 : (if T.amust i = true then 32 :: wd 3 else []).length ≤ (32 :: wd 3).length := by split <;> simp
  have b3 : (32 :: wd 2).length + (32 :: wd 3).length + (wd 1).length ≤ 14 := by decide
  unfold sAtt anS
  simp only [List.length_append, List.length_cons, sNm_len]
  rw [show (sN 59).length = 2 from rfl]
  omega
theorem sAts_len {T : Txt} (A : AI T) : ∀ n i, i + n = T.na → (sAts T n i).length ≤ 31 * n := by
  intro n
  induction n with
  | zero => intro i _; exact Nat.le_refl _
  | succ n ih =>
    intro i hi
    have a := ih (i + 1) (by omega)
    have b := sAtt_len A (i := i) (by omega)
    rw [sAts, List.length_append]; omega
theorem sAll_len {T : Txt} (ok : TOk T) (D : TDp T) (hc : PD T ≤ 12040) : (sAll T).length ≤ 22000 := by
  have a := sAts_len ok.A T.na 0 (by omega)
  have a1 := ok.A.n
  have b := nds_len ok D T.nn 0 (by omega)
  have b0 : (sCls (dO T (opn T 0)) (dO T (opn T 0))).length = 0 := rfl
  have b1 : sm (nW T) 0 = 0 := rfl
  have b2 : opn T 0 = none := rfl
  rw [b0, b1, b2] at b
  have c : sm (nW T) T.nn = (sm (ncs T) T.nn + sm (fun _ => 68) T.nn) + (sm (xl T) T.nn + sm (fun i => sm (dS T i) T.nd) T.nn) := by
    rw [← sm_add, ← sm_add, ← sm_add]; rfl
  have d : sm (fun i => sm (dS T i) T.nd) T.nn ≤ sm (fun d => dct T d + 29) T.nd := sm_sw T.nd
  have e : sm (fun d => dct T d + 29) T.nd = sm (dct T) T.nd + sm (fun _ => 29) T.nd := sm_add T.nd
  rw [sm_c] at c e
  have x := xl_sum ok
  have n1 := ok.W.n
  have n2 := ok.D.n
  unfold PD fdt at hc
  unfold sAll
  rw [List.length_append]
  omega
theorem TO.cst {T : Txt} (h : TO T) : PD T ≤ 12040 ∧ TDp T := by
  obtain ⟨b, n, s, hn, hb, e, rfl⟩ := h
  have h1 := fText_c (k := tkOf b n) (TL_of b n) (KI_of hb)
  rw [e] at h1
  obtain ⟨w, p⟩ := (show PD s.T ≤ 2 * n + 40 ∧ TDp s.T from h1)
  exact ⟨by omega, p⟩
theorem TO.dp {T : Txt} (h : TO T) : TDp T := h.cst.2
theorem TO.len {T : Txt} (h : TO T) : (sAll T).length ≤ 22000 := sAll_len h.ok h.cst.2 h.cst.1
/-! THE BYTES of the print. -/
def Bt (l : List Nat) : Prop := ∀ c, c ∈ l → c < 256
theorem Bt.nil : Bt [] := fun c hc => by cases hc
theorem Bt.app {a b : List Nat} (h1 : Bt a) (h2 : Bt b) : Bt (a ++ b) := fun c hc => by
  rcases List.mem_append.mp hc with h | h
  · exact h1 c h
  · exact h2 c h
theorem Bt.cons {x : Nat} {l : List Nat} (h1 : x < 256) (h2 : Bt l) : Bt (x :: l) := fun c hc => by
  rcases List.mem_cons.mp hc with h | h
  · rw [h]; exact h1
  · exact h2 c h
theorem Bt.ite {p : Prop} [Decidable p] {a b : List Nat} (h1 : Bt a) (h2 : Bt b) : Bt (if p then a else b) := by
  split
  · exact h1
  · exact h2
theorem sN_bt (id : Nat) : Bt (sN id) := by
  have h : sX.all (fun l => l.all (fun x => decide (x.toNatClampNeg < 256))) = true := by decide +kernel
  intro c hc
  unfold sN at hc
  obtain ⟨x, hx, e⟩ := List.mem_map.mp hc
  by_cases q : id < sX.length
  · rw [List.getD_eq_getElem?_getD, List.getElem?_eq_getElem q] at hx
    have h1 := List.all_eq_true.mp h _ (List.getElem_mem q)
    have h2 := List.all_eq_true.mp h1 x hx
    rw [decide_eq_true_eq] at h2
    rw [← e]; exact h2
  · rw [List.getD_eq_getElem?_getD, List.getElem?_eq_none (by omega)] at hx
    cases hx
theorem spG_bt (w : Nat) : Bt (spN.getD w []) := by
  have h : spN.all (fun l => l.all (fun x => decide (x < 256))) = true := by decide +kernel
  intro c hc
  by_cases q : w < spN.length
  · rw [List.getD_eq_getElem?_getD, List.getElem?_eq_getElem q] at hc
    have h1 := List.all_eq_true.mp h _ (List.getElem_mem q)
    have h2 := List.all_eq_true.mp h1 c hc
    rw [decide_eq_true_eq] at h2
    exact h2
  · rw [List.getD_eq_getElem?_getD, List.getElem?_eq_none (by omega)] at hc
    cases hc
theorem wd_bt (w : Nat) : Bt (wd w) := by
  unfold wd
  exact Bt.ite (Bt.cons (by omega) Bt.nil) (Bt.ite (Bt.cons (by omega) Bt.nil) (Bt.ite (Bt.cons (by omega) Bt.nil) (spG_bt w)))
theorem sNum_bt {v : Nat} (h : v < 1000) : Bt (sNum v) := by
  unfold sNum
  exact (Bt.ite (Bt.cons (by omega) Bt.nil) Bt.nil).app ((Bt.ite (Bt.cons (by omega) Bt.nil) Bt.nil).app (Bt.cons (by omega) Bt.nil))
theorem sNm_bt {n : Nat} {nm : Nat → Nat} (h : ∀ j, nm j < 256) : Bt (sNm n nm) := fun c hc => by
  unfold sNm at hc
  obtain ⟨x, _, e⟩ := List.mem_map.mp hc
  rw [← e]; exact h x
theorem slL_bt {m : Nat} : ∀ n v b, v + n ≤ 8 → Bt (slL m n v b) := by
  intro n
  induction n with
  | zero => intro v b _; exact Bt.cons (by omega) Bt.nil
  | succ n ih =>
    intro v b h
    rw [slL]
    exact Bt.ite ((Bt.ite (Bt.cons (by omega) (Bt.cons (by omega) Bt.nil)) Bt.nil).app ((sNum_bt (by omega)).app (ih _ _ (by omega)))) (ih _ _ (by omega))
theorem sLs_bt (m : Nat) : Bt (sLs m) := Bt.cons (by omega) (slL_bt 8 0 false (by omega))
theorem blk_bt (n : Nat) : Bt (blk n) := fun c hc => by
  unfold blk at hc
  rw [List.eq_of_mem_replicate hc]; omega
theorem anS_bt {T : Txt} (A : AI T) (a : Nat) : Bt (anS T a) := sNm_bt (A.b a)
theorem sTst_bt {T : Txt} (A : AI T) {p : Nat} (h : leafOk T p) (h2 : ¬ (T.pk p = 13 ∨ T.pk p = 14 ∨ T.pk p = 15)) : Bt (sTst T p) := by
  refine (anS_bt A _).app (Bt.cons (by omega) ((wd_bt _).app ?_))
  unfold tlS
  by_cases q1 : T.pk p = 17 ∨ T.pk p = 18
  · rw [if_pos q1]; exact Bt.cons (by omega) (sLs_bt _)
  · rw [if_neg q1]
    by_cases q2 : T.pk p = 19
    · rw [if_pos q2]; exact Bt.cons (by omega) (anS_bt A _)
    · rw [if_neg q2]
      by_cases q3 : T.pk p = 21
      · rw [if_pos q3]; exact Bt.nil
      · rw [if_neg q3]
        refine Bt.cons (by omega) (sNum_bt ?_)
        rcases h with h | ⟨h, h5⟩
        · exact absurd h h2
        · have := (A.z _ h).2
          omega
theorem sBr_bt {b : Bool} {l : List Nat} (h : Bt l) : Bt (sBr b l) := Bt.ite (Bt.cons (by omega) (h.app (Bt.cons (by omega) Bt.nil))) h
theorem sJs_bt {s : List Nat} (hs : Bt s) (xs : List (List Nat)) (h : ∀ x, x ∈ xs → Bt x) : Bt (sJs s xs) := by
  cases xs with
  | nil => exact Bt.nil
  | cons x r =>
    rw [sJs]
    refine (h x (List.mem_cons_self ..)).app (fun c hc => ?_)
    obtain ⟨y, hy, hc⟩ := List.mem_flatMap.mp hc
    exact (hs.app (h y (List.mem_cons_of_mem _ hy))) c hc
theorem sEx_bt {T : Txt} (A : AI T) : ∀ (h lo hi p : Nat) (seg : List Nat), EX T h lo hi p seg → Bt (sEx T h p) := by
  intro h
  induction h with
  | zero => intro lo hi p seg e; exact e.elim
  | succ h ih =>
    intro lo hi p seg e
    obtain ⟨e1, e2, e3⟩ := e
    rcases e3 with ⟨lf, _⟩ | ⟨a1, a2, c, lo', hi', sg, a3, a4, a5, a6, a7, _⟩ | ⟨a1, ms, a2, a3, a4, a5, _⟩
    · have n1 : T.pk p ≠ 10 ∧ T.pk p ≠ 11 ∧ T.pk p ≠ 12 ∧ T.pk p ≠ 128 := by unfold leafOk at lf; omega
      rw [sEx, if_neg n1.1, if_neg n1.2.1, if_neg n1.2.2.1]
      by_cases q : T.pk p = 13 ∨ T.pk p = 14 ∨ T.pk p = 15
      · rw [if_pos q]; exact wd_bt _
      · rw [if_neg q]; exact sTst_bt A lf q
    · rw [sEx, if_neg (by omega), if_neg (by omega), if_pos a1, a3]
      exact (sN_bt _).app (sBr_bt (ih _ _ _ _ a7))
    · have jn : ∀ (w : Nat) (s : List Nat), Bt s → Bt (sJs s ((walk T (T.pj p) (T.pf p)).map (fun c => sBr (brk w (T.pk c)) (sEx T h c)))) := by
        intro w s hs
        rw [← a3, walk_chn ms _ _ a4]
        refine sJs_bt hs _ (fun x hx => ?_)
        obtain ⟨c, hc, rfl⟩ := List.mem_map.mp hx
        obtain ⟨m, hm, rfl⟩ := List.mem_map.mp hc
        exact sBr_bt (ih _ _ _ _ (a5 m hm).2.2)
      rcases a1 with a1 | a1
      · rw [sEx, if_pos a1]; exact jn 10 _ (sN_bt _)
      · rw [sEx, if_neg (by omega), if_pos a1]; exact jn 11 _ (sN_bt _)
theorem sFor_bt {T : Txt} (ok : TOk T) {i : Nat} (hi : i < T.nn) : Bt (sFor T i) := by
  unfold sFor
  cases hr : T.root i with
  | none => exact Bt.nil
  | some p =>
    obtain ⟨lo, hh, seg, ex, _⟩ := root_ex ok hi hr
    exact (sN_bt _).app (sEx_bt ok.A _ _ _ _ _ ex)
theorem sDs_bt {T : Txt} (D : DI T) {i e : Nat} : ∀ n d, d + n = T.nd → Bt (sDs T i e n d) := by
  intro n
  induction n with
  | zero => intro d _; exact Bt.nil
  | succ n ih =>
    intro d h
    have a := ih (d + 1) (by omega)
    rw [sDs]
    exact Bt.ite ((blk_bt _).app ((wd_bt _).app (Bt.cons (by omega) ((wd_bt _).app (Bt.cons (by omega) ((sNum_bt (D.v d (by omega))).app ((sN_bt _).app a))))))) a
theorem sDr_bt {T : Txt} (D : DI T) {i : Nat} : ∀ n d b, d + n = T.nd → Bt (sDr T i n d b) := by
  intro n
  induction n with
  | zero => intro d b _; exact Bt.nil
  | succ n ih =>
    intro d b h
    rw [sDr]
    exact Bt.ite ((Bt.ite (sN_bt _) (sN_bt _)).app ((sNum_bt (D.v d (by omega))).app (ih (d + 1) true (by omega)))) (ih (d + 1) b (by omega))
theorem sNode_bt {T : Txt} (ok : TOk T) {i e : Nat} (hi : i < T.nn) : Bt (sNode T i e) := by
  have nb : Bt (nnS T i) := sNm_bt (ok.W.b i)
  unfold sNode sSet sRul
  exact Bt.ite ((wd_bt _).app (Bt.cons (by omega) (nb.app (Bt.cons (by omega) ((wd_bt _).app ((sFor_bt ok hi).app ((sN_bt _).app (sDs_bt ok.D T.nd 0 (by omega))))))))) ((wd_bt _).app ((Bt.ite (Bt.cons (by omega) nb) Bt.nil).app ((sFor_bt ok hi).app ((sDr_bt ok.D T.nd 0 false (by omega)).app (sN_bt _)))))
theorem sCls_bt : ∀ m d, Bt (sCls m d) := by
  intro m
  induction m with
  | zero => intro d; exact Bt.nil
  | succ m ih => intro d; exact (blk_bt _).app ((sN_bt _).app (ih _))
theorem sNds_bt {T : Txt} (ok : TOk T) : ∀ n k o, k + n = T.nn → Bt (sNds T n k o) := by
  intro n
  induction n with
  | zero => intro k o _; exact sCls_bt _ _
  | succ n ih =>
    intro k o h
    exact (sCls_bt _ _).app ((blk_bt _).app ((sNode_bt ok (by omega)).app (ih _ _ (by omega))))
theorem sAts_bt {T : Txt} (A : AI T) : ∀ n i, i + n = T.na → Bt (sAts T n i) := by
  intro n
  induction n with
  | zero => intro i _; exact Bt.nil
  | succ n ih =>
    intro i h
    have z := (A.z i (by omega)).2
    exact Bt.app ((wd_bt _).app (Bt.cons (by omega) ((anS_bt A _).app (Bt.cons (by omega) ((sNum_bt (by omega)).app ((Bt.ite (Bt.cons (by omega) (wd_bt _)) Bt.nil).app ((Bt.ite (Bt.cons (by omega) (wd_bt _)) Bt.nil).app (sN_bt _)))))))) (ih _ (by omega))
theorem TO.byt {T : Txt} (h : TO T) (j : Nat) : (sAll T).getD j 0 < 256 := by
  have b : Bt (sAll T) := (sAts_bt h.ok.A T.na 0 (by omega)).app (sNds_bt h.ok T.nn 0 none (by omega))
  by_cases q : j < (sAll T).length
  · rw [List.getD_eq_getElem?_getD, List.getElem?_eq_getElem q]
    exact b _ (List.getElem_mem q)
  · rw [List.getD_eq_getElem?_getD, List.getElem?_eq_none (by omega)]
    show 0 < 256
    omega
