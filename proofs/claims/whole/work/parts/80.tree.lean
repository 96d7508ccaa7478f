/-! WHAT AN EXPRESSION IS, behind its reading: trees in the rows of parts. -/
/-- all but the parts is as it was -/
def SN (T T' : Txt) : Prop := (T'.na = T.na) ∧ (T'.asz = T.asz) ∧ (T'.amany = T.amany) ∧ (T'.amust = T.amust) ∧ (T'.anl = T.anl) ∧ (T'.anm = T.anm) ∧ (T'.nn = T.nn) ∧ (T'.srt = T.srt) ∧ (T'.way = T.way) ∧ (T'.fa = T.fa) ∧ (T'.root = T.root) ∧ (T'.nnl = T.nnl) ∧ (T'.nnm = T.nnm) ∧ (T'.own = T.own) ∧ (T'.chn = T.chn) ∧ (T'.nxt = T.nxt) ∧ (T'.lst = T.lst) ∧ (T'.nd = T.nd) ∧ (T'.dnum = T.dnum) ∧ (T'.dof = T.dof) ∧ (T'.dfor = T.dfor)
theorem SN.na {T T' : Txt} (h : SN T T') : T'.na = T.na := h.1
theorem SN.asz {T T' : Txt} (h : SN T T') : T'.asz = T.asz := h.2.1
theorem SN.amany {T T' : Txt} (h : SN T T') : T'.amany = T.amany := h.2.2.1
theorem SN.amust {T T' : Txt} (h : SN T T') : T'.amust = T.amust := h.2.2.2.1
theorem SN.anl {T T' : Txt} (h : SN T T') : T'.anl = T.anl := h.2.2.2.2.1
theorem SN.anm {T T' : Txt} (h : SN T T') : T'.anm = T.anm := h.2.2.2.2.2.1
theorem SN.nn {T T' : Txt} (h : SN T T') : T'.nn = T.nn := h.2.2.2.2.2.2.1
theorem SN.srt {T T' : Txt} (h : SN T T') : T'.srt = T.srt := h.2.2.2.2.2.2.2.1
theorem SN.way {T T' : Txt} (h : SN T T') : T'.way = T.way := h.2.2.2.2.2.2.2.2.1
theorem SN.fa {T T' : Txt} (h : SN T T') : T'.fa = T.fa := h.2.2.2.2.2.2.2.2.2.1
theorem SN.root {T T' : Txt} (h : SN T T') : T'.root = T.root := h.2.2.2.2.2.2.2.2.2.2.1
theorem SN.nnl {T T' : Txt} (h : SN T T') : T'.nnl = T.nnl := h.2.2.2.2.2.2.2.2.2.2.2.1
theorem SN.nnm {T T' : Txt} (h : SN T T') : T'.nnm = T.nnm := h.2.2.2.2.2.2.2.2.2.2.2.2.1
theorem SN.own {T T' : Txt} (h : SN T T') : T'.own = T.own := h.2.2.2.2.2.2.2.2.2.2.2.2.2.1
theorem SN.chn {T T' : Txt} (h : SN T T') : T'.chn = T.chn := h.2.2.2.2.2.2.2.2.2.2.2.2.2.2.1
theorem SN.nxt {T T' : Txt} (h : SN T T') : T'.nxt = T.nxt := h.2.2.2.2.2.2.2.2.2.2.2.2.2.2.2.1
theorem SN.lst {T T' : Txt} (h : SN T T') : T'.lst = T.lst := h.2.2.2.2.2.2.2.2.2.2.2.2.2.2.2.2.1
theorem SN.nd {T T' : Txt} (h : SN T T') : T'.nd = T.nd := h.2.2.2.2.2.2.2.2.2.2.2.2.2.2.2.2.2.1
theorem SN.dnum {T T' : Txt} (h : SN T T') : T'.dnum = T.dnum := h.2.2.2.2.2.2.2.2.2.2.2.2.2.2.2.2.2.2.1
theorem SN.dof {T T' : Txt} (h : SN T T') : T'.dof = T.dof := h.2.2.2.2.2.2.2.2.2.2.2.2.2.2.2.2.2.2.2.1
theorem SN.dfor {T T' : Txt} (h : SN T T') : T'.dfor = T.dfor := h.2.2.2.2.2.2.2.2.2.2.2.2.2.2.2.2.2.2.2.2
theorem SN.refl {T : Txt} : SN T T := ⟨rfl, rfl, rfl, rfl, rfl, rfl, rfl, rfl, rfl, rfl, rfl, rfl, rfl, rfl, rfl, rfl, rfl, rfl, rfl, rfl, rfl⟩
theorem SN.trans {T T' T2 : Txt} (h : SN T T') (h2 : SN T' T2) : SN T T2 := ⟨h2.na.trans h.na, h2.asz.trans h.asz, h2.amany.trans h.amany, h2.amust.trans h.amust, h2.anl.trans h.anl, h2.anm.trans h.anm, h2.nn.trans h.nn, h2.srt.trans h.srt, h2.way.trans h.way, h2.fa.trans h.fa, h2.root.trans h.root, h2.nnl.trans h.nnl, h2.nnm.trans h.nnm, h2.own.trans h.own, h2.chn.trans h.chn, h2.nxt.trans h.nxt, h2.lst.trans h.lst, h2.nd.trans h.nd, h2.dnum.trans h.dnum, h2.dof.trans h.dof, h2.dfor.trans h.dfor⟩
/-- a part more -/
def AP (T T' : Txt) (kd : Nat) : Prop := (T'.np = T.np + 1) ∧ (T'.pk = up T.pk T.np kd) ∧ (T'.pa = up T.pa T.np 0) ∧ (T'.pnum = up T.pnum T.np 0) ∧ (T'.pj = up T.pj T.np 0) ∧ (T'.pf = up T.pf T.np none) ∧ (T'.pn = up T.pn T.np none) ∧ (T'.dn = T.dn) ∧ (SN T T')
theorem AP.np {T T' : Txt} {kd : Nat} (h : AP T T' kd) : T'.np = T.np + 1 := h.1
theorem AP.pk {T T' : Txt} {kd : Nat} (h : AP T T' kd) : T'.pk = up T.pk T.np kd := h.2.1
theorem AP.pa {T T' : Txt} {kd : Nat} (h : AP T T' kd) : T'.pa = up T.pa T.np 0 := h.2.2.1
theorem AP.pnum {T T' : Txt} {kd : Nat} (h : AP T T' kd) : T'.pnum = up T.pnum T.np 0 := h.2.2.2.1
theorem AP.pj {T T' : Txt} {kd : Nat} (h : AP T T' kd) : T'.pj = up T.pj T.np 0 := h.2.2.2.2.1
theorem AP.pf {T T' : Txt} {kd : Nat} (h : AP T T' kd) : T'.pf = up T.pf T.np none := h.2.2.2.2.2.1
theorem AP.pn {T T' : Txt} {kd : Nat} (h : AP T T' kd) : T'.pn = up T.pn T.np none := h.2.2.2.2.2.2.1
theorem AP.dn {T T' : Txt} {kd : Nat} (h : AP T T' kd) : T'.dn = T.dn := h.2.2.2.2.2.2.2.1
theorem AP.sn {T T' : Txt} {kd : Nat} (h : AP T T' kd) : SN T T' := h.2.2.2.2.2.2.2.2
theorem AP_of {T : Txt} {kd : Nat} : AP T (addPt T kd) kd := ⟨rfl, rfl, rfl, rfl, rfl, rfl, rfl, rfl, ⟨rfl, rfl, rfl, rfl, rfl, rfl, rfl, rfl, rfl, rfl, rfl, rfl, rfl, rfl, rfl, rfl, rfl, rfl, rfl, rfl, rfl⟩⟩
/-- a part without what lies behind it -/
def Pq (T T' : Txt) (i : Nat) : Prop := T'.pk i = T.pk i ∧ T'.pa i = T.pa i ∧ T'.pnum i = T.pnum i ∧ T'.pj i = T.pj i ∧ T'.pf i = T.pf i
theorem Pq.refl {T : Txt} {i : Nat} : Pq T T i := ⟨rfl, rfl, rfl, rfl, rfl⟩
theorem Pq.trans {T T' T2 : Txt} {i : Nat} (h : Pq T T' i) (h2 : Pq T' T2 i) : Pq T T2 i := ⟨h2.1.trans h.1, h2.2.1.trans h.2.1, h2.2.2.1.trans h.2.2.1, h2.2.2.2.1.trans h.2.2.2.1, h2.2.2.2.2.trans h.2.2.2.2⟩
/-- a constant or a test -/
def leafOk (T : Txt) (p : Nat) : Prop := (T.pk p = 13 ∨ T.pk p = 14 ∨ T.pk p = 15) ∨ (T.pa p < T.na ∧ (((T.pk p = 16 ∨ T.pk p = 20) ∧ T.pnum p < T.asz (T.pa p)) ∨ ((T.pk p = 17 ∨ T.pk p = 18) ∧ T.pnum p < 256) ∨ (T.pk p = 19 ∧ T.pnum p < T.na) ∨ ((T.pk p = 60 ∨ T.pk p = 61 ∨ T.pk p = 62) ∧ T.pnum p < 1000) ∨ T.pk p = 21))
/-- a member of a joint: the part, where its parts lie, how they are completed -/
abbrev Mb : Type := Nat × (Nat × Nat) × List Nat
/-- members, one behind the other -/
def chn (T : Txt) : Option Nat → Nat → List Mb → Prop
  | o, _, [] => o = none
  | o, lo, m :: l => o = some m.1 ∧ lo ≤ m.2.1.1 ∧ m.2.1.1 ≤ m.1 ∧ m.1 < m.2.1.2 ∧ chn T (T.pn m.1) m.2.1.2 l
def sgs : List Mb → List Nat
  | [] => []
  | m :: l => m.2.2 ++ sgs l
/-- part p is a tree of at most h steps, its parts from lo to hi, completed in the order seg -/
def EX (T : Txt) : Nat → Nat → Nat → Nat → List Nat → Prop
  | 0, _, _, _, _ => False
  | h + 1, lo, hi, p, seg => lo ≤ p ∧ p < hi ∧ ((leafOk T p ∧ seg = [p])
    ∨ (T.pk p = 12 ∧ T.pj p = 1 ∧ ∃ (c lo' hi' : Nat) (sg : List Nat), T.pf p = some c ∧ lo ≤ lo' ∧ hi' ≤ hi ∧ (p < lo' ∨ hi' ≤ p) ∧ EX T h lo' hi' c sg ∧ seg = sg ++ [p] ∧ T.pn c = none)
    ∨ ((T.pk p = 10 ∨ T.pk p = 11) ∧ ∃ ms : List Mb, 2 ≤ ms.length ∧ ms.length = T.pj p ∧ chn T (T.pf p) lo ms ∧ (∀ m, m ∈ ms → m.2.1.2 ≤ hi ∧ (p < m.2.1.1 ∨ m.2.1.2 ≤ p) ∧ EX T h m.2.1.1 m.2.1.2 m.1 m.2.2) ∧ seg = sgs ms ++ [p]))
theorem EX.in_ {T : Txt} {h lo hi p : Nat} {seg : List Nat} (e : EX T h lo hi p seg) : lo ≤ p ∧ p < hi := by
  cases h with
  | zero => exact e.elim
  | succ h => exact ⟨e.1, e.2.1⟩
theorem leafOk_fr {T T' : Txt} {p : Nat} (e : Pq T T' p) (hna : T'.na = T.na) (hz : T'.asz = T.asz) (h : leafOk T p) : leafOk T' p := by
  obtain ⟨e1, e2, e3, e4, e5⟩ := e
  unfold leafOk
  rw [e1, e2, e3, hna, hz]
  exact h
theorem chn_fr {T T' : Txt} : ∀ (ms : List Mb) (o : Option Nat) (lo : Nat), chn T o lo ms → (∀ m, m ∈ ms → T'.pn m.1 = T.pn m.1) → chn T' o lo ms := by
  intro ms
  induction ms with
  | nil => intro o lo h _; exact h
  | cons m l ih =>
    intro o lo h e
    obtain ⟨h1, h2, h3, h4, h5⟩ := h
    refine ⟨h1, h2, h3, h4, ih _ _ ?_ (fun m' hm' => e m' (List.mem_cons_of_mem _ hm'))⟩
    rw [e m (List.mem_cons_self ..)]
    exact h5
theorem chn_lo {T : Txt} : ∀ (ms : List Mb) (o : Option Nat) (lo : Nat), chn T o lo ms → ∀ m, m ∈ ms → lo ≤ m.2.1.1 ∧ m.2.1.1 ≤ m.1 ∧ m.1 < m.2.1.2 := by
  intro ms
  induction ms with
  | nil => intro o lo _ m hm; cases hm
  | cons x l ih =>
    intro o lo h m hm
    obtain ⟨h1, h2, h3, h4, h5⟩ := h
    rcases List.mem_cons.1 hm with rfl | hm
    · exact ⟨h2, h3, h4⟩
    · have := ih _ _ h5 m hm
      omega
/-- a tree stays one when nothing of it changes but what lies behind it -/
theorem EX_fr {T T' : Txt} (hna : T'.na = T.na) (hz : T'.asz = T.asz) : ∀ (h lo hi p : Nat) (seg : List Nat), EX T h lo hi p seg → (∀ i, lo ≤ i → i < hi → Pq T T' i) → (∀ i, lo ≤ i → i < hi → i ≠ p → T'.pn i = T.pn i) → EX T' h lo hi p seg := by
  intro h
  induction h with
  | zero => intro lo hi p seg e _ _; exact e.elim
  | succ h ih =>
    intro lo hi p seg e f g
    obtain ⟨e1, e2, e3⟩ := e
    have fp := f p e1 e2
    refine ⟨e1, e2, ?_⟩
    rcases e3 with ⟨a1, a2⟩ | ⟨a1, a2, c, lo', hi', sg, a3, a4, a5, a6, a7, a8⟩ | ⟨a1, ms, a2, a3, a4, a5, a6⟩
    · exact Or.inl ⟨leafOk_fr fp hna hz a1, a2⟩
    · refine Or.inr (Or.inl ⟨by rw [fp.1]; exact a1, by rw [fp.2.2.2.1]; exact a2, c, lo', hi', sg, by rw [fp.2.2.2.2]; exact a3, a4, a5, a6, ?_, a8.1, by have := EX.in_ a7; rw [g c (by omega) (by omega) (by omega)]; exact a8.2⟩)
      exact ih _ _ _ _ a7 (fun i h1 h2 => f i (by omega) (by omega)) (fun i h1 h2 _ => g i (by omega) (by omega) (by omega))
    · have hl := chn_lo ms _ _ a4
      refine Or.inr (Or.inr ⟨by rw [fp.1]; exact a1, ms, a2, by rw [fp.2.2.2.1]; exact a3, ?_, ?_, a6⟩)
      · rw [fp.2.2.2.2]
        refine chn_fr ms _ _ a4 (fun m hm => ?_)
        have h1 := hl m hm
        have h2 := a5 m hm
        exact g m.1 (by omega) (by omega) (by omega)
      · intro m hm
        have h1 := hl m hm
        obtain ⟨b1, b2, b3⟩ := a5 m hm
        exact ⟨b1, b2, ih _ _ _ _ b3 (fun i h3 h4 => f i (by omega) (by omega)) (fun i h3 h4 _ => g i (by omega) (by omega) (by omega))⟩
theorem chn_wide {T : Txt} (ms : List Mb) {o : Option Nat} {lo lo' : Nat} (h : chn T o lo ms) (hl : lo' ≤ lo) : chn T o lo' ms := by
  cases ms with
  | nil => exact h
  | cons m l =>
    obtain ⟨h1, h2, h3⟩ := h
    exact ⟨h1, by omega, h3⟩
theorem EX_wide {T : Txt} {h lo hi p lo' hi' : Nat} {seg : List Nat} (e : EX T h lo hi p seg) (hl : lo' ≤ lo) (hh : hi ≤ hi') : EX T h lo' hi' p seg := by
  cases h with
  | zero => exact e.elim
  | succ h =>
    obtain ⟨e1, e2, e3⟩ := e
    refine ⟨by omega, by omega, ?_⟩
    rcases e3 with a | ⟨a1, a2, c, l2, h2, sg, a3, a4, a5, a6, a7, a8⟩ | ⟨a1, ms, a2, a3, a4, a5, a6⟩
    · exact Or.inl a
    · exact Or.inr (Or.inl ⟨a1, a2, c, l2, h2, sg, a3, by omega, by omega, a6, a7, a8⟩)
    · refine Or.inr (Or.inr ⟨a1, ms, a2, a3, chn_wide ms a4 hl, fun m hm => ?_, a6⟩)
      obtain ⟨b1, b2, b3⟩ := a5 m hm
      exact ⟨by omega, b2, b3⟩
theorem EX_up {T : Txt} : ∀ (h lo hi p : Nat) (seg : List Nat), EX T h lo hi p seg → EX T (h + 1) lo hi p seg := by
  intro h
  induction h with
  | zero => intro lo hi p seg e; exact e.elim
  | succ h ih =>
    intro lo hi p seg e
    obtain ⟨e1, e2, e3⟩ := e
    refine ⟨e1, e2, ?_⟩
    rcases e3 with a | ⟨a1, a2, c, l2, h2, sg, a3, a4, a5, a6, a7, a8⟩ | ⟨a1, ms, a2, a3, a4, a5, a6⟩
    · exact Or.inl a
    · exact Or.inr (Or.inl ⟨a1, a2, c, l2, h2, sg, a3, a4, a5, a6, ih _ _ _ _ a7, a8⟩)
    · refine Or.inr (Or.inr ⟨a1, ms, a2, a3, a4, fun m hm => ?_, a6⟩)
      obtain ⟨b1, b2, b3⟩ := a5 m hm
      exact ⟨b1, b2, ih _ _ _ _ b3⟩
theorem EX_le {T : Txt} {h h' lo hi p : Nat} {seg : List Nat} (e : EX T h lo hi p seg) (hh : h ≤ h') : EX T h' lo hi p seg := by
  induction hh with
  | refl => exact e
  | step _ ih => exact EX_up _ _ _ _ _ ih
/-- parts below N as they were -/
def Lw (T T' : Txt) (N : Nat) : Prop := ∀ i, i < N → Pq T T' i ∧ T'.pn i = T.pn i
theorem Lw.trans {T T' T2 : Txt} {N : Nat} (h : Lw T T' N) (h2 : Lw T' T2 N) : Lw T T2 N := fun i hi => ⟨(h i hi).1.trans (h2 i hi).1, (h2 i hi).2.trans (h i hi).2⟩
theorem AP.lw {T T' : Txt} {kd : Nat} (h : AP T T' kd) : Lw T T' T.np := fun i hi => by
  refine ⟨⟨?_, ?_, ?_, ?_, ?_⟩, ?_⟩
  · rw [h.pk, up_n (by omega)]
  · rw [h.pa, up_n (by omega)]
  · rw [h.pnum, up_n (by omega)]
  · rw [h.pj, up_n (by omega)]
  · rw [h.pf, up_n (by omega)]
  · rw [h.pn, up_n (by omega)]
