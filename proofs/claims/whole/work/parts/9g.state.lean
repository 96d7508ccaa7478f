/-! THE STATE: what both sides hold, and what a call asks of each. -/
def Tx : Type := (Bool) × (Txt) × (Nat → Nat) × (Bool) × (Nat → Nat)
abbrev Tx.p (x : Tx) : Bool := x.1
abbrev Tx.T (x : Tx) : Txt := x.2.1
abbrev Tx.g (x : Tx) : Nat → Nat := x.2.2.1
abbrev Tx.jd (x : Tx) : Bool := x.2.2.2.1
abbrev Tx.gd (x : Tx) : Nat → Nat := x.2.2.2.2
abbrev Tx.s_p (x : Tx) (v : Bool) : Tx := (v, x.2)
abbrev Tx.s_T (x : Tx) (v : Txt) : Tx := (x.1, v, x.2.2)
abbrev Tx.s_g (x : Tx) (v : Nat → Nat) : Tx := (x.1, x.2.1, v, x.2.2.2)
abbrev Tx.s_jd (x : Tx) (v : Bool) : Tx := (x.1, x.2.1, x.2.2.1, v, x.2.2.2.2)
abbrev Tx.s_gd (x : Tx) (v : Nat → Nat) : Tx := (x.1, x.2.1, x.2.2.1, x.2.2.2.1, v)
def Sx : Type := (Nat → Nat) × (Nat) × (Nat) × (Nat → Tx) × (Bool) × (Nat → Nat) × (Nat) × (Nat → Nat) × (Nat) × (Nat → Nat)
abbrev Sx.b (x : Sx) : Nat → Nat := x.1
abbrev Sx.n (x : Sx) : Nat := x.2.1
abbrev Sx.fk (x : Sx) : Nat := x.2.2.1
abbrev Sx.x (x : Sx) : Nat → Tx := x.2.2.2.1
abbrev Sx.cm (x : Sx) : Bool := x.2.2.2.2.1
abbrev Sx.tl (x : Sx) : Nat → Nat := x.2.2.2.2.2.1
abbrev Sx.wn (x : Sx) : Nat := x.2.2.2.2.2.2.1
abbrev Sx.wv (x : Sx) : Nat → Nat := x.2.2.2.2.2.2.2.1
abbrev Sx.pn (x : Sx) : Nat := x.2.2.2.2.2.2.2.2.1
abbrev Sx.pb (x : Sx) : Nat → Nat := x.2.2.2.2.2.2.2.2.2
abbrev Sx.s_b (x : Sx) (v : Nat → Nat) : Sx := (v, x.2)
abbrev Sx.s_n (x : Sx) (v : Nat) : Sx := (x.1, v, x.2.2)
abbrev Sx.s_fk (x : Sx) (v : Nat) : Sx := (x.1, x.2.1, v, x.2.2.2)
abbrev Sx.s_x (x : Sx) (v : Nat → Tx) : Sx := (x.1, x.2.1, x.2.2.1, v, x.2.2.2.2)
abbrev Sx.s_cm (x : Sx) (v : Bool) : Sx := (x.1, x.2.1, x.2.2.1, x.2.2.2.1, v, x.2.2.2.2.2)
abbrev Sx.s_tl (x : Sx) (v : Nat → Nat) : Sx := (x.1, x.2.1, x.2.2.1, x.2.2.2.1, x.2.2.2.2.1, v, x.2.2.2.2.2.2)
abbrev Sx.s_wn (x : Sx) (v : Nat) : Sx := (x.1, x.2.1, x.2.2.1, x.2.2.2.1, x.2.2.2.2.1, x.2.2.2.2.2.1, v, x.2.2.2.2.2.2.2)
abbrev Sx.s_wv (x : Sx) (v : Nat → Nat) : Sx := (x.1, x.2.1, x.2.2.1, x.2.2.2.1, x.2.2.2.2.1, x.2.2.2.2.2.1, x.2.2.2.2.2.2.1, v, x.2.2.2.2.2.2.2.2)
abbrev Sx.s_pn (x : Sx) (v : Nat) : Sx := (x.1, x.2.1, x.2.2.1, x.2.2.2.1, x.2.2.2.2.1, x.2.2.2.2.2.1, x.2.2.2.2.2.2.1, x.2.2.2.2.2.2.2.1, v, x.2.2.2.2.2.2.2.2.2)
abbrev Sx.s_pb (x : Sx) (v : Nat → Nat) : Sx := (x.1, x.2.1, x.2.2.1, x.2.2.2.1, x.2.2.2.2.1, x.2.2.2.2.2.1, x.2.2.2.2.2.2.1, x.2.2.2.2.2.2.2.1, x.2.2.2.2.2.2.2.2.1, v)
/-- the text was read from some tape -/
def TO (T : Txt) : Prop := ∃ (b : Nat → Nat) (n : Nat) (s : PS), n ≤ 6000 ∧ (∀ j, b j < 256) ∧ fText (tkOf b n) tx0 = .ok s ∧ s.T = T
def TOk (T : Txt) : Prop := (AI T) ∧ (NI T) ∧ (DI T) ∧ (WI T T.nn) ∧ (∃ rs, RI T rs) ∧ (0 < T.nn) ∧ (∀ i, i < T.nn → ∃ n, n ≤ 20 ∧ Dp T.fa (T.fa i) n)
theorem TOk.A {T : Txt} (h : TOk T) : AI T := h.1
theorem TOk.N {T : Txt} (h : TOk T) : NI T := h.2.1
theorem TOk.D {T : Txt} (h : TOk T) : DI T := h.2.2.1
theorem TOk.W {T : Txt} (h : TOk T) : WI T T.nn := h.2.2.2.1
theorem TOk.R {T : Txt} (h : TOk T) : ∃ rs, RI T rs := h.2.2.2.2.1
theorem TOk.p {T : Txt} (h : TOk T) : 0 < T.nn := h.2.2.2.2.2.1
theorem TOk.d {T : Txt} (h : TOk T) : ∀ i, i < T.nn → ∃ n, n ≤ 20 ∧ Dp T.fa (T.fa i) n := h.2.2.2.2.2.2
theorem KI_of {b : Nat → Nat} {n : Nat} (hb : ∀ j, b j < 256) : KI (tkOf b n) := by
  have key : ∀ j, (tkOf b n).k j = 130 ∨ j < (tkOf b n).n := by
    intro j
    by_cases h : j < (toks b n).length
    · exact Or.inr h
    · left
      show ((toks b n).getD j (130, n, 0)).1 = 130
      rw [List.getD_eq_getElem?_getD, List.getElem?_eq_none (by omega)]
      rfl
  refine ⟨?_, ?_, hb⟩
  · intro j hj
    rcases key j with h | h
    · omega
    · exact tk_num h hj
  · intro j hj
    rcases key j with h | h
    · omega
    · rcases tk_cases b n h with ⟨_, e, _⟩ | ⟨_, e⟩
      · omega
      · have := e.nm hj
        exact ⟨this.2.1, this.1⟩
theorem TO.ok {T : Txt} (h : TO T) : TOk T := by
  obtain ⟨b, n, s, hn, hb, e, rfl⟩ := h
  have h1 := fText_tw (k := tkOf b n) (KI_of hb)
  have h2 := fText_dl (k := tkOf b n)
  rw [e] at h1 h2
  obtain ⟨w, p⟩ := (show TW s.T.nn s ∧ 0 < s.T.nn from h1)
  exact ⟨w.A, w.N, w.D, w.W, w.R, p, h2⟩
def SO (S : Sx) : Prop := (∀ i, (S.x i).p = true → TO (S.x i).T) ∧ (∀ i j, (S.x i).g j < 256) ∧ (S.wn ≤ 8) ∧ (S.pn ≤ 22000) ∧ (∀ j, S.pb j < 256)
theorem SO.x {S : Sx} (h : SO S) : ∀ i, (S.x i).p = true → TO (S.x i).T := h.1
theorem SO.g {S : Sx} (h : SO S) : ∀ i j, (S.x i).g j < 256 := h.2.1
theorem SO.wn {S : Sx} (h : SO S) : S.wn ≤ 8 := h.2.2.1
theorem SO.pn {S : Sx} (h : SO S) : S.pn ≤ 22000 := h.2.2.2.1
theorem SO.pb {S : Sx} (h : SO S) : ∀ j, S.pb j < 256 := h.2.2.2.2
/-- where the class's texts lie -/
def PM (a b c : Nat) : Prop := (a = 11 ∧ b = 48 ∧ c = 84) ∨ (a = 11 ∧ b = 84 ∧ c = 48) ∨ (a = 48 ∧ b = 11 ∧ c = 84) ∨ (a = 48 ∧ b = 84 ∧ c = 11) ∨ (a = 84 ∧ b = 11 ∧ c = 48) ∨ (a = 84 ∧ b = 48 ∧ c = 11)
def TXC (M : aM) (t : Nat) (x : Tx) : Prop := (rI M t 0 = bI x.p) ∧ (x.p = true → rI M t 1 = bI x.jd) ∧ (x.p = true → RepC (cR M t) x.T x.g) ∧ (x.p = true → x.jd = true → VD M (t + 31) x.T x.gd 0) ∧ (x.p = true → x.jd = true → OW M (t + 31) (owedL x.T x.gd))
theorem TXC.p {M : aM} {t : Nat} {x : Tx} (h : TXC M t x) : rI M t 0 = bI x.p := h.1
theorem TXC.j {M : aM} {t : Nat} {x : Tx} (h : TXC M t x) : x.p = true → rI M t 1 = bI x.jd := h.2.1
theorem TXC.R {M : aM} {t : Nat} {x : Tx} (h : TXC M t x) : x.p = true → RepC (cR M t) x.T x.g := h.2.2.1
theorem TXC.v {M : aM} {t : Nat} {x : Tx} (h : TXC M t x) : x.p = true → x.jd = true → VD M (t + 31) x.T x.gd 0 := h.2.2.2.1
theorem TXC.o {M : aM} {t : Nat} {x : Tx} (h : TXC M t x) : x.p = true → x.jd = true → OW M (t + 31) (owedL x.T x.gd) := h.2.2.2.2
def CI (S : Sx) (M : aM) : Prop := (TpC S.b S.n M) ∧ (rI M 2 1 = nI S.fk) ∧ (PM (rR M 47 0) (rR M 47 1) (rR M 2 3)) ∧ (∀ i, i ≤ 1 → TXC M (rR M 47 i) (S.x i)) ∧ (rI M 120 0 = bI S.cm) ∧ (∀ j, j < 36 → rI M 121 j = nI (S.tl j)) ∧ (rI M 120 2 = nI S.wn) ∧ (∀ j, j < S.wn → rI M 122 j = nI (S.wv j)) ∧ (rI M 131 1 = nI S.pn) ∧ (∀ j, j < S.pn → rI M 132 j = nI (S.pb j)) ∧ (WO M 133)
theorem CI.tp {S : Sx} {M : aM} (h : CI S M) : TpC S.b S.n M := h.1
theorem CI.fk {S : Sx} {M : aM} (h : CI S M) : rI M 2 1 = nI S.fk := h.2.1
theorem CI.pm {S : Sx} {M : aM} (h : CI S M) : PM (rR M 47 0) (rR M 47 1) (rR M 2 3) := h.2.2.1
theorem CI.x {S : Sx} {M : aM} (h : CI S M) : ∀ i, i ≤ 1 → TXC M (rR M 47 i) (S.x i) := h.2.2.2.1
theorem CI.cm {S : Sx} {M : aM} (h : CI S M) : rI M 120 0 = bI S.cm := h.2.2.2.2.1
theorem CI.tl {S : Sx} {M : aM} (h : CI S M) : ∀ j, j < 36 → rI M 121 j = nI (S.tl j) := h.2.2.2.2.2.1
theorem CI.wn {S : Sx} {M : aM} (h : CI S M) : rI M 120 2 = nI S.wn := h.2.2.2.2.2.2.1
theorem CI.wv {S : Sx} {M : aM} (h : CI S M) : ∀ j, j < S.wn → rI M 122 j = nI (S.wv j) := h.2.2.2.2.2.2.2.1
theorem CI.pn {S : Sx} {M : aM} (h : CI S M) : rI M 131 1 = nI S.pn := h.2.2.2.2.2.2.2.2.1
theorem CI.pb {S : Sx} {M : aM} (h : CI S M) : ∀ j, j < S.pn → rI M 132 j = nI (S.pb j) := h.2.2.2.2.2.2.2.2.2.1
theorem CI.pw {S : Sx} {M : aM} (h : CI S M) : WO M 133 := h.2.2.2.2.2.2.2.2.2.2
def TXM (M : aM) (i : Nat) (x : Tx) : Prop := (rI M 138 i = bI x.p) ∧ (x.p = true → rI M 164 i = bI x.jd) ∧ (x.p = true → RepM (mR M i) x.T x.g) ∧ (x.p = true → x.jd = true → VM M i x.T x.gd 0) ∧ (x.p = true → x.jd = true → OM M i (owedL x.T x.gd))
theorem TXM.p {M : aM} {i : Nat} {x : Tx} (h : TXM M i x) : rI M 138 i = bI x.p := h.1
theorem TXM.j {M : aM} {i : Nat} {x : Tx} (h : TXM M i x) : x.p = true → rI M 164 i = bI x.jd := h.2.1
theorem TXM.R {M : aM} {i : Nat} {x : Tx} (h : TXM M i x) : x.p = true → RepM (mR M i) x.T x.g := h.2.2.1
theorem TXM.v {M : aM} {i : Nat} {x : Tx} (h : TXM M i x) : x.p = true → x.jd = true → VM M i x.T x.gd 0 := h.2.2.2.1
theorem TXM.o {M : aM} {i : Nat} {x : Tx} (h : TXM M i x) : x.p = true → x.jd = true → OM M i (owedL x.T x.gd) := h.2.2.2.2
def MI (S : Sx) (M : aM) : Prop := (TpM S.b S.n M) ∧ (BQ M) ∧ (∃ z, z ≤ 6000 ∧ rI M 136 36 = nI z) ∧ (rI M 136 32 = nI S.fk) ∧ (∀ i, i ≤ 1 → TXM M i (S.x i)) ∧ (rI M 136 51 = bI S.cm) ∧ (∀ j, j < 36 → rI M 177 j = nI (S.tl j)) ∧ ((rI M 136 54 = 0 ∧ S.wn = 0) ∨ (rI M 136 54 = 1 ∧ rI M 136 53 = nI S.wn)) ∧ (∀ j, j < S.wn → rI M 178 j = nI (S.wv j)) ∧ (rI M 136 60 = nI S.pn) ∧ (∀ j, j < S.pn → rI M 183 j = sx (S.pb j))
theorem MI.tp {S : Sx} {M : aM} (h : MI S M) : TpM S.b S.n M := h.1
theorem MI.bq {S : Sx} {M : aM} (h : MI S M) : BQ M := h.2.1
theorem MI.sz {S : Sx} {M : aM} (h : MI S M) : ∃ z, z ≤ 6000 ∧ rI M 136 36 = nI z := h.2.2.1
theorem MI.fk {S : Sx} {M : aM} (h : MI S M) : rI M 136 32 = nI S.fk := h.2.2.2.1
theorem MI.x {S : Sx} {M : aM} (h : MI S M) : ∀ i, i ≤ 1 → TXM M i (S.x i) := h.2.2.2.2.1
theorem MI.cm {S : Sx} {M : aM} (h : MI S M) : rI M 136 51 = bI S.cm := h.2.2.2.2.2.1
theorem MI.tl {S : Sx} {M : aM} (h : MI S M) : ∀ j, j < 36 → rI M 177 j = nI (S.tl j) := h.2.2.2.2.2.2.1
theorem MI.wn {S : Sx} {M : aM} (h : MI S M) : (rI M 136 54 = 0 ∧ S.wn = 0) ∨ (rI M 136 54 = 1 ∧ rI M 136 53 = nI S.wn) := h.2.2.2.2.2.2.2.1
theorem MI.wv {S : Sx} {M : aM} (h : MI S M) : ∀ j, j < S.wn → rI M 178 j = nI (S.wv j) := h.2.2.2.2.2.2.2.2.1
theorem MI.pn {S : Sx} {M : aM} (h : MI S M) : rI M 136 60 = nI S.pn := h.2.2.2.2.2.2.2.2.2.1
theorem MI.pb {S : Sx} {M : aM} (h : MI S M) : ∀ j, j < S.pn → rI M 183 j = sx (S.pb j) := h.2.2.2.2.2.2.2.2.2.2
theorem PM.t {a b c i : Nat} {M : aM} (h : PM a b c) (hi : i ≤ 1) (ha : rR M 47 0 = a) (hb : rR M 47 1 = b) : tOk (rR M 47 i) := by
  have : i = 0 ∨ i = 1 := by omega
  unfold tOk
  unfold PM at h
  rcases this with rfl | rfl <;> omega
theorem CI.t {S : Sx} {M : aM} (h : CI S M) {i : Nat} (hi : i ≤ 1) : tOk (rR M 47 i) := h.pm.t hi rfl rfl
theorem TXC.fr {M M' : aM} {t : Nat} {x : Tx} (h : TXC M t x) (e : ∀ c, c < 36 → rI M' (t + c) = rI M (t + c)) : TXC M' t x := by
  have e0 : rI M' t = rI M t := e 0 (by omega)
  refine ⟨by rw [e0]; exact h.p, fun z => by rw [e0]; exact h.j z, fun z => ?_, fun z y => ?_, fun z y => ?_⟩
  · exact RepC_congr (h.R z) (fun c hc => e c (by omega))
  · intro i h1 h2
    rw [show t + 31 + 1 = t + 32 from rfl, show t + 31 + 2 = t + 33 from rfl, show t + 31 + 3 = t + 34 from rfl, e _ (by omega), e _ (by omega), e _ (by omega)]
    exact h.v z y i h1 h2
  · have := h.o z y
    exact ⟨by rw [e _ (by omega)]; exact this.1, fun j hj => by rw [show t + 31 + 4 = t + 35 from rfl, e _ (by omega)]; exact this.2 j hj⟩
theorem TpC.fr {b : Nat → Nat} {n : Nat} {M M' : aM} (h : TpC b n M) (K : KOk (rK M')) (e : ∀ k, k < 136 → rI M' k = rI M k) : TpC b n M' :=
  ⟨K, by rw [e _ (by omega)]; exact h.len, h.ln, fun j hj => by rw [e _ (by omega)]; exact h.b j hj, fun j hj => by rw [e _ (by omega)]; exact h.b6 j hj, h.lb, h.ws.fr (e _ (by omega)) (e _ (by omega))⟩
abbrev Sx.tp (S : Sx) (b : Nat → Nat) (n fk : Nat) : Sx := (b, n, fk, S.2.2.2)
/-- all but the tape, the kind of fault and the fresh text stays -/
theorem CI.fr3 {S : Sx} {M M' : aM} {b : Nat → Nat} {n fk : Nat} (h : CI S M) (tp : TpC b n M') (hf : rI M' 2 1 = nI fk) (e : ∀ k, 11 ≤ k → k < 136 → (k < rR M 2 3 ∨ rR M 2 3 + 36 ≤ k) → rI M' k = rI M k) (r : ∀ k, k < 136 → rR M' k = rR M k) : CI (S.tp b n fk) M' := by
  have pm := h.pm
  have e9 : ∀ k, 120 ≤ k → k < 136 → rI M' k = rI M k := fun k h1 h2 => e k (by omega) h2 (by unfold PM at pm; omega)
  refine ⟨tp, hf, by rw [r _ (by omega), r _ (by omega)]; exact h.pm, fun i hi => ?_, by rw [e9 _ (by omega) (by omega)]; exact h.cm, fun j hj => by rw [e9 _ (by omega) (by omega)]; exact h.tl j hj, by rw [e9 _ (by omega) (by omega)]; exact h.wn, fun j hj => by rw [e9 _ (by omega) (by omega)]; exact h.wv j hj, by rw [e9 _ (by omega) (by omega)]; exact h.pn, fun j hj => by rw [e9 _ (by omega) (by omega)]; exact h.pb j hj, h.pw.fr (e9 _ (by omega) (by omega)) (e9 _ (by omega) (by omega))⟩
  rw [r _ (by omega)]
  refine (h.x i hi).fr (fun c hc => ?_)
  have hi2 : i = 0 ∨ i = 1 := by omega
  unfold PM at pm
  refine e _ ?_ ?_ ?_
  all_goals rcases hi2 with rfl | rfl <;> omega
theorem CI.fr {S : Sx} {M M' : aM} (h : CI S M) (K : KOk (rK M')) (e : ∀ k, k < 136 → rI M' k = rI M k) (r : ∀ k, k < 136 → rR M' k = rR M k) : CI S M' := h.fr3 (h.tp.fr K e) (by rw [e _ (by omega)]; exact h.fk) (fun k _ hk _ => e k hk) r
theorem RepM_cp {R R' : Nat → Nat → Int32} {T : Txt} {g g' : Nat → Nat} (h : RepM R T g) (e : ∀ c j, 3 ≤ c → c < 28 → c ≠ 7 → c ≠ 9 → j < szM c → R' c j = R c j) (e9 : ∀ j z, j < 1296 → R 9 j = sx z → z < 256 → R' 9 j = sx z) (hb : (∀ i j, T.anm i j < 256) ∧ ∀ i j, T.nnm i j < 256) (e7 : ∀ i, i < T.na → R' 7 i = nI (g' i)) : RepM R' T g' := by
  have l1 := h.lna
  have l2 := h.lnn
  have l3 := h.lnp
  have l4 := h.ldn
  have l5 := h.lnd
  refine ⟨?_, h.lna, ?_, h.lasz, ?_, ?_, e7, ?_, h.lanl, ?_, ?_, h.lnn, ?_, ?_, ?_, ?_, ?_, h.lnnl, ?_, ?_, h.lnp, ?_, ?_, ?_, ?_, ?_, ?_, ?_, h.ldn, ?_, h.lnd, ?_, ?_, ?_⟩
  · rw [e 3 0 (by omega) (by omega) (by omega) (by omega) (by decide)]; exact h.na
  · intro i hi; rw [e 4 i (by omega) (by omega) (by omega) (by omega) (show i < 8 by omega)]; exact h.asz i hi
  · intro i hi; rw [e 5 i (by omega) (by omega) (by omega) (by omega) (show i < 8 by omega)]; exact h.amany i hi
  · intro i hi; rw [e 6 i (by omega) (by omega) (by omega) (by omega) (show i < 8 by omega)]; exact h.amust i hi
  · intro i hi; rw [e 8 i (by omega) (by omega) (by omega) (by omega) (show i < 108 by omega)]; exact h.anl i hi
  · intro i hi j hj
    have := h.lanl i hi
    exact e9 _ _ (by omega) (h.anm i hi j hj) (hb.1 i j)
  · rw [e 10 0 (by omega) (by omega) (by omega) (by omega) (by decide)]; exact h.nn
  · intro i hi; rw [e 11 i (by omega) (by omega) (by omega) (by omega) (show i < 100 by omega)]; exact h.srt i hi
  · intro i hi; rw [e 12 i (by omega) (by omega) (by omega) (by omega) (show i < 100 by omega)]; exact h.way i hi
  · intro i hi; rw [e 13 i (by omega) (by omega) (by omega) (by omega) (show i < 100 by omega)]; exact h.fa i hi
  · intro i hi; rw [e 14 i (by omega) (by omega) (by omega) (by omega) (show i < 100 by omega)]; exact h.root i hi
  · intro i hi; rw [e 8 (8 + i) (by omega) (by omega) (by omega) (by omega) (show 8 + i < 108 by omega)]; exact h.nnl i hi
  · intro i hi j hj
    have := h.lnnl i hi
    exact e9 _ _ (by omega) (h.nnm i hi j hj) (hb.2 i j)
  · rw [e 15 0 (by omega) (by omega) (by omega) (by omega) (by decide)]; exact h.np
  · intro i hi; rw [e 16 i (by omega) (by omega) (by omega) (by omega) (show i < 400 by omega)]; exact h.pk i hi
  · intro i hi; rw [e 17 i (by omega) (by omega) (by omega) (by omega) (show i < 400 by omega)]; exact h.pa i hi
  · intro i hi; rw [e 18 i (by omega) (by omega) (by omega) (by omega) (show i < 400 by omega), e 19 i (by omega) (by omega) (by omega) (by omega) (show i < 400 by omega)]; exact h.pnum i hi
  · intro i hi; rw [e 20 i (by omega) (by omega) (by omega) (by omega) (show i < 400 by omega)]; exact h.pf i hi
  · intro i hi; rw [e 21 i (by omega) (by omega) (by omega) (by omega) (show i < 400 by omega)]; exact h.pn i hi
  · intro i hi; rw [e 22 i (by omega) (by omega) (by omega) (by omega) (show i < 400 by omega)]; exact h.dn i hi
  · rw [e 23 0 (by omega) (by omega) (by omega) (by omega) (by decide)]; exact h.cm
  · rw [e 24 0 (by omega) (by omega) (by omega) (by omega) (by decide)]; exact h.nd
  · intro i hi; rw [e 25 i (by omega) (by omega) (by omega) (by omega) (show i < 100 by omega)]; exact h.dof i hi
  · intro i hi; rw [e 26 i (by omega) (by omega) (by omega) (by omega) (show i < 100 by omega)]; exact h.dfor i hi
  · intro i hi; rw [e 27 i (by omega) (by omega) (by omega) (by omega) (show i < 100 by omega)]; exact h.dnum i hi
theorem dLo_no (c j : Nat) (h1 : 3 ≤ c) (h2 : c < 28) (h3 : j < 2 * szM c) : ¬ dLo (136 + c) j := by
  have : c = 3 ∨ (4 ≤ c ∧ c < 8) ∨ c = 8 ∨ c = 9 ∨ c = 10 ∨ (11 ≤ c ∧ c ≤ 14) ∨ c = 15 ∨ (16 ≤ c ∧ c < 23) ∨ c = 23 ∨ c = 24 ∨ 25 ≤ c := by omega
  unfold dLo
  rcases this with rfl | h | rfl | rfl | rfl | h | rfl | h | rfl | rfl | h
  · rw [show szM 3 = 1 from rfl] at h3; omega
  · rw [sz8 c h.2 h.1] at h3; omega
  · rw [show szM 8 = 108 from rfl] at h3; omega
  · rw [show szM 9 = 1296 from rfl] at h3; omega
  · rw [show szM 10 = 1 from rfl] at h3; omega
  · rw [sz100 c h2 (Or.inl h)] at h3; omega
  · rw [show szM 15 = 1 from rfl] at h3; omega
  · rw [sz400 c h.2 h.1] at h3; omega
  · rw [show szM 23 = 1 from rfl] at h3; omega
  · rw [show szM 24 = 1 from rfl] at h3; omega
  · rw [sz100 c h2 (Or.inr h)] at h3; omega
theorem TXM.fr0 {M M' : aM} {i : Nat} {x : Tx} (h : TXM M i x) (e : ∀ k, 138 ≤ k → k < 176 → rI M' k = rI M k) : TXM M' i x := by
  refine ⟨by rw [e _ (by omega) (by omega)]; exact h.p, fun z => by rw [e _ (by omega) (by omega)]; exact h.j z, fun z => ?_, fun z y => ?_, fun z y => ?_⟩
  · refine RepM_congr (h.R z) (fun c h1 h2 => ?_)
    funext j
    unfold mR
    rw [if_neg (by omega), if_neg (by omega), e _ (by omega) (by omega)]
  · intro j h1 h2
    rw [e _ (by omega) (by omega), e _ (by omega) (by omega)]
    exact h.v z y j h1 h2
  · have := h.o z y
    exact ⟨by rw [e _ (by omega) (by omega)]; exact this.1, fun j hj => by rw [e _ (by omega) (by omega)]; exact this.2 j hj⟩
theorem TXM.frx {M M' : aM} {i : Nat} {x : Tx} (h : TXM M i x) (hx : x.p = true → TO x.T) (e1 : rI M' 138 i = rI M 138 i) (e2 : rI M' 164 i = rI M 164 i) (e3 : rI M' 174 i = rI M 174 i) (eD : ∀ k j, (k = 165 ∨ k = 166 ∨ k = 175) → j < 100 → rI M' k (100 * i + j) = rI M k (100 * i + j)) (eR : ∀ c j, 3 ≤ c → c < 28 → j < szM c → mR M' i c j = mR M i c j) : TXM M' i x := by
  refine ⟨by rw [e1]; exact h.p, fun z => by rw [e2]; exact h.j z, fun z => ?_, fun z y => ?_, fun z y => ?_⟩
  · have ok := (hx z).ok
    have R := h.R z
    have l1 := R.lna
    exact RepM_cp R (fun c j h1 h2 _ _ h5 => eR c j h1 h2 h5) (fun j z hj hz _ => by rw [eR 9 j (by omega) (by omega) (show j < 1296 from hj)]; exact hz) ⟨ok.A.b, ok.W.b⟩ (fun j hj => by rw [eR 7 j (by omega) (by omega) (show j < 8 by omega)]; exact R.bag j hj)
  · intro j h1 h2
    have l2 := (h.R z).lnn
    rw [eD _ _ (by omega) (by omega), eD _ _ (by omega) (by omega)]
    exact h.v z y j h1 h2
  · have ok := (hx z).ok
    have ll := owed_len (g := x.gd) ok.N ok.p
    have l2 := ok.D.n
    have := h.o z y
    exact ⟨by rw [e3]; exact this.1, fun j hj => by rw [eD _ _ (by omega) (by omega)]; exact this.2 j hj⟩
theorem TXM.fr {M M' : aM} {i : Nat} {x : Tx} (h : TXM M i x) (hi : i ≤ 1) (hx : x.p = true → TO x.T) (e : ∀ k j, 138 ≤ k → k < 176 → ¬ dLo k j → rI M' k j = rI M k j) : TXM M' i x := by
  refine h.frx hx (e _ _ (by omega) (by omega) (by unfold dLo; omega)) (e _ _ (by omega) (by omega) (by unfold dLo; omega)) (e _ _ (by omega) (by omega) (by unfold dLo; omega)) (fun k j hk _ => e _ _ (by omega) (by omega) (by unfold dLo; omega)) (fun c j h1 h2 h3 => ?_)
  unfold mR
  rw [if_neg (by omega), if_neg (by omega)]
  refine e _ _ (by omega) (by omega) ?_
  have h4 : i * szM c + j < 2 * szM c := by
    have hi2 : i = 0 ∨ i = 1 := by omega
    rcases hi2 with rfl | rfl <;> omega
  exact dLo_no c _ h1 h2 h4
theorem MI.fr3 {S : Sx} {M M' : aM} {b : Nat → Nat} {n fk : Nat} (so : SO S) (h : MI S M) (tp : TpM b n M') (bq : BQ M') (sz : ∃ z, z ≤ 6000 ∧ rI M' 136 36 = nI z) (hf : rI M' 136 32 = nI fk) (e : ∀ k j, 138 ≤ k → k < 187 → ¬ dLo k j → rI M' k j = rI M k j) (e0 : ∀ j, j = 51 ∨ j = 53 ∨ j = 54 ∨ j = 60 → rI M' 136 j = rI M 136 j) : MI (S.tp b n fk) M' := by
  refine ⟨tp, bq, sz, hf, fun i hi => (h.x i hi).fr hi (so.x i) (fun k j h1 h2 h3 => e k j h1 (by omega) h3), ?_, ?_, ?_, ?_, ?_, ?_⟩
  · rw [e0 _ (by omega)]; exact h.cm
  · intro j hj; rw [e _ _ (by omega) (by omega) (by unfold dLo; omega)]; exact h.tl j hj
  · rw [e0 _ (by omega), e0 _ (by omega)]; exact h.wn
  · intro j hj; rw [e _ _ (by omega) (by omega) (by unfold dLo; omega)]; exact h.wv j hj
  · rw [e0 _ (by omega)]; exact h.pn
  · intro j hj; rw [e _ _ (by omega) (by omega) (by unfold dLo; omega)]; exact h.pb j hj
/-- all but the model's tape stays -/
theorem MI.fr2 {S : Sx} {M M' : aM} {b : Nat → Nat} {n : Nat} (h : MI S M) (tp : TpM b n M') (e : ∀ k, 138 ≤ k → k < 187 → rI M' k = rI M k) (e0 : ∀ j, j ≠ 0 → j ≠ 2 → rI M' 136 j = rI M 136 j) : MI (S.tp b n S.fk) M' := by
  refine ⟨tp, ?_, ?_, ?_, fun i hi => (h.x i hi).fr0 (fun k h1 h2 => e k h1 (by omega)), ?_, ?_, ?_, ?_, ?_, ?_⟩
  · intro k j hk; rw [e k (by omega) (by omega)]; exact h.bq k j hk
  · rw [e0 _ (by omega) (by omega)]; exact h.sz
  · rw [e0 _ (by omega) (by omega)]; exact h.fk
  · rw [e0 _ (by omega) (by omega)]; exact h.cm
  · intro j hj; rw [e _ (by omega) (by omega)]; exact h.tl j hj
  · rw [e0 _ (by omega) (by omega), e0 _ (by omega) (by omega)]; exact h.wn
  · intro j hj; rw [e _ (by omega) (by omega)]; exact h.wv j hj
  · rw [e0 _ (by omega) (by omega)]; exact h.pn
  · intro j hj; rw [e _ (by omega) (by omega)]; exact h.pb j hj
theorem MI.fr {S : Sx} {M M' : aM} (h : MI S M) (K : KOk (rK M')) (e : ∀ k j, 136 ≤ k → k < 187 → ¬ (k = 136 ∧ j = 0) → rI M' k j = rI M k j) : MI S M' := by
  refine h.fr2 (b := S.b) (n := S.n) ⟨K, ?_, h.tp.ln, ?_, h.tp.lb⟩ (fun k h1 h2 => funext fun j => e k j (by omega) h2 (by omega)) (fun j h1 _ => e _ _ (by omega) (by omega) (by omega))
  · rw [e _ _ (by omega) (by omega) (by omega)]; exact h.tp.len
  · intro j hj; rw [e _ _ (by omega) (by omega) (by omega)]; exact h.tp.b j hj
theorem MI.t {S : Sx} {M : aM} {x : Int32} (h : MI S M) : MI S (wI M 136 0 x) := h.fr h.tp.K (fun k j _ _ hn => by rw [rw_e, if_neg hn])
/-- the class leaves the rest as it was -/
def FB (M M' : aM) : Prop := (M'.1 = M.1) ∧ (M'.2.1 = M.2.1) ∧ (M'.2.2.2.2 = M.2.2.2.2) ∧ (∀ k, (k = 0 ∨ 136 ≤ k) → rI M' k = rI M k) ∧ (∀ k, 136 ≤ k → rR M' k = rR M k)
theorem FB.n {M M' : aM} (h : FB M M') : M'.1 = M.1 := h.1
theorem FB.k {M M' : aM} (h : FB M M') : M'.2.1 = M.2.1 := h.2.1
theorem FB.j {M M' : aM} (h : FB M M') : M'.2.2.2.2 = M.2.2.2.2 := h.2.2.1
theorem FB.i {M M' : aM} (h : FB M M') : ∀ k, (k = 0 ∨ 136 ≤ k) → rI M' k = rI M k := h.2.2.2.1
theorem FB.r {M M' : aM} (h : FB M M') : ∀ k, 136 ≤ k → rR M' k = rR M k := h.2.2.2.2
theorem FB.refl {M : aM} : FB M M := ⟨rfl, rfl, rfl, fun _ _ => rfl, fun _ _ => rfl⟩
/-- the class's call, with its wrapper -/
def FL (M M' : aM) : Prop := (aN M ≤ aN M' ∧ aN M' ≤ aN M + 1) ∧ (aZ M' ≤ aZ M + 6) ∧ (KOk (rK M')) ∧ (rK M' 0 = rK M 0) ∧ (∀ k, (k = 0 ∨ 136 ≤ k) → k < 188 → rI M' k = rI M k)
theorem FL.N {M M' : aM} (h : FL M M') : aN M ≤ aN M' ∧ aN M' ≤ aN M + 1 := h.1
theorem FL.Z {M M' : aM} (h : FL M M') : aZ M' ≤ aZ M + 6 := h.2.1
theorem FL.k {M M' : aM} (h : FL M M') : KOk (rK M') := h.2.2.1
theorem FL.k0 {M M' : aM} (h : FL M M') : rK M' 0 = rK M 0 := h.2.2.2.1
theorem FL.i {M M' : aM} (h : FL M M') : ∀ k, (k = 0 ∨ 136 ≤ k) → k < 188 → rI M' k = rI M k := h.2.2.2.2
/-- the model leaves the rest as it was -/
def FD (M M' : aM) : Prop := (M'.1 = M.1) ∧ (M'.2.1 = M.2.1) ∧ (M'.2.2.2 = M.2.2.2) ∧ (∀ k, (k < 136 ∨ 187 ≤ k) → rI M' k = rI M k)
theorem FD.n {M M' : aM} (h : FD M M') : M'.1 = M.1 := h.1
theorem FD.k {M M' : aM} (h : FD M M') : M'.2.1 = M.2.1 := h.2.1
theorem FD.r {M M' : aM} (h : FD M M') : M'.2.2.2 = M.2.2.2 := h.2.2.1
theorem FD.i {M M' : aM} (h : FD M M') : ∀ k, (k < 136 ∨ 187 ≤ k) → rI M' k = rI M k := h.2.2.2
theorem FD.refl {M : aM} : FD M M := ⟨rfl, rfl, rfl, fun _ _ => rfl⟩
theorem FD.w {M M' : aM} {k j : Nat} {x : Int32} (h : FD M M') (hk : 136 ≤ k ∧ k < 187) : FD M (wI M' k j x) := ⟨h.n, h.k, h.r, fun q hq => by rw [rw_n (by omega)]; exact h.i q hq⟩
theorem FD.tr {M M1 M' : aM} (h : FD M M1) (h' : FD M1 M') : FD M M' := ⟨h'.n.trans h.n, h'.k.trans h.k, h'.r.trans h.r, fun q hq => (h'.i q hq).trans (h.i q hq)⟩
def CA (M : aM) (post : Int32 → aM → Prop) (ex : Nat → Prop) (e1 e2 : Nat) : Option (Option (Int32 × Sx)) → Prop
  | none => ex e1
  | some none => ex e2
  | some (some z) => ∀ M', CI z.2 M' → FB M M' → post z.1 M'
def LA (S : Sx) (M : aM) (post : Int32 → aM → Prop) : Option (Option (Int32 × Sx)) → Prop
  | none => ∀ M', CI S M' → FL M M' → post 1 M'
  | some none => ∀ M', CI S M' → FL M M' → post 2 M'
  | some (some z) => ∀ M', CI z.2 M' → FL M M' → rJ M' 187 0 = z.1.toInt64 → post 0 M'
def MA (S : Sx) (M : aM) (post : Int32 → aM → Prop) : Option (Option (Int32 × Sx)) → Prop
  | none => ∀ x M', MI S M' → rI M' 136 0 = 1 → FD M M' → post x M'
  | some none => ∀ x M', MI S M' → rI M' 136 0 = 2 → FD M M' → post x M'
  | some (some z) => ∀ M', MI z.2 M' → rI M' 136 0 = 0 → FD M M' → post z.1 M'
section LL
variable {S : Sx} {M : aM} {post : Int32 → aM → Prop}
theorem la_ex {c : Int32} {e : Nat} (h : CI S M) (hN : 188 ≤ aN M) (q : ∀ M', CI S M' → FL M M' → post c M') : post c (aNew M 3 e 6) := by
  have K : KOk (rK (aNew M 3 e 6)) := fun k hk => by rw [rn_K (by omega)]; exact h.tp.K k hk
  refine q _ (h.fr K (fun k hk => rn_I (by omega)) (fun k hk => rn_R (by omega))) ⟨?_, ?_, K, rn_K (by omega), fun k _ hk => rn_I (by omega)⟩
  · exact ⟨Nat.le_succ _, Nat.le_refl _⟩
  · exact Nat.le_refl _
theorem la_ok {S' : Sx} {x : Int32} {M1 : aM} (K : KOk (rK M)) (h : CI S' M1) (f : FB M M1) (q : ∀ M', CI S' M' → FL M M' → rJ M' 187 0 = x.toInt64 → post 0 M') : (vp_in ((0 : Int32)) (rK M1 187).2) ∧ post ((0 : Int32)) (wJ M1 187 ((0 : Int32)).toNatClampNeg x.toInt64) := by
  have e : aN M1 = aN M := congrArg Prod.fst f.n
  have e2 : aZ M1 = aZ M := congrArg Prod.snd f.n
  refine ⟨by rw [show (rK M1 187).2 = 1 from mK h.tp.K 186 1]; exact vin (n := 0) (by omega), q _ (h.fr h.tp.K (fun _ _ => rfl) (fun _ _ => rfl)) ⟨⟨?_, ?_⟩, ?_, h.tp.K, congrFun f.k 0, fun k hk _ => f.i k hk⟩ Jw_s⟩
  · exact Nat.le_of_eq e.symm
  · exact Nat.le_trans (Nat.le_of_eq e) (Nat.le_succ _)
  · exact Nat.le_trans (Nat.le_of_eq e2) (Nat.le_add_right _ _)
theorem la1 {r : Option (Int32 × Sx)} {e e2 : Nat} (h : CI S M) (hN : 188 ≤ aN M) (q : LA S M post (r.map some)) : CA M (fun x1 M1 => (vp_in ((0 : Int32)) (rK M1 187).2) ∧ post ((0 : Int32)) (wJ M1 187 ((0 : Int32)).toNatClampNeg x1.toInt64)) (fun e9 => e9 = e ∧ post 1 (aNew M 3 e 6)) e e2 (r.map some) := by
  cases r with
  | none => exact ⟨rfl, la_ex h hN q⟩
  | some z => exact fun M' h' f => la_ok h.tp.K h' f q
theorem la2 {r : Option (Option (Int32 × Sx))} {e e2 : Nat} (h : CI S M) (hN : 188 ≤ aN M) (q : LA S M post r) : CA M (fun x1 M1 => (vp_in ((0 : Int32)) (rK M1 187).2) ∧ post ((0 : Int32)) (wJ M1 187 ((0 : Int32)).toNatClampNeg x1.toInt64)) (fun e9 => (e9 = e ∧ post 1 (aNew M 3 e 6)) ∨ (e9 = e2 ∧ post 2 (aNew M 3 e2 6))) e e2 r := by
  cases r with
  | none => exact Or.inl ⟨rfl, la_ex h hN q⟩
  | some z =>
    cases z with
    | none => exact Or.inr ⟨rfl, la_ex h hN q⟩
    | some z => exact fun M' h' f => la_ok h.tp.K h' f q
end LL
/-- an index among n -/
def idx (v : Int32) (n : Nat) : Option Nat := if 0 ≤ v.toInt ∧ v.toInt < n then some v.toInt.toNat else none
theorem idx_ok {v : Int32} {n k : Nat} (hn : n < 2 ^ 31) (h : idx v n = some k) : k < n ∧ v = nI k := by
  unfold idx at h
  split at h
  · have e := Option.some.inj h
    refine ⟨by omega, Int32.toInt_inj.mp ?_⟩
    rw [nI_toInt (by omega)]; omega
  · cases h
theorem idx_nI {n k : Nat} (hn : n < 2 ^ 31) (h : k < n) : idx (nI k) n = some k := by
  unfold idx
  rw [nI_toInt (by omega), if_pos (by omega)]; rfl
theorem i0 : (0 : Int32).toInt = 0 := by decide
theorem i1 : (1 : Int32).toInt = 1 := by decide
theorem idx_no {v : Int32} {n : Nat} (hn : n < 2 ^ 31) (h : idx v n = none) : v < 0 ∨ nI n ≤ v := by
  unfold idx at h
  split at h
  · cases h
  · rw [Int32.lt_iff_toInt_lt, Int32.le_iff_toInt_le, nI_toInt hn, i0]; omega
section IX
variable {ex : Nat → Prop} {v x : Int32} {M : aM}
theorem c_idx {post : Prop} (n : Nat) (hn : n < 2 ^ 31) (p0 : idx v n = none → ex 0) (p1 : ∀ k, idx v n = some k → k < n → v = nI k → post) (hx : x = nI n := by rfl) : w_J_checkIndex post ex v x M := by
  subst hx
  unfold w_J_checkIndex
  cases h : idx v n with
  | none =>
    have hp := p0 h
    exact ⟨fun _ => hp, fun a => ⟨fun b => absurd b (by
      rcases idx_no hn h with z | z
      · exact absurd z a
      · rw [Int32.lt_iff_toInt_lt]; rw [Int32.le_iff_toInt_le] at z; omega), fun _ => hp⟩⟩
  | some k =>
    obtain ⟨h1, h2⟩ := idx_ok hn h
    exact br_f (by rw [h2]; exact nI_pos (by omega)) (br_t (by rw [h2]; exact nI_lt h1 hn) (p1 k h h1 h2))
theorem c_text {post : Prop} (p0 : idx v 2 = none → ex 0) (p1 : ∀ k, idx v 2 = some k → k ≤ 1 → v = nI k → post) : w_J_checkText post ex v M := c_idx (M := M) 2 (by omega) p0 (fun k a b c => p1 k a (by omega) c)
theorem m_idx {post : Int32 → Prop} (n : Nat) (hn : n < 2 ^ 30) (p0 : idx v n = none → post 0) (p1 : ∀ k, idx v n = some k → k < n → v = nI k → post 1) (hx : x = nI n - 1 := by rfl) : w_Mo_in post v 0 x M := by
  subst hx
  have e : (nI n - 1).toInt = (n : Int) - 1 := pk_sub_toInt (b := 1) hn (by omega)
  unfold w_Mo_in
  cases h : idx v n with
  | none =>
    have hp := p0 h
    refine ⟨fun _ => ⟨Or.inl rfl, hp⟩, fun a => ⟨fun _ => ⟨Or.inl rfl, hp⟩, fun b => absurd ?_ b⟩⟩
    rcases idx_no (by omega) h with z | z
    · exact absurd z a
    · rw [Int32.lt_iff_toInt_lt, e]; rw [Int32.le_iff_toInt_le, nI_toInt (by omega)] at z; omega
  | some k =>
    obtain ⟨h1, h2⟩ := idx_ok (by omega) h
    refine br_f (by rw [h2]; exact nI_pos (by omega)) (br_f ?_ ⟨Or.inr rfl, p1 k h h1 h2⟩)
    rw [Int32.lt_iff_toInt_lt, e, h2, nI_toInt (by omega)]; omega
theorem m_text2 {post : Int32 → Prop} (p0 : idx v 2 = none → post 0) (p1 : ∀ k, idx v 2 = some k → k ≤ 1 → v = nI k → post 1) : w_Mo_isText post v M := by
  unfold w_Mo_isText
  exact m_idx 2 (by omega) (fun h => ⟨Or.inl rfl, p0 h⟩) (fun k a b c => ⟨Or.inr rfl, p1 k a (by omega) c⟩)
theorem m_goes1 {post : Int32 → aM → Prop} (p : post 1 (wI M 136 0 0)) : w_Mo_goes post 136 1 M := by
  unfold w_Mo_goes
  exact br_f (by decide) ⟨Or.inr rfl, p⟩
theorem m_goes0 {post : Int32 → aM → Prop} (p : post 0 (wI M 136 0 1)) : w_Mo_goes post 136 0 M := by
  unfold w_Mo_goes
  exact br_t rfl ⟨Or.inl rfl, p⟩
end IX
/-- the text that is asked for, if it is there -/
def pres (S : Sx) (v : Int32) : Option Nat := (idx v 2).bind fun i => if (S.x i).p then some i else none
section PR
variable {S : Sx} {M : aM} {ex : Nat → Prop} {v v2 : Int32}
theorem pres_n {i : Nat} (h : idx v 2 = some i) (hp : (S.x i).p = false) : pres S v = none := by
  unfold pres; rw [h]; show (if (S.x i).p = true then some i else none) = none
  rw [hp]; rfl
theorem pres_s {i : Nat} (h : idx v 2 = some i) (hp : (S.x i).p = true) : pres S v = some i := by
  unfold pres; rw [h]; show (if (S.x i).p = true then some i else none) = some i
  rw [hp]; rfl
theorem pres_0 (h : idx v 2 = none) : pres S v = none := by
  unfold pres; rw [h]; rfl
theorem c_pres {post : Nat → Prop} (h : CI S M) (p0 : pres S v = none → ex 0) (p1 : ∀ i, pres S v = some i → i ≤ 1 → v = nI i → (S.x i).p = true → post (rR M 47 i)) : w_J_presentText post ex 1 v M := by
  unfold w_J_presentText
  refine c_text (fun z => p0 (pres_0 z)) (fun i z hi e => ?_)
  have k1 : (rK M (1 + 46)).2 = 2 := mK h.tp.K 46 2
  have iv : vp_in v (rK M (1 + 46)).2 := by rw [k1, e]; exact vin (by omega)
  refine ⟨iv, ?_⟩
  rw [show v.toNatClampNeg = i by rw [e]; exact nI_clamp (by omega)]
  refine pk_nb0 (S.x i).p (fun hp => ⟨iv, p1 i (pres_s z hp) hi e hp⟩) (fun hp => p0 (pres_n z hp)) (h.x i hi).p rfl
theorem c_need {post : Nat → Prop} (h : CI S M) (p0 : idx v 2 = none → ex 0) (p2 : ∀ i, idx v 2 = some i → (S.x i).p = false → ex 2) (p1 : ∀ i, idx v 2 = some i → i ≤ 1 → v = nI i → (S.x i).p = true → post (rR M 47 i)) : w_J_neededText post ex 1 v M := by
  unfold w_J_neededText
  refine c_text p0 (fun i z hi e => ?_)
  have k1 : (rK M (1 + 46)).2 = 2 := mK h.tp.K 46 2
  have iv : vp_in v (rK M (1 + 46)).2 := by rw [k1, e]; exact vin (by omega)
  refine ⟨iv, ?_⟩
  rw [show v.toNatClampNeg = i by rw [e]; exact nI_clamp (by omega)]
  exact pk_nb0 (S.x i).p (fun hp => ⟨iv, p1 i z hi e hp⟩) (fun hp => p2 i z hp) (h.x i hi).p rfl
theorem c_judged {post : Nat → Prop} (h : CI S M) (p0 : pres S v = none → ex 0) (p2 : ∀ i, pres S v = some i → (S.x i).jd = false → ex 0) (p1 : ∀ i, pres S v = some i → i ≤ 1 → v = nI i → (S.x i).p = true → (S.x i).jd = true → post (rR M 47 i)) : w_J_judgedText post ex 1 v M := by
  unfold w_J_judgedText
  refine c_pres h p0 (fun i z hi e hp => ?_)
  exact pk_nb0 (S.x i).jd (fun hj => p1 i z hi e hp hj) (fun hj => p2 i z hj) ((h.x i hi).j hp) rfl
theorem mk3 (h : MI S M) {c i : Nat} (hi : i ≤ 1) (hk : (rK M (136 + c)).2 = 3) : vp_in (nI i) (rK M (136 + c)).2 := by rw [hk]; exact vin (by omega)
theorem m_isNode {post : Int32 → Prop} (h : MI S M) (p0 : pres S v = none → post 0) (p2 : ∀ i, pres S v = some i → idx v2 (S.x i).T.nn = none → post 0) (p1 : ∀ i j, pres S v = some i → i ≤ 1 → v = nI i → (S.x i).p = true → idx v2 (S.x i).T.nn = some j → j < (S.x i).T.nn → v2 = nI j → post 1) : w_Mo_isNode post 136 v v2 M := by
  unfold w_Mo_isNode
  refine m_text2 (fun z => br_t rfl ⟨Or.inl rfl, p0 (pres_0 z)⟩) (fun i z hi e => br_f (by decide) ?_)
  have k2 : (rK M (136 + 2)).2 = 3 := mK h.tp.K 137 3
  have k10 : (rK M (136 + 10)).2 = 3 := mK h.tp.K 145 3
  have cl : v.toNatClampNeg = i := by rw [e]; exact nI_clamp (by omega)
  refine ⟨by rw [e]; exact mk3 h hi k2, ?_⟩
  rw [cl]
  refine pk_b0 (S.x i).p (fun hp => ⟨Or.inl rfl, p0 (pres_n z hp)⟩) (fun hp => ⟨by rw [e]; exact mk3 h hi k10, ?_⟩) (h.x i hi).p rfl
  have R := (h.x i hi).R hp
  have e10 : rI M (136 + 10) i = nI (S.x i).T.nn := by
    have := R.nn
    unfold mR at this
    rw [if_neg (by omega), show szM 10 = 1 from rfl, show i * 1 + 0 = i by omega] at this
    exact this
  rw [e10]
  have lnn := R.lnn
  exact m_idx (S.x i).T.nn (by omega) (fun y => br_t rfl ⟨Or.inl rfl, p2 i (pres_s z hp) y⟩) (fun j y hj e2 => br_f (by decide) ⟨Or.inr rfl, p1 i j (pres_s z hp) hi e hp y hj e2⟩)
theorem m_isAttr {post : Int32 → Prop} (h : MI S M) (p0 : pres S v = none → post 0) (p2 : ∀ i, pres S v = some i → idx v2 (S.x i).T.na = none → post 0) (p1 : ∀ i j, pres S v = some i → i ≤ 1 → v = nI i → (S.x i).p = true → idx v2 (S.x i).T.na = some j → j < (S.x i).T.na → v2 = nI j → post 1) : w_Mo_isAttribute post 136 v v2 M := by
  unfold w_Mo_isAttribute
  refine m_text2 (fun z => br_t rfl ⟨Or.inl rfl, p0 (pres_0 z)⟩) (fun i z hi e => br_f (by decide) ?_)
  have k2 : (rK M (136 + 2)).2 = 3 := mK h.tp.K 137 3
  have k10 : (rK M (136 + 3)).2 = 3 := mK h.tp.K 138 3
  have cl : v.toNatClampNeg = i := by rw [e]; exact nI_clamp (by omega)
  refine ⟨by rw [e]; exact mk3 h hi k2, ?_⟩
  rw [cl]
  refine pk_b0 (S.x i).p (fun hp => ⟨Or.inl rfl, p0 (pres_n z hp)⟩) (fun hp => ⟨by rw [e]; exact mk3 h hi k10, ?_⟩) (h.x i hi).p rfl
  have R := (h.x i hi).R hp
  have e10 : rI M (136 + 3) i = nI (S.x i).T.na := by
    have := R.na
    unfold mR at this
    rw [if_neg (by omega), show szM 3 = 1 from rfl, show i * 1 + 0 = i by omega] at this
    exact this
  rw [e10]
  have lnn := R.lna
  exact m_idx (S.x i).T.na (by omega) (fun y => br_t rfl ⟨Or.inl rfl, p2 i (pres_s z hp) y⟩) (fun j y hj e2 => br_f (by decide) ⟨Or.inr rfl, p1 i j (pres_s z hp) hi e hp y hj e2⟩)
end PR
