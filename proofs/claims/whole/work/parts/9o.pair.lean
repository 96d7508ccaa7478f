/-! TWO TEXTS: attributes paired by name; what all requests tell. -/
def smBl (T0 T1 : Txt) (i j : Nat) : Bool := T0.anl i == T1.anl j && (List.range (T0.anl i)).all (fun x => T0.anm i x == T1.anm j x)
theorem smBl_iff {T0 T1 : Txt} {i j : Nat} : smBl T0 T1 i j = true ↔ (T0.anl i = T1.anl j ∧ ∀ x, x < T0.anl i → T0.anm i x = T1.anm j x) := by
  unfold smBl
  rw [Bool.and_eq_true, beq_iff_eq, List.all_eq_true]
  constructor
  · intro h; exact ⟨h.1, fun x hx => by have := h.2 x (List.mem_range.mpr hx); exact beq_iff_eq.mp this⟩
  · intro h; exact ⟨h.1, fun x hx => beq_iff_eq.mpr (h.2 x (List.mem_range.mp hx))⟩
def fitB (T0 T1 : Txt) (i j : Nat) : Bool := T0.asz i == T1.asz j && (T0.amany i == T1.amany j && T0.amust i == T1.amust j)
def fnd (p : Nat → Bool) : Nat → Nat → Option Nat
  | 0, _ => none
  | n + 1, i => if p i then some i else fnd p n (i + 1)
theorem fnd_s {p : Nat → Bool} : ∀ n i a, fnd p n i = some a → i ≤ a ∧ a < i + n ∧ p a = true := by
  intro n
  induction n with
  | zero => intro i a h; cases h
  | succ n ih =>
    intro i a h
    rw [fnd] at h
    split at h
    · cases h; exact ⟨Nat.le_refl _, by omega, by assumption⟩
    · have := ih _ _ h; exact ⟨by omega, by omega, this.2.2⟩
theorem fnd_n {p : Nat → Bool} : ∀ n i, fnd p n i = none → ∀ a, i ≤ a → a < i + n → p a = false := by
  intro n
  induction n with
  | zero => intro i _ a h1 h2; omega
  | succ n ih =>
    intro i h a h1 h2
    rw [fnd] at h
    split at h
    · cases h
    · by_cases z : a = i
      · subst z; simpa using (by assumption : ¬ p a = true)
      · exact ih _ h a (by omega) (by omega)
def lasU (p : Nat → Bool) : Nat → Option Nat
  | 0 => none
  | n + 1 => if p n then some n else lasU p n
theorem lasU_s {p : Nat → Bool} : ∀ n a, lasU p n = some a → a < n ∧ p a = true := by
  intro n
  induction n with
  | zero => intro a h; cases h
  | succ n ih =>
    intro a h
    rw [lasU] at h
    split at h
    · cases h; exact ⟨by omega, by assumption⟩
    · have := ih _ h; exact ⟨by omega, this.2⟩
theorem lasU_n {p : Nat → Bool} : ∀ n, lasU p n = none → ∀ a, a < n → p a = false := by
  intro n
  induction n with
  | zero => intro _ a h; omega
  | succ n ih =>
    intro h a h1
    rw [lasU] at h
    split at h
    · cases h
    · by_cases z : a = n
      · subst z; simpa using (by assumption : ¬ p a = true)
      · exact ih h a (by omega)
/-- the class's partner of attribute j of text 1; the model's fellow of attribute i of text 0 -/
def prt (T0 T1 : Txt) (j : Nat) : Option Nat := fnd (fun i => smBl T0 T1 i j) T0.na 0
def fel (T0 T1 : Txt) (i : Nat) : Option Nat := lasU (fun j => smBl T0 T1 i j) T1.na
def okJ (T0 T1 : Txt) (j : Nat) : Bool := match prt T0 T1 j with
  | none => false
  | some i => fitB T0 T1 i j
def okI (T0 T1 : Txt) (i : Nat) : Bool := match fel T0 T1 i with
  | none => false
  | some j => fitB T0 T1 i j
def allB (p : Nat → Bool) : Nat → Bool
  | 0 => true
  | n + 1 => allB p n && p n
theorem allB_iff {p : Nat → Bool} : ∀ n, allB p n = true ↔ ∀ i, i < n → p i = true := by
  intro n
  induction n with
  | zero => exact ⟨fun _ i hi => absurd hi (Nat.not_lt_zero _), fun _ => rfl⟩
  | succ n ih =>
    rw [allB, Bool.and_eq_true, ih]
    constructor
    · intro h i hi
      by_cases z : i = n
      · subst z; exact h.2
      · exact h.1 i (by omega)
    · intro h; exact ⟨fun i hi => h i (by omega), h n (by omega)⟩
theorem allB_f {p : Nat → Bool} {n i : Nat} (hi : i < n) (h : p i = false) : allB p n = false := by
  cases z : allB p n with
  | false => rfl
  | true => have := (allB_iff n).mp z i hi; rw [h] at this; cases this
def pairB (T0 T1 : Txt) : Bool := T0.na == T1.na && allB (okJ T0 T1) T1.na
def pairM (T0 T1 : Txt) : Bool := T0.na == T1.na && allB (okI T0 T1) T0.na
theorem pigeon : ∀ (n : Nat) (f : Nat → Nat), (∀ j, j < n → f j < n) → (∀ j j', j < n → j' < n → f j = f j' → j = j') → ∀ i, i < n → ∃ j, j < n ∧ f j = i := by
  intro n
  induction n with
  | zero => intro f _ _ i hi; omega
  | succ n ih =>
    intro f h1 h2 i hi
    by_cases z : f n = i
    · exact ⟨n, by omega, z⟩
    have hv := h1 n (by omega)
    obtain ⟨j, hj, e⟩ := ih (fun j => if f j = n then f n else f j) (fun j hj => by
        show (if f j = n then f n else f j) < n
        have := h1 j (by omega)
        split
        · next c =>
          have : f n ≠ n := fun y => by have := h2 j n (by omega) (by omega) (c.trans y.symm); omega
          omega
        · omega) (fun j j' hj hj' e => by
        have a := h1 j (by omega)
        split at e
        · next c =>
          split at e
          · next c' => exact h2 j j' (by omega) (by omega) (c.trans c'.symm)
          · next c' => have := h2 n j' (by omega) (by omega) e; omega
        · next c =>
          split at e
          · next c' => have := h2 j n (by omega) (by omega) e; omega
          · next c' => exact h2 j j' (by omega) (by omega) e) (if i = n then f n else i) (by
        split
        · next c => omega
        · omega)
    by_cases c : f j = n
    · by_cases c2 : i = n
      · exact ⟨j, by omega, c.trans c2.symm⟩
      · rw [if_pos c, if_neg c2] at e; exact absurd e z
    · rw [if_neg c] at e
      by_cases c2 : i = n
      · rw [if_pos c2] at e
        have := h2 j n (by omega) (by omega) e; omega
      · rw [if_neg c2] at e; exact ⟨j, by omega, e⟩
theorem pig2 {n : Nat} {P : Nat → Nat → Prop} (h : ∀ j, j < n → ∃ i, i < n ∧ P i j) (inj : ∀ i j j', j < n → j' < n → P i j → P i j' → j = j') : ∀ i, i < n → ∃ j, j < n ∧ P i j := by
  intro i hi
  have hf : ∃ f : Nat → Nat, ∀ j, j < n → f j < n ∧ P (f j) j := by
    refine ⟨fun j => if c : j < n then Classical.choose (h j c) else 0, fun j hj => ?_⟩
    dsimp only
    rw [dif_pos hj]
    exact Classical.choose_spec (h j hj)
  obtain ⟨f, hf⟩ := hf
  obtain ⟨j, hj, e⟩ := pigeon n f (fun j hj => (hf j hj).1) (fun j j' hj hj' e => inj (f j) j j' hj hj' (hf j hj).2 (by rw [e]; exact (hf j' hj').2)) i hi
  exact ⟨j, hj, by rw [← e]; exact (hf j hj).2⟩
section PA
variable {T0 T1 : Txt}
theorem sm_r (A1 : AI T1) {i j j' : Nat} (hj : j < T1.na) (hj' : j' < T1.na) (h : smBl T0 T1 i j = true) (h' : smBl T0 T1 i j' = true) : j = j' := by
  have a := smBl_iff.mp h
  have b := smBl_iff.mp h'
  rcases Nat.lt_trichotomy j j' with z | z | z
  · exact absurd ⟨by rw [← a.1, ← b.1], fun x hx => by rw [← a.2 x (by omega), ← b.2 x (by omega)]⟩ (A1.d j j' z hj')
  · exact z
  · exact absurd ⟨by rw [← a.1, ← b.1], fun x hx => by rw [← a.2 x (by omega), ← b.2 x (by omega)]⟩ (A1.d j' j z hj)
theorem sm_l (A0 : AI T0) {i i' j : Nat} (hi : i < T0.na) (hi' : i' < T0.na) (h : smBl T0 T1 i j = true) (h' : smBl T0 T1 i' j = true) : i = i' := by
  have a := smBl_iff.mp h
  have b := smBl_iff.mp h'
  rcases Nat.lt_trichotomy i i' with z | z | z
  · exact absurd ⟨by rw [a.1, b.1], fun x hx => by rw [a.2 x hx, b.2 x (by omega)]⟩ (A0.d i i' z hi')
  · exact z
  · exact absurd ⟨by rw [a.1, b.1], fun x hx => by rw [a.2 x (by omega), b.2 x hx]⟩ (A0.d i' i z hi)
theorem okJ_iff (A0 : AI T0) {j : Nat} : okJ T0 T1 j = true ↔ ∃ i, i < T0.na ∧ smBl T0 T1 i j = true ∧ fitB T0 T1 i j = true := by
  unfold okJ
  cases h : prt T0 T1 j with
  | none =>
    refine ⟨fun z => (by cases z), fun ⟨i, hi, hs, _⟩ => ?_⟩
    have := fnd_n _ _ h i (Nat.zero_le _) (by omega)
    rw [hs] at this; cases this
  | some a =>
    have := fnd_s _ _ _ h
    refine ⟨fun z => ⟨a, by omega, this.2.2, z⟩, fun ⟨i, hi, hs, hf⟩ => ?_⟩
    have e : i = a := sm_l A0 hi (by omega) hs this.2.2
    rw [← e]; exact hf
theorem okI_iff (A1 : AI T1) {i : Nat} : okI T0 T1 i = true ↔ ∃ j, j < T1.na ∧ smBl T0 T1 i j = true ∧ fitB T0 T1 i j = true := by
  unfold okI
  cases h : fel T0 T1 i with
  | none =>
    refine ⟨fun z => (by cases z), fun ⟨j, hj, hs, _⟩ => ?_⟩
    have := lasU_n _ h j hj
    rw [hs] at this; cases this
  | some a =>
    have := lasU_s _ _ h
    refine ⟨fun z => ⟨a, this.1, this.2, z⟩, fun ⟨j, hj, hs, hf⟩ => ?_⟩
    have e : j = a := sm_r A1 hj this.1 hs this.2
    rw [← e]; exact hf
theorem pair_eq (A0 : AI T0) (A1 : AI T1) : pairM T0 T1 = pairB T0 T1 := by
  rw [Bool.eq_iff_iff]
  unfold pairM pairB
  rw [Bool.and_eq_true, Bool.and_eq_true, beq_iff_eq, allB_iff, allB_iff]
  refine ⟨fun ⟨e, h⟩ => ⟨e, fun j hj => (okJ_iff A0).mpr ?_⟩, fun ⟨e, h⟩ => ⟨e, fun i hi => (okI_iff A1).mpr ?_⟩⟩
  · obtain ⟨i, hi, hp⟩ := pig2 (n := T1.na) (P := fun j i => smBl T0 T1 i j = true ∧ fitB T0 T1 i j = true) (fun i hi => (okI_iff A1).mp (h i (by omega))) (fun j i i' hi hi' hp hp' => sm_l A0 (by omega) (by omega) hp.1 hp'.1) j hj
    exact ⟨i, by omega, hp⟩
  · obtain ⟨j, hj, hp⟩ := pig2 (n := T0.na) (P := fun i j => smBl T0 T1 i j = true ∧ fitB T0 T1 i j = true) (fun j hj => (okJ_iff A0).mp (h j (by omega))) (fun i j j' hj hj' hp hp' => sm_r A1 (by omega) (by omega) hp.1 hp'.1) i hi
    exact ⟨j, by omega, hp⟩
theorem pair_par (h : pairB T0 T1 = true) {j : Nat} (hj : j < T1.na) : ∃ i, prt T0 T1 j = some i ∧ i < T0.na ∧ smBl T0 T1 i j = true := by
  unfold pairB at h
  rw [Bool.and_eq_true, allB_iff] at h
  have := h.2 j hj
  unfold okJ at this
  cases z : prt T0 T1 j with
  | none => rw [z] at this; cases this
  | some i =>
    have y := fnd_s _ _ _ z
    exact ⟨i, rfl, by omega, y.2.2⟩
theorem pair_fel (A0 : AI T0) (A1 : AI T1) (h : pairB T0 T1 = true) {i : Nat} (hi : i < T0.na) : ∃ j, fel T0 T1 i = some j ∧ j < T1.na ∧ smBl T0 T1 i j = true := by
  rw [← pair_eq A0 A1] at h
  unfold pairM at h
  rw [Bool.and_eq_true, allB_iff] at h
  have := h.2 i hi
  unfold okI at this
  cases z : fel T0 T1 i with
  | none => rw [z] at this; cases this
  | some j =>
    have y := lasU_s _ _ z
    exact ⟨j, rfl, y.1, y.2⟩
theorem pair_inv (A0 : AI T0) (A1 : AI T1) (h : pairB T0 T1 = true) {i j : Nat} (hi : i < T0.na) (hj : j < T1.na) : prt T0 T1 j = some i ↔ fel T0 T1 i = some j := by
  obtain ⟨a, ea, ha, sa⟩ := pair_par h hj
  obtain ⟨b, eb, hb, sb⟩ := pair_fel A0 A1 h hi
  rw [ea, eb]
  constructor
  · intro z; cases z; rw [sm_r A1 hb hj sb sa]
  · intro z; cases z; rw [sm_l A0 ha hi sa sb]
end PA
/-- the request of text 0, as text 1 has it -/
def ar (T0 T1 : Txt) (g : Nat → Nat) (j : Nat) : Nat := g ((prt T0 T1 j).getD 0)
def qq0 (T0 : Txt) (r : Nat) : Nat := dec T0 (gOf T0 (Dq T0 r)) 0
def qq1 (T0 T1 : Txt) (r : Nat) : Nat := dec T1 (ar T0 T1 (gOf T0 (Dq T0 r))) 0
def tlN (T0 T1 : Txt) : Nat → Nat → Nat
  | 0 => fun _ => 0
  | r + 1 => up (tlN T0 T1 r) (6 * qq0 T0 r + qq1 T0 T1 r) (tlN T0 T1 r (6 * qq0 T0 r + qq1 T0 T1 r) + 1)
def dfN (T0 T1 : Txt) : Nat → Option Nat
  | 0 => none
  | r + 1 => match dfN T0 T1 r with
    | some x => some x
    | none => if qq0 T0 r = qq1 T0 T1 r then none else some r
theorem tlN_le {T0 T1 : Txt} : ∀ r j, tlN T0 T1 r j ≤ r := by
  intro r
  induction r with
  | zero => intro j; exact Nat.le_refl _
  | succ r ih =>
    intro j
    rw [tlN, up]
    split
    · have := ih (6 * qq0 T0 r + qq1 T0 T1 r); omega
    · have := ih j; omega
/-- the first request for which node i decides w -/
def rcN (T : Txt) (i w : Nat) : Nat → Option Nat
  | 0 => none
  | r + 1 => match rcN T i w r with
    | some x => some x
    | none => if dec T (gOf T (Dq T r)) i = w then some r else none
theorem rcN_s {T : Txt} {i w r : Nat} (h0 : rcN T i w r = none) (h : dec T (gOf T (Dq T r)) i = w) : ∀ n, rcN T i w (r + 1 + n) = some r := by
  intro n
  induction n with
  | zero => rw [Nat.add_zero, rcN, h0]; show (if _ then _ else _) = _; rw [if_pos h]
  | succ n ih => rw [← Nat.add_assoc, rcN, ih]
theorem rcN_n {T : Txt} {i w r : Nat} (h0 : rcN T i w r = none) (h : dec T (gOf T (Dq T r)) i ≠ w) : rcN T i w (r + 1) = none := by
  rw [rcN, h0]; show (if _ then _ else _) = _; rw [if_neg h]
abbrev Sx.sv (S : Sx) (cm : Bool) (tl : Nat → Nat) (wn : Nat) (wv : Nat → Nat) : Sx := (S.1, S.2.1, S.2.2.1, S.2.2.2.1, cm, tl, wn, wv, S.2.2.2.2.2.2.2.2)
def samR (S : Sx) (T0 T1 : Txt) (Q : Nat) : Int32 × Sx := (bI (dfN T0 T1 Q).isNone, S.sv true (tlN T0 T1 Q) (if (dfN T0 T1 Q).isSome then T0.na else 0) (gOf T0 (Dq T0 ((dfN T0 T1 Q).getD 0))))
def a_same (S : Sx) : Option (Int32 × Sx) := if (S.x 0).p && (S.x 1).p then some (if pairB (S.x 0).T (S.x 1).T then (if 4096 < rq (S.x 0).T (S.x 0).T.na then (-3, S) else samR S (S.x 0).T (S.x 1).T (rq (S.x 0).T (S.x 0).T.na)) else (-2, S)) else none
def reaR (S : Sx) (T : Txt) (o : Option Nat) : Int32 × Sx := (bI o.isSome, S.sv S.cm S.tl (if o.isSome then T.na else 0) (gOf T (Dq T (o.getD 0))))
def a_reach (S : Sx) (v1 v2 v3 : Int32) : Option (Int32 × Sx) := (pres S v1).bind fun i => (idx v2 (S.x i).T.nn).bind fun j => (idx v3 6).map fun w => if 4096 < rq (S.x i).T (S.x i).T.na then (-3, S) else reaR S (S.x i).T (rcN (S.x i).T j w (rq (S.x i).T (S.x i).T.na))
theorem CI.sv {S : Sx} {M M' : aM} {cm : Bool} {tl : Nat → Nat} {wn : Nat} {wv : Nat → Nat} (h : CI S M) (K : KOk (rK M')) (e : ∀ k, k < 136 → (k < 120 ∨ 131 ≤ k) → rI M' k = rI M k) (r : ∀ k, k < 136 → rR M' k = rR M k) (h1 : rI M' 120 0 = bI cm) (h2 : ∀ j, j < 36 → rI M' 121 j = nI (tl j)) (h3 : rI M' 120 2 = nI wn) (h4 : ∀ j, j < wn → rI M' 122 j = nI (wv j)) : CI (S.sv cm tl wn wv) M' := by
  have pm := h.pm
  refine ⟨⟨K, by rw [e _ (by omega) (by omega)]; exact h.tp.len, h.tp.ln, fun j hj => by rw [e _ (by omega) (by omega)]; exact h.tp.b j hj, fun j hj => by rw [e _ (by omega) (by omega)]; exact h.tp.b6 j hj, h.tp.lb, h.tp.ws.fr (e _ (by omega) (by omega)) (e _ (by omega) (by omega))⟩, by rw [e _ (by omega) (by omega)]; exact h.fk, by rw [r _ (by omega), r _ (by omega)]; exact h.pm, fun i hi => ?_, h1, h2, h3, h4, by rw [e _ (by omega) (by omega)]; exact h.pn, fun j hj => by rw [e _ (by omega) (by omega)]; exact h.pb j hj, h.pw.fr (e _ (by omega) (by omega)) (e _ (by omega) (by omega))⟩
  rw [r _ (by omega)]
  have ht := h.t hi
  unfold tOk at ht
  exact (h.x i hi).fr (fun c hc => e _ (by omega) (by omega))
theorem CI.same {S : Sx} {M M' : aM} (h : CI S M) (K : KOk (rK M')) (e : ∀ k, k < 136 → k ≠ 130 → rI M' k = rI M k) (r : ∀ k, k < 136 → rR M' k = rR M k) : CI S M' := h.sv K (fun k h1 h2 => e k h1 (by omega)) r (by rw [e _ (by omega) (by omega)]; exact h.cm) (fun j hj => by rw [e _ (by omega) (by omega)]; exact h.tl j hj) (by rw [e _ (by omega) (by omega)]; exact h.wn) (fun j hj => by rw [e _ (by omega) (by omega)]; exact h.wv j hj)
