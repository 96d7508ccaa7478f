/-! TOKENS, as a function of the bytes. -/
def isBl (c : Nat) : Bool := c == 9 || c == 10 || c == 13 || c == 32
def isLt (c : Nat) : Bool := (decide (97 ≤ c) && decide (c ≤ 122)) || (decide (65 ≤ c) && decide (c ≤ 90))
def isDg (c : Nat) : Bool := decide (48 ≤ c) && decide (c ≤ 57)
def isSg (c : Nat) : Bool := c == 40 || c == 41 || c == 44 || c == 59 || c == 60 || c == 61 || c == 62 || c == 123 || c == 125
def isGo (c : Nat) : Bool := isLt c || isDg c || c == 95
/-- the words, by their codes 1 to 27 -/
def spN : List (List Nat) := [[], [97, 116, 116, 114], [109, 97, 110, 121], [109, 117, 115, 116], [115, 101, 116], [102, 111, 114], [112, 101, 114, 109, 105, 116], [100, 101, 110, 121], [119, 105, 116, 104], [100, 117, 116, 121], [111, 114], [97, 110, 100], [110, 111, 116], [116, 114, 117, 101], [102, 97, 108, 115, 101], [101, 114, 114, 111, 114], [104, 97, 115], [105, 110], [111, 110, 108, 121], [109, 101, 101, 116, 115], [105, 115], [110, 111, 110, 101], [100, 101, 110, 105, 101, 115], [112, 101, 114, 109, 105, 116, 115], [102, 105, 114, 115, 116], [111, 110, 101], [101, 108, 115, 101, 100, 101, 110, 121], [101, 108, 115, 101, 112, 101, 114, 109, 105, 116]]
/-- the model's text of a word -/
def wS (j : Nat) : Nat := ([0, 15, 17, 18, 19, 20, 25, 26, 27, 28, 24, 23, 21] : List Nat).getD j 0
theorem spN_str : ∀ j, j < 13 → 1 ≤ j → tStr.getD (wS j) [] = (spN.getD j []).map nI := by decide +kernel
theorem wS_lt : ∀ j, j < 13 → wS j < 59 := by decide
/-- the words lie in the rows of k -/
def WO (M : aM) (k : Nat) : Prop := ∀ j, j < 28 → rI M (k + 1) j = nI (spN.getD j []).length ∧ ∀ i, i < (spN.getD j []).length → rI M (k + 2) (j * 12 + i) = nI ((spN.getD j []).getD i 0)
theorem WO.fr {M M' : aM} {k : Nat} (h : WO M k) (e1 : rI M' (k + 1) = rI M (k + 1)) (e2 : rI M' (k + 2) = rI M (k + 2)) : WO M' k := fun j hj => by
  rw [e1, e2]
  exact h j hj
theorem spN_len : ∀ j, j < 28 → (spN.getD j []).length ≤ 12 := by decide +kernel
theorem spN_inj : ∀ i, i < 28 → ∀ j, j < 28 → spN.getD i [] = spN.getD j [] → i = j := by decide +kernel
theorem spN_byte : ∀ j, j < 28 → ∀ k, k < 12 → (spN.getD j []).getD k 0 < 256 := by decide +kernel
/-- do w bytes from p on spell l -/
def mt (b : Nat → Nat) (p w : Nat) (l : List Nat) : Bool := l.length == w && (List.range w).all (fun k => l.getD k 0 == b (p + k))
theorem mt_iff {b : Nat → Nat} {p w : Nat} {l : List Nat} : mt b p w l = true ↔ l.length = w ∧ ∀ k, k < w → l.getD k 0 = b (p + k) := by
  unfold mt
  simp only [Bool.and_eq_true, beq_iff_eq, List.all_eq_true, List.mem_range]
theorem mt_inj {b : Nat → Nat} {p w : Nat} {l l' : List Nat} (h : mt b p w l = true) (h' : mt b p w l' = true) : l = l' := by
  rw [mt_iff] at h h'
  refine List.ext_getElem (by omega) (fun k h1 h2 => ?_)
  have e1 := h.2 k (by omega)
  have e2 := h'.2 k (by omega)
  rw [List.getD_eq_getElem?_getD, List.getElem?_eq_getElem h1, Option.getD_some] at e1
  rw [List.getD_eq_getElem?_getD, List.getElem?_eq_getElem h2, Option.getD_some] at e2
  rw [e1, e2]
def wordF (b : Nat → Nat) (p w : Nat) : Nat → Nat → Nat
  | 0, _ => 128
  | f + 1, j => if mt b p w (spN.getD j []) = true then j else wordF b p w f (j + 1)
def wordK (b : Nat → Nat) (p w : Nat) : Nat := wordF b p w 27 1
theorem wordF_cases (b : Nat → Nat) (p w : Nat) : ∀ f j, (wordF b p w f j = 128 ∧ ∀ i, j ≤ i → i < j + f → mt b p w (spN.getD i []) = false) ∨ (j ≤ wordF b p w f j ∧ wordF b p w f j < j + f ∧ mt b p w (spN.getD (wordF b p w f j) []) = true) := by
  intro f
  induction f with
  | zero => intro j; exact Or.inl ⟨rfl, fun i h1 h2 => by omega⟩
  | succ f ih =>
    intro j
    rw [wordF]
    by_cases h : mt b p w (spN.getD j []) = true
    · rw [if_pos h]
      exact Or.inr ⟨by omega, by omega, h⟩
    · rw [if_neg h]
      rcases ih (j + 1) with ⟨h1, h2⟩ | ⟨h1, h2, h3⟩
      · refine Or.inl ⟨h1, fun i g1 g2 => ?_⟩
        by_cases q : i = j
        · subst q; simpa using h
        · exact h2 i (by omega) (by omega)
      · exact Or.inr ⟨by omega, by omega, h3⟩
theorem wordK_cases (b : Nat → Nat) (p w : Nat) : (wordK b p w = 128 ∧ ∀ i, 1 ≤ i → i < 28 → mt b p w (spN.getD i []) = false) ∨ (1 ≤ wordK b p w ∧ wordK b p w < 28 ∧ mt b p w (spN.getD (wordK b p w) []) = true) := wordF_cases b p w 27 1
theorem wordK_iff {b : Nat → Nat} {p w j : Nat} (h1 : 1 ≤ j) (h2 : j < 28) : wordK b p w = j ↔ mt b p w (spN.getD j []) = true := by
  rcases wordK_cases b p w with ⟨e1, e2⟩ | ⟨e1, e2, e3⟩
  · rw [e1, e2 j h1 h2]
    constructor
    · intro z; omega
    · intro z; cases z
  · constructor
    · intro z; rw [z] at e3; exact e3
    · intro z
      exact spN_inj _ e2 _ h2 (mt_inj e3 z)
/-- the end of the run that goes on from p -/
def runF (b : Nat → Nat) : Nat → Nat → Nat
  | 0, p => p
  | f + 1, p => if isGo (b p) = true then runF b f (p + 1) else p
def runE (b : Nat → Nat) (n p : Nat) : Nat := runF b (n - p) p
theorem runF_le (b : Nat → Nat) : ∀ f p, p ≤ runF b f p ∧ runF b f p ≤ p + f := by
  intro f
  induction f with
  | zero => intro p; exact ⟨Nat.le_refl _, Nat.le_refl _⟩
  | succ f ih =>
    intro p
    rw [runF]
    split
    · have := ih (p + 1); omega
    · omega
theorem runE_le {b : Nat → Nat} {n p : Nat} (h : p ≤ n) : p ≤ runE b n p ∧ runE b n p ≤ n := by
  have := runF_le b (n - p) p
  unfold runE
  omega
theorem runE_step {b : Nat → Nat} {n p : Nat} (h : p < n) : runE b n p = if isGo (b p) = true then runE b n (p + 1) else p := by
  unfold runE
  rw [show n - p = (n - (p + 1)) + 1 by omega, runF]
theorem runE_end {b : Nat → Nat} {n p : Nat} (h : n ≤ p) : runE b n p = p := by
  unfold runE
  rw [show n - p = 0 by omega]; rfl
/-- a number of w digits from p on, behind x -/
def numF (b : Nat → Nat) : Nat → Nat → Nat → Option Nat
  | 0, _, x => some x
  | w + 1, p, x => if isDg (b p) = true then numF b w (p + 1) (x * 10 + b p - 48) else none
def numK (b : Nat → Nat) (p w : Nat) : Option Nat := if 3 < w then none else numF b w p 0
theorem isDg_b {c : Nat} (h : isDg c = true) : 48 ≤ c ∧ c ≤ 57 := by unfold isDg at h; simpa using h
theorem numF_lt (b : Nat → Nat) : ∀ w p x y, numF b w p x = some y → ∀ e, x < e → y < e * 10 ^ w := by
  intro w
  induction w with
  | zero => intro p x y h e he; cases h; simpa using he
  | succ w ih =>
    intro p x y h e he
    rw [numF] at h
    by_cases g : isDg (b p) = true
    · rw [if_pos g] at h
      have := isDg_b g
      have := ih _ _ _ h (e * 10) (by omega)
      rw [Nat.pow_succ]
      rw [show e * (10 ^ w * 10) = e * 10 * 10 ^ w by rw [Nat.mul_comm (10 ^ w) 10, Nat.mul_assoc]]
      exact this
    · rw [if_neg g] at h; cases h
theorem numK_lt {b : Nat → Nat} {p w y : Nat} (h : numK b p w = some y) : y < 1000 := by
  unfold numK at h
  by_cases g : 3 < w
  · rw [if_pos g] at h; cases h
  · rw [if_neg g] at h
    have := numF_lt b w p 0 y h 1 (by omega)
    have e : 10 ^ w ≤ 10 ^ 3 := Nat.pow_le_pow_right (by omega) (by omega)
    omega
/-- the token at p: kind, value, width -/
def tokA (b : Nat → Nat) (n p : Nat) : Nat × Nat × Nat :=
  if isSg (b p) = true then (b p, 1, 1)
  else if isLt (b p) = true then (if 12 < runE b n p - p then 131 else wordK b p (runE b n p - p), runE b n p - p, runE b n p - p)
  else if isDg (b p) = true then (match numK b p (runE b n p - p) with
    | some v => (129, v, runE b n p - p)
    | none => (131, 0, runE b n p - p))
  else (131, 1, runE b n p - p)
/-- the tokens from p on: kind, place, value -/
def cut (b : Nat → Nat) (n : Nat) : Nat → Nat → List (Nat × Nat × Nat)
  | 0, _ => [(130, n, 0)]
  | f + 1, p => if n ≤ p then [(130, n, 0)] else if isBl (b p) = true then cut b n f (p + 1) else ((tokA b n p).1, p, (tokA b n p).2.1) :: cut b n f (p + max 1 (tokA b n p).2.2)
def toks (b : Nat → Nat) (n : Nat) : List (Nat × Nat × Nat) := cut b n (n + 1) 0
def tkOf (b : Nat → Nat) (n : Nat) : Tk := ((toks b n).length, fun j => ((toks b n).getD j (130, n, 0)).1, fun j => ((toks b n).getD j (130, n, 0)).2.1, fun j => ((toks b n).getD j (130, n, 0)).2.2, b)
/-- what a token keeps to -/
def TokOk (n : Nat) (x : Nat × Nat × Nat) : Prop := (x.1 < 132) ∧ (x.1 ≠ 130) ∧ (x.2.1 ≤ n) ∧ (x.2.2 ≤ max n 1000) ∧ (x.1 = 128 → x.2.2 ≤ 12 ∧ 1 ≤ x.2.2 ∧ x.2.1 + x.2.2 ≤ n) ∧ (x.1 = 129 → x.2.2 < 1000)
theorem TokOk.k {n : Nat} {x : Nat × Nat × Nat} (h : TokOk n x) : x.1 < 132 := h.1
theorem TokOk.n130 {n : Nat} {x : Nat × Nat × Nat} (h : TokOk n x) : x.1 ≠ 130 := h.2.1
theorem TokOk.pl {n : Nat} {x : Nat × Nat × Nat} (h : TokOk n x) : x.2.1 ≤ n := h.2.2.1
theorem TokOk.v {n : Nat} {x : Nat × Nat × Nat} (h : TokOk n x) : x.2.2 ≤ max n 1000 := h.2.2.2.1
theorem TokOk.nm {n : Nat} {x : Nat × Nat × Nat} (h : TokOk n x) : x.1 = 128 → x.2.2 ≤ 12 ∧ 1 ≤ x.2.2 ∧ x.2.1 + x.2.2 ≤ n := h.2.2.2.2.1
theorem TokOk.num {n : Nat} {x : Nat × Nat × Nat} (h : TokOk n x) : x.1 = 129 → x.2.2 < 1000 := h.2.2.2.2.2
theorem isSg_b {c : Nat} (h : isSg c = true) : c = 40 ∨ c = 41 ∨ c = 44 ∨ c = 59 ∨ c = 60 ∨ c = 61 ∨ c = 62 ∨ c = 123 ∨ c = 125 := by
  unfold isSg at h
  simp only [Bool.or_eq_true, beq_iff_eq] at h
  omega
theorem isGo_of {c : Nat} (h : isLt c = true ∨ isDg c = true) : isGo c = true := by
  unfold isGo
  rcases h with h | h <;> simp [h]
theorem runE_lt {b : Nat → Nat} {n p : Nat} (h : p < n) (g : isGo (b p) = true) : p < runE b n p := by
  rw [runE_step h, if_pos g]
  have := runE_le (b := b) (n := n) (p := p + 1) (by omega)
  omega
theorem tokA_ok {b : Nat → Nat} {n p : Nat} (h : p < n) : TokOk n ((tokA b n p).1, p, (tokA b n p).2.1) ∧ p + (tokA b n p).2.2 ≤ n := by
  have hr := runE_le (b := b) (n := n) (p := p) (by omega)
  unfold tokA
  by_cases g1 : isSg (b p) = true
  · rw [if_pos g1]
    have := isSg_b g1
    exact ⟨⟨by show b p < 132; omega, by show b p ≠ 130; omega, by show p ≤ n; omega, by show 1 ≤ _; omega, fun z => by have : b p = 128 := z; omega, fun z => by have : b p = 129 := z; omega⟩, by show p + 1 ≤ n; omega⟩
  rw [if_neg g1]
  by_cases g2 : isLt (b p) = true
  · rw [if_pos g2]
    have hl := runE_lt h (isGo_of (Or.inl g2))
    have hw := wordK_cases b p (runE b n p - p)
    dsimp only
    refine ⟨⟨?_, ?_, by show p ≤ n; omega, by show runE b n p - p ≤ _; omega, ?_, ?_⟩, by omega⟩
    · split
      · show 131 < 132; omega
      · rcases hw with ⟨e, _⟩ | ⟨_, e, _⟩ <;> (show wordK _ _ _ < 132; omega)
    · split
      · show 131 ≠ 130; omega
      · rcases hw with ⟨e, _⟩ | ⟨_, e, _⟩ <;> (show wordK _ _ _ ≠ 130; omega)
    · intro z
      split at z
      · exact absurd z (by show ¬ 131 = 128; omega)
      · show runE b n p - p ≤ 12 ∧ 1 ≤ runE b n p - p ∧ p + (runE b n p - p) ≤ n; omega
    · intro z
      split at z
      · exact absurd z (by show ¬ 131 = 129; omega)
      · have z2 : wordK b p (runE b n p - p) = 129 := z
        rcases hw with ⟨e, _⟩ | ⟨_, e, _⟩ <;> omega
  rw [if_neg g2]
  by_cases g3 : isDg (b p) = true
  · rw [if_pos g3]
    cases hn : numK b p (runE b n p - p) with
    | none => exact ⟨⟨by show 131 < 132; omega, by show 131 ≠ 130; omega, by show p ≤ n; omega, by show 0 ≤ _; omega, fun z => by have : 131 = 128 := z; omega, fun z => by have : 131 = 129 := z; omega⟩, by show p + (runE b n p - p) ≤ n; omega⟩
    | some v =>
      have := numK_lt hn
      exact ⟨⟨by show 129 < 132; omega, by show 129 ≠ 130; omega, by show p ≤ n; omega, by show v ≤ _; omega, fun z => by have : 129 = 128 := z; omega, fun _ => this⟩, by show p + (runE b n p - p) ≤ n; omega⟩
  · rw [if_neg g3]
    exact ⟨⟨by show 131 < 132; omega, by show 131 ≠ 130; omega, by show p ≤ n; omega, by show 1 ≤ _; omega, fun z => by have : 131 = 128 := z; omega, fun z => by have : 131 = 129 := z; omega⟩, by show p + (runE b n p - p) ≤ n; omega⟩
theorem cut_ok (b : Nat → Nat) (n : Nat) : ∀ f p, ∃ l, cut b n f p = l ++ [(130, n, 0)] ∧ (∀ x, x ∈ l → TokOk n x) ∧ l.length ≤ n - p := by
  intro f
  induction f with
  | zero => intro p; exact ⟨[], rfl, fun x h => (by cases h), Nat.zero_le _⟩
  | succ f ih =>
    intro p
    rw [cut]
    by_cases h : n ≤ p
    · rw [if_pos h]; exact ⟨[], rfl, fun x h => (by cases h), Nat.zero_le _⟩
    rw [if_neg h]
    by_cases g : isBl (b p) = true
    · rw [if_pos g]
      obtain ⟨l, h1, h2, h3⟩ := ih (p + 1)
      exact ⟨l, h1, h2, by omega⟩
    · rw [if_neg g]
      obtain ⟨l, h1, h2, h3⟩ := ih (p + max 1 (tokA b n p).2.2)
      refine ⟨((tokA b n p).1, p, (tokA b n p).2.1) :: l, by rw [h1]; rfl, ?_, ?_⟩
      · intro x hx
        rcases List.mem_cons.1 hx with rfl | hx
        · exact (tokA_ok (by omega)).1
        · exact h2 x hx
      · rw [List.length_cons]
        omega
theorem toks_ok (b : Nat → Nat) (n : Nat) : ∃ l, toks b n = l ++ [(130, n, 0)] ∧ (∀ x, x ∈ l → TokOk n x) ∧ l.length ≤ n := by
  obtain ⟨l, h1, h2, h3⟩ := cut_ok b n (n + 1) 0
  exact ⟨l, h1, h2, by omega⟩
theorem tk_cases (b : Nat → Nat) (n : Nat) {j : Nat} (hj : j < (tkOf b n).n) : (j + 1 = (tkOf b n).n ∧ (tkOf b n).k j = 130 ∧ (tkOf b n).pl j = n ∧ (tkOf b n).v j = 0) ∨ (j + 1 < (tkOf b n).n ∧ TokOk n ((tkOf b n).k j, (tkOf b n).pl j, (tkOf b n).v j)) := by
  obtain ⟨l, h1, h2, h3⟩ := toks_ok b n
  have hn : (tkOf b n).n = l.length + 1 := by show (toks b n).length = _; rw [h1]; simp
  by_cases q : j < l.length
  · right
    refine ⟨by omega, ?_⟩
    have e : (toks b n).getD j (130, n, 0) = l[j] := by
      rw [h1, List.getD_eq_getElem?_getD, List.getElem?_append_left q, List.getElem?_eq_getElem q, Option.getD_some]
    show TokOk n (((toks b n).getD j (130, n, 0)).1, ((toks b n).getD j (130, n, 0)).2.1, ((toks b n).getD j (130, n, 0)).2.2)
    rw [e]
    exact h2 _ (List.getElem_mem q)
  · left
    have q2 : j = l.length := by omega
    have e : (toks b n).getD j (130, n, 0) = (130, n, 0) := by
      rw [h1, List.getD_eq_getElem?_getD, List.getElem?_append_right (by omega), q2]; simp
    refine ⟨by omega, ?_, ?_, ?_⟩
    · show ((toks b n).getD j (130, n, 0)).1 = 130; rw [e]
    · show ((toks b n).getD j (130, n, 0)).2.1 = n; rw [e]
    · show ((toks b n).getD j (130, n, 0)).2.2 = 0; rw [e]
