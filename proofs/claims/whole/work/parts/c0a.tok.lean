/-! HOW LONG the print is, I: tokens and the bytes that they take. -/
def wl (x : Nat) : Bool := decide (x < 28) || (x == 128 || x == 129)
/-- bytes of a token: kind, value -/
def wdt (x v : Nat) : Nat := if x = 128 then v else if x = 129 then (sNum v).length else if x < 28 then (spN.getD x []).length else if x = 130 ∨ x = 131 then 0 else 1
def Ch (n : Nat) : Nat → Bool → List (Nat × Nat × Nat) → Prop
  | _, _, [] => True
  | p, g, x :: l => p ≤ x.2.1 ∧ (g = true → wl x.1 = true → p + 1 ≤ x.2.1) ∧ x.2.1 + wdt x.1 x.2.2 ≤ n ∧ Ch n (x.2.1 + wdt x.1 x.2.2) (wl x.1) l
theorem Ch.mono {n : Nat} {p p' : Nat} {g : Bool} {l : List (Nat × Nat × Nat)} (h : Ch n p' g l) (hp : p ≤ p') : Ch n p g l := by
  cases l with
  | nil => trivial
  | cons x l => exact ⟨by have := h.1; omega, fun a b => by have := h.2.1 a b; omega, h.2.2⟩
theorem Ch.any {n : Nat} {p p' : Nat} {g g' : Bool} {l : List (Nat × Nat × Nat)} (h : Ch n p' g' l) (hp : p < p') : Ch n p g l := by
  cases l with
  | nil => trivial
  | cons x l => exact ⟨by have := h.1; omega, fun _ _ => by have := h.1; omega, h.2.2⟩
theorem run_stop {b : Nat → Nat} {n : Nat} : ∀ f p, p + f = n → runE b n p < n → isGo (b (runE b n p)) = false := by
  intro f
  induction f with
  | zero => intro p hp h; rw [runE_end (by omega)] at h; omega
  | succ f ih =>
    intro p hp h
    rw [runE_step (by omega)] at h ⊢
    split
    · next c => rw [if_pos c] at h; exact ih (p + 1) (by omega) h
    · next c => simpa using c
theorem sNum_len {v w : Nat} (h : v < 10 ^ w) (h1 : 1 ≤ w) (h3 : w ≤ 3) : (sNum v).length ≤ w := by
  unfold sNum
  have : w = 1 ∨ w = 2 ∨ w = 3 := by omega
  rcases this with rfl | rfl | rfl
  · rw [if_neg (by omega), if_neg (by omega)]; exact Nat.le_refl _
  · rw [if_neg (by omega)]; split <;> simp
  · split <;> split <;> simp
theorem sNum_pos (v : Nat) : 1 ≤ (sNum v).length := by
  unfold sNum
  rw [List.length_append, List.length_append]; show 1 ≤ _ + (_ + 1); omega
theorem cut_ch (b : Nat → Nat) (n : Nat) : ∀ f p g, n < p + f → p ≤ n → (g = true → p < n → isGo (b p) = false) → Ch n p g (cut b n f p) := by
  intro f
  induction f with
  | zero => intro p g h1 h2; omega
  | succ f ih =>
    intro p g h1 h2 hg
    rw [cut]
    by_cases hp : n ≤ p
    · rw [if_pos hp]
      exact ⟨h2, fun _ c => (by cases c), Nat.le_refl _, trivial⟩
    · rw [if_neg hp]
      by_cases hb : isBl (b p) = true
      · rw [if_pos hb]
        exact (ih (p + 1) false (by omega) (by omega) (fun c => by cases c)).any (by omega)
      · rw [if_neg hb]
        have ok := tokA_ok (b := b) (n := n) (p := p) (by omega)
        have rl := runE_le (b := b) (n := n) (p := p) (by omega)
        -- what is asked of the token
        have key : (wl (tokA b n p).1 = true → isGo (b p) = true ∧ (tokA b n p).2.2 = runE b n p - p) ∧ wdt (tokA b n p).1 (tokA b n p).2.1 ≤ max 1 (tokA b n p).2.2 := by
          unfold tokA
          by_cases s1 : isSg (b p) = true
          · rw [if_pos s1]
            have := isSg_b s1
            refine ⟨fun c => ?_, ?_⟩
            · exfalso
              unfold wl at c
              simp only [Bool.or_eq_true, decide_eq_true_eq, beq_iff_eq] at c
              omega
            · unfold wdt
              show (if b p = 128 then 1 else if b p = 129 then (sNum 1).length else if b p < 28 then (spN.getD (b p) []).length else if b p = 130 ∨ b p = 131 then 0 else 1) ≤ max 1 1
              rw [if_neg (by omega), if_neg (by omega), if_neg (by omega), if_neg (by omega)]; exact Nat.le_refl _
          · rw [if_neg s1]
            by_cases s2 : isLt (b p) = true
            · rw [if_pos s2]
              have go := isGo_of (Or.inl s2)
              refine ⟨fun _ => ⟨go, rfl⟩, ?_⟩
              show wdt (if 12 < runE b n p - p then 131 else wordK b p (runE b n p - p)) (runE b n p - p) ≤ max 1 (runE b n p - p)
              split
              · show 0 ≤ _; omega
              · rcases wordK_cases b p (runE b n p - p) with ⟨e1, _⟩ | ⟨e1, e2, e3⟩
                · rw [e1]; show runE b n p - p ≤ _; omega
                · rw [mt_iff] at e3
                  unfold wdt
                  rw [if_neg (by omega), if_neg (by omega), if_pos (by omega), e3.1]; omega
            · rw [if_neg s2]
              by_cases s3 : isDg (b p) = true
              · rw [if_pos s3]
                have go := isGo_of (Or.inr s3)
                have lt := runE_lt (b := b) (n := n) (p := p) (by omega) go
                cases hm : numK b p (runE b n p - p) with
                | none => exact ⟨fun _ => ⟨go, rfl⟩, by show 0 ≤ _; omega⟩
                | some v =>
                  refine ⟨fun _ => ⟨go, rfl⟩, ?_⟩
                  show (sNum v).length ≤ max 1 (runE b n p - p)
                  unfold numK at hm
                  by_cases w3 : 3 < runE b n p - p
                  · rw [if_pos w3] at hm; cases hm
                  · rw [if_neg w3] at hm
                    have hv := numF_lt b _ _ _ _ hm 1 (by omega)
                    rw [Nat.one_mul] at hv
                    have := sNum_len hv (by omega) (by omega)
                    omega
              · rw [if_neg s3]
                refine ⟨fun c => ?_, by show 0 ≤ _; omega⟩
                have : wl 131 = true := c
                cases this
        have nx : p + max 1 (tokA b n p).2.2 ≤ n := by have := ok.2; omega
        refine ⟨Nat.le_refl _, fun g1 w1 => ?_, ?_, ?_⟩
        · have e1 := hg g1 (by omega)
          have e2 := (key.1 w1).1
          rw [e1] at e2; cases e2
        · show p + wdt (tokA b n p).1 (tokA b n p).2.1 ≤ n
          have := key.2; omega
        · refine (ih (p + max 1 (tokA b n p).2.2) (wl (tokA b n p).1) (by omega) nx (fun w1 hlt => ?_)).mono (by show p + wdt (tokA b n p).1 (tokA b n p).2.1 ≤ _; have := key.2; omega)
          obtain ⟨go, ew⟩ := key.1 w1
          have lt := runE_lt (b := b) (n := n) (p := p) (by omega) go
          have er : p + max 1 (tokA b n p).2.2 = runE b n p := by rw [ew]; omega
          rw [er] at hlt ⊢
          exact run_stop (n - p) p (by omega) hlt
theorem Ch.idx {n : Nat} : ∀ (l : List (Nat × Nat × Nat)) (p : Nat) (g : Bool), Ch n p g l → ∀ i, (l.getD i (130, n, 0)).2.1 + wdt (l.getD i (130, n, 0)).1 (l.getD i (130, n, 0)).2.2 ≤ n ∧ (l.getD i (130, n, 0)).2.1 + wdt (l.getD i (130, n, 0)).1 (l.getD i (130, n, 0)).2.2 ≤ (l.getD (i + 1) (130, n, 0)).2.1 ∧ (wl (l.getD i (130, n, 0)).1 = true → wl (l.getD (i + 1) (130, n, 0)).1 = true → (l.getD i (130, n, 0)).2.1 + wdt (l.getD i (130, n, 0)).1 (l.getD i (130, n, 0)).2.2 + 1 ≤ (l.getD (i + 1) (130, n, 0)).2.1) := by
  intro l
  induction l with
  | nil => intro p g _ i; exact ⟨Nat.le_refl _, Nat.le_refl _, fun c => (by cases c)⟩
  | cons x l ih =>
    intro p g h i
    obtain ⟨h1, h2, h3, h4⟩ := h
    cases i with
    | succ i => exact ih _ _ h4 i
    | zero =>
      refine ⟨h3, ?_, ?_⟩
      · show x.2.1 + wdt x.1 x.2.2 ≤ (l.getD 0 (130, n, 0)).2.1
        cases l with
        | nil => exact h3
        | cons y l => exact h4.1
      · show wl x.1 = true → wl (l.getD 0 (130, n, 0)).1 = true → x.2.1 + wdt x.1 x.2.2 + 1 ≤ (l.getD 0 (130, n, 0)).2.1
        cases l with
        | nil => intro _ c; cases c
        | cons y l => exact fun a b => h4.2.1 a b
/-- places and widths of tokens -/
def TL (k : Tk) (N : Nat) : Prop := (∀ i, k.pl i ≤ N) ∧ (∀ i, k.pl i + wdt (k.k i) (k.v i) ≤ k.pl (i + 1)) ∧ (∀ i, wl (k.k i) = true → wl (k.k (i + 1)) = true → k.pl i + wdt (k.k i) (k.v i) + 1 ≤ k.pl (i + 1))
theorem TL.le {k : Tk} {N : Nat} (h : TL k N) : ∀ i, k.pl i ≤ N := h.1
theorem TL.st {k : Tk} {N : Nat} (h : TL k N) : ∀ i, k.pl i + wdt (k.k i) (k.v i) ≤ k.pl (i + 1) := h.2.1
theorem TL.gp {k : Tk} {N : Nat} (h : TL k N) : ∀ i, wl (k.k i) = true → wl (k.k (i + 1)) = true → k.pl i + wdt (k.k i) (k.v i) + 1 ≤ k.pl (i + 1) := h.2.2
theorem TL_of (b : Nat → Nat) (n : Nat) : TL (tkOf b n) n := by
  have h := cut_ch b n (n + 1) 0 false (by omega) (by omega) (fun c => by cases c)
  have key := Ch.idx _ _ _ h
  exact ⟨fun i => by have := (key i).1; show ((toks b n).getD i (130, n, 0)).2.1 ≤ n; exact Nat.le_trans (Nat.le_add_right _ _) this, fun i => (key i).2.1, fun i => (key i).2.2⟩
theorem lw_sp : ∀ j, j < 28 → 1 ≤ j → (wd j).length = (spN.getD j []).length := by decide +kernel
