/-! DECISIONS, as a function of text and bags. -/
def tru (T : Txt) (g : Nat → Nat) (i : Nat) : Nat := match T.root i with
  | none => 1
  | some p => ev T g 43 p
def strictV (ds : List Nat) (yes no my mn : Nat) : Nat := if no ∈ ds then no else if 5 ∈ ds ∨ (mn ∈ ds ∧ (yes ∈ ds ∨ my ∈ ds)) then 5 else if mn ∈ ds then mn else if yes ∈ ds then yes else if my ∈ ds then my else 0
/-- the first that decides -/
def fstC (d : Nat → Nat) : List Nat → Option Nat
  | [] => none
  | k :: l => if d k ≠ 0 then some k else fstC d l
/-- the first that is true -/
def oneC (t : Nat → Nat) : List Nat → Option Nat
  | [] => none
  | k :: l => if t k = 1 then some k else oneC t l
def combV (w : Nat) (ks : List Nat) (d t : Nat → Nat) : Nat :=
  if w = 0 then strictV (ks.map d) 1 2 3 4
  else if w = 1 then strictV (ks.map d) 2 1 4 3
  else if w = 2 then (match fstC d ks with
    | none => 0
    | some k => d k)
  else if w = 3 then (if 2 ∈ ks.map t ∨ 1 < (ks.map t).count 1 then 5 else match oneC t ks with
    | none => 0
    | some k => d k)
  else if w = 4 then (if 1 ∈ ks.map d then 1 else 2)
  else (if 2 ∈ ks.map d then 2 else 1)
def wk (t d : Nat) : Nat := if t = 0 then 0 else if t = 1 then d else if d = 1 ∨ d = 2 then d + 2 else d
def dcs (T : Txt) (g : Nat → Nat) : Nat → Nat → Nat
  | 0, _ => 0
  | h + 1, i => wk (tru T g i) (if T.srt i = 2 then combV ((T.way i).getD 0) (kids T.fa T.nn i) (dcs T g h) (tru T g) else T.srt i + 1)
/-- the decision of node i -/
def dec (T : Txt) (g : Nat → Nat) (i : Nat) : Nat := dcs T g T.nn i
theorem tru_le (T : Txt) (g : Nat → Nat) (i : Nat) : tru T g i ≤ 2 := by
  unfold tru
  cases T.root i with
  | none => show 1 ≤ 2; omega
  | some p => exact ev_le _ _ _ _
theorem fstC_congr {d d' : Nat → Nat} : ∀ l : List Nat, (∀ k, k ∈ l → d' k = d k) → fstC d' l = fstC d l := by
  intro l
  induction l with
  | nil => intro _; rfl
  | cons x l ih =>
    intro h
    rw [fstC, fstC, h x (List.mem_cons_self ..), ih (fun k hk => h k (List.mem_cons_of_mem _ hk))]
theorem fstC_mem {d : Nat → Nat} : ∀ (l : List Nat) (k : Nat), fstC d l = some k → k ∈ l ∧ d k ≠ 0 := by
  intro l
  induction l with
  | nil => intro k h; cases h
  | cons x l ih =>
    intro k h
    rw [fstC] at h
    by_cases q : d x ≠ 0
    · rw [if_pos q] at h
      cases h
      exact ⟨List.mem_cons_self .., q⟩
    · rw [if_neg q] at h
      have := ih k h
      exact ⟨List.mem_cons_of_mem _ this.1, this.2⟩
theorem oneC_mem {t : Nat → Nat} : ∀ (l : List Nat) (k : Nat), oneC t l = some k → k ∈ l ∧ t k = 1 := by
  intro l
  induction l with
  | nil => intro k h; cases h
  | cons x l ih =>
    intro k h
    rw [oneC] at h
    by_cases q : t x = 1
    · rw [if_pos q] at h
      cases h
      exact ⟨List.mem_cons_self .., q⟩
    · rw [if_neg q] at h
      have := ih k h
      exact ⟨List.mem_cons_of_mem _ this.1, this.2⟩
theorem combV_congr {w : Nat} {ks : List Nat} {d d' t : Nat → Nat} (h : ∀ k, k ∈ ks → d' k = d k) : combV w ks d' t = combV w ks d t := by
  have hm : ks.map d' = ks.map d := List.map_congr_left h
  unfold combV
  rw [hm, fstC_congr ks h]
  split
  · rfl
  · split
    · rfl
    · split
      · cases hf : fstC d ks with
        | none => rfl
        | some k => exact h k (fstC_mem ks k hf).1
      · split
        · split
          · rfl
          · cases hf : oneC t ks with
            | none => rfl
            | some k => exact h k (oneC_mem ks k hf).1
        · rfl
theorem dcs_eq (T : Txt) (g : Nat → Nat) (h i : Nat) : dcs T g (h + 1) i = wk (tru T g i) (if T.srt i = 2 then combV ((T.way i).getD 0) (kids T.fa T.nn i) (dcs T g h) (tru T g) else T.srt i + 1) := by rw [dcs]
theorem dcs_up {T : Txt} {g : Nat → Nat} (N : NI T) : ∀ h i, i < T.nn → T.nn ≤ i + h → dcs T g (h + 1) i = dcs T g h i := by
  intro h
  induction h with
  | zero => intro i h1 h2; omega
  | succ h ih =>
    intro i h1 h2
    rw [dcs_eq T g (h + 1) i, dcs_eq T g h i]
    have e : combV ((T.way i).getD 0) (kids T.fa T.nn i) (dcs T g (h + 1)) (tru T g) = combV ((T.way i).getD 0) (kids T.fa T.nn i) (dcs T g h) (tru T g) := by
      refine combV_congr (fun k hk => ?_)
      obtain ⟨k1, k2⟩ := mem_kids.1 hk
      have := (N.fl k k1 i k2).1
      exact ih k k1 (by omega)
    rw [e]
theorem dec_eq {T : Txt} {g : Nat → Nat} (N : NI T) {i : Nat} (hi : i < T.nn) : dec T g i = wk (tru T g i) (if T.srt i = 2 then combV ((T.way i).getD 0) (kids T.fa T.nn i) (dec T g) (tru T g) else T.srt i + 1) := by
  have h1 : dec T g i = dcs T g (T.nn + 1) i := (dcs_up N T.nn i hi (by omega)).symm
  rw [h1, dcs_eq]
  rfl
theorem strictV_le {ds : List Nat} {a b c e : Nat} (h : a ≤ 5 ∧ b ≤ 5 ∧ c ≤ 5 ∧ e ≤ 5) : strictV ds a b c e ≤ 5 := by
  unfold strictV
  repeat (first | omega | split)
theorem wk_le {t d : Nat} (hd : d ≤ 5) : wk t d ≤ 5 := by
  unfold wk
  split
  · omega
  · split
    · exact hd
    · split
      · omega
      · exact hd
theorem dcs_le {T : Txt} {g : Nat → Nat} (N : NI T) : ∀ h i, i < T.nn → dcs T g h i ≤ 5 := by
  intro h
  induction h with
  | zero => intro i _; exact Nat.zero_le _
  | succ h ih =>
    intro i hi
    rw [dcs_eq]
    have hs := N.sr i hi
    have hc : combV ((T.way i).getD 0) (kids T.fa T.nn i) (dcs T g h) (tru T g) ≤ 5 := by
      unfold combV
      split
      · exact strictV_le (by omega)
      · split
        · exact strictV_le (by omega)
        · split
          · cases hf : fstC (dcs T g h) (kids T.fa T.nn i) with
            | none => exact Nat.zero_le _
            | some k => exact ih k (mem_kids.1 (fstC_mem _ k hf).1).1
          · split
            · split
              · exact Nat.le_refl _
              · cases hf : oneC (tru T g) (kids T.fa T.nn i) with
                | none => exact Nat.zero_le _
                | some k => exact ih k (mem_kids.1 (oneC_mem _ k hf).1).1
            · split
              · split <;> omega
              · split <;> omega
    have hd : (if T.srt i = 2 then combV ((T.way i).getD 0) (kids T.fa T.nn i) (dcs T g h) (tru T g) else T.srt i + 1) ≤ 5 := by
      split
      · exact hc
      · omega
    exact wk_le hd
theorem dec_le {T : Txt} {g : Nat → Nat} (N : NI T) {i : Nat} (hi : i < T.nn) : dec T g i ≤ 5 := dcs_le N T.nn i hi
/-- by which child a set of way first or one decides, as the class keeps it -/
def chs (T : Txt) (g : Nat → Nat) (i : Nat) : Option Nat :=
  if tru T g i = 0 ∨ T.srt i ≠ 2 then none
  else if (T.way i).getD 0 = 2 then fstC (dec T g) (kids T.fa T.nn i)
  else if (T.way i).getD 0 = 3 then (if 2 ∈ (kids T.fa T.nn i).map (tru T g) ∨ 1 < ((kids T.fa T.nn i).map (tru T g)).count 1 then none else oneC (tru T g) (kids T.fa T.nn i))
  else none
