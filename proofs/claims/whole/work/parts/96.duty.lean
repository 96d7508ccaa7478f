/-! DUTIES, as a function of text and bags: nodes in the order in which they close. -/
theorem fm_congr {α β : Type} {f g : α → List β} : ∀ l : List α, (∀ x, x ∈ l → f x = g x) → l.flatMap f = l.flatMap g := by
  intro l
  induction l with
  | nil => intro _; rfl
  | cons x l ih =>
    intro h
    rw [List.flatMap_cons, List.flatMap_cons, h x (List.mem_cons_self ..), ih (fun y hy => h y (List.mem_cons_of_mem _ hy))]
/-- a node's subtree, fathers behind their children -/
def pord (fa : Nat → Option Nat) (n : Nat) : Nat → Nat → List Nat
  | 0, _ => []
  | h + 1, i => (kids fa n i).flatMap (pord fa n h) ++ [i]
theorem kids_s {fa : Nat → Option Nat} {n i : Nat} : kids fa (n + 1) i = kids fa n i ++ (if fa n = some i then [n] else []) := by
  unfold kids
  rw [List.range_succ, List.filter_append]
  by_cases h : fa n = some i
  · simp [h]
  · simp [h]
theorem kids_last {fa : Nat → Option Nat} {N a : Nat} (h : ∀ i, i < N → ∀ c, fa i = some c → c < i) (ha : N ≤ a + 1) : kids fa N a = [] := by
  cases hk : kids fa N a with
  | nil => rfl
  | cons x l =>
    have hx : x ∈ kids fa N a := by rw [hk]; exact List.mem_cons_self ..
    rw [mem_kids] at hx
    have := h x hx.1 a hx.2
    omega
def insn (n c x : Nat) : List Nat := if x = c then [n, x] else [x]
theorem pord_up {fa : Nat → Option Nat} {n c : Nat} (hf : ∀ i, i < n + 1 → ∀ a, fa i = some a → a < i) (hc : fa n = some c) : ∀ h i, n + 1 ≤ h + i → i < n → pord fa (n + 1) h i = (pord fa n h i).flatMap (insn n c) := by
  intro h
  induction h with
  | zero => intro i h1 h2; omega
  | succ h ih =>
    intro i h1 h2
    rw [pord, pord, kids_s, List.flatMap_append, List.flatMap_append, List.flatMap_assoc]
    have e1 : (kids fa n i).flatMap (pord fa (n + 1) h) = (kids fa n i).flatMap (fun x => (pord fa n h x).flatMap (insn n c)) := by
      refine fm_congr _ (fun x hx => ?_)
      obtain ⟨x1, x2⟩ := mem_kids.1 hx
      have := hf x (by omega) i x2
      exact ih x (by omega) x1
    rw [e1]
    by_cases z : c = i
    · subst z
      rw [if_pos hc]
      have : pord fa (n + 1) h n = [n] := by
        obtain ⟨h', rfl⟩ : ∃ h', h = h' + 1 := ⟨h - 1, by omega⟩
        rw [pord, kids_last hf (Nat.le_refl _)]
        rfl
      simp [this, insn]
    · have z2 : ¬ i = c := fun w => z w.symm
      rw [if_neg (by rw [hc]; simpa using z)]
      simp [insn, z2]
theorem pord_fuel {fa : Nat → Option Nat} {n : Nat} (hf : ∀ i, i < n → ∀ a, fa i = some a → a < i) : ∀ h i, n ≤ h + i → i < n → pord fa n (h + 1) i = pord fa n h i := by
  intro h
  induction h with
  | zero => intro i h1 h2; omega
  | succ h ih =>
    intro i h1 h2
    show (kids fa n i).flatMap (pord fa n (h + 1)) ++ [i] = (kids fa n i).flatMap (pord fa n h) ++ [i]
    rw [fm_congr (f := pord fa n (h + 1)) (g := pord fa n h)]
    intro x hx
    obtain ⟨x1, x2⟩ := mem_kids.1 hx
    have := hf x x1 i x2
    exact ih x (by omega) x1
theorem ins_id {n c : Nat} : ∀ l : List Nat, c ∉ l → l.flatMap (insn n c) = l := by
  intro l
  induction l with
  | nil => intro _; rfl
  | cons x l ih =>
    intro h
    rw [List.flatMap_cons, ih (fun z => h (List.mem_cons_of_mem _ z))]
    have : ¬ x = c := fun z => h (by rw [z]; exact List.mem_cons_self ..)
    simp [insn, this]
theorem ins_cnt {n c : Nat} (a : Nat) : ∀ l : List Nat, n ∉ l → (l.flatMap (insn n c)).count a = if a = n then l.count c else l.count a := by
  intro l
  induction l with
  | nil => intro _; simp
  | cons x l ih =>
    intro h
    rw [List.flatMap_cons, List.count_append, ih (fun z => h (List.mem_cons_of_mem _ z))]
    have hx : ¬ x = n := fun z => h (by rw [z]; exact List.mem_cons_self ..)
    have hx2 : ¬ n = x := fun z => hx z.symm
    unfold insn
    by_cases z : x = c
    · subst z
      by_cases w : a = n
      · subst w
        simp [hx]
        omega
      · have w2 : ¬ n = a := fun y => w y.symm
        simp [w, w2, List.count_cons]
        omega
    · by_cases w : a = n
      · subst w
        simp [hx, z]
      · simp [w, z, List.count_cons]
        omega
theorem pord_lt {fa : Nat → Option Nat} {n : Nat} : ∀ h i, i < n → ∀ x, x ∈ pord fa n h i → x < n := by
  intro h
  induction h with
  | zero => intro i _ x hx; cases hx
  | succ h ih =>
    intro i hi x hx
    rw [pord] at hx
    rcases List.mem_append.1 hx with hx | hx
    · obtain ⟨y, y1, y2⟩ := List.mem_flatMap.1 hx
      exact ih y (mem_kids.1 y1).1 x y2
    · rw [List.mem_singleton.1 hx]; exact hi
/-- the way to the root -/
def isP (fa : Nat → Option Nat) : Option Nat → List Nat → Prop
  | o, [] => o = none
  | o, x :: l => o = some x ∧ isP fa (fa x) l
theorem isP_of {fa : Nat → Option Nat} : ∀ (n : Nat) (o : Option Nat), Dp fa o n → ∃ l, isP fa o l ∧ l.length = n := by
  intro n
  induction n with
  | zero => intro o h; exact ⟨[], h, rfl⟩
  | succ n ih =>
    intro o h
    obtain ⟨a, h1, h2⟩ := h
    obtain ⟨l, l1, l2⟩ := ih _ h2
    exact ⟨a :: l, ⟨h1, l1⟩, by show l.length + 1 = n + 1; omega⟩
theorem isP_cut {fa : Nat → Option Nat} {c : Nat} : ∀ (m o : Nat) (l : List Nat), Pth fa m o c → isP fa (some o) l → ∃ A rest, l = A ++ c :: rest ∧ isP fa (some c) (c :: rest) := by
  intro m
  induction m with
  | zero =>
    intro o l h hl
    rw [show o = c from h] at hl
    cases l with
    | nil => cases hl
    | cons x l =>
      obtain ⟨h1, h2⟩ := hl
      cases h1
      exact ⟨[], l, rfl, rfl, h2⟩
  | succ m ih =>
    intro o l h hl
    obtain ⟨d, h1, h2⟩ := h
    cases l with
    | nil => cases hl
    | cons x l =>
      obtain ⟨g1, g2⟩ := hl
      cases g1
      rw [h1] at g2
      obtain ⟨A, rest, e1, e2⟩ := ih d l h2 g2
      exact ⟨o :: A, rest, by rw [e1]; rfl, e2⟩
/-- where the closing stands ahead of node k -/
def CS (fa : Nat → Option Nat) (k : Nat) (cl pl : List Nat) : Prop := (isP fa (some (k - 1)) pl) ∧ (cl ++ pl = pord fa k (k + 1) 0) ∧ (∀ a, (cl ++ pl).count a ≤ 1)
theorem CS.p {fa : Nat → Option Nat} {k : Nat} {cl pl : List Nat} (h : CS fa k cl pl) : isP fa (some (k - 1)) pl := h.1
theorem CS.e {fa : Nat → Option Nat} {k : Nat} {cl pl : List Nat} (h : CS fa k cl pl) : cl ++ pl = pord fa k (k + 1) 0 := h.2.1
theorem CS.c {fa : Nat → Option Nat} {k : Nat} {cl pl : List Nat} (h : CS fa k cl pl) : ∀ a, (cl ++ pl).count a ≤ 1 := h.2.2
theorem CS.one {fa : Nat → Option Nat} (h0 : fa 0 = none) : CS fa 1 [] [0] := by
  have hk : kids fa 1 0 = [] := by
    cases hk : kids fa 1 0 with
    | nil => rfl
    | cons x l =>
      have hx : x ∈ kids fa 1 0 := by rw [hk]; exact List.mem_cons_self ..
      rw [mem_kids] at hx
      have : x = 0 := by omega
      subst this
      rw [h0] at hx
      cases hx.2
  refine ⟨⟨rfl, h0⟩, ?_, ?_⟩
  · rw [pord, hk]; rfl
  · intro a
    exact Nat.le_trans (List.count_le_length) (Nat.le_refl _)
theorem CS.step {fa : Nat → Option Nat} {k c : Nat} {cl A rest : List Nat} (hf : ∀ i, i < k + 1 → ∀ a, fa i = some a → a < i) (hk : 1 ≤ k) (hc : fa k = some c) (h : CS fa k cl (A ++ c :: rest)) (hr : isP fa (some c) (c :: rest)) : CS fa (k + 1) (cl ++ A) (k :: c :: rest) := by
  have hcnt := h.c c
  rw [List.count_append, List.count_append, List.count_cons_self] at hcnt
  have n1 : c ∉ cl := fun z => by have := List.count_pos_iff.2 z; omega
  have n2 : c ∉ A := fun z => by have := List.count_pos_iff.2 z; omega
  have n3 : c ∉ rest := fun z => by have := List.count_pos_iff.2 z; omega
  have e0 : pord fa (k + 1) (k + 1 + 1) 0 = (cl ++ (A ++ c :: rest)).flatMap (insn k c) := by
    rw [pord_up hf hc (k + 1 + 1) 0 (by omega) (by omega), pord_fuel (fun i hi => hf i (by omega)) (k + 1) 0 (by omega) (by omega), h.e]
  have e1 : (cl ++ (A ++ c :: rest)).flatMap (insn k c) = (cl ++ A) ++ (k :: c :: rest) := by
    rw [List.flatMap_append, List.flatMap_append, List.flatMap_cons, ins_id cl n1, ins_id A n2, ins_id rest n3]
    simp [insn]
  have hlt : k ∉ cl ++ (A ++ c :: rest) := by
    intro z
    rw [h.e] at z
    have := pord_lt _ _ (by omega) _ z
    omega
  refine ⟨⟨by rw [Nat.add_sub_cancel], by rw [hc]; exact hr⟩, by rw [e0, e1], ?_⟩
  intro a
  rw [← e1, ins_cnt a _ hlt]
  split
  · exact h.c c
  · exact h.c a
