/-! WHAT A TEXT IS, behind its reading: attributes, nodes, duties, roots. -/
/-- from k to father to father, n steps, to a -/
def Pth (fa : Nat → Option Nat) : Nat → Nat → Nat → Prop
  | 0, k, a => k = a
  | n + 1, k, a => ∃ c, fa k = some c ∧ Pth fa n c a
theorem Pth.up {fa : Nat → Option Nat} {N : Nat} {x : Option Nat} (hf : ∀ i, i < N → ∀ a, fa i = some a → a < i) : ∀ n k a, k < N → Pth fa n k a → Pth (up fa N x) n k a := by
  intro n
  induction n with
  | zero => intro k a _ h; exact h
  | succ n ih =>
    intro k a hk h
    obtain ⟨c, h1, h2⟩ := h
    have hc := hf k hk c h1
    exact ⟨c, by rw [up_n (by omega)]; exact h1, ih c a (by omega) h2⟩
theorem Pth.le {fa : Nat → Option Nat} {N : Nat} (hf : ∀ i, i < N → ∀ a, fa i = some a → a < i) : ∀ n k a, k < N → Pth fa n k a → a ≤ k := by
  intro n
  induction n with
  | zero => intro k a _ h; rw [show k = a from h]; exact Nat.le_refl _
  | succ n ih =>
    intro k a hk h
    obtain ⟨c, h1, h2⟩ := h
    have hc := hf k hk c h1
    have := ih c a (by omega) h2
    omega
theorem Pth.snoc {fa : Nat → Option Nat} : ∀ n k a c, Pth fa n k a → fa a = some c → Pth fa (n + 1) k c := by
  intro n
  induction n with
  | zero =>
    intro k a c h hc
    rw [show k = a from h]
    exact ⟨c, hc, rfl⟩
  | succ n ih =>
    intro k a c h hc
    obtain ⟨x, h1, h2⟩ := h
    exact ⟨x, h1, ih x a c h2 hc⟩
/-- the children of a, in their order -/
def kids (fa : Nat → Option Nat) (nn a : Nat) : List Nat := (List.range nn).filter (fun i => fa i == some a)
theorem mem_kids {fa : Nat → Option Nat} {nn a i : Nat} : i ∈ kids fa nn a ↔ i < nn ∧ fa i = some a := by
  unfold kids
  rw [List.mem_filter, List.mem_range]
  simp
theorem kids_up {fa : Nat → Option Nat} {nn a : Nat} {x : Option Nat} : kids (up fa nn x) (nn + 1) a = if x = some a then kids fa nn a ++ [nn] else kids fa nn a := by
  unfold kids
  rw [List.range_succ, List.filter_append]
  have e : (List.range nn).filter (fun i => up fa nn x i == some a) = (List.range nn).filter (fun i => fa i == some a) := by
    apply List.filter_congr
    intro i hi
    rw [List.mem_range] at hi
    rw [up_n (by omega)]
  rw [e]
  by_cases h : x = some a
  · rw [if_pos h]
    simp [up_s, h]
  · rw [if_neg h]
    simp [up_s, h]
/-- children, one behind the other -/
def lnk (nx : Nat → Option Nat) : List Nat → Prop
  | [] => True
  | [x] => nx x = none
  | x :: y :: l => nx x = some y ∧ lnk nx (y :: l)
theorem lnk_fr {nx nx' : Nat → Option Nat} : ∀ l : List Nat, lnk nx l → (∀ x, x ∈ l → nx' x = nx x) → lnk nx' l := by
  intro l
  induction l with
  | nil => intro _ _; trivial
  | cons x l ih =>
    intro h e
    cases l with
    | nil =>
      show nx' x = none
      rw [e x (List.mem_cons_self ..)]; exact h
    | cons y l =>
      obtain ⟨h1, h2⟩ := h
      exact ⟨by rw [e x (List.mem_cons_self ..)]; exact h1, ih h2 (fun z hz => e z (List.mem_cons_of_mem _ hz))⟩
theorem lnk_app {nx nx' : Nat → Option Nat} {nw : Nat} : ∀ (l : List Nat) (z : Nat), lnk nx (l ++ [z]) → (∀ x, x ∈ l → nx' x = nx x) → nx' z = some nw → nx' nw = none → lnk nx' ((l ++ [z]) ++ [nw]) := by
  intro l
  induction l with
  | nil => intro z _ _ h1 h2; exact ⟨h1, h2⟩
  | cons x l ih =>
    intro z h e h1 h2
    cases l with
    | nil =>
      obtain ⟨g1, g2⟩ := h
      exact ⟨by rw [e x (List.mem_cons_self ..)]; exact g1, h1, h2⟩
    | cons y l =>
      obtain ⟨g1, g2⟩ := h
      exact ⟨by rw [e x (List.mem_cons_self ..)]; exact g1, ih z g2 (fun w hw => e w (List.mem_cons_of_mem _ hw)) h1 h2⟩
/-- the nodes of a text -/
def NI (T : Txt) : Prop := (∀ i, i < T.nn → ∀ a, T.fa i = some a → a < i ∧ T.srt a = 2) ∧ (∀ i, i < T.nn → T.fa i = none → i = 0) ∧ (0 < T.nn → T.fa 0 = none) ∧ (∀ i, i < T.nn → T.srt i < 3) ∧ (∀ i, i + 1 < T.nn → ∃ n c, T.fa (i + 1) = some c ∧ Pth T.fa n i c) ∧ (∀ a, a < T.nn → T.chn a = (kids T.fa T.nn a).length) ∧ (∀ a, a < T.nn → lnk T.nxt (kids T.fa T.nn a)) ∧ (∀ a, a < T.nn → ∀ l z, kids T.fa T.nn a = l ++ [z] → T.lst a = z) ∧ (0 < T.nn → T.nxt 0 = none)
theorem NI.fl {T : Txt} (h : NI T) : ∀ i, i < T.nn → ∀ a, T.fa i = some a → a < i ∧ T.srt a = 2 := h.1
theorem NI.f0 {T : Txt} (h : NI T) : ∀ i, i < T.nn → T.fa i = none → i = 0 := h.2.1
theorem NI.r0 {T : Txt} (h : NI T) : 0 < T.nn → T.fa 0 = none := h.2.2.1
theorem NI.sr {T : Txt} (h : NI T) : ∀ i, i < T.nn → T.srt i < 3 := h.2.2.2.1
theorem NI.ds {T : Txt} (h : NI T) : ∀ i, i + 1 < T.nn → ∃ n c, T.fa (i + 1) = some c ∧ Pth T.fa n i c := h.2.2.2.2.1
theorem NI.ch {T : Txt} (h : NI T) : ∀ a, a < T.nn → T.chn a = (kids T.fa T.nn a).length := h.2.2.2.2.2.1
theorem NI.nx {T : Txt} (h : NI T) : ∀ a, a < T.nn → lnk T.nxt (kids T.fa T.nn a) := h.2.2.2.2.2.2.1
theorem NI.ls {T : Txt} (h : NI T) : ∀ a, a < T.nn → ∀ l z, kids T.fa T.nn a = l ++ [z] → T.lst a = z := h.2.2.2.2.2.2.2.1
theorem NI.n0 {T : Txt} (h : NI T) : 0 < T.nn → T.nxt 0 = none := h.2.2.2.2.2.2.2.2
/-- and the set that is open -/
def OI (s : PS) : Prop := (∀ c, s.os = some c → c < s.T.nn ∧ s.T.srt c = 2 ∧ ∃ n, Pth s.T.fa n (s.T.nn - 1) c)
theorem OI.os {s : PS} (h : OI s) : ∀ c, s.os = some c → c < s.T.nn ∧ s.T.srt c = 2 ∧ ∃ n, Pth s.T.fa n (s.T.nn - 1) c := h
theorem kids_nil {fa : Nat → Option Nat} {nn a : Nat} (h : ∀ i, i < nn → ∀ c, fa i = some c → c < i) (ha : nn ≤ a) : kids fa nn a = [] := by
  cases hk : kids fa nn a with
  | nil => rfl
  | cons x l =>
    have hx : x ∈ kids fa nn a := by rw [hk]; exact List.mem_cons_self ..
    rw [mem_kids] at hx
    have := h x hx.1 a hx.2
    omega
theorem last_of : ∀ {l : List Nat}, l ≠ [] → ∃ l' z, l = l' ++ [z] := by
  intro l
  induction l with
  | nil => intro h; exact absurd rfl h
  | cons x l ih =>
    intro _
    cases l with
    | nil => exact ⟨[], x, rfl⟩
    | cons y l =>
      obtain ⟨l', z, e⟩ := ih (by simp)
      exact ⟨x :: l', z, by rw [e]; rfl⟩
theorem app_inj {l l' : List Nat} {z z' : Nat} (h : l ++ [z] = l' ++ [z']) : z = z' := by
  have := congrArg List.getLast? h
  simpa using this
theorem NI.add {s : PS} {so : Nat} (h : NI s.T) (o : OI s) (h0 : s.os = none → s.T.nn = 0) (hso : so < 3) : NI (addNd s.T so s.os) := by
  have fl' : ∀ i, i < s.T.nn → ∀ a, s.T.fa i = some a → a < i := fun i hi a ha => (h.fl i hi a ha).1
  have e1 : (addNd s.T so s.os).nn = s.T.nn + 1 := addNd_nn _ _ _
  have e2 : (addNd s.T so s.os).fa = up s.T.fa s.T.nn s.os := by unfold addNd; cases s.os <;> rfl
  have e3 : (addNd s.T so s.os).srt = up s.T.srt s.T.nn so := by unfold addNd; cases s.os <;> rfl
  have kn : kids s.T.fa s.T.nn s.T.nn = [] := kids_nil fl' (Nat.le_refl _)
  -- children of old and new sets
  have kk : ∀ a, kids (up s.T.fa s.T.nn s.os) (s.T.nn + 1) a = if s.os = some a then kids s.T.fa s.T.nn a ++ [s.T.nn] else kids s.T.fa s.T.nn a := fun a => kids_up
  refine ⟨?_, ?_, ?_, ?_, ?_, ?_, ?_, ?_, ?_⟩
  · rw [e1, e2, e3]
    intro i hi a ha
    by_cases q : i = s.T.nn
    · subst q
      rw [up_s] at ha
      obtain ⟨g1, g2, _⟩ := o.os a ha
      exact ⟨g1, by rw [up_n (by omega)]; exact g2⟩
    · rw [up_n q] at ha
      obtain ⟨g1, g2⟩ := h.fl i (by omega) a ha
      exact ⟨g1, by rw [up_n (by omega)]; exact g2⟩
  · rw [e1, e2]
    intro i hi hn
    by_cases q : i = s.T.nn
    · subst q
      rw [up_s] at hn
      exact h0 hn
    · rw [up_n q] at hn
      exact h.f0 i (by omega) hn
  · rw [e2]
    intro _
    by_cases q : s.T.nn = 0
    · rw [q, up_s]
      cases ho : s.os with
      | none => rfl
      | some c =>
        have := (o.os c ho).1
        omega
    · rw [up_n (by omega)]
      exact h.r0 (by omega)
  · rw [e1, e3]
    exact up_lt (P := fun x => x < 3) h.sr hso
  · rw [e1, e2]
    intro i hi
    by_cases q : i + 1 = s.T.nn
    · cases ho : s.os with
      | none =>
        have := h0 ho
        omega
      | some c =>
        obtain ⟨g1, g2, m, g3⟩ := o.os c ho
        refine ⟨m, c, by rw [q, up_s], ?_⟩
        rw [show s.T.nn - 1 = i by omega] at g3
        exact Pth.up fl' _ _ _ (by omega) g3
    · obtain ⟨m, c, g1, g2⟩ := h.ds i (by omega)
      exact ⟨m, c, by rw [up_n (by omega)]; exact g1, Pth.up fl' _ _ _ (by omega) g2⟩
  · intro a ha
    rw [e1] at ha
    rw [e1, e2, kk a]
    have hch : (addNd s.T so s.os).chn a = (if s.os = some a then up s.T.chn s.T.nn 0 a + 1 else up s.T.chn s.T.nn 0 a) := by
      unfold addNd
      cases s.os with
      | none => simp
      | some c =>
        show up (up s.T.chn s.T.nn 0) c (up s.T.chn s.T.nn 0 c + 1) a = _
        by_cases q : a = c
        · subst q; rw [up_s, if_pos rfl]
        · rw [up_n q, if_neg (by intro z; exact q (Option.some.inj z).symm)]
    have hold : up s.T.chn s.T.nn 0 a = (kids s.T.fa s.T.nn a).length := by
      by_cases q : a = s.T.nn
      · subst q; rw [up_s, kn]; rfl
      · rw [up_n q]; exact h.ch a (by omega)
    rw [hch, hold]
    by_cases q : s.os = some a
    · rw [if_pos q, if_pos q, List.length_append]; rfl
    · rw [if_neg q, if_neg q]
  · intro a ha
    rw [e1] at ha
    rw [e1, e2, kk a]
    -- how 'next' changes
    have hnx : ∀ x, x ≠ s.T.nn → (∀ c, s.os = some c → up s.T.chn s.T.nn 0 c ≠ 0 → x ≠ s.T.lst c) → (addNd s.T so s.os).nxt x = s.T.nxt x := by
      intro x hx hc
      unfold addNd
      cases ho : s.os with
      | none => show up s.T.nxt s.T.nn none x = _; rw [up_n hx]
      | some c =>
        show (if up s.T.chn s.T.nn 0 c = 0 then up s.T.nxt s.T.nn none else up (up s.T.nxt s.T.nn none) (s.T.lst c) (some s.T.nn)) x = _
        by_cases q : up s.T.chn s.T.nn 0 c = 0
        · rw [if_pos q, up_n hx]
        · rw [if_neg q, up_n (hc c ho q), up_n hx]
    by_cases q : s.os = some a
    · rw [if_pos q]
      obtain ⟨g1, g2, _⟩ := o.os a q
      have hca : up s.T.chn s.T.nn 0 a = (kids s.T.fa s.T.nn a).length := by rw [up_n (by omega)]; exact h.ch a g1
      have hnn : (addNd s.T so s.os).nxt s.T.nn = none := by
        unfold addNd
        rw [q]
        show (if up s.T.chn s.T.nn 0 a = 0 then up s.T.nxt s.T.nn none else up (up s.T.nxt s.T.nn none) (s.T.lst a) (some s.T.nn)) s.T.nn = _
        by_cases w : up s.T.chn s.T.nn 0 a = 0
        · rw [if_pos w, up_s]
        · rw [if_neg w]
          have hk : kids s.T.fa s.T.nn a ≠ [] := by intro z; rw [hca, z] at w; exact w rfl
          obtain ⟨l, z, hz⟩ := last_of hk
          have hl := h.ls a g1 l z hz
          have hzm : z ∈ kids s.T.fa s.T.nn a := by rw [hz]; exact List.mem_append_right _ (List.mem_singleton.2 rfl)
          have := (mem_kids.1 hzm).1
          rw [up_n (by omega), up_s]
      by_cases hk : kids s.T.fa s.T.nn a = []
      · rw [hk]
        exact hnn
      · obtain ⟨l, z, hz⟩ := last_of hk
        have hl := h.ls a g1 l z hz
        have hzm : z ∈ kids s.T.fa s.T.nn a := by rw [hz]; exact List.mem_append_right _ (List.mem_singleton.2 rfl)
        have hz2 := (mem_kids.1 hzm).1
        have w : up s.T.chn s.T.nn 0 a ≠ 0 := by rw [hca, hz, List.length_append]; show l.length + 1 ≠ 0; omega
        have hnd : (kids s.T.fa s.T.nn a).Nodup := by
          unfold kids
          exact List.Nodup.sublist (List.filter_sublist ..) List.nodup_range
        rw [hz] at hnd ⊢
        have hnx0 := h.nx a g1
        rw [hz] at hnx0
        refine lnk_app l z hnx0 (fun x hx => hnx x ?_ (fun c hc _ => ?_)) ?_ hnn
        · have hxm : x ∈ kids s.T.fa s.T.nn a := by rw [hz]; exact List.mem_append_left _ hx
          have := (mem_kids.1 hxm).1
          omega
        · rw [q] at hc
          cases hc
          rw [hl]
          intro e
          rw [e] at hx
          rw [List.nodup_append] at hnd
          exact hnd.2.2 z hx z (List.mem_singleton.2 rfl) rfl
        · unfold addNd
          rw [q]
          show (if up s.T.chn s.T.nn 0 a = 0 then up s.T.nxt s.T.nn none else up (up s.T.nxt s.T.nn none) (s.T.lst a) (some s.T.nn)) z = _
          rw [if_neg w, hl, up_s]
    · rw [if_neg q]
      by_cases qa : a = s.T.nn
      · subst qa; rw [kn]; trivial
      · refine lnk_fr _ (h.nx a (by omega)) (fun x hx => hnx x ?_ (fun c hc hw => ?_))
        · have := (mem_kids.1 hx).1
          omega
        · -- the last child of another set
          obtain ⟨g1, _, _⟩ := o.os c hc
          have hca : up s.T.chn s.T.nn 0 c = (kids s.T.fa s.T.nn c).length := by rw [up_n (by omega)]; exact h.ch c g1
          have hk : kids s.T.fa s.T.nn c ≠ [] := by intro z; rw [hca, z] at hw; exact hw rfl
          obtain ⟨l, z, hz⟩ := last_of hk
          have hl := h.ls c g1 l z hz
          have hzm : z ∈ kids s.T.fa s.T.nn c := by rw [hz]; exact List.mem_append_right _ (List.mem_singleton.2 rfl)
          rw [hl]
          intro e
          have f1 := (mem_kids.1 hzm).2
          have f2 := (mem_kids.1 hx).2
          rw [e, f1] at f2
          apply q
          rw [hc]
          exact f2
  · intro a ha l z
    rw [e1] at ha
    rw [e1, e2, kk a]
    have hls : (addNd s.T so s.os).lst a = (if s.os = some a then s.T.nn else s.T.lst a) := by
      unfold addNd
      cases s.os with
      | none => simp
      | some c =>
        show up s.T.lst c s.T.nn a = _
        by_cases q : a = c
        · subst q; rw [up_s, if_pos rfl]
        · rw [up_n q, if_neg (by intro z; exact q (Option.some.inj z).symm)]
    rw [hls]
    by_cases q : s.os = some a
    · rw [if_pos q, if_pos q]
      intro hz
      exact app_inj hz
    · rw [if_neg q, if_neg q]
      intro hz
      by_cases qa : a = s.T.nn
      · subst qa
        rw [kn] at hz
        have := congrArg List.length hz
        rw [List.length_append] at this
        exact absurd this (by show ¬ 0 = l.length + 1; omega)
      · exact h.ls a (by omega) l z hz
  · intro _
    unfold addNd
    cases ho : s.os with
    | none =>
      show up s.T.nxt s.T.nn none 0 = none
      by_cases q : s.T.nn = 0
      · rw [q, up_s]
      · rw [up_n (by omega)]; exact h.n0 (by omega)
    | some c =>
      obtain ⟨g1, _, _⟩ := o.os c ho
      have old : up s.T.nxt s.T.nn none 0 = none := by rw [up_n (by omega)]; exact h.n0 (by omega)
      show (if up s.T.chn s.T.nn 0 c = 0 then up s.T.nxt s.T.nn none else up (up s.T.nxt s.T.nn none) (s.T.lst c) (some s.T.nn)) 0 = _
      by_cases w : up s.T.chn s.T.nn 0 c = 0
      · rw [if_pos w, old]
      · rw [if_neg w]
        have hca : up s.T.chn s.T.nn 0 c = (kids s.T.fa s.T.nn c).length := by rw [up_n (by omega)]; exact h.ch c g1
        have hk : kids s.T.fa s.T.nn c ≠ [] := by intro z; rw [hca, z] at w; exact w rfl
        obtain ⟨l, z, hz⟩ := last_of hk
        have hl := h.ls c g1 l z hz
        have hzm : z ∈ kids s.T.fa s.T.nn c := by rw [hz]; exact List.mem_append_right _ (List.mem_singleton.2 rfl)
        have f1 := (mem_kids.1 hzm).2
        have hz0 : z ≠ 0 := by
          intro e
          rw [e, h.r0 (by omega)] at f1
          cases f1
        rw [up_n (by rw [hl]; exact fun e => hz0 e.symm), old]
/-- the first child of a set is the node behind it -/
theorem NI.first {T : Txt} (h : NI T) {a : Nat} (hk : kids T.fa T.nn a ≠ []) : ∃ l, kids T.fa T.nn a = (a + 1) :: l := by
  have fl' : ∀ i, i < T.nn → ∀ a, T.fa i = some a → a < i := fun i hi a ha => (h.fl i hi a ha).1
  -- behind a, up to one of its children, all come from it
  have key : ∀ j, a < j → j < T.nn → (∃ n, Pth T.fa n j a) → ∃ n, Pth T.fa n (a + 1) a := by
    intro j
    induction j with
    | zero => intro h1; omega
    | succ j ih =>
      intro h1 h2 hp
      by_cases q : j = a
      · subst q; exact hp
      · obtain ⟨n, hn⟩ := hp
        cases n with
        | zero => exact absurd (show j + 1 = a from hn) (by omega)
        | succ n =>
          obtain ⟨c, hc1, hc2⟩ := hn
          obtain ⟨m, c', hc3, hc4⟩ := h.ds j h2
          rw [hc1] at hc3
          cases hc3
          -- j to c, c to a
          have tr : ∀ m k x y n, Pth T.fa m k x → Pth T.fa n x y → ∃ r, Pth T.fa r k y := by
            intro m
            induction m with
            | zero => intro k x y n e1 e2; rw [show k = x from e1]; exact ⟨n, e2⟩
            | succ m ihm =>
              intro k x y n e1 e2
              obtain ⟨w, w1, w2⟩ := e1
              obtain ⟨r, hr⟩ := ihm w x y n w2 e2
              exact ⟨r + 1, w, w1, hr⟩
          exact ih (by omega) (by omega) (tr m j c a n hc4 hc2)
  cases hkk : kids T.fa T.nn a with
  | nil => exact absurd hkk hk
  | cons x l =>
    have hx : x ∈ kids T.fa T.nn a := by rw [hkk]; exact List.mem_cons_self ..
    obtain ⟨hx1, hx2⟩ := mem_kids.1 hx
    have hax := fl' x hx1 a hx2
    obtain ⟨n, hn⟩ := key x hax hx1 ⟨1, a, hx2, rfl⟩
    have hfa : T.fa (a + 1) = some a := by
      cases n with
      | zero => exact absurd (show a + 1 = a from hn) (by omega)
      | succ n =>
        obtain ⟨c, hc1, hc2⟩ := hn
        have h1 := fl' (a + 1) (by omega) c hc1
        have h2 := Pth.le fl' n c a (by omega) hc2
        rw [show c = a by omega] at hc1
        exact hc1
    have hm : a + 1 ∈ kids T.fa T.nn a := mem_kids.2 ⟨by omega, hfa⟩
    -- the list goes up
    have hs : (kids T.fa T.nn a).Pairwise (· < ·) := by
      unfold kids
      exact List.Pairwise.sublist (List.filter_sublist ..) List.pairwise_lt_range
    rw [hkk] at hs hm
    rcases List.mem_cons.1 hm with e | e
    · exact ⟨l, by rw [e]⟩
    · have := (List.pairwise_cons.1 hs).1 _ e
      omega
