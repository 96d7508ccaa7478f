/-! THE LAW'S LOOP: every call is answered alike. -/
def oc : Option (Option (Int32 × Sx)) → Int32
  | none => 1
  | some none => 2
  | some (some _) => 0
def osx (S : Sx) : Option (Option (Int32 × Sx)) → Sx
  | none => S
  | some none => S
  | some (some z) => z.2
theorem LA_of {S : Sx} {M : aM} {B : Int32 → aM → Prop} {r : Option (Option (Int32 × Sx))} (h : ∀ M1, CI (osx S r) M1 → FL M M1 → (∀ z, r = some (some z) → rJ M1 187 0 = z.1.toInt64) → B (oc r) M1) : LA S M B r := by
  cases r with
  | none => exact fun M' a b => h M' a b (fun z hz => by cases hz)
  | some r =>
    cases r with
    | none => exact fun M' a b => h M' a b (fun z hz => by cases hz)
    | some z => exact fun M' a b c => h M' a b (fun z' hz => by cases hz; exact c)
theorem MA_of {S : Sx} {M : aM} {post : Int32 → aM → Prop} {r : Option (Option (Int32 × Sx))} (h : ∀ x M2, MI (osx S r) M2 → rI M2 136 0 = oc r → FD M M2 → (∀ z, r = some (some z) → x = z.1) → post x M2) : MA S M post r := by
  cases r with
  | none => exact fun x M' a b c => h x M' a b c (fun z hz => by cases hz)
  | some r =>
    cases r with
    | none => exact fun x M' a b c => h x M' a b c (fun z hz => by cases hz)
    | some z => exact fun M' a b c => h z.1 M' a b c (fun z' hz => by cases hz; rfl)
/-- what holds at the loop's head; c calls are done -/
def IV (n : Nat) (xs : Nat → Int32) (c : Nat) (S : Sx) (M : aM) : Prop := (SO S) ∧ (CI S M) ∧ (MI S M) ∧ (188 ≤ aN M ∧ aN M ≤ 188 + c) ∧ (aZ M ≤ 200000 + 6 * c) ∧ ((rK M 0).2 = n) ∧ (rI M 0 = xs)
theorem IV.so {n : Nat} {xs : Nat → Int32} {c : Nat} {S : Sx} {M : aM} (h : IV n xs c S M) : SO S := h.1
theorem IV.ci {n : Nat} {xs : Nat → Int32} {c : Nat} {S : Sx} {M : aM} (h : IV n xs c S M) : CI S M := h.2.1
theorem IV.mi {n : Nat} {xs : Nat → Int32} {c : Nat} {S : Sx} {M : aM} (h : IV n xs c S M) : MI S M := h.2.2.1
theorem IV.N {n : Nat} {xs : Nat → Int32} {c : Nat} {S : Sx} {M : aM} (h : IV n xs c S M) : 188 ≤ aN M ∧ aN M ≤ 188 + c := h.2.2.2.1
theorem IV.Z {n : Nat} {xs : Nat → Int32} {c : Nat} {S : Sx} {M : aM} (h : IV n xs c S M) : aZ M ≤ 200000 + 6 * c := h.2.2.2.2.1
theorem IV.k0 {n : Nat} {xs : Nat → Int32} {c : Nat} {S : Sx} {M : aM} (h : IV n xs c S M) : (rK M 0).2 = n := h.2.2.2.2.2.1
theorem IV.x0 {n : Nat} {xs : Nat → Int32} {c : Nat} {S : Sx} {M : aM} (h : IV n xs c S M) : rI M 0 = xs := h.2.2.2.2.2.2
def V5 (v : Int32) (n : Nat) : Prop := vp_in (v + 1) n ∧ vp_in (v + 2) n ∧ vp_in (v + 3) n ∧ vp_in (v + 4) n ∧ vp_in (v + 5) n
theorem MI.fl {S : Sx} {M M1 : aM} (h : MI S M) (f : FL M M1) : MI S M1 := h.fr f.k (fun k j h1 h2 _ => by rw [f.i k (Or.inr h1) (by omega)])
theorem lg_self (x : Int64) : lg_cmp x x = 0 := by unfold lg_cmp; simp
section LW2
variable {n : Nat} {xs : Nat → Int32} {c : Nat} {S : Sx} {M : aM}
theorem IV.next {M1 M2 : aM} {S' : Sx} (I : IV n xs c S M) (so : SO S') (h1 : CI S' M1) (f1 : FL M M1) (h2 : MI S' M2) (f2 : FD M1 M2) : IV n xs (c + 1) S' M2 := by
  have e : aN M2 = aN M1 := congrArg Prod.fst f2.n
  have e2 : aZ M2 = aZ M1 := congrArg Prod.snd f2.n
  have a := I.N
  have b := I.Z
  have f := f1.N
  have g := f1.Z
  refine ⟨so, h1.fr h2.tp.K (fun k hk => f2.i k (by omega)) (fun k hk => congrFun (congrArg Prod.fst f2.r) k), h2, by omega, by omega, ?_, ?_⟩
  · rw [show rK M2 = rK M1 from f2.k, f1.k0]; exact I.k0
  · rw [f2.i 0 (by omega), f1.i 0 (Or.inl rfl) (by omega)]; exact I.x0
theorem IV.pos (I : IV n xs c S M) : 0 < aN M := by have := I.N; omega
theorem chk {r : Option (Option (Int32 × Sx))} {x2 : Int32} {M1 M2 : aM} {A C : Prop} {B : Prop} (h2 : MI (osx S r) M2) (f2 : FD M1 M2) (t2 : rI M2 136 0 = oc r) (j1 : ∀ z, r = some (some z) → rJ M1 187 0 = z.1.toInt64) (v2 : ∀ z, r = some (some z) → x2 = z.1) (a : A) : w_Mo_thrown (fun x3 => ((x3 = oc r) → ((¬ oc r = ((0 : Int32))) → A) ∧ (¬ (¬ oc r = ((0 : Int32))) → (vp_in ((0 : Int32)) (rK M2 187).2) ∧ ((((lg_cmp (rJ M2 187 ((0 : Int32)).toNatClampNeg) x2.toInt64) = ((0 : Int32))) → A) ∧ (¬ ((lg_cmp (rJ M2 187 ((0 : Int32)).toNatClampNeg) x2.toInt64) = ((0 : Int32))) → B)))) ∧ (¬ (x3 = oc r) → C)) 136 M2 := by
  unfold w_Mo_thrown
  refine br_t t2 ⟨fun _ => a, fun z => ⟨by rw [show (rK M2 187).2 = 1 from mK h2.tp.K 186 1]; exact vin (n := 0) (by omega), br_t ?_ a⟩⟩
  cases r with
  | none => exact absurd (by decide) z
  | some r =>
    cases r with
    | none => exact absurd (by decide) z
    | some y =>
      have e : rJ M2 187 0 = rJ M1 187 0 := congrFun (congrFun (congrArg Prod.snd f2.r) 187) 0
      rw [show ((0 : Int32)).toNatClampNeg = 0 from by decide, e, j1 y rfl, v2 y rfl]
      exact lg_self _
/-! states stay good -/
theorem so_tp {b : Nat → Nat} {k fk : Nat} (so : SO S) : SO (S.tp b k fk) := ⟨so.x, so.g, so.wn, so.pn, so.pb⟩
theorem so_id {r : Option (Int32 × Sx)} (so : SO S) (h : ∀ z, r = some z → z.2 = S) : SO (osx S (r.map some)) := by
  cases r with
  | none => exact so
  | some z => show SO z.2; rw [h z rfl]; exact so
theorem b_id {α : Type} {o : Option α} {f : α → Option (Int32 × Sx)} (h : ∀ a z, f a = some z → z.2 = S) : ∀ z, o.bind f = some z → z.2 = S := by
  cases o with
  | none => intro z hz; cases hz
  | some a => exact h a
theorem p_id {α : Type} {o : Option α} {f : α → Int32 × Sx} (h : ∀ a, (f a).2 = S) : ∀ z, o.map f = some z → z.2 = S := by
  cases o with
  | none => intro z hz; cases hz
  | some a => intro z hz; cases hz; exact h a
theorem i_id {p : Prop} [Decidable p] {A B : Option (Int32 × Sx)} (h1 : ∀ z, A = some z → z.2 = S) (h2 : ∀ z, B = some z → z.2 = S) : ∀ z, (if p then A else B) = some z → z.2 = S := by
  split
  · exact h1
  · exact h2
theorem s_id {x : Int32} : ∀ z, some (x, S) = some z → z.2 = S := by intro z hz; cases hz; rfl
theorem n_id : ∀ z, (none : Option (Int32 × Sx)) = some z → z.2 = S := by intro z hz; cases hz
variable {v1 v2 v3 v4 v5 : Int32}
theorem so_count (so : SO S) : SO (osx S ((a_count S v1 v2).map some)) := so_id so (b_id (fun _ => p_id (fun _ => rfl)))
theorem so_node (so : SO S) : SO (osx S ((a_node S v1 v2 v3).map some)) := so_id so (b_id (fun _ => b_id (fun _ => p_id (fun _ => rfl))))
theorem so_name (so : SO S) : SO (osx S ((a_name S v1 v2 v3 v4).map some)) := so_id so (b_id (fun _ => b_id (fun _ => b_id (fun _ => i_id s_id (p_id (fun _ => rfl))))))
theorem so_attribute (so : SO S) : SO (osx S ((a_attribute S v1 v2 v3).map some)) := so_id so (b_id (fun _ => b_id (fun _ => p_id (fun _ => rfl))))
theorem so_decided (so : SO S) : SO (osx S ((a_decided S v1 v2).map some)) := so_id so (b_id (fun _ => i_id (p_id (fun _ => rfl)) n_id))
theorem so_truth (so : SO S) : SO (osx S ((a_truth S v1 v2).map some)) := so_id so (b_id (fun _ => i_id (p_id (fun _ => rfl)) n_id))
theorem so_duty (so : SO S) : SO (osx S ((a_duty S v1 v2).map some)) := so_id so (b_id (fun _ => i_id (i_id s_id (p_id (fun _ => rfl))) n_id))
theorem so_witness (so : SO S) : SO (osx S ((a_witness S v1).map some)) := so_id so (p_id (fun _ => rfl))
theorem so_out (so : SO S) : SO (osx S ((a_out S v1).map some)) := so_id so (p_id (fun _ => rfl))
theorem so_differ (so : SO S) : SO (osx S (a_differ S v1 v2)) := by
  unfold a_differ
  cases idx v1 6 with
  | none => exact so
  | some a =>
    cases idx v2 6 with
    | none => exact so
    | some b =>
      show SO (osx S (some (if S.cm then some (nI (S.tl (6 * a + b)), S) else none)))
      split <;> exact so
theorem so_feed (so : SO S) : SO (osx S ((a_feed S v1 v2 v3 v4 v5).map some)) := by
  unfold a_feed
  split
  · exact so_tp so
  · exact so
theorem so_again (so : SO S) : SO (osx S ((a_again S).map some)) := by
  unfold a_again
  split
  · exact so_tp so
  · exact so
theorem so_up {i : Nat} {x' : Tx} (so : SO S) (h1 : x'.p = true → TO x'.T) (h2 : ∀ j, x'.g j < 256) : SO (S.s_x (up S.x i x')) := by
  refine ⟨fun k hk => ?_, fun k j => ?_, so.wn, so.pn, so.pb⟩
  · have hk : (up S.x i x' k).p = true := hk
    show TO (up S.x i x' k).T
    by_cases z : k = i
    · subst z; rw [up_s] at hk ⊢; exact h1 hk
    · rw [up_n z] at hk ⊢; exact so.x k hk
  · show (up S.x i x' k).g j < 256
    by_cases z : k = i
    · subst z; rw [up_s]; exact h2 j
    · rw [up_n z]; exact so.g k j
theorem so_load (so : SO S) (h : CI S M) : SO (osx S ((a_load S v1).map some)) := by
  unfold a_load
  cases idx v1 2 with
  | none => exact so
  | some i =>
    show SO (ldA S i (fText (tkOf S.b S.n) tx0)).2
    cases hr : fText (tkOf S.b S.n) tx0 with
    | error f => exact so_tp so
    | ok s =>
      show SO (ldS S i s.T)
      have to : TO s.T := ⟨S.b, S.n, s, h.tp.ln, h.tp.lb, hr, rfl⟩
      have := so_up (i := i) (x' := Tx.new s.T) so (fun _ => to) (fun j => by show 0 < 256; omega)
      exact ⟨this.x, this.g, by show 0 ≤ 8; omega, so.pn, so.pb⟩
theorem pres_p {v : Int32} {i : Nat} (h : pres S v = some i) : (S.x i).p = true ∧ i ≤ 1 := by
  unfold pres at h
  cases z : idx v 2 with
  | none => rw [z] at h; cases h
  | some k =>
    rw [z] at h
    have h : (if (S.x k).p = true then some k else none) = some i := h
    split at h
    · cases h; exact ⟨by assumption, by have := (idx_ok (by omega) z).1; omega⟩
    · cases h
theorem so_bag (so : SO S) : SO (osx S (a_bag S v1 v2 v3)) := by
  unfold a_bag
  cases h1 : pres S v1 with
  | none => exact so
  | some i =>
    obtain ⟨hp, hi⟩ := pres_p h1
    have A := (so.x i hp).ok.A
    cases h2 : idx v2 (S.x i).T.na with
    | none => show SO (osx S (Option.map _ (idx v2 (S.x i).T.na))); rw [h2]; exact so
    | some j =>
      have hj := (idx_ok (by have := A.n; omega) h2).1
      have hz := A.z j hj
      have p8 := p256 ((S.x i).T.asz j) (by omega)
      show SO (osx S (Option.map _ (idx v2 (S.x i).T.na)))
      rw [h2]
      show SO (osx S (some ((idx v3 (2 ^ (S.x i).T.asz j)).bind fun m => if okB (S.x i).T j m then some (nI ((S.x i).g j), S.bg i j m) else none)))
      cases h3 : idx v3 (2 ^ (S.x i).T.asz j) with
      | none => exact so
      | some m =>
        have hm := (idx_ok (by omega) h3).1
        show SO (osx S (some (if okB (S.x i).T j m then some (nI ((S.x i).g j), S.bg i j m) else none)))
        split
        · refine so_up so (fun _ => so.x i hp) (fun k => ?_)
          show up (S.x i).g j m k < 256
          by_cases z : k = j
          · subst z; rw [up_s]; omega
          · rw [up_n z]; exact so.g i k
        · exact so
theorem so_decide (so : SO S) : SO (osx S (a_decide S v1)) := by
  unfold a_decide
  cases idx v1 2 with
  | none => exact so
  | some i =>
    show SO (osx S (some (if (S.x i).p then some (nI (dec (S.x i).T (S.x i).g 0), S.s_x (up S.x i (((S.x i).s_jd true).s_gd (S.x i).g))) else none)))
    split
    · exact so_up so (fun _ => so.x i (by assumption)) (fun k => so.g i k)
    · exact so
theorem so_sv {cm : Bool} {tl : Nat → Nat} {wn : Nat} {wv : Nat → Nat} (so : SO S) (h : wn ≤ 8) : SO (S.sv cm tl wn wv) := ⟨so.x, so.g, h, so.pn, so.pb⟩
theorem so_same (so : SO S) : SO (osx S ((a_same S).map some)) := by
  unfold a_same
  split
  · next h =>
    rw [Bool.and_eq_true] at h
    have A := (so.x 0 h.1).ok.A
    show SO (osx S (some (some (if pairB (S.x 0).T (S.x 1).T then (if 4096 < rq (S.x 0).T (S.x 0).T.na then (-3, S) else samR S (S.x 0).T (S.x 1).T (rq (S.x 0).T (S.x 0).T.na)) else (-2, S)))))
    split
    · split
      · exact so
      · refine so_sv so ?_
        split
        · exact A.n
        · omega
    · exact so
  · exact so
theorem so_reach (so : SO S) : SO (osx S ((a_reach S v1 v2 v3).map some)) := by
  unfold a_reach
  cases h1 : pres S v1 with
  | none => exact so
  | some i =>
    obtain ⟨hp, hi⟩ := pres_p h1
    have A := (so.x i hp).ok.A
    show SO (osx S (Option.map some ((idx v2 (S.x i).T.nn).bind fun j => (idx v3 6).map fun w => if 4096 < rq (S.x i).T (S.x i).T.na then (-3, S) else reaR S (S.x i).T (rcN (S.x i).T j w (rq (S.x i).T (S.x i).T.na)))))
    cases idx v2 (S.x i).T.nn with
    | none => exact so
    | some j =>
      cases idx v3 6 with
      | none => exact so
      | some w =>
        show SO (osx S (some (some (if 4096 < rq (S.x i).T (S.x i).T.na then (-3, S) else reaR S (S.x i).T (rcN (S.x i).T j w (rq (S.x i).T (S.x i).T.na))))))
        split
        · exact so
        · refine so_sv so ?_
          split
          · exact A.n
          · omega
theorem so_print (so : SO S) : SO (osx S (a_print S v1)) := by
  unfold a_print
  cases idx v1 2 with
  | none => exact so
  | some i =>
    show SO (osx S (some (if (S.x i).p then some (nI (sAll (S.x i).T).length, S.pr (sAll (S.x i).T).length (fun j => (sAll (S.x i).T).getD j 0)) else none)))
    split
    · next hp => exact ⟨so.x, so.g, so.wn, (so.x i hp).len, fun j => (so.x i hp).byt j⟩
    · exact so
variable {post : Int32 → aM → Prop} {K23 : Nat → Nat → Nat → Int32 → aM → Prop} {v : Int32}
theorem l_feed (so : SO S) (h : CI S M) (hN : 188 ≤ aN M) (q : LA S M post ((a_feed S v1 v2 v3 v4 v5).map some)) : w_La_feed post 1 v1 v2 v3 v4 v5 187 M := by
  unfold w_La_feed
  exact c_feed h (la1 (post := post) (e2 := 0) h hN q)
theorem B_feed (I : IV n xs c S M) (hv : V5 v n) (K : ∀ S' M', IV n xs (c + 1) S' M' → K23 1 136 187 (v + 6) M') : w_La_law_J136 post K23 1 136 187 v M := by
  unfold w_La_law_J136
  rw [I.k0]
  refine ⟨hv.1, hv.2.1, hv.2.2.1, hv.2.2.2.1, hv.2.2.2.2, I.pos, ?_⟩
  refine l_feed I.so I.ci I.N.1 (LA_of (r := ((a_feed S (rI M 0 (v + 1).toNatClampNeg) (rI M 0 (v + 2).toNatClampNeg) (rI M 0 (v + 3).toNatClampNeg) (rI M 0 (v + 4).toNatClampNeg) (rI M 0 (v + 5).toNatClampNeg)).map some)) (fun M1 h1 f1 j1 => ?_))
  rw [f1.k0, I.k0, f1.i 0 (Or.inl rfl) (by omega)]
  exact ⟨hv.1, hv.2.1, hv.2.2.1, hv.2.2.2.1, hv.2.2.2.2, m_feed (I.mi.fl f1) (MA_of (r := ((a_feed S (rI M 0 (v + 1).toNatClampNeg) (rI M 0 (v + 2).toNatClampNeg) (rI M 0 (v + 3).toNatClampNeg) (rI M 0 (v + 4).toNatClampNeg) (rI M 0 (v + 5).toNatClampNeg)).map some)) (fun x2 M2 h2 t2 f2 v2 => chk h2 f2 t2 j1 v2 (K _ M2 (I.next (so_feed I.so) h1 f1 h2 f2))))⟩
theorem l_load (so : SO S) (h : CI S M) (hN : 188 ≤ aN M) (q : LA S M post ((a_load S v1).map some)) : w_La_load post 1 v1 187 M := by
  unfold w_La_load
  exact c_load h (la1 (post := post) (e2 := 0) h hN q)
theorem B_load (I : IV n xs c S M) (hv : V5 v n) (K : ∀ S' M', IV n xs (c + 1) S' M' → K23 1 136 187 (v + 6) M') : w_La_law_J276 post K23 1 136 187 v M := by
  unfold w_La_law_J276
  rw [I.k0]
  refine ⟨hv.1, I.pos, ?_⟩
  refine l_load I.so I.ci I.N.1 (LA_of (r := ((a_load S (rI M 0 (v + 1).toNatClampNeg)).map some)) (fun M1 h1 f1 j1 => ?_))
  rw [f1.k0, I.k0, f1.i 0 (Or.inl rfl) (by omega)]
  exact ⟨hv.1, m_load I.so (I.mi.fl f1) (MA_of (r := ((a_load S (rI M 0 (v + 1).toNatClampNeg)).map some)) (fun x2 M2 h2 t2 f2 v2 => chk h2 f2 t2 j1 v2 (K _ M2 (I.next (so_load I.so I.ci) h1 f1 h2 f2))))⟩
theorem l_count (so : SO S) (h : CI S M) (hN : 188 ≤ aN M) (q : LA S M post ((a_count S v1 v2).map some)) : w_La_count post 1 v1 v2 187 M := by
  unfold w_La_count
  exact c_count h (la1 (post := post) (e2 := 0) h hN q)
theorem B_count (I : IV n xs c S M) (hv : V5 v n) (K : ∀ S' M', IV n xs (c + 1) S' M' → K23 1 136 187 (v + 6) M') : w_La_law_J345 post K23 1 136 187 v M := by
  unfold w_La_law_J345
  rw [I.k0]
  refine ⟨hv.1, hv.2.1, I.pos, ?_⟩
  refine l_count I.so I.ci I.N.1 (LA_of (r := ((a_count S (rI M 0 (v + 1).toNatClampNeg) (rI M 0 (v + 2).toNatClampNeg)).map some)) (fun M1 h1 f1 j1 => ?_))
  rw [f1.k0, I.k0, f1.i 0 (Or.inl rfl) (by omega)]
  exact ⟨hv.1, hv.2.1, m_count (I.mi.fl f1) (MA_of (r := ((a_count S (rI M 0 (v + 1).toNatClampNeg) (rI M 0 (v + 2).toNatClampNeg)).map some)) (fun x2 M2 h2 t2 f2 v2 => chk h2 f2 t2 j1 v2 (K _ M2 (I.next (so_count I.so) h1 f1 h2 f2))))⟩
theorem l_node (so : SO S) (h : CI S M) (hN : 188 ≤ aN M) (q : LA S M post ((a_node S v1 v2 v3).map some)) : w_La_node post 1 v1 v2 v3 187 M := by
  unfold w_La_node
  exact c_nodeQ so h (la1 (post := post) (e2 := 0) h hN q)
theorem B_node (I : IV n xs c S M) (hv : V5 v n) (K : ∀ S' M', IV n xs (c + 1) S' M' → K23 1 136 187 (v + 6) M') : w_La_law_J413 post K23 1 136 187 v M := by
  unfold w_La_law_J413
  rw [I.k0]
  refine ⟨hv.1, hv.2.1, hv.2.2.1, I.pos, ?_⟩
  refine l_node I.so I.ci I.N.1 (LA_of (r := ((a_node S (rI M 0 (v + 1).toNatClampNeg) (rI M 0 (v + 2).toNatClampNeg) (rI M 0 (v + 3).toNatClampNeg)).map some)) (fun M1 h1 f1 j1 => ?_))
  rw [f1.k0, I.k0, f1.i 0 (Or.inl rfl) (by omega)]
  exact ⟨hv.1, hv.2.1, hv.2.2.1, m_nodeQ I.so (I.mi.fl f1) (MA_of (r := ((a_node S (rI M 0 (v + 1).toNatClampNeg) (rI M 0 (v + 2).toNatClampNeg) (rI M 0 (v + 3).toNatClampNeg)).map some)) (fun x2 M2 h2 t2 f2 v2 => chk h2 f2 t2 j1 v2 (K _ M2 (I.next (so_node I.so) h1 f1 h2 f2))))⟩
theorem l_name (so : SO S) (h : CI S M) (hN : 188 ≤ aN M) (q : LA S M post ((a_name S v1 v2 v3 v4).map some)) : w_La_name post 1 v1 v2 v3 v4 187 M := by
  unfold w_La_name
  exact c_nameQ h (la1 (post := post) (e2 := 0) h hN q)
theorem B_name (I : IV n xs c S M) (hv : V5 v n) (K : ∀ S' M', IV n xs (c + 1) S' M' → K23 1 136 187 (v + 6) M') : w_La_law_J493 post K23 1 136 187 v M := by
  unfold w_La_law_J493
  rw [I.k0]
  refine ⟨hv.1, hv.2.1, hv.2.2.1, hv.2.2.2.1, I.pos, ?_⟩
  refine l_name I.so I.ci I.N.1 (LA_of (r := ((a_name S (rI M 0 (v + 1).toNatClampNeg) (rI M 0 (v + 2).toNatClampNeg) (rI M 0 (v + 3).toNatClampNeg) (rI M 0 (v + 4).toNatClampNeg)).map some)) (fun M1 h1 f1 j1 => ?_))
  rw [f1.k0, I.k0, f1.i 0 (Or.inl rfl) (by omega)]
  exact ⟨hv.1, hv.2.1, hv.2.2.1, hv.2.2.2.1, m_nameQ I.so (I.mi.fl f1) (MA_of (r := ((a_name S (rI M 0 (v + 1).toNatClampNeg) (rI M 0 (v + 2).toNatClampNeg) (rI M 0 (v + 3).toNatClampNeg) (rI M 0 (v + 4).toNatClampNeg)).map some)) (fun x2 M2 h2 t2 f2 v2 => chk h2 f2 t2 j1 v2 (K _ M2 (I.next (so_name I.so) h1 f1 h2 f2))))⟩
theorem l_attribute (so : SO S) (h : CI S M) (hN : 188 ≤ aN M) (q : LA S M post ((a_attribute S v1 v2 v3).map some)) : w_La_attribute post 1 v1 v2 v3 187 M := by
  unfold w_La_attribute
  exact c_attribute h (la1 (post := post) (e2 := 0) h hN q)
theorem B_attribute (I : IV n xs c S M) (hv : V5 v n) (K : ∀ S' M', IV n xs (c + 1) S' M' → K23 1 136 187 (v + 6) M') : w_La_law_J585 post K23 1 136 187 v M := by
  unfold w_La_law_J585
  rw [I.k0]
  refine ⟨hv.1, hv.2.1, hv.2.2.1, I.pos, ?_⟩
  refine l_attribute I.so I.ci I.N.1 (LA_of (r := ((a_attribute S (rI M 0 (v + 1).toNatClampNeg) (rI M 0 (v + 2).toNatClampNeg) (rI M 0 (v + 3).toNatClampNeg)).map some)) (fun M1 h1 f1 j1 => ?_))
  rw [f1.k0, I.k0, f1.i 0 (Or.inl rfl) (by omega)]
  exact ⟨hv.1, hv.2.1, hv.2.2.1, m_attribute (I.mi.fl f1) (MA_of (r := ((a_attribute S (rI M 0 (v + 1).toNatClampNeg) (rI M 0 (v + 2).toNatClampNeg) (rI M 0 (v + 3).toNatClampNeg)).map some)) (fun x2 M2 h2 t2 f2 v2 => chk h2 f2 t2 j1 v2 (K _ M2 (I.next (so_attribute I.so) h1 f1 h2 f2))))⟩
theorem l_bag (so : SO S) (h : CI S M) (hN : 188 ≤ aN M) (q : LA S M post (a_bag S v1 v2 v3)) : w_La_bag post 1 v1 v2 v3 187 M := by
  unfold w_La_bag
  exact c_bag h (la2 (post := post) h hN q)
theorem B_bag (I : IV n xs c S M) (hv : V5 v n) (K : ∀ S' M', IV n xs (c + 1) S' M' → K23 1 136 187 (v + 6) M') : w_La_law_J665 post K23 1 136 187 v M := by
  unfold w_La_law_J665
  rw [I.k0]
  refine ⟨hv.1, hv.2.1, hv.2.2.1, I.pos, ?_⟩
  refine l_bag I.so I.ci I.N.1 (LA_of (r := (a_bag S (rI M 0 (v + 1).toNatClampNeg) (rI M 0 (v + 2).toNatClampNeg) (rI M 0 (v + 3).toNatClampNeg))) (fun M1 h1 f1 j1 => ?_))
  rw [f1.k0, I.k0, f1.i 0 (Or.inl rfl) (by omega)]
  exact ⟨hv.1, hv.2.1, hv.2.2.1, m_bag (I.mi.fl f1) (MA_of (r := (a_bag S (rI M 0 (v + 1).toNatClampNeg) (rI M 0 (v + 2).toNatClampNeg) (rI M 0 (v + 3).toNatClampNeg))) (fun x2 M2 h2 t2 f2 v2 => chk h2 f2 t2 j1 v2 (K _ M2 (I.next (so_bag I.so) h1 f1 h2 f2))))⟩
theorem l_decide (so : SO S) (h : CI S M) (hN : 188 ≤ aN M) (q : LA S M post (a_decide S v1)) : w_La_decide post 1 v1 187 M := by
  unfold w_La_decide
  exact c_decide so h (la2 (post := post) h hN q)
theorem B_decide (I : IV n xs c S M) (hv : V5 v n) (K : ∀ S' M', IV n xs (c + 1) S' M' → K23 1 136 187 (v + 6) M') : w_La_law_J745 post K23 1 136 187 v M := by
  unfold w_La_law_J745
  rw [I.k0]
  refine ⟨hv.1, I.pos, ?_⟩
  refine l_decide I.so I.ci I.N.1 (LA_of (r := (a_decide S (rI M 0 (v + 1).toNatClampNeg))) (fun M1 h1 f1 j1 => ?_))
  rw [f1.k0, I.k0, f1.i 0 (Or.inl rfl) (by omega)]
  exact ⟨hv.1, m_decide I.so (I.mi.fl f1) (MA_of (r := (a_decide S (rI M 0 (v + 1).toNatClampNeg))) (fun x2 M2 h2 t2 f2 v2 => chk h2 f2 t2 j1 v2 (K _ M2 (I.next (so_decide I.so) h1 f1 h2 f2))))⟩
theorem l_decided (so : SO S) (h : CI S M) (hN : 188 ≤ aN M) (q : LA S M post ((a_decided S v1 v2).map some)) : w_La_decided post 1 v1 v2 187 M := by
  unfold w_La_decided
  exact c_decided h (la1 (post := post) (e2 := 0) h hN q)
theorem B_decided (I : IV n xs c S M) (hv : V5 v n) (K : ∀ S' M', IV n xs (c + 1) S' M' → K23 1 136 187 (v + 6) M') : w_La_law_J801 post K23 1 136 187 v M := by
  unfold w_La_law_J801
  rw [I.k0]
  refine ⟨hv.1, hv.2.1, I.pos, ?_⟩
  refine l_decided I.so I.ci I.N.1 (LA_of (r := ((a_decided S (rI M 0 (v + 1).toNatClampNeg) (rI M 0 (v + 2).toNatClampNeg)).map some)) (fun M1 h1 f1 j1 => ?_))
  rw [f1.k0, I.k0, f1.i 0 (Or.inl rfl) (by omega)]
  exact ⟨hv.1, hv.2.1, m_decided (I.mi.fl f1) (MA_of (r := ((a_decided S (rI M 0 (v + 1).toNatClampNeg) (rI M 0 (v + 2).toNatClampNeg)).map some)) (fun x2 M2 h2 t2 f2 v2 => chk h2 f2 t2 j1 v2 (K _ M2 (I.next (so_decided I.so) h1 f1 h2 f2))))⟩
theorem l_truth (so : SO S) (h : CI S M) (hN : 188 ≤ aN M) (q : LA S M post ((a_truth S v1 v2).map some)) : w_La_truth post 1 v1 v2 187 M := by
  unfold w_La_truth
  exact c_truthQ h (la1 (post := post) (e2 := 0) h hN q)
theorem B_truth (I : IV n xs c S M) (hv : V5 v n) (K : ∀ S' M', IV n xs (c + 1) S' M' → K23 1 136 187 (v + 6) M') : w_La_law_J869 post K23 1 136 187 v M := by
  unfold w_La_law_J869
  rw [I.k0]
  refine ⟨hv.1, hv.2.1, I.pos, ?_⟩
  refine l_truth I.so I.ci I.N.1 (LA_of (r := ((a_truth S (rI M 0 (v + 1).toNatClampNeg) (rI M 0 (v + 2).toNatClampNeg)).map some)) (fun M1 h1 f1 j1 => ?_))
  rw [f1.k0, I.k0, f1.i 0 (Or.inl rfl) (by omega)]
  exact ⟨hv.1, hv.2.1, m_truthQ (I.mi.fl f1) (MA_of (r := ((a_truth S (rI M 0 (v + 1).toNatClampNeg) (rI M 0 (v + 2).toNatClampNeg)).map some)) (fun x2 M2 h2 t2 f2 v2 => chk h2 f2 t2 j1 v2 (K _ M2 (I.next (so_truth I.so) h1 f1 h2 f2))))⟩
theorem l_duty (so : SO S) (h : CI S M) (hN : 188 ≤ aN M) (q : LA S M post ((a_duty S v1 v2).map some)) : w_La_duty post 1 v1 v2 187 M := by
  unfold w_La_duty
  exact c_dutyQ so h (la1 (post := post) (e2 := 0) h hN q)
theorem B_duty (I : IV n xs c S M) (hv : V5 v n) (K : ∀ S' M', IV n xs (c + 1) S' M' → K23 1 136 187 (v + 6) M') : w_La_law_J937 post K23 1 136 187 v M := by
  unfold w_La_law_J937
  rw [I.k0]
  refine ⟨hv.1, hv.2.1, I.pos, ?_⟩
  refine l_duty I.so I.ci I.N.1 (LA_of (r := ((a_duty S (rI M 0 (v + 1).toNatClampNeg) (rI M 0 (v + 2).toNatClampNeg)).map some)) (fun M1 h1 f1 j1 => ?_))
  rw [f1.k0, I.k0, f1.i 0 (Or.inl rfl) (by omega)]
  exact ⟨hv.1, hv.2.1, m_dutyQ I.so (I.mi.fl f1) (MA_of (r := ((a_duty S (rI M 0 (v + 1).toNatClampNeg) (rI M 0 (v + 2).toNatClampNeg)).map some)) (fun x2 M2 h2 t2 f2 v2 => chk h2 f2 t2 j1 v2 (K _ M2 (I.next (so_duty I.so) h1 f1 h2 f2))))⟩
theorem l_same (so : SO S) (h : CI S M) (hN : 188 ≤ aN M) (q : LA S M post ((a_same S).map some)) : w_La_same post 1  187 M := by
  unfold w_La_same
  exact c_sameQ so h (la1 (post := post) (e2 := 0) h hN q)
theorem B_same (I : IV n xs c S M) (hv : V5 v n) (K : ∀ S' M', IV n xs (c + 1) S' M' → K23 1 136 187 (v + 6) M') : w_La_law_J1005 post K23 1 136 187 v M := by
  unfold w_La_law_J1005
  refine ⟨I.pos, ?_⟩
  refine l_same I.so I.ci I.N.1 (LA_of (r := ((a_same S).map some)) (fun M1 h1 f1 j1 => ?_))
  exact m_sameQ I.so (I.mi.fl f1) (MA_of (r := ((a_same S).map some)) (fun x2 M2 h2 t2 f2 v2 => chk h2 f2 t2 j1 v2 (K _ M2 (I.next (so_same I.so) h1 f1 h2 f2))))
theorem l_differ (so : SO S) (h : CI S M) (hN : 188 ≤ aN M) (q : LA S M post (a_differ S v1 v2)) : w_La_differ post 1 v1 v2 187 M := by
  unfold w_La_differ
  exact c_differ h (la2 (post := post) h hN q)
theorem B_differ (I : IV n xs c S M) (hv : V5 v n) (K : ∀ S' M', IV n xs (c + 1) S' M' → K23 1 136 187 (v + 6) M') : w_La_law_J1049 post K23 1 136 187 v M := by
  unfold w_La_law_J1049
  rw [I.k0]
  refine ⟨hv.1, hv.2.1, I.pos, ?_⟩
  refine l_differ I.so I.ci I.N.1 (LA_of (r := (a_differ S (rI M 0 (v + 1).toNatClampNeg) (rI M 0 (v + 2).toNatClampNeg))) (fun M1 h1 f1 j1 => ?_))
  rw [f1.k0, I.k0, f1.i 0 (Or.inl rfl) (by omega)]
  exact ⟨hv.1, hv.2.1, m_differ (I.mi.fl f1) (MA_of (r := (a_differ S (rI M 0 (v + 1).toNatClampNeg) (rI M 0 (v + 2).toNatClampNeg))) (fun x2 M2 h2 t2 f2 v2 => chk h2 f2 t2 j1 v2 (K _ M2 (I.next (so_differ I.so) h1 f1 h2 f2))))⟩
theorem l_reach (so : SO S) (h : CI S M) (hN : 188 ≤ aN M) (q : LA S M post ((a_reach S v1 v2 v3).map some)) : w_La_reach post 1 v1 v2 v3 187 M := by
  unfold w_La_reach
  exact c_reachQ so h (la1 (post := post) (e2 := 0) h hN q)
theorem B_reach (I : IV n xs c S M) (hv : V5 v n) (K : ∀ S' M', IV n xs (c + 1) S' M' → K23 1 136 187 (v + 6) M') : w_La_law_J1117 post K23 1 136 187 v M := by
  unfold w_La_law_J1117
  rw [I.k0]
  refine ⟨hv.1, hv.2.1, hv.2.2.1, I.pos, ?_⟩
  refine l_reach I.so I.ci I.N.1 (LA_of (r := ((a_reach S (rI M 0 (v + 1).toNatClampNeg) (rI M 0 (v + 2).toNatClampNeg) (rI M 0 (v + 3).toNatClampNeg)).map some)) (fun M1 h1 f1 j1 => ?_))
  rw [f1.k0, I.k0, f1.i 0 (Or.inl rfl) (by omega)]
  exact ⟨hv.1, hv.2.1, hv.2.2.1, m_reachQ I.so (I.mi.fl f1) (MA_of (r := ((a_reach S (rI M 0 (v + 1).toNatClampNeg) (rI M 0 (v + 2).toNatClampNeg) (rI M 0 (v + 3).toNatClampNeg)).map some)) (fun x2 M2 h2 t2 f2 v2 => chk h2 f2 t2 j1 v2 (K _ M2 (I.next (so_reach I.so) h1 f1 h2 f2))))⟩
theorem l_witness (so : SO S) (h : CI S M) (hN : 188 ≤ aN M) (q : LA S M post ((a_witness S v1).map some)) : w_La_witness post 1 v1 187 M := by
  unfold w_La_witness
  exact c_witness so h (la1 (post := post) (e2 := 0) h hN q)
theorem B_witness (I : IV n xs c S M) (hv : V5 v n) (K : ∀ S' M', IV n xs (c + 1) S' M' → K23 1 136 187 (v + 6) M') : w_La_law_J1197 post K23 1 136 187 v M := by
  unfold w_La_law_J1197
  rw [I.k0]
  refine ⟨hv.1, I.pos, ?_⟩
  refine l_witness I.so I.ci I.N.1 (LA_of (r := ((a_witness S (rI M 0 (v + 1).toNatClampNeg)).map some)) (fun M1 h1 f1 j1 => ?_))
  rw [f1.k0, I.k0, f1.i 0 (Or.inl rfl) (by omega)]
  exact ⟨hv.1, m_witness I.so (I.mi.fl f1) (MA_of (r := ((a_witness S (rI M 0 (v + 1).toNatClampNeg)).map some)) (fun x2 M2 h2 t2 f2 v2 => chk h2 f2 t2 j1 v2 (K _ M2 (I.next (so_witness I.so) h1 f1 h2 f2))))⟩
theorem l_print (so : SO S) (h : CI S M) (hN : 188 ≤ aN M) (q : LA S M post (a_print S v1)) : w_La_print post 1 v1 187 M := by
  unfold w_La_print
  exact c_printQ so h (la2 (post := post) h hN q)
theorem B_print (I : IV n xs c S M) (hv : V5 v n) (K : ∀ S' M', IV n xs (c + 1) S' M' → K23 1 136 187 (v + 6) M') : w_La_law_J1253 post K23 1 136 187 v M := by
  unfold w_La_law_J1253
  rw [I.k0]
  refine ⟨hv.1, I.pos, ?_⟩
  refine l_print I.so I.ci I.N.1 (LA_of (r := (a_print S (rI M 0 (v + 1).toNatClampNeg))) (fun M1 h1 f1 j1 => ?_))
  rw [f1.k0, I.k0, f1.i 0 (Or.inl rfl) (by omega)]
  exact ⟨hv.1, m_printQ I.so (I.mi.fl f1) (MA_of (r := (a_print S (rI M 0 (v + 1).toNatClampNeg))) (fun x2 M2 h2 t2 f2 v2 => chk h2 f2 t2 j1 v2 (K _ M2 (I.next (so_print I.so) h1 f1 h2 f2))))⟩
theorem l_out (so : SO S) (h : CI S M) (hN : 188 ≤ aN M) (q : LA S M post ((a_out S v1).map some)) : w_La_out post 1 v1 187 M := by
  unfold w_La_out
  exact c_out so h (la1 (post := post) (e2 := 0) h hN q)
theorem B_out (I : IV n xs c S M) (hv : V5 v n) (K : ∀ S' M', IV n xs (c + 1) S' M' → K23 1 136 187 (v + 6) M') : w_La_law_J1309 post K23 1 136 187 v M := by
  unfold w_La_law_J1309
  rw [I.k0]
  refine ⟨hv.1, I.pos, ?_⟩
  refine l_out I.so I.ci I.N.1 (LA_of (r := ((a_out S (rI M 0 (v + 1).toNatClampNeg)).map some)) (fun M1 h1 f1 j1 => ?_))
  rw [f1.k0, I.k0, f1.i 0 (Or.inl rfl) (by omega)]
  exact ⟨hv.1, m_out I.so (I.mi.fl f1) (MA_of (r := ((a_out S (rI M 0 (v + 1).toNatClampNeg)).map some)) (fun x2 M2 h2 t2 f2 v2 => chk h2 f2 t2 j1 v2 (K _ M2 (I.next (so_out I.so) h1 f1 h2 f2))))⟩
theorem l_again (so : SO S) (h : CI S M) (hN : 188 ≤ aN M) (q : LA S M post ((a_again S).map some)) : w_La_again post 1  187 M := by
  unfold w_La_again
  exact c_again so h (la1 (post := post) (e2 := 0) h hN q)
theorem B_again (I : IV n xs c S M) (hv : V5 v n) (K : ∀ S' M', IV n xs (c + 1) S' M' → K23 1 136 187 (v + 6) M') : w_La_law_J1365 post K23 1 136 187 v M := by
  unfold w_La_law_J1365
  refine ⟨I.pos, ?_⟩
  refine l_again I.so I.ci I.N.1 (LA_of (r := ((a_again S).map some)) (fun M1 h1 f1 j1 => ?_))
  exact m_again I.so (I.mi.fl f1) (MA_of (r := ((a_again S).map some)) (fun x2 M2 h2 t2 f2 v2 => chk h2 f2 t2 j1 v2 (K _ M2 (I.next (so_again I.so) h1 f1 h2 f2))))
theorem B_end (I : IV n xs c S M) (hv : V5 v n) (K : ∀ S' M', IV n xs (c + 1) S' M' → K23 1 136 187 (v + 6) M') : w_La_law_J240 post K23 1 136 187 v M := by
  unfold w_La_law_J240
  rw [I.k0]
  refine ⟨hv.1, I.pos, l_end I.ci I.N.1 (fun z M1 h1 f1 => ?_) (fun k z M1 h1 f1 => ?_)⟩
  · rw [f1.k0, I.k0, f1.i 0 (Or.inl rfl) (by omega)]
    refine ⟨hv.1, m_end (I.mi.fl f1) (fun _ M2 h2 t2 f2 => ?_) (fun k z2 M2 h2 t2 f2 => ?_)⟩
    · unfold w_Mo_thrown
      exact br_t t2 (K _ M2 (I.next I.so h1 f1 h2 f2))
    · rw [z] at z2; cases z2
  · rw [f1.k0, I.k0, f1.i 0 (Or.inl rfl) (by omega)]
    refine ⟨hv.1, m_end (I.mi.fl f1) (fun z2 M2 h2 t2 f2 => ?_) (fun k2 z2 M2 h2 t2 f2 => ?_)⟩
    · rw [z] at z2; cases z2
    · rw [z] at z2; cases z2
      unfold w_Mo_thrown
      exact br_t t2 (K _ M2 (I.next (so_tp I.so) h1 f1 h2 f2))
theorem B_fault (I : IV n xs c S M) (K : ∀ S' M', IV n xs (c + 1) S' M' → K23 1 136 187 (v + 6) M') : w_La_law_J332 post K23 1 136 187 v M := by
  unfold w_La_law_J332 w_J_fault w_Mo_fault
  have a := I.N
  have b := I.Z
  refine br_t ?_ (K S M ⟨I.so, I.ci, I.mi, by omega, by omega, I.k0, I.x0⟩)
  rw [show rI M (1 + 1) 1 = _ from I.ci.fk, I.mi.fk]
theorem law_loop (hn : n ≤ 3072) (p1 : ∀ M' S', aN M' ≤ 188 + 512 → aZ M' ≤ 200000 + 6 * 512 → IV n xs 512 S' M' ∨ True → post 1 M') : ∀ (f c : Nat) (S : Sx) (M : aM), 512 ≤ c + f → c ≤ 512 → IV n xs c S M → w_La_law_L23 post (f + 1) 1 136 187 (nI (6 * c)) M := by
  intro f
  induction f with
  | zero =>
    intro c S M hf hc I
    have a := I.N
    have b := I.Z
    unfold w_La_law_L23
    rw [I.k0]
    have e : nI n - 6 < nI (6 * c) := by rw [Int32.lt_iff_toInt_lt, show (6 : Int32) = nI 6 from rfl, pk_sub_toInt (by omega) (by omega), nI_toInt (by omega)]; omega
    exact br_t e ⟨Or.inr rfl, p1 M S (by omega) (by omega) (Or.inr trivial)⟩
  | succ f ih =>
    intro c S M hf hc I
    have a := I.N
    have b := I.Z
    unfold w_La_law_L23
    rw [I.k0]
    by_cases z : n < 6 * c + 6
    · have e : nI n - 6 < nI (6 * c) := by rw [Int32.lt_iff_toInt_lt, show (6 : Int32) = nI 6 from rfl, pk_sub_toInt (by omega) (by omega), nI_toInt (by omega)]; omega
      exact br_t e ⟨Or.inr rfl, p1 M S (by omega) (by omega) (Or.inr trivial)⟩
    · have e : ¬ nI n - 6 < nI (6 * c) := by rw [Int32.lt_iff_toInt_lt, show (6 : Int32) = nI 6 from rfl, pk_sub_toInt (by omega) (by omega), nI_toInt (by omega)]; omega
      refine br_f e ⟨vin (by omega), ?_⟩
      have hv : V5 (nI (6 * c)) n := by
        refine ⟨?_, ?_, ?_, ?_, ?_⟩
        · rw [show nI (6 * c) + (1 : Int32) = nI (6 * c + 1) from nI_add _ 1]; exact vin (by omega)
        · rw [show nI (6 * c) + (2 : Int32) = nI (6 * c + 2) from nI_add _ 2]; exact vin (by omega)
        · rw [show nI (6 * c) + (3 : Int32) = nI (6 * c + 3) from nI_add _ 3]; exact vin (by omega)
        · rw [show nI (6 * c) + (4 : Int32) = nI (6 * c + 4) from nI_add _ 4]; exact vin (by omega)
        · rw [show nI (6 * c) + (5 : Int32) = nI (6 * c + 5) from nI_add _ 5]; exact vin (by omega)
      have K : ∀ S' M', IV n xs (c + 1) S' M' → w_La_law_L23 post (f + 1) 1 136 187 (nI (6 * c) + 6) M' := fun S' M' I' => by
        rw [show nI (6 * c) + (6 : Int32) = nI (6 * (c + 1)) from nI_add _ 6]
        exact ih (c + 1) S' M' (by omega) (by omega) I'
      have K0 : w_La_law_L23 post (f + 1) 1 136 187 (nI (6 * c) + 6) M := K S M ⟨I.so, I.ci, I.mi, by omega, by omega, I.k0, I.x0⟩
      refine br_c (fun _ => B_feed I hv K) (fun _ => ?_)
      refine br_c (fun _ => B_end I hv K) (fun _ => ?_)
      refine br_c (fun _ => B_load I hv K) (fun _ => ?_)
      refine br_c (fun _ => B_fault I K) (fun _ => ?_)
      refine br_c (fun _ => B_count I hv K) (fun _ => ?_)
      refine br_c (fun _ => B_node I hv K) (fun _ => ?_)
      refine br_c (fun _ => B_name I hv K) (fun _ => ?_)
      refine br_c (fun _ => B_attribute I hv K) (fun _ => ?_)
      refine br_c (fun _ => B_bag I hv K) (fun _ => ?_)
      refine br_c (fun _ => B_decide I hv K) (fun _ => ?_)
      refine br_c (fun _ => B_decided I hv K) (fun _ => ?_)
      refine br_c (fun _ => B_truth I hv K) (fun _ => ?_)
      refine br_c (fun _ => B_duty I hv K) (fun _ => ?_)
      refine br_c (fun _ => B_same I hv K) (fun _ => ?_)
      refine br_c (fun _ => B_differ I hv K) (fun _ => ?_)
      refine br_c (fun _ => B_reach I hv K) (fun _ => ?_)
      refine br_c (fun _ => B_witness I hv K) (fun _ => ?_)
      refine br_c (fun _ => B_print I hv K) (fun _ => ?_)
      refine br_c (fun _ => B_out I hv K) (fun _ => ?_)
      refine br_c (fun _ => B_again I hv K) (fun _ => ?_)
      exact K0
end LW2
