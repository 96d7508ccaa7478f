/-! Fields: what the tables say, and the laws of getfield and putfield. -/
theorem in_tbl {w : Cond} (h : w ∈ lw_tbl) (g : goodWord w = true) : w ∈ aTbl := List.mem_filter.mpr ⟨h, g⟩
theorem in_tbl_i {i : Nat} {w : Cond} (h : lw_tbl[i]? = some w) (g : goodWord w = true) : w ∈ aTbl := in_tbl (List.mem_of_getElem? h) g
theorem in_tbl_ws {ws : List Cond} {ps : List Nat} (hp : ws = ps.filterMap (fun i => lw_tbl[i]?)) (h : ws.all goodWord = true) : ∀ w ∈ ws, w ∈ aTbl := by
  intro w hw
  have h1 := List.all_eq_true.mp h w hw
  rw [hp] at hw
  obtain ⟨i, -, hi⟩ := List.mem_filterMap.mp hw
  exact in_tbl_i hi h1
/-- a field's sort fits its type -/
def kQ (ci j : Nat) : Bool := match (aFd ci j).1, tTy ci j, (tFT ci j).2.2.2 with
  | 0, .int, false => true
  | 1, .boolean, false => true
  | 2, .object _, true => decide (4 ≤ (aFd ci j).2.1)
  | 2, .array _, true => decide (4 ≤ (aFd ci j).2.1)
  | 3, .object _, false => decide (4 ≤ (aFd ci j).2.1)
  | 3, .array _, false => decide (4 ≤ (aFd ci j).2.1)
  | 4, .long, false => true
  | _, _, _ => false
def aCf (ci : Nat) : Prop := aCls[ci]? = some (tCn ci, tFT ci, (aFs ci).length) ∧ (∀ w ∈ u_ws (tCn ci) (tFT ci) (aFs ci).length, w ∈ aTbl) ∧ (∀ k, k < (aFs ci).length → parseFieldDescriptor (tFT ci k).2.2.1 = some (tTy ci k)) ∧ (∀ a, a < (aFs ci).length → ∀ b, b < (aFs ci).length → a ≠ b → (tFT ci a).2.1 ≠ (tFT ci b).2.1) ∧ (∀ k, k < (aFs ci).length → (tFT ci k).1 = tCn ci) ∧ (∀ k, k < (aFs ci).length → kQ ci k = true) ∧ (tFL.getD ci []).length = (aFs ci).length
theorem aCf_all {ci : Nat} (h : ci < 12) : aCf ci := by
  rcases (show ci = 0 ∨ ci = 1 ∨ ci = 2 ∨ ci = 3 ∨ ci = 4 ∨ ci = 5 ∨ ci = 6 ∨ ci = 7 ∨ ci = 8 ∨ ci = 9 ∨ ci = 10 ∨ ci = 11 by omega) with rfl | rfl | rfl | rfl | rfl | rfl | rfl | rfl | rfl | rfl | rfl | rfl
  · exact ⟨rfl, in_tbl_ws kc_0 kg_0, kt_0, kn_0, ko_0, by decide +kernel, by decide +kernel⟩
  · exact ⟨rfl, in_tbl_ws kc_1 kg_1, kt_1, kn_1, ko_1, by decide +kernel, by decide +kernel⟩
  · exact ⟨rfl, in_tbl_ws kc_2 kg_2, kt_2, kn_2, ko_2, by decide +kernel, by decide +kernel⟩
  · exact ⟨rfl, in_tbl_ws kc_3 kg_3, kt_3, kn_3, ko_3, by decide +kernel, by decide +kernel⟩
  · exact ⟨rfl, in_tbl_ws kc_4 kg_4, kt_4, kn_4, ko_4, by decide +kernel, by decide +kernel⟩
  · exact ⟨rfl, in_tbl_ws kc_5 kg_5, kt_5, kn_5, ko_5, by decide +kernel, by decide +kernel⟩
  · exact ⟨rfl, in_tbl_ws kc_6 kg_6, kt_6, kn_6, ko_6, by decide +kernel, by decide +kernel⟩
  · exact ⟨rfl, in_tbl_ws kc_7 kg_7, kt_7, kn_7, ko_7, by decide +kernel, by decide +kernel⟩
  · exact ⟨rfl, in_tbl_ws kc_8 kg_8, kt_8, kn_8, ko_8, by decide +kernel, by decide +kernel⟩
  · exact ⟨rfl, in_tbl_ws kc_9 kg_9, kt_9, kn_9, ko_9, by decide +kernel, by decide +kernel⟩
  · exact ⟨rfl, in_tbl_ws kc_10 kg_10, kt_10, kn_10, ko_10, by decide +kernel, by decide +kernel⟩
  · exact ⟨rfl, in_tbl_ws kc_11 kg_11, kt_11, kn_11, ko_11, by decide +kernel, by decide +kernel⟩
theorem lk_mem {α : Type} {L : List (Nat × α)} {k : Nat} {v : α} (h : (L.find? (fun e => e.1 == k)).map (fun e => e.2) = some v) : (k, v) ∈ L := by
  cases hf : L.find? (fun e => e.1 == k) with
  | none => rw [hf] at h; cases h
  | some e =>
    rw [hf] at h
    have h1 := List.find?_some hf
    have h2 := List.mem_of_find?_eq_some hf
    obtain ⟨a, b⟩ := e
    have h3 : a = k := by simpa using h1
    have h4 : b = v := by simpa using h
    subst h3 h4
    exact h2
theorem zip_all {α β : Type} {l : List α} {l' : List β} {f : α × β → Bool} (hl : l.length = l'.length) (h : (l.zip l').all f = true) {a : α} (ha : a ∈ l) : ∃ b, f (a, b) = true := by
  obtain ⟨i, hi, he⟩ := List.mem_iff_getElem.mp ha
  have hi' : i < l'.length := by omega
  refine ⟨l'[i], List.all_eq_true.mp h _ ?_⟩
  refine List.mem_iff_getElem.mpr ⟨i, by rw [List.length_zip]; omega, ?_⟩
  rw [List.getElem_zip, he]
theorem kFo_all {o : Nat} (h : o < 16) : kFo o = true := by
  rcases (show o = 0 ∨ o = 1 ∨ o = 2 ∨ o = 3 ∨ o = 4 ∨ o = 5 ∨ o = 6 ∨ o = 7 ∨ o = 8 ∨ o = 9 ∨ o = 10 ∨ o = 11 ∨ o = 12 ∨ o = 13 ∨ o = 14 ∨ o = 15 by omega) with rfl | rfl | rfl | rfl | rfl | rfl | rfl | rfl | rfl | rfl | rfl | rfl | rfl | rfl | rfl | rfl
  · exact kf_0
  · exact kf_1
  · exact kf_2
  · exact kf_3
  · exact kf_4
  · exact kf_5
  · exact kf_6
  · exact kf_7
  · exact kf_8
  · exact kf_9
  · exact kf_10
  · exact kf_11
  · exact kf_12
  · exact kf_13
  · exact kf_14
  · exact kf_15
theorem tFld_ok {o k ci j : Nat} {f : aF} (ho : o < 16) (h : tFld o k = some (ci, j, f)) : Cond.fieldLink (tCn o) k (tCn ci) (tFT ci j).2.1 (tFT ci j).2.2.1 ∈ aTbl ∧ j < (aFs ci).length ∧ ci < 12 ∧ f = aFd ci j := by
  have hm := lk_mem (L := tFldL.getD o []) h
  have hk := kFo_all ho
  unfold kFo at hk
  simp only [Bool.and_eq_true, decide_eq_true_eq] at hk
  obtain ⟨ix, hx⟩ := zip_all hk.1 hk.2 hm
  unfold kF at hx
  simp only [Bool.and_eq_true, decide_eq_true_eq, beq_iff_eq] at hx
  obtain ⟨h1, h2, h3, h4⟩ := hx
  refine ⟨in_tbl_i h1 rfl, ?_, h3, h4⟩
  rw [← (aCf_all h3).2.2.2.2.2.2]
  exact h2
theorem kQ_spec {ci j : Nat} (h : kQ ci j = true) : (aFd ci j).1 ≤ 4 ∧ (((aFd ci j).1 = 2 ∨ (aFd ci j).1 = 3) → 4 ≤ (aFd ci j).2.1) := by
  unfold kQ at h
  split at h <;> simp_all
theorem aGet_ok {E : aE} {fl : Bool} {M : aM} {i ci j : Nat} (hw : aWf fl M) (ht : aTy M (10 + ci) i) (hci : ci < 90) (hj : j < (aFs ci).length) (hq : kQ ci j = true) : cf E M i j (aFd ci j) = cv E (aGet fl M i j (aFd ci j)) ∧ aOkV M (aGet fl M i j (aFd ci j)) := by
  obtain ⟨hs, htag⟩ := kQ_spec hq
  have hw1 := hw.1 i ci ht.1 ht.2.1 ht.2.2 hci j hj
  revert hs htag hw1
  generalize aFd ci j = f
  intro hs htag hw1
  obtain ⟨s, t, w⟩ := f
  have key : ∀ k, k ≠ 0 → 4 ≤ t → cr E t k = cv E (aR t k) := by
    intro k hk h4
    show (if k = 0 then Value.null else .ref (aAd E t k)) = (if t = 0 then Value.null else .ref (aAd E t k))
    rw [if_neg hk, if_neg (by omega)]
  have key0 : ∀ k, 4 ≤ t → (k = 0 ∨ aTy M t k) → cr E t k = cv E (aRf t k) ∧ aOkV M (aRf t k) := by
    intro k h4 ho
    unfold aRf
    by_cases hk : k = 0
    · subst hk
      exact ⟨rfl, Or.inl (by decide)⟩
    · rw [if_neg hk]
      exact ⟨key k hk h4, Or.inr (ho.resolve_left hk)⟩
  match s, hs, htag, hw1 with
  | 0, _, _, _ => exact ⟨rfl, trivial⟩
  | 1, _, _, _ => exact ⟨rfl, trivial⟩
  | 2, _, htag, hw1 =>
    obtain ⟨a1, a2⟩ := hw1 (Or.inl rfl)
    have h4 := htag (Or.inl rfl)
    cases fl with
    | true =>
      obtain ⟨b1, b2⟩ := a2 rfl
      have b3 : rR M i j = i + w := b2 rfl
      have b4 := a1.resolve_left b1
      rw [b3] at b1 b4
      show cr E t (rR M i j) = cv E (aR t (i + w)) ∧ aOkV M (aR t (i + w))
      rw [b3]
      exact ⟨key _ b1 h4, Or.inr b4⟩
    | false => exact key0 _ h4 a1
  | 3, _, htag, hw1 =>
    obtain ⟨a1, a2⟩ := hw1 (Or.inr rfl)
    have h4 := htag (Or.inr rfl)
    cases fl with
    | true =>
      obtain ⟨b1, b2⟩ := a2 rfl
      exact ⟨key _ b1 h4, Or.inr (a1.resolve_left b1)⟩
    | false => exact key0 _ h4 a1
  | 4, _, _, _ => exact ⟨rfl, trivial⟩
  | n + 5, hs, _, _ => exact absurd hs (by omega)
section AS2
variable {E : aE} {p : Program} {l : Launch} {e : Env} {R : Room} {s : State} {m : MethodId} {args : Array Value} {below : List Frame} {meth : Method} {c : Code} {Q : State → Prop} {n0 z0 : Nat} {pc q len tg : Nat} {L : List (Option aV)} {st : List aV} {M : aM} {u fl : Bool} {v0 : Int32} {sw : List (Int32 × Nat)} {P : Prop} {σ1 : aS}
theorem tOwn_lt (q : Nat) : tOwn q < 16 := by
  unfold tOwn
  rw [List.getD_eq_getElem?_getD]
  cases h : tOwnL[q]? with
  | none => exact (by decide : (0 : Nat) < 16)
  | some x =>
    have h1 : ∀ x ∈ tOwnL, x < 16 := by decide +kernel
    exact h1 x (List.mem_of_getElem? h)
theorem as_getfield (X : aCx E p s m args meth c q) {i : Nat} (hd : decode (tB q) pc = .ok (.getfield i, len)) (hsd : aSide pc (.getfield i) len v0 tg sw = true) (hs : aStep fl (tOwn q) pc (.getfield i) len v0 tg L st M = some (P, σ1)) (hP : P) (ok : aOk fl M L st) (k : aOk fl σ1.2.2.2 σ1.2.1 σ1.2.2.1 → aG E p l e R s m args below meth c n0 z0 Q (bif aWr (.getfield i) then false else u) σ1) : aG E p l e R s m args below meth c n0 z0 Q u (pc, L, st, M) := by
  have hl9 : len = 3 := by simpa [aSide] using hsd
  subst hl9
  unfold aStep at hs
  dsimp only at hs
  cases hf : tFld (tOwn q) i with
  | none => rw [hf] at hs; cases hs
  | some z =>
    obtain ⟨ci, j, f⟩ := z
    rw [hf] at hs
    dsimp only at hs
    obtain ⟨h1, h2, h3, rfl⟩ := tFld_ok (tOwn_lt q) hf
    obtain ⟨g1, g2, g3, g4, g5, g6, -⟩ := aCf_all h3
    rcases st with _ | ⟨v, st⟩
    · cases hs
    · rcases v with x | r | x
      · cases hs
      · obtain ⟨t, k9⟩ := r
        dsimp only at hs
        by_cases ht : t = 10 + ci
        · subst ht
          rw [show ((10 + ci == 10 + ci) = true) from beq_self_eq_true _] at hs
          cases hs
          have o9 := aOkS_cons.mp ok.1
          have o8 : aTy M (10 + ci) k9 := by
            rcases o9.1 with h | h
            · omega
            · exact h
          obtain ⟨y1, y2⟩ := aGet_ok (E := E) ok.2.2 o8 (by omega) h2 (g6 j h2)
          exact ag_get X.1 X.2.1 X.2.2.2.2.1 g2 X.2.2.2.1 g1 (by omega) X.2.2.2.2.2.1.1 o8.1 o8.2.1 o8.2.2 j h2 (X.2.2.2.2.1 _ h1) (fun x h9 => by rw [g5 j h2] at h9; exact h9) y1 hd (k ⟨aOkS_cons.mpr ⟨y2, o9.2⟩, ok.2⟩)
        · rw [show (t == 10 + ci) = false by simp [ht]] at hs
          cases hs
      · cases hs
end AS2
