/-! WHAT THE MODEL'S READING KEEPS: rows of booleans hold 0 or 1. -/
def BQ (M : aM) : Prop := ∀ k j, (k = 141 ∨ k = 142) → rI M k j = 0 ∨ rI M k j = 1
theorem BQ_w {M : aM} {k j : Nat} {x : Int32} (hk : k ≠ 141 ∧ k ≠ 142) (h : BQ M) : BQ (wI M k j x) := by
  intro k' j' hk'
  rw [rw_n (by omega)]
  exact h k' j' hk'
theorem BQ_b {M : aM} {k j : Nat} {x : Int32} (hx : x = 0 ∨ x = 1) (h : BQ M) : BQ (wI M k j x) := by
  intro k' j' hk'
  rw [rw_e]
  split
  · exact hx
  · exact h k' j' hk'
theorem b_Mo_in {post post' : Int32 → Prop} {v0 : Int32} {v1 : Int32} {v2 : Int32} {M : aM} (h : w_Mo_in post v0 v1 v2 M) (hp : ∀ (y0 : Int32), post y0 → post' y0) : w_Mo_in post' v0 v1 v2 M := by
  unfold w_Mo_in at h ⊢
  exact ⟨(fun c1 => ⟨(h.1 c1).1, (hp _ (h.1 c1).2)⟩), (fun c2 => ⟨(fun c3 => ⟨((h.2 c2).1 c3).1, (hp _ ((h.2 c2).1 c3).2)⟩), (fun c4 => ⟨((h.2 c2).2 c4).1, (hp _ ((h.2 c2).2 c4).2)⟩)⟩)⟩
theorem b_Mo_at {post post' : Int32 → Prop} {k0 : Nat} {v1 : Int32} {M : aM} (h : w_Mo_at post k0 v1 M) (hp : ∀ (y0 : Int32), post y0 → post' y0) : w_Mo_at post' k0 v1 M := by
  unfold w_Mo_at at h ⊢
  exact ⟨(fun c1 => (hp _ (h.1 c1))), (fun c2 => ⟨(h.2 c2).1, (hp _ (h.2 c2).2)⟩)⟩
theorem b_Mo_isLetter {post post' : Int32 → Prop} {v0 : Int32} {M : aM} (h : w_Mo_isLetter post v0 M) (hp : ∀ (y0 : Int32), post y0 → post' y0) : w_Mo_isLetter post' v0 M := by
  unfold w_Mo_isLetter at h ⊢
  exact (b_Mo_in h (fun x1 g1 => ⟨(fun c2 => ⟨(g1.1 c2).1, (hp _ (g1.1 c2).2)⟩), (fun c3 => (b_Mo_in (g1.2 c3) (fun x2 g4 => ⟨(fun c5 => ⟨(g4.1 c5).1, (hp _ (g4.1 c5).2)⟩), (fun c6 => ⟨(g4.2 c6).1, (hp _ (g4.2 c6).2)⟩)⟩)))⟩))
theorem b_Mo_isDigit {post post' : Int32 → Prop} {v0 : Int32} {M : aM} (h : w_Mo_isDigit post v0 M) (hp : ∀ (y0 : Int32), post y0 → post' y0) : w_Mo_isDigit post' v0 M := by
  unfold w_Mo_isDigit at h ⊢
  exact (b_Mo_in h (fun x1 g1 => ⟨g1.1, (hp _ g1.2)⟩))
theorem b_Mo_goesOn {post post' : Int32 → Prop} {v0 : Int32} {M : aM} (h : w_Mo_goesOn post v0 M) (hp : ∀ (y0 : Int32), post y0 → post' y0) : w_Mo_goesOn post' v0 M := by
  unfold w_Mo_goesOn at h ⊢
  exact (b_Mo_isLetter h (fun x1 g1 => ⟨(fun c2 => ⟨(g1.1 c2).1, (hp _ (g1.1 c2).2)⟩), (fun c3 => (b_Mo_isDigit (g1.2 c3) (fun x2 g4 => ⟨(fun c5 => ⟨(g4.1 c5).1, (hp _ (g4.1 c5).2)⟩), (fun c6 => ⟨(fun c7 => ⟨((g4.2 c6).1 c7).1, (hp _ ((g4.2 c6).1 c7).2)⟩), (fun c8 => ⟨((g4.2 c6).2 c8).1, (hp _ ((g4.2 c6).2 c8).2)⟩)⟩)⟩)))⟩))
theorem b_Mo_bad {post post' : aM → Prop} {v1 : Int32} {M : aM} (h : w_Mo_bad post 136 v1 M) (hB : BQ M) (hp : ∀ (y0 : aM), BQ y0 → post y0 → post' y0) : w_Mo_bad post' 136 v1 M := by
  unfold w_Mo_bad at h ⊢
  exact ⟨(fun c1 => (hp _ hB (h.1 c1))), (fun c2 => (hp _ (BQ_w (by omega) (BQ_w (by omega) hB)) (h.2 c2)))⟩
theorem b_Mo_isSign {post post' : Int32 → Prop} {v0 : Int32} {M : aM} (h : w_Mo_isSign post v0 M) (hp : ∀ (y0 : Int32), post y0 → post' y0) : w_Mo_isSign post' v0 M := by
  unfold w_Mo_isSign at h ⊢
  exact ⟨(fun c1 => ⟨(h.1 c1).1, (hp _ (h.1 c1).2)⟩), (fun c2 => ⟨(fun c3 => ⟨((h.2 c2).1 c3).1, (hp _ ((h.2 c2).1 c3).2)⟩), (fun c4 => ⟨(fun c5 => ⟨(((h.2 c2).2 c4).1 c5).1, (hp _ (((h.2 c2).2 c4).1 c5).2)⟩), (fun c6 => ⟨(fun c7 => ⟨((((h.2 c2).2 c4).2 c6).1 c7).1, (hp _ ((((h.2 c2).2 c4).2 c6).1 c7).2)⟩), (fun c8 => ⟨(fun c9 => ⟨(((((h.2 c2).2 c4).2 c6).2 c8).1 c9).1, (hp _ (((((h.2 c2).2 c4).2 c6).2 c8).1 c9).2)⟩), (fun c10 => ⟨(fun c11 => ⟨((((((h.2 c2).2 c4).2 c6).2 c8).2 c10).1 c11).1, (hp _ ((((((h.2 c2).2 c4).2 c6).2 c8).2 c10).1 c11).2)⟩), (fun c12 => ⟨(fun c13 => ⟨(((((((h.2 c2).2 c4).2 c6).2 c8).2 c10).2 c12).1 c13).1, (hp _ (((((((h.2 c2).2 c4).2 c6).2 c8).2 c10).2 c12).1 c13).2)⟩), (fun c14 => ⟨(fun c15 => ⟨((((((((h.2 c2).2 c4).2 c6).2 c8).2 c10).2 c12).2 c14).1 c15).1, (hp _ ((((((((h.2 c2).2 c4).2 c6).2 c8).2 c10).2 c12).2 c14).1 c15).2)⟩), (fun c16 => ⟨(fun c17 => ⟨(((((((((h.2 c2).2 c4).2 c6).2 c8).2 c10).2 c12).2 c14).2 c16).1 c17).1, (hp _ (((((((((h.2 c2).2 c4).2 c6).2 c8).2 c10).2 c12).2 c14).2 c16).1 c17).2)⟩), (fun c18 => ⟨(((((((((h.2 c2).2 c4).2 c6).2 c8).2 c10).2 c12).2 c14).2 c16).2 c18).1, (hp _ (((((((((h.2 c2).2 c4).2 c6).2 c8).2 c10).2 c12).2 c14).2 c16).2 c18).2)⟩)⟩)⟩)⟩)⟩)⟩)⟩)⟩)⟩)⟩
theorem b_Mo_nextToken_J61 {post post' : aM → Prop} {K9 K9' : Nat → aM → Prop} {M : aM} (h : w_Mo_nextToken_J61 post K9 136 M) (hB : BQ M) (hp : ∀ (y0 : aM), BQ y0 → post y0 → post' y0) (hK9 : ∀ (y1 : aM), BQ y1 → K9 136 y1 → K9' 136 y1) : w_Mo_nextToken_J61 post' K9' 136 M := by
  unfold w_Mo_nextToken_J61 at h ⊢
  exact (hK9 _ (BQ_w (by omega) hB) h)
theorem b_Mo_nextToken_J297 {post post' : aM → Prop} {M : aM} (h : w_Mo_nextToken_J297 post 136 M) (hB : BQ M) (hp : ∀ (y0 : aM), BQ y0 → post y0 → post' y0) : w_Mo_nextToken_J297 post' 136 M := by
  unfold w_Mo_nextToken_J297 at h ⊢
  exact (hp _ (BQ_w (by omega) hB) h)
theorem b_Mo_nextToken_J292 {post post' : aM → Prop} {M : aM} (h : w_Mo_nextToken_J292 post 136 M) (hB : BQ M) (hp : ∀ (y0 : aM), BQ y0 → post y0 → post' y0) : w_Mo_nextToken_J292 post' 136 M := by
  unfold w_Mo_nextToken_J292 at h ⊢
  exact (b_Mo_nextToken_J297 h (BQ_w (by omega) hB) hp)
theorem b_Mo_nextToken_J258 {post post' : aM → Prop} {M : aM} (h : w_Mo_nextToken_J258 post 136 M) (hB : BQ M) (hp : ∀ (y0 : aM), BQ y0 → post y0 → post' y0) : w_Mo_nextToken_J258 post' 136 M := by
  unfold w_Mo_nextToken_J258 at h ⊢
  exact (b_Mo_at h (fun x1 g1 => (b_Mo_goesOn g1 (fun x2 g2 => ⟨(fun c3 => (hp _ hB (g2.1 c3))), (fun c4 => (b_Mo_bad (g2.2 c4) hB (fun M3 m5 g5 => (hp _ m5 g5))))⟩))))
theorem b_Mo_nextToken_L195_n {post post' : aM → Prop} (hp : ∀ (y0 : aM), BQ y0 → post y0 → post' y0) : ∀ (n : Nat) (M : aM), BQ M → w_Mo_nextToken_L195 post n 136 M → w_Mo_nextToken_L195 post' n 136 M := by
  intro n
  induction n with
  | zero => intro M hB h; exact h.elim
  | succ n ih =>
    intro M hB h
    unfold w_Mo_nextToken_L195 at h ⊢
    exact (b_Mo_at h (fun x1 g1 => (b_Mo_isDigit g1 (fun x2 g2 => ⟨(fun c3 => (b_Mo_nextToken_J258 (g2.1 c3) hB hp)), (fun c4 => ⟨(fun c5 => (b_Mo_nextToken_J258 ((g2.2 c4).1 c5) hB hp)), (fun c6 => (b_Mo_at ((g2.2 c4).2 c6) (fun x3 g7 => (ih _ (BQ_w (by omega) (BQ_w (by omega) hB)) g7))))⟩)⟩))))
theorem b_Mo_nextToken_L195 {post post' : aM → Prop} {n : Nat} {M : aM} (h : w_Mo_nextToken_L195 post n 136 M) (hB : BQ M) (hp : ∀ (y0 : aM), BQ y0 → post y0 → post' y0) : w_Mo_nextToken_L195 post' n 136 M := b_Mo_nextToken_L195_n hp n M hB h
theorem b_Mo_nextToken_L121_n {post post' : aM → Prop} (hp : ∀ (y0 : aM), BQ y0 → post y0 → post' y0) : ∀ (n : Nat) (M : aM), BQ M → w_Mo_nextToken_L121 post n 136 M → w_Mo_nextToken_L121 post' n 136 M := by
  intro n
  induction n with
  | zero => intro M hB h; exact h.elim
  | succ n ih =>
    intro M hB h
    unfold w_Mo_nextToken_L121 at h ⊢
    exact (b_Mo_at h (fun x1 g1 => (b_Mo_goesOn g1 (fun x2 g2 => ⟨(fun c3 => ⟨(fun c4 => (hp _ (BQ_w (by omega) hB) ((g2.1 c3).1 c4))), (fun c5 => (b_Mo_bad ((g2.1 c3).2 c5) (BQ_w (by omega) hB) (fun M3 m6 g6 => (hp _ m6 g6))))⟩), (fun c7 => (ih _ (BQ_w (by omega) hB) (g2.2 c7)))⟩))))
theorem b_Mo_nextToken_L121 {post post' : aM → Prop} {n : Nat} {M : aM} (h : w_Mo_nextToken_L121 post n 136 M) (hB : BQ M) (hp : ∀ (y0 : aM), BQ y0 → post y0 → post' y0) : w_Mo_nextToken_L121 post' n 136 M := b_Mo_nextToken_L121_n hp n M hB h
theorem b_Mo_nextToken_L9_n {post post' : aM → Prop} (hp : ∀ (y0 : aM), BQ y0 → post y0 → post' y0) : ∀ (n : Nat) (M : aM), BQ M → w_Mo_nextToken_L9 post n 136 M → w_Mo_nextToken_L9 post' n 136 M := by
  intro n
  induction n with
  | zero => intro M hB h; exact h.elim
  | succ n ih =>
    intro M hB h
    unfold w_Mo_nextToken_L9 at h ⊢
    exact (b_Mo_at h (fun x1 g1 => ⟨(fun c2 => (b_Mo_nextToken_J61 (g1.1 c2) hB hp ih)), (fun c3 => (b_Mo_at (g1.2 c3) (fun x2 g4 => ⟨(fun c5 => (b_Mo_nextToken_J61 (g4.1 c5) hB hp ih)), (fun c6 => (b_Mo_at (g4.2 c6) (fun x3 g7 => ⟨(fun c8 => (b_Mo_nextToken_J61 (g7.1 c8) hB hp ih)), (fun c9 => (b_Mo_at (g7.2 c9) (fun x4 g10 => ⟨(fun c11 => (b_Mo_at (g10.1 c11) (fun x5 g12 => ⟨(fun c13 => (b_Mo_isLetter (g12.1 c13) (fun x6 g14 => ⟨(fun c15 => (b_Mo_isDigit (g14.1 c15) (fun x7 g16 => ⟨(fun c17 => (b_Mo_isSign (g16.1 c17) (fun x8 g18 => ⟨(fun c19 => (b_Mo_bad (g18.1 c19) (BQ_w (by omega) hB) (fun M9 m20 g20 => (hp _ m20 g20)))), (fun c21 => (b_Mo_nextToken_J292 (g18.2 c21) (BQ_w (by omega) (BQ_w (by omega) hB)) hp))⟩))), (fun c22 => (match (g16.2 c22) with | ⟨n23, h23⟩ => ⟨n23, (b_Mo_nextToken_L195 h23 (BQ_w (by omega) (BQ_w (by omega) (BQ_w (by omega) hB))) hp)⟩))⟩))), (fun c24 => (match (g14.2 c24) with | ⟨n25, h25⟩ => ⟨n25, (b_Mo_nextToken_L121 h25 (BQ_w (by omega) (BQ_w (by omega) hB)) hp)⟩))⟩))), (fun c26 => (hp _ (BQ_w (by omega) (BQ_w (by omega) (BQ_w (by omega) hB))) (g12.2 c26)))⟩))), (fun c27 => (b_Mo_nextToken_J61 (g10.2 c27) hB hp ih))⟩)))⟩)))⟩)))⟩))
theorem b_Mo_nextToken_L9 {post post' : aM → Prop} {n : Nat} {M : aM} (h : w_Mo_nextToken_L9 post n 136 M) (hB : BQ M) (hp : ∀ (y0 : aM), BQ y0 → post y0 → post' y0) : w_Mo_nextToken_L9 post' n 136 M := b_Mo_nextToken_L9_n hp n M hB h
theorem b_Mo_nextToken {post post' : aM → Prop} {M : aM} (h : w_Mo_nextToken post 136 M) (hB : BQ M) (hp : ∀ (y0 : aM), BQ y0 → post y0 → post' y0) : w_Mo_nextToken post' 136 M := by
  unfold w_Mo_nextToken at h ⊢
  exact ⟨(fun c1 => (match (h.1 c1) with | ⟨n2, h2⟩ => ⟨n2, (b_Mo_nextToken_L9 h2 hB hp)⟩)), (fun c3 => (hp _ hB (h.2 c3)))⟩
theorem b_Mo_isWord_L27_n {post post' : Int32 → Prop} {M : aM} (hp : ∀ (y0 : Int32), post y0 → post' y0) : ∀ (n : Nat) (k0 : Nat) (k1 : Nat) (v2 : Int32) (v3 : Int32), w_Mo_isWord_L27 M post n k0 k1 v2 v3 → w_Mo_isWord_L27 M post' n k0 k1 v2 v3 := by
  intro n
  induction n with
  | zero => intro k0 k1 v2 v3 h; exact h.elim
  | succ n ih =>
    intro k0 k1 v2 v3 h
    unfold w_Mo_isWord_L27 at h ⊢
    exact ⟨(fun c1 => ⟨(h.1 c1).1, (hp _ (h.1 c1).2)⟩), (fun c2 => ⟨(fun c3 => ⟨((h.2 c2).1 c3).1, (hp _ ((h.2 c2).1 c3).2)⟩), (fun c4 => (b_Mo_at ((h.2 c2).2 c4) (fun x1 g5 => ⟨g5.1, ⟨(fun c6 => (ih _ _ _ _ (g5.2.1 c6))), (fun c7 => (ih _ _ _ _ (g5.2.2 c7)))⟩⟩)))⟩)⟩
theorem b_Mo_isWord_L27 {post post' : Int32 → Prop} {M : aM} {n : Nat} {k0 : Nat} {k1 : Nat} {v2 : Int32} {v3 : Int32} (h : w_Mo_isWord_L27 M post n k0 k1 v2 v3) (hp : ∀ (y0 : Int32), post y0 → post' y0) : w_Mo_isWord_L27 M post' n k0 k1 v2 v3 := b_Mo_isWord_L27_n hp n k0 k1 v2 v3 h
theorem b_Mo_isWord {post post' : Int32 → Prop} {k0 : Nat} {k1 : Nat} {M : aM} (h : w_Mo_isWord post k0 k1 M) (hp : ∀ (y0 : Int32), post y0 → post' y0) : w_Mo_isWord post' k0 k1 M := by
  unfold w_Mo_isWord at h ⊢
  exact ⟨(fun c1 => (match (h.1 c1) with | ⟨n2, h2⟩ => ⟨n2, (b_Mo_isWord_L27 h2 hp)⟩)), (fun c3 => ⟨(h.2 c3).1, ⟨(fun c4 => (match ((h.2 c3).2.1 c4) with | ⟨n5, h5⟩ => ⟨n5, (b_Mo_isWord_L27 h5 hp)⟩)), (fun c6 => (match ((h.2 c3).2.2 c6) with | ⟨n7, h7⟩ => ⟨n7, (b_Mo_isWord_L27 h7 hp)⟩))⟩⟩)⟩
theorem b_Mo_among_J114 {post post' : Int32 → Prop} {K7 K7' : Nat → Nat → Int32 → Int32 → Int32 → Prop} {M : aM} {k0 : Nat} {k1 : Nat} {v2 : Int32} {v4 : Int32} {v5 : Int32} (h : w_Mo_among_J114 M post K7 k0 k1 v2 v4 v5) (hp : ∀ (y0 : Int32), post y0 → post' y0) (hK7 : ∀ (y0 : Nat) (y1 : Nat) (y2 : Int32) (y3 : Int32) (y4 : Int32), K7 y0 y1 y2 y3 y4 → K7' y0 y1 y2 y3 y4) : w_Mo_among_J114 M post' K7' k0 k1 v2 v4 v5 := by
  unfold w_Mo_among_J114 at h ⊢
  exact ⟨(fun c1 => (hK7 _ _ _ _ _ (h.1 c1))), (fun c2 => (hp _ (h.2 c2)))⟩
theorem b_Mo_among_L65_n {post post' : Int32 → Prop} {K7 K7' : Nat → Nat → Int32 → Int32 → Int32 → Prop} {M : aM} (hp : ∀ (y0 : Int32), post y0 → post' y0) (hK7 : ∀ (y0 : Nat) (y1 : Nat) (y2 : Int32) (y3 : Int32) (y4 : Int32), K7 y0 y1 y2 y3 y4 → K7' y0 y1 y2 y3 y4) : ∀ (n : Nat) (k0 : Nat) (k1 : Nat) (v2 : Int32) (v3 : Int32) (v4 : Int32) (v5 : Int32) (v6 : Int32), w_Mo_among_L65 M post K7 n k0 k1 v2 v3 v4 v5 v6 → w_Mo_among_L65 M post' K7' n k0 k1 v2 v3 v4 v5 v6 := by
  intro n
  induction n with
  | zero => intro k0 k1 v2 v3 v4 v5 v6 h; exact h.elim
  | succ n ih =>
    intro k0 k1 v2 v3 v4 v5 v6 h
    unfold w_Mo_among_L65 at h ⊢
    exact ⟨(fun c1 => (b_Mo_among_J114 (h.1 c1) hp hK7)), (fun c2 => ⟨(fun c3 => (b_Mo_among_J114 ((h.2 c2).1 c3) hp hK7)), (fun c4 => (b_Mo_at ((h.2 c2).2 c4) (fun x1 g5 => ⟨g5.1, ⟨(fun c6 => (ih _ _ _ _ _ _ _ (g5.2.1 c6))), (fun c7 => (ih _ _ _ _ _ _ _ (g5.2.2 c7)))⟩⟩)))⟩)⟩
theorem b_Mo_among_L65 {post post' : Int32 → Prop} {K7 K7' : Nat → Nat → Int32 → Int32 → Int32 → Prop} {M : aM} {n : Nat} {k0 : Nat} {k1 : Nat} {v2 : Int32} {v3 : Int32} {v4 : Int32} {v5 : Int32} {v6 : Int32} (h : w_Mo_among_L65 M post K7 n k0 k1 v2 v3 v4 v5 v6) (hp : ∀ (y0 : Int32), post y0 → post' y0) (hK7 : ∀ (y0 : Nat) (y1 : Nat) (y2 : Int32) (y3 : Int32) (y4 : Int32), K7 y0 y1 y2 y3 y4 → K7' y0 y1 y2 y3 y4) : w_Mo_among_L65 M post' K7' n k0 k1 v2 v3 v4 v5 v6 := b_Mo_among_L65_n hp hK7 n k0 k1 v2 v3 v4 v5 v6 h
theorem b_Mo_among_J36 {post post' : Int32 → Prop} {K7 K7' : Nat → Nat → Int32 → Int32 → Int32 → Prop} {M : aM} {k0 : Nat} {k1 : Nat} {v2 : Int32} {v3 : Int32} {v4 : Int32} (h : w_Mo_among_J36 M post K7 k0 k1 v2 v3 v4) (hp : ∀ (y0 : Int32), post y0 → post' y0) (hK7 : ∀ (y0 : Nat) (y1 : Nat) (y2 : Int32) (y3 : Int32) (y4 : Int32), K7 y0 y1 y2 y3 y4 → K7' y0 y1 y2 y3 y4) : w_Mo_among_J36 M post' K7' k0 k1 v2 v3 v4 := by
  unfold w_Mo_among_J36 at h ⊢
  exact ⟨(fun c1 => (match (h.1 c1) with | ⟨n2, h2⟩ => ⟨n2, (b_Mo_among_L65 h2 hp hK7)⟩)), (fun c3 => ⟨(fun c4 => (match ((h.2 c3).1 c4) with | ⟨n5, h5⟩ => ⟨n5, (b_Mo_among_L65 h5 hp hK7)⟩)), (fun c6 => (match ((h.2 c3).2 c6) with | ⟨n7, h7⟩ => ⟨n7, (b_Mo_among_L65 h7 hp hK7)⟩))⟩)⟩
theorem b_Mo_among_L7_n {post post' : Int32 → Prop} {M : aM} (hp : ∀ (y0 : Int32), post y0 → post' y0) : ∀ (n : Nat) (k0 : Nat) (k1 : Nat) (v2 : Int32) (v3 : Int32) (v4 : Int32), w_Mo_among_L7 M post n k0 k1 v2 v3 v4 → w_Mo_among_L7 M post' n k0 k1 v2 v3 v4 := by
  intro n
  induction n with
  | zero => intro k0 k1 v2 v3 v4 h; exact h.elim
  | succ n ih =>
    intro k0 k1 v2 v3 v4 h
    unfold w_Mo_among_L7 at h ⊢
    exact ⟨h.1, ⟨(fun c1 => (hp _ (h.2.1 c1))), (fun c2 => ⟨(h.2.2 c2).1, ⟨(fun c3 => (b_Mo_among_J36 ((h.2.2 c2).2.1 c3) hp ih)), (fun c4 => ⟨((h.2.2 c2).2.2 c4).1, ⟨(fun c5 => (ih _ _ _ _ _ (((h.2.2 c2).2.2 c4).2.1 c5))), (fun c6 => (b_Mo_among_J36 (((h.2.2 c2).2.2 c4).2.2 c6) hp ih))⟩⟩)⟩⟩)⟩⟩
theorem b_Mo_among_L7 {post post' : Int32 → Prop} {M : aM} {n : Nat} {k0 : Nat} {k1 : Nat} {v2 : Int32} {v3 : Int32} {v4 : Int32} (h : w_Mo_among_L7 M post n k0 k1 v2 v3 v4) (hp : ∀ (y0 : Int32), post y0 → post' y0) : w_Mo_among_L7 M post' n k0 k1 v2 v3 v4 := b_Mo_among_L7_n hp n k0 k1 v2 v3 v4 h
theorem b_Mo_among {post post' : Int32 → Prop} {k0 : Nat} {k1 : Nat} {M : aM} (h : w_Mo_among post k0 k1 M) (hp : ∀ (y0 : Int32), post y0 → post' y0) : w_Mo_among post' k0 k1 M := by
  unfold w_Mo_among at h ⊢
  exact (match h with | ⟨n1, h1⟩ => ⟨n1, (b_Mo_among_L7 h1 hp)⟩)
theorem b_Mo_isName {post post' : Int32 → Prop} {k0 : Nat} {M : aM} (h : w_Mo_isName post k0 M) (hp : ∀ (y0 : Int32), post y0 → post' y0) : w_Mo_isName post' k0 M := by
  unfold w_Mo_isName at h ⊢
  exact ⟨(fun c1 => ⟨(h.1 c1).1, (hp _ (h.1 c1).2)⟩), (fun c2 => (b_Mo_among (h.2 c2) (fun x1 g3 => ⟨(fun c4 => ⟨(g3.1 c4).1, (hp _ (g3.1 c4).2)⟩), (fun c5 => ⟨(g3.2 c5).1, (hp _ (g3.2 c5).2)⟩)⟩)))⟩
theorem b_Mo_need {post post' : aM → Prop} {v1 : Int32} {M : aM} (h : w_Mo_need post 136 v1 M) (hB : BQ M) (hp : ∀ (y0 : aM), BQ y0 → post y0 → post' y0) : w_Mo_need post' 136 v1 M := by
  unfold w_Mo_need at h ⊢
  exact ⟨(fun c1 => (hp _ hB (h.1 c1))), (fun c2 => ⟨(fun c3 => (hp _ hB ((h.2 c2).1 c3))), (fun c4 => (b_Mo_bad ((h.2 c2).2 c4) hB (fun M1 m5 g5 => (hp _ m5 g5))))⟩)⟩
theorem b_Mo_nameOf {post post' : Int32 → Prop} {v0 : Int32} {v1 : Int32} {v2 : Int32} {M : aM} (h : w_Mo_nameOf post v0 v1 v2 M) (hp : ∀ (y0 : Int32), post y0 → post' y0) : w_Mo_nameOf post' v0 v1 v2 M := by
  unfold w_Mo_nameOf at h ⊢
  exact ⟨(fun c1 => (hp _ (h.1 c1))), (fun c2 => (hp _ (h.2 c2)))⟩
theorem b_Mo_attributeHere_J93 {post post' : Int32 → Prop} {K2 K2' : Nat → Int32 → Prop} {M : aM} {k0 : Nat} {v1 : Int32} {v3 : Int32} (h : w_Mo_attributeHere_J93 M post K2 k0 v1 v3) (hp : ∀ (y0 : Int32), post y0 → post' y0) (hK2 : ∀ (y0 : Nat) (y1 : Int32), K2 y0 y1 → K2' y0 y1) : w_Mo_attributeHere_J93 M post' K2' k0 v1 v3 := by
  unfold w_Mo_attributeHere_J93 at h ⊢
  exact ⟨(fun c1 => (hK2 _ _ (h.1 c1))), (fun c2 => (hp _ (h.2 c2)))⟩
theorem b_Mo_attributeHere_L41_n {post post' : Int32 → Prop} {K2 K2' : Nat → Int32 → Prop} {M : aM} (hp : ∀ (y0 : Int32), post y0 → post' y0) (hK2 : ∀ (y0 : Nat) (y1 : Int32), K2 y0 y1 → K2' y0 y1) : ∀ (n : Nat) (k0 : Nat) (v1 : Int32) (v2 : Int32) (v3 : Int32) (v4 : Int32), w_Mo_attributeHere_L41 M post K2 n k0 v1 v2 v3 v4 → w_Mo_attributeHere_L41 M post' K2' n k0 v1 v2 v3 v4 := by
  intro n
  induction n with
  | zero => intro k0 v1 v2 v3 v4 h; exact h.elim
  | succ n ih =>
    intro k0 v1 v2 v3 v4 h
    unfold w_Mo_attributeHere_L41 at h ⊢
    exact ⟨(fun c1 => (b_Mo_attributeHere_J93 (h.1 c1) hp hK2)), (fun c2 => ⟨(fun c3 => (b_Mo_attributeHere_J93 ((h.2 c2).1 c3) hp hK2)), (fun c4 => ⟨((h.2 c2).2 c4).1, ⟨((h.2 c2).2 c4).2.1, ⟨(fun c5 => (ih _ _ _ _ _ (((h.2 c2).2 c4).2.2.1 c5))), (fun c6 => (ih _ _ _ _ _ (((h.2 c2).2 c4).2.2.2 c6)))⟩⟩⟩)⟩)⟩
theorem b_Mo_attributeHere_L41 {post post' : Int32 → Prop} {K2 K2' : Nat → Int32 → Prop} {M : aM} {n : Nat} {k0 : Nat} {v1 : Int32} {v2 : Int32} {v3 : Int32} {v4 : Int32} (h : w_Mo_attributeHere_L41 M post K2 n k0 v1 v2 v3 v4) (hp : ∀ (y0 : Int32), post y0 → post' y0) (hK2 : ∀ (y0 : Nat) (y1 : Int32), K2 y0 y1 → K2' y0 y1) : w_Mo_attributeHere_L41 M post' K2' n k0 v1 v2 v3 v4 := b_Mo_attributeHere_L41_n hp hK2 n k0 v1 v2 v3 v4 h
theorem b_Mo_attributeHere_L2_n {post post' : Int32 → Prop} {M : aM} (hp : ∀ (y0 : Int32), post y0 → post' y0) : ∀ (n : Nat) (k0 : Nat) (v1 : Int32), w_Mo_attributeHere_L2 M post n k0 v1 → w_Mo_attributeHere_L2 M post' n k0 v1 := by
  intro n
  induction n with
  | zero => intro k0 v1 h; exact h.elim
  | succ n ih =>
    intro k0 v1 h
    unfold w_Mo_attributeHere_L2 at h ⊢
    exact ⟨h.1, ⟨(fun c1 => (hp _ (h.2.1 c1))), (fun c2 => (b_Mo_nameOf (h.2.2 c2) (fun x1 g3 => ⟨g3.1, ⟨(fun c4 => (match (g3.2.1 c4) with | ⟨n5, h5⟩ => ⟨n5, (b_Mo_attributeHere_L41 h5 hp ih)⟩)), (fun c6 => (match (g3.2.2 c6) with | ⟨n7, h7⟩ => ⟨n7, (b_Mo_attributeHere_L41 h7 hp ih)⟩))⟩⟩)))⟩⟩
theorem b_Mo_attributeHere_L2 {post post' : Int32 → Prop} {M : aM} {n : Nat} {k0 : Nat} {v1 : Int32} (h : w_Mo_attributeHere_L2 M post n k0 v1) (hp : ∀ (y0 : Int32), post y0 → post' y0) : w_Mo_attributeHere_L2 M post' n k0 v1 := b_Mo_attributeHere_L2_n hp n k0 v1 h
theorem b_Mo_attributeHere {post post' : Int32 → Prop} {k0 : Nat} {M : aM} (h : w_Mo_attributeHere post k0 M) (hp : ∀ (y0 : Int32), post y0 → post' y0) : w_Mo_attributeHere post' k0 M := by
  unfold w_Mo_attributeHere at h ⊢
  exact (match h with | ⟨n1, h1⟩ => ⟨n1, (b_Mo_attributeHere_L2 h1 hp)⟩)
theorem b_Mo_keepName_L12_n {post post' : aM → Prop} (hp : ∀ (y0 : aM), BQ y0 → post y0 → post' y0) : ∀ (n : Nat) (v1 : Int32) (v2 : Int32) (M : aM), BQ M → w_Mo_keepName_L12 post n 136 v1 v2 M → w_Mo_keepName_L12 post' n 136 v1 v2 M := by
  intro n
  induction n with
  | zero => intro v1 v2 M hB h; exact h.elim
  | succ n ih =>
    intro v1 v2 M hB h
    unfold w_Mo_keepName_L12 at h ⊢
    exact ⟨(fun c1 => (hp _ hB (h.1 c1))), (fun c2 => ⟨(h.2 c2).1, ⟨(h.2 c2).2.1, (ih _ _ _ (BQ_w (by omega) hB) (h.2 c2).2.2)⟩⟩)⟩
theorem b_Mo_keepName_L12 {post post' : aM → Prop} {n : Nat} {v1 : Int32} {v2 : Int32} {M : aM} (h : w_Mo_keepName_L12 post n 136 v1 v2 M) (hB : BQ M) (hp : ∀ (y0 : aM), BQ y0 → post y0 → post' y0) : w_Mo_keepName_L12 post' n 136 v1 v2 M := b_Mo_keepName_L12_n hp n v1 v2 M hB h
theorem b_Mo_keepName {post post' : aM → Prop} {v1 : Int32} {M : aM} (h : w_Mo_keepName post 136 v1 M) (hB : BQ M) (hp : ∀ (y0 : aM), BQ y0 → post y0 → post' y0) : w_Mo_keepName post' 136 v1 M := by
  unfold w_Mo_keepName at h ⊢
  exact ⟨h.1, (match h.2 with | ⟨n1, h1⟩ => ⟨n1, (b_Mo_keepName_L12 h1 (BQ_w (by omega) hB) hp)⟩)⟩
theorem b_Mo_is {post post' : Int32 → Prop} {k0 : Nat} {v1 : Int32} {M : aM} (h : w_Mo_is post k0 v1 M) (hp : ∀ (y0 : Int32), post y0 → post' y0) : w_Mo_is post' k0 v1 M := by
  unfold w_Mo_is at h ⊢
  exact ⟨(fun c1 => ⟨(h.1 c1).1, (hp _ (h.1 c1).2)⟩), (fun c2 => (b_Mo_at (h.2 c2) (fun x1 g3 => ⟨(fun c4 => ⟨(g3.1 c4).1, (hp _ (g3.1 c4).2)⟩), (fun c5 => ⟨(g3.2 c5).1, (hp _ (g3.2 c5).2)⟩)⟩)))⟩
theorem b_Mo_eat {post post' : aM → Prop} {v1 : Int32} {M : aM} (h : w_Mo_eat post 136 v1 M) (hB : BQ M) (hp : ∀ (y0 : aM), BQ y0 → post y0 → post' y0) : w_Mo_eat post' 136 v1 M := by
  unfold w_Mo_eat at h ⊢
  exact (b_Mo_is h (fun x1 g1 => (b_Mo_need g1 hB (fun M2 m2 g2 => (b_Mo_nextToken g2 m2 (fun M3 m3 g3 => (hp _ m3 g3)))))))
theorem b_Mo_readAttribute_J232 {post post' : aM → Prop} {M : aM} (h : w_Mo_readAttribute_J232 post 136 M) (hB : BQ M) (hp : ∀ (y0 : aM), BQ y0 → post y0 → post' y0) : w_Mo_readAttribute_J232 post' 136 M := by
  unfold w_Mo_readAttribute_J232 at h ⊢
  exact (b_Mo_eat h hB (fun M1 m1 g1 => ⟨g1.1, ⟨g1.2.1, (hp _ (BQ_w (by omega) m1) g1.2.2)⟩⟩))
theorem b_Mo_readAttribute_J218 {post post' : aM → Prop} {v2 : Int32} {t0 : Nat} {s1 : Int32} {s2 : Int32} {M : aM} (h : w_Mo_readAttribute_J218 post 136 v2 t0 s1 s2 M) (hB : BQ M) (hp : ∀ (y0 : aM), BQ y0 → post y0 → post' y0) : w_Mo_readAttribute_J218 post' 136 v2 t0 s1 s2 M := by
  unfold w_Mo_readAttribute_J218 at h ⊢
  exact ⟨h.1, ⟨h.2.1, ⟨(fun c1 => (b_Mo_readAttribute_J232 (h.2.2.1 c1) (BQ_b h.1.2 hB) hp)), (fun c2 => (b_Mo_nextToken (h.2.2.2 c2) (BQ_b h.1.2 hB) (fun M1 m3 g3 => (b_Mo_readAttribute_J232 g3 m3 hp))))⟩⟩⟩
theorem b_Mo_readAttribute_J217 {post post' : aM → Prop} {v2 : Int32} {t0 : Nat} {s1 : Int32} {M : aM} (h : w_Mo_readAttribute_J217 post 136 v2 t0 s1 M) (hB : BQ M) (hp : ∀ (y0 : aM), BQ y0 → post y0 → post' y0) : w_Mo_readAttribute_J217 post' 136 v2 t0 s1 M := by
  unfold w_Mo_readAttribute_J217 at h ⊢
  exact (b_Mo_readAttribute_J218 h hB hp)
theorem b_Mo_readAttribute_J190 {post post' : aM → Prop} {v2 : Int32} {M : aM} (h : w_Mo_readAttribute_J190 post 136 v2 M) (hB : BQ M) (hp : ∀ (y0 : aM), BQ y0 → post y0 → post' y0) : w_Mo_readAttribute_J190 post' 136 v2 M := by
  unfold w_Mo_readAttribute_J190 at h ⊢
  exact ⟨(fun c1 => (b_Mo_readAttribute_J217 (h.1 c1) hB hp)), (fun c2 => (b_Mo_isWord (h.2 c2) (fun x1 g3 => ⟨(fun c4 => (b_Mo_readAttribute_J217 (g3.1 c4) hB hp)), (fun c5 => (b_Mo_readAttribute_J218 (g3.2 c5) hB hp))⟩)))⟩
theorem b_Mo_readAttribute_J176 {post post' : aM → Prop} {v2 : Int32} {t0 : Nat} {s1 : Int32} {s2 : Int32} {M : aM} (h : w_Mo_readAttribute_J176 post 136 v2 t0 s1 s2 M) (hB : BQ M) (hp : ∀ (y0 : aM), BQ y0 → post y0 → post' y0) : w_Mo_readAttribute_J176 post' 136 v2 t0 s1 s2 M := by
  unfold w_Mo_readAttribute_J176 at h ⊢
  exact ⟨h.1, ⟨h.2.1, ⟨(fun c1 => (b_Mo_readAttribute_J190 (h.2.2.1 c1) (BQ_b h.1.2 hB) hp)), (fun c2 => (b_Mo_nextToken (h.2.2.2 c2) (BQ_b h.1.2 hB) (fun M1 m3 g3 => (b_Mo_readAttribute_J190 g3 m3 hp))))⟩⟩⟩
theorem b_Mo_readAttribute_J175 {post post' : aM → Prop} {v2 : Int32} {t0 : Nat} {s1 : Int32} {M : aM} (h : w_Mo_readAttribute_J175 post 136 v2 t0 s1 M) (hB : BQ M) (hp : ∀ (y0 : aM), BQ y0 → post y0 → post' y0) : w_Mo_readAttribute_J175 post' 136 v2 t0 s1 M := by
  unfold w_Mo_readAttribute_J175 at h ⊢
  exact (b_Mo_readAttribute_J176 h hB hp)
theorem b_Mo_readAttribute_J122 {post post' : aM → Prop} {v1 : Int32} {M : aM} (h : w_Mo_readAttribute_J122 post 136 v1 M) (hB : BQ M) (hp : ∀ (y0 : aM), BQ y0 → post y0 → post' y0) : w_Mo_readAttribute_J122 post' 136 v1 M := by
  unfold w_Mo_readAttribute_J122 at h ⊢
  exact ⟨h.1, ⟨h.2.1, (b_Mo_nextToken h.2.2 (BQ_w (by omega) (BQ_w (by omega) hB)) (fun M1 m1 g1 => ⟨(fun c2 => (b_Mo_readAttribute_J175 (g1.1 c2) m1 hp)), (fun c3 => (b_Mo_isWord (g1.2 c3) (fun x2 g4 => ⟨(fun c5 => (b_Mo_readAttribute_J175 (g4.1 c5) m1 hp)), (fun c6 => (b_Mo_readAttribute_J176 (g4.2 c6) m1 hp))⟩)))⟩))⟩⟩
theorem b_Mo_readAttribute_J93 {post post' : aM → Prop} {v1 : Int32} {s1 : Int32} {M : aM} (h : w_Mo_readAttribute_J93 post 136 v1 136 s1 M) (hB : BQ M) (hp : ∀ (y0 : aM), BQ y0 → post y0 → post' y0) : w_Mo_readAttribute_J93 post' 136 v1 136 s1 M := by
  unfold w_Mo_readAttribute_J93 at h ⊢
  exact (b_Mo_need h hB (fun M1 m1 g1 => ⟨(fun c2 => (b_Mo_readAttribute_J122 (g1.1 c2) m1 hp)), (fun c3 => (b_Mo_in (g1.2 c3) (fun x2 g4 => ⟨(fun c5 => (b_Mo_readAttribute_J122 (g4.1 c5) m1 hp)), (fun c6 => (b_Mo_bad (g4.2 c6) m1 (fun M3 m7 g7 => (b_Mo_readAttribute_J122 g7 m7 hp))))⟩)))⟩))
theorem b_Mo_readAttribute_J49 {post post' : aM → Prop} {M : aM} (h : w_Mo_readAttribute_J49 post 136 M) (hB : BQ M) (hp : ∀ (y0 : aM), BQ y0 → post y0 → post' y0) : w_Mo_readAttribute_J49 post' 136 M := by
  unfold w_Mo_readAttribute_J49 at h ⊢
  exact ⟨(fun c1 => ⟨(h.1 c1).1, (b_Mo_nameOf (h.1 c1).2 (fun x1 g2 => (b_Mo_keepName g2 hB (fun M2 m3 g3 => (b_Mo_nextToken g3 m3 (fun M3 m4 g4 => ⟨(fun c5 => (b_Mo_readAttribute_J93 (g4.1 c5) m4 hp)), (fun c6 => (b_Mo_readAttribute_J93 (g4.2 c6) m4 hp))⟩))))))⟩), (fun c7 => (hp _ hB (h.2 c7)))⟩
theorem b_Mo_readAttribute_J16 {post post' : aM → Prop} {M : aM} (h : w_Mo_readAttribute_J16 post 136 M) (hB : BQ M) (hp : ∀ (y0 : aM), BQ y0 → post y0 → post' y0) : w_Mo_readAttribute_J16 post' 136 M := by
  unfold w_Mo_readAttribute_J16 at h ⊢
  exact (b_Mo_nextToken h hB (fun M1 m1 g1 => (b_Mo_isName g1 (fun x2 g2 => (b_Mo_need g2 m1 (fun M3 m3 g3 => ⟨(fun c4 => (b_Mo_readAttribute_J49 (g3.1 c4) m3 hp)), (fun c5 => (b_Mo_attributeHere (g3.2 c5) (fun x4 g6 => ⟨(fun c7 => (b_Mo_readAttribute_J49 (g6.1 c7) m3 hp)), (fun c8 => (b_Mo_bad (g6.2 c8) m3 (fun M5 m9 g9 => (b_Mo_readAttribute_J49 g9 m9 hp))))⟩)))⟩))))))
theorem b_Mo_readAttribute {post post' : aM → Prop} {M : aM} (h : w_Mo_readAttribute post 136 M) (hB : BQ M) (hp : ∀ (y0 : aM), BQ y0 → post y0 → post' y0) : w_Mo_readAttribute post' 136 M := by
  unfold w_Mo_readAttribute at h ⊢
  exact ⟨h.1, ⟨(fun c1 => (b_Mo_readAttribute_J16 (h.2.1 c1) hB hp)), (fun c2 => (b_Mo_bad (h.2.2 c2) hB (fun M1 m3 g3 => (b_Mo_readAttribute_J16 g3 m3 hp))))⟩⟩
theorem b_Mo_newNode_J67 {post post' : Int32 → aM → Prop} {v3 : Int32} {M : aM} (h : w_Mo_newNode_J67 post 136 v3 M) (hB : BQ M) (hp : ∀ (y0 : Int32) (y1 : aM), BQ y1 → post y0 y1 → post' y0 y1) : w_Mo_newNode_J67 post' 136 v3 M := by
  unfold w_Mo_newNode_J67 at h ⊢
  exact (b_Mo_nameOf h (fun x1 g1 => ⟨g1.1, (hp _ _ (BQ_w (by omega) hB) g1.2)⟩))
theorem b_Mo_newNode_J60 {post post' : Int32 → aM → Prop} {v3 : Int32} {M : aM} (h : w_Mo_newNode_J60 post 136 v3 M) (hB : BQ M) (hp : ∀ (y0 : Int32) (y1 : aM), BQ y1 → post y0 y1 → post' y0 y1) : w_Mo_newNode_J60 post' 136 v3 M := by
  unfold w_Mo_newNode_J60 at h ⊢
  exact ⟨h.1, (b_Mo_newNode_J67 h.2 (BQ_w (by omega) hB) hp)⟩
theorem b_Mo_newNode_J53 {post post' : Int32 → aM → Prop} {v2 : Int32} {v3 : Int32} {M : aM} (h : w_Mo_newNode_J53 post 136 v2 v3 M) (hB : BQ M) (hp : ∀ (y0 : Int32) (y1 : aM), BQ y1 → post y0 y1 → post' y0 y1) : w_Mo_newNode_J53 post' 136 v2 v3 M := by
  unfold w_Mo_newNode_J53 at h ⊢
  exact ⟨h.1, (b_Mo_newNode_J60 h.2 (BQ_w (by omega) hB) hp)⟩
theorem b_Mo_newNode_J46 {post post' : Int32 → aM → Prop} {v2 : Int32} {v3 : Int32} {M : aM} (h : w_Mo_newNode_J46 post 136 v2 v3 M) (hB : BQ M) (hp : ∀ (y0 : Int32) (y1 : aM), BQ y1 → post y0 y1 → post' y0 y1) : w_Mo_newNode_J46 post' 136 v2 v3 M := by
  unfold w_Mo_newNode_J46 at h ⊢
  exact ⟨h.1, (b_Mo_newNode_J53 h.2 (BQ_w (by omega) hB) hp)⟩
theorem b_Mo_newNode_J39 {post post' : Int32 → aM → Prop} {v1 : Int32} {v2 : Int32} {v3 : Int32} {M : aM} (h : w_Mo_newNode_J39 post 136 v1 v2 v3 M) (hB : BQ M) (hp : ∀ (y0 : Int32) (y1 : aM), BQ y1 → post y0 y1 → post' y0 y1) : w_Mo_newNode_J39 post' 136 v1 v2 v3 M := by
  unfold w_Mo_newNode_J39 at h ⊢
  exact ⟨h.1, (b_Mo_newNode_J46 h.2 (BQ_w (by omega) hB) hp)⟩
theorem b_Mo_newNode {post post' : Int32 → aM → Prop} {v1 : Int32} {v2 : Int32} {M : aM} (h : w_Mo_newNode post 136 v1 v2 M) (hB : BQ M) (hp : ∀ (y0 : Int32) (y1 : aM), BQ y1 → post y0 y1 → post' y0 y1) : w_Mo_newNode post' 136 v1 v2 M := by
  unfold w_Mo_newNode at h ⊢
  exact ⟨h.1, ⟨(fun c1 => ⟨(h.2.1 c1).1, ⟨(h.2.1 c1).2.1, ⟨(h.2.1 c1).2.2.1, (b_Mo_newNode_J39 (h.2.1 c1).2.2.2 (BQ_w (by omega) hB) hp)⟩⟩⟩), (fun c2 => (b_Mo_bad (h.2.2 c2) hB (fun M1 m3 g3 => (hp _ _ m3 g3))))⟩⟩
theorem b_Mo_pile_J50 {post post' : aM → Prop} {M : aM} (h : w_Mo_pile_J50 post 136 M) (hB : BQ M) (hp : ∀ (y0 : aM), BQ y0 → post y0 → post' y0) : w_Mo_pile_J50 post' 136 M := by
  unfold w_Mo_pile_J50 at h ⊢
  exact (hp _ (BQ_w (by omega) hB) h)
theorem b_Mo_pile_J40 {post post' : aM → Prop} {M : aM} (h : w_Mo_pile_J40 post 136 M) (hB : BQ M) (hp : ∀ (y0 : aM), BQ y0 → post y0 → post' y0) : w_Mo_pile_J40 post' 136 M := by
  unfold w_Mo_pile_J40 at h ⊢
  exact ⟨h.1, (b_Mo_pile_J50 h.2 (BQ_w (by omega) hB) hp)⟩
theorem b_Mo_pile_J30 {post post' : aM → Prop} {M : aM} (h : w_Mo_pile_J30 post 136 M) (hB : BQ M) (hp : ∀ (y0 : aM), BQ y0 → post y0 → post' y0) : w_Mo_pile_J30 post' 136 M := by
  unfold w_Mo_pile_J30 at h ⊢
  exact ⟨h.1, (b_Mo_pile_J40 h.2 (BQ_w (by omega) hB) hp)⟩
theorem b_Mo_pile_J20 {post post' : aM → Prop} {M : aM} (h : w_Mo_pile_J20 post 136 M) (hB : BQ M) (hp : ∀ (y0 : aM), BQ y0 → post y0 → post' y0) : w_Mo_pile_J20 post' 136 M := by
  unfold w_Mo_pile_J20 at h ⊢
  exact ⟨h.1, (b_Mo_pile_J30 h.2 (BQ_w (by omega) hB) hp)⟩
theorem b_Mo_pile_J10 {post post' : aM → Prop} {M : aM} (h : w_Mo_pile_J10 post 136 M) (hB : BQ M) (hp : ∀ (y0 : aM), BQ y0 → post y0 → post' y0) : w_Mo_pile_J10 post' 136 M := by
  unfold w_Mo_pile_J10 at h ⊢
  exact ⟨h.1, (b_Mo_pile_J20 h.2 (BQ_w (by omega) hB) hp)⟩
theorem b_Mo_pile {post post' : aM → Prop} {v1 : Int32} {M : aM} (h : w_Mo_pile post 136 v1 M) (hB : BQ M) (hp : ∀ (y0 : aM), BQ y0 → post y0 → post' y0) : w_Mo_pile post' 136 v1 M := by
  unfold w_Mo_pile at h ⊢
  exact ⟨h.1, (b_Mo_pile_J10 h.2 (BQ_w (by omega) hB) hp)⟩
theorem b_Mo_open_J22 {post post' : aM → Prop} {M : aM} (h : w_Mo_open_J22 post 136 M) (hB : BQ M) (hp : ∀ (y0 : aM), BQ y0 → post y0 → post' y0) : w_Mo_open_J22 post' 136 M := by
  unfold w_Mo_open_J22 at h ⊢
  exact (hp _ (BQ_w (by omega) hB) h)
theorem b_Mo_open {post post' : aM → Prop} {M : aM} (h : w_Mo_open post 136 M) (hB : BQ M) (hp : ∀ (y0 : aM), BQ y0 → post y0 → post' y0) : w_Mo_open post' 136 M := by
  unfold w_Mo_open at h ⊢
  exact ⟨(fun c1 => (b_Mo_open_J22 (h.1 c1) hB hp)), (fun c2 => ⟨(fun c3 => (b_Mo_open_J22 ((h.2 c2).1 c3) hB hp)), (fun c4 => (b_Mo_bad ((h.2 c2).2 c4) hB (fun M1 m5 g5 => (b_Mo_open_J22 g5 m5 hp))))⟩)⟩
theorem b_Mo_newPart_J98 {post post' : Int32 → aM → Prop} {v2 : Int32} {M : aM} (h : w_Mo_newPart_J98 post v2 M) (hB : BQ M) (hp : ∀ (y0 : Int32) (y1 : aM), BQ y1 → post y0 y1 → post' y0 y1) : w_Mo_newPart_J98 post' v2 M := by
  unfold w_Mo_newPart_J98 at h ⊢
  exact (hp _ _ hB h)
theorem b_Mo_newPart_J91 {post post' : Int32 → aM → Prop} {v2 : Int32} {M : aM} (h : w_Mo_newPart_J91 post 136 v2 M) (hB : BQ M) (hp : ∀ (y0 : Int32) (y1 : aM), BQ y1 → post y0 y1 → post' y0 y1) : w_Mo_newPart_J91 post' 136 v2 M := by
  unfold w_Mo_newPart_J91 at h ⊢
  exact ⟨h.1, (b_Mo_newPart_J98 h.2 (BQ_w (by omega) hB) hp)⟩
theorem b_Mo_newPart_J84 {post post' : Int32 → aM → Prop} {v2 : Int32} {M : aM} (h : w_Mo_newPart_J84 post 136 v2 M) (hB : BQ M) (hp : ∀ (y0 : Int32) (y1 : aM), BQ y1 → post y0 y1 → post' y0 y1) : w_Mo_newPart_J84 post' 136 v2 M := by
  unfold w_Mo_newPart_J84 at h ⊢
  exact ⟨h.1, (b_Mo_newPart_J91 h.2 (BQ_w (by omega) hB) hp)⟩
theorem b_Mo_newPart_J77 {post post' : Int32 → aM → Prop} {v2 : Int32} {M : aM} (h : w_Mo_newPart_J77 post 136 v2 M) (hB : BQ M) (hp : ∀ (y0 : Int32) (y1 : aM), BQ y1 → post y0 y1 → post' y0 y1) : w_Mo_newPart_J77 post' 136 v2 M := by
  unfold w_Mo_newPart_J77 at h ⊢
  exact ⟨h.1, (b_Mo_newPart_J84 h.2 (BQ_w (by omega) hB) hp)⟩
theorem b_Mo_newPart_J70 {post post' : Int32 → aM → Prop} {v2 : Int32} {M : aM} (h : w_Mo_newPart_J70 post 136 v2 M) (hB : BQ M) (hp : ∀ (y0 : Int32) (y1 : aM), BQ y1 → post y0 y1 → post' y0 y1) : w_Mo_newPart_J70 post' 136 v2 M := by
  unfold w_Mo_newPart_J70 at h ⊢
  exact ⟨h.1, (b_Mo_newPart_J77 h.2 (BQ_w (by omega) hB) hp)⟩
theorem b_Mo_newPart_J63 {post post' : Int32 → aM → Prop} {v2 : Int32} {M : aM} (h : w_Mo_newPart_J63 post 136 v2 M) (hB : BQ M) (hp : ∀ (y0 : Int32) (y1 : aM), BQ y1 → post y0 y1 → post' y0 y1) : w_Mo_newPart_J63 post' 136 v2 M := by
  unfold w_Mo_newPart_J63 at h ⊢
  exact ⟨h.1, (b_Mo_newPart_J70 h.2 (BQ_w (by omega) hB) hp)⟩
theorem b_Mo_newPart_J56 {post post' : Int32 → aM → Prop} {v1 : Int32} {v2 : Int32} {M : aM} (h : w_Mo_newPart_J56 post 136 v1 v2 M) (hB : BQ M) (hp : ∀ (y0 : Int32) (y1 : aM), BQ y1 → post y0 y1 → post' y0 y1) : w_Mo_newPart_J56 post' 136 v1 v2 M := by
  unfold w_Mo_newPart_J56 at h ⊢
  exact ⟨h.1, (b_Mo_newPart_J63 h.2 (BQ_w (by omega) hB) hp)⟩
theorem b_Mo_newPart_J25 {post post' : Int32 → aM → Prop} {v1 : Int32} {M : aM} (h : w_Mo_newPart_J25 post 136 v1 M) (hB : BQ M) (hp : ∀ (y0 : Int32) (y1 : aM), BQ y1 → post y0 y1 → post' y0 y1) : w_Mo_newPart_J25 post' 136 v1 M := by
  unfold w_Mo_newPart_J25 at h ⊢
  exact ⟨(fun c1 => ⟨(h.1 c1).1, ⟨(h.1 c1).2.1, ⟨(h.1 c1).2.2.1, (b_Mo_newPart_J56 (h.1 c1).2.2.2 (BQ_w (by omega) hB) hp)⟩⟩⟩), (fun c2 => (hp _ _ hB (h.2 c2)))⟩
theorem b_Mo_newPart {post post' : Int32 → aM → Prop} {v1 : Int32} {M : aM} (h : w_Mo_newPart post 136 v1 M) (hB : BQ M) (hp : ∀ (y0 : Int32) (y1 : aM), BQ y1 → post y0 y1 → post' y0 y1) : w_Mo_newPart post' 136 v1 M := by
  unfold w_Mo_newPart at h ⊢
  exact ⟨(fun c1 => (b_Mo_newPart_J25 (h.1 c1) hB hp)), (fun c2 => ⟨(h.2 c2).1, ⟨(fun c3 => (b_Mo_newPart_J25 ((h.2 c2).2.1 c3) hB hp)), (fun c4 => (b_Mo_bad ((h.2 c2).2.2 c4) hB (fun M1 m5 g5 => (b_Mo_newPart_J25 g5 m5 hp))))⟩⟩)⟩
theorem b_Mo_complete {post post' : aM → Prop} {v1 : Int32} {M : aM} (h : w_Mo_complete post 136 v1 M) (hB : BQ M) (hp : ∀ (y0 : aM), BQ y0 → post y0 → post' y0) : w_Mo_complete post' 136 v1 M := by
  unfold w_Mo_complete at h ⊢
  exact ⟨h.1, ⟨h.2.1, ⟨h.2.2.1, ⟨h.2.2.2.1, (hp _ (BQ_w (by omega) (BQ_w (by omega) hB)) h.2.2.2.2)⟩⟩⟩⟩
theorem b_Mo_join {post post' : aM → Prop} {v1 : Int32} {v2 : Int32} {v3 : Int32} {M : aM} (h : w_Mo_join post 136 v1 v2 v3 M) (hB : BQ M) (hp : ∀ (y0 : aM), BQ y0 → post y0 → post' y0) : w_Mo_join post' 136 v1 v2 v3 M := by
  unfold w_Mo_join at h ⊢
  exact ⟨(fun c1 => ⟨(h.1 c1).1, (hp _ (BQ_w (by omega) hB) (h.1 c1).2)⟩), (fun c2 => ⟨(h.2 c2).1, (hp _ (BQ_w (by omega) hB) (h.2 c2).2)⟩)⟩
theorem b_Mo_give_L2_n {post post' : aM → Prop} (hp : ∀ (y0 : aM), BQ y0 → post y0 → post' y0) : ∀ (n : Nat) (v2 : Int32) (M : aM), BQ M → w_Mo_give_L2 post n 136 v2 M → w_Mo_give_L2 post' n 136 v2 M := by
  intro n
  induction n with
  | zero => intro v2 M hB h; exact h.elim
  | succ n ih =>
    intro v2 M hB h
    unfold w_Mo_give_L2 at h ⊢
    exact ⟨h.1, ⟨(fun c1 => ⟨(h.2.1 c1).1, ⟨(fun c2 => ⟨((h.2.1 c1).2.1 c2).1, (hp _ (BQ_w (by omega) hB) ((h.2.1 c1).2.1 c2).2)⟩), (fun c3 => ⟨((h.2.1 c1).2.2 c3).1, ⟨((h.2.1 c1).2.2 c3).2.1, (b_Mo_join ((h.2.1 c1).2.2 c3).2.2 hB (fun M1 m4 g4 => ⟨g4.1, (hp _ (BQ_w (by omega) m4) g4.2)⟩))⟩⟩)⟩⟩), (fun c5 => ⟨(h.2.2 c5).1, (b_Mo_join (h.2.2 c5).2 hB (fun M2 m6 g6 => (b_Mo_complete g6 m6 (fun M3 m7 g7 => (ih _ _ (BQ_w (by omega) (BQ_w (by omega) m7)) g7)))))⟩)⟩⟩
theorem b_Mo_give_L2 {post post' : aM → Prop} {n : Nat} {v2 : Int32} {M : aM} (h : w_Mo_give_L2 post n 136 v2 M) (hB : BQ M) (hp : ∀ (y0 : aM), BQ y0 → post y0 → post' y0) : w_Mo_give_L2 post' n 136 v2 M := b_Mo_give_L2_n hp n v2 M hB h
theorem b_Mo_give {post post' : aM → Prop} {v1 : Int32} {M : aM} (h : w_Mo_give post 136 v1 M) (hB : BQ M) (hp : ∀ (y0 : aM), BQ y0 → post y0 → post' y0) : w_Mo_give post' 136 v1 M := by
  unfold w_Mo_give at h ⊢
  exact (match h with | ⟨n1, h1⟩ => ⟨n1, (b_Mo_give_L2 h1 hB hp)⟩)
theorem b_Mo_value_J14 {post post' : aM → Prop} {v1 : Int32} {s1 : Int32} {M : aM} (h : w_Mo_value_J14 post 136 v1 136 s1 M) (hB : BQ M) (hp : ∀ (y0 : aM), BQ y0 → post y0 → post' y0) : w_Mo_value_J14 post' 136 v1 136 s1 M := by
  unfold w_Mo_value_J14 at h ⊢
  exact (b_Mo_need h hB (fun M1 m1 g1 => ⟨(fun c2 => (hp _ m1 (g1.1 c2))), (fun c3 => ⟨(g1.2 c3).1, ⟨(fun c4 => (hp _ m1 ((g1.2 c3).2.1 c4))), (fun c5 => (b_Mo_bad ((g1.2 c3).2.2 c5) m1 (fun M2 m6 g6 => (hp _ m6 g6))))⟩⟩)⟩))
theorem b_Mo_value {post post' : aM → Prop} {v1 : Int32} {M : aM} (h : w_Mo_value post 136 v1 M) (hB : BQ M) (hp : ∀ (y0 : aM), BQ y0 → post y0 → post' y0) : w_Mo_value post' 136 v1 M := by
  unfold w_Mo_value at h ⊢
  exact ⟨(fun c1 => (b_Mo_value_J14 (h.1 c1) hB hp)), (fun c2 => (b_Mo_value_J14 (h.2 c2) hB hp))⟩
theorem b_Mo_readList_J151 {post post' : aM → Prop} {M : aM} (h : w_Mo_readList_J151 post 136 M) (hB : BQ M) (hp : ∀ (y0 : aM), BQ y0 → post y0 → post' y0) : w_Mo_readList_J151 post' 136 M := by
  unfold w_Mo_readList_J151 at h ⊢
  exact (b_Mo_eat h hB (fun M1 m1 g1 => (hp _ m1 g1)))
theorem b_Mo_readList_J137 {post post' : aM → Prop} {K15 K15' : Nat → Int32 → Int32 → Int32 → Int32 → aM → Prop} {v1 : Int32} {v2 : Int32} {v3 : Int32} {s0 : Int32} {M : aM} (h : w_Mo_readList_J137 post K15 136 v1 v2 v3 s0 M) (hB : BQ M) (hp : ∀ (y0 : aM), BQ y0 → post y0 → post' y0) (hK15 : ∀ (y1 : Int32) (y2 : Int32) (y3 : Int32) (y4 : Int32) (y5 : aM), BQ y5 → K15 136 y1 y2 y3 y4 y5 → K15' 136 y1 y2 y3 y4 y5) : w_Mo_readList_J137 post' K15' 136 v1 v2 v3 s0 M := by
  unfold w_Mo_readList_J137 at h ⊢
  exact ⟨(fun c1 => (hK15 _ _ _ _ _ hB (h.1 c1))), (fun c2 => (b_Mo_nextToken (h.2 c2) hB (fun M1 m3 g3 => (hK15 _ _ _ _ _ m3 g3))))⟩
theorem b_Mo_readList_J136 {post post' : aM → Prop} {K15 K15' : Nat → Int32 → Int32 → Int32 → Int32 → aM → Prop} {v1 : Int32} {v2 : Int32} {v3 : Int32} {M : aM} (h : w_Mo_readList_J136 post K15 136 v1 v2 v3 M) (hB : BQ M) (hp : ∀ (y0 : aM), BQ y0 → post y0 → post' y0) (hK15 : ∀ (y1 : Int32) (y2 : Int32) (y3 : Int32) (y4 : Int32) (y5 : aM), BQ y5 → K15 136 y1 y2 y3 y4 y5 → K15' 136 y1 y2 y3 y4 y5) : w_Mo_readList_J136 post' K15' 136 v1 v2 v3 M := by
  unfold w_Mo_readList_J136 at h ⊢
  exact (b_Mo_readList_J137 h hB hp hK15)
theorem b_Mo_readList_J111 {post post' : aM → Prop} {K15 K15' : Nat → Int32 → Int32 → Int32 → Int32 → aM → Prop} {v1 : Int32} {v2 : Int32} {v3 : Int32} {M : aM} (h : w_Mo_readList_J111 post K15 136 v1 v2 v3 M) (hB : BQ M) (hp : ∀ (y0 : aM), BQ y0 → post y0 → post' y0) (hK15 : ∀ (y1 : Int32) (y2 : Int32) (y3 : Int32) (y4 : Int32) (y5 : aM), BQ y5 → K15 136 y1 y2 y3 y4 y5 → K15' 136 y1 y2 y3 y4 y5) : w_Mo_readList_J111 post' K15' 136 v1 v2 v3 M := by
  unfold w_Mo_readList_J111 at h ⊢
  exact (b_Mo_nextToken h hB (fun M1 m1 g1 => ⟨(fun c2 => (b_Mo_readList_J136 (g1.1 c2) m1 hp hK15)), (fun c3 => (b_Mo_is (g1.2 c3) (fun x2 g4 => ⟨(fun c5 => (b_Mo_readList_J136 (g4.1 c5) m1 hp hK15)), (fun c6 => (b_Mo_readList_J137 (g4.2 c6) m1 hp hK15))⟩)))⟩))
theorem b_Mo_readList_J58 {post post' : aM → Prop} {K15 K15' : Nat → Int32 → Int32 → Int32 → Int32 → aM → Prop} {v1 : Int32} {v2 : Int32} {v3 : Int32} {M : aM} (h : w_Mo_readList_J58 post K15 136 v1 v2 v3 M) (hB : BQ M) (hp : ∀ (y0 : aM), BQ y0 → post y0 → post' y0) (hK15 : ∀ (y1 : Int32) (y2 : Int32) (y3 : Int32) (y4 : Int32) (y5 : aM), BQ y5 → K15 136 y1 y2 y3 y4 y5 → K15' 136 y1 y2 y3 y4 y5) : w_Mo_readList_J58 post' K15' 136 v1 v2 v3 M := by
  unfold w_Mo_readList_J58 at h ⊢
  exact ⟨(fun c1 => (b_Mo_readList_J111 (h.1 c1) hB hp hK15)), (fun c2 => ⟨(h.2 c2).1, ⟨(h.2 c2).2.1, ⟨(h.2 c2).2.2.1, ⟨(h.2 c2).2.2.2.1, ⟨(h.2 c2).2.2.2.2.1, (b_Mo_readList_J111 (h.2 c2).2.2.2.2.2 (BQ_w (by omega) (BQ_w (by omega) hB)) hp hK15)⟩⟩⟩⟩⟩)⟩
theorem b_Mo_readList_L15_n {post post' : aM → Prop} (hp : ∀ (y0 : aM), BQ y0 → post y0 → post' y0) : ∀ (n : Nat) (v1 : Int32) (v2 : Int32) (v3 : Int32) (v4 : Int32) (M : aM), BQ M → w_Mo_readList_L15 post n 136 v1 v2 v3 v4 M → w_Mo_readList_L15 post' n 136 v1 v2 v3 v4 M := by
  intro n
  induction n with
  | zero => intro v1 v2 v3 v4 M hB h; exact h.elim
  | succ n ih =>
    intro v1 v2 v3 v4 M hB h
    unfold w_Mo_readList_L15 at h ⊢
    exact ⟨(fun c1 => (b_Mo_readList_J151 (h.1 c1) hB hp)), (fun c2 => ⟨(fun c3 => (b_Mo_readList_J151 ((h.2 c2).1 c3) hB hp)), (fun c4 => (b_Mo_value ((h.2 c2).2 c4) hB (fun M1 m5 g5 => ⟨(fun c6 => (b_Mo_readList_J58 (g5.1 c6) m5 hp ih)), (fun c7 => ⟨(fun c8 => (b_Mo_readList_J58 ((g5.2 c7).1 c8) m5 hp ih)), (fun c9 => (b_Mo_bad ((g5.2 c7).2 c9) m5 (fun M2 m10 g10 => (b_Mo_readList_J58 g10 m10 hp ih))))⟩)⟩)))⟩)⟩
theorem b_Mo_readList_L15 {post post' : aM → Prop} {n : Nat} {v1 : Int32} {v2 : Int32} {v3 : Int32} {v4 : Int32} {M : aM} (h : w_Mo_readList_L15 post n 136 v1 v2 v3 v4 M) (hB : BQ M) (hp : ∀ (y0 : aM), BQ y0 → post y0 → post' y0) : w_Mo_readList_L15 post' n 136 v1 v2 v3 v4 M := b_Mo_readList_L15_n hp n v1 v2 v3 v4 M hB h
theorem b_Mo_readList {post post' : aM → Prop} {v1 : Int32} {v2 : Int32} {M : aM} (h : w_Mo_readList post 136 v1 v2 M) (hB : BQ M) (hp : ∀ (y0 : aM), BQ y0 → post y0 → post' y0) : w_Mo_readList post' 136 v1 v2 M := by
  unfold w_Mo_readList at h ⊢
  exact (b_Mo_nextToken h hB (fun M1 m1 g1 => (b_Mo_eat g1 m1 (fun M2 m2 g2 => (match g2 with | ⟨n3, h3⟩ => ⟨n3, (b_Mo_readList_L15 h3 m2 hp)⟩)))))
theorem b_Mo_readTest_J395 {post post' : aM → Prop} {v2 : Int32} {M : aM} (h : w_Mo_readTest_J395 post 136 v2 M) (hB : BQ M) (hp : ∀ (y0 : aM), BQ y0 → post y0 → post' y0) : w_Mo_readTest_J395 post' 136 v2 M := by
  unfold w_Mo_readTest_J395 at h ⊢
  exact ⟨(fun c1 => (hp _ hB (h.1 c1))), (fun c2 => (b_Mo_complete (h.2 c2) hB (fun M1 m3 g3 => (b_Mo_give g3 m3 (fun M2 m4 g4 => (hp _ m4 g4))))))⟩
theorem b_Mo_readTest_J246 {post post' : aM → Prop} {v1 : Int32} {v2 : Int32} {v3 : Int32} {t0 : Nat} {s1 : Int32} {s2 : Int32} {M : aM} (h : w_Mo_readTest_J246 post 136 v1 v2 v3 t0 s1 s2 M) (hB : BQ M) (ht0 : t0 ≠ 141 ∧ t0 ≠ 142) (hp : ∀ (y0 : aM), BQ y0 → post y0 → post' y0) : w_Mo_readTest_J246 post' 136 v1 v2 v3 t0 s1 s2 M := by
  unfold w_Mo_readTest_J246 at h ⊢
  exact ⟨h.1, (b_Mo_readList h.2 (BQ_w ht0 hB) (fun M1 m1 g1 => (b_Mo_readTest_J395 g1 m1 hp)))⟩
theorem b_Mo_readTest_J230 {post post' : aM → Prop} {v1 : Int32} {v2 : Int32} {v3 : Int32} {v4 : Int32} {M : aM} (h : w_Mo_readTest_J230 post 136 v1 v2 v3 v4 M) (hB : BQ M) (hp : ∀ (y0 : aM), BQ y0 → post y0 → post' y0) : w_Mo_readTest_J230 post' 136 v1 v2 v3 v4 M := by
  unfold w_Mo_readTest_J230 at h ⊢
  exact ⟨(fun c1 => (b_Mo_readTest_J246 (h.1 c1) hB (by omega) hp)), (fun c2 => (b_Mo_readTest_J246 (h.2 c2) hB (by omega) hp))⟩
theorem b_Mo_readTest_J371 {post post' : aM → Prop} {v1 : Int32} {v2 : Int32} {v3 : Int32} {t0 : Nat} {s1 : Int32} {s2 : Int32} {M : aM} (h : w_Mo_readTest_J371 post 136 v1 v2 v3 t0 s1 s2 M) (hB : BQ M) (ht0 : t0 ≠ 141 ∧ t0 ≠ 142) (hp : ∀ (y0 : aM), BQ y0 → post y0 → post' y0) : w_Mo_readTest_J371 post' 136 v1 v2 v3 t0 s1 s2 M := by
  unfold w_Mo_readTest_J371 at h ⊢
  exact ⟨h.1, (b_Mo_nextToken h.2 (BQ_w ht0 hB) (fun M1 m1 g1 => (b_Mo_value g1 m1 (fun M2 m2 g2 => ⟨g2.1, (b_Mo_nextToken g2.2 (BQ_w (by omega) m2) (fun M3 m3 g3 => (b_Mo_readTest_J395 g3 m3 hp)))⟩))))⟩
theorem b_Mo_readTest_J327 {post post' : aM → Prop} {v2 : Int32} {M : aM} (h : w_Mo_readTest_J327 post 136 v2 M) (hB : BQ M) (hp : ∀ (y0 : aM), BQ y0 → post y0 → post' y0) : w_Mo_readTest_J327 post' 136 v2 M := by
  unfold w_Mo_readTest_J327 at h ⊢
  exact (b_Mo_nextToken h hB (fun M1 m1 g1 => (b_Mo_readTest_J395 g1 m1 hp)))
theorem b_Mo_readTest_J303 {post post' : aM → Prop} {v2 : Int32} {v3 : Int32} {t0 : Nat} {s1 : Int32} {s2 : Int32} {M : aM} (h : w_Mo_readTest_J303 post 136 v2 v3 t0 s1 s2 M) (hB : BQ M) (ht0 : t0 ≠ 141 ∧ t0 ≠ 142) (hp : ∀ (y0 : aM), BQ y0 → post y0 → post' y0) : w_Mo_readTest_J303 post' 136 v2 v3 t0 s1 s2 M := by
  unfold w_Mo_readTest_J303 at h ⊢
  exact ⟨h.1, ⟨(fun c1 => (b_Mo_readTest_J327 (h.2.1 c1) (BQ_w ht0 hB) hp)), (fun c2 => ⟨(h.2.2 c2).1, ⟨(fun c3 => (b_Mo_readTest_J327 ((h.2.2 c2).2.1 c3) (BQ_w ht0 hB) hp)), (fun c4 => (b_Mo_bad ((h.2.2 c2).2.2 c4) (BQ_w ht0 hB) (fun M1 m5 g5 => (b_Mo_readTest_J327 g5 m5 hp))))⟩⟩)⟩⟩
theorem b_Mo_readTest_J198 {post post' : aM → Prop} {v2 : Int32} {v3 : Int32} {s1 : Int32} {M : aM} (h : w_Mo_readTest_J198 post 136 v2 v3 136 s1 M) (hB : BQ M) (hp : ∀ (y0 : aM), BQ y0 → post y0 → post' y0) : w_Mo_readTest_J198 post' 136 v2 v3 136 s1 M := by
  unfold w_Mo_readTest_J198 at h ⊢
  exact (b_Mo_need h hB (fun M1 m1 g1 => ⟨g1.1, (b_Mo_nextToken g1.2 (BQ_w (by omega) m1) (fun M2 m2 g2 => (b_Mo_readTest_J395 g2 m2 hp)))⟩))
theorem b_Mo_readTest_J179 {post post' : aM → Prop} {v2 : Int32} {v3 : Int32} {t0 : Nat} {s1 : Int32} {s2 : Int32} {M : aM} (h : w_Mo_readTest_J179 post 136 v2 v3 t0 s1 s2 M) (hB : BQ M) (ht0 : t0 ≠ 141 ∧ t0 ≠ 142) (hp : ∀ (y0 : aM), BQ y0 → post y0 → post' y0) : w_Mo_readTest_J179 post' 136 v2 v3 t0 s1 s2 M := by
  unfold w_Mo_readTest_J179 at h ⊢
  exact ⟨h.1, (b_Mo_nextToken h.2 (BQ_w ht0 hB) (fun M1 m1 g1 => ⟨(fun c2 => (b_Mo_readTest_J198 (g1.1 c2) m1 hp)), (fun c3 => (b_Mo_readTest_J198 (g1.2 c3) m1 hp))⟩))⟩
theorem b_Mo_readTest_J127 {post post' : aM → Prop} {v1 : Int32} {v2 : Int32} {v3 : Int32} {v4 : Int32} {v5 : Int32} {s1 : Int32} {M : aM} (h : w_Mo_readTest_J127 post 136 v1 v2 v3 v4 v5 136 s1 M) (hB : BQ M) (hp : ∀ (y0 : aM), BQ y0 → post y0 → post' y0) : w_Mo_readTest_J127 post' 136 v1 v2 v3 v4 v5 136 s1 M := by
  unfold w_Mo_readTest_J127 at h ⊢
  exact (b_Mo_need h hB (fun M1 m1 g1 => ⟨(fun c2 => ⟨(fun c3 => ⟨(fun c4 => (b_Mo_readTest_J230 (((g1.1 c2).1 c3).1 c4) m1 hp)), (fun c5 => ⟨(fun c6 => ⟨(fun c7 => ⟨(fun c8 => ⟨(fun c9 => (b_Mo_readTest_J371 (((((((g1.1 c2).1 c3).2 c5).1 c6).1 c7).1 c8).1 c9) m1 (by omega) hp)), (fun c10 => (b_Mo_readTest_J371 (((((((g1.1 c2).1 c3).2 c5).1 c6).1 c7).1 c8).2 c10) m1 (by omega) hp))⟩), (fun c11 => ⟨((((((g1.1 c2).1 c3).2 c5).1 c6).1 c7).2 c11).1, (b_Mo_nextToken ((((((g1.1 c2).1 c3).2 c5).1 c6).1 c7).2 c11).2 (BQ_w (by omega) m1) (fun M2 m12 g12 => (b_Mo_readTest_J395 g12 m12 hp)))⟩)⟩), (fun c13 => ⟨(((((g1.1 c2).1 c3).2 c5).1 c6).2 c13).1, (b_Mo_nextToken (((((g1.1 c2).1 c3).2 c5).1 c6).2 c13).2 (BQ_w (by omega) m1) (fun M3 m14 g14 => (b_Mo_isName g14 (fun x4 g15 => (b_Mo_need g15 m14 (fun M5 m16 g16 => ⟨(fun c17 => (b_Mo_readTest_J303 (g16.1 c17) m16 (by omega) hp)), (fun c18 => (b_Mo_attributeHere (g16.2 c18) (fun x6 g19 => (b_Mo_readTest_J303 g19 m16 (by omega) hp))))⟩))))))⟩)⟩), (fun c20 => (b_Mo_readTest_J230 ((((g1.1 c2).1 c3).2 c5).2 c20) m1 hp))⟩)⟩), (fun c21 => (b_Mo_is ((g1.1 c2).2 c21) (fun x7 g22 => ⟨(fun c23 => (b_Mo_is (g22.1 c23) (fun x8 g24 => ⟨(fun c25 => (b_Mo_readTest_J179 (g24.1 c25) m1 (by omega) hp)), (fun c26 => (b_Mo_readTest_J179 (g24.2 c26) m1 (by omega) hp))⟩))), (fun c27 => (b_Mo_readTest_J179 (g22.2 c27) m1 (by omega) hp))⟩)))⟩), (fun c28 => (hp _ m1 (g1.2 c28)))⟩))
theorem b_Mo_readTest_J122 {post post' : aM → Prop} {v1 : Int32} {v2 : Int32} {v3 : Int32} {v4 : Int32} {v5 : Int32} {M : aM} (h : w_Mo_readTest_J122 post 136 v1 v2 v3 v4 v5 136 M) (hB : BQ M) (hp : ∀ (y0 : aM), BQ y0 → post y0 → post' y0) : w_Mo_readTest_J122 post' 136 v1 v2 v3 v4 v5 136 M := by
  unfold w_Mo_readTest_J122 at h ⊢
  exact (b_Mo_readTest_J127 h hB hp)
theorem b_Mo_readTest_J108 {post post' : aM → Prop} {v1 : Int32} {v2 : Int32} {v3 : Int32} {v4 : Int32} {s0 : Int32} {M : aM} (h : w_Mo_readTest_J108 post 136 v1 v2 v3 v4 s0 M) (hB : BQ M) (hp : ∀ (y0 : aM), BQ y0 → post y0 → post' y0) : w_Mo_readTest_J108 post' 136 v1 v2 v3 v4 s0 M := by
  unfold w_Mo_readTest_J108 at h ⊢
  exact ⟨(fun c1 => (b_Mo_readTest_J122 (h.1 c1) hB hp)), (fun c2 => ⟨(fun c3 => (b_Mo_readTest_J127 ((h.2 c2).1 c3) hB hp)), (fun c4 => (b_Mo_readTest_J122 ((h.2 c2).2 c4) hB hp))⟩)⟩
theorem b_Mo_readTest_J107 {post post' : aM → Prop} {v1 : Int32} {v2 : Int32} {v3 : Int32} {v4 : Int32} {M : aM} (h : w_Mo_readTest_J107 post 136 v1 v2 v3 v4 M) (hB : BQ M) (hp : ∀ (y0 : aM), BQ y0 → post y0 → post' y0) : w_Mo_readTest_J107 post' 136 v1 v2 v3 v4 M := by
  unfold w_Mo_readTest_J107 at h ⊢
  exact (b_Mo_readTest_J108 h hB hp)
theorem b_Mo_readTest_J103 {post post' : aM → Prop} {v1 : Int32} {v2 : Int32} {v3 : Int32} {v4 : Int32} {M : aM} (h : w_Mo_readTest_J103 post 136 v1 v2 v3 v4 M) (hB : BQ M) (hp : ∀ (y0 : aM), BQ y0 → post y0 → post' y0) : w_Mo_readTest_J103 post' 136 v1 v2 v3 v4 M := by
  unfold w_Mo_readTest_J103 at h ⊢
  exact (b_Mo_readTest_J108 h hB hp)
theorem b_Mo_readTest_J66 {post post' : aM → Prop} {v1 : Int32} {v2 : Int32} {v3 : Int32} {s0 : Int32} {M : aM} (h : w_Mo_readTest_J66 post 136 v1 v2 v3 s0 M) (hB : BQ M) (hp : ∀ (y0 : aM), BQ y0 → post y0 → post' y0) : w_Mo_readTest_J66 post' 136 v1 v2 v3 s0 M := by
  unfold w_Mo_readTest_J66 at h ⊢
  exact ⟨(fun c1 => (b_Mo_readTest_J107 (h.1 c1) hB hp)), (fun c2 => (b_Mo_is (h.2 c2) (fun x1 g3 => ⟨(fun c4 => (b_Mo_readTest_J103 (g3.1 c4) hB hp)), (fun c5 => (b_Mo_is (g3.2 c5) (fun x2 g6 => ⟨(fun c7 => (b_Mo_readTest_J103 (g6.1 c7) hB hp)), (fun c8 => (b_Mo_is (g6.2 c8) (fun x3 g9 => ⟨(fun c10 => (b_Mo_readTest_J107 (g9.1 c10) hB hp)), (fun c11 => (b_Mo_readTest_J103 (g9.2 c11) hB hp))⟩)))⟩)))⟩)))⟩
theorem b_Mo_readTest_J15 {post post' : aM → Prop} {v1 : Int32} {M : aM} (h : w_Mo_readTest_J15 post 136 v1 M) (hB : BQ M) (hp : ∀ (y0 : aM), BQ y0 → post y0 → post' y0) : w_Mo_readTest_J15 post' 136 v1 M := by
  unfold w_Mo_readTest_J15 at h ⊢
  exact (b_Mo_newPart h hB (fun x1 M1 m1 g1 => ⟨(fun c2 => ⟨(g1.1 c2).1, (b_Mo_nextToken (g1.1 c2).2 (BQ_w (by omega) m1) (fun M2 m3 g3 => ⟨(fun c4 => (b_Mo_readTest_J66 (g3.1 c4) m3 hp)), (fun c5 => (b_Mo_among (g3.2 c5) (fun x3 g6 => (b_Mo_readTest_J66 g6 m3 hp))))⟩))⟩), (fun c7 => (hp _ m1 (g1.2 c7)))⟩))
theorem b_Mo_readTest {post post' : aM → Prop} {M : aM} (h : w_Mo_readTest post 136 M) (hB : BQ M) (hp : ∀ (y0 : aM), BQ y0 → post y0 → post' y0) : w_Mo_readTest post' 136 M := by
  unfold w_Mo_readTest at h ⊢
  exact (b_Mo_attributeHere h (fun x1 g1 => ⟨(fun c2 => (b_Mo_readTest_J15 (g1.1 c2) hB hp)), (fun c3 => (b_Mo_bad (g1.2 c3) hB (fun M2 m4 g4 => (b_Mo_readTest_J15 g4 m4 hp))))⟩))
theorem b_Mo_readPart_J109 {post post' : Int32 → aM → Prop} {M : aM} (h : w_Mo_readPart_J109 post 136 M) (hB : BQ M) (hp : ∀ (y0 : Int32) (y1 : aM), BQ y1 → post y0 y1 → post' y0 y1) : w_Mo_readPart_J109 post' 136 M := by
  unfold w_Mo_readPart_J109 at h ⊢
  exact (b_Mo_nextToken h hB (fun M1 m1 g1 => ⟨g1.1, (hp _ _ m1 g1.2)⟩))
theorem b_Mo_readPart_J66 {post post' : Int32 → aM → Prop} {M : aM} (h : w_Mo_readPart_J66 post 136 M) (hB : BQ M) (hp : ∀ (y0 : Int32) (y1 : aM), BQ y1 → post y0 y1 → post' y0 y1) : w_Mo_readPart_J66 post' 136 M := by
  unfold w_Mo_readPart_J66 at h ⊢
  exact (b_Mo_nextToken h hB (fun M1 m1 g1 => ⟨g1.1, (hp _ _ m1 g1.2)⟩))
theorem b_Mo_readPart_J34 {post post' : Int32 → aM → Prop} {M : aM} (h : w_Mo_readPart_J34 post 136 M) (hB : BQ M) (hp : ∀ (y0 : Int32) (y1 : aM), BQ y1 → post y0 y1 → post' y0 y1) : w_Mo_readPart_J34 post' 136 M := by
  unfold w_Mo_readPart_J34 at h ⊢
  exact (b_Mo_nextToken h hB (fun M1 m1 g1 => ⟨g1.1, (hp _ _ m1 g1.2)⟩))
theorem b_Mo_readPart {post post' : Int32 → aM → Prop} {M : aM} (h : w_Mo_readPart post 136 M) (hB : BQ M) (hp : ∀ (y0 : Int32) (y1 : aM), BQ y1 → post y0 y1 → post' y0 y1) : w_Mo_readPart post' 136 M := by
  unfold w_Mo_readPart at h ⊢
  exact (b_Mo_isWord h (fun x1 g1 => ⟨(fun c2 => (b_Mo_is (g1.1 c2) (fun x2 g3 => ⟨(fun c4 => (b_Mo_among (g3.1 c4) (fun x3 g5 => ⟨(fun c6 => (b_Mo_isName (g5.1 c6) (fun x4 g7 => (b_Mo_need g7 hB (fun M5 m8 g8 => ⟨(fun c9 => ⟨(g8.1 c9).1, (hp _ _ m8 (g8.1 c9).2)⟩), (fun c10 => (b_Mo_readTest (g8.2 c10) m8 (fun M6 m11 g11 => ⟨g11.1, (hp _ _ m11 g11.2)⟩)))⟩))))), (fun c12 => (b_Mo_newPart (g5.2 c12) hB (fun x7 M7 m13 g13 => ⟨(fun c14 => (b_Mo_readPart_J109 (g13.1 c14) m13 hp)), (fun c15 => (b_Mo_complete (g13.2 c15) m13 (fun M8 m16 g16 => (b_Mo_give g16 m16 (fun M9 m17 g17 => (b_Mo_readPart_J109 g17 m17 hp))))))⟩)))⟩))), (fun c18 => (b_Mo_open (g3.2 c18) hB (fun M10 m19 g19 => ⟨(fun c20 => (b_Mo_readPart_J66 (g19.1 c20) m19 hp)), (fun c21 => (b_Mo_pile (g19.2 c21) m19 (fun M11 m22 g22 => (b_Mo_readPart_J66 g22 m22 hp))))⟩)))⟩))), (fun c23 => (b_Mo_open (g1.2 c23) hB (fun M12 m24 g24 => (b_Mo_newPart g24 m24 (fun x13 M13 m25 g25 => ⟨(fun c26 => (b_Mo_readPart_J34 (g25.1 c26) m25 hp)), (fun c27 => (b_Mo_pile (g25.2 c27) m25 (fun M14 m28 g28 => (b_Mo_readPart_J34 g28 m28 hp))))⟩)))))⟩))
theorem b_Mo_endAnd_J36 {post post' : Int32 → aM → Prop} {v1 : Int32} {v2 : Int32} {M : aM} (h : w_Mo_endAnd_J36 post 136 v1 v2 M) (hB : BQ M) (hp : ∀ (y0 : Int32) (y1 : aM), BQ y1 → post y0 y1 → post' y0 y1) : w_Mo_endAnd_J36 post' 136 v1 v2 M := by
  unfold w_Mo_endAnd_J36 at h ⊢
  exact ⟨h.1, ⟨h.2.1, (hp _ _ (BQ_w (by omega) (BQ_w (by omega) hB)) h.2.2)⟩⟩
theorem b_Mo_endAnd {post post' : Int32 → aM → Prop} {M : aM} (h : w_Mo_endAnd post 136 M) (hB : BQ M) (hp : ∀ (y0 : Int32) (y1 : aM), BQ y1 → post y0 y1 → post' y0 y1) : w_Mo_endAnd post' 136 M := by
  unfold w_Mo_endAnd at h ⊢
  exact ⟨h.1, ⟨h.2.1, ⟨(fun c1 => (b_Mo_endAnd_J36 (h.2.2.1 c1) hB hp)), (fun c2 => ⟨(h.2.2.2 c2).1, (b_Mo_complete (h.2.2.2 c2).2 hB (fun M1 m3 g3 => (b_Mo_endAnd_J36 g3 m3 hp)))⟩)⟩⟩⟩
theorem b_Mo_endOr {post post' : Int32 → aM → Prop} {M : aM} (h : w_Mo_endOr post 136 M) (hB : BQ M) (hp : ∀ (y0 : Int32) (y1 : aM), BQ y1 → post y0 y1 → post' y0 y1) : w_Mo_endOr post' 136 M := by
  unfold w_Mo_endOr at h ⊢
  exact (b_Mo_endAnd h hB (fun x1 M1 m1 g1 => ⟨g1.1, ⟨(fun c2 => (hp _ _ m1 (g1.2.1 c2))), (fun c3 => ⟨(g1.2.2 c3).1, ⟨(g1.2.2 c3).2.1, (b_Mo_join (g1.2.2 c3).2.2 m1 (fun M2 m4 g4 => ⟨g4.1, (b_Mo_complete g4.2 m4 (fun M3 m5 g5 => (hp _ _ m5 g5)))⟩))⟩⟩)⟩⟩))
theorem b_Mo_readExpression_J210 {post post' : Int32 → aM → Prop} {K12 K12' : Nat → Int32 → aM → Prop} {M : aM} (h : w_Mo_readExpression_J210 post K12 136 M) (hB : BQ M) (hp : ∀ (y0 : Int32) (y1 : aM), BQ y1 → post y0 y1 → post' y0 y1) (hK12 : ∀ (y1 : Int32) (y2 : aM), BQ y2 → K12 136 y1 y2 → K12' 136 y1 y2) : w_Mo_readExpression_J210 post' K12' 136 M := by
  unfold w_Mo_readExpression_J210 at h ⊢
  exact (b_Mo_nextToken h hB (fun M1 m1 g1 => (hK12 _ _ m1 g1)))
theorem b_Mo_readExpression_J178 {post post' : Int32 → aM → Prop} {K12 K12' : Nat → Int32 → aM → Prop} {M : aM} (h : w_Mo_readExpression_J178 post K12 136 M) (hB : BQ M) (hp : ∀ (y0 : Int32) (y1 : aM), BQ y1 → post y0 y1 → post' y0 y1) (hK12 : ∀ (y1 : Int32) (y2 : aM), BQ y2 → K12 136 y1 y2 → K12' 136 y1 y2) : w_Mo_readExpression_J178 post' K12' 136 M := by
  unfold w_Mo_readExpression_J178 at h ⊢
  exact (b_Mo_readExpression_J210 h hB hp hK12)
theorem b_Mo_readExpression_J145 {post post' : Int32 → aM → Prop} {K12 K12' : Nat → Int32 → aM → Prop} {v2 : Int32} {v3 : Int32} {s0 : Int32} {M : aM} (h : w_Mo_readExpression_J145 post K12 136 v2 v3 s0 M) (hB : BQ M) (hp : ∀ (y0 : Int32) (y1 : aM), BQ y1 → post y0 y1 → post' y0 y1) (hK12 : ∀ (y1 : Int32) (y2 : aM), BQ y2 → K12 136 y1 y2 → K12' 136 y1 y2) : w_Mo_readExpression_J145 post' K12' 136 v2 v3 s0 M := by
  unfold w_Mo_readExpression_J145 at h ⊢
  exact ⟨(fun c1 => (b_Mo_readExpression_J178 (h.1 c1) hB hp hK12)), (fun c2 => (b_Mo_join (h.2 c2) hB (fun M1 m3 g3 => ⟨g3.1, ⟨g3.2.1, (b_Mo_readExpression_J178 g3.2.2 (BQ_w (by omega) (BQ_w (by omega) m3)) hp hK12)⟩⟩)))⟩
theorem b_Mo_readExpression_J93 {post post' : Int32 → aM → Prop} {K12 K12' : Nat → Int32 → aM → Prop} {M : aM} (h : w_Mo_readExpression_J93 post K12 136 M) (hB : BQ M) (hp : ∀ (y0 : Int32) (y1 : aM), BQ y1 → post y0 y1 → post' y0 y1) (hK12 : ∀ (y1 : Int32) (y2 : aM), BQ y2 → K12 136 y1 y2 → K12' 136 y1 y2) : w_Mo_readExpression_J93 post' K12' 136 M := by
  unfold w_Mo_readExpression_J93 at h ⊢
  exact (b_Mo_nextToken h hB (fun M1 m1 g1 => (hK12 _ _ m1 g1)))
theorem b_Mo_readExpression_L12_n {post post' : Int32 → aM → Prop} (hp : ∀ (y0 : Int32) (y1 : aM), BQ y1 → post y0 y1 → post' y0 y1) : ∀ (n : Nat) (v1 : Int32) (M : aM), BQ M → w_Mo_readExpression_L12 post n 136 v1 M → w_Mo_readExpression_L12 post' n 136 v1 M := by
  intro n
  induction n with
  | zero => intro v1 M hB h; exact h.elim
  | succ n ih =>
    intro v1 M hB h
    unfold w_Mo_readExpression_L12 at h ⊢
    exact ⟨(fun c1 => (hp _ _ hB (h.1 c1))), (fun c2 => ⟨(fun c3 => (b_Mo_isWord ((h.2 c2).1 c3) (fun x1 g4 => ⟨(fun c5 => (b_Mo_isWord (g4.1 c5) (fun x2 g6 => ⟨(fun c7 => ⟨(fun c8 => (b_Mo_endOr ((g6.1 c7).1 c8) hB (fun x3 M3 m9 g9 => (hp _ _ m9 g9)))), (fun c10 => (b_Mo_is ((g6.1 c7).2 c10) (fun x4 g11 => (b_Mo_need g11 hB (fun M5 m12 g12 => ⟨(fun c13 => (ih _ _ m12 (g12.1 c13))), (fun c14 => (b_Mo_endOr (g12.2 c14) m12 (fun x6 M6 m15 g15 => (b_Mo_give g15 (BQ_w (by omega) (BQ_w (by omega) m15)) (fun M7 m16 g16 => (b_Mo_nextToken g16 m16 (fun M8 m17 g17 => (ih _ _ m17 g17))))))))⟩)))))⟩), (fun c18 => ⟨(g6.2 c18).1, ⟨(fun c19 => (b_Mo_endAnd ((g6.2 c18).2.1 c19) hB (fun x9 M9 m20 g20 => ⟨g20.1, ⟨g20.2.1, (b_Mo_join g20.2.2 m20 (fun M10 m21 g21 => ⟨g21.1, (b_Mo_readExpression_J210 g21.2 (BQ_w (by omega) m21) hp ih)⟩))⟩⟩))), (fun c22 => (b_Mo_newPart ((g6.2 c18).2.2 c22) hB (fun x11 M11 m23 g23 => ⟨(fun c24 => (b_Mo_readExpression_J145 (g23.1 c24) m23 hp ih)), (fun c25 => (b_Mo_endAnd (g23.2 c25) m23 (fun x12 M12 m26 g26 => (b_Mo_readExpression_J145 g26 m26 hp ih))))⟩)))⟩⟩)⟩))), (fun c27 => ⟨(g4.2 c27).1, ⟨(fun c28 => (b_Mo_readExpression_J93 ((g4.2 c27).2.1 c28) hB hp ih)), (fun c29 => (b_Mo_newPart ((g4.2 c27).2.2 c29) hB (fun x13 M13 m30 g30 => ⟨(fun c31 => (b_Mo_readExpression_J93 (g30.1 c31) m30 hp ih)), (fun c32 => ⟨(g30.2 c32).1, (b_Mo_join (g30.2 c32).2 m30 (fun M14 m33 g33 => ⟨g33.1, (b_Mo_readExpression_J93 g33.2 (BQ_w (by omega) m33) hp ih)⟩))⟩)⟩)))⟩⟩)⟩))), (fun c34 => (b_Mo_readPart ((h.2 c2).2 c34) hB (fun x15 M15 m35 g35 => (ih _ _ m35 g35))))⟩)⟩
theorem b_Mo_readExpression_L12 {post post' : Int32 → aM → Prop} {n : Nat} {v1 : Int32} {M : aM} (h : w_Mo_readExpression_L12 post n 136 v1 M) (hB : BQ M) (hp : ∀ (y0 : Int32) (y1 : aM), BQ y1 → post y0 y1 → post' y0 y1) : w_Mo_readExpression_L12 post' n 136 v1 M := b_Mo_readExpression_L12_n hp n v1 M hB h
theorem b_Mo_readExpression {post post' : Int32 → aM → Prop} {M : aM} (h : w_Mo_readExpression post 136 M) (hB : BQ M) (hp : ∀ (y0 : Int32) (y1 : aM), BQ y1 → post y0 y1 → post' y0 y1) : w_Mo_readExpression post' 136 M := by
  unfold w_Mo_readExpression at h ⊢
  exact (b_Mo_pile h (BQ_w (by omega) hB) (fun M1 m1 g1 => (match g1 with | ⟨n2, h2⟩ => ⟨n2, (b_Mo_readExpression_L12 h2 m1 hp)⟩)))
theorem b_Mo_forPart {post post' : aM → Prop} {v1 : Int32} {M : aM} (h : w_Mo_forPart post 136 v1 M) (hB : BQ M) (hp : ∀ (y0 : aM), BQ y0 → post y0 → post' y0) : w_Mo_forPart post' 136 v1 M := by
  unfold w_Mo_forPart at h ⊢
  exact ⟨(fun c1 => (hp _ hB (h.1 c1))), (fun c2 => (b_Mo_isWord (h.2 c2) (fun x1 g3 => ⟨(fun c4 => (hp _ hB (g3.1 c4))), (fun c5 => (b_Mo_nextToken (g3.2 c5) hB (fun M2 m6 g6 => (b_Mo_readExpression g6 m6 (fun x3 M3 m7 g7 => ⟨g7.1, (hp _ (BQ_w (by omega) m7) g7.2)⟩)))))⟩)))⟩
theorem b_Mo_beginSet_J129 {post post' : Int32 → aM → Prop} {v2 : Int32} {M : aM} (h : w_Mo_beginSet_J129 post 136 v2 M) (hB : BQ M) (hp : ∀ (y0 : Int32) (y1 : aM), BQ y1 → post y0 y1 → post' y0 y1) : w_Mo_beginSet_J129 post' 136 v2 M := by
  unfold w_Mo_beginSet_J129 at h ⊢
  exact (b_Mo_nextToken h (BQ_w (by omega) hB) (fun M1 m1 g1 => (hp _ _ m1 g1)))
theorem b_Mo_beginSet_J74 {post post' : Int32 → aM → Prop} {v2 : Int32} {v3 : Int32} {s1 : Int32} {M : aM} (h : w_Mo_beginSet_J74 post 136 v2 v3 136 s1 M) (hB : BQ M) (hp : ∀ (y0 : Int32) (y1 : aM), BQ y1 → post y0 y1 → post' y0 y1) : w_Mo_beginSet_J74 post' 136 v2 v3 136 s1 M := by
  unfold w_Mo_beginSet_J74 at h ⊢
  exact (b_Mo_need h hB (fun M1 m1 g1 => ⟨g1.1, (b_Mo_nextToken g1.2 (BQ_w (by omega) m1) (fun M2 m2 g2 => (b_Mo_forPart g2 m2 (fun M3 m3 g3 => (b_Mo_is g3 (fun x4 g4 => (b_Mo_need g4 m3 (fun M5 m5 g5 => ⟨(fun c6 => (b_Mo_beginSet_J129 (g5.1 c6) m5 hp)), (fun c7 => ⟨(fun c8 => (b_Mo_beginSet_J129 ((g5.2 c7).1 c8) m5 hp)), (fun c9 => (b_Mo_bad ((g5.2 c7).2 c9) m5 (fun M6 m10 g10 => (b_Mo_beginSet_J129 g10 m10 hp))))⟩)⟩))))))))⟩))
theorem b_Mo_beginSet_J62 {post post' : Int32 → aM → Prop} {v2 : Int32} {s0 : Int32} {M : aM} (h : w_Mo_beginSet_J62 post 136 v2 s0 M) (hB : BQ M) (hp : ∀ (y0 : Int32) (y1 : aM), BQ y1 → post y0 y1 → post' y0 y1) : w_Mo_beginSet_J62 post' 136 v2 s0 M := by
  unfold w_Mo_beginSet_J62 at h ⊢
  exact ⟨(fun c1 => (b_Mo_beginSet_J74 (h.1 c1) hB hp)), (fun c2 => (b_Mo_beginSet_J74 (h.2 c2) hB hp))⟩
theorem b_Mo_beginSet {post post' : Int32 → aM → Prop} {v1 : Int32} {M : aM} (h : w_Mo_beginSet post 136 v1 M) (hB : BQ M) (hp : ∀ (y0 : Int32) (y1 : aM), BQ y1 → post y0 y1 → post' y0 y1) : w_Mo_beginSet post' 136 v1 M := by
  unfold w_Mo_beginSet at h ⊢
  exact (b_Mo_newNode h hB (fun x1 M1 m1 g1 => (b_Mo_nextToken g1 m1 (fun M2 m2 g2 => (b_Mo_isName g2 (fun x3 g3 => (b_Mo_need g3 m2 (fun M4 m4 g4 => ⟨(fun c5 => (b_Mo_nameOf (g4.1 c5) (fun x5 g6 => (b_Mo_keepName g6 m4 (fun M6 m7 g7 => (b_Mo_nextToken g7 m7 (fun M7 m8 g8 => ⟨(fun c9 => (b_Mo_beginSet_J62 (g8.1 c9) m8 hp)), (fun c10 => (b_Mo_among (g8.2 c10) (fun x8 g11 => (b_Mo_beginSet_J62 g11 m8 hp))))⟩))))))), (fun c12 => (hp _ _ m4 (g4.2 c12)))⟩))))))))
theorem b_Mo_newDuty_J95 {post post' : aM → Prop} {M : aM} (h : w_Mo_newDuty_J95 post 136 M) (hB : BQ M) (hp : ∀ (y0 : aM), BQ y0 → post y0 → post' y0) : w_Mo_newDuty_J95 post' 136 M := by
  unfold w_Mo_newDuty_J95 at h ⊢
  exact (b_Mo_nextToken h hB (fun M1 m1 g1 => (hp _ m1 g1)))
theorem b_Mo_newDuty_J85 {post post' : aM → Prop} {v3 : Int32} {M : aM} (h : w_Mo_newDuty_J85 post 136 v3 M) (hB : BQ M) (hp : ∀ (y0 : aM), BQ y0 → post y0 → post' y0) : w_Mo_newDuty_J85 post' 136 v3 M := by
  unfold w_Mo_newDuty_J85 at h ⊢
  exact ⟨h.1, (b_Mo_newDuty_J95 h.2 (BQ_w (by omega) hB) hp)⟩
theorem b_Mo_newDuty_J78 {post post' : aM → Prop} {v2 : Int32} {v3 : Int32} {M : aM} (h : w_Mo_newDuty_J78 post 136 v2 v3 M) (hB : BQ M) (hp : ∀ (y0 : aM), BQ y0 → post y0 → post' y0) : w_Mo_newDuty_J78 post' 136 v2 v3 M := by
  unfold w_Mo_newDuty_J78 at h ⊢
  exact ⟨h.1, (b_Mo_newDuty_J85 h.2 (BQ_w (by omega) hB) hp)⟩
theorem b_Mo_newDuty_J71 {post post' : aM → Prop} {v1 : Int32} {v2 : Int32} {v3 : Int32} {M : aM} (h : w_Mo_newDuty_J71 post 136 v1 v2 v3 M) (hB : BQ M) (hp : ∀ (y0 : aM), BQ y0 → post y0 → post' y0) : w_Mo_newDuty_J71 post' 136 v1 v2 v3 M := by
  unfold w_Mo_newDuty_J71 at h ⊢
  exact ⟨h.1, (b_Mo_newDuty_J78 h.2 (BQ_w (by omega) hB) hp)⟩
theorem b_Mo_newDuty_J41 {post post' : aM → Prop} {v1 : Int32} {v2 : Int32} {M : aM} (h : w_Mo_newDuty_J41 post 136 v1 v2 M) (hB : BQ M) (hp : ∀ (y0 : aM), BQ y0 → post y0 → post' y0) : w_Mo_newDuty_J41 post' 136 v1 v2 M := by
  unfold w_Mo_newDuty_J41 at h ⊢
  exact ⟨(fun c1 => ⟨(h.1 c1).1, ⟨(h.1 c1).2.1, ⟨(h.1 c1).2.2.1, (b_Mo_newDuty_J71 (h.1 c1).2.2.2 (BQ_w (by omega) hB) hp)⟩⟩⟩), (fun c2 => (hp _ hB (h.2 c2)))⟩
theorem b_Mo_newDuty_J14 {post post' : aM → Prop} {v1 : Int32} {v2 : Int32} {s1 : Int32} {M : aM} (h : w_Mo_newDuty_J14 post 136 v1 v2 136 s1 M) (hB : BQ M) (hp : ∀ (y0 : aM), BQ y0 → post y0 → post' y0) : w_Mo_newDuty_J14 post' 136 v1 v2 136 s1 M := by
  unfold w_Mo_newDuty_J14 at h ⊢
  exact (b_Mo_need h hB (fun M1 m1 g1 => ⟨(fun c2 => (b_Mo_newDuty_J41 (g1.1 c2) m1 hp)), (fun c3 => ⟨(g1.2 c3).1, ⟨(fun c4 => (b_Mo_newDuty_J41 ((g1.2 c3).2.1 c4) m1 hp)), (fun c5 => (b_Mo_bad ((g1.2 c3).2.2 c5) m1 (fun M2 m6 g6 => (b_Mo_newDuty_J41 g6 m6 hp))))⟩⟩)⟩))
theorem b_Mo_newDuty {post post' : aM → Prop} {v1 : Int32} {v2 : Int32} {M : aM} (h : w_Mo_newDuty post 136 v1 v2 M) (hB : BQ M) (hp : ∀ (y0 : aM), BQ y0 → post y0 → post' y0) : w_Mo_newDuty post' 136 v1 v2 M := by
  unfold w_Mo_newDuty at h ⊢
  exact ⟨(fun c1 => (b_Mo_newDuty_J14 (h.1 c1) hB hp)), (fun c2 => (b_Mo_newDuty_J14 (h.2 c2) hB hp))⟩
theorem b_Mo_readRule_J134 {post post' : aM → Prop} {M : aM} (h : w_Mo_readRule_J134 post 136 M) (hB : BQ M) (hp : ∀ (y0 : aM), BQ y0 → post y0 → post' y0) : w_Mo_readRule_J134 post' 136 M := by
  unfold w_Mo_readRule_J134 at h ⊢
  exact (b_Mo_eat h hB (fun M1 m1 g1 => (hp _ m1 g1)))
theorem b_Mo_readRule_L84_n {post post' : aM → Prop} (hp : ∀ (y0 : aM), BQ y0 → post y0 → post' y0) : ∀ (n : Nat) (v2 : Int32) (v3 : Int32) (v4 : Int32) (M : aM), BQ M → w_Mo_readRule_L84 post n 136 v2 v3 v4 M → w_Mo_readRule_L84 post' n 136 v2 v3 v4 M := by
  intro n
  induction n with
  | zero => intro v2 v3 v4 M hB h; exact h.elim
  | succ n ih =>
    intro v2 v3 v4 M hB h
    unfold w_Mo_readRule_L84 at h ⊢
    exact ⟨(fun c1 => (b_Mo_readRule_J134 (h.1 c1) hB hp)), (fun c2 => ⟨(fun c3 => (b_Mo_readRule_J134 ((h.2 c2).1 c3) hB hp)), (fun c4 => (b_Mo_nextToken ((h.2 c2).2 c4) hB (fun M1 m5 g5 => (b_Mo_newDuty g5 m5 (fun M2 m6 g6 => ⟨(fun c7 => (ih _ _ _ _ m6 (g6.1 c7))), (fun c8 => (b_Mo_is (g6.2 c8) (fun x3 g9 => ⟨(fun c10 => (ih _ _ _ _ m6 (g9.1 c10))), (fun c11 => (ih _ _ _ _ m6 (g9.2 c11)))⟩)))⟩)))))⟩)⟩
theorem b_Mo_readRule_L84 {post post' : aM → Prop} {n : Nat} {v2 : Int32} {v3 : Int32} {v4 : Int32} {M : aM} (h : w_Mo_readRule_L84 post n 136 v2 v3 v4 M) (hB : BQ M) (hp : ∀ (y0 : aM), BQ y0 → post y0 → post' y0) : w_Mo_readRule_L84 post' n 136 v2 v3 v4 M := b_Mo_readRule_L84_n hp n v2 v3 v4 M hB h
theorem b_Mo_readRule_J58 {post post' : aM → Prop} {v2 : Int32} {v3 : Int32} {M : aM} (h : w_Mo_readRule_J58 post 136 v2 v3 M) (hB : BQ M) (hp : ∀ (y0 : aM), BQ y0 → post y0 → post' y0) : w_Mo_readRule_J58 post' 136 v2 v3 M := by
  unfold w_Mo_readRule_J58 at h ⊢
  exact (b_Mo_forPart h hB (fun M1 m1 g1 => ⟨(fun c2 => (b_Mo_readRule_J134 (g1.1 c2) m1 hp)), (fun c3 => (b_Mo_isWord (g1.2 c3) (fun x2 g4 => ⟨(fun c5 => (b_Mo_readRule_J134 (g4.1 c5) m1 hp)), (fun c6 => (match (g4.2 c6) with | ⟨n7, h7⟩ => ⟨n7, (b_Mo_readRule_L84 h7 m1 hp)⟩))⟩)))⟩))
theorem b_Mo_readRule_J15 {post post' : aM → Prop} {v1 : Int32} {s0 : Int32} {M : aM} (h : w_Mo_readRule_J15 post 136 v1 s0 M) (hB : BQ M) (hp : ∀ (y0 : aM), BQ y0 → post y0 → post' y0) : w_Mo_readRule_J15 post' 136 v1 s0 M := by
  unfold w_Mo_readRule_J15 at h ⊢
  exact (b_Mo_newNode h hB (fun x1 M1 m1 g1 => (b_Mo_nextToken g1 m1 (fun M2 m2 g2 => ⟨(fun c3 => (b_Mo_readRule_J58 (g2.1 c3) m2 hp)), (fun c4 => (b_Mo_isName (g2.2 c4) (fun x3 g5 => ⟨(fun c6 => (b_Mo_readRule_J58 (g5.1 c6) m2 hp)), (fun c7 => (b_Mo_nameOf (g5.2 c7) (fun x4 g8 => (b_Mo_keepName g8 m2 (fun M5 m9 g9 => (b_Mo_nextToken g9 m9 (fun M6 m10 g10 => (b_Mo_readRule_J58 g10 m10 hp))))))))⟩)))⟩))))
theorem b_Mo_readRule {post post' : aM → Prop} {v1 : Int32} {M : aM} (h : w_Mo_readRule post 136 v1 M) (hB : BQ M) (hp : ∀ (y0 : aM), BQ y0 → post y0 → post' y0) : w_Mo_readRule post' 136 v1 M := by
  unfold w_Mo_readRule at h ⊢
  exact (b_Mo_isWord h (fun x1 g1 => ⟨(fun c2 => (b_Mo_readRule_J15 (g1.1 c2) hB hp)), (fun c3 => (b_Mo_readRule_J15 (g1.2 c3) hB hp))⟩))
theorem b_Mo_readDuty_J66 {post post' : aM → Prop} {M : aM} (h : w_Mo_readDuty_J66 post 136 M) (hB : BQ M) (hp : ∀ (y0 : aM), BQ y0 → post y0 → post' y0) : w_Mo_readDuty_J66 post' 136 M := by
  unfold w_Mo_readDuty_J66 at h ⊢
  exact (b_Mo_eat h hB (fun M1 m1 g1 => (hp _ m1 g1)))
theorem b_Mo_readDuty_J45 {post post' : aM → Prop} {v1 : Int32} {v2 : Int32} {s1 : Int32} {M : aM} (h : w_Mo_readDuty_J45 post 136 v1 v2 136 s1 M) (hB : BQ M) (hp : ∀ (y0 : aM), BQ y0 → post y0 → post' y0) : w_Mo_readDuty_J45 post' 136 v1 v2 136 s1 M := by
  unfold w_Mo_readDuty_J45 at h ⊢
  exact (b_Mo_need h hB (fun M1 m1 g1 => (b_Mo_nextToken g1 m1 (fun M2 m2 g2 => ⟨(fun c3 => (b_Mo_readDuty_J66 (g2.1 c3) m2 hp)), (fun c4 => (b_Mo_newDuty (g2.2 c4) m2 (fun M3 m5 g5 => (b_Mo_readDuty_J66 g5 m5 hp))))⟩))))
theorem b_Mo_readDuty_J33 {post post' : aM → Prop} {v1 : Int32} {s0 : Int32} {M : aM} (h : w_Mo_readDuty_J33 post 136 v1 s0 M) (hB : BQ M) (hp : ∀ (y0 : aM), BQ y0 → post y0 → post' y0) : w_Mo_readDuty_J33 post' 136 v1 s0 M := by
  unfold w_Mo_readDuty_J33 at h ⊢
  exact ⟨(fun c1 => (b_Mo_readDuty_J45 (h.1 c1) hB hp)), (fun c2 => (b_Mo_readDuty_J45 (h.2 c2) hB hp))⟩
theorem b_Mo_readDuty {post post' : aM → Prop} {v1 : Int32} {M : aM} (h : w_Mo_readDuty post 136 v1 M) (hB : BQ M) (hp : ∀ (y0 : aM), BQ y0 → post y0 → post' y0) : w_Mo_readDuty post' 136 v1 M := by
  unfold w_Mo_readDuty at h ⊢
  exact (b_Mo_nextToken h hB (fun M1 m1 g1 => (b_Mo_isWord g1 (fun x2 g2 => ⟨(fun c3 => (b_Mo_isWord (g2.1 c3) (fun x3 g4 => ⟨(fun c5 => (b_Mo_readDuty_J33 (g4.1 c5) m1 hp)), (fun c6 => (b_Mo_readDuty_J33 (g4.2 c6) m1 hp))⟩))), (fun c7 => (b_Mo_readDuty_J33 (g2.2 c7) m1 hp))⟩))))
theorem b_Mo_readText_J247 {post post' : aM → Prop} {s1 : Int32} {M : aM} (h : w_Mo_readText_J247 post 136 s1 M) (hB : BQ M) (hp : ∀ (y0 : aM), BQ y0 → post y0 → post' y0) : w_Mo_readText_J247 post' 136 s1 M := by
  unfold w_Mo_readText_J247 at h ⊢
  exact (b_Mo_need h hB (fun M1 m1 g1 => (hp _ m1 g1)))
theorem b_Mo_readText_J233 {post post' : aM → Prop} {M : aM} (h : w_Mo_readText_J233 post 136 M) (hB : BQ M) (hp : ∀ (y0 : aM), BQ y0 → post y0 → post' y0) : w_Mo_readText_J233 post' 136 M := by
  unfold w_Mo_readText_J233 at h ⊢
  exact ⟨(fun c1 => (b_Mo_readText_J247 (h.1 c1) hB hp)), (fun c2 => (b_Mo_readText_J247 (h.2 c2) hB hp))⟩
theorem b_Mo_readText_J199 {post post' : aM → Prop} {K110 K110' : Nat → Int32 → aM → Prop} {v1 : Int32} {M : aM} (h : w_Mo_readText_J199 post K110 136 v1 M) (hB : BQ M) (hp : ∀ (y0 : aM), BQ y0 → post y0 → post' y0) (hK110 : ∀ (y1 : Int32) (y2 : aM), BQ y2 → K110 136 y1 y2 → K110' 136 y1 y2) : w_Mo_readText_J199 post' K110' 136 v1 M := by
  unfold w_Mo_readText_J199 at h ⊢
  exact (b_Mo_readRule h hB (fun M1 m1 g1 => (hK110 _ _ m1 g1)))
theorem b_Mo_readText_L110_n {post post' : aM → Prop} (hp : ∀ (y0 : aM), BQ y0 → post y0 → post' y0) : ∀ (n : Nat) (v1 : Int32) (M : aM), BQ M → w_Mo_readText_L110 post n 136 v1 M → w_Mo_readText_L110 post' n 136 v1 M := by
  intro n
  induction n with
  | zero => intro v1 M hB h; exact h.elim
  | succ n ih =>
    intro v1 M hB h
    unfold w_Mo_readText_L110 at h ⊢
    exact ⟨(fun c1 => (b_Mo_readText_J233 (h.1 c1) hB hp)), (fun c2 => ⟨(fun c3 => (b_Mo_readText_J233 ((h.2 c2).1 c3) hB hp)), (fun c4 => (b_Mo_is ((h.2 c2).2 c4) (fun x1 g5 => ⟨(fun c6 => (b_Mo_isWord (g5.1 c6) (fun x2 g7 => ⟨(fun c8 => (b_Mo_isWord (g7.1 c8) (fun x3 g9 => ⟨(fun c10 => (b_Mo_readText_J199 (g9.1 c10) hB hp ih)), (fun c11 => (b_Mo_isWord (g9.2 c11) (fun x4 g12 => ⟨(fun c13 => (b_Mo_isWord (g12.1 c13) (fun x5 g14 => ⟨(fun c15 => (b_Mo_bad (g14.1 c15) hB (fun M6 m16 g16 => (ih _ _ m16 g16)))), (fun c17 => (b_Mo_readDuty (g14.2 c17) hB (fun M7 m18 g18 => (ih _ _ m18 g18))))⟩))), (fun c19 => (b_Mo_readText_J199 (g12.2 c19) hB hp ih))⟩)))⟩))), (fun c20 => (b_Mo_beginSet (g7.2 c20) hB (fun x8 M8 m21 g21 => (ih _ _ m21 g21))))⟩))), (fun c22 => ⟨(g5.2 c22).1, (b_Mo_nextToken (g5.2 c22).2 (BQ_w (by omega) hB) (fun M9 m23 g23 => (ih _ _ m23 g23)))⟩)⟩)))⟩)⟩
theorem b_Mo_readText_L110 {post post' : aM → Prop} {n : Nat} {v1 : Int32} {M : aM} (h : w_Mo_readText_L110 post n 136 v1 M) (hB : BQ M) (hp : ∀ (y0 : aM), BQ y0 → post y0 → post' y0) : w_Mo_readText_L110 post' n 136 v1 M := b_Mo_readText_L110_n hp n v1 M hB h
theorem b_Mo_readText_J84 {post post' : aM → Prop} {M : aM} (h : w_Mo_readText_J84 post 136 M) (hB : BQ M) (hp : ∀ (y0 : aM), BQ y0 → post y0 → post' y0) : w_Mo_readText_J84 post' 136 M := by
  unfold w_Mo_readText_J84 at h ⊢
  exact (b_Mo_isWord h (fun x1 g1 => (b_Mo_need g1 hB (fun M2 m2 g2 => ⟨(fun c3 => (b_Mo_beginSet (g2.1 c3) m2 (fun x3 M3 m4 g4 => (match g4 with | ⟨n5, h5⟩ => ⟨n5, (b_Mo_readText_L110 h5 m4 hp)⟩)))), (fun c6 => (hp _ m2 (g2.2 c6)))⟩))))
theorem b_Mo_readText_L59_n {post post' : aM → Prop} (hp : ∀ (y0 : aM), BQ y0 → post y0 → post' y0) : ∀ (n : Nat) (M : aM), BQ M → w_Mo_readText_L59 post n 136 M → w_Mo_readText_L59 post' n 136 M := by
  intro n
  induction n with
  | zero => intro M hB h; exact h.elim
  | succ n ih =>
    intro M hB h
    unfold w_Mo_readText_L59 at h ⊢
    exact ⟨(fun c1 => (b_Mo_readText_J84 (h.1 c1) hB hp)), (fun c2 => (b_Mo_isWord (h.2 c2) (fun x1 g3 => ⟨(fun c4 => (b_Mo_readText_J84 (g3.1 c4) hB hp)), (fun c5 => (b_Mo_readAttribute (g3.2 c5) hB (fun M2 m6 g6 => (ih _ m6 g6))))⟩)))⟩
theorem b_Mo_readText_L59 {post post' : aM → Prop} {n : Nat} {M : aM} (h : w_Mo_readText_L59 post n 136 M) (hB : BQ M) (hp : ∀ (y0 : aM), BQ y0 → post y0 → post' y0) : w_Mo_readText_L59 post' n 136 M := b_Mo_readText_L59_n hp n M hB h
theorem b_Mo_readText_J55 {post post' : aM → Prop} {M : aM} (h : w_Mo_readText_J55 post 136 M) (hB : BQ M) (hp : ∀ (y0 : aM), BQ y0 → post y0 → post' y0) : w_Mo_readText_J55 post' 136 M := by
  unfold w_Mo_readText_J55 at h ⊢
  exact (b_Mo_nextToken h hB (fun M1 m1 g1 => (match g1 with | ⟨n2, h2⟩ => ⟨n2, (b_Mo_readText_L59 h2 m1 hp)⟩)))
theorem b_Mo_readText_J50 {post post' : aM → Prop} {M : aM} (h : w_Mo_readText_J50 post 136 M) (hB : BQ M) (hp : ∀ (y0 : aM), BQ y0 → post y0 → post' y0) : w_Mo_readText_J50 post' 136 M := by
  unfold w_Mo_readText_J50 at h ⊢
  exact (b_Mo_readText_J55 h (BQ_w (by omega) hB) hp)
theorem b_Mo_readText_J45 {post post' : aM → Prop} {M : aM} (h : w_Mo_readText_J45 post 136 M) (hB : BQ M) (hp : ∀ (y0 : aM), BQ y0 → post y0 → post' y0) : w_Mo_readText_J45 post' 136 M := by
  unfold w_Mo_readText_J45 at h ⊢
  exact (b_Mo_readText_J50 h (BQ_w (by omega) hB) hp)
theorem b_Mo_readText_J40 {post post' : aM → Prop} {M : aM} (h : w_Mo_readText_J40 post 136 M) (hB : BQ M) (hp : ∀ (y0 : aM), BQ y0 → post y0 → post' y0) : w_Mo_readText_J40 post' 136 M := by
  unfold w_Mo_readText_J40 at h ⊢
  exact (b_Mo_readText_J45 h (BQ_w (by omega) hB) hp)
theorem b_Mo_readText_J35 {post post' : aM → Prop} {M : aM} (h : w_Mo_readText_J35 post 136 M) (hB : BQ M) (hp : ∀ (y0 : aM), BQ y0 → post y0 → post' y0) : w_Mo_readText_J35 post' 136 M := by
  unfold w_Mo_readText_J35 at h ⊢
  exact (b_Mo_readText_J40 h (BQ_w (by omega) hB) hp)
theorem b_Mo_readText_J28 {post post' : aM → Prop} {M : aM} (h : w_Mo_readText_J28 post 136 M) (hB : BQ M) (hp : ∀ (y0 : aM), BQ y0 → post y0 → post' y0) : w_Mo_readText_J28 post' 136 M := by
  unfold w_Mo_readText_J28 at h ⊢
  exact ⟨h.1, (b_Mo_readText_J35 h.2 (BQ_w (by omega) hB) hp)⟩
theorem b_Mo_readText_J21 {post post' : aM → Prop} {M : aM} (h : w_Mo_readText_J21 post 136 M) (hB : BQ M) (hp : ∀ (y0 : aM), BQ y0 → post y0 → post' y0) : w_Mo_readText_J21 post' 136 M := by
  unfold w_Mo_readText_J21 at h ⊢
  exact ⟨h.1, (b_Mo_readText_J28 h.2 (BQ_w (by omega) hB) hp)⟩
theorem b_Mo_readText_J14 {post post' : aM → Prop} {M : aM} (h : w_Mo_readText_J14 post 136 M) (hB : BQ M) (hp : ∀ (y0 : aM), BQ y0 → post y0 → post' y0) : w_Mo_readText_J14 post' 136 M := by
  unfold w_Mo_readText_J14 at h ⊢
  exact ⟨h.1, (b_Mo_readText_J21 h.2 (BQ_w (by omega) hB) hp)⟩
theorem b_Mo_readText_J7 {post post' : aM → Prop} {M : aM} (h : w_Mo_readText_J7 post 136 M) (hB : BQ M) (hp : ∀ (y0 : aM), BQ y0 → post y0 → post' y0) : w_Mo_readText_J7 post' 136 M := by
  unfold w_Mo_readText_J7 at h ⊢
  exact ⟨h.1, (b_Mo_readText_J14 h.2 (BQ_w (by omega) hB) hp)⟩
theorem b_Mo_readText {post post' : aM → Prop} {M : aM} (h : w_Mo_readText post 136 M) (hB : BQ M) (hp : ∀ (y0 : aM), BQ y0 → post y0 → post' y0) : w_Mo_readText post' 136 M := by
  unfold w_Mo_readText at h ⊢
  exact ⟨h.1, (b_Mo_readText_J7 h.2 (BQ_w (by omega) hB) hp)⟩

