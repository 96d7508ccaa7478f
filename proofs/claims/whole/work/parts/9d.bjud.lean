/-! WHAT THE CLASS'S READING KEEPS, behind clear(): the fresh text is not judged. -/
def BJ (t : Nat) (M : aM) : Prop := 8 ≤ t ∧ rR M 2 3 = t ∧ rI M t 1 = 0
theorem BJ_w {t : Nat} {M : aM} {k j : Nat} {x : Int32} (hk : k ≠ t) (h : BJ t M) : BJ t (wI M k j x) := ⟨h.1, h.2.1, by rw [rw_n (fun z => hk z.symm)]; exact h.2.2⟩
theorem BJ_0 {t : Nat} {M : aM} {k : Nat} {x : Int32} (h : BJ t M) : BJ t (wI M k 0 x) := ⟨h.1, h.2.1, by rw [rw_e, if_neg (fun z => by omega)]; exact h.2.2⟩
def MJ1 (t : Nat) (R : (Int32 → aM → Prop) → Nat → Int32 → aM → Prop) : Prop := ∀ {p p' : Int32 → aM → Prop} {a : Int32} {M : aM}, R p 2 a M → BJ t M → (∀ (y0 : Int32) (y1 : aM), BJ t y1 → p y0 y1 → p' y0 y1) → R p' 2 a M
def MJ2 (t : Nat) (R : (Int32 → aM → Prop) → Nat → Int32 → Int32 → aM → Prop) : Prop := ∀ {p p' : Int32 → aM → Prop} {a b : Int32} {M : aM}, R p 2 a b M → BJ t M → (∀ (y0 : Int32) (y1 : aM), BJ t y1 → p y0 y1 → p' y0 y1) → R p' 2 a b M
theorem b_Rd_isFine {post post' : Int32 → Prop} {k0 : Nat} {M : aM} (h : w_Rd_isFine post k0 M) (hp : ∀ (y0 : Int32), post y0 → post' y0) : w_Rd_isFine post' k0 M := by
  unfold w_Rd_isFine at h ⊢
  exact ⟨(fun c1 => ⟨(h.1 c1).1, (hp _ (h.1 c1).2)⟩), (fun c2 => ⟨(h.2 c2).1, (hp _ (h.2 c2).2)⟩)⟩
theorem b_Rd_token {post post' : Int32 → Prop} {k0 : Nat} {M : aM} (h : w_Rd_token post k0 M) (hp : ∀ (y0 : Int32), post y0 → post' y0) : w_Rd_token post' k0 M := by
  unfold w_Rd_token at h ⊢
  exact ⟨h.1, (hp _ h.2)⟩
theorem b_Rd_refuse_J31 {t : Nat} {post post' : aM → Prop} {t0 : Nat} {s1 : Int32} {M : aM} (h : w_Rd_refuse_J31 post 2 t0 s1 M) (hB : BJ t M) (ht0 : t0 = 2 ∨ t < t0) (hp : ∀ (y0 : aM), BJ t y0 → post y0 → post' y0) : w_Rd_refuse_J31 post' 2 t0 s1 M := by
  unfold w_Rd_refuse_J31 at h ⊢
  exact ⟨h.1, (hp _ (BJ_w (by have e9 := hB.1; omega) (BJ_w (by have e9 := hB.1; omega) hB)) h.2)⟩
theorem b_Rd_refuse {t : Nat} {post post' : aM → Prop} {v1 : Int32} {M : aM} (h : w_Rd_refuse post 2 v1 M) (hB : BJ t M) (hp : ∀ (y0 : aM), BJ t y0 → post y0 → post' y0) : w_Rd_refuse post' 2 v1 M := by
  unfold w_Rd_refuse at h ⊢
  exact ⟨(fun c1 => (hp _ hB (h.1 c1))), (fun c2 => ⟨(h.2 c2).1, ⟨(fun c3 => (b_Rd_refuse_J31 ((h.2 c2).2.1 c3) hB (by have e9 := hB.1; omega) hp)), (fun c4 => (b_Rd_refuse_J31 ((h.2 c2).2.2 c4) hB (by have e9 := hB.1; omega) hp))⟩⟩)⟩
theorem b_Rd_step {t : Nat} {post post' : aM → Prop} {M : aM} (h : w_Rd_step post 2 M) (hB : BJ t M) (hp : ∀ (y0 : aM), BJ t y0 → post y0 → post' y0) : w_Rd_step post' 2 M := by
  unfold w_Rd_step at h ⊢
  exact ⟨(fun c1 => (hp _ hB (h.1 c1))), (fun c2 => (hp _ (BJ_w (by have e9 := hB.1; omega) hB) (h.2 c2)))⟩
theorem b_Rd_tokenValue {post post' : Int32 → Prop} {k0 : Nat} {M : aM} (h : w_Rd_tokenValue post k0 M) (hp : ∀ (y0 : Int32), post y0 → post' y0) : w_Rd_tokenValue post' k0 M := by
  unfold w_Rd_tokenValue at h ⊢
  exact ⟨h.1, (hp _ h.2)⟩
theorem b_Rd_skip {t : Nat} {post post' : Int32 → aM → Prop} {v1 : Int32} {M : aM} (h : w_Rd_skip post 2 v1 M) (hB : BJ t M) (hp : ∀ (y0 : Int32) (y1 : aM), BJ t y1 → post y0 y1 → post' y0 y1) : w_Rd_skip post' 2 v1 M := by
  unfold w_Rd_skip at h ⊢
  exact (b_Rd_token h (fun x1 g1 => ⟨(fun c2 => (b_Rd_step (g1.1 c2) hB (fun M2 m3 g3 => ⟨g3.1, (hp _ _ m3 g3.2)⟩))), (fun c4 => ⟨(g1.2 c4).1, (hp _ _ hB (g1.2 c4).2)⟩)⟩))
theorem b_Rd_require {t : Nat} {post post' : aM → Prop} {v1 : Int32} {M : aM} (h : w_Rd_require post 2 v1 M) (hB : BJ t M) (hp : ∀ (y0 : aM), BJ t y0 → post y0 → post' y0) : w_Rd_require post' 2 v1 M := by
  unfold w_Rd_require at h ⊢
  exact (b_Rd_token h (fun x1 g1 => ⟨(fun c2 => (b_Rd_refuse (g1.1 c2) hB (fun M2 m3 g3 => (hp _ m3 g3)))), (fun c4 => (b_Rd_step (g1.2 c4) hB (fun M3 m5 g5 => (hp _ m5 g5))))⟩))
theorem b_Nm_find_J59 {post post' : Int32 → Prop} {K3 K3' : Nat → Int32 → Nat → Int32 → Int32 → Int32 → Prop} {M : aM} {k0 : Nat} {v1 : Int32} {k2 : Nat} {v3 : Int32} {v4 : Int32} {v5 : Int32} {v6 : Int32} (h : w_Nm_find_J59 M post K3 k0 v1 k2 v3 v4 v5 v6) (hp : ∀ (y0 : Int32), post y0 → post' y0) (hK3 : ∀ (y0 : Nat) (y1 : Int32) (y2 : Nat) (y3 : Int32) (y4 : Int32) (y5 : Int32), K3 y0 y1 y2 y3 y4 y5 → K3' y0 y1 y2 y3 y4 y5) : w_Nm_find_J59 M post' K3' k0 v1 k2 v3 v4 v5 v6 := by
  unfold w_Nm_find_J59 at h ⊢
  exact ⟨(fun c1 => (hK3 _ _ _ _ _ _ (h.1 c1))), (fun c2 => ⟨(h.2 c2).1, ⟨(fun c3 => (hK3 _ _ _ _ _ _ ((h.2 c2).2.1 c3))), (fun c4 => (hp _ ((h.2 c2).2.2 c4)))⟩⟩)⟩
theorem b_Nm_find_L12_n {post post' : Int32 → Prop} {K3 K3' : Nat → Int32 → Nat → Int32 → Int32 → Int32 → Prop} {M : aM} (hp : ∀ (y0 : Int32), post y0 → post' y0) (hK3 : ∀ (y0 : Nat) (y1 : Int32) (y2 : Nat) (y3 : Int32) (y4 : Int32) (y5 : Int32), K3 y0 y1 y2 y3 y4 y5 → K3' y0 y1 y2 y3 y4 y5) : ∀ (n : Nat) (k0 : Nat) (v1 : Int32) (k2 : Nat) (v3 : Int32) (v4 : Int32) (v5 : Int32) (v6 : Int32), w_Nm_find_L12 M post K3 n k0 v1 k2 v3 v4 v5 v6 → w_Nm_find_L12 M post' K3' n k0 v1 k2 v3 v4 v5 v6 := by
  intro n
  induction n with
  | zero => intro k0 v1 k2 v3 v4 v5 v6 h; exact h.elim
  | succ n ih =>
    intro k0 v1 k2 v3 v4 v5 v6 h
    unfold w_Nm_find_L12 at h ⊢
    exact ⟨(fun c1 => (b_Nm_find_J59 (h.1 c1) hp hK3)), (fun c2 => ⟨(h.2 c2).1, ⟨(fun c3 => (b_Nm_find_J59 ((h.2 c2).2.1 c3) hp hK3)), (fun c4 => ⟨((h.2 c2).2.2 c4).1, ⟨((h.2 c2).2.2 c4).2.1, ⟨(fun c5 => (b_Nm_find_J59 (((h.2 c2).2.2 c4).2.2.1 c5) hp hK3)), (fun c6 => (ih _ _ _ _ _ _ _ (((h.2 c2).2.2 c4).2.2.2 c6)))⟩⟩⟩)⟩⟩)⟩
theorem b_Nm_find_L12 {post post' : Int32 → Prop} {K3 K3' : Nat → Int32 → Nat → Int32 → Int32 → Int32 → Prop} {M : aM} {n : Nat} {k0 : Nat} {v1 : Int32} {k2 : Nat} {v3 : Int32} {v4 : Int32} {v5 : Int32} {v6 : Int32} (h : w_Nm_find_L12 M post K3 n k0 v1 k2 v3 v4 v5 v6) (hp : ∀ (y0 : Int32), post y0 → post' y0) (hK3 : ∀ (y0 : Nat) (y1 : Int32) (y2 : Nat) (y3 : Int32) (y4 : Int32) (y5 : Int32), K3 y0 y1 y2 y3 y4 y5 → K3' y0 y1 y2 y3 y4 y5) : w_Nm_find_L12 M post' K3' n k0 v1 k2 v3 v4 v5 v6 := b_Nm_find_L12_n hp hK3 n k0 v1 k2 v3 v4 v5 v6 h
theorem b_Nm_find_L3_n {post post' : Int32 → Prop} {M : aM} (hp : ∀ (y0 : Int32), post y0 → post' y0) : ∀ (n : Nat) (k0 : Nat) (v1 : Int32) (k2 : Nat) (v3 : Int32) (v4 : Int32) (v5 : Int32), w_Nm_find_L3 M post n k0 v1 k2 v3 v4 v5 → w_Nm_find_L3 M post' n k0 v1 k2 v3 v4 v5 := by
  intro n
  induction n with
  | zero => intro k0 v1 k2 v3 v4 v5 h; exact h.elim
  | succ n ih =>
    intro k0 v1 k2 v3 v4 v5 h
    unfold w_Nm_find_L3 at h ⊢
    exact ⟨(fun c1 => (hp _ (h.1 c1))), (fun c2 => (match (h.2 c2) with | ⟨n3, h3⟩ => ⟨n3, (b_Nm_find_L12 h3 hp ih)⟩))⟩
theorem b_Nm_find_L3 {post post' : Int32 → Prop} {M : aM} {n : Nat} {k0 : Nat} {v1 : Int32} {k2 : Nat} {v3 : Int32} {v4 : Int32} {v5 : Int32} (h : w_Nm_find_L3 M post n k0 v1 k2 v3 v4 v5) (hp : ∀ (y0 : Int32), post y0 → post' y0) : w_Nm_find_L3 M post' n k0 v1 k2 v3 v4 v5 := b_Nm_find_L3_n hp n k0 v1 k2 v3 v4 v5 h
theorem b_Nm_find {post post' : Int32 → Prop} {k0 : Nat} {v1 : Int32} {k2 : Nat} {v3 : Int32} {v4 : Int32} {M : aM} (h : w_Nm_find post k0 v1 k2 v3 v4 M) (hp : ∀ (y0 : Int32), post y0 → post' y0) : w_Nm_find post' k0 v1 k2 v3 v4 M := by
  unfold w_Nm_find at h ⊢
  exact (match h with | ⟨n1, h1⟩ => ⟨n1, (b_Nm_find_L3 h1 hp)⟩)
theorem b_Nm_put_L16_n {t : Nat} {post post' : aM → Prop} (hp : ∀ (y0 : aM), BJ t y0 → post y0 → post' y0) : ∀ (n : Nat) (k0 : Nat) (v1 : Int32) (k2 : Nat) (v3 : Int32) (v5 : Int32) (M : aM), (t < k0) → BJ t M → w_Nm_put_L16 post n k0 v1 k2 v3 v5 M → w_Nm_put_L16 post' n k0 v1 k2 v3 v5 M := by
  intro n
  induction n with
  | zero => intro k0 v1 k2 v3 v5 M hk0 hB h; exact h.elim
  | succ n ih =>
    intro k0 v1 k2 v3 v5 M hk0 hB h
    unfold w_Nm_put_L16 at h ⊢
    exact ⟨h.1, ⟨(fun c1 => (hp _ hB (h.2.1 c1))), (fun c2 => ⟨(h.2.2 c2).1, ⟨(h.2.2 c2).2.1, (ih _ _ _ _ _ _ hk0 (BJ_w (by have e9 := hB.1; omega) hB) (h.2.2 c2).2.2)⟩⟩)⟩⟩
theorem b_Nm_put_L16 {t : Nat} {post post' : aM → Prop} {n : Nat} {k0 : Nat} {v1 : Int32} {k2 : Nat} {v3 : Int32} {v5 : Int32} {M : aM} (h : w_Nm_put_L16 post n k0 v1 k2 v3 v5 M) (hB : BJ t M) (hk0 : t < k0) (hp : ∀ (y0 : aM), BJ t y0 → post y0 → post' y0) : w_Nm_put_L16 post' n k0 v1 k2 v3 v5 M := b_Nm_put_L16_n hp n k0 v1 k2 v3 v5 M hk0 hB h
theorem b_Nm_put {t : Nat} {post post' : aM → Prop} {k0 : Nat} {v1 : Int32} {k2 : Nat} {v3 : Int32} {v4 : Int32} {M : aM} (h : w_Nm_put post k0 v1 k2 v3 v4 M) (hB : BJ t M) (hk0 : t < k0) (hp : ∀ (y0 : aM), BJ t y0 → post y0 → post' y0) : w_Nm_put post' k0 v1 k2 v3 v4 M := by
  unfold w_Nm_put at h ⊢
  exact ⟨h.1, (match h.2 with | ⟨n1, h1⟩ => ⟨n1, (b_Nm_put_L16 h1 (BJ_w (by have e9 := hB.1; omega) hB) hk0 hp)⟩)⟩
theorem b_Rd_readAttribute_J154 {t : Nat} {post post' : aM → Prop} {M : aM} (h : w_Rd_readAttribute_J154 post 2 M) (hB : BJ t M) (hp : ∀ (y0 : aM), BJ t y0 → post y0 → post' y0) : w_Rd_readAttribute_J154 post' 2 M := by
  unfold w_Rd_readAttribute_J154 at h ⊢
  exact (b_Rd_refuse h hB (fun M1 m1 g1 => (hp _ m1 g1)))
theorem b_Rd_readAttribute_J213 {t : Nat} {post post' : aM → Prop} {M : aM} (h : w_Rd_readAttribute_J213 post 2 M) (hB : BJ t M) (hp : ∀ (y0 : aM), BJ t y0 → post y0 → post' y0) : w_Rd_readAttribute_J213 post' 2 M := by
  unfold w_Rd_readAttribute_J213 at h ⊢
  exact (b_Rd_require h hB (fun M1 m1 g1 => (hp _ m1 g1)))
theorem b_Rd_readAttribute_J203 {t : Nat} {post post' : aM → Prop} {k1 : Nat} {M : aM} (h : w_Rd_readAttribute_J203 post 2 k1 M) (hB : BJ t M) (hp : ∀ (y0 : aM), BJ t y0 → post y0 → post' y0) : w_Rd_readAttribute_J203 post' 2 k1 M := by
  unfold w_Rd_readAttribute_J203 at h ⊢
  exact (b_Rd_readAttribute_J213 h (BJ_0 hB) hp)
theorem b_Rd_readAttribute_J196 {t : Nat} {post post' : aM → Prop} {k1 : Nat} {v2 : Int32} {M : aM} (h : w_Rd_readAttribute_J196 post 2 k1 v2 M) (hB : BJ t M) (hk1 : t < k1) (hp : ∀ (y0 : aM), BJ t y0 → post y0 → post' y0) : w_Rd_readAttribute_J196 post' 2 k1 v2 M := by
  unfold w_Rd_readAttribute_J196 at h ⊢
  exact ⟨h.1, (b_Rd_readAttribute_J203 h.2 (BJ_w (by have e9 := hB.1; omega) hB) hp)⟩
theorem b_Rd_readAttribute {t : Nat} {post post' : aM → Prop} {M : aM} (h : w_Rd_readAttribute post 2 M) (hB : BJ t M) (hp : ∀ (y0 : aM), BJ t y0 → post y0 → post' y0) : w_Rd_readAttribute post' 2 M := by
  unfold w_Rd_readAttribute at h ⊢
  exact ⟨(fun c1 => (b_Rd_step (h.1 c1) hB (fun M1 m2 g2 => (b_Rd_token g2 (fun x2 g3 => ⟨(fun c4 => ⟨(g3.1 c4).1, (b_Rd_tokenValue (g3.1 c4).2 (fun x3 g5 => (b_Nm_find g5 (fun x4 g6 => ⟨(fun c7 => ⟨(g6.1 c7).1, (b_Rd_tokenValue (g6.1 c7).2 (fun x5 g8 => (b_Nm_put g8 m2 (by have e9 := m2.1; have e0 := show rR M 2 3 = t from hB.2.1; omega) (fun M6 m9 g9 => (b_Rd_step g9 m9 (fun M7 m10 g10 => (b_Rd_token g10 (fun x8 g11 => ⟨(fun c12 => (b_Rd_tokenValue (g11.1 c12) (fun x9 g13 => ⟨(fun c14 => (b_Rd_readAttribute_J154 (g13.1 c14) m10 hp)), (fun c15 => (b_Rd_tokenValue (g13.2 c15) (fun x10 g16 => ⟨(fun c17 => (b_Rd_tokenValue (g16.1 c17) (fun x11 g18 => ⟨g18.1, (b_Rd_step g18.2 (BJ_w (by have e9 := m10.1; have e0 := show rR M 2 3 = t from hB.2.1; omega) m10) (fun M12 m19 g19 => (b_Rd_skip g19 m19 (fun x13 M13 m20 g20 => ⟨g20.1, (b_Rd_skip g20.2 (BJ_w (by have e9 := m20.1; have e0 := show rR M 2 3 = t from hB.2.1; omega) m20) (fun x14 M14 m21 g21 => ⟨g21.1, (b_Rd_readAttribute_J196 g21.2 (BJ_w (by have e9 := m21.1; have e0 := show rR M 2 3 = t from hB.2.1; omega) m21) (by have e9 := m21.1; have e0 := show rR M 2 3 = t from hB.2.1; omega) hp)⟩))⟩))))⟩))), (fun c22 => (b_Rd_readAttribute_J154 (g16.2 c22) m10 hp))⟩)))⟩))), (fun c23 => (b_Rd_refuse (g11.2 c23) m10 (fun M15 m24 g24 => (hp _ m24 g24))))⟩))))))))⟩), (fun c25 => (b_Rd_refuse (g6.2 c25) m2 (fun M16 m26 g26 => (hp _ m26 g26))))⟩))))⟩), (fun c27 => (b_Rd_refuse (g3.2 c27) m2 (fun M17 m28 g28 => (hp _ m28 g28))))⟩))))), (fun c29 => (b_Rd_refuse (h.2 c29) hB (fun M18 m30 g30 => (hp _ m30 g30))))⟩
theorem b_Rd_readAttributes_L2_n {t : Nat} {post post' : aM → Prop} (hp : ∀ (y0 : aM), BJ t y0 → post y0 → post' y0) : ∀ (n : Nat) (v1 : Int32) (M : aM), BJ t M → w_Rd_readAttributes_L2 post n 2 v1 M → w_Rd_readAttributes_L2 post' n 2 v1 M := by
  intro n
  induction n with
  | zero => intro v1 M hB h; exact h.elim
  | succ n ih =>
    intro v1 M hB h
    unfold w_Rd_readAttributes_L2 at h ⊢
    exact ⟨(fun c1 => (hp _ hB (h.1 c1))), (fun c2 => (b_Rd_isFine (h.2 c2) (fun x1 g3 => ⟨(fun c4 => (hp _ hB (g3.1 c4))), (fun c5 => (b_Rd_token (g3.2 c5) (fun x2 g6 => ⟨(fun c7 => (hp _ hB (g6.1 c7))), (fun c8 => (b_Rd_readAttribute (g6.2 c8) hB (fun M3 m9 g9 => (ih _ _ m9 g9))))⟩)))⟩)))⟩
theorem b_Rd_readAttributes_L2 {t : Nat} {post post' : aM → Prop} {n : Nat} {v1 : Int32} {M : aM} (h : w_Rd_readAttributes_L2 post n 2 v1 M) (hB : BJ t M) (hp : ∀ (y0 : aM), BJ t y0 → post y0 → post' y0) : w_Rd_readAttributes_L2 post' n 2 v1 M := b_Rd_readAttributes_L2_n hp n v1 M hB h
theorem b_Rd_readAttributes {t : Nat} {post post' : aM → Prop} {M : aM} (h : w_Rd_readAttributes post 2 M) (hB : BJ t M) (hp : ∀ (y0 : aM), BJ t y0 → post y0 → post' y0) : w_Rd_readAttributes post' 2 M := by
  unfold w_Rd_readAttributes at h ⊢
  exact (match h with | ⟨n1, h1⟩ => ⟨n1, (b_Rd_readAttributes_L2 h1 hB hp)⟩)
theorem b_Nd_addChild_J21 {t : Nat} {post post' : aM → Prop} {k0 : Nat} {v1 : Int32} {v2 : Int32} {M : aM} (h : w_Nd_addChild_J21 post k0 v1 v2 M) (hB : BJ t M) (hk0 : t < k0) (hp : ∀ (y0 : aM), BJ t y0 → post y0 → post' y0) : w_Nd_addChild_J21 post' k0 v1 v2 M := by
  unfold w_Nd_addChild_J21 at h ⊢
  exact ⟨h.1, ⟨h.2.1, ⟨h.2.2.1, (hp _ (BJ_w (by have e9 := hB.1; omega) (BJ_w (by have e9 := hB.1; omega) hB)) h.2.2.2)⟩⟩⟩
theorem b_Nd_addChild {t : Nat} {post post' : aM → Prop} {k0 : Nat} {v1 : Int32} {v2 : Int32} {M : aM} (h : w_Nd_addChild post k0 v1 v2 M) (hB : BJ t M) (hk0 : t < k0) (hp : ∀ (y0 : aM), BJ t y0 → post y0 → post' y0) : w_Nd_addChild post' k0 v1 v2 M := by
  unfold w_Nd_addChild at h ⊢
  exact ⟨h.1, ⟨(fun c1 => (b_Nd_addChild_J21 (h.2.1 c1) hB hk0 hp)), (fun c2 => ⟨(h.2.2 c2).1, ⟨(h.2.2 c2).2.1, (b_Nd_addChild_J21 (h.2.2 c2).2.2 (BJ_w (by have e9 := hB.1; omega) hB) hk0 hp)⟩⟩)⟩⟩
theorem b_Nd_addTo_J74 {t : Nat} {post post' : aM → Prop} {k0 : Nat} {v1 : Int32} {v3 : Int32} {M : aM} (h : w_Nd_addTo_J74 post k0 v1 v3 M) (hB : BJ t M) (hk0 : t < k0) (hp : ∀ (y0 : aM), BJ t y0 → post y0 → post' y0) : w_Nd_addTo_J74 post' k0 v1 v3 M := by
  unfold w_Nd_addTo_J74 at h ⊢
  exact ⟨(fun c1 => (hp _ hB (h.1 c1))), (fun c2 => (b_Nd_addChild (h.2 c2) hB hk0 (fun M1 m3 g3 => (hp _ m3 g3))))⟩
theorem b_Nd_addTo_J64 {t : Nat} {post post' : aM → Prop} {k0 : Nat} {v1 : Int32} {v3 : Int32} {M : aM} (h : w_Nd_addTo_J64 post k0 v1 v3 M) (hB : BJ t M) (hk0 : t < k0) (hp : ∀ (y0 : aM), BJ t y0 → post y0 → post' y0) : w_Nd_addTo_J64 post' k0 v1 v3 M := by
  unfold w_Nd_addTo_J64 at h ⊢
  exact ⟨h.1, (b_Nd_addTo_J74 h.2 (BJ_w (by have e9 := hB.1; omega) hB) hk0 hp)⟩
theorem b_Nd_addTo_J57 {t : Nat} {post post' : aM → Prop} {k0 : Nat} {v1 : Int32} {v3 : Int32} {M : aM} (h : w_Nd_addTo_J57 post k0 v1 v3 M) (hB : BJ t M) (hk0 : t < k0) (hp : ∀ (y0 : aM), BJ t y0 → post y0 → post' y0) : w_Nd_addTo_J57 post' k0 v1 v3 M := by
  unfold w_Nd_addTo_J57 at h ⊢
  exact ⟨h.1, (b_Nd_addTo_J64 h.2 (BJ_w (by have e9 := hB.1; omega) hB) hk0 hp)⟩
theorem b_Nd_addTo_J50 {t : Nat} {post post' : aM → Prop} {k0 : Nat} {v1 : Int32} {v3 : Int32} {M : aM} (h : w_Nd_addTo_J50 post k0 v1 v3 M) (hB : BJ t M) (hk0 : t < k0) (hp : ∀ (y0 : aM), BJ t y0 → post y0 → post' y0) : w_Nd_addTo_J50 post' k0 v1 v3 M := by
  unfold w_Nd_addTo_J50 at h ⊢
  exact ⟨h.1, (b_Nd_addTo_J57 h.2 (BJ_w (by have e9 := hB.1; omega) hB) hk0 hp)⟩
theorem b_Nd_addTo_J43 {t : Nat} {post post' : aM → Prop} {k0 : Nat} {v1 : Int32} {v3 : Int32} {M : aM} (h : w_Nd_addTo_J43 post k0 v1 v3 M) (hB : BJ t M) (hk0 : t < k0) (hp : ∀ (y0 : aM), BJ t y0 → post y0 → post' y0) : w_Nd_addTo_J43 post' k0 v1 v3 M := by
  unfold w_Nd_addTo_J43 at h ⊢
  exact ⟨h.1, (b_Nd_addTo_J50 h.2 (BJ_w (by have e9 := hB.1; omega) hB) hk0 hp)⟩
theorem b_Nd_addTo_J36 {t : Nat} {post post' : aM → Prop} {k0 : Nat} {v1 : Int32} {v3 : Int32} {M : aM} (h : w_Nd_addTo_J36 post k0 v1 v3 M) (hB : BJ t M) (hk0 : t < k0) (hp : ∀ (y0 : aM), BJ t y0 → post y0 → post' y0) : w_Nd_addTo_J36 post' k0 v1 v3 M := by
  unfold w_Nd_addTo_J36 at h ⊢
  exact ⟨h.1, (b_Nd_addTo_J43 h.2 (BJ_w (by have e9 := hB.1; omega) hB) hk0 hp)⟩
theorem b_Nd_addTo_J29 {t : Nat} {post post' : aM → Prop} {k0 : Nat} {v1 : Int32} {v3 : Int32} {M : aM} (h : w_Nd_addTo_J29 post k0 v1 v3 M) (hB : BJ t M) (hk0 : t < k0) (hp : ∀ (y0 : aM), BJ t y0 → post y0 → post' y0) : w_Nd_addTo_J29 post' k0 v1 v3 M := by
  unfold w_Nd_addTo_J29 at h ⊢
  exact ⟨h.1, (b_Nd_addTo_J36 h.2 (BJ_w (by have e9 := hB.1; omega) hB) hk0 hp)⟩
theorem b_Nd_addTo_J22 {t : Nat} {post post' : aM → Prop} {k0 : Nat} {v1 : Int32} {v3 : Int32} {M : aM} (h : w_Nd_addTo_J22 post k0 v1 v3 M) (hB : BJ t M) (hk0 : t < k0) (hp : ∀ (y0 : aM), BJ t y0 → post y0 → post' y0) : w_Nd_addTo_J22 post' k0 v1 v3 M := by
  unfold w_Nd_addTo_J22 at h ⊢
  exact ⟨h.1, (b_Nd_addTo_J29 h.2 (BJ_w (by have e9 := hB.1; omega) hB) hk0 hp)⟩
theorem b_Nd_addTo_J15 {t : Nat} {post post' : aM → Prop} {k0 : Nat} {v1 : Int32} {v2 : Int32} {v3 : Int32} {M : aM} (h : w_Nd_addTo_J15 post k0 v1 v2 v3 M) (hB : BJ t M) (hk0 : t < k0) (hp : ∀ (y0 : aM), BJ t y0 → post y0 → post' y0) : w_Nd_addTo_J15 post' k0 v1 v2 v3 M := by
  unfold w_Nd_addTo_J15 at h ⊢
  exact ⟨h.1, (b_Nd_addTo_J22 h.2 (BJ_w (by have e9 := hB.1; omega) hB) hk0 hp)⟩
theorem b_Nd_addTo {t : Nat} {post post' : aM → Prop} {k0 : Nat} {v1 : Int32} {v2 : Int32} {M : aM} (h : w_Nd_addTo post k0 v1 v2 M) (hB : BJ t M) (hk0 : t < k0) (hp : ∀ (y0 : aM), BJ t y0 → post y0 → post' y0) : w_Nd_addTo post' k0 v1 v2 M := by
  unfold w_Nd_addTo at h ⊢
  exact (b_Nd_addTo_J15 h (BJ_0 hB) hk0 hp)
theorem b_Rd_addNode {t : Nat} {post post' : Int32 → aM → Prop} {v1 : Int32} {M : aM} (h : w_Rd_addNode post 2 v1 M) (hB : BJ t M) (hp : ∀ (y0 : Int32) (y1 : aM), BJ t y1 → post y0 y1 → post' y0 y1) : w_Rd_addNode post' 2 v1 M := by
  unfold w_Rd_addNode at h ⊢
  exact ⟨(fun c1 => (b_Nd_addTo (h.1 c1) hB (by have e9 := hB.1; have e0 := show rR M 2 3 = t from hB.2.1; omega) (fun M1 m2 g2 => (hp _ _ m2 g2)))), (fun c3 => (b_Rd_refuse (h.2 c3) hB (fun M2 m4 g4 => (hp _ _ m4 g4))))⟩
theorem b_Rd_readName {t : Nat} {post post' : Int32 → aM → Prop} {v1 : Int32} {M : aM} (h : w_Rd_readName post 2 v1 M) (hB : BJ t M) (hp : ∀ (y0 : Int32) (y1 : aM), BJ t y1 → post y0 y1 → post' y0 y1) : w_Rd_readName post' 2 v1 M := by
  unfold w_Rd_readName at h ⊢
  exact (b_Rd_token h (fun x1 g1 => ⟨(fun c2 => ⟨(g1.1 c2).1, (b_Rd_tokenValue (g1.1 c2).2 (fun x2 g3 => (b_Nm_put g3 hB (by have e9 := hB.1; have e0 := show rR M 2 3 = t from hB.2.1; omega) (fun M3 m4 g4 => (b_Rd_step g4 m4 (fun M4 m5 g5 => ⟨g5.1, (hp _ _ m5 g5.2)⟩))))))⟩), (fun c6 => ⟨(g1.2 c6).1, (hp _ _ hB (g1.2 c6).2)⟩)⟩))
theorem b_Pt_add_J60 {t : Nat} {post post' : aM → Prop} {k0 : Nat} {M : aM} (h : w_Pt_add_J60 post k0 M) (hB : BJ t M) (hp : ∀ (y0 : aM), BJ t y0 → post y0 → post' y0) : w_Pt_add_J60 post' k0 M := by
  unfold w_Pt_add_J60 at h ⊢
  exact (hp _ (BJ_0 hB) h)
theorem b_Pt_add_J50 {t : Nat} {post post' : aM → Prop} {k0 : Nat} {M : aM} (h : w_Pt_add_J50 post k0 M) (hB : BJ t M) (hk0 : t < k0) (hp : ∀ (y0 : aM), BJ t y0 → post y0 → post' y0) : w_Pt_add_J50 post' k0 M := by
  unfold w_Pt_add_J50 at h ⊢
  exact ⟨h.1, (b_Pt_add_J60 h.2 (BJ_w (by have e9 := hB.1; omega) hB) hp)⟩
theorem b_Pt_add_J40 {t : Nat} {post post' : aM → Prop} {k0 : Nat} {M : aM} (h : w_Pt_add_J40 post k0 M) (hB : BJ t M) (hk0 : t < k0) (hp : ∀ (y0 : aM), BJ t y0 → post y0 → post' y0) : w_Pt_add_J40 post' k0 M := by
  unfold w_Pt_add_J40 at h ⊢
  exact ⟨h.1, (b_Pt_add_J50 h.2 (BJ_w (by have e9 := hB.1; omega) hB) hk0 hp)⟩
theorem b_Pt_add_J30 {t : Nat} {post post' : aM → Prop} {k0 : Nat} {M : aM} (h : w_Pt_add_J30 post k0 M) (hB : BJ t M) (hk0 : t < k0) (hp : ∀ (y0 : aM), BJ t y0 → post y0 → post' y0) : w_Pt_add_J30 post' k0 M := by
  unfold w_Pt_add_J30 at h ⊢
  exact ⟨h.1, (b_Pt_add_J40 h.2 (BJ_w (by have e9 := hB.1; omega) hB) hk0 hp)⟩
theorem b_Pt_add_J20 {t : Nat} {post post' : aM → Prop} {k0 : Nat} {M : aM} (h : w_Pt_add_J20 post k0 M) (hB : BJ t M) (hk0 : t < k0) (hp : ∀ (y0 : aM), BJ t y0 → post y0 → post' y0) : w_Pt_add_J20 post' k0 M := by
  unfold w_Pt_add_J20 at h ⊢
  exact ⟨h.1, (b_Pt_add_J30 h.2 (BJ_w (by have e9 := hB.1; omega) hB) hk0 hp)⟩
theorem b_Pt_add_J10 {t : Nat} {post post' : aM → Prop} {k0 : Nat} {M : aM} (h : w_Pt_add_J10 post k0 M) (hB : BJ t M) (hk0 : t < k0) (hp : ∀ (y0 : aM), BJ t y0 → post y0 → post' y0) : w_Pt_add_J10 post' k0 M := by
  unfold w_Pt_add_J10 at h ⊢
  exact ⟨h.1, (b_Pt_add_J20 h.2 (BJ_w (by have e9 := hB.1; omega) hB) hk0 hp)⟩
theorem b_Pt_add {t : Nat} {post post' : aM → Prop} {k0 : Nat} {v1 : Int32} {M : aM} (h : w_Pt_add post k0 v1 M) (hB : BJ t M) (hk0 : t < k0) (hp : ∀ (y0 : aM), BJ t y0 → post y0 → post' y0) : w_Pt_add post' k0 v1 M := by
  unfold w_Pt_add at h ⊢
  exact ⟨h.1, (b_Pt_add_J10 h.2 (BJ_w (by have e9 := hB.1; omega) hB) hk0 hp)⟩
theorem b_Rd_addPart {t : Nat} {post post' : Int32 → aM → Prop} {v1 : Int32} {M : aM} (h : w_Rd_addPart post 2 v1 M) (hB : BJ t M) (hp : ∀ (y0 : Int32) (y1 : aM), BJ t y1 → post y0 y1 → post' y0 y1) : w_Rd_addPart post' 2 v1 M := by
  unfold w_Rd_addPart at h ⊢
  exact ⟨(fun c1 => (b_Pt_add (h.1 c1) hB (by have e9 := hB.1; have e0 := show rR M 2 3 = t from hB.2.1; omega) (fun M1 m2 g2 => (hp _ _ m2 g2)))), (fun c3 => (b_Rd_refuse (h.2 c3) hB (fun M2 m4 g4 => (hp _ _ m4 g4))))⟩
theorem b_Rd_readNot_r {t : Nat} {post post' : Int32 → aM → Prop} {R_Rd_readJoined : (Int32 → aM → Prop) → Nat → Int32 → Int32 → aM → Prop} {R_Rd_readPart : (Int32 → aM → Prop) → Nat → Int32 → aM → Prop} {R_Rd_readNot : (Int32 → aM → Prop) → Nat → Int32 → aM → Prop} {R_Rd_readBracket : (Int32 → aM → Prop) → Nat → Int32 → aM → Prop} {v1 : Int32} {M : aM} (h : w_Rd_readNot_r R_Rd_readJoined R_Rd_readPart R_Rd_readNot R_Rd_readBracket post 2 v1 M) (hB : BJ t M) (hR_Rd_readJoined : MJ2 t R_Rd_readJoined) (hR_Rd_readPart : MJ1 t R_Rd_readPart) (hR_Rd_readNot : MJ1 t R_Rd_readNot) (hR_Rd_readBracket : MJ1 t R_Rd_readBracket) (hp : ∀ (y0 : Int32) (y1 : aM), BJ t y1 → post y0 y1 → post' y0 y1) : w_Rd_readNot_r R_Rd_readJoined R_Rd_readPart R_Rd_readNot R_Rd_readBracket post' 2 v1 M := by
  unfold w_Rd_readNot_r at h ⊢
  exact ⟨(fun c1 => (b_Rd_addPart (h.1 c1) hB (fun x1 M1 m2 g2 => ⟨(fun c3 => (b_Rd_step (g2.1 c3) m2 (fun M2 m4 g4 => (hR_Rd_readPart g4 m4 (fun x3 M3 m5 g5 => ⟨g5.1, ⟨g5.2.1, (hp _ _ (BJ_w (by have e9 := m5.1; have e0 := show rR (wI M3 (((rR M2 2 3) + 24) + 5) x1.toNatClampNeg x3) 2 3 = t from m5.2.1; omega) (BJ_w (by have e9 := m5.1; have e0 := show rR M2 2 3 = t from m4.2.1; omega) m5)) g5.2.2)⟩⟩))))), (fun c6 => (hp _ _ m2 (g2.2 c6)))⟩))), (fun c7 => (b_Rd_refuse (h.2 c7) hB (fun M4 m8 g8 => (hp _ _ m8 g8))))⟩
theorem b_Rd_readBracket_r {t : Nat} {post post' : Int32 → aM → Prop} {R_Rd_readJoined : (Int32 → aM → Prop) → Nat → Int32 → Int32 → aM → Prop} {R_Rd_readPart : (Int32 → aM → Prop) → Nat → Int32 → aM → Prop} {R_Rd_readNot : (Int32 → aM → Prop) → Nat → Int32 → aM → Prop} {R_Rd_readBracket : (Int32 → aM → Prop) → Nat → Int32 → aM → Prop} {v1 : Int32} {M : aM} (h : w_Rd_readBracket_r R_Rd_readJoined R_Rd_readPart R_Rd_readNot R_Rd_readBracket post 2 v1 M) (hB : BJ t M) (hR_Rd_readJoined : MJ2 t R_Rd_readJoined) (hR_Rd_readPart : MJ1 t R_Rd_readPart) (hR_Rd_readNot : MJ1 t R_Rd_readNot) (hR_Rd_readBracket : MJ1 t R_Rd_readBracket) (hp : ∀ (y0 : Int32) (y1 : aM), BJ t y1 → post y0 y1 → post' y0 y1) : w_Rd_readBracket_r R_Rd_readJoined R_Rd_readPart R_Rd_readNot R_Rd_readBracket post' 2 v1 M := by
  unfold w_Rd_readBracket_r at h ⊢
  exact ⟨(fun c1 => (b_Rd_step (h.1 c1) hB (fun M1 m2 g2 => (hR_Rd_readJoined g2 m2 (fun x2 M2 m3 g3 => (b_Rd_isFine g3 (fun x3 g4 => ⟨(fun c5 => (hp _ _ m3 (g4.1 c5))), (fun c6 => (b_Rd_require (g4.2 c6) m3 (fun M4 m7 g7 => (hp _ _ m7 g7))))⟩))))))), (fun c8 => (b_Rd_refuse (h.2 c8) hB (fun M5 m9 g9 => (hp _ _ m9 g9))))⟩
theorem b_Rd_attributeHere {t : Nat} {post post' : Int32 → aM → Prop} {M : aM} (h : w_Rd_attributeHere post 2 M) (hB : BJ t M) (hp : ∀ (y0 : Int32) (y1 : aM), BJ t y1 → post y0 y1 → post' y0 y1) : w_Rd_attributeHere post' 2 M := by
  unfold w_Rd_attributeHere at h ⊢
  exact (b_Rd_token h (fun x1 g1 => ⟨(fun c2 => ⟨(g1.1 c2).1, (b_Rd_tokenValue (g1.1 c2).2 (fun x2 g3 => (b_Nm_find g3 (fun x3 g4 => ⟨(fun c5 => (hp _ _ hB (g4.1 c5))), (fun c6 => (b_Rd_refuse (g4.2 c6) hB (fun M4 m7 g7 => (hp _ _ m7 g7))))⟩))))⟩), (fun c8 => (b_Rd_refuse (g1.2 c8) hB (fun M5 m9 g9 => (hp _ _ m9 g9))))⟩))
theorem b_Rd_readNumber {t : Nat} {post post' : Int32 → aM → Prop} {v1 : Int32} {M : aM} (h : w_Rd_readNumber post 2 v1 M) (hB : BJ t M) (hp : ∀ (y0 : Int32) (y1 : aM), BJ t y1 → post y0 y1 → post' y0 y1) : w_Rd_readNumber post' 2 v1 M := by
  unfold w_Rd_readNumber at h ⊢
  exact (b_Rd_step h hB (fun M1 m1 g1 => (b_Rd_tokenValue g1 (fun x2 g2 => (b_Rd_token g2 (fun x3 g3 => ⟨(fun c4 => ⟨(fun c5 => (b_Rd_step ((g3.1 c4).1 c5) m1 (fun M4 m6 g6 => (hp _ _ m6 g6)))), (fun c7 => (b_Rd_refuse ((g3.1 c4).2 c7) m1 (fun M5 m8 g8 => (hp _ _ m8 g8))))⟩), (fun c9 => (b_Rd_refuse (g3.2 c9) m1 (fun M6 m10 g10 => (hp _ _ m10 g10))))⟩))))))
theorem b_Rd_readList_J122 {t : Nat} {post post' : Int32 → aM → Prop} {v2 : Int32} {M : aM} (h : w_Rd_readList_J122 post 2 v2 M) (hB : BJ t M) (hp : ∀ (y0 : Int32) (y1 : aM), BJ t y1 → post y0 y1 → post' y0 y1) : w_Rd_readList_J122 post' 2 v2 M := by
  unfold w_Rd_readList_J122 at h ⊢
  exact (b_Rd_step h hB (fun M1 m1 g1 => (hp _ _ m1 g1)))
theorem b_Rd_readList_J108 {t : Nat} {post post' : Int32 → aM → Prop} {v2 : Int32} {M : aM} (h : w_Rd_readList_J108 post 2 v2 M) (hB : BJ t M) (hp : ∀ (y0 : Int32) (y1 : aM), BJ t y1 → post y0 y1 → post' y0 y1) : w_Rd_readList_J108 post' 2 v2 M := by
  unfold w_Rd_readList_J108 at h ⊢
  exact (b_Rd_token h (fun x1 g1 => ⟨(fun c2 => (b_Rd_readList_J122 (g1.1 c2) hB hp)), (fun c3 => (b_Rd_refuse (g1.2 c3) hB (fun M2 m4 g4 => (b_Rd_readList_J122 g4 m4 hp))))⟩))
theorem b_Rd_readList_J72 {t : Nat} {post post' : Int32 → aM → Prop} {M : aM} (h : w_Rd_readList_J72 post 2 M) (hB : BJ t M) (hp : ∀ (y0 : Int32) (y1 : aM), BJ t y1 → post y0 y1 → post' y0 y1) : w_Rd_readList_J72 post' 2 M := by
  unfold w_Rd_readList_J72 at h ⊢
  exact (b_Rd_refuse h hB (fun M1 m1 g1 => (hp _ _ m1 g1)))
theorem b_Rd_readList_L24_n {t : Nat} {post post' : Int32 → aM → Prop} (hp : ∀ (y0 : Int32) (y1 : aM), BJ t y1 → post y0 y1 → post' y0 y1) : ∀ (n : Nat) (v1 : Int32) (v2 : Int32) (v3 : Int32) (M : aM), BJ t M → w_Rd_readList_L24 post n 2 v1 v2 v3 M → w_Rd_readList_L24 post' n 2 v1 v2 v3 M := by
  intro n
  induction n with
  | zero => intro v1 v2 v3 M hB h; exact h.elim
  | succ n ih =>
    intro v1 v2 v3 M hB h
    unfold w_Rd_readList_L24 at h ⊢
    exact ⟨(fun c1 => (b_Rd_readList_J108 (h.1 c1) hB hp)), (fun c2 => (b_Rd_step (h.2 c2) hB (fun M1 m3 g3 => (b_Rd_token g3 (fun x2 g4 => ⟨(fun c5 => (b_Rd_tokenValue (g4.1 c5) (fun x3 g6 => ⟨(fun c7 => (b_Rd_readList_J72 (g6.1 c7) m3 hp)), (fun c8 => ⟨(fun c9 => (b_Rd_step ((g6.2 c8).1 c9) m3 (fun M4 m10 g10 => (b_Rd_token g10 (fun x5 g11 => ⟨(fun c12 => (ih _ _ _ _ m10 (g11.1 c12))), (fun c13 => (b_Rd_readList_J108 (g11.2 c13) m10 hp))⟩))))), (fun c14 => (b_Rd_readList_J72 ((g6.2 c8).2 c14) m3 hp))⟩)⟩))), (fun c15 => (b_Rd_refuse (g4.2 c15) m3 (fun M6 m16 g16 => (hp _ _ m16 g16))))⟩)))))⟩
theorem b_Rd_readList_L24 {t : Nat} {post post' : Int32 → aM → Prop} {n : Nat} {v1 : Int32} {v2 : Int32} {v3 : Int32} {M : aM} (h : w_Rd_readList_L24 post n 2 v1 v2 v3 M) (hB : BJ t M) (hp : ∀ (y0 : Int32) (y1 : aM), BJ t y1 → post y0 y1 → post' y0 y1) : w_Rd_readList_L24 post' n 2 v1 v2 v3 M := b_Rd_readList_L24_n hp n v1 v2 v3 M hB h
theorem b_Rd_readList {t : Nat} {post post' : Int32 → aM → Prop} {v1 : Int32} {M : aM} (h : w_Rd_readList post 2 v1 M) (hB : BJ t M) (hp : ∀ (y0 : Int32) (y1 : aM), BJ t y1 → post y0 y1 → post' y0 y1) : w_Rd_readList post' 2 v1 M := by
  unfold w_Rd_readList at h ⊢
  exact (b_Rd_step h hB (fun M1 m1 g1 => (b_Rd_token g1 (fun x2 g2 => ⟨(fun c3 => (match (g2.1 c3) with | ⟨n4, h4⟩ => ⟨n4, (b_Rd_readList_L24 h4 m1 hp)⟩)), (fun c5 => (b_Rd_refuse (g2.2 c5) m1 (fun M3 m6 g6 => (hp _ _ m6 g6))))⟩))))
theorem b_Rd_readTest_J21 {t : Nat} {post post' : Int32 → aM → Prop} {v1 : Int32} {s0 : Int32} {M : aM} (h : w_Rd_readTest_J21 post 2 v1 s0 M) (hB : BJ t M) (hp : ∀ (y0 : Int32) (y1 : aM), BJ t y1 → post y0 y1 → post' y0 y1) : w_Rd_readTest_J21 post' 2 v1 s0 M := by
  unfold w_Rd_readTest_J21 at h ⊢
  exact ⟨(fun c1 => (b_Rd_step (h.1 c1) hB (fun M1 m2 g2 => (b_Rd_token g2 (fun x2 g3 => ⟨g3.1, ⟨g3.2.1, (b_Rd_token g3.2.2 (fun x3 g4 => ⟨(fun c5 => ⟨(g4.1 c5).1, (b_Rd_readNumber (g4.1 c5).2 (BJ_w (by have e9 := m2.1; have e0 := show rR M1 2 3 = t from m2.2.1; omega) (BJ_w (by have e9 := m2.1; have e0 := show rR M1 2 3 = t from m2.2.1; omega) m2)) (fun x4 M4 m6 g6 => ⟨g6.1, (hp _ _ (BJ_w (by have e9 := m6.1; have e0 := show rR M1 2 3 = t from m2.2.1; omega) m6) g6.2)⟩))⟩), (fun c7 => ⟨(fun c8 => ⟨((g4.2 c7).1 c8).1, (b_Rd_readList ((g4.2 c7).1 c8).2 (BJ_w (by have e9 := m2.1; have e0 := show rR M1 2 3 = t from m2.2.1; omega) (BJ_w (by have e9 := m2.1; have e0 := show rR M1 2 3 = t from m2.2.1; omega) m2)) (fun x5 M5 m9 g9 => ⟨g9.1, (hp _ _ (BJ_w (by have e9 := m9.1; have e0 := show rR M1 2 3 = t from m2.2.1; omega) m9) g9.2)⟩))⟩), (fun c10 => ⟨(fun c11 => ⟨(((g4.2 c7).2 c10).1 c11).1, (b_Rd_readList (((g4.2 c7).2 c10).1 c11).2 (BJ_w (by have e9 := m2.1; have e0 := show rR M1 2 3 = t from m2.2.1; omega) (BJ_w (by have e9 := m2.1; have e0 := show rR M1 2 3 = t from m2.2.1; omega) m2)) (fun x6 M6 m12 g12 => ⟨g12.1, (hp _ _ (BJ_w (by have e9 := m12.1; have e0 := show rR M1 2 3 = t from m2.2.1; omega) m12) g12.2)⟩))⟩), (fun c13 => ⟨(fun c14 => (b_Rd_step ((((g4.2 c7).2 c10).2 c13).1 c14) (BJ_w (by have e9 := m2.1; have e0 := show rR M1 2 3 = t from m2.2.1; omega) (BJ_w (by have e9 := m2.1; have e0 := show rR M1 2 3 = t from m2.2.1; omega) m2)) (fun M7 m15 g15 => (b_Rd_attributeHere g15 m15 (fun x8 M8 m16 g16 => ⟨g16.1, (b_Rd_step g16.2 (BJ_w (by have e9 := m16.1; have e0 := show rR M1 2 3 = t from m2.2.1; omega) m16) (fun M9 m17 g17 => (hp _ _ m17 g17)))⟩))))), (fun c18 => ⟨(fun c19 => ⟨(((((g4.2 c7).2 c10).2 c13).2 c18).1 c19).1, (b_Rd_readNumber (((((g4.2 c7).2 c10).2 c13).2 c18).1 c19).2 (BJ_w (by have e9 := m2.1; have e0 := show rR M1 2 3 = t from m2.2.1; omega) (BJ_w (by have e9 := m2.1; have e0 := show rR M1 2 3 = t from m2.2.1; omega) m2)) (fun x10 M10 m20 g20 => ⟨g20.1, (hp _ _ (BJ_w (by have e9 := m20.1; have e0 := show rR M1 2 3 = t from m2.2.1; omega) m20) g20.2)⟩))⟩), (fun c21 => ⟨(fun c22 => (b_Rd_step ((((((g4.2 c7).2 c10).2 c13).2 c18).2 c21).1 c22) (BJ_w (by have e9 := m2.1; have e0 := show rR M1 2 3 = t from m2.2.1; omega) (BJ_w (by have e9 := m2.1; have e0 := show rR M1 2 3 = t from m2.2.1; omega) m2)) (fun M11 m23 g23 => (hp _ _ m23 g23)))), (fun c24 => ⟨(fun c25 => (b_Rd_readNumber (((((((g4.2 c7).2 c10).2 c13).2 c18).2 c21).2 c24).1 c25) (BJ_w (by have e9 := m2.1; have e0 := show rR M1 2 3 = t from m2.2.1; omega) (BJ_w (by have e9 := m2.1; have e0 := show rR M1 2 3 = t from m2.2.1; omega) m2)) (fun x12 M12 m26 g26 => ⟨g26.1, (hp _ _ (BJ_w (by have e9 := m26.1; have e0 := show rR M1 2 3 = t from m2.2.1; omega) m26) g26.2)⟩))), (fun c27 => ⟨(fun c28 => (b_Rd_readNumber ((((((((g4.2 c7).2 c10).2 c13).2 c18).2 c21).2 c24).2 c27).1 c28) (BJ_w (by have e9 := m2.1; have e0 := show rR M1 2 3 = t from m2.2.1; omega) (BJ_w (by have e9 := m2.1; have e0 := show rR M1 2 3 = t from m2.2.1; omega) m2)) (fun x13 M13 m29 g29 => ⟨g29.1, (hp _ _ (BJ_w (by have e9 := m29.1; have e0 := show rR M1 2 3 = t from m2.2.1; omega) m29) g29.2)⟩))), (fun c30 => ⟨(fun c31 => (b_Rd_readNumber (((((((((g4.2 c7).2 c10).2 c13).2 c18).2 c21).2 c24).2 c27).2 c30).1 c31) (BJ_w (by have e9 := m2.1; have e0 := show rR M1 2 3 = t from m2.2.1; omega) (BJ_w (by have e9 := m2.1; have e0 := show rR M1 2 3 = t from m2.2.1; omega) m2)) (fun x14 M14 m32 g32 => ⟨g32.1, (hp _ _ (BJ_w (by have e9 := m32.1; have e0 := show rR M1 2 3 = t from m2.2.1; omega) m32) g32.2)⟩))), (fun c33 => (b_Rd_refuse (((((((((g4.2 c7).2 c10).2 c13).2 c18).2 c21).2 c24).2 c27).2 c30).2 c33) (BJ_w (by have e9 := m2.1; have e0 := show rR M1 2 3 = t from m2.2.1; omega) (BJ_w (by have e9 := m2.1; have e0 := show rR M1 2 3 = t from m2.2.1; omega) m2)) (fun M15 m34 g34 => (hp _ _ m34 g34))))⟩)⟩)⟩)⟩)⟩)⟩)⟩)⟩)⟩))⟩⟩))))), (fun c35 => (hp _ _ hB (h.2 c35)))⟩
theorem b_Rd_readTest {t : Nat} {post post' : Int32 → aM → Prop} {M : aM} (h : w_Rd_readTest post 2 M) (hB : BJ t M) (hp : ∀ (y0 : Int32) (y1 : aM), BJ t y1 → post y0 y1 → post' y0 y1) : w_Rd_readTest post' 2 M := by
  unfold w_Rd_readTest at h ⊢
  exact (b_Rd_attributeHere h hB (fun x1 M1 m1 g1 => ⟨(fun c2 => (b_Rd_addPart (g1.1 c2) m1 (fun x2 M2 m3 g3 => (b_Rd_readTest_J21 g3 m3 hp)))), (fun c4 => (b_Rd_readTest_J21 (g1.2 c4) m1 hp))⟩))
theorem b_Rd_readPart_r {t : Nat} {post post' : Int32 → aM → Prop} {R_Rd_readJoined : (Int32 → aM → Prop) → Nat → Int32 → Int32 → aM → Prop} {R_Rd_readPart : (Int32 → aM → Prop) → Nat → Int32 → aM → Prop} {R_Rd_readNot : (Int32 → aM → Prop) → Nat → Int32 → aM → Prop} {R_Rd_readBracket : (Int32 → aM → Prop) → Nat → Int32 → aM → Prop} {v1 : Int32} {M : aM} (h : w_Rd_readPart_r R_Rd_readJoined R_Rd_readPart R_Rd_readNot R_Rd_readBracket post 2 v1 M) (hB : BJ t M) (hR_Rd_readJoined : MJ2 t R_Rd_readJoined) (hR_Rd_readPart : MJ1 t R_Rd_readPart) (hR_Rd_readNot : MJ1 t R_Rd_readNot) (hR_Rd_readBracket : MJ1 t R_Rd_readBracket) (hp : ∀ (y0 : Int32) (y1 : aM), BJ t y1 → post y0 y1 → post' y0 y1) : w_Rd_readPart_r R_Rd_readJoined R_Rd_readPart R_Rd_readNot R_Rd_readBracket post' 2 v1 M := by
  unfold w_Rd_readPart_r at h ⊢
  exact (b_Rd_token h (fun x1 g1 => ⟨(fun c2 => (hR_Rd_readNot (g1.1 c2) hB (fun x2 M2 m3 g3 => (hp _ _ m3 g3)))), (fun c4 => ⟨(fun c5 => (b_Rd_token ((g1.2 c4).1 c5) (fun x3 g6 => (b_Rd_addPart g6 hB (fun x4 M4 m7 g7 => (b_Rd_step g7 m7 (fun M5 m8 g8 => (hp _ _ m8 g8)))))))), (fun c9 => ⟨(fun c10 => (b_Rd_token (((g1.2 c4).2 c9).1 c10) (fun x6 g11 => (b_Rd_addPart g11 hB (fun x7 M7 m12 g12 => (b_Rd_step g12 m12 (fun M8 m13 g13 => (hp _ _ m13 g13)))))))), (fun c14 => ⟨(fun c15 => (b_Rd_token ((((g1.2 c4).2 c9).2 c14).1 c15) (fun x9 g16 => (b_Rd_addPart g16 hB (fun x10 M10 m17 g17 => (b_Rd_step g17 m17 (fun M11 m18 g18 => (hp _ _ m18 g18)))))))), (fun c19 => ⟨(fun c20 => (hR_Rd_readBracket (((((g1.2 c4).2 c9).2 c14).2 c19).1 c20) hB (fun x12 M12 m21 g21 => (hp _ _ m21 g21)))), (fun c22 => ⟨(fun c23 => (b_Rd_readTest ((((((g1.2 c4).2 c9).2 c14).2 c19).2 c22).1 c23) hB (fun x13 M13 m24 g24 => (hp _ _ m24 g24)))), (fun c25 => (b_Rd_refuse ((((((g1.2 c4).2 c9).2 c14).2 c19).2 c22).2 c25) hB (fun M14 m26 g26 => (hp _ _ m26 g26))))⟩)⟩)⟩)⟩)⟩)⟩))
theorem b_Rd_readJoined_J127 {t : Nat} {post post' : Int32 → aM → Prop} {K89 K89' : Nat → Int32 → Int32 → Int32 → Nat → Int32 → Int32 → aM → Prop} {R_Rd_readJoined : (Int32 → aM → Prop) → Nat → Int32 → Int32 → aM → Prop} {R_Rd_readPart : (Int32 → aM → Prop) → Nat → Int32 → aM → Prop} {R_Rd_readNot : (Int32 → aM → Prop) → Nat → Int32 → aM → Prop} {R_Rd_readBracket : (Int32 → aM → Prop) → Nat → Int32 → aM → Prop} {v1 : Int32} {v2 : Int32} {v4 : Int32} {k5 : Nat} {v6 : Int32} {v7 : Int32} {s0 : Int32} {M : aM} (h : w_Rd_readJoined_J127 post R_Rd_readJoined R_Rd_readPart R_Rd_readNot R_Rd_readBracket K89 2 v1 v2 v4 k5 v6 v7 s0 M) (hB : BJ t M) (hk5 : t < k5) (hR_Rd_readJoined : MJ2 t R_Rd_readJoined) (hR_Rd_readPart : MJ1 t R_Rd_readPart) (hR_Rd_readNot : MJ1 t R_Rd_readNot) (hR_Rd_readBracket : MJ1 t R_Rd_readBracket) (hp : ∀ (y0 : Int32) (y1 : aM), BJ t y1 → post y0 y1 → post' y0 y1) (hK89 : ∀ (y1 : Int32) (y2 : Int32) (y3 : Int32) (y4 : Nat) (y5 : Int32) (y6 : Int32) (y7 : aM), t < y4 → BJ t y7 → K89 2 y1 y2 y3 y4 y5 y6 y7 → K89' 2 y1 y2 y3 y4 y5 y6 y7) : w_Rd_readJoined_J127 post' R_Rd_readJoined R_Rd_readPart R_Rd_readNot R_Rd_readBracket K89' 2 v1 v2 v4 k5 v6 v7 s0 M := by
  unfold w_Rd_readJoined_J127 at h ⊢
  exact (b_Rd_isFine h (fun x1 g1 => ⟨(fun c2 => ⟨(g1.1 c2).1, ⟨(g1.1 c2).2.1, ⟨(g1.1 c2).2.2.1, (hK89 _ _ _ _ _ _ _ hk5 (BJ_w (by have e9 := hB.1; omega) (BJ_w (by have e9 := hB.1; omega) hB)) (g1.1 c2).2.2.2)⟩⟩⟩), (fun c3 => (hp _ _ hB (g1.2 c3)))⟩))
theorem b_Rd_readJoined_L89_n {t : Nat} {post post' : Int32 → aM → Prop} {R_Rd_readJoined : (Int32 → aM → Prop) → Nat → Int32 → Int32 → aM → Prop} {R_Rd_readPart : (Int32 → aM → Prop) → Nat → Int32 → aM → Prop} {R_Rd_readNot : (Int32 → aM → Prop) → Nat → Int32 → aM → Prop} {R_Rd_readBracket : (Int32 → aM → Prop) → Nat → Int32 → aM → Prop} (hR_Rd_readJoined : MJ2 t R_Rd_readJoined) (hR_Rd_readPart : MJ1 t R_Rd_readPart) (hR_Rd_readNot : MJ1 t R_Rd_readNot) (hR_Rd_readBracket : MJ1 t R_Rd_readBracket) (hp : ∀ (y0 : Int32) (y1 : aM), BJ t y1 → post y0 y1 → post' y0 y1) : ∀ (n : Nat) (v1 : Int32) (v2 : Int32) (v4 : Int32) (k5 : Nat) (v6 : Int32) (v7 : Int32) (M : aM), (t < k5) → BJ t M → w_Rd_readJoined_L89 post R_Rd_readJoined R_Rd_readPart R_Rd_readNot R_Rd_readBracket n 2 v1 v2 v4 k5 v6 v7 M → w_Rd_readJoined_L89 post' R_Rd_readJoined R_Rd_readPart R_Rd_readNot R_Rd_readBracket n 2 v1 v2 v4 k5 v6 v7 M := by
  intro n
  induction n with
  | zero => intro v1 v2 v4 k5 v6 v7 M hk5 hB h; exact h.elim
  | succ n ih =>
    intro v1 v2 v4 k5 v6 v7 M hk5 hB h
    unfold w_Rd_readJoined_L89 at h ⊢
    exact ⟨(fun c1 => (hp _ _ hB (h.1 c1))), (fun c2 => (b_Rd_token (h.2 c2) (fun x1 g3 => ⟨(fun c4 => (hp _ _ hB (g3.1 c4))), (fun c5 => (b_Rd_step (g3.2 c5) hB (fun M2 m6 g6 => ⟨(fun c7 => (hR_Rd_readPart (g6.1 c7) m6 (fun x3 M3 m8 g8 => (b_Rd_readJoined_J127 g8 m8 hk5 hR_Rd_readJoined hR_Rd_readPart hR_Rd_readNot hR_Rd_readBracket hp ih)))), (fun c9 => (hR_Rd_readJoined (g6.2 c9) m6 (fun x4 M4 m10 g10 => (b_Rd_readJoined_J127 g10 m10 hk5 hR_Rd_readJoined hR_Rd_readPart hR_Rd_readNot hR_Rd_readBracket hp ih))))⟩)))⟩)))⟩
theorem b_Rd_readJoined_L89 {t : Nat} {post post' : Int32 → aM → Prop} {R_Rd_readJoined : (Int32 → aM → Prop) → Nat → Int32 → Int32 → aM → Prop} {R_Rd_readPart : (Int32 → aM → Prop) → Nat → Int32 → aM → Prop} {R_Rd_readNot : (Int32 → aM → Prop) → Nat → Int32 → aM → Prop} {R_Rd_readBracket : (Int32 → aM → Prop) → Nat → Int32 → aM → Prop} {n : Nat} {v1 : Int32} {v2 : Int32} {v4 : Int32} {k5 : Nat} {v6 : Int32} {v7 : Int32} {M : aM} (h : w_Rd_readJoined_L89 post R_Rd_readJoined R_Rd_readPart R_Rd_readNot R_Rd_readBracket n 2 v1 v2 v4 k5 v6 v7 M) (hB : BJ t M) (hk5 : t < k5) (hR_Rd_readJoined : MJ2 t R_Rd_readJoined) (hR_Rd_readPart : MJ1 t R_Rd_readPart) (hR_Rd_readNot : MJ1 t R_Rd_readNot) (hR_Rd_readBracket : MJ1 t R_Rd_readBracket) (hp : ∀ (y0 : Int32) (y1 : aM), BJ t y1 → post y0 y1 → post' y0 y1) : w_Rd_readJoined_L89 post' R_Rd_readJoined R_Rd_readPart R_Rd_readNot R_Rd_readBracket n 2 v1 v2 v4 k5 v6 v7 M := b_Rd_readJoined_L89_n hR_Rd_readJoined hR_Rd_readPart hR_Rd_readNot hR_Rd_readBracket hp n v1 v2 v4 k5 v6 v7 M hk5 hB h
theorem b_Rd_readJoined_J21 {t : Nat} {post post' : Int32 → aM → Prop} {R_Rd_readJoined : (Int32 → aM → Prop) → Nat → Int32 → Int32 → aM → Prop} {R_Rd_readPart : (Int32 → aM → Prop) → Nat → Int32 → aM → Prop} {R_Rd_readNot : (Int32 → aM → Prop) → Nat → Int32 → aM → Prop} {R_Rd_readBracket : (Int32 → aM → Prop) → Nat → Int32 → aM → Prop} {v1 : Int32} {v2 : Int32} {s0 : Int32} {M : aM} (h : w_Rd_readJoined_J21 post R_Rd_readJoined R_Rd_readPart R_Rd_readNot R_Rd_readBracket 2 v1 v2 s0 M) (hB : BJ t M) (hR_Rd_readJoined : MJ2 t R_Rd_readJoined) (hR_Rd_readPart : MJ1 t R_Rd_readPart) (hR_Rd_readNot : MJ1 t R_Rd_readNot) (hR_Rd_readBracket : MJ1 t R_Rd_readBracket) (hp : ∀ (y0 : Int32) (y1 : aM), BJ t y1 → post y0 y1 → post' y0 y1) : w_Rd_readJoined_J21 post' R_Rd_readJoined R_Rd_readPart R_Rd_readNot R_Rd_readBracket 2 v1 v2 s0 M := by
  unfold w_Rd_readJoined_J21 at h ⊢
  exact (b_Rd_isFine h (fun x1 g1 => ⟨(fun c2 => (hp _ _ hB (g1.1 c2))), (fun c3 => (b_Rd_token (g1.2 c3) (fun x2 g4 => ⟨(fun c5 => (b_Rd_addPart (g4.1 c5) hB (fun x3 M3 m6 g6 => ⟨(fun c7 => ⟨(g6.1 c7).1, ⟨(g6.1 c7).2.1, (match (g6.1 c7).2.2 with | ⟨n8, h8⟩ => ⟨n8, (b_Rd_readJoined_L89 h8 (BJ_w (by have e9 := m6.1; have e0 := show rR M3 2 3 = t from m6.2.1; omega) (BJ_w (by have e9 := m6.1; have e0 := show rR M3 2 3 = t from m6.2.1; omega) m6)) (by have e9 := m6.1; have e0 := show rR M3 2 3 = t from m6.2.1; omega) hR_Rd_readJoined hR_Rd_readPart hR_Rd_readNot hR_Rd_readBracket hp)⟩)⟩⟩), (fun c9 => (hp _ _ m6 (g6.2 c9)))⟩))), (fun c10 => (hp _ _ hB (g4.2 c10)))⟩)))⟩))
theorem b_Rd_readJoined_r {t : Nat} {post post' : Int32 → aM → Prop} {R_Rd_readJoined : (Int32 → aM → Prop) → Nat → Int32 → Int32 → aM → Prop} {R_Rd_readPart : (Int32 → aM → Prop) → Nat → Int32 → aM → Prop} {R_Rd_readNot : (Int32 → aM → Prop) → Nat → Int32 → aM → Prop} {R_Rd_readBracket : (Int32 → aM → Prop) → Nat → Int32 → aM → Prop} {v1 : Int32} {v2 : Int32} {M : aM} (h : w_Rd_readJoined_r R_Rd_readJoined R_Rd_readPart R_Rd_readNot R_Rd_readBracket post 2 v1 v2 M) (hB : BJ t M) (hR_Rd_readJoined : MJ2 t R_Rd_readJoined) (hR_Rd_readPart : MJ1 t R_Rd_readPart) (hR_Rd_readNot : MJ1 t R_Rd_readNot) (hR_Rd_readBracket : MJ1 t R_Rd_readBracket) (hp : ∀ (y0 : Int32) (y1 : aM), BJ t y1 → post y0 y1 → post' y0 y1) : w_Rd_readJoined_r R_Rd_readJoined R_Rd_readPart R_Rd_readNot R_Rd_readBracket post' 2 v1 v2 M := by
  unfold w_Rd_readJoined_r at h ⊢
  exact ⟨(fun c1 => (hR_Rd_readPart (h.1 c1) hB (fun x1 M1 m2 g2 => (b_Rd_readJoined_J21 g2 m2 hR_Rd_readJoined hR_Rd_readPart hR_Rd_readNot hR_Rd_readBracket hp)))), (fun c3 => (hR_Rd_readJoined (h.2 c3) hB (fun x2 M2 m4 g4 => (b_Rd_readJoined_J21 g4 m4 hR_Rd_readJoined hR_Rd_readPart hR_Rd_readNot hR_Rd_readBracket hp))))⟩
theorem b_S_Rd {t : Nat} : ∀ D, MJ2 t (S_Rd D).1 ∧ MJ1 t (S_Rd D).2.1 ∧ MJ1 t (S_Rd D).2.2.1 ∧ MJ1 t (S_Rd D).2.2.2 := by
  intro D
  induction D with
  | zero => exact ⟨fun h _ _ => h.elim, fun h _ _ => h.elim, fun h _ _ => h.elim, fun h _ _ => h.elim⟩
  | succ D ih =>
    obtain ⟨i1, i2, i3, i4⟩ := ih
    exact ⟨fun h hB hp => b_Rd_readJoined_r h hB i1 i2 i3 i4 hp, fun h hB hp => b_Rd_readPart_r h hB i1 i2 i3 i4 hp, fun h hB hp => b_Rd_readNot_r h hB i1 i2 i3 i4 hp, fun h hB hp => b_Rd_readBracket_r h hB i1 i2 i3 i4 hp⟩
theorem b_Rd_readJoined {t D : Nat} {post post' : Int32 → aM → Prop} {v1 v2 : Int32} {M : aM} (h : w_Rd_readJoined D post 2 v1 v2 M) (hB : BJ t M) (hp : ∀ (y0 : Int32) (y1 : aM), BJ t y1 → post y0 y1 → post' y0 y1) : w_Rd_readJoined D post' 2 v1 v2 M := (b_S_Rd D).1 h hB hp
theorem b_Rd_openCurly {t : Nat} {post post' : aM → Prop} {v1 : Int32} {M : aM} (h : w_Rd_openCurly post 2 v1 M) (hB : BJ t M) (hp : ∀ (y0 : aM), BJ t y0 → post y0 → post' y0) : w_Rd_openCurly post' 2 v1 M := by
  unfold w_Rd_openCurly at h ⊢
  exact (b_Rd_token h (fun x1 g1 => ⟨(fun c2 => ⟨(fun c3 => (b_Rd_step ((g1.1 c2).1 c3) hB (fun M2 m4 g4 => (hp _ (BJ_w (by have e9 := m4.1; omega) (BJ_w (by have e9 := m4.1; omega) m4)) g4)))), (fun c5 => (b_Rd_refuse ((g1.1 c2).2 c5) hB (fun M3 m6 g6 => (hp _ m6 g6))))⟩), (fun c7 => (b_Rd_refuse (g1.2 c7) hB (fun M4 m8 g8 => (hp _ m8 g8))))⟩))
theorem b_Rd_readSetHead_J70 {t : Nat} {post post' : aM → Prop} {M : aM} (h : w_Rd_readSetHead_J70 post 2 M) (hB : BJ t M) (hp : ∀ (y0 : aM), BJ t y0 → post y0 → post' y0) : w_Rd_readSetHead_J70 post' 2 M := by
  unfold w_Rd_readSetHead_J70 at h ⊢
  exact (b_Rd_refuse h hB (fun M1 m1 g1 => (hp _ m1 g1)))
theorem b_Rd_readSetHead_J111 {t : Nat} {post post' : aM → Prop} {v2 : Int32} {M : aM} (h : w_Rd_readSetHead_J111 post 2 v2 M) (hB : BJ t M) (hp : ∀ (y0 : aM), BJ t y0 → post y0 → post' y0) : w_Rd_readSetHead_J111 post' 2 v2 M := by
  unfold w_Rd_readSetHead_J111 at h ⊢
  exact (b_Rd_isFine h (fun x1 g1 => ⟨(fun c2 => (hp _ hB (g1.1 c2))), (fun c3 => (b_Rd_openCurly (g1.2 c3) hB (fun M2 m4 g4 => (hp _ m4 g4))))⟩))
theorem b_Rd_readSetHead {t : Nat} {post post' : aM → Prop} {M : aM} (h : w_Rd_readSetHead post 2 M) (hB : BJ t M) (hp : ∀ (y0 : aM), BJ t y0 → post y0 → post' y0) : w_Rd_readSetHead post' 2 M := by
  unfold w_Rd_readSetHead at h ⊢
  exact (b_Rd_token h (fun x1 g1 => ⟨(fun c2 => (b_Rd_addNode (g1.1 c2) hB (fun x2 M2 m3 g3 => ⟨(fun c4 => (b_Rd_step (g3.1 c4) m3 (fun M3 m5 g5 => (b_Rd_readName g5 m5 (fun x4 M4 m6 g6 => ⟨(fun c7 => (b_Rd_token (g6.1 c7) (fun x5 g8 => ⟨(fun c9 => (b_Rd_readSetHead_J70 (g8.1 c9) m6 hp)), (fun c10 => ⟨(fun c11 => ⟨((g8.2 c10).1 c11).1, (b_Rd_step ((g8.2 c10).1 c11).2 (BJ_w (by have e9 := m6.1; have e0 := show rR M 2 3 = t from hB.2.1; omega) m6) (fun M6 m12 g12 => (b_Rd_skip g12 m12 (fun x7 M7 m13 g13 => ⟨(fun c14 => (b_Rd_readSetHead_J111 (g13.1 c14) m13 hp)), (fun c15 => (match (g13.2 c15) with | ⟨n16, h16⟩ => ⟨n16, ⟨h16.1, (b_Rd_readJoined h16.2 m13 (fun x8 M8 m17 g17 => ⟨g17.1, (b_Rd_readSetHead_J111 g17.2 (BJ_w (by have e9 := m17.1; have e0 := show rR M 2 3 = t from hB.2.1; omega) m17) hp)⟩))⟩⟩))⟩))))⟩), (fun c18 => (b_Rd_readSetHead_J70 ((g8.2 c10).2 c18) m6 hp))⟩)⟩))), (fun c19 => (b_Rd_refuse (g6.2 c19) m6 (fun M9 m20 g20 => (hp _ m20 g20))))⟩))))), (fun c21 => (hp _ m3 (g3.2 c21)))⟩))), (fun c22 => (b_Rd_refuse (g1.2 c22) hB (fun M10 m23 g23 => (hp _ m23 g23))))⟩))
theorem b_Nd_addDuty_J40 {t : Nat} {post post' : aM → Prop} {k0 : Nat} {v1 : Int32} {M : aM} (h : w_Nd_addDuty_J40 post k0 v1 M) (hB : BJ t M) (hk0 : t < k0) (hp : ∀ (y0 : aM), BJ t y0 → post y0 → post' y0) : w_Nd_addDuty_J40 post' k0 v1 M := by
  unfold w_Nd_addDuty_J40 at h ⊢
  exact ⟨h.1, ⟨h.2.1, (hp _ (BJ_w (by have e9 := hB.1; omega) hB) h.2.2)⟩⟩
theorem b_Nd_addDuty_J30 {t : Nat} {post post' : aM → Prop} {k0 : Nat} {v1 : Int32} {M : aM} (h : w_Nd_addDuty_J30 post k0 v1 M) (hB : BJ t M) (hk0 : t < k0) (hp : ∀ (y0 : aM), BJ t y0 → post y0 → post' y0) : w_Nd_addDuty_J30 post' k0 v1 M := by
  unfold w_Nd_addDuty_J30 at h ⊢
  exact (b_Nd_addDuty_J40 h (BJ_w (by have e9 := hB.1; omega) hB) hk0 hp)
theorem b_Nd_addDuty_J20 {t : Nat} {post post' : aM → Prop} {k0 : Nat} {v1 : Int32} {v2 : Int32} {M : aM} (h : w_Nd_addDuty_J20 post k0 v1 v2 M) (hB : BJ t M) (hk0 : t < k0) (hp : ∀ (y0 : aM), BJ t y0 → post y0 → post' y0) : w_Nd_addDuty_J20 post' k0 v1 v2 M := by
  unfold w_Nd_addDuty_J20 at h ⊢
  exact ⟨h.1, (b_Nd_addDuty_J30 h.2 (BJ_w (by have e9 := hB.1; omega) hB) hk0 hp)⟩
theorem b_Nd_addDuty_J10 {t : Nat} {post post' : aM → Prop} {k0 : Nat} {v1 : Int32} {v2 : Int32} {M : aM} (h : w_Nd_addDuty_J10 post k0 v1 v2 M) (hB : BJ t M) (hk0 : t < k0) (hp : ∀ (y0 : aM), BJ t y0 → post y0 → post' y0) : w_Nd_addDuty_J10 post' k0 v1 v2 M := by
  unfold w_Nd_addDuty_J10 at h ⊢
  exact ⟨h.1, (b_Nd_addDuty_J20 h.2 (BJ_w (by have e9 := hB.1; omega) hB) hk0 hp)⟩
theorem b_Nd_addDuty {t : Nat} {post post' : aM → Prop} {k0 : Nat} {v1 : Int32} {v2 : Int32} {v3 : Int32} {M : aM} (h : w_Nd_addDuty post k0 v1 v2 v3 M) (hB : BJ t M) (hk0 : t < k0) (hp : ∀ (y0 : aM), BJ t y0 → post y0 → post' y0) : w_Nd_addDuty post' k0 v1 v2 v3 M := by
  unfold w_Nd_addDuty at h ⊢
  exact ⟨h.1, (b_Nd_addDuty_J10 h.2 (BJ_w (by have e9 := hB.1; omega) hB) hk0 hp)⟩
theorem b_Rd_readDutyNumber {t : Nat} {post post' : aM → Prop} {v1 : Int32} {v2 : Int32} {M : aM} (h : w_Rd_readDutyNumber post 2 v1 v2 M) (hB : BJ t M) (hp : ∀ (y0 : aM), BJ t y0 → post y0 → post' y0) : w_Rd_readDutyNumber post' 2 v1 v2 M := by
  unfold w_Rd_readDutyNumber at h ⊢
  exact (b_Rd_token h (fun x1 g1 => ⟨(fun c2 => ⟨(fun c3 => (b_Rd_tokenValue ((g1.1 c2).1 c3) (fun x2 g4 => (b_Nd_addDuty g4 hB (by have e9 := hB.1; have e0 := show rR M 2 3 = t from hB.2.1; omega) (fun M3 m5 g5 => (b_Rd_step g5 m5 (fun M4 m6 g6 => (hp _ m6 g6)))))))), (fun c7 => (b_Rd_refuse ((g1.1 c2).2 c7) hB (fun M5 m8 g8 => (hp _ m8 g8))))⟩), (fun c9 => (b_Rd_refuse (g1.2 c9) hB (fun M6 m10 g10 => (hp _ m10 g10))))⟩))
theorem b_Rd_readRuleDuties_L2_n {t : Nat} {post post' : aM → Prop} (hp : ∀ (y0 : aM), BJ t y0 → post y0 → post' y0) : ∀ (n : Nat) (v1 : Int32) (v2 : Int32) (v3 : Int32) (M : aM), BJ t M → w_Rd_readRuleDuties_L2 post n 2 v1 v2 v3 M → w_Rd_readRuleDuties_L2 post' n 2 v1 v2 v3 M := by
  intro n
  induction n with
  | zero => intro v1 v2 v3 M hB h; exact h.elim
  | succ n ih =>
    intro v1 v2 v3 M hB h
    unfold w_Rd_readRuleDuties_L2 at h ⊢
    exact ⟨(fun c1 => (hp _ hB (h.1 c1))), (fun c2 => (b_Rd_step (h.2 c2) hB (fun M1 m3 g3 => (b_Rd_readDutyNumber g3 m3 (fun M2 m4 g4 => (b_Rd_isFine g4 (fun x3 g5 => ⟨(fun c6 => (hp _ m4 (g5.1 c6))), (fun c7 => (b_Rd_token (g5.2 c7) (fun x4 g8 => ⟨(fun c9 => (ih _ _ _ _ m4 (g8.1 c9))), (fun c10 => (hp _ m4 (g8.2 c10)))⟩)))⟩)))))))⟩
theorem b_Rd_readRuleDuties_L2 {t : Nat} {post post' : aM → Prop} {n : Nat} {v1 : Int32} {v2 : Int32} {v3 : Int32} {M : aM} (h : w_Rd_readRuleDuties_L2 post n 2 v1 v2 v3 M) (hB : BJ t M) (hp : ∀ (y0 : aM), BJ t y0 → post y0 → post' y0) : w_Rd_readRuleDuties_L2 post' n 2 v1 v2 v3 M := b_Rd_readRuleDuties_L2_n hp n v1 v2 v3 M hB h
theorem b_Rd_readRuleDuties {t : Nat} {post post' : aM → Prop} {v1 : Int32} {v2 : Int32} {M : aM} (h : w_Rd_readRuleDuties post 2 v1 v2 M) (hB : BJ t M) (hp : ∀ (y0 : aM), BJ t y0 → post y0 → post' y0) : w_Rd_readRuleDuties post' 2 v1 v2 M := by
  unfold w_Rd_readRuleDuties at h ⊢
  exact (match h with | ⟨n1, h1⟩ => ⟨n1, (b_Rd_readRuleDuties_L2 h1 hB hp)⟩)
theorem b_Rd_readRule_J97 {t : Nat} {post post' : aM → Prop} {M : aM} (h : w_Rd_readRule_J97 post 2 M) (hB : BJ t M) (hp : ∀ (y0 : aM), BJ t y0 → post y0 → post' y0) : w_Rd_readRule_J97 post' 2 M := by
  unfold w_Rd_readRule_J97 at h ⊢
  exact (b_Rd_isFine h (fun x1 g1 => ⟨(fun c2 => (hp _ hB (g1.1 c2))), (fun c3 => (b_Rd_require (g1.2 c3) hB (fun M2 m4 g4 => (hp _ m4 g4))))⟩))
theorem b_Rd_readRule_J94 {t : Nat} {post post' : aM → Prop} {s1 : Int32} {s2 : Int32} {M : aM} (h : w_Rd_readRule_J94 post 2 2 s1 s2 M) (hB : BJ t M) (hp : ∀ (y0 : aM), BJ t y0 → post y0 → post' y0) : w_Rd_readRule_J94 post' 2 2 s1 s2 M := by
  unfold w_Rd_readRule_J94 at h ⊢
  exact (b_Rd_readRuleDuties h hB (fun M1 m1 g1 => (b_Rd_readRule_J97 g1 m1 hp)))
theorem b_Rd_readRule_J67 {t : Nat} {post post' : aM → Prop} {v1 : Int32} {v2 : Int32} {M : aM} (h : w_Rd_readRule_J67 post 2 v1 v2 M) (hB : BJ t M) (hp : ∀ (y0 : aM), BJ t y0 → post y0 → post' y0) : w_Rd_readRule_J67 post' 2 v1 v2 M := by
  unfold w_Rd_readRule_J67 at h ⊢
  exact (b_Rd_isFine h (fun x1 g1 => ⟨(fun c2 => (b_Rd_readRule_J97 (g1.1 c2) hB hp)), (fun c3 => (b_Rd_token (g1.2 c3) (fun x2 g4 => ⟨(fun c5 => (b_Rd_readRule_J97 (g4.1 c5) hB hp)), (fun c6 => ⟨(fun c7 => (b_Rd_readRule_J94 ((g4.2 c6).1 c7) hB hp)), (fun c8 => (b_Rd_readRule_J94 ((g4.2 c6).2 c8) hB hp))⟩)⟩)))⟩))
theorem b_Rd_readRule_J14 {t : Nat} {post post' : aM → Prop} {s0 : Int32} {M : aM} (h : w_Rd_readRule_J14 post 2 s0 M) (hB : BJ t M) (hp : ∀ (y0 : aM), BJ t y0 → post y0 → post' y0) : w_Rd_readRule_J14 post' 2 s0 M := by
  unfold w_Rd_readRule_J14 at h ⊢
  exact (b_Rd_addNode h hB (fun x1 M1 m1 g1 => ⟨(fun c2 => (b_Rd_step (g1.1 c2) m1 (fun M2 m3 g3 => (b_Rd_readName g3 m3 (fun x3 M3 m4 g4 => (b_Rd_skip g4 m4 (fun x4 M4 m5 g5 => ⟨(fun c6 => (b_Rd_readRule_J67 (g5.1 c6) m5 hp)), (fun c7 => (match (g5.2 c7) with | ⟨n8, h8⟩ => ⟨n8, ⟨h8.1, (b_Rd_readJoined h8.2 m5 (fun x5 M5 m9 g9 => ⟨g9.1, (b_Rd_readRule_J67 g9.2 (BJ_w (by have e9 := m9.1; have e0 := show rR M4 2 3 = t from m5.2.1; omega) m9) hp)⟩))⟩⟩))⟩))))))), (fun c10 => (hp _ m1 (g1.2 c10)))⟩))
theorem b_Rd_readRule {t : Nat} {post post' : aM → Prop} {M : aM} (h : w_Rd_readRule post 2 M) (hB : BJ t M) (hp : ∀ (y0 : aM), BJ t y0 → post y0 → post' y0) : w_Rd_readRule post' 2 M := by
  unfold w_Rd_readRule at h ⊢
  exact (b_Rd_token h (fun x1 g1 => ⟨(fun c2 => (b_Rd_readRule_J14 (g1.1 c2) hB hp)), (fun c3 => (b_Rd_readRule_J14 (g1.2 c3) hB hp))⟩))
theorem b_Rd_readDuty_J42 {t : Nat} {post post' : aM → Prop} {s0 : Int32} {M : aM} (h : w_Rd_readDuty_J42 post 2 s0 M) (hB : BJ t M) (hp : ∀ (y0 : aM), BJ t y0 → post y0 → post' y0) : w_Rd_readDuty_J42 post' 2 s0 M := by
  unfold w_Rd_readDuty_J42 at h ⊢
  exact (b_Rd_step h hB (fun M1 m1 g1 => (b_Rd_readDutyNumber g1 m1 (fun M2 m2 g2 => (b_Rd_isFine g2 (fun x3 g3 => ⟨(fun c4 => (hp _ m2 (g3.1 c4))), (fun c5 => (b_Rd_require (g3.2 c5) m2 (fun M4 m6 g6 => (hp _ m6 g6))))⟩))))))
theorem b_Rd_readDuty_J28 {t : Nat} {post post' : aM → Prop} {M : aM} (h : w_Rd_readDuty_J28 post 2 M) (hB : BJ t M) (hp : ∀ (y0 : aM), BJ t y0 → post y0 → post' y0) : w_Rd_readDuty_J28 post' 2 M := by
  unfold w_Rd_readDuty_J28 at h ⊢
  exact (b_Rd_token h (fun x1 g1 => ⟨(fun c2 => (b_Rd_readDuty_J42 (g1.1 c2) hB hp)), (fun c3 => (b_Rd_readDuty_J42 (g1.2 c3) hB hp))⟩))
theorem b_Rd_readDuty {t : Nat} {post post' : aM → Prop} {M : aM} (h : w_Rd_readDuty post 2 M) (hB : BJ t M) (hp : ∀ (y0 : aM), BJ t y0 → post y0 → post' y0) : w_Rd_readDuty post' 2 M := by
  unfold w_Rd_readDuty at h ⊢
  exact (b_Rd_step h hB (fun M1 m1 g1 => (b_Rd_token g1 (fun x2 g2 => ⟨(fun c3 => (b_Rd_readDuty_J28 (g2.1 c3) m1 hp)), (fun c4 => (b_Rd_token (g2.2 c4) (fun x3 g5 => ⟨(fun c6 => (b_Rd_readDuty_J28 (g5.1 c6) m1 hp)), (fun c7 => (b_Rd_refuse (g5.2 c7) m1 (fun M4 m8 g8 => (hp _ m8 g8))))⟩)))⟩))))
theorem b_Rd_readSetEnd {t : Nat} {post post' : aM → Prop} {M : aM} (h : w_Rd_readSetEnd post 2 M) (hB : BJ t M) (hp : ∀ (y0 : aM), BJ t y0 → post y0 → post' y0) : w_Rd_readSetEnd post' 2 M := by
  unfold w_Rd_readSetEnd at h ⊢
  exact (b_Rd_step h hB (fun M1 m1 g1 => ⟨g1.1, (hp _ (BJ_w (by have e9 := m1.1; omega) (BJ_w (by have e9 := m1.1; omega) m1)) g1.2)⟩))
theorem b_Rd_readPolicy_J131 {t : Nat} {post post' : aM → Prop} {M : aM} (h : w_Rd_readPolicy_J131 post 2 M) (hB : BJ t M) (hp : ∀ (y0 : aM), BJ t y0 → post y0 → post' y0) : w_Rd_readPolicy_J131 post' 2 M := by
  unfold w_Rd_readPolicy_J131 at h ⊢
  exact (b_Rd_isFine h (fun x1 g1 => ⟨(fun c2 => (hp _ hB (g1.1 c2))), (fun c3 => (b_Rd_token (g1.2 c3) (fun x2 g4 => ⟨(fun c5 => (hp _ hB (g4.1 c5))), (fun c6 => (b_Rd_refuse (g4.2 c6) hB (fun M3 m7 g7 => (hp _ m7 g7))))⟩)))⟩))
theorem b_Rd_readPolicy_L19_n {t : Nat} {post post' : aM → Prop} (hp : ∀ (y0 : aM), BJ t y0 → post y0 → post' y0) : ∀ (n : Nat) (v1 : Int32) (M : aM), BJ t M → w_Rd_readPolicy_L19 post n 2 v1 M → w_Rd_readPolicy_L19 post' n 2 v1 M := by
  intro n
  induction n with
  | zero => intro v1 M hB h; exact h.elim
  | succ n ih =>
    intro v1 M hB h
    unfold w_Rd_readPolicy_L19 at h ⊢
    exact ⟨(fun c1 => (b_Rd_readPolicy_J131 (h.1 c1) hB hp)), (fun c2 => (b_Rd_isFine (h.2 c2) (fun x1 g3 => ⟨(fun c4 => (b_Rd_readPolicy_J131 (g3.1 c4) hB hp)), (fun c5 => ⟨(fun c6 => (b_Rd_readPolicy_J131 ((g3.2 c5).1 c6) hB hp)), (fun c7 => (b_Rd_token ((g3.2 c5).2 c7) (fun x2 g8 => ⟨(fun c9 => (b_Rd_readSetHead (g8.1 c9) hB (fun M3 m10 g10 => (ih _ _ m10 g10)))), (fun c11 => ⟨(fun c12 => (b_Rd_readRule ((g8.2 c11).1 c12) hB (fun M4 m13 g13 => (ih _ _ m13 g13)))), (fun c14 => ⟨(fun c15 => (b_Rd_readRule (((g8.2 c11).2 c14).1 c15) hB (fun M5 m16 g16 => (ih _ _ m16 g16)))), (fun c17 => ⟨(fun c18 => (b_Rd_readDuty ((((g8.2 c11).2 c14).2 c17).1 c18) hB (fun M6 m19 g19 => (ih _ _ m19 g19)))), (fun c20 => ⟨(fun c21 => (b_Rd_readSetEnd (((((g8.2 c11).2 c14).2 c17).2 c20).1 c21) hB (fun M7 m22 g22 => (ih _ _ m22 g22)))), (fun c23 => (b_Rd_refuse (((((g8.2 c11).2 c14).2 c17).2 c20).2 c23) hB (fun M8 m24 g24 => (ih _ _ m24 g24))))⟩)⟩)⟩)⟩)⟩)))⟩)⟩)))⟩
theorem b_Rd_readPolicy_L19 {t : Nat} {post post' : aM → Prop} {n : Nat} {v1 : Int32} {M : aM} (h : w_Rd_readPolicy_L19 post n 2 v1 M) (hB : BJ t M) (hp : ∀ (y0 : aM), BJ t y0 → post y0 → post' y0) : w_Rd_readPolicy_L19 post' n 2 v1 M := b_Rd_readPolicy_L19_n hp n v1 M hB h
theorem b_Rd_readPolicy {t : Nat} {post post' : aM → Prop} {M : aM} (h : w_Rd_readPolicy post 2 M) (hB : BJ t M) (hp : ∀ (y0 : aM), BJ t y0 → post y0 → post' y0) : w_Rd_readPolicy post' 2 M := by
  unfold w_Rd_readPolicy at h ⊢
  exact (b_Rd_isFine h (fun x1 g1 => ⟨(fun c2 => (match (g1.1 c2) with | ⟨n3, h3⟩ => ⟨n3, (b_Rd_readPolicy_L19 h3 hB hp)⟩)), (fun c4 => (b_Rd_readSetHead (g1.2 c4) hB (fun M2 m5 g5 => (match g5 with | ⟨n6, h6⟩ => ⟨n6, (b_Rd_readPolicy_L19 h6 m5 hp)⟩))))⟩))

