/-! THE MODEL'S WORDS AND SIGNS. -/
theorem tyK_lt (k : Nat) : tyK k < 5 := by
  unfold tyK
  split
  · omega
  · split
    · omega
    · split <;> omega
section MP
variable {b : Nat → Nat} {n : Nat} {M0 M : aM} {i : Nat}
theorem tk_pl (hi : i < (tkOf b n).n) : (tkOf b n).pl i ≤ n := by
  rcases tk_at hi with h | h
  · omega
  · omega
theorem LM.wd (h : LM b n M0 i M) (g : (tkOf b n).k i < 28 ∨ (tkOf b n).k i = 128) : (tkOf b n).k i = wordK b ((tkOf b n).pl i) ((tkOf b n).v i) ∧ (tkOf b n).v i ≤ 12 ∧ (tkOf b n).pl i + (tkOf b n).v i ≤ n ∧ 1 ≤ (tkOf b n).k i := by
  rcases tk_at h.li with ⟨e, _, _⟩ | ⟨e1, e2, e3⟩
  · omega
  · rw [e2] at g
    have := tokA_w e1 g
    rw [e3, e2]
    exact this
theorem LM.sg (h : LM b n M0 i M) (g : tyK ((tkOf b n).k i) = 3) : (tkOf b n).pl i < n ∧ b ((tkOf b n).pl i) = (tkOf b n).k i ∧ isSg ((tkOf b n).k i) = true := by
  unfold tyK at g
  by_cases g1 : (tkOf b n).k i < 28 ∨ (tkOf b n).k i = 128
  · rw [if_pos g1] at g; omega
  rw [if_neg g1] at g
  by_cases g2 : (tkOf b n).k i = 129
  · rw [if_pos g2] at g; omega
  rw [if_neg g2] at g
  by_cases g3 : (tkOf b n).k i = 130
  · rw [if_pos g3] at g; omega
  have nb := h.nb
  rcases tk_at h.li with ⟨e, _, _⟩ | ⟨e1, e2, e3⟩
  · omega
  · have hs := tokA_s (b := b) e1 (by omega) (by omega) (by omega) (by omega)
    rw [e2]
    exact ⟨e1, hs.1.symm, by rw [hs.1]; exact hs.2⟩
theorem m_bad {post : aM → Prop} {why : Nat} {x : Int32} (h0 : TpM b n M0) (h : LM b n M0 i M) (p : ∀ M', FM b n M0 (rfi (tkOf b n) why i) M' → post M') (hx : x = nI why := by rfl) : w_Mo_bad post 136 x M := by
  subst hx
  have hp := tk_pl h.li
  have ln := h0.ln
  obtain ⟨z, hz, hz1⟩ := h.szb
  refine m_bad0 h.fl (p _ ?_)
  rw [rfi, if_neg h.nb]
  refine ⟨(h.fr.w (by unfold dLo; omega)).w (by unfold dLo; omega), ?_, by show (tkOf b n).pl i ≤ 6000; omega, rw_ss, ⟨(tkOf b n).pl i, by omega, ?_⟩, ⟨z, hz, ?_⟩⟩
  · rw [rw_sn (by omega), rw_ss, h.at_]
  · rw [rw_sn (by omega), rw_sn (by omega), h.at_]
  · rw [rw_sn (by omega), rw_sn (by omega), hz1]
theorem m_badF {post : aM → Prop} {f : Fl} {x : Int32} (h : FM b n M0 f M) (p : post M) : w_Mo_bad post 136 x M := by
  unfold w_Mo_bad
  exact nb_f h.ne p
theorem m_need {post : aM → Prop} {bb : Bool} {x : Int32} (h0 : TpM b n M0) (h : LM b n M0 i M) (p1 : bb = true → post M) (p2 : bb = false → ∀ M', FM b n M0 (rfi (tkOf b n) 2 i) M' → post M') (hx : x = bI bb := by rfl) : w_Mo_need post 136 x M := by
  subst hx
  unfold w_Mo_need
  refine nb_t h.fl ?_
  cases bb with
  | true => exact nb_f (by decide) (p1 rfl)
  | false => exact nb_t rfl (m_bad h0 h (p2 rfl))
theorem m_needF {post : aM → Prop} {f : Fl} {x : Int32} (h : FM b n M0 f M) (p : post M) : w_Mo_need post 136 x M := by
  unfold w_Mo_need
  exact nb_f h.ne p
theorem m_is {post : Int32 → Prop} {c : Nat} {x : Int32} (h0 : TpM b n M0) (h : LM b n M0 i M) (hc : isSg c = true) (p : post (bI (decide ((tkOf b n).k i = c)))) (hx : x = nI c := by rfl) : w_Mo_is post 136 x M := by
  subst hx
  have hs := isSg_b hc
  have nb := h.nb
  unfold w_Mo_is
  by_cases g : tyK ((tkOf b n).k i) = 3
  · have e : rI M 136 34 = 3 := by rw [h.ty, g]; rfl
    have hg := h.sg g
    have hs2 := isSg_b hg.2.2
    refine nb_t e ?_
    refine m_atI (h.fr.tp h0) hg.1 ?_ h.at_
    rw [hg.2.1]
    refine pk_ne ((tkOf b n).k i) c (fun z => ⟨Or.inl rfl, ?_⟩) (fun z => ⟨Or.inr rfl, ?_⟩)
    · rw [decide_eq_false z] at p; exact p
    · rw [decide_eq_true z] at p; exact p
  · have e : ¬ rI M 136 34 = 3 := by
      rw [h.ty]
      intro z
      exact g ((nI_eq (b := 3) (by have := tyK_lt ((tkOf b n).k i); omega) (by omega)).1 z)
    refine nb_f e ⟨Or.inl rfl, ?_⟩
    have hne : (tkOf b n).k i ≠ c := by
      intro z
      apply g
      rw [z, tyK, if_neg (by omega), if_neg (by omega), if_neg (by omega)]
    rw [decide_eq_false hne] at p
    exact p
theorem m_isF {post : Int32 → Prop} {f : Fl} {x : Int32} (h0 : TpM b n M0) (h : FM b n M0 f M) (p : ∀ bb, post (bI bb)) : w_Mo_is post 136 x M := by
  obtain ⟨a, ha, ha1⟩ := h.atb
  unfold w_Mo_is
  refine ⟨fun _ => ⟨Or.inl rfl, p false⟩, fun _ => ?_⟩
  by_cases g : a < n
  · exact m_atI (h.fr.tp h0) g ⟨fun _ => ⟨Or.inl rfl, p false⟩, fun _ => ⟨Or.inr rfl, p true⟩⟩ ha1
  · exact m_atM (h.fr.tp h0) (show n ≤ a by omega) ⟨fun _ => ⟨Or.inl rfl, p false⟩, fun _ => ⟨Or.inr rfl, p true⟩⟩ ha1
theorem m_eat {post : aM → Prop} {c : Nat} {x : Int32} (h0 : TpM b n M0) (h : LM b n M0 i M) (hc : isSg c = true) (p1 : (tkOf b n).k i = c → ∀ M', FT M M' → AT b n M0 (i + 1) M' → post M') (p2 : (tkOf b n).k i ≠ c → ∀ M', FM b n M0 (rfi (tkOf b n) 2 i) M' → post M') (hx : x = nI c := by rfl) : w_Mo_eat post 136 x M := by
  unfold w_Mo_eat
  have hs := isSg_b hc
  refine m_is h0 h hc ?_ hx
  refine m_need h0 h (fun z => ?_) (fun z M' f => ?_)
  · have z2 : (tkOf b n).k i = c := of_decide_eq_true z
    exact m_next h0 h (by omega) (p1 z2)
  · exact m_nextF f (p2 (of_decide_eq_false z) M' f)
theorem m_eatF {post : aM → Prop} {f : Fl} {x : Int32} (h0 : TpM b n M0) (h : FM b n M0 f M) (p : post M) : w_Mo_eat post 136 x M := by
  unfold w_Mo_eat
  exact m_isF h0 h (fun bb => m_needF h (m_nextF h p))
theorem m_isWord {post : Int32 → Prop} {j : Nat} (h0 : TpM b n M0) (h : LM b n M0 i M) (h1 : 1 ≤ j) (h2 : j < 13) (p : post (bI (decide ((tkOf b n).k i = j)))) : w_Mo_isWord post 136 (wS j) M := by
  have tp := h.fr.tp h0
  have ln := tp.ln
  have es := spN_str j h2 h1
  have hws := wS_lt j h2
  have el := spN_len j (by omega)
  have eb := spN_byte j (by omega)
  have no : (tkOf b n).k i ≠ j → ∀ (f : Nat) (y : Int32), w_Mo_isWord_L27 M post (f + 1) 136 (wS j) 0 y := by
    intro g f y
    rw [decide_eq_false g] at p
    unfold w_Mo_isWord_L27
    exact ⟨fun _ => ⟨Or.inl rfl, p⟩, fun _ => br_t rfl ⟨Or.inl rfl, p⟩⟩
  unfold w_Mo_isWord
  by_cases g : (tkOf b n).k i < 28 ∨ (tkOf b n).k i = 128
  · have hw := h.wd g
    have hty : rI M 136 34 = 1 := by rw [h.ty, tyK, if_pos g]; rfl
    have hsz := h.sz g
    have eit : (tkOf b n).k i = j ↔ mt b ((tkOf b n).pl i) ((tkOf b n).v i) (spN.getD j []) = true := by rw [hw.1]; exact wordK_iff h1 (by omega)
    refine nb_t hty ⟨by omega, ?_⟩
    rw [es, List.length_map]
    generalize spN.getD j [] = l at es el eb eit ⊢
    refine pk_ne ((tkOf b n).v i) l.length (fun z => ?_) (fun z => ?_) hsz
    · exact ⟨1, no (fun q => z ((mt_iff.1 (eit.1 q)).1.symm)) 0 0⟩
    · have key : ∀ f k, f = (tkOf b n).v i - k → k ≤ (tkOf b n).v i → (∀ k', k' < k → l.getD k' 0 = b ((tkOf b n).pl i + k')) → w_Mo_isWord_L27 M post (f + 1) 136 (wS j) 1 (nI k) := by
        intro f
        induction f with
        | zero =>
          intro k hf hk hall
          unfold w_Mo_isWord_L27
          refine pk_le ((tkOf b n).v i) k (fun _ => ⟨Or.inr rfl, ?_⟩) (fun z => by omega) hsz
          rw [decide_eq_true (eit.2 (mt_iff.2 ⟨z.symm, fun k' hk' => hall k' (by omega)⟩))] at p
          exact p
        | succ f ih =>
          intro k hf hk hall
          unfold w_Mo_isWord_L27
          refine pk_le ((tkOf b n).v i) k (fun z => by omega) (fun zk => ?_) hsz
          refine br_f (by decide) ?_
          refine m_atI (i := (tkOf b n).pl i + k) tp (by omega) ?_ (by rw [h.at_, nI_add])
          have eg : (l.map nI).getD k 0 = nI (l.getD k 0) := by
            rw [List.getD_eq_getElem?_getD, List.getElem?_map, List.getD_eq_getElem?_getD, List.getElem?_eq_getElem (by omega)]
            rfl
          rw [es, List.length_map, nI_clamp (by omega), eg, nI_1]
          refine ⟨⟨by omega, vin (by omega)⟩, ?_⟩
          have hb1 := eb k (by omega)
          have hb2 := h0.lb ((tkOf b n).pl i + k)
          refine pk_ne (b ((tkOf b n).pl i + k)) (l.getD k 0) (fun z2 => ?_) (fun z2 => ?_)
          · exact no (fun q => z2 (((mt_iff.1 (eit.1 q)).2 k (by omega)).symm)) f _
          · refine ih (k + 1) (by omega) (by omega) (fun k' hk' => ?_)
            by_cases g : k' = k
            · subst g; exact z2.symm
            · exact hall k' (by omega)
      exact ⟨_, key _ 0 rfl (by omega) (fun k' hk' => by omega)⟩
  · have e : ¬ rI M 136 34 = 1 := by
      rw [h.ty]
      intro z
      have := (nI_eq (b := 1) (by have := tyK_lt ((tkOf b n).k i); omega) (by omega)).1 z
      rw [tyK, if_neg g] at this
      split at this
      · omega
      · split at this <;> omega
    exact nb_f e ⟨1, no (by omega) 0 0⟩
end MP
/-- where the words of a row begin -/
def stF (c0 : Nat) : Nat → Nat
  | 0 => 0
  | m + 1 => stF c0 m + (spN.getD (c0 + m) []).length + 1
theorem stF_le (c0 : Nat) : ∀ m m', m ≤ m' → stF c0 m ≤ stF c0 m' := by
  intro m m' h
  induction h with
  | refl => exact Nat.le_refl _
  | step _ ih => rw [stF]; omega
/-- string number sid holds the words from c0 on -/
def AmOk (sid c0 cnt : Nat) : Prop := (sid < 59) ∧ ((tStr.getD sid []).length + 1 = stF c0 cnt) ∧ (c0 + cnt ≤ 28 ∧ 1 ≤ c0 ∧ 1 ≤ cnt ∧ (tStr.getD sid []).length < 1000) ∧ (∀ m, m < cnt → ∀ k, k < (spN.getD (c0 + m) []).length → (tStr.getD sid []).getD (stF c0 m + k) 0 = nI ((spN.getD (c0 + m) []).getD k 0) ∧ ¬ nI ((spN.getD (c0 + m) []).getD k 0) = 32) ∧ (∀ m, m < cnt → m + 1 < cnt → (tStr.getD sid []).getD (stF c0 m + (spN.getD (c0 + m) []).length) 0 = 32)
theorem AmOk.sid {sid c0 cnt : Nat} (h : AmOk sid c0 cnt) : sid < 59 := h.1
theorem AmOk.len {sid c0 cnt : Nat} (h : AmOk sid c0 cnt) : (tStr.getD sid []).length + 1 = stF c0 cnt := h.2.1
theorem AmOk.hi {sid c0 cnt : Nat} (h : AmOk sid c0 cnt) : c0 + cnt ≤ 28 ∧ 1 ≤ c0 ∧ 1 ≤ cnt ∧ (tStr.getD sid []).length < 1000 := h.2.2.1
theorem AmOk.ch {sid c0 cnt : Nat} (h : AmOk sid c0 cnt) : ∀ m, m < cnt → ∀ k, k < (spN.getD (c0 + m) []).length → (tStr.getD sid []).getD (stF c0 m + k) 0 = nI ((spN.getD (c0 + m) []).getD k 0) ∧ ¬ nI ((spN.getD (c0 + m) []).getD k 0) = 32 := h.2.2.2.1
theorem AmOk.sp {sid c0 cnt : Nat} (h : AmOk sid c0 cnt) : ∀ m, m < cnt → m + 1 < cnt → (tStr.getD sid []).getD (stF c0 m + (spN.getD (c0 + m) []).length) 0 = 32 := h.2.2.2.2
theorem am52 : AmOk 16 1 27 := ⟨by decide, by decide +kernel, by decide +kernel, by decide +kernel, by decide +kernel⟩
theorem am53 : AmOk 3 22 6 := ⟨by decide, by decide +kernel, by decide +kernel, by decide +kernel, by decide +kernel⟩
theorem am54 : AmOk 22 13 3 := ⟨by decide, by decide +kernel, by decide +kernel, by decide +kernel, by decide +kernel⟩
theorem am55 : AmOk 2 16 6 := ⟨by decide, by decide +kernel, by decide +kernel, by decide +kernel, by decide +kernel⟩
section AM
variable {b : Nat → Nat} {n : Nat} {M0 M : aM} {i : Nat}
/-- the token, at byte a with z bytes, is the word l -/
def aMt (b : Nat → Nat) (n : Nat) (M : aM) (a z : Nat) (l : List Nat) : Prop := rI M 136 34 = 1 ∧ z = l.length ∧ ∀ k, k < z → a + k < n ∧ l.getD k 0 = b (a + k)
theorem m_among0 {post : Int32 → Prop} {sid c0 cnt a z : Nat} (ok : AmOk sid c0 cnt) (tp : TpM b n M) (ha : rI M 136 35 = nI a) (hz : rI M 136 36 = nI z) (ha2 : a ≤ 6000) (hz2 : z ≤ 6000)
    (p1 : ∀ m, m < cnt → aMt b n M a z (spN.getD (c0 + m) []) → post (nI m)) (p2 : (∀ m, m < cnt → ¬ aMt b n M a z (spN.getD (c0 + m) [])) → post (-1)) : w_Mo_among post 136 sid M := by
  have ln := tp.ln
  have hs := ok.sid
  have hlen := ok.len
  have hhi := ok.hi
  unfold w_Mo_among
  generalize hL : (tStr.getD sid []).length = L at hlen hhi
  have key : ∀ f m k, f = L + 1 - (stF c0 m + k) → m < cnt → k ≤ (spN.getD (c0 + m) []).length → (∀ m', m' < m → ¬ aMt b n M a z (spN.getD (c0 + m') [])) → w_Mo_among_L7 M post (f + 1) 136 sid (nI m) (nI (stF c0 m)) (nI (stF c0 m + k)) := by
    intro f
    induction f with
    | zero =>
      intro m k hf hm hk hno
      have h1 := stF_le c0 (m + 1) cnt (by omega)
      rw [stF] at h1
      omega
    | succ f ih =>
      intro m k hf hm hk hno
      have h1 := stF_le c0 (m + 1) cnt (by omega)
      rw [stF] at h1
      have hl := spN_len (c0 + m) (by omega)
      have hby := spN_byte (c0 + m) (by omega)
      -- the word number m is over
      have seg : k = (spN.getD (c0 + m) []).length → w_Mo_among_J36 M post (w_Mo_among_L7 M post (f + 1)) 136 sid (nI m) (nI (stF c0 m)) (nI (stF c0 m + k)) := by
        intro hke
        have hch := ok.ch m hm
        have nxt : ¬ aMt b n M a z (spN.getD (c0 + m) []) → w_Mo_among_J114 M post (w_Mo_among_L7 M post (f + 1)) 136 sid (nI m) (nI (stF c0 m + k)) 0 := by
          intro hnm
          unfold w_Mo_among_J114
          refine br_t rfl ?_
          have hno2 : ∀ m', m' < m + 1 → ¬ aMt b n M a z (spN.getD (c0 + m') []) := fun m' hm' => by
            by_cases g : m' = m
            · subst g; exact hnm
            · exact hno m' (by omega)
          rw [nI_1, nI_1, show stF c0 m + k + 1 = stF c0 (m + 1) by rw [stF, hke]]
          by_cases g : m + 1 < cnt
          · have := ih (m + 1) 0 (by rw [stF]; omega) g (by omega) hno2
            exact this
          · unfold w_Mo_among_L7
            rw [hL]
            refine ⟨hs, pk_lt L (stF c0 (m + 1)) (fun _ => p2 (fun m' hm' => hno2 m' (by omega))) (fun z => ?_) rfl rfl (by omega) (by rw [stF]; omega)⟩
            rw [show m + 1 = cnt by omega] at z
            omega
        have no : ¬ aMt b n M a z (spN.getD (c0 + m) []) → ∀ (r : Nat) (y : Int32), w_Mo_among_L65 M post (w_Mo_among_L7 M post (f + 1)) (r + 1) 136 sid (nI m) (nI (stF c0 m)) (nI (stF c0 m + k)) 0 y := by
          intro hnm r y
          unfold w_Mo_among_L65
          exact ⟨fun _ => nxt hnm, fun _ => br_t rfl (nxt hnm)⟩
        unfold w_Mo_among_J36
        refine ⟨fun g => ⟨1, no (fun q => g q.1) 0 0⟩, fun g => ?_⟩
        have g1 : rI M 136 34 = 1 := by
          by_cases q : rI M 136 34 = 1
          · exact q
          · exact absurd q g
        rw [hz, pk_sub (by omega), show stF c0 m + k - stF c0 m = k by omega]
        refine pk_ne z k (fun zz => ⟨1, no (fun q => zz (by rw [q.2.1, hke])) 0 0⟩) (fun zz => ?_)
        have key2 : ∀ r x, r = z - x → x ≤ z → (∀ x', x' < x → a + x' < n ∧ (spN.getD (c0 + m) []).getD x' 0 = b (a + x')) → w_Mo_among_L65 M post (w_Mo_among_L7 M post (f + 1)) (r + 1) 136 sid (nI m) (nI (stF c0 m)) (nI (stF c0 m + k)) 1 (nI x) := by
          intro r
          induction r with
          | zero =>
            intro x hr hx hall
            unfold w_Mo_among_L65
            refine pk_le z x (fun _ => ?_) (fun q => by omega) hz
            unfold w_Mo_among_J114
            exact br_f (by decide) (p1 m hm ⟨g1, by omega, fun x' hx' => hall x' (by omega)⟩)
          | succ r ih2 =>
            intro x hr hx hall
            unfold w_Mo_among_L65
            refine pk_le z x (fun q => by omega) (fun zx => ?_) hz
            refine br_f (by decide) ?_
            have ec := hch x (by omega)
            have hb1 := hby x (by omega)
            have rest : ∀ y : Int32, (y = nI ((spN.getD (c0 + m) []).getD x 0) → a + x < n ∧ (spN.getD (c0 + m) []).getD x 0 = b (a + x)) → (¬ y = nI ((spN.getD (c0 + m) []).getD x 0) → ¬ (a + x < n ∧ (spN.getD (c0 + m) []).getD x 0 = b (a + x))) → (sid < 59 ∧ vp_in (nI (stF c0 m) + nI x) (tStr.getD sid []).length) ∧ ((¬ y = ((tStr.getD sid []).getD (nI (stF c0 m) + nI x).toNatClampNeg 0)) → w_Mo_among_L65 M post (w_Mo_among_L7 M post (f + 1)) (r + 1) 136 sid (nI m) (nI (stF c0 m)) (nI (stF c0 m + k)) ((0 : Int32)) (nI x + (1 : Int32))) ∧ (¬ (¬ y = ((tStr.getD sid []).getD (nI (stF c0 m) + nI x).toNatClampNeg 0)) → w_Mo_among_L65 M post (w_Mo_among_L7 M post (f + 1)) (r + 1) 136 sid (nI m) (nI (stF c0 m)) (nI (stF c0 m + k)) ((1 : Int32)) (nI x + (1 : Int32))) := by
              intro y hy1 hy2
              rw [nI_add, nI_clamp (by omega), hL, ec.1]
              refine ⟨⟨hs, vin (by omega)⟩, fun q => ?_, fun q => ?_⟩
              · exact no (fun mm => hy2 q (mm.2.2 x zx)) r _
              · have q2 : y = nI ((spN.getD (c0 + m) []).getD x 0) := by
                  by_cases w : y = nI ((spN.getD (c0 + m) []).getD x 0)
                  · exact w
                  · exact absurd w q
                rw [nI_1]
                refine ih2 (x + 1) (by omega) (by omega) (fun x' hx' => ?_)
                by_cases w : x' = x
                · subst w; exact hy1 q2
                · exact hall x' (by omega)
            by_cases hin : a + x < n
            · refine m_atI (i := a + x) tp hin (rest _ (fun q => ⟨hin, ?_⟩) (fun q w => q (by rw [w.2]))) (by rw [ha, nI_add])
              exact ((nI_eq (by have := tp.lb (a + x); omega) (by omega)).1 q).symm
            · refine m_atM (i := a + x) tp (by omega) (rest _ (fun q => absurd q.symm (nI_m1 (by omega))) (fun _ w => hin w.1)) (by rw [ha, nI_add])
        exact ⟨_, key2 z 0 (by omega) (by omega) (fun x' hx' => by omega)⟩
      unfold w_Mo_among_L7
      rw [hL]
      refine ⟨hs, pk_lt L (stF c0 m + k) (fun q => by omega) (fun _ => ⟨hs, ?_⟩)⟩
      refine pk_eq (stF c0 m + k) L (fun q => seg (by omega)) (fun q => ?_)
      rw [nI_clamp (by omega)]
      refine ⟨⟨hs, vin (by omega)⟩, ?_⟩
      by_cases g : k < (spN.getD (c0 + m) []).length
      · have ec := ok.ch m hm k g
        rw [ec.1]
        refine nb_f ec.2 ?_
        rw [nI_1]
        exact ih m (k + 1) (by omega) hm (by omega) hno
      · have hke : k = (spN.getD (c0 + m) []).length := by omega
        have hm1 : m + 1 < cnt := by
          by_cases w : m + 1 < cnt
          · exact w
          · have e : stF c0 (m + 1) = stF c0 cnt := by rw [show m + 1 = cnt by omega]
            rw [stF] at e
            omega
        have es := ok.sp m hm hm1
        rw [← hke] at es
        rw [es]
        exact nb_t rfl (seg hke)
  refine ⟨L + 1 + 1, ?_⟩
  have := key (L + 1) 0 0 (by rw [stF]; omega) (by omega) (by omega) (fun m' hm' => by omega)
  exact this
/-- which of the words from c0 on the token is -/
theorem m_among {post : Int32 → Prop} {sid c0 cnt : Nat} (ok : AmOk sid c0 cnt) (h0 : TpM b n M0) (h : LM b n M0 i M) (p1 : ∀ m, m < cnt → (tkOf b n).k i = c0 + m → post (nI m)) (p2 : ((tkOf b n).k i < c0 ∨ c0 + cnt ≤ (tkOf b n).k i) → post (-1)) : w_Mo_among post 136 sid M := by
  have tp := h.fr.tp h0
  have ln := tp.ln
  have hhi := ok.hi
  obtain ⟨z, hz, hz1⟩ := h.szb
  have hpl := tk_pl h.li
  have hm : ∀ m, m < cnt → (aMt b n M ((tkOf b n).pl i) z (spN.getD (c0 + m) []) ↔ (tkOf b n).k i = c0 + m) := by
    intro m hm
    by_cases g : (tkOf b n).k i < 28 ∨ (tkOf b n).k i = 128
    · have hw := h.wd g
      have hsz := h.sz g
      have ez : z = (tkOf b n).v i := (nI_eq (by omega) (by omega)).1 (by rw [← hz1, hsz])
      have hty : rI M 136 34 = 1 := by rw [h.ty, tyK, if_pos g]; rfl
      rw [hw.1, wordK_iff (by omega) (by omega), mt_iff, ez]
      constructor
      · intro q; exact ⟨q.2.1.symm, fun k hk => (q.2.2 k hk).2⟩
      · intro q; exact ⟨hty, q.1.symm, fun k hk => ⟨by omega, q.2 k hk⟩⟩
    · constructor
      · intro q
        exfalso
        have z := q.1
        rw [h.ty] at z
        have := (nI_eq (b := 1) (by have := tyK_lt ((tkOf b n).k i); omega) (by omega)).1 z
        rw [tyK, if_neg g] at this
        split at this
        · omega
        · split at this <;> omega
      · intro q; omega
  refine m_among0 ok tp h.at_ hz1 (by omega) hz (fun m hm1 q => p1 m hm1 ((hm m hm1).1 q)) (fun q => p2 ?_)
  by_cases g : (tkOf b n).k i < c0 ∨ c0 + cnt ≤ (tkOf b n).k i
  · exact g
  · exact absurd ((hm ((tkOf b n).k i - c0) (by omega)).2 (by omega)) (q _ (by omega))
theorem m_isName {post : Int32 → Prop} (h0 : TpM b n M0) (h : LM b n M0 i M) (p : post (bI (decide ((tkOf b n).k i = 128)))) : w_Mo_isName post 136 M := by
  unfold w_Mo_isName
  by_cases g : (tkOf b n).k i < 28 ∨ (tkOf b n).k i = 128
  · have hw := h.wd g
    have hty : rI M 136 34 = 1 := by rw [h.ty, tyK, if_pos g]; rfl
    refine nb_t hty ?_
    refine m_among am52 h0 h (fun m hm q => ?_) (fun q => ?_)
    · rw [decide_eq_false (by omega)] at p
      exact nb_f (nI_m1 (by omega)) ⟨Or.inl rfl, p⟩
    · rw [decide_eq_true (by omega)] at p
      exact nb_t rfl ⟨Or.inr rfl, p⟩
  · have e : ¬ rI M 136 34 = 1 := by
      rw [h.ty]
      intro z
      have := (nI_eq (b := 1) (by have := tyK_lt ((tkOf b n).k i); omega) (by omega)).1 z
      rw [tyK, if_neg g] at this
      split at this
      · omega
      · split at this <;> omega
    rw [decide_eq_false (by omega)] at p
    exact nb_f e ⟨Or.inl rfl, p⟩
theorem m_isNameF {post : Int32 → Prop} {f : Fl} (h0 : TpM b n M0) (h : FM b n M0 f M) (p : ∀ bb, post (bI bb)) : w_Mo_isName post 136 M := by
  obtain ⟨a, ha, ha1⟩ := h.atb
  obtain ⟨z, hz, hz1⟩ := h.szb
  unfold w_Mo_isName
  refine ⟨fun _ => ⟨Or.inl rfl, p false⟩, fun _ => ?_⟩
  exact m_among0 am52 (h.fr.tp h0) ha1 hz1 ha hz (fun m hm q => ⟨fun _ => ⟨Or.inl rfl, p false⟩, fun _ => ⟨Or.inr rfl, p true⟩⟩) (fun q => ⟨fun _ => ⟨Or.inl rfl, p false⟩, fun _ => ⟨Or.inr rfl, p true⟩⟩)
end AM
