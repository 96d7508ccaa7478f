/-! THE MODEL PRINTS expressions: its machine. -/
/-- rounds of the machine -/
def cs (T : Txt) : Nat → Nat → Nat
  | 0, _ => 0
  | h + 1, p => if T.pk p = 10 ∨ T.pk p = 11 then ((walk T (T.pj p) (T.pf p)).map (fun c => cs T h c + 1)).sum + 1
    else if T.pk p = 12 then (match T.pf p with
      | none => 0
      | some c => cs T h c) + 2
    else 1
theorem EX.kv {T : Txt} {hh lo hi p : Nat} {seg : List Nat} (e : EX T hh lo hi p seg) : T.pk p = 10 ∨ T.pk p = 11 ∨ T.pk p = 12 ∨ T.pk p = 13 ∨ T.pk p = 14 ∨ T.pk p = 15 ∨ T.pk p = 16 ∨ T.pk p = 17 ∨ T.pk p = 18 ∨ T.pk p = 19 ∨ T.pk p = 20 ∨ T.pk p = 21 ∨ T.pk p = 60 ∨ T.pk p = 61 ∨ T.pk p = 62 := by
  cases hh with
  | zero => exact e.elim
  | succ hh =>
    obtain ⟨_, _, e3⟩ := e
    rcases e3 with ⟨a1, _⟩ | ⟨a1, _⟩ | ⟨a1, _⟩
    · rcases a1 with b | ⟨_, b | b | b | b | b⟩ <;> omega
    · omega
    · omega
theorem mk_kv {k : Nat} (h : k = 10 ∨ k = 11 ∨ k = 12 ∨ k = 13 ∨ k = 14 ∨ k = 15 ∨ k = 16 ∨ k = 17 ∨ k = 18 ∨ k = 19 ∨ k = 20 ∨ k = 21 ∨ k = 60 ∨ k = 61 ∨ k = 62) : mkK k < 15 ∧ (mkK k = 13 ↔ k = 10) ∧ (mkK k = 14 ↔ k = 11) ∧ (mkK k = 12 ↔ k = 12) ∧ (12 ≤ mkK k ↔ (k = 10 ∨ k = 11 ∨ k = 12)) ∧ (2 < mkK k ↔ ¬ (k = 13 ∨ k = 14 ∨ k = 15)) := by
  rcases h with rfl | rfl | rfl | rfl | rfl | rfl | rfl | rfl | rfl | rfl | rfl | rfl | rfl | rfl | rfl <;> decide
section WX
variable {M0 : aM} {T : Txt} {g : Nat → Nat} {x : Nat}
theorem w_brk {post : Int32 → Prop} {M : aM} {k0 k1 : Nat} (h0 : k0 = 10 ∨ k0 = 11 ∨ k0 = 12) (h1 : k1 = 10 ∨ k1 = 11 ∨ k1 = 12 ∨ k1 = 13 ∨ k1 = 14 ∨ k1 = 15 ∨ k1 = 16 ∨ k1 = 17 ∨ k1 = 18 ∨ k1 = 19 ∨ k1 = 20 ∨ k1 = 21 ∨ k1 = 60 ∨ k1 = 61 ∨ k1 = 62) (q : post (bI (brk k0 k1))) : w_Mo_wantsBrackets post (nI (mkK k0)) (nI (mkK k1)) M := by
  have m0 := mk_kv (k := k0) (by omega)
  have m1 := mk_kv h1
  unfold w_Mo_wantsBrackets
  refine pk_eq (mkK k1) 13 (fun z => ⟨Or.inr rfl, ?_⟩) (fun z => pk_ne (mkK k1) 14 (fun z2 => ⟨Or.inl rfl, ?_⟩) (fun z2 => pk_eq (mkK k0) 13 (fun z3 => ⟨Or.inl rfl, ?_⟩) (fun z3 => ⟨Or.inr rfl, ?_⟩)))
  · rw [m1.2.1] at z
    subst z
    have : brk k0 10 = true := by unfold brk; simp
    rw [this] at q; exact q
  · have a : k1 ≠ 10 := fun c => z (m1.2.1.mpr c)
    have b : k1 ≠ 11 := fun c => z2 (m1.2.2.1.mpr c)
    have : brk k0 k1 = false := by unfold brk; rw [beq_false_of_ne a, beq_false_of_ne b]; rfl
    rw [this] at q; exact q
  · rw [m1.2.2.1] at z2
    rw [m0.2.1] at z3
    subst z2 z3
    exact q
  · rw [m1.2.2.1] at z2
    subst z2
    have a : k0 ≠ 10 := fun c => z3 (m0.2.1.mpr c)
    have : brk k0 11 = true := by unfold brk; rw [beq_false_of_ne a]; rfl
    rw [this] at q; exact q
/-- a child is laid on the machine -/
theorem w_push {post : aM → Prop} {K37 : Nat → Int32 → Int32 → Int32 → aM → Prop} {n0 kp c : Nat} {L : List Nat} {M : aM} (R : RepM (mR M0 x) T g) (hx : x ≤ 1) (hn : n0 < 62) (hk : kp = 10 ∨ kp = 11 ∨ kp = 12) (hc : c < T.np) (hkc : T.pk c = 10 ∨ T.pk c = 11 ∨ T.pk c = 12 ∨ T.pk c = 13 ∨ T.pk c = 14 ∨ T.pk c = 15 ∨ T.pk c = 16 ∨ T.pk c = 17 ∨ T.pk c = 18 ∨ T.pk c = 19 ∨ T.pk c = 20 ∨ T.pk c = 21 ∨ T.pk c = 60 ∨ T.pk c = 61 ∨ T.pk c = 62) (h : PMo M0 L M) (q : ∀ M', PMo M0 L M' → SB n0 M M' → rI M' 184 n0 = rI M 184 n0 → rI M' 185 n0 = rI M 185 n0 → rI M' 186 n0 = oI (T.pn c) → rI M' 184 (n0 + 1) = nI c → rI M' 185 (n0 + 1) = bI (brk kp (T.pk c)) → rI M' 186 (n0 + 1) = oI (T.pf c) → K37 136 (nI x) (nI (n0 + 1 + 1)) 1 M') : w_Mo_sayExpression_J237 post K37 136 (nI x) (nI (n0 + 1)) (nI n0) (nI (mkK kp)) (nI c) M := by
  have lnp := R.lnp
  have rd : ∀ c', 1 ≤ c' ∧ c' < 31 → szM c' = 400 → rI M0 (136 + c') (400 * x + c) = mR M0 x c' c := fun c' hc' hs => by rw [mRr hc', hs, Nat.mul_comm]
  have e21 : rI M (136 + 21) (400 * x + c) = oI (T.pn c) := by rw [h.mr (by omega), rd 21 (by omega) rfl]; exact R.pn c hc
  have e16 : rI M (136 + 16) (400 * x + c) = nI (mkK (T.pk c)) := by rw [h.mr (by omega), rd 16 (by omega) rfl]; exact R.pk c hc
  have e20 : rI M (136 + 20) (400 * x + c) = oI (T.pf c) := by rw [h.mr (by omega), rd 20 (by omega) rfl]; exact R.pf c hc
  have K := h.K
  unfold w_Mo_sayExpression_J237
  rw [m400, nI_clamp (n := 400 * x + c) (by omega), nI_clamp (n := n0) (by omega), nI_clamp (n := n0 + 1) (by omega), e21]
  rw [show (rK M (136 + 21)).2 = 1200 from mK K 156 1200, show (rK M (136 + 50)).2 = 64 from mK K 185 64, show (rK M (136 + 48)).2 = 64 from mK K 183 64, show (rK M (136 + 16)).2 = 1200 from mK K 151 1200, show (rK M (136 + 49)).2 = 64 from mK K 184 64, show (rK M (136 + 20)).2 = 1200 from mK K 155 1200]
  refine ⟨vin (by omega), vin (by omega), vin (by omega), vin (by omega), ?_⟩
  rw [show rI (wI (wI M (136 + 50) n0 (oI (T.pn c))) (136 + 48) (n0 + 1) (nI c)) (136 + 16) (400 * x + c) = nI (mkK (T.pk c)) by rw [rw_n (by omega), rw_n (by omega)]; exact e16]
  refine w_brk hk hkc ⟨⟨vin (by omega), bI_01 _⟩, vin (by omega), vin (by omega), ?_⟩
  rw [show rI (wI (wI (wI M (136 + 50) n0 (oI (T.pn c))) (136 + 48) (n0 + 1) (nI c)) (136 + 49) (n0 + 1) (bI (brk kp (T.pk c)))) (136 + 20) (400 * x + c) = oI (T.pf c) by rw [rw_n (by omega), rw_n (by omega), rw_n (by omega)]; exact e20, nI_1]
  refine q _ ⟨(((h.f.w (by omega)).w (by omega)).w (by omega)).w (by omega), K, fun j hj => ?_, ?_, fun j hj => ?_⟩ (fun k j hk hj => ?_) ?_ ?_ ?_ ?_ ?_ ?_
  · rw [rw_n (by omega), rw_n (by omega), rw_n (by omega), rw_n (by omega)]; exact h.o j hj
  · rw [rw_n (by omega), rw_n (by omega), rw_n (by omega), rw_n (by omega)]; exact h.n
  · rw [rw_n (by omega), rw_n (by omega), rw_n (by omega), rw_n (by omega)]; exact h.b j hj
  · rw [rw_e, if_neg (by omega), rw_e, if_neg (by omega), rw_e, if_neg (by omega), rw_e, if_neg (by omega)]
  · rw [rw_n (by omega), rw_n (by omega), show (184 : Nat) = 136 + 48 from rfl, rw_sn (by omega), rw_n (by omega)]
  · rw [rw_n (by omega), show (185 : Nat) = 136 + 49 from rfl, rw_sn (by omega), rw_n (by omega), rw_n (by omega)]
  · rw [show (186 : Nat) = 136 + 50 from rfl, rw_sn (by omega), rw_n (by omega), rw_n (by omega), rw_ss]
  · rw [rw_n (by omega), rw_n (by omega), show (184 : Nat) = 136 + 48 from rfl, rw_ss]
  · rw [rw_n (by omega), show (185 : Nat) = 136 + 49 from rfl, rw_ss]
  · rw [show (186 : Nat) = 136 + 50 from rfl, rw_ss]
theorem sBr_len (b : Bool) (l : List Nat) : (sBr b l).length = l.length + (if b then 2 else 0) := by
  unfold sBr
  cases b
  · rfl
  · show (40 :: (l ++ [41])).length = l.length + 2
    rw [List.length_cons, List.length_append]; rfl
theorem w_ex (R : RepM (mR M0 x) T g) (A : AI T) (hx : x ≤ 1) : ∀ (hh n0 lo hi p : Nat) (seg : List Nat) (b : Bool) (L : List Nat) (M : aM) (F : Nat) (post : aM → Prop), EX T hh lo hi p seg → hi ≤ T.np → n0 + hh ≤ 60 → (b = true → T.pk p = 10 ∨ T.pk p = 11) → PMo M0 L M → rI M 184 n0 = nI p → rI M 185 n0 = bI b → rI M 186 n0 = oI (T.pf p) → L.length + (sBr b (sEx T hh p)).length ≤ 40000 → (∀ M', PMo M0 (L ++ sBr b (sEx T hh p)) M' → SB n0 M M' → w_Mo_sayExpression_L37 post F 136 (nI x) (nI n0) 0 M') → w_Mo_sayExpression_L37 post (F + cs T hh p) 136 (nI x) (nI (n0 + 1)) 1 M := by
  have lnp := R.lnp
  intro hh
  induction hh with
  | zero => intro n0 lo hi p seg b L M F post e; exact e.elim
  | succ hh ih =>
    intro n0 lo hi p seg b L M F post e hhi hn hb h e48 e49 e50 hle q
    have hkv := EX.kv e
    have mk := mk_kv hkv
    obtain ⟨e1, e2, e3⟩ := e
    have hp : p < T.np := by omega
    have rd : ∀ c', 1 ≤ c' ∧ c' < 31 → szM c' = 400 → rI M0 (136 + c') (400 * x + p) = mR M0 x c' p := fun c' hc' hs => by rw [mRr hc', hs, Nat.mul_comm]
    -- one look at the top of the machine
    have top : ∀ {n : Nat} {v4 : Int32} {L : List Nat} {M : aM}, PMo M0 L M → rI M 184 n0 = nI p →
        ((12 ≤ mkK (T.pk p)) → ((v4 = ((0 : Int32))) → w_Mo_sayExpression_J153 post (w_Mo_sayExpression_L37 post n) 136 (nI x) (nI (n0 + 1)) v4 (nI n0) (nI (mkK (T.pk p))) M) ∧ (¬ (v4 = ((0 : Int32))) → (vp_in (nI n0) 64) ∧ ((((rI M 185 n0) = ((0 : Int32))) → w_Mo_sayExpression_J153 post (w_Mo_sayExpression_L37 post n) 136 (nI x) (nI (n0 + 1)) v4 (nI n0) (nI (mkK (T.pk p))) M) ∧ (¬ ((rI M 185 n0) = ((0 : Int32))) → w_Mo_put (fun M1 => w_Mo_sayExpression_J153 post (w_Mo_sayExpression_L37 post n) 136 (nI x) (nI (n0 + 1)) v4 (nI n0) (nI (mkK (T.pk p))) M1) 136 ((40 : Int32)) M)))) →
        ((2 < mkK (T.pk p)) → mkK (T.pk p) < 12 → w_Mo_sayTest (fun M2 => w_Mo_sayExpression_L37 post n 136 (nI x) (nI n0) ((0 : Int32)) M2) 136 (nI x) (nI (400 * x + p)) M) →
        (mkK (T.pk p) ≤ 2 → w_Mo_say (fun M1 => w_Mo_sayExpression_L37 post n 136 (nI x) (nI n0) ((0 : Int32)) M1) 136 (42 + mkK (T.pk p)) M) → w_Mo_sayExpression_L37 post (n + 1) 136 (nI x) (nI (n0 + 1)) v4 M := by
      intro n v4 L M h e48 q1 q2 q3
      have K := h.K
      have e16 : rI M (136 + 16) (400 * x + p) = nI (mkK (T.pk p)) := by rw [h.mr (by omega), rd 16 (by omega) rfl]; exact R.pk p hp
      have e48 : rI M (136 + 48) n0 = nI p := e48
      unfold w_Mo_sayExpression_L37
      rw [show nI (n0 + 1) - 1 = nI n0 from nI_pred n0, nI_clamp (n := n0) (by omega), e48, m400, nI_clamp (n := 400 * x + p) (by omega), e16, show (rK M (136 + 48)).2 = 64 from mK K 183 64, show (rK M (136 + 16)).2 = 1200 from mK K 151 1200, show (rK M (136 + 49)).2 = 64 from mK K 184 64]
      refine br_f (nI_nle (by omega) (by omega)) ⟨vin (by omega), vin (by omega), pk_le 12 (mkK (T.pk p)) (fun z => ?_) (fun z => ?_)⟩
      · exact q1 z
      · refine pk_lt 2 (mkK (T.pk p)) (fun z2 => ?_) (fun z2 => ?_)
        · rw [pk_m1]; exact q2 z2 z
        · have q3 := q3 z2
          unfold w_Mo_sayExpression_J110
          rw [pk_m1]
          refine pk_ne (mkK (T.pk p)) 0 (fun z3 => pk_ne (mkK (T.pk p)) 1 (fun z4 => ?_) (fun z4 => ?_)) (fun z3 => ?_)
          · rw [show mkK (T.pk p) = 2 by omega] at q3; exact q3
          · rw [z4] at q3; exact q3
          · rw [z3] at q3; exact q3
    -- what is behind the last member
    have lst : ∀ {L : List Nat} {M : aM} {kp : Nat}, PMo M0 L M → rI M 185 n0 = bI b → rI M 186 n0 = -1 → L.length + (if b then [41] else []).length ≤ 40000 → (∀ M', PMo M0 (L ++ (if b then [41] else [])) M' → SB n0 M M' → w_Mo_sayExpression_L37 post F 136 (nI x) (nI n0) 0 M') → w_Mo_sayExpression_J172 post (w_Mo_sayExpression_L37 post F) 136 (nI x) (nI (n0 + 1)) 0 (nI n0) (nI kp) M := by
      intro L M kp h e49 e50 hle q
      have K := h.K
      have e49 : rI M (136 + 49) n0 = bI b := e49
      have e50 : rI M (136 + 50) n0 = -1 := e50
      unfold w_Mo_sayExpression_J172
      rw [nI_clamp (by omega), e50, e49, show (rK M (136 + 50)).2 = 64 from mK K 185 64, show (rK M (136 + 49)).2 = 64 from mK K 184 64, pk_m1]
      refine ⟨vin (by omega), nb_t rfl ⟨vin (by omega), pk_b0 b (fun z => ?_) (fun z => ?_)⟩⟩
      · rw [z] at q
        exact q M (by show PMo M0 (L ++ []) M; rw [List.append_nil]; exact h) SB.refl
      · rw [z] at q hle
        exact w_putc h hle (fun M1 h1 s1 => q M1 h1 (s1.le (by omega)))
    -- a child, and back
    have chd : ∀ {L : List Nat} {M : aM} {c lo' hi' : Nat} {sg : List Nat} {F' : Nat}, (T.pk p = 10 ∨ T.pk p = 11 ∨ T.pk p = 12) → EX T hh lo' hi' c sg → hi' ≤ T.np → PMo M0 L M → rI M 184 n0 = nI p → rI M 185 n0 = bI b → L.length + (sBr (brk (T.pk p) (T.pk c)) (sEx T hh c)).length ≤ 40000 → (∀ M', PMo M0 (L ++ sBr (brk (T.pk p) (T.pk c)) (sEx T hh c)) M' → SB n0 M M' → rI M' 184 n0 = nI p → rI M' 185 n0 = bI b → rI M' 186 n0 = oI (T.pn c) → w_Mo_sayExpression_L37 post F' 136 (nI x) (nI (n0 + 1)) 0 M') → w_Mo_sayExpression_J237 post (w_Mo_sayExpression_L37 post (F' + cs T hh c)) 136 (nI x) (nI (n0 + 1)) (nI n0) (nI (mkK (T.pk p))) (nI c) M := by
      intro L M c lo' hi' sg F' hk ec hhi' h e48 e49 hle q
      have hc := EX.in_ ec
      refine w_push R hx (by omega) hk (by omega) (EX.kv ec) h (fun M1 h1 s1 a1 a2 a3 b1 b2 b3 => ?_)
      refine ih (n0 + 1) lo' hi' c sg _ L M1 F' post ec hhi' (by omega) (fun z => ?_) h1 b1 b2 b3 hle (fun M2 h2 s2 => q M2 h2 (s1.tr (s2.le (by omega))) ?_ ?_ ?_)
      · unfold brk at z
        simp only [Bool.and_eq_true, Bool.or_eq_true, beq_iff_eq] at z
        exact z.1
      · rw [s2 _ _ (by omega) (by omega), a1]; exact e48
      · rw [s2 _ _ (by omega) (by omega), a2]; exact e49
      · rw [s2 _ _ (by omega) (by omega)]; exact a3
    rcases e3 with ⟨a1, _⟩ | ⟨a1, a2, c, lo', hi', sg, a3, a4, a5, a6, a7, a8, a9⟩ | ⟨a1, ms, a2, a3, a4, a5, a6⟩
    · -- a leaf
      have hk : T.pk p ≠ 10 ∧ T.pk p ≠ 11 ∧ T.pk p ≠ 12 := by
        rcases a1 with b | ⟨_, b | b | b | b | b⟩ <;> omega
      have hbf : b = false := by
        cases b with
        | false => rfl
        | true => have := hb rfl; omega
      rw [hbf] at q hle
      have q : ∀ M', PMo M0 (L ++ sEx T (hh + 1) p) M' → SB n0 M M' → w_Mo_sayExpression_L37 post F 136 (nI x) (nI n0) 0 M' := q
      have hle : L.length + (sEx T (hh + 1) p).length ≤ 40000 := hle
      rw [sEx, if_neg hk.1, if_neg hk.2.1, if_neg hk.2.2] at q hle
      rw [cs, if_neg (by omega), if_neg hk.2.2]
      refine top h e48 (fun z => ?_) (fun z z2 => ?_) (fun z => ?_)
      · have := mk.2.2.2.2.1.mp z; omega
      · have hc := mk.2.2.2.2.2.mp z
        rw [if_neg hc] at q hle
        exact w_tst R A hx hp a1 (by omega) h hle (fun M1 h1 s1 => q M1 h1 (s1.le (by omega)))
      · have hc : T.pk p = 13 ∨ T.pk p = 14 ∨ T.pk p = 15 := by
          by_cases y : T.pk p = 13 ∨ T.pk p = 14 ∨ T.pk p = 15
          · exact y
          · have := mk.2.2.2.2.2.mpr y; omega
        rw [if_pos hc] at q hle
        have ei : wd (T.pk p) = sN (42 + mkK (T.pk p)) := by rcases hc with z | z | z <;> rw [z] <;> rfl
        rw [ei] at q hle
        exact w_say (by rcases hc with z | z | z <;> rw [z] <;> decide) h hle (fun M1 h1 s1 => q M1 h1 (s1.le (by omega)))
    · -- not
      have hbf : b = false := by
        cases b with
        | false => rfl
        | true => have := hb rfl; omega
      subst hbf
      have q : ∀ M', PMo M0 (L ++ sEx T (hh + 1) p) M' → SB n0 M M' → w_Mo_sayExpression_L37 post F 136 (nI x) (nI n0) 0 M' := q
      have hle : L.length + (sEx T (hh + 1) p).length ≤ 40000 := hle
      rw [sEx, if_neg (by omega), if_neg (by omega), if_pos a1, a3] at q hle
      dsimp only at q hle
      rw [List.length_append] at hle
      rw [cs, if_neg (by omega), if_pos a1, a3]
      dsimp only
      rw [show F + (cs T hh c + 2) = (F + 1 + cs T hh c) + 1 by omega]
      refine top h e48 (fun z => br_f (by decide) ⟨vin (by omega), ?_⟩) (fun z z2 => ?_) (fun z => ?_)
      · rw [e49]
        refine br_t rfl ?_
        unfold w_Mo_sayExpression_J153
        rw [a1]
        refine br_f (by decide) (nb_t rfl (w_say (by omega) h (by omega) (fun M1 h1 s1 => ?_)))
        have K1 := h1.K
        unfold w_Mo_sayExpression_J172
        have f48 : rI M1 184 n0 = nI p := by rw [s1 _ _ (by omega) (by omega)]; exact e48
        have f49 : rI M1 185 n0 = bI false := by rw [s1 _ _ (by omega) (by omega)]; exact e49
        have f50 : rI M1 (136 + 50) n0 = nI c := by
          have := s1 186 n0 (by omega) (by omega)
          rw [e50, a3] at this; exact this
        have hc := EX.in_ a7
        rw [nI_clamp (by omega), f50, show (rK M1 (136 + 50)).2 = 64 from mK K1 185 64]
        refine ⟨vin (by omega), nb_f (nI_m1 (by omega)) (nb_f (by decide) ?_)⟩
        have := chd (F' := F + 1) (L := L ++ sN 52) (by omega) a7 (by omega) h1 f48 f49 (by rw [List.length_append, a1]; omega) (fun M2 h2 s2 g48 g49 g50 => ?_)
        · rw [a1] at this; exact this
        · refine top h2 g48 (fun z => br_t rfl ?_) (fun z z2 => ?_) (fun z => ?_)
          · unfold w_Mo_sayExpression_J153
            refine br_t rfl (lst h2 g49 (by rw [g50, a9]; rfl) ?_ (fun M3 h3 s3 => q M3 ?_ ((s1.le (by omega)).tr (s2.tr s3))))
            · show (L ++ sN 52 ++ sBr (brk (T.pk p) (T.pk c)) (sEx T hh c)).length + 0 ≤ _
              rw [List.length_append, List.length_append, a1]; omega
            · have h3 : PMo M0 (L ++ sN 52 ++ sBr (brk (T.pk p) (T.pk c)) (sEx T hh c) ++ []) M3 := h3
              rw [a1, List.append_nil, List.append_assoc] at h3; exact h3
          · have := mk.2.2.2.2.1.mpr (by omega); omega
          · have := mk.2.2.2.2.1.mpr (by omega); omega
      · have := mk.2.2.2.2.1.mpr (by omega); omega
      · have := mk.2.2.2.2.1.mpr (by omega); omega
    · -- a joint
      have h12 : 12 ≤ mkK (T.pk p) := mk.2.2.2.2.1.mpr (by omega)
      have hwk : walk T (T.pj p) (T.pf p) = ms.map Prod.fst := by rw [← a3]; exact walk_chn ms _ _ a4
      have hsp : ∃ sp, (T.pk p = 10 ∧ sp = 53 ∨ T.pk p = 11 ∧ sp = 54) := by
        rcases a1 with z | z
        · exact ⟨53, Or.inl ⟨z, rfl⟩⟩
        · exact ⟨54, Or.inr ⟨z, rfl⟩⟩
      obtain ⟨sp, hsp⟩ := hsp
      have esx : sEx T (hh + 1) p = sJs (sN sp) (ms.map (fun m => sBr (brk (T.pk p) (T.pk m.1)) (sEx T hh m.1))) := by
        rw [sEx, hwk, List.map_map, List.map_map]
        rcases hsp with ⟨z, z2⟩ | ⟨z, z2⟩
        · rw [if_pos z, z, z2]; rfl
        · rw [if_neg (by omega), if_pos z, z, z2]; rfl
      have ecs : cs T (hh + 1) p = (ms.map (fun m => cs T hh m.1 + 1)).sum + 1 := by
        rw [cs, if_pos a1, hwk, List.map_map]; rfl
      rw [esx] at q hle
      rw [ecs]
      have rest : ∀ (l : List Mb) (oo : Option Nat) (lo2 : Nat) (L : List Nat) (M : aM), (∀ m, m ∈ l → m ∈ ms) → chn T oo lo2 l → PMo M0 L M → rI M 184 n0 = nI p → rI M 185 n0 = bI b → rI M 186 n0 = oI oo → L.length + (l.flatMap (fun m : Mb => sN sp ++ sBr (brk (T.pk p) (T.pk m.1)) (sEx T hh m.1)) ++ (if b then [41] else [])).length ≤ 40000 → (∀ M', PMo M0 (L ++ (l.flatMap (fun m : Mb => sN sp ++ sBr (brk (T.pk p) (T.pk m.1)) (sEx T hh m.1)) ++ (if b then [41] else []))) M' → SB n0 M M' → w_Mo_sayExpression_L37 post F 136 (nI x) (nI n0) 0 M') → w_Mo_sayExpression_L37 post (F + ((l.map (fun m => cs T hh m.1 + 1)).sum + 1)) 136 (nI x) (nI (n0 + 1)) 0 M := by
        intro l
        induction l with
        | nil =>
          intro oo lo2 L M _ hc h e48 e49 e50 hle q
          rw [List.flatMap_nil, List.nil_append] at q hle
          show w_Mo_sayExpression_L37 post (F + 1) 136 (nI x) (nI (n0 + 1)) 0 M
          refine top h e48 (fun _ => br_t rfl ?_) (fun z z2 => by omega) (fun z => by omega)
          unfold w_Mo_sayExpression_J153
          exact br_t rfl (lst h e49 (by rw [e50, show oo = none from hc]; rfl) hle q)
        | cons m l ihl =>
          intro oo lo2 L M hms hc h e48 e49 e50 hle q
          obtain ⟨c1, c2, c3, c4, c5⟩ := hc
          obtain ⟨d1, d2, d3⟩ := a5 m (hms m (List.mem_cons_self ..))
          have hm := EX.in_ d3
          rw [List.flatMap_cons] at q hle
          simp only [List.length_append] at hle
          rw [List.map_cons, List.sum_cons, show F + (cs T hh m.1 + 1 + (l.map (fun m => cs T hh m.1 + 1)).sum + 1) = (F + ((l.map (fun m => cs T hh m.1 + 1)).sum + 1) + cs T hh m.1) + 1 by omega]
          refine top h e48 (fun _ => br_t rfl ?_) (fun z z2 => by omega) (fun z => by omega)
          unfold w_Mo_sayExpression_J153 w_Mo_sayExpression_J172
          have K := h.K
          have f50 : rI M (136 + 50) n0 = nI m.1 := by rw [c1] at e50; exact e50
          rw [nI_clamp (by omega), f50, show (rK M (136 + 50)).2 = 64 from mK K 185 64]
          refine br_t rfl ⟨vin (by omega), nb_f (nI_m1 (by omega)) (nb_t rfl ?_)⟩
          have go : ∀ M1, PMo M0 (L ++ sN sp) M1 → SB 64 M M1 → w_Mo_sayExpression_J237 post (w_Mo_sayExpression_L37 post (F + ((l.map (fun m => cs T hh m.1 + 1)).sum + 1) + cs T hh m.1)) 136 (nI x) (nI (n0 + 1)) (nI n0) (nI (mkK (T.pk p))) (nI m.1) M1 := by
            intro M1 h1 s1
            refine chd (by omega) d3 (by omega) h1 (by rw [s1 _ _ (by omega) (by omega)]; exact e48) (by rw [s1 _ _ (by omega) (by omega)]; exact e49) (by rw [List.length_append]; omega) (fun M2 h2 s2 g48 g49 g50 => ?_)
            refine ihl (T.pn m.1) m.2.1.2 _ M2 (fun m' hm' => hms m' (List.mem_cons_of_mem _ hm')) c5 h2 g48 g49 g50 (by simp only [List.length_append]; omega) (fun M3 h3 s3 => q M3 ?_ ((s1.le (by omega)).tr (s2.tr s3)))
            simp only [List.append_assoc] at h3 ⊢
            exact h3
          unfold w_Mo_sayExpression_J234
          refine pk_ne (mkK (T.pk p)) 13 (fun z => ?_) (fun z => ?_)
          · have : sp = 54 := by
              rcases hsp with ⟨y, _⟩ | ⟨_, y⟩
              · exact absurd (mk.2.1.mpr y) z
              · exact y
            subst this
            exact w_say (by omega) h (by omega) go
          · have : sp = 53 := by
              have := mk.2.1.mp z
              omega
            subst this
            exact w_say (by omega) h (by omega) go
      cases hms : ms with
      | nil => rw [hms] at a2; exact absurd a2 (by decide)
      | cons m l =>
        rw [hms] at q hle a4
        obtain ⟨c1, c2, c3, c4, c5⟩ := a4
        obtain ⟨d1, d2, d3⟩ := a5 m (by rw [hms]; exact List.mem_cons_self ..)
        have hm := EX.in_ d3
        rw [List.map_cons, sJs, List.flatMap_map] at q hle
        rw [List.map_cons, List.sum_cons, show F + (cs T hh m.1 + 1 + (l.map (fun m => cs T hh m.1 + 1)).sum + 1) = (F + ((l.map (fun m => cs T hh m.1 + 1)).sum + 1) + cs T hh m.1) + 1 by omega]
        rw [sBr_len, List.length_append] at hle
        have bl : (if b then [41] else ([] : List Nat)).length ≤ 1 := by cases b <;> decide
        have mid : ∀ L1 M1, PMo M0 L1 M1 → SB 64 M M1 → L1 = L ++ (if b then [40] else []) → w_Mo_sayExpression_J153 post (w_Mo_sayExpression_L37 post (F + ((l.map (fun m => cs T hh m.1 + 1)).sum + 1) + cs T hh m.1)) 136 (nI x) (nI (n0 + 1)) 1 (nI n0) (nI (mkK (T.pk p))) M1 := by
          intro L1 M1 h1 s1 eL
          have ll : L1.length = L.length + (if b then 1 else 0) := by rw [eL, List.length_append]; cases b <;> rfl
          unfold w_Mo_sayExpression_J153 w_Mo_sayExpression_J172
          have K1 := h1.K
          have f50 : rI M1 (136 + 50) n0 = nI m.1 := by
            have := s1 186 n0 (by omega) (by omega)
            rw [e50, c1] at this; exact this
          rw [nI_clamp (by omega), f50, show (rK M1 (136 + 50)).2 = 64 from mK K1 185 64]
          have h13 : ¬ mkK (T.pk p) = 12 := fun z => by have := mk.2.2.2.1.mp z; omega
          refine br_f (by decide) (pk_ne (mkK (T.pk p)) 12 (fun _ => ⟨vin (by omega), nb_f (nI_m1 (by omega)) (nb_f (by decide) ?_)⟩) (fun z => absurd z h13))
          refine chd (by omega) d3 (by omega) h1 (by rw [s1 _ _ (by omega) (by omega)]; exact e48) (by rw [s1 _ _ (by omega) (by omega)]; exact e49) (by rw [ll]; cases b <;> simp at hle ⊢ <;> omega) (fun M2 h2 s2 g48 g49 g50 => ?_)
          refine rest l (T.pn m.1) m.2.1.2 _ M2 (fun m' hm' => by rw [hms]; exact List.mem_cons_of_mem _ hm') c5 h2 g48 g49 g50 ?_ (fun M3 h3 s3 => q M3 ?_ ((s1.le (by omega)).tr (s2.tr s3)))
          · rw [List.length_append, ll, List.length_append]; cases b <;> simp at hle bl ⊢ <;> omega
          · rw [eL] at h3
            unfold sBr at h3 ⊢
            cases b <;> (simp only [List.append_assoc, List.cons_append, List.nil_append, List.append_nil, if_true, Bool.false_eq_true, if_false] at h3 ⊢; exact h3)
        refine top h e48 (fun _ => br_f (by decide) ⟨vin (by omega), ?_⟩) (fun z z2 => by omega) (fun z => by omega)
        rw [e49]
        refine pk_b0 b (fun z => mid L M h SB.refl ?_) (fun z => w_putc h ?_ (fun M1 h1 s1 => mid _ M1 h1 s1 ?_))
        · rw [z]; exact (List.append_nil _).symm
        · rw [z] at hle; simp at hle; omega
        · rw [z]; rfl
end WX
