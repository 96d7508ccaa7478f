/-! THE MODEL PRINTS: bytes, tests, expressions. -/
def PMo (M0 : aM) (L : List Nat) (M : aM) : Prop := (FP (fun k => k ≠ 136 ∧ k ≠ 183 ∧ k ≠ 184 ∧ k ≠ 185 ∧ k ≠ 186) M0 M) ∧ (KOk (rK M)) ∧ (∀ j, j ≠ 60 → rI M 136 j = rI M0 136 j) ∧ (rI M 136 60 = nI L.length) ∧ (∀ j, j < L.length → rI M 183 j = sx (L.getD j 0))
theorem PMo.f {M0 : aM} {L : List Nat} {M : aM} (h : PMo M0 L M) : FP (fun k => k ≠ 136 ∧ k ≠ 183 ∧ k ≠ 184 ∧ k ≠ 185 ∧ k ≠ 186) M0 M := h.1
theorem PMo.K {M0 : aM} {L : List Nat} {M : aM} (h : PMo M0 L M) : KOk (rK M) := h.2.1
theorem PMo.o {M0 : aM} {L : List Nat} {M : aM} (h : PMo M0 L M) : ∀ j, j ≠ 60 → rI M 136 j = rI M0 136 j := h.2.2.1
theorem PMo.n {M0 : aM} {L : List Nat} {M : aM} (h : PMo M0 L M) : rI M 136 60 = nI L.length := h.2.2.2.1
theorem PMo.b {M0 : aM} {L : List Nat} {M : aM} (h : PMo M0 L M) : ∀ j, j < L.length → rI M 183 j = sx (L.getD j 0) := h.2.2.2.2
/-- the machine's rows below n0 stay -/
def SB (n0 : Nat) (M M' : aM) : Prop := ∀ k j, (k = 184 ∨ k = 185 ∨ k = 186) → j < n0 → rI M' k j = rI M k j
theorem SB.refl {n0 : Nat} {M : aM} : SB n0 M M := fun _ _ _ _ => rfl
theorem SB.tr {n0 : Nat} {M M1 M' : aM} (h : SB n0 M M1) (h' : SB n0 M1 M') : SB n0 M M' := fun k j hk hj => (h' k j hk hj).trans (h k j hk hj)
theorem SB.le {n0 n1 : Nat} {M M' : aM} (h : SB n1 M M') (hn : n0 ≤ n1) : SB n0 M M' := fun k j hk hj => h k j hk (by omega)
section WP
variable {M0 M : aM} {L : List Nat} {post : aM → Prop} {T : Txt} {g : Nat → Nat} {x : Nat}
theorem w_put {c : Nat} {v : Int32} (h : PMo M0 L M) (hl : L.length < 40000) (hv : v.toInt8.toInt32 = sx c) (hc : c < 256) (q : ∀ M', PMo M0 (L ++ [c]) M' → SB 64 M M' → post M') : w_Mo_put post 136 v M := by
  unfold w_Mo_put
  rw [hv, sx_8 c hc, h.n, nI_clamp (by omega), show (rK M (136 + 47)).2 = 40000 from mK h.K 182 40000]
  refine ⟨vin (by omega), ?_⟩
  rw [show rI (wI M (136 + 47) L.length (sx c)) 136 60 = nI L.length by rw [rw_n (by omega)]; exact h.n, nI_1]
  refine q _ ⟨(h.f.w (by omega)).w (by omega), h.K, fun j hj => ?_, ?_, fun j hj => ?_⟩ (fun k j hk _ => ?_)
  · rw [rw_sn hj, rw_n (by omega)]; exact h.o j hj
  · rw [rw_ss, List.length_append]; rfl
  · rw [List.length_append] at hj
    have hj : j < L.length + 1 := hj
    rw [rw_n (by omega)]
    show rI (wI M 183 L.length (sx c)) 183 j = _
    rw [List.getD_eq_getElem?_getD]
    by_cases y : j = L.length
    · subst y; rw [rw_ss, List.getElem?_append_right (Nat.le_refl _), Nat.sub_self]; rfl
    · rw [rw_sn y, List.getElem?_append_left (by omega), ← List.getD_eq_getElem?_getD]; exact h.b j (by omega)
  · rw [rw_n (by omega), rw_n (by omega)]
theorem w_putc {c : Nat} {v : Int32} (h : PMo M0 L M) (hl : L.length + 1 ≤ 40000) (q : ∀ M', PMo M0 (L ++ [c]) M' → SB 64 M M' → post M') (hx : v = nI c := by rfl) (hc : c < 256 := by decide) : w_Mo_put post 136 v M := w_put h (by omega) (by rw [hx]; rfl) hc q
theorem w_say {id : Nat} (hid : id < 59) (h : PMo M0 L M) (hl : L.length + (sN id).length ≤ 40000) (q : ∀ M', PMo M0 (L ++ sN id) M' → SB 64 M M' → post M') : w_Mo_say post 136 id M := by
  obtain ⟨hl2, hb⟩ := sN_ok id hid
  have el := sN_len hid
  have key : ∀ n j M', j + n = (tStr.getD id []).length → SB 64 M M' → PMo M0 (L ++ (sN id).take j) M' → w_Mo_say_L2 post (n + 1) 136 id (nI j) M' := by
    intro n
    induction n with
    | zero =>
      intro j M' hj s h
      have ej : j = (tStr.getD id []).length := by omega
      unfold w_Mo_say_L2
      rw [List.take_of_length_le (by omega)] at h
      exact ⟨hid, br_t (by rw [ej]; exact Int32.le_refl _) (q M' h s)⟩
    | succ n ih =>
      intro j M' hj s h
      unfold w_Mo_say_L2
      refine ⟨hid, pk_le (tStr.getD id []).length j (fun z => by omega) (fun _ => ⟨⟨hid, vin (by omega)⟩, ?_⟩)⟩
      rw [nI_clamp (by omega), nI_1]
      have hbj := hb j (by omega)
      refine w_putc h (by rw [List.length_append, List.length_take]; omega) (fun M2 h2 s2 => ih (j + 1) M2 (by omega) (s.tr s2) ?_) hbj.1 (by omega)
      rw [tk_s (by omega), ← List.append_assoc]; exact h2
  unfold w_Mo_say
  exact ⟨_, key (tStr.getD id []).length 0 M (by omega) SB.refl (by rw [List.take_zero, List.append_nil]; exact h)⟩
theorem w_name {nl sl : Nat} {nm : Nat → Nat} (hs : sl < 324) (hnl : nl ≤ 12) (hb : ∀ j, nm j < 256) (e1 : rI M0 144 sl = nI nl) (e2 : ∀ j, j < nl → rI M0 145 (12 * sl + j) = sx (nm j)) (h : PMo M0 L M) (hl : L.length + nl ≤ 40000) (q : ∀ M', PMo M0 (L ++ sNm nl nm) M' → SB 64 M M' → post M') : w_Mo_sayName post 136 (nI sl) M := by
  have ln : (sNm nl nm).length = nl := sNm_len nl nm
  have gn : ∀ j, j < nl → (sNm nl nm).getD j 0 = nm j := fun j hj => by
    unfold sNm
    rw [List.getD_eq_getElem?_getD, List.getElem?_map, List.getElem?_range hj]; rfl
  have key : ∀ n j M', j + n = nl → SB 64 M M' → PMo M0 (L ++ (sNm nl nm).take j) M' → w_Mo_sayName_L2 post (n + 1) 136 (nI sl) (nI j) M' := by
    intro n
    induction n with
    | zero =>
      intro j M' hj s h
      have ej : j = nl := by omega
      unfold w_Mo_sayName_L2
      rw [List.take_of_length_le (by omega)] at h
      rw [nI_clamp (by omega), show rI M' (136 + 8) sl = nI nl by rw [h.f.i _ (by omega)]; exact e1, show (rK M' (136 + 8)).2 = 324 from mK h.K 143 324]
      exact ⟨vin (by omega), br_t (by rw [ej]; exact Int32.le_refl _) (q M' h s)⟩
    | succ n ih =>
      intro j M' hj s h
      unfold w_Mo_sayName_L2
      rw [nI_clamp (n := sl) (by omega), show rI M' (136 + 8) sl = nI nl by rw [h.f.i _ (by omega)]; exact e1, show (rK M' (136 + 8)).2 = 324 from mK h.K 143 324, show (12 : Int32) = nI 12 from rfl, pk_mul, nI_add, nI_clamp (n := 12 * sl + j) (by omega), show rI M' (136 + 9) (12 * sl + j) = sx (nm j) by rw [h.f.i _ (by omega)]; exact e2 j (by omega), show (rK M' (136 + 9)).2 = 3888 from mK h.K 144 3888, nI_1]
      refine ⟨vin (by omega), pk_le nl j (fun z => by omega) (fun _ => ⟨vin (by omega), ?_⟩)⟩
      refine w_put h (by rw [List.length_append, List.length_take]; omega) (sx_8 _ (hb j)) (hb j) (fun M2 h2 s2 => ih (j + 1) M2 (by omega) (s.tr s2) ?_)
      rw [tk_s (by omega), gn j (by omega), ← List.append_assoc]; exact h2
  unfold w_Mo_sayName
  exact ⟨_, key nl 0 M (by omega) SB.refl (by rw [List.take_zero, List.append_nil]; exact h)⟩
theorem w_num {v : Nat} {y : Int32} (hv : v < 1000) (h : PMo M0 L M) (hl : L.length + (sNum v).length ≤ 40000) (q : ∀ M', PMo M0 (L ++ sNum v) M' → SB 64 M M' → post M') (hx : y = nI v := by rfl) : w_Mo_sayNumber post 136 y M := by
  subst hx
  have e10 : nI v / (10 : Int32) = nI (v / 10) := pk_div (d := 10) (by omega) (by omega) (by omega)
  have e100 : nI v / (100 : Int32) = nI (v / 100) := pk_div (d := 100) (by omega) (by omega) (by omega)
  have r1 : nI v - nI v / (10 : Int32) * 10 = nI (v % 10) := pk_rem (d := 10) (by omega) (by omega) (by omega)
  have r10 : nI (v / 10) - nI (v / 10) / (10 : Int32) * 10 = nI (v / 10 % 10) := pk_rem (d := 10) (by omega) (by omega) (by omega)
  have J37 : ∀ L M', PMo M0 L M' → L.length + 1 ≤ 40000 → (∀ M2, PMo M0 (L ++ [48 + v % 10]) M2 → SB 64 M' M2 → post M2) → w_Mo_sayNumber_J37 post 136 (nI v) M' := by
    intro L M' h hl q
    unfold w_Mo_sayNumber_J37
    rw [r1]
    exact ⟨by decide, w_putc h hl q (nI_add 48 _) (by omega)⟩
  have J17 : ∀ L M', PMo M0 L M' → L.length + ((if 10 ≤ v then [48 + v / 10 % 10] else []) ++ [48 + v % 10]).length ≤ 40000 → (∀ M2, PMo M0 (L ++ ((if 10 ≤ v then [48 + v / 10 % 10] else []) ++ [48 + v % 10])) M2 → SB 64 M' M2 → post M2) → w_Mo_sayNumber_J17 post 136 (nI v) M' := by
    intro L M' h hl q
    unfold w_Mo_sayNumber_J17
    refine pk_le v 9 (fun z => ?_) (fun z => ⟨by decide, by decide, ?_⟩)
    · rw [if_neg (by omega)] at q hl; exact J37 L M' h hl q
    · rw [if_pos (show 10 ≤ v from z)] at q hl
      have hl : L.length + 2 ≤ 40000 := hl
      rw [e10, r10]
      refine w_putc h (by omega) (fun M2 h2 s2 => J37 _ M2 h2 (by rw [List.length_append]; show L.length + 1 + 1 ≤ _; omega) (fun M3 h3 s3 => q M3 ?_ (s2.tr s3))) (nI_add 48 _) (by omega)
      rw [List.append_assoc] at h3; exact h3
  unfold w_Mo_sayNumber
  unfold sNum at q hl
  refine pk_le v 99 (fun z => ?_) (fun z => ⟨by decide, ?_⟩)
  · rw [if_neg (by omega)] at q hl; exact J17 L M h hl q
  · rw [if_pos (show 100 ≤ v from z)] at q hl
    rw [List.length_append] at hl
    have hl : L.length + (1 + ((if 10 ≤ v then [48 + v / 10 % 10] else []) ++ [48 + v % 10]).length) ≤ 40000 := hl
    rw [e100]
    refine w_putc h (by omega) (fun M2 h2 s2 => J17 _ M2 h2 (by rw [List.length_append]; show L.length + 1 + _ ≤ _; omega) (fun M3 h3 s3 => q M3 ?_ (s2.tr s3))) (nI_add 48 _) (by omega)
    rw [List.append_assoc] at h3; exact h3
theorem w_blank {n : Nat} (hn : n < 1000) (h : PMo M0 L M) (hl : L.length + n ≤ 40000) (q : ∀ M', PMo M0 (L ++ blk n) M' → SB 64 M M' → post M') : w_Mo_blanks post 136 (nI n) M := by
  have key : ∀ m j M', j + m = n → SB 64 M M' → PMo M0 (L ++ blk j) M' → w_Mo_blanks_L2 post (m + 1) 136 (nI n) (nI j) M' := by
    intro m
    induction m with
    | zero =>
      intro j M' hj s h
      have ej : j = n := by omega
      subst ej
      unfold w_Mo_blanks_L2
      exact br_t (Int32.le_refl _) (q M' h s)
    | succ m ih =>
      intro j M' hj s h
      unfold w_Mo_blanks_L2
      refine pk_le n j (fun z => by omega) (fun _ => w_putc h (by rw [List.length_append]; unfold blk; rw [List.length_replicate]; omega) (fun M2 h2 s2 => ?_))
      rw [nI_1]
      refine ih (j + 1) M2 (by omega) (s.tr s2) ?_
      rw [List.append_assoc, show blk j ++ [32] = blk (j + 1) from (List.replicate_succ' ..).symm] at h2
      exact h2
  unfold w_Mo_blanks
  exact ⟨_, key n 0 M (by omega) SB.refl (by rw [show blk 0 = [] from rfl, List.append_nil]; exact h)⟩
theorem PMo.mr (h : PMo M0 L M) {c : Nat} (hc : 1 ≤ c ∧ c < 47) : rI M (136 + c) = rI M0 (136 + c) := h.f.i _ (by omega)
theorem w_list {m p : Nat} {l : List Nat} (hm : m < 256) (hp : p < 1200) (hll : l.length ≤ 8) (hv : ∀ v, v ∈ l → v < 8) (hx : rI M0 154 p = nI l.length) (hy : rI M0 155 p = nI (nib l)) (hmk : m = msk l) : ∀ n v b L M, v + n = 8 → PMo M0 L M → L.length + (slL m n v b).length ≤ 40000 → (∀ M', PMo M0 (L ++ slL m n v b) M' → SB 64 M M' → post M') → w_Mo_sayTest_L140 post (n + 1) 136 (nI p) (bI b) (nI v) M := by
  intro n
  induction n with
  | zero =>
    intro v b L M hv h hl q
    have ev : v = 8 := by omega
    subst ev
    unfold w_Mo_sayTest_L140
    exact br_t (Int32.le_refl _) (w_putc h hl q)
  | succ n ih =>
    intro v b L M hv8 h hl q
    unfold w_Mo_sayTest_L140
    rw [slL] at q hl
    refine pk_le 8 v (fun z => by omega) (fun _ => ?_)
    refine m_mask h.K hp hll hv (by rw [show rI M 154 = rI M0 154 from h.mr (c := 18) (by omega)]; exact hx) (by rw [show rI M 155 = rI M0 155 from h.mr (c := 19) (by omega)]; exact hy) ?_
    rw [← hmk, bit_get m hm v (by omega)]
    have b1 : ∀ b : Bool, ¬ bI b = 1 ↔ b = false := by decide
    refine ⟨fun z => ?_, fun z => ?_⟩
    · rw [b1] at z
      rw [if_neg (by rw [z]; decide)] at q hl
      rw [nI_1]; exact ih (v + 1) b L M (by omega) h hl q
    · rw [b1] at z
      have z : m.testBit v = true := by simpa using z
      rw [if_pos z] at q hl
      have J : ∀ L M, PMo M0 L M → L.length + (sNum v ++ slL m n (v + 1) true).length ≤ 40000 → (∀ M', PMo M0 (L ++ (sNum v ++ slL m n (v + 1) true)) M' → SB 64 M M' → post M') → w_Mo_sayTest_J172 post (w_Mo_sayTest_L140 post (n + 1)) 136 (nI p) (nI v) M := by
        intro L M h hl q
        rw [List.length_append] at hl
        unfold w_Mo_sayTest_J172
        refine w_num (v := v) (by omega) h (by omega) (fun M2 h2 s2 => ?_)
        rw [nI_1]
        exact ih (v + 1) true _ M2 (by omega) h2 (by rw [List.length_append]; omega) (fun M3 h3 s3 => q M3 (by rw [List.append_assoc] at h3; exact h3) (s2.tr s3))
      refine pk_b0 b (fun y => ?_) (fun y => ?_)
      · rw [y] at q hl; exact J L M h hl q
      · rw [y] at q hl
        have hl : L.length + (2 + (sNum v ++ slL m n (v + 1) true).length) ≤ 40000 := by rw [if_pos rfl, List.length_append] at hl; exact hl
        refine w_say (by omega) h (by show L.length + 2 ≤ _; omega) (fun M2 h2 s2 => J _ M2 h2 (by rw [List.length_append]; show L.length + 2 + _ ≤ _; omega) (fun M3 h3 s3 => q M3 ?_ (s2.tr s3)))
        rw [List.append_assoc] at h3; exact h3
theorem mkK_all {T : Txt} {p : Nat} (hl : leafOk T p) (hc : T.pk p ≠ 13 ∧ T.pk p ≠ 14 ∧ T.pk p ≠ 15) : 3 ≤ mkK (T.pk p) ∧ mkK (T.pk p) ≤ 11 := by
  have : T.pk p = 16 ∨ T.pk p = 17 ∨ T.pk p = 18 ∨ T.pk p = 19 ∨ T.pk p = 20 ∨ T.pk p = 21 ∨ T.pk p = 60 ∨ T.pk p = 61 ∨ T.pk p = 62 := by
    rcases hl with a | ⟨_, b | b | b | b | b⟩ <;> omega
  rcases this with e | e | e | e | e | e | e | e | e <;> rw [e] <;> decide
theorem w_anm {a : Nat} (R : RepM (mR M0 x) T g) (A : AI T) (hx : x ≤ 1) (ha : a < T.na) (h : PMo M0 L M) (hl : L.length + (anS T a).length ≤ 40000) (q : ∀ M', PMo M0 (L ++ anS T a) M' → SB 64 M M' → post M') : w_Mo_nameOf (fun x1 => w_Mo_sayName post 136 x1 M) (nI x) 0 (nI a) M := by
  have lna := R.lna
  have ln := R.lanl a ha
  unfold w_Mo_nameOf
  rw [m108]
  unfold anS at hl
  rw [sNm_len] at hl
  refine nb_t rfl (w_name (by omega) ln (A.b a) ?_ (fun j hj => ?_) h hl q)
  · have := R.anl a ha
    rw [mRr (by omega), show szM 8 = 108 from rfl, Nat.mul_comm] at this; exact this
  · have := R.anm a ha j hj
    rw [mRr (by omega), show szM 9 = 1296 from rfl, show x * 1296 + (12 * a + j) = 12 * (108 * x + a) + j by omega] at this; exact this
theorem w_tst {p : Nat} (R : RepM (mR M0 x) T g) (A : AI T) (hx : x ≤ 1) (hp : p < T.np) (hl : leafOk T p) (hc : T.pk p ≠ 13 ∧ T.pk p ≠ 14 ∧ T.pk p ≠ 15) (h : PMo M0 L M) (hle : L.length + (sTst T p).length ≤ 40000) (q : ∀ M', PMo M0 (L ++ sTst T p) M' → SB 64 M M' → post M') : w_Mo_sayTest post 136 (nI x) (nI (400 * x + p)) M := by
  have lnp := R.lnp
  have lna := R.lna
  have hlf : T.pa p < T.na ∧ (((T.pk p = 16 ∨ T.pk p = 20) ∧ T.pnum p < T.asz (T.pa p)) ∨ ((T.pk p = 17 ∨ T.pk p = 18) ∧ T.pnum p < 256) ∨ (T.pk p = 19 ∧ T.pnum p < T.na) ∨ ((T.pk p = 60 ∨ T.pk p = 61 ∨ T.pk p = 62) ∧ T.pnum p < 1000) ∨ T.pk p = 21) := by
    rcases hl with a | a
    · omega
    · exact a
  obtain ⟨ha, hk⟩ := hlf
  have hkk : T.pk p = 16 ∨ T.pk p = 17 ∨ T.pk p = 18 ∨ T.pk p = 19 ∨ T.pk p = 20 ∨ T.pk p = 21 ∨ T.pk p = 60 ∨ T.pk p = 61 ∨ T.pk p = 62 := by omega
  have lz := R.lasz (T.pa p) ha
  have rd : ∀ c, 1 ≤ c ∧ c < 31 → szM c = 400 → ∀ {L M}, PMo M0 L M → rI M (136 + c) (400 * x + p) = mR M0 x c p := fun c hc hs {L M} h => by rw [h.mr (by omega), mRr hc, hs, Nat.mul_comm]
  have hin : vp_in (nI (400 * x + p)) 1200 := vin (by omega)
  have k16 : ∀ {L M}, PMo M0 L M → (rK M (136 + 16)).2 = 1200 := fun {L M} h => mK h.K 151 1200
  have k18 : ∀ {L M}, PMo M0 L M → (rK M (136 + 18)).2 = 1200 := fun {L M} h => mK h.K 153 1200
  have en := R.pnum p hp
  have fin : ∀ s M' {M3}, sTst T p = anS T (T.pa p) ++ (32 :: s) → SB 64 M M3 → SB 64 M3 M' → PMo M0 (((L ++ anS T (T.pa p)) ++ [32]) ++ s) M' → post M' := fun s M' {M3} es s1 s2 h => q M' (by
    rw [es]
    simp only [List.append_assoc, List.cons_append, List.nil_append] at h ⊢
    exact h) (s1.tr s2)
  have lens : ∀ s, sTst T p = anS T (T.pa p) ++ (32 :: s) → L.length + (anS T (T.pa p)).length + 1 + s.length ≤ 40000 := fun s es => by
    rw [es] at hle
    simp only [List.length_append, List.length_cons] at hle
    omega
  unfold w_Mo_sayTest
  rw [nI_clamp (by omega), rd 17 (by omega) rfl h, R.pa p hp (by omega), show (rK M (136 + 17)).2 = 1200 from mK h.K 152 1200]
  have la : (L.length + (anS T (T.pa p)).length) + 1 ≤ 40000 := by
    unfold sTst at hle
    simp only [List.length_append, List.length_cons] at hle
    omega
  refine ⟨hin, w_anm R A hx ha h (by omega) (fun M2 h2 s2 => w_putc h2 (by rw [List.length_append]; omega) (fun M3 h3 s3 => ?_))⟩
  have S3 := s2.tr s3
  rw [rd 16 (by omega) rfl h3, R.pk p hp, k16 h3]
  have J96 : ∀ id, id < 59 → T.pnum p < 1000 → mR M0 x 18 p = nI (T.pnum p) → sTst T p = anS T (T.pa p) ++ (32 :: (sN id ++ sNum (T.pnum p))) → w_Mo_sayTest_J96 post 136 (nI (400 * x + p)) 136 id M3 := by
    intro id hid hn e18 es
    have hl2 := lens _ es
    simp only [List.length_append] at hl2
    unfold w_Mo_sayTest_J96
    refine w_say hid h3 (by simp only [List.length_append, List.length_cons, List.length_nil]; omega) (fun M4 h4 s4 => ?_)
    rw [nI_clamp (by omega), rd 18 (by omega) rfl h4, e18, k18 h4]
    refine ⟨hin, w_num hn h4 (by simp only [List.length_append, List.length_cons, List.length_nil]; omega) (fun M5 h5 s5 => fin _ M5 es S3 (s4.tr s5) ?_)⟩
    rw [List.append_assoc] at h5; exact h5
  have J265 : ∀ c, c < 256 → T.pnum p < 1000 → mR M0 x 18 p = nI (T.pnum p) → sTst T p = anS T (T.pa p) ++ (32 :: (c :: (32 :: sNum (T.pnum p)))) → w_Mo_sayTest_J265 post 136 (nI (400 * x + p)) 136 (nI c) M3 := by
    intro c hc hn e18 es
    have hl2 := lens _ es
    simp only [List.length_cons] at hl2
    unfold w_Mo_sayTest_J265
    refine w_putc h3 (by simp only [List.length_append, List.length_cons, List.length_nil]; omega) (fun M4 h4 s4 => w_putc h4 (by simp only [List.length_append, List.length_cons, List.length_nil]; omega) (fun M5 h5 s5 => ?_)) rfl hc
    rw [nI_clamp (by omega), rd 18 (by omega) rfl h5, e18, k18 h5]
    refine ⟨hin, w_num hn h5 (by simp only [List.length_append, List.length_cons, List.length_nil]; omega) (fun M6 h6 s6 => fin _ M6 es S3 (s4.tr (s5.tr s6)) ?_)⟩
    simp only [List.append_assoc, List.cons_append, List.nil_append] at h6 ⊢
    exact h6
  have J132 : ∀ id w, id < 59 → T.pnum p < 256 → (∃ l : List Nat, l.length ≤ 8 ∧ (∀ v, v ∈ l → v < 8) ∧ mR M0 x 18 p = nI l.length ∧ mR M0 x 19 p = nI (nib l) ∧ T.pnum p = msk l) → sN id = w ++ [32, 123] → sTst T p = anS T (T.pa p) ++ (32 :: (w ++ (32 :: sLs (T.pnum p)))) → w_Mo_sayTest_J132 post 136 (nI (400 * x + p)) 136 id M3 := by
    intro id w hid hn hlst ei es
    obtain ⟨l, l1, l2, l3, l4, l5⟩ := hlst
    have hl2 := lens _ es
    have ee : w ++ (32 :: sLs (T.pnum p)) = sN id ++ slL (T.pnum p) 8 0 false := by
      rw [ei]; unfold sLs
      simp only [List.append_assoc, List.cons_append, List.nil_append]
    rw [ee] at es hl2
    simp only [List.length_append] at hl2
    unfold w_Mo_sayTest_J132
    refine w_say hid h3 (by simp only [List.length_append, List.length_cons, List.length_nil]; omega) (fun M4 h4 s4 => ⟨9, ?_⟩)
    refine w_list hn (by omega) l1 l2 (by have := mRr (M := M0) (i := x) (c := 18) (j := p) (by omega); rw [show szM 18 = 400 from rfl, Nat.mul_comm] at this; rw [← this]; exact l3) (by have := mRr (M := M0) (i := x) (c := 19) (j := p) (by omega); rw [show szM 19 = 400 from rfl, Nat.mul_comm] at this; rw [← this]; exact l4) l5 8 0 false _ M4 (by omega) h4 (by simp only [List.length_append, List.length_cons, List.length_nil]; omega) (fun M5 h5 s5 => fin _ M5 es S3 (s4.tr s5) ?_)
    rw [List.append_assoc] at h5; exact h5
  have en2 : ¬ (T.pk p = 17 ∨ T.pk p = 18) → mR M0 x 18 p = nI (T.pnum p) := fun c => by unfold Nm at en; rw [if_neg c] at en; exact en.1
  have en1 : (T.pk p = 17 ∨ T.pk p = 18) → ∃ l : List Nat, l.length ≤ 8 ∧ (∀ v, v ∈ l → v < 8) ∧ mR M0 x 18 p = nI l.length ∧ mR M0 x 19 p = nI (nib l) ∧ T.pnum p = msk l := fun c => by unfold Nm at en; rw [if_pos c] at en; exact en
  refine ⟨hin, ?_⟩
  rcases hkk with e | e | e | e | e | e | e | e | e
  · rw [e]
    exact br_t rfl ⟨hin, nb_t rfl (J96 45 (by omega) (by omega) (en2 (by omega)) (by unfold sTst tlS; rw [e]; rfl))⟩
  · rw [e]
    exact br_f (by decide) (br_t rfl ⟨hin, nb_t rfl (J132 47 (wd 17) (by omega) (by omega) (en1 (by omega)) rfl (by unfold sTst tlS; rw [e]; rfl))⟩)
  · rw [e]
    exact br_f (by decide) (br_f (by decide) (br_t rfl ⟨hin, nb_f (by decide) (J132 48 (wd 18) (by omega) (by omega) (en1 (by omega)) rfl (by unfold sTst tlS; rw [e]; rfl))⟩))
  · rw [e]
    have es : sTst T p = anS T (T.pa p) ++ (32 :: (sN 50 ++ anS T (T.pnum p))) := by unfold sTst tlS; rw [e]; rfl
    have hl2 := lens _ es
    simp only [List.length_append] at hl2
    refine br_f (by decide) (br_f (by decide) (br_f (by decide) (br_f (by decide) (br_f (by decide) (br_f (by decide) (br_t rfl ?_))))))
    refine w_say (by omega) h3 (by simp only [List.length_append, List.length_cons, List.length_nil]; omega) (fun M4 h4 s4 => ?_)
    rw [rd 18 (by omega) rfl h4, en2 (by omega), k18 h4]
    refine ⟨hin, w_anm R A hx (by omega) h4 (by simp only [List.length_append, List.length_cons, List.length_nil]; omega) (fun M5 h5 s5 => fin _ M5 es S3 (s4.tr s5) ?_)⟩
    rw [List.append_assoc] at h5; exact h5
  · rw [e]
    exact br_f (by decide) (br_f (by decide) (br_f (by decide) (br_f (by decide) (br_f (by decide) (br_f (by decide) (br_f (by decide) (br_t rfl ⟨hin, nb_f (by decide) (J96 46 (by omega) (by omega) (en2 (by omega)) (by unfold sTst tlS; rw [e]; rfl))⟩)))))))
  · rw [e]
    refine br_f (by decide) (br_f (by decide) (br_f (by decide) (br_f (by decide) (br_f (by decide) (br_f (by decide) (br_f (by decide) (br_f (by decide) (br_t rfl ?_))))))))
    have es : sTst T p = anS T (T.pa p) ++ (32 :: sN 51) := by unfold sTst tlS; rw [e]; rfl
    have hl2 := lens _ es
    exact w_say (by omega) h3 (by simp only [List.length_append, List.length_cons, List.length_nil]; omega) (fun M4 h4 s4 => fin _ M4 es S3 s4 h4)
  · rw [e]
    exact br_f (by decide) (br_f (by decide) (br_f (by decide) (br_t rfl ⟨hin, nb_t rfl (J265 60 (by omega) (by omega) (en2 (by omega)) (by unfold sTst tlS; rw [e]; rfl))⟩)))
  · rw [e]
    exact br_f (by decide) (br_f (by decide) (br_f (by decide) (br_f (by decide) (br_t rfl ⟨hin, nb_f (by decide) ⟨hin, nb_t rfl (J265 61 (by omega) (by omega) (en2 (by omega)) (by unfold sTst tlS; rw [e]; rfl))⟩⟩))))
  · rw [e]
    exact br_f (by decide) (br_f (by decide) (br_f (by decide) (br_f (by decide) (br_f (by decide) (br_t rfl ⟨hin, nb_f (by decide) ⟨hin, nb_f (by decide) (J265 62 (by omega) (by omega) (en2 (by omega)) (by unfold sTst tlS; rw [e]; rfl))⟩⟩)))))
end WP
