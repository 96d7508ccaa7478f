/-! WHAT IS PRINTED, as a function; how the class puts bytes. -/
/-- the program's texts, and three more -/
def sX : List (List Int32) := tStr ++ [[59, 10], [125, 10], [32, 123, 10]]
theorem sX_t {id : Nat} (h : id < 59) : sX.getD id [] = tStr.getD id [] := by
  unfold sX
  rw [List.getD_eq_getElem?_getD, List.getElem?_append_left (by rw [tStr_len]; exact h), ← List.getD_eq_getElem?_getD]
def sN (id : Nat) : List Nat := (sX.getD id []).map (fun x => x.toNatClampNeg)
theorem sN_len {id : Nat} (h : id < 59) : (sN id).length = (tStr.getD id []).length := by unfold sN; rw [List.length_map, sX_t h]
theorem sN_ok : ∀ id, id < 59 → (tStr.getD id []).length < 200 ∧ ∀ j, j < (tStr.getD id []).length → (tStr.getD id []).getD j 0 = nI ((sN id).getD j 0) ∧ (sN id).getD j 0 < 128 := by
  have h : (List.range 59).all (fun id => decide ((tStr.getD id []).length < 200) && (List.range (tStr.getD id []).length).all (fun j => decide ((tStr.getD id []).getD j 0 = nI ((sN id).getD j 0)) && decide ((sN id).getD j 0 < 128))) = true := by decide +kernel
  intro id hid
  have h1 := List.all_eq_true.mp h id (List.mem_range.mpr hid)
  rw [Bool.and_eq_true, decide_eq_true_eq, List.all_eq_true] at h1
  refine ⟨h1.1, fun j hj => ?_⟩
  have h2 := h1.2 j (List.mem_range.mpr hj)
  rw [Bool.and_eq_true, decide_eq_true_eq, decide_eq_true_eq] at h2
  exact h2
def sNum (v : Nat) : List Nat := (if 100 ≤ v then [48 + v / 100] else []) ++ ((if 10 ≤ v then [48 + v / 10 % 10] else []) ++ [48 + v % 10])
def sNm (nl : Nat) (nm : Nat → Nat) : List Nat := (List.range nl).map nm
theorem sNm_len (nl : Nat) (nm : Nat → Nat) : (sNm nl nm).length = nl := by unfold sNm; rw [List.length_map, List.length_range]
/-- the values of a mask: n left, from v on; is one said -/
def slL (m : Nat) : Nat → Nat → Bool → List Nat
  | 0, _, _ => [125]
  | n + 1, v, b => if m.testBit v then (if b then [44, 32] else []) ++ (sNum v ++ slL m n (v + 1) true) else slL m n (v + 1) b
def sLs (m : Nat) : List Nat := 123 :: slL m 8 0 false
def wd (k : Nat) : List Nat := if k = 60 then [60] else if k = 61 then [61] else if k = 62 then [62] else spN.getD k []
def anS (T : Txt) (a : Nat) : List Nat := sNm (T.anl a) (T.anm a)
def tlS (T : Txt) (p : Nat) : List Nat := if T.pk p = 17 ∨ T.pk p = 18 then 32 :: sLs (T.pnum p) else if T.pk p = 19 then 32 :: anS T (T.pnum p) else if T.pk p = 21 then [] else 32 :: sNum (T.pnum p)
def sTst (T : Txt) (p : Nat) : List Nat := anS T (T.pa p) ++ (32 :: (wd (T.pk p) ++ tlS T p))
def brk (o i : Nat) : Bool := (i == 10 || i == 11) && !(o == 10 && i == 11)
def sBr (b : Bool) (l : List Nat) : List Nat := if b then 40 :: (l ++ [41]) else l
def sJs (s : List Nat) : List (List Nat) → List Nat
  | [] => []
  | x :: r => x ++ r.flatMap (fun y => s ++ y)
def sEx (T : Txt) : Nat → Nat → List Nat
  | 0, _ => []
  | h + 1, p => if T.pk p = 10 then sJs (sN 53) ((walk T (T.pj p) (T.pf p)).map (fun c => sBr (brk 10 (T.pk c)) (sEx T h c)))
    else if T.pk p = 11 then sJs (sN 54) ((walk T (T.pj p) (T.pf p)).map (fun c => sBr (brk 11 (T.pk c)) (sEx T h c)))
    else if T.pk p = 12 then sN 52 ++ (match T.pf p with
      | none => []
      | some c => sBr (brk 12 (T.pk c)) (sEx T h c))
    else if T.pk p = 13 ∨ T.pk p = 14 ∨ T.pk p = 15 then wd (T.pk p) else sTst T p
def sFor (T : Txt) (i : Nat) : List Nat := match T.root i with
  | none => []
  | some p => sN 41 ++ sEx T 43 p
def blk (n : Nat) : List Nat := List.replicate n 32
/-- how many sets are around, the innermost being o -/
def dpF (fa : Nat → Option Nat) : Nat → Option Nat → Nat
  | 0, _ => 0
  | _ + 1, none => 0
  | n + 1, some a => dpF fa n (fa a) + 1
def dO (T : Txt) (o : Option Nat) : Nat := dpF T.fa 101 o
/-- duties of set i: from d on, n left, at depth e -/
def sDs (T : Txt) (i e : Nat) : Nat → Nat → List Nat
  | 0, _ => []
  | n + 1, d => if T.dof d = i then blk (2 * e) ++ (wd 9 ++ (32 :: (wd (if T.dfor d = 1 then 6 else 7) ++ (32 :: (sNum (T.dnum d) ++ (sN 59 ++ sDs T i e n (d + 1))))))) else sDs T i e n (d + 1)
/-- duties of rule i -/
def sDr (T : Txt) (i : Nat) : Nat → Nat → Bool → List Nat
  | 0, _, _ => []
  | n + 1, d, b => if T.dof d = i then (if b then sN 49 else sN 58) ++ (sNum (T.dnum d) ++ sDr T i n (d + 1) true) else sDr T i n (d + 1) b
def nnS (T : Txt) (i : Nat) : List Nat := sNm (T.nnl i) (T.nnm i)
def sSet (T : Txt) (i e : Nat) : List Nat := wd 4 ++ (32 :: (nnS T i ++ (32 :: (wd (22 + (T.way i).getD 0) ++ (sFor T i ++ (sN 61 ++ sDs T i (e + 1) T.nd 0))))))
def sRul (T : Txt) (i : Nat) : List Nat := wd (if T.srt i = 0 then 6 else 7) ++ ((if 0 < T.nnl i then 32 :: nnS T i else []) ++ (sFor T i ++ (sDr T i T.nd 0 false ++ sN 59)))
def sNode (T : Txt) (i e : Nat) : List Nat := if T.srt i = 2 then sSet T i e else sRul T i
/-- m sets are closed, d being open -/
def sCls : Nat → Nat → List Nat
  | 0, _ => []
  | m + 1, d => blk (2 * (d - 1)) ++ (sN 60 ++ sCls m (d - 1))
/-- nodes from k on, n left; o: the innermost open set -/
def sNds (T : Txt) : Nat → Nat → Option Nat → List Nat
  | 0, _, o => sCls (dO T o) (dO T o)
  | n + 1, k, o => sCls (dO T o - dO T (T.fa k)) (dO T o) ++ (blk (2 * dO T (T.fa k)) ++ (sNode T k (dO T (T.fa k)) ++ sNds T n (k + 1) (if T.srt k = 2 then some k else T.fa k)))
def sAtt (T : Txt) (i : Nat) : List Nat := wd 1 ++ (32 :: (anS T i ++ (32 :: (sNum (T.asz i) ++ ((if T.amany i then 32 :: wd 2 else []) ++ ((if T.amust i then 32 :: wd 3 else []) ++ sN 59))))))
def sAts (T : Txt) : Nat → Nat → List Nat
  | 0, _ => []
  | n + 1, i => sAtt T i ++ sAts T n (i + 1)
def sAll (T : Txt) : List Nat := sAts T T.na 0 ++ sNds T T.nn 0 none
/-- the class has printed L onto the memory M0; o and d: innermost open set, how many are open -/
def PCl (M0 : aM) (o : Option Nat) (d : Nat) (L : List Nat) (M : aM) : Prop := (FP (fun k => k ≠ 131 ∧ k ≠ 132) M0 M) ∧ (KOk (rK M)) ∧ (rI M 131 1 = nI (L.take 22000).length) ∧ (rI M 131 3 = oI o) ∧ (rI M 131 4 = nI d) ∧ (∀ j, j < (L.take 22000).length → rI M 132 j = nI ((L.take 22000).getD j 0)) ∧ (WO M0 133)
theorem PCl.f {M0 : aM} {o : Option Nat} {d : Nat} {L : List Nat} {M : aM} (h : PCl M0 o d L M) : FP (fun k => k ≠ 131 ∧ k ≠ 132) M0 M := h.1
theorem PCl.K {M0 : aM} {o : Option Nat} {d : Nat} {L : List Nat} {M : aM} (h : PCl M0 o d L M) : KOk (rK M) := h.2.1
theorem PCl.n {M0 : aM} {o : Option Nat} {d : Nat} {L : List Nat} {M : aM} (h : PCl M0 o d L M) : rI M 131 1 = nI (L.take 22000).length := h.2.2.1
theorem PCl.o {M0 : aM} {o : Option Nat} {d : Nat} {L : List Nat} {M : aM} (h : PCl M0 o d L M) : rI M 131 3 = oI o := h.2.2.2.1
theorem PCl.d {M0 : aM} {o : Option Nat} {d : Nat} {L : List Nat} {M : aM} (h : PCl M0 o d L M) : rI M 131 4 = nI d := h.2.2.2.2.1
theorem PCl.b {M0 : aM} {o : Option Nat} {d : Nat} {L : List Nat} {M : aM} (h : PCl M0 o d L M) : ∀ j, j < (L.take 22000).length → rI M 132 j = nI ((L.take 22000).getD j 0) := h.2.2.2.2.2.1
theorem PCl.w {M0 : aM} {o : Option Nat} {d : Nat} {L : List Nat} {M : aM} (h : PCl M0 o d L M) : WO M0 133 := h.2.2.2.2.2.2
section CP
variable {M0 M : aM} {o : Option Nat} {d : Nat} {L : List Nat} {post : aM → Prop}
theorem p_put {c : Nat} {x : Int32} (h : PCl M0 o d L M) (q : ∀ M', PCl M0 o d (L ++ [c]) M' → post M') (hx : x = nI c := by rfl) : w_Pr_put post 131 x M := by
  subst hx
  unfold w_Pr_put
  have lt : (L.take 22000).length = min 22000 L.length := List.length_take ..
  refine pk_le 22000 (L.take 22000).length (fun z => ?_) (fun z => ?_) rfl h.n
  · have e : (L ++ [c]).take 22000 = L.take 22000 := List.take_append_of_le_length (by omega)
    refine q M ⟨h.f, h.K, by rw [e]; exact h.n, h.o, h.d, by rw [e]; exact h.b, h.w⟩
  · have e0 : L.take 22000 = L := List.take_of_length_le (by omega)
    have e : (L ++ [c]).take 22000 = L ++ [c] := List.take_of_length_le (by rw [List.length_append]; show L.length + 1 ≤ _; omega)
    have hn := h.n
    have hb := h.b
    rw [e0] at hn hb z
    rw [hn, nI_clamp (by omega), show (rK M (131 + 1)).2 = 22000 from mK h.K 131 22000]
    refine ⟨vin (by omega), ?_⟩
    rw [show rI (wI M (131 + 1) L.length (nI c)) 131 1 = nI L.length by rw [rw_n (by omega)]; exact hn, nI_1]
    refine q _ ⟨(h.f.w (by omega)).w (by omega), h.K, ?_, ?_, ?_, fun j hj => ?_, h.w⟩
    · rw [rw_ss, e, List.length_append]; rfl
    · rw [rw_sn (by omega), rw_n (by omega)]; exact h.o
    · rw [rw_sn (by omega), rw_n (by omega)]; exact h.d
    · rw [e] at hj ⊢
      rw [List.length_append] at hj
      have hj : j < L.length + 1 := hj
      rw [rw_n (by omega)]
      show rI (wI M 132 L.length (nI c)) 132 j = _
      rw [List.getD_eq_getElem?_getD]
      by_cases y : j = L.length
      · subst y; rw [rw_ss, List.getElem?_append_right (Nat.le_refl _), Nat.sub_self]; rfl
      · rw [rw_sn y, List.getElem?_append_left (by omega), ← List.getD_eq_getElem?_getD]; exact hb j (by omega)
theorem tk_s {s : List Nat} {j : Nat} (hj : j < s.length) : s.take (j + 1) = s.take j ++ [s.getD j 0] := by
  rw [List.take_succ, List.getD_eq_getElem?_getD, List.getElem?_eq_getElem hj]; rfl
theorem p_name {nl : Nat} {nm : Nat → Nat} {k1 i N : Nat} (hk : (rK M0 (k1 + 1)).2 = N) (hk2 : (rK M0 (k1 + 2)).2 = 12 * N) (hi : i < N) (hN : N ≤ 100) (hnl : nl ≤ 12) (e1 : rI M0 (k1 + 1) i = nI nl) (e2 : ∀ j, j < nl → rI M0 (k1 + 2) (i * 12 + j) = nI (nm j)) (h9 : k1 + 2 < 131 ∨ 132 < k1 + 1) (h : PCl M0 o d L M) (q : ∀ M', PCl M0 o d (L ++ sNm nl nm) M' → post M') : w_Pr_putName post 131 k1 (nI i) M := by
  have ln : (sNm nl nm).length = nl := sNm_len nl nm
  have gn : ∀ j, j < nl → (sNm nl nm).getD j 0 = nm j := fun j hj => by
    unfold sNm
    rw [List.getD_eq_getElem?_getD, List.getElem?_map, List.getElem?_range hj]; rfl
  have key : ∀ n j M', j + n = nl → PCl M0 o d (L ++ (sNm nl nm).take j) M' → w_Pr_putName_L2 post (n + 1) 131 k1 (nI i) (nI j) M' := by
    intro n
    induction n with
    | zero =>
      intro j M' hj h
      have ej : j = nl := by omega
      unfold w_Pr_putName_L2
      rw [List.take_of_length_le (by omega)] at h
      rw [nI_clamp (by omega), show rI M' (k1 + 1) i = nI nl by rw [h.f.i _ (by omega)]; exact e1, show (rK M' (k1 + 1)).2 = N by rw [show rK M' = rK M0 from h.f.k]; exact hk]
      exact ⟨vin (by omega), br_t (by rw [ej]; exact Int32.le_refl _) (q M' h)⟩
    | succ n ih =>
      intro j M' hj h
      unfold w_Pr_putName_L2
      rw [nI_clamp (n := i) (by omega), show rI M' (k1 + 1) i = nI nl by rw [h.f.i _ (by omega)]; exact e1, show (rK M' (k1 + 1)).2 = N by rw [show rK M' = rK M0 from h.f.k]; exact hk]
      refine ⟨vin (by omega), pk_le nl j (fun z => by omega) (fun _ => ?_)⟩
      unfold w_Nm_letter
      rw [show (12 : Int32) = nI 12 from rfl, pk_mul, nI_add, nI_clamp (by omega), show rI M' (k1 + 2) (i * 12 + j) = nI (nm j) by rw [h.f.i _ (by omega)]; exact e2 j (by omega), show (rK M' (k1 + 2)).2 = 12 * N by rw [show rK M' = rK M0 from h.f.k]; exact hk2, nI_1]
      refine ⟨vin (by omega), p_put h (fun M2 h2 => ih (j + 1) M2 (by omega) ?_)⟩
      rw [tk_s (by omega), gn j (by omega), ← List.append_assoc]; exact h2
  unfold w_Pr_putName
  exact ⟨_, key nl 0 M (by omega) (by rw [List.take_zero, List.append_nil]; exact h)⟩
theorem sNm_sp (l : List Nat) : sNm l.length (fun j => l.getD j 0) = l := by
  unfold sNm
  refine List.ext_getElem (by rw [List.length_map, List.length_range]) (fun i h1 h2 => ?_)
  rw [List.getElem_map, List.getElem_range, List.getD_eq_getElem?_getD, List.getElem?_eq_getElem h2]
  rfl
theorem p_word {k : Nat} {x : Int32} (hk : (1 ≤ k ∧ k ≤ 27) ∨ (60 ≤ k ∧ k ≤ 62)) (h : PCl M0 o d L M) (q : ∀ M', PCl M0 o d (L ++ wd k) M' → post M') (hx : x = nI k := by rfl) : w_Pr_putToken post 131 x M := by
  subst hx
  unfold w_Pr_putToken
  refine pk_lt 27 k (fun z => ?_) (fun z => ?_)
  · have e : wd k = [k] := by
      have : k = 60 ∨ k = 61 ∨ k = 62 := by omega
      rcases this with rfl | rfl | rfl <;> rfl
    rw [e] at q
    exact p_put h q
  · have e : wd k = spN.getD k [] := by
      unfold wd
      rw [if_neg (by omega), if_neg (by omega), if_neg (by omega)]
    have ek : rK M = rK M0 := h.f.k
    have hw := h.w k (by omega)
    rw [e, ← sNm_sp (spN.getD k [])] at q
    exact p_name (k1 := 133) (N := 28) (by rw [← ek]; exact mK h.K 133 28) (by rw [← ek]; exact mK h.K 134 336) (by omega) (by omega) (spN_len k (by omega)) hw.1 hw.2 (Or.inr (by omega)) h q
theorem p_btw {k id : Nat} {x : Int32} (hk : (1 ≤ k ∧ k ≤ 27) ∨ (60 ≤ k ∧ k ≤ 62)) (e : sN id = 32 :: (wd k ++ [32])) (h : PCl M0 o d L M) (q : ∀ M', PCl M0 o d (L ++ sN id) M' → post M') (hx : x = nI k := by rfl) : w_Pr_putBetweenBlanks post 131 x M := by
  unfold w_Pr_putBetweenBlanks
  refine p_put h (fun M1 h1 => p_word hk h1 (fun M2 h2 => p_put h2 (fun M3 h3 => q M3 ?_)) hx)
  rw [e]
  simp only [List.append_assoc, List.cons_append, List.nil_append] at h3 ⊢
  exact h3
theorem p_end {c id : Nat} {x : Int32} (e : sN id = [c, 10]) (h : PCl M0 o d L M) (q : ∀ M', PCl M0 o d (L ++ sN id) M' → post M') (hx : x = nI c := by rfl) : w_Pr_endLine post 131 x M := by
  unfold w_Pr_endLine
  refine p_put h (fun M1 h1 => p_put h1 (fun M2 h2 => q M2 ?_)) hx
  rw [e]
  simp only [List.append_assoc, List.cons_append, List.nil_append] at h2 ⊢
  exact h2
theorem p_num {v : Nat} {x : Int32} (hv : v < 1000) (h : PCl M0 o d L M) (q : ∀ M', PCl M0 o d (L ++ sNum v) M' → post M') (hx : x = nI v := by rfl) : w_Pr_putNumber post 131 x M := by
  subst hx
  have e10 : nI v / (10 : Int32) = nI (v / 10) := pk_div (d := 10) (by omega) (by omega) (by omega)
  have e100 : nI v / (100 : Int32) = nI (v / 100) := pk_div (d := 100) (by omega) (by omega) (by omega)
  have r1 : nI v - nI v / (10 : Int32) * 10 = nI (v % 10) := pk_rem (d := 10) (by omega) (by omega) (by omega)
  have r10 : nI (v / 10) - nI (v / 10) / (10 : Int32) * 10 = nI (v / 10 % 10) := pk_rem (d := 10) (by omega) (by omega) (by omega)
  have r100 : nI (v / 100) - nI (v / 100) / (10 : Int32) * 10 = nI (v / 100) := by rw [show (10 : Int32) = nI 10 from rfl, pk_rem (by omega) (by omega) (by omega), Nat.mod_eq_of_lt (by omega)]
  have J40 : ∀ L M', PCl M0 o d L M' → (∀ M', PCl M0 o d (L ++ [48 + v % 10]) M' → post M') → w_Pr_putNumber_J40 post 131 (nI v) M' := by
    intro L M' h q
    unfold w_Pr_putNumber_J40
    rw [r1]
    exact ⟨by decide, p_put h q (nI_add 48 _)⟩
  have J20 : ∀ L M', PCl M0 o d L M' → (∀ M', PCl M0 o d (L ++ ((if 10 ≤ v then [48 + v / 10 % 10] else []) ++ [48 + v % 10])) M' → post M') → w_Pr_putNumber_J20 post 131 (nI v) M' := by
    intro L M' h q
    unfold w_Pr_putNumber_J20
    refine pk_lt v 10 (fun z => ?_) (fun z => ⟨by decide, by decide, ?_⟩)
    · rw [if_neg (by omega)] at q; exact J40 L M' h q
    · rw [if_pos z] at q
      rw [e10, r10]
      refine p_put h (fun M2 h2 => J40 _ M2 h2 (fun M3 h3 => q M3 ?_)) (nI_add 48 _)
      rw [List.append_assoc] at h3; exact h3
  unfold w_Pr_putNumber
  unfold sNum at q
  refine pk_lt v 100 (fun z => ?_) (fun z => ⟨by decide, by decide, ?_⟩)
  · rw [if_neg (by omega)] at q; exact J20 L M h q
  · rw [if_pos z] at q
    rw [e100, r100]
    refine p_put h (fun M2 h2 => J20 _ M2 h2 (fun M3 h3 => q M3 ?_)) (nI_add 48 _)
    rw [List.append_assoc] at h3; exact h3
theorem p_ind (h : PCl M0 o d L M) (hd : d < 1000) (q : ∀ M', PCl M0 o d (L ++ blk (2 * d)) M' → post M') : w_Pr_indent post 131 M := by
  have key : ∀ n j M', j + n = d → PCl M0 o d (L ++ blk (2 * j)) M' → w_Pr_indent_L2 post (n + 1) 131 (nI j) M' := by
    intro n
    induction n with
    | zero =>
      intro j M' hj h
      have ej : j = d := by omega
      subst ej
      unfold w_Pr_indent_L2
      exact br_t (by rw [h.d]; exact Int32.le_refl _) (q M' h)
    | succ n ih =>
      intro j M' hj h
      unfold w_Pr_indent_L2
      refine pk_le d j (fun z => by omega) (fun _ => ?_) h.d rfl
      refine p_put h (fun M1 h1 => p_put h1 (fun M2 h2 => ?_))
      rw [nI_1]
      refine ih (j + 1) M2 (by omega) ?_
      rw [List.append_assoc, List.append_assoc, show blk (2 * j) ++ ([32] ++ [32]) = blk (2 * (j + 1)) from ?_] at h2
      · exact h2
      · unfold blk
        rw [show ([32] : List Nat) ++ [32] = List.replicate 2 32 from rfl, List.replicate_append_replicate]
        rfl
  unfold w_Pr_indent
  exact ⟨_, key d 0 M (by omega) (by rw [show blk (2 * 0) = [] from rfl, List.append_nil]; exact h)⟩
end CP
