/-! PRINT, the calls. -/
abbrev Sx.pr (S : Sx) (n : Nat) (b : Nat → Nat) : Sx := (S.1, S.2.1, S.2.2.1, S.2.2.2.1, S.2.2.2.2.1, S.2.2.2.2.2.1, S.2.2.2.2.2.2.1, S.2.2.2.2.2.2.2.1, n, b)
def a_print (S : Sx) (v : Int32) : Option (Option (Int32 × Sx)) := (idx v 2).map fun i => if (S.x i).p then some (nI (sAll (S.x i).T).length, S.pr (sAll (S.x i).T).length (fun j => (sAll (S.x i).T).getD j 0)) else none
section PT
variable {S : Sx} {M : aM} {post : Int32 → aM → Prop} {ex : Nat → Prop} {v : Int32}
theorem c_printQ (so : SO S) (h : CI S M) (q : CA M post ex 0 2 (a_print S v)) : w_J_print post ex 1 v M := by
  unfold w_J_print
  refine c_need h (fun z => ?_) (fun i z hp => ?_) (fun i z hi e hp => ?_)
  · simp only [a_print, z, Option.map_none] at q; exact q
  · simp only [a_print, z, hp, Option.map_some] at q; exact q
  simp only [a_print, z, hp, if_true, Option.map_some] at q
  have R := (h.x i hi).R hp
  have ht := h.t hi
  have to := so.x i hp
  have ok := to.ok
  have ll := to.len
  refine p_write (T := (S.x i).T) R h.tp.K ht h.pw ok to.dp (fun M' P => ?_)
  have et : (sAll (S.x i).T).take 22000 = sAll (S.x i).T := List.take_of_length_le ll
  have hn := P.n
  have hb := P.b
  rw [et] at hn hb
  rw [show rI M' (1 + 130) 1 = _ from hn]
  have hh := ht
  unfold tOk at hh
  have ei : ∀ k, k ≠ 131 → k ≠ 132 → rI M' k = rI M k := fun k g1 g2 => P.f.i k ⟨g1, g2⟩
  refine q M' ⟨⟨P.K, ?_, h.tp.ln, fun j hj => ?_, fun j hj => ?_, h.tp.lb, h.tp.ws.fr (ei _ (by omega) (by omega)) (ei _ (by omega) (by omega))⟩, ?_, ?_, fun i' hi' => ?_, ?_, fun j hj => ?_, ?_, fun j hj => ?_, hn, hb, h.pw.fr (ei _ (by omega) (by omega)) (ei _ (by omega) (by omega))⟩ ⟨P.f.n, P.f.k, congrArg Prod.snd P.f.r, fun k hk => ei k (by omega) (by omega), fun k _ => congrFun P.f.rr k⟩
  · rw [ei _ (by omega) (by omega)]; exact h.tp.len
  · rw [ei _ (by omega) (by omega)]; exact h.tp.b j hj
  · rw [ei _ (by omega) (by omega)]; exact h.tp.b6 j hj
  · rw [ei _ (by omega) (by omega)]; exact h.fk
  · rw [P.f.rr]; exact h.pm
  · rw [P.f.rr]
    have ht' := h.t hi'
    unfold tOk at ht'
    exact (h.x i' hi').fr (fun c hc => ei _ (by omega) (by omega))
  · rw [ei _ (by omega) (by omega)]; exact h.cm
  · rw [ei _ (by omega) (by omega)]; exact h.tl j hj
  · rw [ei _ (by omega) (by omega)]; exact h.wn
  · rw [ei _ (by omega) (by omega)]; exact h.wv j hj
theorem m_printQ (so : SO S) (h : MI S M) (q : MA S M post (a_print S v)) : w_Mo_print post 136 v M := by
  unfold w_Mo_print
  refine m_text2 (fun z => nb_t rfl ?_) (fun i z hi e => nb_f (by decide) ?_)
  · simp only [a_print, z, Option.map_none] at q
    unfold w_Mo_print_J26
    rw [rw_ss]
    exact br_f (by decide) (ma0 h q)
  have cl : v.toNatClampNeg = i := by rw [e]; exact nI_clamp (by omega)
  rw [cl, show (rK M (136 + 2)).2 = 3 from mK h.tp.K 137 3, e]
  refine ⟨vin (by omega), pk_nb0 (S.x i).p (fun hp => ?_) (fun hp => ?_) (h.x i hi).p rfl⟩
  · simp only [a_print, z, hp, if_true, Option.map_some] at q
    unfold w_Mo_print_J26
    rw [rw_ss]
    refine br_t (by decide) ?_
    have h1 := h.t (x := 0)
    have t1 : rI (wI M 136 0 0) 136 0 = 0 := rw_ss
    have d1 : FD M (wI M 136 0 0) := FD.refl.w (by omega)
    generalize wI M 136 0 0 = M1 at h1 t1 d1 ⊢
    have K1 := h1.tp.K
    have R := (h1.x i hi).R hp
    have to := so.x i hp
    have ok := to.ok
    have ll := to.len
    have P0 : PMo M1 [] (wI M1 136 60 0) := ⟨FP.refl.w (by omega), K1, fun j hj => rw_sn hj, rw_ss, fun j hj => absurd hj (Nat.not_lt_zero _)⟩
    unfold sAll at ll
    rw [List.length_append] at ll
    refine ⟨(S.x i).T.na + 1, w_ats R hi ok.A (S.x i).T.na 0 [] _ (by omega) P0 (by show 0 + _ ≤ _; omega) (fun M2 h2 => ⟨(S.x i).T.nn + 2, ?_⟩)⟩
    refine w_nds R hi ok to.dp (S.x i).T.nn 0 _ M2 (by omega) h2 (by rw [List.nil_append]; show _ + (sNds (S.x i).T (S.x i).T.nn 0 none).length ≤ _; omega) (fun M' P => ?_)
    have P : PMo M1 (sAll (S.x i).T) M' := P
    rw [P.n]
    have ei : ∀ k, k ≠ 136 → k ≠ 183 → k ≠ 184 → k ≠ 185 → k ≠ 186 → rI M' k = rI M1 k := fun k g1 g2 g3 g4 g5 => P.f.i k ⟨g1, g2, g3, g4, g5⟩
    refine q M' ⟨⟨P.K, ?_, h1.tp.ln, fun j hj => ?_, h1.tp.lb⟩, fun k j hk => ?_, ?_, ?_, fun i' hi' => ?_, ?_, fun j hj => ?_, ?_, fun j hj => ?_, P.n, P.b⟩ ?_ (d1.tr (fdP P.f (fun k hk => by omega)))
    · rw [P.o _ (by omega)]; exact h1.tp.len
    · rw [ei _ (by omega) (by omega) (by omega) (by omega) (by omega)]; exact h1.tp.b j hj
    · rw [ei _ (by omega) (by omega) (by omega) (by omega) (by omega)]; exact h1.bq k j hk
    · rw [P.o _ (by omega)]; exact h1.sz
    · rw [P.o _ (by omega)]; exact h1.fk
    · exact (h1.x i' hi').fr0 (fun k g1 g2 => ei k (by omega) (by omega) (by omega) (by omega) (by omega))
    · rw [P.o _ (by omega)]; exact h1.cm
    · rw [ei _ (by omega) (by omega) (by omega) (by omega) (by omega)]; exact h1.tl j hj
    · rw [P.o _ (by omega), P.o _ (by omega)]; exact h1.wn
    · rw [ei _ (by omega) (by omega) (by omega) (by omega) (by omega)]; exact h1.wv j hj
    · rw [P.o _ (by omega)]; exact t1
  · simp only [a_print, z, hp, Option.map_some] at q
    unfold w_Mo_print_J26
    rw [rw_ss]
    exact br_f (by decide) (ma2 h q)
end PT
