/-! THE CLASS JUDGES, the loop over nodes. -/
section CJ
variable {M : aM} {v t : Nat} {T : Txt} {g g0 : Nat → Nat}
theorem c_judge {post : aM → Prop} {k2 lo : Nat} (h : RepC (cR M t) T g0) (K : KOk (rK M)) (ht : tOk t) (V : VO M v t) (N : NI T) (W : WI T T.nn) (R : ∃ rs, RI T rs) (B : BG M k2 T g) (hk2 : k2 ≤ v ∨ v + 4 ≤ k2) (hlo : lo ≤ T.nn) (q : ∀ M', FrV v M M' → VD M' v T g lo → post M') : w_Vd_judge post v t k2 (nI lo) M := by
  obtain ⟨rs, R⟩ := R
  have lnn := h.lnn
  have k7 := K.tl ht 16 100
  have key : ∀ (n : Nat) (M1 : aM), lo + n ≤ T.nn → FrV v M M1 → VD M1 v T g (lo + n) → w_Vd_judge_L15 post (n + 1) v t k2 (nI lo) (t + 9) (nI (lo + n) + (-1)) M1 := by
    intro n
    induction n with
    | zero =>
      intro M1 _ F D
      unfold w_Vd_judge_L15
      have e : (if ((0 : Int32)) < nI lo then nI lo else ((0 : Int32))) = nI lo := by
        split
        · rfl
        · rename_i z
          have : ¬ 0 < lo := fun w => z ((nI_ltI (a := 0) (by omega) (by omega)).2 w)
          have : lo = 0 := by omega
          subst this; rfl
      rw [e]
      exact br_t (im_lt (by omega)) (q M1 F D)
    | succ n ih =>
      intro M1 hn F D
      have hi : lo + n < T.nn := by omega
      have h1 := RepC_V h F V.d
      have er : rI M1 (t + 16) (lo + n) = oI (T.root (lo + n)) := h1.root _ hi
      have V1 := VO_V V F
      have K1 : KOk (rK M1) := by rw [F.K]; exact K
      have B1 := BG_V B F hk2
      unfold w_Vd_judge_L15
      have e : (if ((0 : Int32)) < nI lo then nI lo else ((0 : Int32))) = nI lo := by
        split
        · rfl
        · rename_i z
          have : ¬ 0 < lo := fun w => z ((nI_ltI (a := 0) (by omega) (by omega)).2 w)
          have : lo = 0 := by omega
          subst this; rfl
      rw [e, show lo + (n + 1) = (lo + n) + 1 from rfl, pk_m1]
      refine pk_lt (lo + n) lo (fun z => by omega) (fun _ => ?_)
      simp (disch := omega) only [Nat.add_assoc, Nat.reduceAdd, nI_clamp, er, F.K, k7]
      refine ⟨vin (by omega), ?_⟩
      have nd : w_Vd_judge_J59 post (w_Vd_judge_L15 post (n + 1)) v t k2 (nI lo) (t + 9) (nI (lo + n)) (v + 1) (nI (lo + n)) (nI (tru T g (lo + n))) M1 :=
        c_node h1 K1 ht V1 N W hi D (fun M' F' D' => ih M' (by omega) (F.trans F') D')
      cases hr : T.root (lo + n) with
      | none =>
        refine nb_t rfl ?_
        unfold tru at nd
        rw [hr] at nd
        exact nd
      | some p =>
        obtain ⟨m, m1, m2⟩ := R.ro _ hi p hr
        have ex : EX T 43 m.2.1.1 m.2.1.2 m.1 m.2.2 := R.ex _ m1
        have hm : m ∈ rs.map Prod.snd := List.mem_map.2 ⟨_, m1, rfl⟩
        have hh := (inc_hi _ _ R.ic).2 m hm
        have hp := ex.in_
        have lnp := R.np
        subst m2
        refine nb_f (show ¬ nI m.1 = -1 from nI_m1 (by omega)) ?_
        refine ⟨86, by omega, ?_⟩
        unfold tru at nd
        rw [hr] at nd
        exact c_truth h1 K1 ht B1 43 0 86 _ _ _ _ _ ex (by omega) (by omega) (by omega) nd
  unfold w_Vd_judge
  refine ⟨(T.nn - lo) + 1, ?_⟩
  have en : rI M (t + 9) 0 = nI T.nn := h.nn
  have e : nI T.nn - (1 : Int32) = nI (lo + (T.nn - lo)) + (-1) := by
    rw [show lo + (T.nn - lo) = T.nn by omega, Int32.sub_eq_add_neg]
  rw [en, e]
  exact key _ M (by omega) FrV.refl (fun i h1 h2 => by omega)
end CJ
