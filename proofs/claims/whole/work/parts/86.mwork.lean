/-! TRUTHS of expressions; the model's row of worths. -/
/-- nothing but worths of parts from lo to hi has changed -/
def Fw (M M' : aM) (lo hi : Nat) : Prop := M'.1 = M.1 ∧ M'.2.1 = M.2.1 ∧ M'.2.2.2 = M.2.2.2 ∧ (∀ k, k ≠ 172 → rI M' k = rI M k) ∧ ∀ i, (i < lo ∨ hi ≤ i) → rI M' 172 i = rI M 172 i
theorem Fw.refl {M : aM} {lo hi : Nat} : Fw M M lo hi := ⟨rfl, rfl, rfl, fun _ _ => rfl, fun _ _ => rfl⟩
theorem Fw.trans {M M' M2 : aM} {lo hi : Nat} (h : Fw M M' lo hi) (h2 : Fw M' M2 lo hi) : Fw M M2 lo hi := ⟨h2.1.trans h.1, h2.2.1.trans h.2.1, h2.2.2.1.trans h.2.2.1, fun k hk => (h2.2.2.2.1 k hk).trans (h.2.2.2.1 k hk), fun i hi => (h2.2.2.2.2 i hi).trans (h.2.2.2.2 i hi)⟩
theorem Fw.wide {M M' : aM} {lo hi lo' hi' : Nat} (h : Fw M M' lo hi) (h1 : lo' ≤ lo) (h2 : hi ≤ hi') : Fw M M' lo' hi' := ⟨h.1, h.2.1, h.2.2.1, h.2.2.2.1, fun i hi => h.2.2.2.2 i (by omega)⟩
theorem Fw.w {M M' : aM} {lo hi p : Nat} {x : Int32} (h : Fw M M' lo hi) (hp : lo ≤ p ∧ p < hi) : Fw M (wI M' 172 p x) lo hi := ⟨h.1, h.2.1, h.2.2.1, fun k hk => (rw_n hk).trans (h.2.2.2.1 k hk), fun i hi => (rw_sn (by omega)).trans (h.2.2.2.2 i hi)⟩
theorem fw_mR {M M' : aM} {lo hi : Nat} (h : Fw M M' lo hi) (t : Nat) : mR M' t = mR M t := by
  funext c j
  unfold mR
  by_cases g : c = 0 ∨ 31 ≤ c
  · rw [if_pos g, if_pos g]
  · rw [if_neg g, if_neg g, h.2.2.2.1 _ (by omega)]
theorem Fw.mR {M M' : aM} {lo hi : Nat} (h : Fw M M' lo hi) (t : Nat) : mR M' t = mR M t := fw_mR h t
section MW
variable {M : aM} {t : Nat} {T : Txt} {g : Nat → Nat}
theorem m_work {post : aM → Prop} {h lo hi p : Nat} {seg : List Nat} {x y : Int32} (R : RepM (mR M t) T g) (K : KOk (rK M)) (ht : t ≤ 1) (hg : ∀ i, g i < 256) (e : EX T (h + 1) lo hi p seg) (hhi : hi ≤ T.np)
    (w1 : T.pk p = 12 → ∀ c, T.pf p = some c → rI M 172 c = nI (ev T g h c)) (w2 : T.pk p = 10 ∨ T.pk p = 11 → ∀ c, c ∈ walk T (T.pj p) (T.pf p) → rI M 172 c = nI (ev T g h c)) (q : post (wI M 172 p (nI (ev T g (h + 1) p)))) (hx : x = nI t := by rfl) (hy : y = nI p := by rfl) : w_Mo_work post 136 x y M := by
  subst hx hy
  obtain ⟨e1, e2, e3⟩ := e
  have lnp := R.lnp
  have hp : p < T.np := by omega
  obtain ⟨v16, v17, v18, v60, v61, v62, v19, v20, v21, v12, v10, v11, v13, v14, v15⟩ := mkK_vals
  have k16 : (rK M 152).2 = 1200 := mK K 151 1200
  have k20 : (rK M 156).2 = 1200 := mK K 155 1200
  have k21 : (rK M 157).2 = 1200 := mK K 156 1200
  have k36 : (rK M 172).2 = 400 := mK K 171 400
  have ek : rI M 152 (t * 400 + p) = nI (mkK (T.pk p)) := R.pk p hp
  have ef : rI M 156 (t * 400 + p) = oI (T.pf p) := R.pf p hp
  have en : ∀ i, i < T.np → rI M 157 (t * 400 + i) = oI (T.pn i) := R.pn
  rw [Nat.mul_comm] at ek ef
  have e4 : ∀ i, (400 : Int32) * nI t + nI i = nI (400 * t + i) := fun i => by rw [show (400 : Int32) = nI 400 from rfl, pk_mul, nI_add]
  have hin : vp_in (nI (400 * t + p)) 1200 := vin (by omega)
  have hiw : vp_in (nI p) 400 := vin (by omega)
  rw [ev] at q
  unfold w_Mo_work
  simp (disch := omega) only [Nat.reduceAdd, nI_clamp, e4, ek, k16, k36]
  refine ⟨hin, ?_⟩
  -- tests
  have tst : leafOk T p → T.pk p ≠ 13 ∧ T.pk p ≠ 14 ∧ T.pk p ≠ 15 → post (wI M 172 p (nI (tstV T g p))) → w_Mo_test (fun x1 => (vp_in (nI p) 400) ∧ post (wI M 172 p x1)) 136 (nI t) (nI (400 * t + p)) M := fun hl hc qq => m_tst R K ht hg hp hl hc ⟨hiw, qq⟩
  -- joints
  have jnt : ∀ w : Nat, w ≤ 1 → T.pk p = 10 ∨ T.pk p = 11 → post (wI M 172 p (nI (cmb w ((walk T (T.pj p) (T.pf p)).map (ev T g h))))) → w_Mo_work_J165 post 136 (nI t) (nI p) (nI (400 * t + p)) 0 0 (nI w) M := by
    intro w hw hk qq
    rcases e3 with ⟨a1, _⟩ | ⟨a1, _⟩ | ⟨a1, ms, a2, a3, a4, a5, a6⟩
    · exfalso
      rcases a1 with b | ⟨_, b | b | b | b | b⟩ <;> omega
    · omega
    · have hwk : walk T (T.pj p) (T.pf p) = ms.map Prod.fst := by rw [← a3]; exact walk_chn ms _ _ a4
      have w2' := w2 hk
      rw [hwk] at w2' qq
      rw [List.map_map] at qq
      have qq2 : post (wI M 172 p (nI (cmb w (ms.map (fun m => ev T g h m.1))))) := qq
      unfold w_Mo_work_J165
      simp (disch := omega) only [Nat.reduceAdd, nI_clamp, ef, k20]
      refine ⟨hin, ms.length + 1, ?_⟩
      have fin : ∀ v : Nat, v = cmb w (ms.map (fun m => ev T g h m.1)) → w_Mo_work_J269 post 136 (nI p) (nI v) M := by
        intro v hv
        unfold w_Mo_work_J269
        simp (disch := omega) only [Nat.reduceAdd, nI_clamp, k36]
        rw [hv]
        exact ⟨hiw, qq2⟩
      have key : ∀ (l dn : List Mb) (o : Option Nat) (lo2 : Nat) (b1 b2 : Bool), ms = dn ++ l → chn T o lo2 l → (b1 = true ↔ w ∈ dn.map (fun m => ev T g h m.1)) → (b2 = true ↔ 2 ∈ dn.map (fun m => ev T g h m.1)) → w_Mo_work_L175 post (l.length + 1) 136 (nI t) (nI p) (bI b1) (bI b2) (nI w) (oI o) M := by
        intro l
        induction l with
        | nil =>
          intro dn o lo2 b1 b2 hms hc h1 h2
          have e : ms = dn := by rw [hms, List.append_nil]
          have hc2 : o = none := hc
          subst hc2
          unfold w_Mo_work_L175
          refine br_t rfl ?_
          rw [← e] at h1 h2
          refine pk_b0 b1 (fun z1 => ?_) (fun z1 => ?_)
          · have n1 : w ∉ ms.map (fun m => ev T g h m.1) := fun z => by rw [h1.2 z] at z1; cases z1
            refine pk_b0 b2 (fun z2 => ?_) (fun z2 => ?_)
            · have n2 : 2 ∉ ms.map (fun m => ev T g h m.1) := fun z => by rw [h2.2 z] at z2; cases z2
              rw [show (1 : Int32) - nI w = nI (1 - w) from pk_sub (a := 1) hw]
              exact fin (1 - w) (by unfold cmb; rw [if_neg n1, if_neg n2])
            · exact fin 2 (by unfold cmb; rw [if_neg n1, if_pos (h2.1 z2)])
          · exact fin w (by unfold cmb; rw [if_pos (h1.1 z1)])
        | cons m l ihl =>
          intro dn o lo2 b1 b2 hms hc h1 h2
          obtain ⟨c1, c2, c3, c4, c5⟩ := hc
          subst c1
          have hm : m ∈ ms := by rw [hms]; exact List.mem_append_right _ (List.mem_cons_self ..)
          obtain ⟨d1, d2, d3⟩ := a5 m hm
          have hmn : m.1 < T.np := by omega
          have ew : rI M 172 m.1 = nI (ev T g h m.1) := w2' m.1 (List.mem_map.2 ⟨m, hm, rfl⟩)
          have hev := ev_le T g h m.1
          have enm : rI M 157 (400 * t + m.1) = oI (T.pn m.1) := by rw [Nat.mul_comm]; exact en m.1 hmn
          have hiv : vp_in (nI m.1) 400 := vin (by omega)
          have eo : oI (some m.1) = nI m.1 := rfl
          unfold w_Mo_work_L175
          refine br_f (show ¬ oI (some m.1) = -1 from nI_m1 (by omega)) ?_
          rw [eo]
          -- on to the next
          have nxt : ∀ b1' b2' : Bool, (b1' = true ↔ w ∈ (dn ++ [m]).map (fun m => ev T g h m.1)) → (b2' = true ↔ 2 ∈ (dn ++ [m]).map (fun m => ev T g h m.1)) → w_Mo_work_J226 post (w_Mo_work_L175 post (l.length + 1)) 136 (nI t) (nI p) (bI b1') (nI w) (nI m.1) (bI b2') M := by
            intro b1' b2' g1 g2
            unfold w_Mo_work_J226
            simp (disch := omega) only [Nat.reduceAdd, nI_clamp, e4, enm, k21]
            exact ⟨vin (by omega), ihl (dn ++ [m]) _ _ b1' b2' (by rw [hms]; simp) c5 g1 g2⟩
          have mapp : ∀ z : Nat, z ∈ (dn ++ [m]).map (fun m => ev T g h m.1) ↔ (z ∈ dn.map (fun m => ev T g h m.1) ∨ z = ev T g h m.1) := by
            intro z
            rw [List.map_append, List.mem_append]
            constructor
            · intro hh
              rcases hh with hh | hh
              · exact Or.inl hh
              · exact Or.inr (List.mem_singleton.1 hh)
            · intro hh
              rcases hh with hh | hh
              · exact Or.inl hh
              · exact Or.inr (List.mem_singleton.2 hh)
          have J203 : ∀ b1' : Bool, (b1' = true ↔ w ∈ (dn ++ [m]).map (fun m => ev T g h m.1)) → w_Mo_work_J203 post (w_Mo_work_L175 post (l.length + 1)) 136 (nI t) (nI p) (bI b2) (nI w) (nI m.1) (bI b1') M := by
            intro b1' g1
            unfold w_Mo_work_J203
            refine pk_nb0 b2 (fun z2 => ?_) (fun z2 => ?_)
            · unfold w_Mo_work_J221
              exact nxt b1' true g1 ⟨fun _ => (mapp 2).2 (Or.inl (h2.1 z2)), fun _ => rfl⟩
            · simp (disch := omega) only [Nat.reduceAdd, nI_clamp, k36, ew]
              refine ⟨hiv, pk_ne (ev T g h m.1) 2 (fun z3 => ?_) (fun z3 => ?_)⟩
              · refine nxt b1' false g1 ⟨fun z => (by cases z), fun z => ?_⟩
                rcases (mapp 2).1 z with z | z
                · rw [h2.2 z] at z2; cases z2
                · exact absurd z.symm z3
              · unfold w_Mo_work_J221
                exact nxt b1' true g1 ⟨fun _ => (mapp 2).2 (Or.inr z3.symm), fun _ => rfl⟩
          refine pk_nb0 b1 (fun z1 => ?_) (fun z1 => ?_)
          · unfold w_Mo_work_J198
            exact J203 true ⟨fun _ => (mapp w).2 (Or.inl (h1.1 z1)), fun _ => rfl⟩
          · simp (disch := omega) only [Nat.reduceAdd, nI_clamp, k36, ew]
            refine ⟨hiv, pk_ne (ev T g h m.1) w (fun z3 => ?_) (fun z3 => ?_)⟩
            · refine J203 false ⟨fun z => (by cases z), fun z => ?_⟩
              rcases (mapp w).1 z with z | z
              · rw [h1.2 z] at z1; cases z1
              · exact absurd z.symm z3
            · unfold w_Mo_work_J198
              exact J203 true ⟨fun _ => (mapp w).2 (Or.inr z3.symm), fun _ => rfl⟩
      exact key ms [] _ _ false false rfl a4 (by simp) (by simp)
  rcases e3 with ⟨a1, a2⟩ | ⟨a1, a2, c, lo', hi', sg, a3, a4, a5, a6, a7, a8⟩ | ⟨a1, a2⟩
  · have hk : T.pk p ≠ 10 ∧ T.pk p ≠ 11 ∧ T.pk p ≠ 12 := by
      rcases a1 with b | ⟨_, b | b | b | b | b⟩ <;> omega
    rw [if_neg hk.1, if_neg hk.2.1, if_neg hk.2.2] at q
    by_cases c13 : T.pk p = 13
    · rw [if_pos c13] at q
      rw [c13, v13]
      exact br_t rfl ⟨hiw, q⟩
    rw [if_neg c13] at q
    by_cases c14 : T.pk p = 14
    · rw [if_pos c14] at q
      rw [c14, v14]
      exact br_f (by decide) (br_t rfl ⟨hiw, q⟩)
    rw [if_neg c14] at q
    by_cases c15 : T.pk p = 15
    · rw [if_pos c15] at q
      rw [c15, v15]
      exact br_f (by decide) (br_f (by decide) (br_t rfl ⟨hiw, q⟩))
    rw [if_neg c15] at q
    have tt := tst a1 ⟨c13, c14, c15⟩ q
    rcases a1 with b | ⟨_, b⟩
    · omega
    · rcases b with ⟨b | b, _⟩ | ⟨b | b, _⟩ | ⟨b, _⟩ | ⟨b | b | b, _⟩ | b
      · rw [b, v16]; exact br_f (by decide) (br_f (by decide) (br_f (by decide) (br_t rfl tt)))
      · rw [b, v20]; exact br_f (by decide) (br_f (by decide) (br_f (by decide) (br_f (by decide) (br_f (by decide) (br_f (by decide) (br_f (by decide) (br_f (by decide) (br_f (by decide) (br_f (by decide) (br_t rfl tt))))))))))
      · rw [b, v17]; exact br_f (by decide) (br_f (by decide) (br_f (by decide) (br_f (by decide) (br_t rfl tt))))
      · rw [b, v18]; exact br_f (by decide) (br_f (by decide) (br_f (by decide) (br_f (by decide) (br_f (by decide) (br_t rfl tt)))))
      · rw [b, v19]; exact br_f (by decide) (br_f (by decide) (br_f (by decide) (br_f (by decide) (br_f (by decide) (br_f (by decide) (br_f (by decide) (br_f (by decide) (br_f (by decide) (br_t rfl tt)))))))))
      · rw [b, v60]; exact br_f (by decide) (br_f (by decide) (br_f (by decide) (br_f (by decide) (br_f (by decide) (br_f (by decide) (br_t rfl tt))))))
      · rw [b, v61]; exact br_f (by decide) (br_f (by decide) (br_f (by decide) (br_f (by decide) (br_f (by decide) (br_f (by decide) (br_f (by decide) (br_t rfl tt)))))))
      · rw [b, v62]; exact br_f (by decide) (br_f (by decide) (br_f (by decide) (br_f (by decide) (br_f (by decide) (br_f (by decide) (br_f (by decide) (br_f (by decide) (br_t rfl tt))))))))
      · rw [b, v21]; exact br_f (by decide) (br_f (by decide) (br_f (by decide) (br_f (by decide) (br_f (by decide) (br_f (by decide) (br_f (by decide) (br_f (by decide) (br_f (by decide) (br_f (by decide) (br_f (by decide) (br_t rfl tt)))))))))))
  · rw [if_neg (by omega), if_neg (by omega), if_pos a1, a3] at q
    have q2 : post (wI M 172 p (nI (neg (ev T g h c)))) := q
    have hc := a7.in_
    have ew := w1 a1 c a3
    have hev := ev_le T g h c
    have hic : vp_in (nI c) 400 := vin (by omega)
    rw [a1, v12]
    refine br_f (by decide) (br_f (by decide) (br_f (by decide) (br_f (by decide) (br_f (by decide) (br_f (by decide) (br_f (by decide) (br_f (by decide) (br_f (by decide) (br_f (by decide) (br_f (by decide) (br_f (by decide) (br_t rfl ?_))))))))))))
    have eo : oI (some c) = nI c := rfl
    rw [ef, a3, eo]
    simp (disch := omega) only [nI_clamp, ew, k20, k36]
    refine ⟨hin, hic, ?_⟩
    unfold neg at q2
    refine pk_ne (ev T g h c) 2 (fun z2 => ⟨hin, hic, ?_⟩) (fun z2 => ?_)
    · rw [if_neg z2] at q2
      unfold w_Mo_work_J138
      simp (disch := omega) only [Nat.reduceAdd, nI_clamp, k36]
      refine ⟨hiw, ?_⟩
      rw [show (1 : Int32) - nI (ev T g h c) = nI (1 - ev T g h c) from pk_sub (a := 1) (by omega)]
      by_cases z1 : ev T g h c = 1
      · rw [if_pos z1] at q2
        rw [z1]
        exact q2
      · rw [if_neg z1] at q2
        rw [show 1 - ev T g h c = 1 by omega]
        exact q2
    · rw [if_pos z2] at q2
      unfold w_Mo_work_J138
      simp (disch := omega) only [Nat.reduceAdd, nI_clamp, k36]
      exact ⟨hiw, q2⟩
  · rcases a1 with c10 | c11
    · rw [if_pos c10] at q
      rw [c10, v10]
      refine br_f (by decide) (br_f (by decide) (br_f (by decide) (br_f (by decide) (br_f (by decide) (br_f (by decide) (br_f (by decide) (br_f (by decide) (br_f (by decide) (br_f (by decide) (br_f (by decide) (br_f (by decide) (br_f (by decide) (br_t rfl ⟨hin, nb_t rfl ?_⟩)))))))))))))
      exact jnt 1 (by omega) (Or.inl c10) q
    · rw [if_neg (by omega), if_pos c11] at q
      rw [c11, v11]
      refine br_f (by decide) (br_f (by decide) (br_f (by decide) (br_f (by decide) (br_f (by decide) (br_f (by decide) (br_f (by decide) (br_f (by decide) (br_f (by decide) (br_f (by decide) (br_f (by decide) (br_f (by decide) (br_f (by decide) (br_f (by decide) (br_t rfl ⟨hin, nb_f (by decide) ?_⟩))))))))))))))
      exact jnt 0 (by omega) (Or.inr c11) q
end MW
