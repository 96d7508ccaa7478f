/-! THE CLASS'S READER, XI: the whole text, behind the cutting into tokens. -/
def tx0 : Txt := (0, fun _ => 0, fun _ => false, fun _ => false, fun _ => 0, fun _ _ => 0, 0, fun _ => 0, fun _ => none, fun _ => none, fun _ => none, fun _ => 0, fun _ _ => 0, fun _ => 0, fun _ => 0, fun _ => none, fun _ => 0, 0, fun _ => 0, fun _ => 0, fun _ => 0, 0, fun _ => 0, fun _ => 0, fun _ => 0, fun _ => 0, fun _ => none, fun _ => none, [])
def ps0 : PS := (0, tx0, none, 0)
theorem PInv.ps0 : PInv ps0 := ⟨rfl, fun a h => (by cases h), fun i h => by exact absurd h (Nat.not_lt_zero _)⟩
theorem fAttr_f {k : Tk} (s : PS) : Ex (fun s' => SaF s s') (fun _ => True) (fAttr k s) := by
  unfold fAttr
  split
  · trivial
  · split
    · trivial
    · split
      · trivial
      · split
        · trivial
        · split
          · trivial
          · have e : ∀ (w : Nat) (z : PS), SaF z (skp k w z).2 := by
              intro w z
              unfold skp
              split
              · exact ⟨rfl, rfl, rfl, rfl⟩
              · exact SaF.refl
            have a1 := e 2 s.st.st.st
            have a2 := e 3 (skp k 2 s.st.st.st).2
            refine Ex_mono (req_ad _ _) (fun s' hs' => ?_) (fun _ h => h)
            rw [hs']
            exact ⟨rfl, rfl, a2.os.trans a1.os, a2.od.trans a1.od⟩
theorem fAttrs_f {k : Tk} : ∀ (n : Nat) (s : PS), Ex (fun s' => SaF s s') (fun _ => True) (fAttrs k n s) := by
  intro n
  induction n with
  | zero => intro s; exact SaF.refl
  | succ n ih =>
    intro s
    rw [fAttrs]
    split
    · exact Ex_bnd (Ex_mono (fAttr_f s) (fun s' h' => Ex_mono (ih s') (fun z hz => h'.trans hz) (fun _ h => h)) (fun _ h => h))
    · exact SaF.refl
section CL
variable {tk : Tk} {M0 M : aM} {t : Nat} {s : PS} {f : Fl}
theorem c_J131F (sc : SC tk M0 t) {post : aM → Prop} (h : FC tk M0 t f M) (p : ErV tk M0 t post f) : w_Rd_readPolicy_J131 post 2 M := by
  unfold w_Rd_readPolicy_J131
  refine c_isFineF h ?_
  exact br_t rfl (p _ h)
theorem c_J131 (sc : SC tk M0 t) {post : aM → Prop} (h : RC tk M0 t s M) (p : Ex (OkV tk M0 t post) (ErV tk M0 t post) (if tk.k s.i = 130 then .ok s else .error (rf tk 2 s))) : w_Rd_readPolicy_J131 post 2 M := by
  unfold w_Rd_readPolicy_J131
  refine c_isFine h.L ?_
  refine br_f (by decide) ?_
  refine c_token sc h.L ?_
  have hk := sc.lk _ h.L.li
  refine pk_eq (tk.k s.i) 130 (fun z => ?_) (fun z => ?_)
  · rw [if_pos z] at p
    exact p _ h
  · rw [if_neg z] at p
    exact c_refuse sc h.L p
theorem c_members (sc : SC tk M0 t) {post : aM → Prop} : ∀ (n : Nat) (s : PS) (M : aM), n ≤ 6001 → PInv s → RC tk M0 t s M → Ex (OkV tk M0 t post) (ErV tk M0 t post) ((fMembers tk n s).bind (fun s2 => if tk.k s2.i = 130 then .ok s2 else .error (rf tk 2 s2))) → w_Rd_readPolicy_L19 post (n + 1) 2 (nI n) M := by
  intro n
  induction n with
  | zero =>
    intro s M hn hi h p
    unfold w_Rd_readPolicy_L19
    exact pk_le 0 0 (fun _ => c_J131 sc h p) (fun z => by omega)
  | succ n ih =>
    intro s M hn hi h p
    unfold w_Rd_readPolicy_L19
    refine pk_le (n + 1) 0 (fun z => by omega) (fun _ => ?_)
    refine c_isFine h.L ?_
    refine br_f (by decide) ?_
    rw [fMembers] at p
    have hlo := h.los
    have hnn := h.T.lnn
    refine pk_eqm s.os (fun z => ?_) (fun a z => ?_) h.os rfl (fun k hk => by have := hlo k hk; omega)
    · rw [if_pos z] at p
      exact c_J131 sc h p
    · rw [if_neg (by rw [z]; simp)] at p
      refine c_member sc (post := fun M3 => w_Rd_readPolicy_L19 post (n + 1) 2 (nI (n + 1) + (-1)) M3) h z (hi.close z).1 ?_
      have p1 := Ex_and (Ex_bind (r := fMember tk s) (f := fun s1 => (fMembers tk n s1).bind (fun s2 => if tk.k s2.i = 130 then .ok s2 else .error (rf tk 2 s2))) (by
        cases hm : fMember tk s with
        | ok a => rw [hm] at p; exact p
        | error e => rw [hm] at p; exact p)) (fMember_inv (k := tk) hi z)
      rw [show nI (n + 1) + (-1) = nI n from pk_m1 n]
      refine Ex_mono p1 (fun s1 h1 M2 r2 => ?_) (fun f hf M2 f2 => ?_)
      · exact ih s1 M2 (by omega) h1.2.1 r2 h1.1
      · have e : ∀ m, w_Rd_readPolicy_L19 post (m + 1) 2 (nI n) M2 := by
          intro m
          unfold w_Rd_readPolicy_L19
          refine ⟨fun _ => c_J131F sc f2 hf.1, fun _ => ?_⟩
          refine c_isFineF f2 ?_
          exact br_t rfl (c_J131F sc f2 hf.1)
        exact e n
theorem c_readJ (sc : SC tk M0 t) {post : aM → Prop} (hn0 : 0 < tk.n) (p : Ex (OkV tk M0 t post) (ErV tk M0 t post) (fText tk tx0)) : w_Rd_begin_J15 (fun M2 => w_Rd_readPolicy post 2 M2) 2 M0 := by
  have ge := sc.ht.ge
  have hln := sc.ln
  simp (disch := omega) only [w_Rd_begin_J15, w_Rd_begin_J20, w_Rd_begin_J25, w_Rd_begin_J30, w_Rd_begin_J35, w_Rd_begin_J40, Rw_I, sc.hR, w_Tx_clear, w_Tx_clear_J5, w_Tx_clear_J10, w_Tx_clear_J18, w_Tx_clear_J26, w_Tx_clear_J34]
  refine ⟨Or.inl trivial, Or.inl trivial, ?_⟩
  generalize hM : wI (wI (wI (wI (wI (wI (wI (wI (wI (wI (wI M0 2 1 0) 2 2 0) 2 4 0) 2 5 (-1)) 2 6 0) t 0 0) t 1 0) (t + 1) 0 0) (t + 9) 0 0) (t + 9) 10 0) (t + 24) 0 0 = M
  have r0 : RC tk M0 t ps0 M := by
    have l0 : LC tk M0 t 0 M := by
      subst hM
      refine ⟨?_, ?_, ?_, hn0⟩
      · exact FrC.wt (FrC.wt (FrC.wt (FrC.wt (FrC.wt (c := 0) (FrC.wt (c := 0) (FrC.w2 (FrC.w2 (FrC.w2 (FrC.w2 (FrC.w2 FrC.refl))))) (by omega)) (by omega)) (by omega)) (by omega)) (by omega)) (by omega)
      · simp (disch := omega) only [rw_n, rw_sn, rw_ss]
      · simp (disch := omega) only [rw_n, rw_sn, rw_ss]; rfl
    refine ⟨l0, ?_, ?_, ?_, fun a ha => (by cases ha), by show 0 ≤ 20; omega, fun _ _ => by show 0 < 256; omega⟩
    · subst hM; simp (disch := omega) only [rw_n, rw_sn, rw_ss]; rfl
    · subst hM; simp (disch := omega) only [rw_n, rw_sn, rw_ss]; rfl
    · have z : ∀ {P : Nat → Prop}, ∀ i, i < 0 → P i := fun i h => absurd h (Nat.not_lt_zero _)
      have q1 : cR M t 1 0 = 0 := by subst hM; show rI _ (t + 1) 0 = 0; simp (disch := omega) only [rw_n, rw_sn, rw_ss]
      have q2 : cR M t 9 0 = 0 := by subst hM; show rI _ (t + 9) 0 = 0; simp (disch := omega) only [rw_n, rw_sn, rw_ss]
      have q3 : cR M t 9 10 = 0 := by subst hM; show rI _ (t + 9) 10 = 0; simp (disch := omega) only [rw_n, rw_sn, rw_ss]
      have q4 : cR M t 24 0 = 0 := by subst hM; show rI _ (t + 24) 0 = 0; simp (disch := omega) only [rw_n, rw_sn, rw_ss]
      exact ⟨q1, by show 0 ≤ 8; omega, z, z, z, z, z, z, z, z, q2, by show 0 ≤ 100; omega, z, z, z, z, z, z, z, z, z, z, z, z, z, q3, by show 0 ≤ 100; omega, z, z, z, q4, by show 0 ≤ 400; omega, z, z, z, z, z, z⟩
  clear hM
  have p0 : Ex (OkV tk M0 t post) (ErV tk M0 t post) ((fAttrs tk 9 ps0).bind (fun s => (fSet tk s).bind (fun s1 => (fMembers tk tk.n s1).bind (fun s2 => if tk.k s2.i = 130 then .ok s2 else .error (rf tk 2 s2))))) := p
  have LF : ∀ (f : Fl) (M2 : aM), FC tk M0 t f M2 → ErV tk M0 t post f → ∃ n9, w_Rd_readPolicy_L19 post n9 2 (rI M2 (2 + 1) 5) M2 := by
    intro f M2 f2 hf
    refine ⟨1, ?_⟩
    unfold w_Rd_readPolicy_L19
    refine ⟨fun _ => c_J131F sc f2 hf, fun _ => ?_⟩
    refine c_isFineF f2 ?_
    exact br_t rfl (c_J131F sc f2 hf)
  refine c_attrs sc r0 ?_
  refine Ex_mono (Ex_and (Ex_bind p0) (fAttrs_f (k := tk) 9 ps0)) (fun s1 h1 M2 r2 => ?_) (fun f hf M2 f2 => ?_)
  · have i1 := h1.2.inv PInv.ps0
    unfold w_Rd_readPolicy
    refine c_isFine r2.L ?_
    refine br_f (by decide) ?_
    refine c_set sc r2 ?_
    refine Ex_mono (Ex_and (Ex_bind h1.1) (fSet_inv (k := tk) i1)) (fun s3 h3 M4 r4 => ?_) (fun f hf M4 f4 => ?_)
    · have e : rI M4 (2 + 1) 5 = nI tk.n := by rw [show rI M4 (2 + 1) = rI M0 3 from r4.L.fr.2.2.2 3 (by omega) (by omega), sc.nt]
      show ∃ n9, w_Rd_readPolicy_L19 post n9 2 (rI M4 (2 + 1) 5) M4
      rw [e]
      exact ⟨tk.n + 1, c_members sc tk.n s3 M4 (by omega) h3.2.1 r4 h3.1⟩
    · exact LF f M4 f4 hf.1
  · unfold w_Rd_readPolicy
    refine c_isFineF f2 ?_
    exact br_t rfl (LF f M2 f2 hf.1)
end CL
