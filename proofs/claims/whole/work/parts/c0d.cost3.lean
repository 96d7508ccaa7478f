/-! HOW LONG the print is, IV: nodes and duties; how deep sets lie. -/
def ncs (T : Txt) (i : Nat) : Nat := (if T.srt i = 2 then 18 + T.nnl i + (wd (22 + (T.way i).getD 0)).length else (wd (if T.srt i = 0 then 6 else 7)).length + 2 + (if 0 < T.nnl i then 1 + T.nnl i else 0) + (if 0 < T.own i then 4 else 0)) + (if (T.root i).isSome then 5 else 0)
def dct (T : Txt) (d : Nat) : Nat := (if T.srt (T.dof d) = 2 then 19 + (wd (if T.dfor d = 1 then 6 else 7)).length else 2) + (sNum (T.dnum d)).length
def fdt (T : Txt) : Nat := sm (ncs T) T.nn + sm (dct T) T.nd
def PD (T : Txt) : Nat := CP T + fdt T
/-- a node more -/
def NE (T T' : Txt) : Prop := (T'.nn = T.nn + 1) ∧ (∀ j, j < T.nn → T'.srt j = T.srt j) ∧ (∀ j, j < T.nn → T'.way j = T.way j) ∧ (∀ j, j < T.nn → T'.nnl j = T.nnl j) ∧ (∀ j, j < T.nn → T'.own j = T.own j) ∧ (∀ j, j < T.nn → T'.root j = T.root j) ∧ (∀ j, j < T.nn → T'.fa j = T.fa j) ∧ (T'.nd = T.nd) ∧ (T'.dnum = T.dnum) ∧ (T'.dof = T.dof) ∧ (T'.dfor = T.dfor)
theorem NE.nn {T T' : Txt} (h : NE T T') : T'.nn = T.nn + 1 := h.1
theorem NE.srt {T T' : Txt} (h : NE T T') : ∀ j, j < T.nn → T'.srt j = T.srt j := h.2.1
theorem NE.way {T T' : Txt} (h : NE T T') : ∀ j, j < T.nn → T'.way j = T.way j := h.2.2.1
theorem NE.nnl {T T' : Txt} (h : NE T T') : ∀ j, j < T.nn → T'.nnl j = T.nnl j := h.2.2.2.1
theorem NE.own {T T' : Txt} (h : NE T T') : ∀ j, j < T.nn → T'.own j = T.own j := h.2.2.2.2.1
theorem NE.root {T T' : Txt} (h : NE T T') : ∀ j, j < T.nn → T'.root j = T.root j := h.2.2.2.2.2.1
theorem NE.fa {T T' : Txt} (h : NE T T') : ∀ j, j < T.nn → T'.fa j = T.fa j := h.2.2.2.2.2.2.1
theorem NE.nd {T T' : Txt} (h : NE T T') : T'.nd = T.nd := h.2.2.2.2.2.2.2.1
theorem NE.dnum {T T' : Txt} (h : NE T T') : T'.dnum = T.dnum := h.2.2.2.2.2.2.2.2.1
theorem NE.dof {T T' : Txt} (h : NE T T') : T'.dof = T.dof := h.2.2.2.2.2.2.2.2.2.1
theorem NE.dfor {T T' : Txt} (h : NE T T') : T'.dfor = T.dfor := h.2.2.2.2.2.2.2.2.2.2
theorem NE.sum {T T' : Txt} (h : NE T T') (ho : ∀ d, d < T.nd → T.dof d < T.nn) : fdt T' = fdt T + ncs T' T.nn := by
  unfold fdt
  have e1 : sm (ncs T') T.nn = sm (ncs T) T.nn := sm_fr _ (fun i hi => by
    unfold ncs
    rw [h.srt i hi, h.way i hi, h.nnl i hi, h.own i hi, h.root i hi])
  have e2 : sm (dct T') T.nd = sm (dct T) T.nd := sm_fr _ (fun d hd => by
    unfold dct
    rw [h.dnum, h.dof, h.dfor, h.srt _ (ho d hd)])
  rw [h.nn, h.nd, sm, e1, e2]; omega
/-- the node's own: sort, father, name's length, way -/
def NV (T T' : Txt) (os : Option Nat) (so v : Nat) (w : Option Nat) : Prop := (NE T T') ∧ (T'.srt T.nn = so) ∧ (T'.fa T.nn = os) ∧ (T'.nnl T.nn = v) ∧ (T'.way T.nn = w) ∧ (T'.own T.nn = 0) ∧ (T'.root T.nn = none) ∧ (CP T' = CP T) ∧ (T'.na = T.na) ∧ (T'.asz = T.asz) ∧ (T'.anl = T.anl)
theorem NV.E {T T' : Txt} {os : Option Nat} {so v : Nat} {w : Option Nat} (h : NV T T' os so v w) : NE T T' := h.1
theorem NV.s {T T' : Txt} {os : Option Nat} {so v : Nat} {w : Option Nat} (h : NV T T' os so v w) : T'.srt T.nn = so := h.2.1
theorem NV.f {T T' : Txt} {os : Option Nat} {so v : Nat} {w : Option Nat} (h : NV T T' os so v w) : T'.fa T.nn = os := h.2.2.1
theorem NV.v {T T' : Txt} {os : Option Nat} {so v : Nat} {w : Option Nat} (h : NV T T' os so v w) : T'.nnl T.nn = v := h.2.2.2.1
theorem NV.w {T T' : Txt} {os : Option Nat} {so v : Nat} {w : Option Nat} (h : NV T T' os so v w) : T'.way T.nn = w := h.2.2.2.2.1
theorem NV.o {T T' : Txt} {os : Option Nat} {so v : Nat} {w : Option Nat} (h : NV T T' os so v w) : T'.own T.nn = 0 := h.2.2.2.2.2.1
theorem NV.r {T T' : Txt} {os : Option Nat} {so v : Nat} {w : Option Nat} (h : NV T T' os so v w) : T'.root T.nn = none := h.2.2.2.2.2.2.1
theorem NV.cp {T T' : Txt} {os : Option Nat} {so v : Nat} {w : Option Nat} (h : NV T T' os so v w) : CP T' = CP T := h.2.2.2.2.2.2.2.1
theorem NV.na {T T' : Txt} {os : Option Nat} {so v : Nat} {w : Option Nat} (h : NV T T' os so v w) : T'.na = T.na := h.2.2.2.2.2.2.2.2.1
theorem NV.asz {T T' : Txt} {os : Option Nat} {so v : Nat} {w : Option Nat} (h : NV T T' os so v w) : T'.asz = T.asz := h.2.2.2.2.2.2.2.2.2.1
theorem NV.anl {T T' : Txt} {os : Option Nat} {so v : Nat} {w : Option Nat} (h : NV T T' os so v w) : T'.anl = T.anl := h.2.2.2.2.2.2.2.2.2.2
theorem CP_pf {T T' : Txt} (e0 : T'.np = T.np) (e1 : T'.pk = T.pk) (e2 : T'.pa = T.pa) (e3 : T'.pnum = T.pnum) (e4 : T'.pj = T.pj) (e6 : T'.anl = T.anl) (e7 : T'.anm = T.anm) : CP T' = CP T := by
  unfold CP
  rw [e0]
  refine sm_fr _ (fun i hi => ?_)
  unfold cpt sTst tlS anS
  rw [e1, e2, e3, e4, e6, e7]
theorem NV_nd {T : Txt} {so : Nat} {os : Option Nat} : NV T (addNd T so os) os so 0 none := by
  have base : ∀ T1 : Txt, T1.nn = T.nn + 1 → T1.srt = up T.srt T.nn so → T1.way = up T.way T.nn none → T1.fa = up T.fa T.nn os → T1.root = up T.root T.nn none → T1.own = up T.own T.nn 0 → T1.nnl = up T.nnl T.nn 0 → T1.nd = T.nd → T1.dnum = T.dnum → T1.dof = T.dof → T1.dfor = T.dfor → CP T1 = CP T → T1.na = T.na → T1.asz = T.asz → T1.anl = T.anl → NV T T1 os so 0 none := by
    intro T1 h1 h2 h3 h4 h5 h6 h7 h8 h9 h10 h11 h12 h13 h14 h15
    refine ⟨⟨h1, fun j hj => ?_, fun j hj => ?_, fun j hj => ?_, fun j hj => ?_, fun j hj => ?_, fun j hj => ?_, h8, h9, h10, h11⟩, ?_, ?_, ?_, ?_, ?_, ?_, h12, h13, h14, h15⟩
    · rw [h2, up_n (by omega)]
    · rw [h3, up_n (by omega)]
    · rw [h7, up_n (by omega)]
    · rw [h6, up_n (by omega)]
    · rw [h5, up_n (by omega)]
    · rw [h4, up_n (by omega)]
    · rw [h2, up_s]
    · rw [h4, up_s]
    · rw [h7, up_s]
    · rw [h3, up_s]
    · rw [h6, up_s]
    · rw [h5, up_s]
  have pf : CP (addNd T so os) = CP T := by
    refine CP_pf ?_ ?_ ?_ ?_ ?_ ?_ ?_ <;> (unfold addNd; cases os <;> rfl)
  refine base _ ?_ ?_ ?_ ?_ ?_ ?_ ?_ ?_ ?_ ?_ ?_ pf ?_ ?_ ?_ <;> (unfold addNd; cases os <;> rfl)
section CN
variable {k : Tk} {N : Nat}
theorem fName_e (i : Nat) (s : PS) (h : k.k s.i = 128) : ∃ y : PS, fName k i s = (true, y) ∧ y.i = s.i + 1 ∧ y.os = s.os ∧ y.od = s.od ∧ ∃ g, y.T = (Txt.s_nnm (Txt.s_nnl s.T (up s.T.nnl i (k.v s.i))) (g)) := by
  unfold fName
  rw [if_pos h]
  exact ⟨_, rfl, rfl, rfl, rfl, _, rfl⟩
theorem fName_n (i : Nat) (s : PS) (h : k.k s.i ≠ 128) : fName k i s = (false, s) := by
  unfold fName
  rw [if_neg h]
theorem NV.name {T T1 T2 : Txt} {os : Option Nat} {so v x : Nat} {g : Nat → Nat → Nat} {w : Option Nat} (h : NV T T1 os so v w) (e : T2 = (Txt.s_nnm (Txt.s_nnl T1 (up T1.nnl T.nn x)) (g))) : NV T T2 os so x w := by
  have E := h.E
  have cp : CP T2 = CP T1 := by rw [e]; exact CP_pf rfl rfl rfl rfl rfl rfl rfl
  have c1 : T2.nn = T1.nn ∧ T2.srt = T1.srt ∧ T2.way = T1.way ∧ T2.nnl = up T1.nnl T.nn x ∧ T2.own = T1.own ∧ T2.root = T1.root ∧ T2.fa = T1.fa := by rw [e]; exact ⟨rfl, rfl, rfl, rfl, rfl, rfl, rfl⟩
  have c2 : T2.nd = T1.nd ∧ T2.dnum = T1.dnum ∧ T2.dof = T1.dof ∧ T2.dfor = T1.dfor ∧ T2.na = T1.na ∧ T2.asz = T1.asz ∧ T2.anl = T1.anl := by rw [e]; exact ⟨rfl, rfl, rfl, rfl, rfl, rfl, rfl⟩
  clear e
  obtain ⟨a1, a2, a3, a4, a5, a6, a7⟩ := c1
  obtain ⟨b1, b2, b3, b4, b5, b6, b7⟩ := c2
  refine ⟨⟨a1.trans E.nn, fun j hj => by rw [a2]; exact E.srt j hj, fun j hj => by rw [a3]; exact E.way j hj, fun j hj => by rw [a4, up_n (by omega)]; exact E.nnl j hj, fun j hj => by rw [a5]; exact E.own j hj, fun j hj => by rw [a6]; exact E.root j hj, fun j hj => by rw [a7]; exact E.fa j hj, b1.trans E.nd, b2.trans E.dnum, b3.trans E.dof, b4.trans E.dfor⟩, by rw [a2]; exact h.s, by rw [a7]; exact h.f, by rw [a4, up_s], by rw [a3]; exact h.w, by rw [a5]; exact h.o, by rw [a6]; exact h.r, cp.trans h.cp, b5.trans h.na, b6.trans h.asz, b7.trans h.anl⟩
theorem NV.wy {T T1 T2 : Txt} {os : Option Nat} {so v : Nat} {w x : Option Nat} (h : NV T T1 os so v w) (e : T2 = (Txt.s_way T1 (up T1.way T.nn x))) : NV T T2 os so v x := by
  have E := h.E
  have cp : CP T2 = CP T1 := by rw [e]; exact CP_pf rfl rfl rfl rfl rfl rfl rfl
  have c1 : T2.nn = T1.nn ∧ T2.srt = T1.srt ∧ T2.way = up T1.way T.nn x ∧ T2.nnl = T1.nnl ∧ T2.own = T1.own ∧ T2.root = T1.root ∧ T2.fa = T1.fa := by rw [e]; exact ⟨rfl, rfl, rfl, rfl, rfl, rfl, rfl⟩
  have c2 : T2.nd = T1.nd ∧ T2.dnum = T1.dnum ∧ T2.dof = T1.dof ∧ T2.dfor = T1.dfor ∧ T2.na = T1.na ∧ T2.asz = T1.asz ∧ T2.anl = T1.anl := by rw [e]; exact ⟨rfl, rfl, rfl, rfl, rfl, rfl, rfl⟩
  clear e
  obtain ⟨a1, a2, a3, a4, a5, a6, a7⟩ := c1
  obtain ⟨b1, b2, b3, b4, b5, b6, b7⟩ := c2
  refine ⟨⟨a1.trans E.nn, fun j hj => by rw [a2]; exact E.srt j hj, fun j hj => by rw [a3, up_n (by omega)]; exact E.way j hj, fun j hj => by rw [a4]; exact E.nnl j hj, fun j hj => by rw [a5]; exact E.own j hj, fun j hj => by rw [a6]; exact E.root j hj, fun j hj => by rw [a7]; exact E.fa j hj, b1.trans E.nd, b2.trans E.dnum, b3.trans E.dof, b4.trans E.dfor⟩, by rw [a2]; exact h.s, by rw [a7]; exact h.f, by rw [a4]; exact h.v, by rw [a3, up_s], by rw [a5]; exact h.o, by rw [a6]; exact h.r, cp.trans h.cp, b5.trans h.na, b6.trans h.asz, b7.trans h.anl⟩
/-- behind 'for': what the node costs -/
theorem NV.cost {T : Txt} {z s2 : PS} {os : Option Nat} {so v : Nat} {w : Option Nat} (h : NV T z.T os so v w) (F : FE k T.nn z s2) (ho : ∀ d, d < T.nd → T.dof d < T.nn) : NE T s2.T ∧ s2.T.srt T.nn = so ∧ s2.T.fa T.nn = os ∧ s2.T.own T.nn = 0 ∧ PD s2.T + 2 * k.pl z.i ≤ PD T + 2 * k.pl s2.i + (if so = 2 then 18 + v + (wd (22 + w.getD 0)).length else (wd (if so = 0 then 6 else 7)).length + 2 + (if 0 < v then 1 + v else 0)) := by
  have E := h.E
  have E2 : NE T s2.T := ⟨F.nn.trans E.nn, fun j hj => by rw [F.srt]; exact E.srt j hj, fun j hj => by rw [F.way]; exact E.way j hj, fun j hj => by rw [F.nnl]; exact E.nnl j hj, fun j hj => by rw [F.own]; exact E.own j hj, fun j hj => by rw [F.ro j (by omega)]; exact E.root j hj, fun j hj => by rw [F.fa]; exact E.fa j hj, F.nd.trans E.nd, F.dnum.trans E.dnum, F.dof.trans E.dof, F.dfor.trans E.dfor⟩
  have a1 : s2.T.srt T.nn = so := by rw [F.srt]; exact h.s
  have a2 : s2.T.fa T.nn = os := by rw [F.fa]; exact h.f
  have a3 : s2.T.own T.nn = 0 := by rw [F.own]; exact h.o
  have a4 : s2.T.nnl T.nn = v := by rw [F.nnl]; exact h.v
  have a5 : s2.T.way T.nn = w := by rw [F.way]; exact h.w
  refine ⟨E2, a1, a2, a3, ?_⟩
  have e := E2.sum ho
  have c := F.co
  rw [h.cp] at c
  unfold ncs at e
  rw [a1, a3, a4, a5, if_neg (Nat.lt_irrefl 0), Nat.add_zero] at e
  unfold PD
  rw [e]
  omega
theorem TDp.add {s : PS} {T' : Txt} (h : TDp s.T) (i : PInv s) (E : NE s.T T') (f : T'.fa s.T.nn = s.os) (hd : T'.srt s.T.nn = 2 → s.od ≤ 19) : TDp T' := by
  have key : ∀ (n : Nat) (o : Option Nat), Dp s.T.fa o n → (∀ a, o = some a → a < s.T.nn) → Dp T'.fa o n := by
    intro n
    induction n with
    | zero => intro o h _; exact h
    | succ n ih =>
      intro o h ho
      obtain ⟨a, e, h2⟩ := h
      have ha := ho a e
      refine ⟨a, e, ?_⟩
      rw [E.fa a ha]
      exact ih _ h2 (fun c hc => i.lf a ha c hc)
  intro j hj h2
  rw [E.nn] at hj
  by_cases q : j = s.T.nn
  · subst q
    exact ⟨s.od, hd h2, by rw [f]; exact key _ _ i.dp i.lo⟩
  · rw [E.srt j (by omega)] at h2
    obtain ⟨n, h3, h4⟩ := h j (by omega) h2
    exact ⟨n, h3, by rw [E.fa j (by omega)]; exact key _ _ h4 (fun c hc => i.lf j (by omega) c hc)⟩
theorem wy_len : ∀ w, w < 6 → 3 ≤ (wd (22 + w)).length := by decide +kernel
theorem TL.wg (tl : TL k N) {i : Nat} (h1 : 1 ≤ k.k i) (h2 : k.k i < 28) (h : wl (k.k (i + 1)) = true) : k.pl i + (wd (k.k i)).length + 1 ≤ k.pl (i + 1) := by
  have := tl.gp i (by unfold wl; simp [h2]) h
  unfold wdt at this
  rw [if_neg (by omega), if_neg (by omega), if_pos h2, ← lw_sp _ h2 h1] at this
  exact this
theorem TL.mg (tl : TL k N) {i : Nat} (h1 : k.k i = 128) (h : wl (k.k (i + 1)) = true) : k.pl i + k.v i + 1 ≤ k.pl (i + 1) := by
  have := tl.gp i (by unfold wl; simp [h1]) h
  unfold wdt at this
  rw [if_pos h1] at this
  exact this
theorem wl_w {x : Nat} (h : x < 28) : wl x = true := by unfold wl; simp [h]
theorem wl_n {x : Nat} (h : x = 128) : wl x = true := by unfold wl; simp [h]
theorem wl_d {x : Nat} (h : x = 129) : wl x = true := by unfold wl; simp [h]
/-- a set's head: what it costs, two being owed -/
def SHC (k : Tk) (s s' : PS) : Prop := PD s'.T + 2 * k.pl s.i ≤ PD s.T + 2 * k.pl s'.i + 2 ∧ s'.od = s.od + 1 ∧ (TDp s.T → TDp s'.T)
theorem fSet_c (tl : TL k N) (hk : KI k) {s : PS} (h : TW s.T.nn s) (hi : PInv s) : Ex (SHC k s) (fun _ => True) (fSet k s) := by
  unfold fSet
  by_cases g4 : k.k s.i = 4
  · rw [if_neg (fun z => z g4)]
    refine Ex_bnd (Ex_mono (fNode_ad 2 s) (fun q hq => ?_) (fun _ _ => trivial))
    obtain ⟨q1, q2, q3⟩ := hq
    have A : NV s.T q.2.T s.os 2 0 none := by rw [q2]; exact NV_nd
    have qi : q.2.i = s.i := by rw [q2]
    have qd : q.2.od = s.od := by rw [q2]
    clear q2
    rw [q1]
    dsimp only
    by_cases g1 : k.k (s.i + 1) = 128
    · obtain ⟨y, hy, yi, yo, yd, g, yT⟩ := fName_e (k := k) s.T.nn q.2.st (by show k.k (q.2.i + 1) = 128; rw [qi]; exact g1)
      have yi : y.i = s.i + 2 := by rw [yi]; show q.2.i + 1 + 1 = _; omega
      have yd : y.od = s.od := yd.trans qd
      have yT : y.T = (Txt.s_nnm (Txt.s_nnl q.2.T (up q.2.T.nnl s.T.nn (k.v (q.2.i + 1)))) (g)) := yT
      rw [qi] at yT
      have A2 := A.name yT
      clear yT
      rw [hy]
      show Ex _ _ (if true = false then _ else if k.k y.i < 22 ∨ 27 < k.k y.i then _ else _)
      rw [if_neg (by simp)]
      by_cases hw : k.k y.i < 22 ∨ 27 < k.k y.i
      · rw [if_pos hw]; trivial
      · rw [if_neg hw]
        obtain ⟨z, hz⟩ : ∃ z : PS, z = (PS.s_T y.st ((Txt.s_way y.T (up y.T.way s.T.nn (some (k.k y.i - 22)))))) := ⟨_, rfl⟩
        show Ex _ _ ((fFor k s.T.nn (PS.s_T y.st ((Txt.s_way y.T (up y.T.way s.T.nn (some (k.k y.i - 22))))))).bind _)
        rw [← hz]
        have zi : z.i = s.i + 3 := by rw [hz]; show y.i + 1 = _; omega
        have zd : z.od = s.od := by rw [hz]; exact yd
        have A3 := A2.wy (T2 := z.T) (x := some (k.k y.i - 22)) (by rw [hz])
        clear hz
        refine Ex_bnd (Ex_mono (fFor_e tl (i := s.T.nn) (s := z) (fun x hx => by rw [A3.asz]; rw [A3.na] at hx; exact (h.A.z x hx).2) (fun x hx => by rw [A3.anl]; rw [A3.na] at hx; exact (h.A.l x hx).1) A3.r) (fun s2 F => ?_) (fun _ _ => trivial))
        by_cases g5 : k.k s2.i = 123
        · rw [if_neg (fun z => z g5)]
          by_cases g6 : 20 ≤ s2.od
          · rw [if_pos g6]; trivial
          · rw [if_neg g6]
            obtain ⟨E2, a1, a2, a3, c⟩ := A3.cost F h.D.o
            have sd : s2.od = s.od := F.od.trans zd
            refine ⟨?_, by show s2.od + 1 = _; omega, fun t => t.add hi E2 a2 (fun _ => by omega)⟩
            show PD s2.T + 2 * k.pl s.i ≤ PD s.T + 2 * k.pl (s2.i + 1) + 2
            have b1 := tl.wg (i := s.i) (by omega) (by omega) (wl_n g1)
            rw [g4, show (wd 4).length = 3 from rfl] at b1
            rw [yi] at hw c
            have b2 := tl.mg g1 (wl_w (x := k.k (s.i + 1 + 1)) (by show k.k (s.i + 2) < 28; omega))
            have b3 := wW tl (i := s.i + 2) (by omega) (by omega)
            have b4 := w1 tl (i := s2.i) (by omega)
            have b8 := (hk.nm _ g1).1
            have b5 := wy_len (k.k (s.i + 2) - 22) (by omega)
            have e5 : 22 + (k.k (s.i + 2) - 22) = k.k (s.i + 2) := by omega
            rw [if_pos rfl, zi] at c
            have c : PD s2.T + 2 * k.pl (s.i + 3) ≤ PD s.T + 2 * k.pl s2.i + (18 + k.v (s.i + 1) + (wd (22 + (k.k (s.i + 2) - 22))).length) := c
            rw [e5] at b5 c
            have b6 : k.pl (s.i + 1) + k.v (s.i + 1) + 1 ≤ k.pl (s.i + 2) := b2
            have b7 : k.pl (s.i + 2) + (wd (k.k (s.i + 2))).length ≤ k.pl (s.i + 3) := b3
            omega
        · rw [if_pos g5]; trivial
    · rw [fName_n (k := k) s.T.nn q.2.st (by show k.k (q.2.i + 1) ≠ 128; rw [qi]; exact g1)]
      show Ex _ _ (if false = false then _ else _)
      rw [if_pos rfl]; trivial
  · rw [if_pos g4]; trivial
theorem fDutyN_e (o d : Nat) (s : PS) : Ex (fun s' => s'.i = s.i + 1 ∧ s'.os = s.os ∧ s'.od = s.od ∧ k.k s.i = 129 ∧ s'.T = addDt s.T o d (k.v s.i)) (fun _ => True) (fDutyN k o d s) := by
  unfold fDutyN
  by_cases g : k.k s.i = 129
  · rw [if_neg (fun z => z g)]
    by_cases g2 : 100 ≤ s.T.nd
    · rw [if_pos g2]; trivial
    · rw [if_neg g2]; exact ⟨rfl, rfl, rfl, g, rfl⟩
  · rw [if_pos g]; trivial
theorem PD_dt {T T' : Txt} {o d v : Nat} (ho : o < T.nn) (e : T' = addDt T o d v) : PD T' ≤ PD T + (if T.srt o = 2 then 19 + (wd (if d = 1 then 6 else 7)).length + (sNum v).length else 2 + (sNum v).length + (if T.own o = 0 then 4 else 0)) ∧ T'.nn = T.nn ∧ T'.srt = T.srt ∧ T'.fa = T.fa ∧ T'.own o = T.own o + 1 := by
  have cp : CP T' = CP T := by rw [e]; exact CP_pf rfl rfl rfl rfl rfl rfl rfl
  have c1 : T'.nn = T.nn ∧ T'.srt = T.srt ∧ T'.way = T.way ∧ T'.nnl = T.nnl ∧ T'.own = up T.own o (T.own o + 1) ∧ T'.root = T.root ∧ T'.fa = T.fa := by rw [e]; exact ⟨rfl, rfl, rfl, rfl, rfl, rfl, rfl⟩
  have c2 : T'.nd = T.nd + 1 ∧ T'.dnum = up T.dnum T.nd v ∧ T'.dof = up T.dof T.nd o ∧ T'.dfor = up T.dfor T.nd d := by rw [e]; exact ⟨rfl, rfl, rfl, rfl⟩
  clear e
  obtain ⟨a1, a2, a3, a4, a5, a6, a7⟩ := c1
  obtain ⟨b1, b2, b3, b4⟩ := c2
  refine ⟨?_, a1, a2, a7, by rw [a5, up_s]⟩
  have e2 : sm (dct T') T.nd = sm (dct T) T.nd := sm_fr _ (fun x hx => by
    unfold dct
    rw [a2, b2, b3, b4, up_n (by omega), up_n (by omega), up_n (by omega)])
  have e3 : dct T' T.nd = (if T.srt o = 2 then 19 + (wd (if d = 1 then 6 else 7)).length else 2) + (sNum v).length := by
    unfold dct
    rw [a2, b2, b3, b4, up_s, up_s, up_s]
  have e1 := sm_up (f := ncs T) (f' := ncs T') T.nn ho (fun j hj hn => by
    unfold ncs
    rw [a2, a3, a4, a5, a6, up_n hn])
  have e4 : ncs T' o ≤ ncs T o + (if T.srt o = 2 then 0 else if T.own o = 0 then 4 else 0) := by
    unfold ncs
    rw [a2, a3, a4, a5, a6, up_s, if_pos (show 0 < T.own o + 1 by omega)]
    by_cases q : T.srt o = 2
    · rw [if_pos q, if_pos q, if_pos q]; omega
    · rw [if_neg q, if_neg q, if_neg q]
      by_cases r : T.own o = 0
      · rw [if_pos r]; omega
      · rw [if_neg r, if_pos (show 0 < T.own o by omega)]; omega
  unfold PD fdt
  rw [cp, a1, b1, sm, e2, e3]
  by_cases q : T.srt o = 2
  · rw [if_pos q] at e4 ⊢
    rw [if_pos q]; omega
  · rw [if_neg q] at e4 ⊢
    rw [if_neg q]; omega
theorem fDuties_c (tl : TL k N) {o d : Nat} : ∀ (n : Nat) (s : PS), o < s.T.nn → s.T.srt o ≠ 2 → (k.k s.i = 8 ∨ (k.k s.i = 44 ∧ 0 < s.T.own o)) → Ex (fun s' => PD s'.T + 2 * k.pl s.i ≤ PD s.T + 2 * k.pl s'.i ∧ s'.T.nn = s.T.nn ∧ s'.T.srt = s.T.srt ∧ s'.T.fa = s.T.fa ∧ s'.od = s.od) (fun _ => True) (fDuties k o d n s) := by
  intro n
  induction n with
  | zero => intro s _ _ _; exact ⟨Nat.le_refl _, rfl, rfl, rfl, rfl⟩
  | succ n ih =>
    intro s ho hs hc
    rw [fDuties]
    refine Ex_bnd (Ex_mono (fDutyN_e o d s.st) (fun s' h' => ?_) (fun _ _ => trivial))
    obtain ⟨t1, t2, t3, t4, t5⟩ := h'
    have t1 : s'.i = s.i + 2 := t1
    have t3 : s'.od = s.od := t3
    have t4 : k.k (s.i + 1) = 129 := t4
    have t5 : s'.T = addDt s.T o d (k.v (s.i + 1)) := t5
    obtain ⟨u1, u2, u3, u4, u5⟩ := PD_dt ho t5
    clear t5
    rw [if_neg hs] at u1
    have b2 := wN tl t4
    have b2 : k.pl (s.i + 1) + (sNum (k.v (s.i + 1))).length ≤ k.pl (s.i + 2) := b2
    have c : PD s'.T + 2 * k.pl s.i ≤ PD s.T + 2 * k.pl s'.i := by
      rw [t1]
      rcases hc with hc | ⟨hc, hc2⟩
      · have b1 := wW tl (i := s.i) (by omega) (by omega)
        rw [hc, show (wd 8).length = 4 from rfl] at b1
        by_cases r : s.T.own o = 0
        · rw [if_pos r] at u1; omega
        · rw [if_neg r] at u1; omega
      · have b1 := w1 tl (i := s.i) (by omega)
        rw [if_neg (by omega)] at u1; omega
    by_cases g : k.k s'.i = 44
    · rw [if_pos g]
      refine Ex_mono (ih s' (by rw [u2]; exact ho) (by rw [u3]; exact hs) (Or.inr ⟨g, by omega⟩)) (fun z hz => ?_) (fun _ h => h)
      obtain ⟨v1, v2, v3, v4, v5⟩ := hz
      exact ⟨by omega, v2.trans u2, v3.trans u3, v4.trans u4, v5.trans t3⟩
    · rw [if_neg g]
      exact ⟨c, u2, u3, u4, t3⟩
theorem TDp.fr {T T' : Txt} (h : TDp T) (e1 : T'.nn = T.nn) (e2 : T'.srt = T.srt) (e3 : T'.fa = T.fa) : TDp T' := by
  intro i hi h2
  rw [e1] at hi
  rw [e2] at h2
  rw [e3]
  exact h i hi h2
theorem req_e (w : Nat) (s : PS) : Ex (fun q => q = s.st ∧ k.k s.i = w) (fun _ => True) (req k w s) := by
  unfold req
  by_cases h : k.k s.i = w
  · rw [if_pos h]; exact ⟨rfl, h⟩
  · rw [if_neg h]; trivial
def RHC (k : Tk) (s s' : PS) : Prop := PD s'.T + 2 * k.pl s.i ≤ PD s.T + 2 * k.pl s'.i ∧ s'.od = s.od ∧ (TDp s.T → TDp s'.T)
theorem fRule_c (tl : TL k N) (hk : KI k) {s : PS} (h : TW s.T.nn s) (hi : PInv s) (h67 : k.k s.i = 6 ∨ k.k s.i = 7) : Ex (RHC k s) (fun _ => True) (fRule k s) := by
  unfold fRule
  have main : ∀ so : Nat, (k.k s.i = 6 ∧ so = 0) ∨ (k.k s.i = 7 ∧ so = 1) → Ex (RHC k s) (fun _ => True) ((fNode k so s).bind (fun q => (fFor k q.1 (fName k q.1 q.2.st).2).bind (fun s2 => (if k.k s2.i = 8 then fDuties k q.1 (so + 1) 101 s2 else .ok s2).bind (fun s3 => req k 59 s3)))) := by
    intro so hso
    refine Ex_bnd (Ex_mono (fNode_ad so s) (fun q hq => ?_) (fun _ _ => trivial))
    obtain ⟨q1, q2, q3⟩ := hq
    have A : NV s.T q.2.T s.os so 0 none := by rw [q2]; exact NV_nd
    have qi : q.2.i = s.i := by rw [q2]
    have qd : q.2.od = s.od := by rw [q2]
    clear q2
    rw [q1]
    have ew : wd (if so = 0 then 6 else 7) = wd (k.k s.i) := by
      rcases hso with ⟨a, b⟩ | ⟨a, b⟩ <;> rw [a, b] <;> rfl
    -- behind the name
    have nm : ∃ (z : PS) (v : Nat), (fName k s.T.nn q.2.st).2 = z ∧ NV s.T z.T s.os so v none ∧ z.od = s.od ∧ (wd (if so = 0 then 6 else 7)).length + (if 0 < v then 1 + v else 0) + 2 * k.pl s.i ≤ 2 * k.pl z.i := by
      by_cases g1 : k.k (s.i + 1) = 128
      · obtain ⟨y, hy, yi, yo, yd, g, yT⟩ := fName_e (k := k) s.T.nn q.2.st (by show k.k (q.2.i + 1) = 128; rw [qi]; exact g1)
        have yi : y.i = s.i + 2 := by rw [yi]; show q.2.i + 1 + 1 = _; omega
        have yd : y.od = s.od := yd.trans qd
        have yT : y.T = (Txt.s_nnm (Txt.s_nnl q.2.T (up q.2.T.nnl s.T.nn (k.v (q.2.i + 1)))) (g)) := yT
        rw [qi] at yT
        refine ⟨y, _, by rw [hy], A.name yT, yd, ?_⟩
        have b1 := tl.wg (i := s.i) (by omega) (by omega) (wl_n g1)
        have b2 := wM tl g1
        have b2 : k.pl (s.i + 1) + k.v (s.i + 1) ≤ k.pl (s.i + 2) := b2
        rw [ew, yi]
        split <;> omega
      · refine ⟨q.2.st, 0, by rw [fName_n (k := k) s.T.nn q.2.st (by show k.k (q.2.i + 1) ≠ 128; rw [qi]; exact g1)], A, qd, ?_⟩
        have b1 := wW tl (i := s.i) (by omega) (by omega)
        rw [ew, if_neg (Nat.lt_irrefl 0)]
        show _ ≤ 2 * k.pl (q.2.i + 1)
        rw [qi]; omega
    obtain ⟨z, v, ez, A3, zd, cz⟩ := nm
    rw [ez]
    clear ez
    refine Ex_bnd (Ex_mono (fFor_e tl (i := s.T.nn) (s := z) (fun x hx => by rw [A3.asz]; rw [A3.na] at hx; exact (h.A.z x hx).2) (fun x hx => by rw [A3.anl]; rw [A3.na] at hx; exact (h.A.l x hx).1) A3.r) (fun s2 F => ?_) (fun _ _ => trivial))
    obtain ⟨E2, a1, a2, a3, c⟩ := A3.cost F h.D.o
    rw [if_neg (show so ≠ 2 by omega)] at c
    have sd : s2.od = s.od := F.od.trans zd
    refine Ex_bnd (Ex_mono (P := fun s3 => PD s3.T + 2 * k.pl s2.i ≤ PD s2.T + 2 * k.pl s3.i ∧ s3.T.nn = s2.T.nn ∧ s3.T.srt = s2.T.srt ∧ s3.T.fa = s2.T.fa ∧ s3.od = s2.od) ?_ (fun s3 h3 => ?_) (fun _ h => h))
    · by_cases g8 : k.k s2.i = 8
      · rw [if_pos g8]
        exact fDuties_c tl 101 s2 (by rw [E2.nn]; omega) (by rw [a1]; omega) (Or.inl g8)
      · rw [if_neg g8]
        exact ⟨Nat.le_refl _, rfl, rfl, rfl, rfl⟩
    · obtain ⟨v1, v2, v3, v4, v5⟩ := h3
      refine Ex_mono (req_e 59 s3) (fun s4 h4 => ?_) (fun _ h => h)
      obtain ⟨h4, h5⟩ := h4
      rw [h4]
      have b4 := w1 tl (i := s3.i) (by omega)
      refine ⟨?_, by show s3.od = _; omega, fun t => (t.add hi E2 a2 (fun e => by omega)).fr v2 v3 v4⟩
      show PD s3.T + 2 * k.pl s.i ≤ PD s.T + 2 * k.pl (s3.i + 1)
      omega
  by_cases g6 : k.k s.i = 6
  · rw [if_pos g6]; exact main 0 (Or.inl ⟨g6, rfl⟩)
  · rw [if_neg g6]; exact main 1 (Or.inr ⟨by omega, rfl⟩)
theorem fDuty_c (tl : TL k N) {s : PS} {a : Nat} (h : TW s.T.nn s) (ho : s.os = some a) (h9 : k.k s.i = 9) : Ex (RHC k s) (fun _ => True) (fDuty k s) := by
  unfold fDuty
  obtain ⟨g1, g2, _⟩ := h.O.os a ho
  by_cases g : k.k (s.i + 1) ≠ 6 ∧ k.k (s.i + 1) ≠ 7
  · rw [if_pos g]; trivial
  · rw [if_neg g, ho]
    show Ex _ _ ((fDutyN k a (if k.k (s.i + 1) = 6 then 1 else 2) s.st.st).bind (fun s' => req k 59 s'))
    refine Ex_bnd (Ex_mono (fDutyN_e a _ s.st.st) (fun s' h' => ?_) (fun _ _ => trivial))
    obtain ⟨t1, t2, t3, t4, t5⟩ := h'
    have t1 : s'.i = s.i + 3 := t1
    have t3 : s'.od = s.od := t3
    have t4 : k.k (s.i + 2) = 129 := t4
    have t5 : s'.T = addDt s.T a (if k.k (s.i + 1) = 6 then 1 else 2) (k.v (s.i + 2)) := t5
    obtain ⟨u1, u2, u3, u4, u5⟩ := PD_dt g1 t5
    clear t5
    rw [if_pos g2] at u1
    have ew : wd (if (if k.k (s.i + 1) = 6 then 1 else 2) = 1 then 6 else 7) = wd (k.k (s.i + 1)) := by
      by_cases q : k.k (s.i + 1) = 6
      · rw [if_pos q, if_pos rfl, q]
      · rw [if_neg q, if_neg (by omega), show k.k (s.i + 1) = 7 by omega]
    rw [ew] at u1
    have lw : 4 ≤ (wd (k.k (s.i + 1))).length := by
      rcases (show k.k (s.i + 1) = 6 ∨ k.k (s.i + 1) = 7 by omega) with q | q <;> rw [q] <;> decide
    refine Ex_mono (req_e 59 s') (fun s4 h4 => ?_) (fun _ h => h)
    obtain ⟨h4, h5⟩ := h4
    rw [h4]
    have b1 := tl.wg (i := s.i) (by omega) (by omega) (wl_w (x := k.k (s.i + 1)) (by omega))
    rw [h9, show (wd 9).length = 4 from rfl] at b1
    have b2 : k.pl (s.i + 1) + (wd (k.k (s.i + 1))).length + 1 ≤ k.pl (s.i + 2) := tl.wg (i := s.i + 1) (by omega) (by omega) (wl_d t4)
    have b3 : k.pl (s.i + 2) + (sNum (k.v (s.i + 2))).length ≤ k.pl (s.i + 3) := wN tl t4
    have b4 := w1 tl (i := s'.i) (by omega)
    have b5 := sNum_pos (k.v (s.i + 2))
    rw [t1] at b4
    refine ⟨?_, t3, fun t => t.fr u2 u3 u4⟩
    show PD s'.T + 2 * k.pl s.i ≤ PD s.T + 2 * k.pl (s'.i + 1)
    rw [t1]
    omega
def MIv (k : Tk) (s : PS) : Prop := PD s.T ≤ 2 * k.pl s.i + 2 * s.od ∧ TDp s.T
theorem fMember_c (tl : TL k N) (hk : KI k) {s : PS} {a : Nat} (h : TW s.T.nn s) (ho : s.os = some a) (hi : PInv s) (m : MIv k s) : Ex (MIv k) (fun _ => True) (fMember k s) := by
  obtain ⟨m1, m2⟩ := m
  unfold fMember
  by_cases g4 : k.k s.i = 4
  · rw [if_pos g4]
    refine Ex_mono (fSet_c tl hk h hi) (fun s' c => ?_) (fun _ h => h)
    obtain ⟨c1, c2, c3⟩ := c
    exact ⟨by omega, c3 m2⟩
  · rw [if_neg g4]
    by_cases g6 : k.k s.i = 6 ∨ k.k s.i = 7
    · rw [if_pos g6]
      refine Ex_mono (fRule_c tl hk h hi g6) (fun s' c => ?_) (fun _ h => h)
      obtain ⟨c1, c2, c3⟩ := c
      exact ⟨by omega, c3 m2⟩
    · rw [if_neg g6]
      by_cases g9 : k.k s.i = 9
      · rw [if_pos g9]
        refine Ex_mono (fDuty_c tl h ho g9) (fun s' c => ?_) (fun _ h => h)
        obtain ⟨c1, c2, c3⟩ := c
        exact ⟨by omega, c3 m2⟩
      · rw [if_neg g9]
        by_cases g5 : k.k s.i = 125
        · rw [if_pos g5]
          have p := (hi.close ho).1
          have b := w1 tl (i := s.i) (by omega)
          refine ⟨?_, m2⟩
          show PD s.T ≤ 2 * k.pl (s.i + 1) + 2 * (s.od - 1)
          omega
        · rw [if_neg g5]; trivial
theorem fMembers_c (tl : TL k N) (hk : KI k) : ∀ (n : Nat) (s : PS), TW s.T.nn s → s.od ≤ 20 → PInv s → MIv k s → Ex (fun s' => MIv k s' ∧ s'.od ≤ 20) (fun _ => True) (fMembers k n s) := by
  intro n
  induction n with
  | zero => intro s _ h2 _ m; exact ⟨m, h2⟩
  | succ n ih =>
    intro s h1 h2 hi m
    rw [fMembers]
    cases ho : s.os with
    | none => rw [if_pos rfl]; exact ⟨m, h2⟩
    | some a =>
      rw [if_neg (by simp)]
      exact Ex_bnd (Ex_mono (Ex_and (Ex_and (fMember_tw hk h1 h2 ho hi) (fMember_inv (k := k) hi ho)) (fMember_c tl hk h1 ho hi m)) (fun s' hs => ih s' hs.1.1.1 hs.1.1.2.1 hs.1.2.1 hs.2) (fun _ _ => trivial))
theorem fAttr_e (s : PS) : Ex (fun s' => s'.T.np = s.T.np ∧ s'.T.nd = s.T.nd) (fun _ => True) (fAttr k s) := by
  unfold fAttr
  split
  · trivial
  · split
    · trivial
    · split
      · trivial
      · split
        · trivial
        · split
          · trivial
          · refine Ex_mono (req_ad 59 _) (fun s4 h4 => ?_) (fun _ h => h)
            rw [h4]; exact ⟨rfl, rfl⟩
theorem fAttrs_e : ∀ (n : Nat) (s : PS), Ex (fun s' => s'.T.np = s.T.np ∧ s'.T.nd = s.T.nd) (fun _ => True) (fAttrs k n s) := by
  intro n
  induction n with
  | zero => intro s; exact ⟨rfl, rfl⟩
  | succ n ih =>
    intro s
    rw [fAttrs]
    split
    · exact Ex_bnd (Ex_mono (fAttr_e s) (fun s' h' => Ex_mono (ih s') (fun z hz => ⟨hz.1.trans h'.1, hz.2.trans h'.2⟩) (fun _ h => h)) (fun _ h => h))
    · exact ⟨rfl, rfl⟩
theorem fText_c (tl : TL k N) (hk : KI k) : Ex (fun s' => PD s'.T ≤ 2 * N + 40 ∧ TDp s'.T) (fun _ => True) (fText k tx0) := by
  show Ex _ _ ((fAttrs k 9 ps0).bind (fun s => (fSet k s).bind (fun s1 => (fMembers k k.n s1).bind (fun s2 => if k.k s2.i = 130 then .ok s2 else .error (rf k 2 s2)))))
  refine Ex_bnd (Ex_mono (Ex_and (Ex_and (fAttrs_tw hk 9 ps0 TW.ps0) (fAttrs_f (k := k) 9 ps0)) (fAttrs_e (k := k) 9 ps0)) (fun s hs => ?_) (fun _ _ => trivial))
  obtain ⟨⟨h1, h2⟩, h3, h4⟩ := hs
  have i1 := h2.inv PInv.ps0
  have hn : s.T.nn = 0 := h2.nn
  have hd : s.od = 0 := h2.od
  have h3 : s.T.np = 0 := h3
  have h4 : s.T.nd = 0 := h4
  have p0 : PD s.T = 0 := by unfold PD fdt CP; rw [h3, h4, hn]; rfl
  have t0 : TDp s.T := fun i hi => by rw [hn] at hi; exact absurd hi (Nat.not_lt_zero _)
  refine Ex_bnd (Ex_mono (Ex_and (Ex_and (fSet_tw hk h1 (by omega) (fun _ => hn)) (fSet_inv (k := k) i1)) (fSet_c tl hk h1 i1)) (fun s1 hs1 => ?_) (fun _ _ => trivial))
  obtain ⟨⟨⟨g1, g2, g3, _⟩, g4, _⟩, c1, c2, c3⟩ := hs1
  refine Ex_bnd (Ex_mono (fMembers_c tl hk k.n s1 g1 g2 g4 ⟨by omega, c3 t0⟩) (fun s2 hs2 => ?_) (fun _ h => h))
  obtain ⟨⟨d1, d2⟩, d3⟩ := hs2
  have d4 := tl.le s2.i
  split
  · exact ⟨by omega, d2⟩
  · trivial
end CN
