/-! WHAT THE TAPE SAYS, as a function: tokens, and the text that they make. Both sides are held against it. -/
/-- a text: attributes, nodes, duties, parts; dn: the parts in the order in which they are complete -/
def Txt : Type := (Nat) × (Nat → Nat) × (Nat → Bool) × (Nat → Bool) × (Nat → Nat) × (Nat → Nat → Nat) × (Nat) × (Nat → Nat) × (Nat → Option Nat) × (Nat → Option Nat) × (Nat → Option Nat) × (Nat → Nat) × (Nat → Nat → Nat) × (Nat → Nat) × (Nat → Nat) × (Nat → Option Nat) × (Nat → Nat) × (Nat) × (Nat → Nat) × (Nat → Nat) × (Nat → Nat) × (Nat) × (Nat → Nat) × (Nat → Nat) × (Nat → Nat) × (Nat → Nat) × (Nat → Option Nat) × (Nat → Option Nat) × (List Nat)
abbrev Txt.na (x : Txt) : Nat := x.1
abbrev Txt.asz (x : Txt) : Nat → Nat := x.2.1
abbrev Txt.amany (x : Txt) : Nat → Bool := x.2.2.1
abbrev Txt.amust (x : Txt) : Nat → Bool := x.2.2.2.1
abbrev Txt.anl (x : Txt) : Nat → Nat := x.2.2.2.2.1
abbrev Txt.anm (x : Txt) : Nat → Nat → Nat := x.2.2.2.2.2.1
abbrev Txt.nn (x : Txt) : Nat := x.2.2.2.2.2.2.1
abbrev Txt.srt (x : Txt) : Nat → Nat := x.2.2.2.2.2.2.2.1
abbrev Txt.way (x : Txt) : Nat → Option Nat := x.2.2.2.2.2.2.2.2.1
abbrev Txt.fa (x : Txt) : Nat → Option Nat := x.2.2.2.2.2.2.2.2.2.1
abbrev Txt.root (x : Txt) : Nat → Option Nat := x.2.2.2.2.2.2.2.2.2.2.1
abbrev Txt.nnl (x : Txt) : Nat → Nat := x.2.2.2.2.2.2.2.2.2.2.2.1
abbrev Txt.nnm (x : Txt) : Nat → Nat → Nat := x.2.2.2.2.2.2.2.2.2.2.2.2.1
abbrev Txt.own (x : Txt) : Nat → Nat := x.2.2.2.2.2.2.2.2.2.2.2.2.2.1
abbrev Txt.chn (x : Txt) : Nat → Nat := x.2.2.2.2.2.2.2.2.2.2.2.2.2.2.1
abbrev Txt.nxt (x : Txt) : Nat → Option Nat := x.2.2.2.2.2.2.2.2.2.2.2.2.2.2.2.1
abbrev Txt.lst (x : Txt) : Nat → Nat := x.2.2.2.2.2.2.2.2.2.2.2.2.2.2.2.2.1
abbrev Txt.nd (x : Txt) : Nat := x.2.2.2.2.2.2.2.2.2.2.2.2.2.2.2.2.2.1
abbrev Txt.dnum (x : Txt) : Nat → Nat := x.2.2.2.2.2.2.2.2.2.2.2.2.2.2.2.2.2.2.1
abbrev Txt.dof (x : Txt) : Nat → Nat := x.2.2.2.2.2.2.2.2.2.2.2.2.2.2.2.2.2.2.2.1
abbrev Txt.dfor (x : Txt) : Nat → Nat := x.2.2.2.2.2.2.2.2.2.2.2.2.2.2.2.2.2.2.2.2.1
abbrev Txt.np (x : Txt) : Nat := x.2.2.2.2.2.2.2.2.2.2.2.2.2.2.2.2.2.2.2.2.2.1
abbrev Txt.pk (x : Txt) : Nat → Nat := x.2.2.2.2.2.2.2.2.2.2.2.2.2.2.2.2.2.2.2.2.2.2.1
abbrev Txt.pa (x : Txt) : Nat → Nat := x.2.2.2.2.2.2.2.2.2.2.2.2.2.2.2.2.2.2.2.2.2.2.2.1
abbrev Txt.pnum (x : Txt) : Nat → Nat := x.2.2.2.2.2.2.2.2.2.2.2.2.2.2.2.2.2.2.2.2.2.2.2.2.1
abbrev Txt.pj (x : Txt) : Nat → Nat := x.2.2.2.2.2.2.2.2.2.2.2.2.2.2.2.2.2.2.2.2.2.2.2.2.2.1
abbrev Txt.pf (x : Txt) : Nat → Option Nat := x.2.2.2.2.2.2.2.2.2.2.2.2.2.2.2.2.2.2.2.2.2.2.2.2.2.2.1
abbrev Txt.pn (x : Txt) : Nat → Option Nat := x.2.2.2.2.2.2.2.2.2.2.2.2.2.2.2.2.2.2.2.2.2.2.2.2.2.2.2.1
abbrev Txt.dn (x : Txt) : List Nat := x.2.2.2.2.2.2.2.2.2.2.2.2.2.2.2.2.2.2.2.2.2.2.2.2.2.2.2.2
abbrev Txt.s_na (x : Txt) (v : Nat) : Txt := (v, x.2)
abbrev Txt.s_asz (x : Txt) (v : Nat → Nat) : Txt := (x.1, v, x.2.2)
abbrev Txt.s_amany (x : Txt) (v : Nat → Bool) : Txt := (x.1, x.2.1, v, x.2.2.2)
abbrev Txt.s_amust (x : Txt) (v : Nat → Bool) : Txt := (x.1, x.2.1, x.2.2.1, v, x.2.2.2.2)
abbrev Txt.s_anl (x : Txt) (v : Nat → Nat) : Txt := (x.1, x.2.1, x.2.2.1, x.2.2.2.1, v, x.2.2.2.2.2)
abbrev Txt.s_anm (x : Txt) (v : Nat → Nat → Nat) : Txt := (x.1, x.2.1, x.2.2.1, x.2.2.2.1, x.2.2.2.2.1, v, x.2.2.2.2.2.2)
abbrev Txt.s_nn (x : Txt) (v : Nat) : Txt := (x.1, x.2.1, x.2.2.1, x.2.2.2.1, x.2.2.2.2.1, x.2.2.2.2.2.1, v, x.2.2.2.2.2.2.2)
abbrev Txt.s_srt (x : Txt) (v : Nat → Nat) : Txt := (x.1, x.2.1, x.2.2.1, x.2.2.2.1, x.2.2.2.2.1, x.2.2.2.2.2.1, x.2.2.2.2.2.2.1, v, x.2.2.2.2.2.2.2.2)
abbrev Txt.s_way (x : Txt) (v : Nat → Option Nat) : Txt := (x.1, x.2.1, x.2.2.1, x.2.2.2.1, x.2.2.2.2.1, x.2.2.2.2.2.1, x.2.2.2.2.2.2.1, x.2.2.2.2.2.2.2.1, v, x.2.2.2.2.2.2.2.2.2)
abbrev Txt.s_fa (x : Txt) (v : Nat → Option Nat) : Txt := (x.1, x.2.1, x.2.2.1, x.2.2.2.1, x.2.2.2.2.1, x.2.2.2.2.2.1, x.2.2.2.2.2.2.1, x.2.2.2.2.2.2.2.1, x.2.2.2.2.2.2.2.2.1, v, x.2.2.2.2.2.2.2.2.2.2)
abbrev Txt.s_root (x : Txt) (v : Nat → Option Nat) : Txt := (x.1, x.2.1, x.2.2.1, x.2.2.2.1, x.2.2.2.2.1, x.2.2.2.2.2.1, x.2.2.2.2.2.2.1, x.2.2.2.2.2.2.2.1, x.2.2.2.2.2.2.2.2.1, x.2.2.2.2.2.2.2.2.2.1, v, x.2.2.2.2.2.2.2.2.2.2.2)
abbrev Txt.s_nnl (x : Txt) (v : Nat → Nat) : Txt := (x.1, x.2.1, x.2.2.1, x.2.2.2.1, x.2.2.2.2.1, x.2.2.2.2.2.1, x.2.2.2.2.2.2.1, x.2.2.2.2.2.2.2.1, x.2.2.2.2.2.2.2.2.1, x.2.2.2.2.2.2.2.2.2.1, x.2.2.2.2.2.2.2.2.2.2.1, v, x.2.2.2.2.2.2.2.2.2.2.2.2)
abbrev Txt.s_nnm (x : Txt) (v : Nat → Nat → Nat) : Txt := (x.1, x.2.1, x.2.2.1, x.2.2.2.1, x.2.2.2.2.1, x.2.2.2.2.2.1, x.2.2.2.2.2.2.1, x.2.2.2.2.2.2.2.1, x.2.2.2.2.2.2.2.2.1, x.2.2.2.2.2.2.2.2.2.1, x.2.2.2.2.2.2.2.2.2.2.1, x.2.2.2.2.2.2.2.2.2.2.2.1, v, x.2.2.2.2.2.2.2.2.2.2.2.2.2)
abbrev Txt.s_own (x : Txt) (v : Nat → Nat) : Txt := (x.1, x.2.1, x.2.2.1, x.2.2.2.1, x.2.2.2.2.1, x.2.2.2.2.2.1, x.2.2.2.2.2.2.1, x.2.2.2.2.2.2.2.1, x.2.2.2.2.2.2.2.2.1, x.2.2.2.2.2.2.2.2.2.1, x.2.2.2.2.2.2.2.2.2.2.1, x.2.2.2.2.2.2.2.2.2.2.2.1, x.2.2.2.2.2.2.2.2.2.2.2.2.1, v, x.2.2.2.2.2.2.2.2.2.2.2.2.2.2)
abbrev Txt.s_chn (x : Txt) (v : Nat → Nat) : Txt := (x.1, x.2.1, x.2.2.1, x.2.2.2.1, x.2.2.2.2.1, x.2.2.2.2.2.1, x.2.2.2.2.2.2.1, x.2.2.2.2.2.2.2.1, x.2.2.2.2.2.2.2.2.1, x.2.2.2.2.2.2.2.2.2.1, x.2.2.2.2.2.2.2.2.2.2.1, x.2.2.2.2.2.2.2.2.2.2.2.1, x.2.2.2.2.2.2.2.2.2.2.2.2.1, x.2.2.2.2.2.2.2.2.2.2.2.2.2.1, v, x.2.2.2.2.2.2.2.2.2.2.2.2.2.2.2)
abbrev Txt.s_nxt (x : Txt) (v : Nat → Option Nat) : Txt := (x.1, x.2.1, x.2.2.1, x.2.2.2.1, x.2.2.2.2.1, x.2.2.2.2.2.1, x.2.2.2.2.2.2.1, x.2.2.2.2.2.2.2.1, x.2.2.2.2.2.2.2.2.1, x.2.2.2.2.2.2.2.2.2.1, x.2.2.2.2.2.2.2.2.2.2.1, x.2.2.2.2.2.2.2.2.2.2.2.1, x.2.2.2.2.2.2.2.2.2.2.2.2.1, x.2.2.2.2.2.2.2.2.2.2.2.2.2.1, x.2.2.2.2.2.2.2.2.2.2.2.2.2.2.1, v, x.2.2.2.2.2.2.2.2.2.2.2.2.2.2.2.2)
abbrev Txt.s_lst (x : Txt) (v : Nat → Nat) : Txt := (x.1, x.2.1, x.2.2.1, x.2.2.2.1, x.2.2.2.2.1, x.2.2.2.2.2.1, x.2.2.2.2.2.2.1, x.2.2.2.2.2.2.2.1, x.2.2.2.2.2.2.2.2.1, x.2.2.2.2.2.2.2.2.2.1, x.2.2.2.2.2.2.2.2.2.2.1, x.2.2.2.2.2.2.2.2.2.2.2.1, x.2.2.2.2.2.2.2.2.2.2.2.2.1, x.2.2.2.2.2.2.2.2.2.2.2.2.2.1, x.2.2.2.2.2.2.2.2.2.2.2.2.2.2.1, x.2.2.2.2.2.2.2.2.2.2.2.2.2.2.2.1, v, x.2.2.2.2.2.2.2.2.2.2.2.2.2.2.2.2.2)
abbrev Txt.s_nd (x : Txt) (v : Nat) : Txt := (x.1, x.2.1, x.2.2.1, x.2.2.2.1, x.2.2.2.2.1, x.2.2.2.2.2.1, x.2.2.2.2.2.2.1, x.2.2.2.2.2.2.2.1, x.2.2.2.2.2.2.2.2.1, x.2.2.2.2.2.2.2.2.2.1, x.2.2.2.2.2.2.2.2.2.2.1, x.2.2.2.2.2.2.2.2.2.2.2.1, x.2.2.2.2.2.2.2.2.2.2.2.2.1, x.2.2.2.2.2.2.2.2.2.2.2.2.2.1, x.2.2.2.2.2.2.2.2.2.2.2.2.2.2.1, x.2.2.2.2.2.2.2.2.2.2.2.2.2.2.2.1, x.2.2.2.2.2.2.2.2.2.2.2.2.2.2.2.2.1, v, x.2.2.2.2.2.2.2.2.2.2.2.2.2.2.2.2.2.2)
abbrev Txt.s_dnum (x : Txt) (v : Nat → Nat) : Txt := (x.1, x.2.1, x.2.2.1, x.2.2.2.1, x.2.2.2.2.1, x.2.2.2.2.2.1, x.2.2.2.2.2.2.1, x.2.2.2.2.2.2.2.1, x.2.2.2.2.2.2.2.2.1, x.2.2.2.2.2.2.2.2.2.1, x.2.2.2.2.2.2.2.2.2.2.1, x.2.2.2.2.2.2.2.2.2.2.2.1, x.2.2.2.2.2.2.2.2.2.2.2.2.1, x.2.2.2.2.2.2.2.2.2.2.2.2.2.1, x.2.2.2.2.2.2.2.2.2.2.2.2.2.2.1, x.2.2.2.2.2.2.2.2.2.2.2.2.2.2.2.1, x.2.2.2.2.2.2.2.2.2.2.2.2.2.2.2.2.1, x.2.2.2.2.2.2.2.2.2.2.2.2.2.2.2.2.2.1, v, x.2.2.2.2.2.2.2.2.2.2.2.2.2.2.2.2.2.2.2)
abbrev Txt.s_dof (x : Txt) (v : Nat → Nat) : Txt := (x.1, x.2.1, x.2.2.1, x.2.2.2.1, x.2.2.2.2.1, x.2.2.2.2.2.1, x.2.2.2.2.2.2.1, x.2.2.2.2.2.2.2.1, x.2.2.2.2.2.2.2.2.1, x.2.2.2.2.2.2.2.2.2.1, x.2.2.2.2.2.2.2.2.2.2.1, x.2.2.2.2.2.2.2.2.2.2.2.1, x.2.2.2.2.2.2.2.2.2.2.2.2.1, x.2.2.2.2.2.2.2.2.2.2.2.2.2.1, x.2.2.2.2.2.2.2.2.2.2.2.2.2.2.1, x.2.2.2.2.2.2.2.2.2.2.2.2.2.2.2.1, x.2.2.2.2.2.2.2.2.2.2.2.2.2.2.2.2.1, x.2.2.2.2.2.2.2.2.2.2.2.2.2.2.2.2.2.1, x.2.2.2.2.2.2.2.2.2.2.2.2.2.2.2.2.2.2.1, v, x.2.2.2.2.2.2.2.2.2.2.2.2.2.2.2.2.2.2.2.2)
abbrev Txt.s_dfor (x : Txt) (v : Nat → Nat) : Txt := (x.1, x.2.1, x.2.2.1, x.2.2.2.1, x.2.2.2.2.1, x.2.2.2.2.2.1, x.2.2.2.2.2.2.1, x.2.2.2.2.2.2.2.1, x.2.2.2.2.2.2.2.2.1, x.2.2.2.2.2.2.2.2.2.1, x.2.2.2.2.2.2.2.2.2.2.1, x.2.2.2.2.2.2.2.2.2.2.2.1, x.2.2.2.2.2.2.2.2.2.2.2.2.1, x.2.2.2.2.2.2.2.2.2.2.2.2.2.1, x.2.2.2.2.2.2.2.2.2.2.2.2.2.2.1, x.2.2.2.2.2.2.2.2.2.2.2.2.2.2.2.1, x.2.2.2.2.2.2.2.2.2.2.2.2.2.2.2.2.1, x.2.2.2.2.2.2.2.2.2.2.2.2.2.2.2.2.2.1, x.2.2.2.2.2.2.2.2.2.2.2.2.2.2.2.2.2.2.1, x.2.2.2.2.2.2.2.2.2.2.2.2.2.2.2.2.2.2.2.1, v, x.2.2.2.2.2.2.2.2.2.2.2.2.2.2.2.2.2.2.2.2.2)
abbrev Txt.s_np (x : Txt) (v : Nat) : Txt := (x.1, x.2.1, x.2.2.1, x.2.2.2.1, x.2.2.2.2.1, x.2.2.2.2.2.1, x.2.2.2.2.2.2.1, x.2.2.2.2.2.2.2.1, x.2.2.2.2.2.2.2.2.1, x.2.2.2.2.2.2.2.2.2.1, x.2.2.2.2.2.2.2.2.2.2.1, x.2.2.2.2.2.2.2.2.2.2.2.1, x.2.2.2.2.2.2.2.2.2.2.2.2.1, x.2.2.2.2.2.2.2.2.2.2.2.2.2.1, x.2.2.2.2.2.2.2.2.2.2.2.2.2.2.1, x.2.2.2.2.2.2.2.2.2.2.2.2.2.2.2.1, x.2.2.2.2.2.2.2.2.2.2.2.2.2.2.2.2.1, x.2.2.2.2.2.2.2.2.2.2.2.2.2.2.2.2.2.1, x.2.2.2.2.2.2.2.2.2.2.2.2.2.2.2.2.2.2.1, x.2.2.2.2.2.2.2.2.2.2.2.2.2.2.2.2.2.2.2.1, x.2.2.2.2.2.2.2.2.2.2.2.2.2.2.2.2.2.2.2.2.1, v, x.2.2.2.2.2.2.2.2.2.2.2.2.2.2.2.2.2.2.2.2.2.2)
abbrev Txt.s_pk (x : Txt) (v : Nat → Nat) : Txt := (x.1, x.2.1, x.2.2.1, x.2.2.2.1, x.2.2.2.2.1, x.2.2.2.2.2.1, x.2.2.2.2.2.2.1, x.2.2.2.2.2.2.2.1, x.2.2.2.2.2.2.2.2.1, x.2.2.2.2.2.2.2.2.2.1, x.2.2.2.2.2.2.2.2.2.2.1, x.2.2.2.2.2.2.2.2.2.2.2.1, x.2.2.2.2.2.2.2.2.2.2.2.2.1, x.2.2.2.2.2.2.2.2.2.2.2.2.2.1, x.2.2.2.2.2.2.2.2.2.2.2.2.2.2.1, x.2.2.2.2.2.2.2.2.2.2.2.2.2.2.2.1, x.2.2.2.2.2.2.2.2.2.2.2.2.2.2.2.2.1, x.2.2.2.2.2.2.2.2.2.2.2.2.2.2.2.2.2.1, x.2.2.2.2.2.2.2.2.2.2.2.2.2.2.2.2.2.2.1, x.2.2.2.2.2.2.2.2.2.2.2.2.2.2.2.2.2.2.2.1, x.2.2.2.2.2.2.2.2.2.2.2.2.2.2.2.2.2.2.2.2.1, x.2.2.2.2.2.2.2.2.2.2.2.2.2.2.2.2.2.2.2.2.2.1, v, x.2.2.2.2.2.2.2.2.2.2.2.2.2.2.2.2.2.2.2.2.2.2.2)
abbrev Txt.s_pa (x : Txt) (v : Nat → Nat) : Txt := (x.1, x.2.1, x.2.2.1, x.2.2.2.1, x.2.2.2.2.1, x.2.2.2.2.2.1, x.2.2.2.2.2.2.1, x.2.2.2.2.2.2.2.1, x.2.2.2.2.2.2.2.2.1, x.2.2.2.2.2.2.2.2.2.1, x.2.2.2.2.2.2.2.2.2.2.1, x.2.2.2.2.2.2.2.2.2.2.2.1, x.2.2.2.2.2.2.2.2.2.2.2.2.1, x.2.2.2.2.2.2.2.2.2.2.2.2.2.1, x.2.2.2.2.2.2.2.2.2.2.2.2.2.2.1, x.2.2.2.2.2.2.2.2.2.2.2.2.2.2.2.1, x.2.2.2.2.2.2.2.2.2.2.2.2.2.2.2.2.1, x.2.2.2.2.2.2.2.2.2.2.2.2.2.2.2.2.2.1, x.2.2.2.2.2.2.2.2.2.2.2.2.2.2.2.2.2.2.1, x.2.2.2.2.2.2.2.2.2.2.2.2.2.2.2.2.2.2.2.1, x.2.2.2.2.2.2.2.2.2.2.2.2.2.2.2.2.2.2.2.2.1, x.2.2.2.2.2.2.2.2.2.2.2.2.2.2.2.2.2.2.2.2.2.1, x.2.2.2.2.2.2.2.2.2.2.2.2.2.2.2.2.2.2.2.2.2.2.1, v, x.2.2.2.2.2.2.2.2.2.2.2.2.2.2.2.2.2.2.2.2.2.2.2.2)
abbrev Txt.s_pnum (x : Txt) (v : Nat → Nat) : Txt := (x.1, x.2.1, x.2.2.1, x.2.2.2.1, x.2.2.2.2.1, x.2.2.2.2.2.1, x.2.2.2.2.2.2.1, x.2.2.2.2.2.2.2.1, x.2.2.2.2.2.2.2.2.1, x.2.2.2.2.2.2.2.2.2.1, x.2.2.2.2.2.2.2.2.2.2.1, x.2.2.2.2.2.2.2.2.2.2.2.1, x.2.2.2.2.2.2.2.2.2.2.2.2.1, x.2.2.2.2.2.2.2.2.2.2.2.2.2.1, x.2.2.2.2.2.2.2.2.2.2.2.2.2.2.1, x.2.2.2.2.2.2.2.2.2.2.2.2.2.2.2.1, x.2.2.2.2.2.2.2.2.2.2.2.2.2.2.2.2.1, x.2.2.2.2.2.2.2.2.2.2.2.2.2.2.2.2.2.1, x.2.2.2.2.2.2.2.2.2.2.2.2.2.2.2.2.2.2.1, x.2.2.2.2.2.2.2.2.2.2.2.2.2.2.2.2.2.2.2.1, x.2.2.2.2.2.2.2.2.2.2.2.2.2.2.2.2.2.2.2.2.1, x.2.2.2.2.2.2.2.2.2.2.2.2.2.2.2.2.2.2.2.2.2.1, x.2.2.2.2.2.2.2.2.2.2.2.2.2.2.2.2.2.2.2.2.2.2.1, x.2.2.2.2.2.2.2.2.2.2.2.2.2.2.2.2.2.2.2.2.2.2.2.1, v, x.2.2.2.2.2.2.2.2.2.2.2.2.2.2.2.2.2.2.2.2.2.2.2.2.2)
abbrev Txt.s_pj (x : Txt) (v : Nat → Nat) : Txt := (x.1, x.2.1, x.2.2.1, x.2.2.2.1, x.2.2.2.2.1, x.2.2.2.2.2.1, x.2.2.2.2.2.2.1, x.2.2.2.2.2.2.2.1, x.2.2.2.2.2.2.2.2.1, x.2.2.2.2.2.2.2.2.2.1, x.2.2.2.2.2.2.2.2.2.2.1, x.2.2.2.2.2.2.2.2.2.2.2.1, x.2.2.2.2.2.2.2.2.2.2.2.2.1, x.2.2.2.2.2.2.2.2.2.2.2.2.2.1, x.2.2.2.2.2.2.2.2.2.2.2.2.2.2.1, x.2.2.2.2.2.2.2.2.2.2.2.2.2.2.2.1, x.2.2.2.2.2.2.2.2.2.2.2.2.2.2.2.2.1, x.2.2.2.2.2.2.2.2.2.2.2.2.2.2.2.2.2.1, x.2.2.2.2.2.2.2.2.2.2.2.2.2.2.2.2.2.2.1, x.2.2.2.2.2.2.2.2.2.2.2.2.2.2.2.2.2.2.2.1, x.2.2.2.2.2.2.2.2.2.2.2.2.2.2.2.2.2.2.2.2.1, x.2.2.2.2.2.2.2.2.2.2.2.2.2.2.2.2.2.2.2.2.2.1, x.2.2.2.2.2.2.2.2.2.2.2.2.2.2.2.2.2.2.2.2.2.2.1, x.2.2.2.2.2.2.2.2.2.2.2.2.2.2.2.2.2.2.2.2.2.2.2.1, x.2.2.2.2.2.2.2.2.2.2.2.2.2.2.2.2.2.2.2.2.2.2.2.2.1, v, x.2.2.2.2.2.2.2.2.2.2.2.2.2.2.2.2.2.2.2.2.2.2.2.2.2.2)
abbrev Txt.s_pf (x : Txt) (v : Nat → Option Nat) : Txt := (x.1, x.2.1, x.2.2.1, x.2.2.2.1, x.2.2.2.2.1, x.2.2.2.2.2.1, x.2.2.2.2.2.2.1, x.2.2.2.2.2.2.2.1, x.2.2.2.2.2.2.2.2.1, x.2.2.2.2.2.2.2.2.2.1, x.2.2.2.2.2.2.2.2.2.2.1, x.2.2.2.2.2.2.2.2.2.2.2.1, x.2.2.2.2.2.2.2.2.2.2.2.2.1, x.2.2.2.2.2.2.2.2.2.2.2.2.2.1, x.2.2.2.2.2.2.2.2.2.2.2.2.2.2.1, x.2.2.2.2.2.2.2.2.2.2.2.2.2.2.2.1, x.2.2.2.2.2.2.2.2.2.2.2.2.2.2.2.2.1, x.2.2.2.2.2.2.2.2.2.2.2.2.2.2.2.2.2.1, x.2.2.2.2.2.2.2.2.2.2.2.2.2.2.2.2.2.2.1, x.2.2.2.2.2.2.2.2.2.2.2.2.2.2.2.2.2.2.2.1, x.2.2.2.2.2.2.2.2.2.2.2.2.2.2.2.2.2.2.2.2.1, x.2.2.2.2.2.2.2.2.2.2.2.2.2.2.2.2.2.2.2.2.2.1, x.2.2.2.2.2.2.2.2.2.2.2.2.2.2.2.2.2.2.2.2.2.2.1, x.2.2.2.2.2.2.2.2.2.2.2.2.2.2.2.2.2.2.2.2.2.2.2.1, x.2.2.2.2.2.2.2.2.2.2.2.2.2.2.2.2.2.2.2.2.2.2.2.2.1, x.2.2.2.2.2.2.2.2.2.2.2.2.2.2.2.2.2.2.2.2.2.2.2.2.2.1, v, x.2.2.2.2.2.2.2.2.2.2.2.2.2.2.2.2.2.2.2.2.2.2.2.2.2.2.2)
abbrev Txt.s_pn (x : Txt) (v : Nat → Option Nat) : Txt := (x.1, x.2.1, x.2.2.1, x.2.2.2.1, x.2.2.2.2.1, x.2.2.2.2.2.1, x.2.2.2.2.2.2.1, x.2.2.2.2.2.2.2.1, x.2.2.2.2.2.2.2.2.1, x.2.2.2.2.2.2.2.2.2.1, x.2.2.2.2.2.2.2.2.2.2.1, x.2.2.2.2.2.2.2.2.2.2.2.1, x.2.2.2.2.2.2.2.2.2.2.2.2.1, x.2.2.2.2.2.2.2.2.2.2.2.2.2.1, x.2.2.2.2.2.2.2.2.2.2.2.2.2.2.1, x.2.2.2.2.2.2.2.2.2.2.2.2.2.2.2.1, x.2.2.2.2.2.2.2.2.2.2.2.2.2.2.2.2.1, x.2.2.2.2.2.2.2.2.2.2.2.2.2.2.2.2.2.1, x.2.2.2.2.2.2.2.2.2.2.2.2.2.2.2.2.2.2.1, x.2.2.2.2.2.2.2.2.2.2.2.2.2.2.2.2.2.2.2.1, x.2.2.2.2.2.2.2.2.2.2.2.2.2.2.2.2.2.2.2.2.1, x.2.2.2.2.2.2.2.2.2.2.2.2.2.2.2.2.2.2.2.2.2.1, x.2.2.2.2.2.2.2.2.2.2.2.2.2.2.2.2.2.2.2.2.2.2.1, x.2.2.2.2.2.2.2.2.2.2.2.2.2.2.2.2.2.2.2.2.2.2.2.1, x.2.2.2.2.2.2.2.2.2.2.2.2.2.2.2.2.2.2.2.2.2.2.2.2.1, x.2.2.2.2.2.2.2.2.2.2.2.2.2.2.2.2.2.2.2.2.2.2.2.2.2.1, x.2.2.2.2.2.2.2.2.2.2.2.2.2.2.2.2.2.2.2.2.2.2.2.2.2.2.1, v, x.2.2.2.2.2.2.2.2.2.2.2.2.2.2.2.2.2.2.2.2.2.2.2.2.2.2.2.2)
abbrev Txt.s_dn (x : Txt) (v : List Nat) : Txt := (x.1, x.2.1, x.2.2.1, x.2.2.2.1, x.2.2.2.2.1, x.2.2.2.2.2.1, x.2.2.2.2.2.2.1, x.2.2.2.2.2.2.2.1, x.2.2.2.2.2.2.2.2.1, x.2.2.2.2.2.2.2.2.2.1, x.2.2.2.2.2.2.2.2.2.2.1, x.2.2.2.2.2.2.2.2.2.2.2.1, x.2.2.2.2.2.2.2.2.2.2.2.2.1, x.2.2.2.2.2.2.2.2.2.2.2.2.2.1, x.2.2.2.2.2.2.2.2.2.2.2.2.2.2.1, x.2.2.2.2.2.2.2.2.2.2.2.2.2.2.2.1, x.2.2.2.2.2.2.2.2.2.2.2.2.2.2.2.2.1, x.2.2.2.2.2.2.2.2.2.2.2.2.2.2.2.2.2.1, x.2.2.2.2.2.2.2.2.2.2.2.2.2.2.2.2.2.2.1, x.2.2.2.2.2.2.2.2.2.2.2.2.2.2.2.2.2.2.2.1, x.2.2.2.2.2.2.2.2.2.2.2.2.2.2.2.2.2.2.2.2.1, x.2.2.2.2.2.2.2.2.2.2.2.2.2.2.2.2.2.2.2.2.2.1, x.2.2.2.2.2.2.2.2.2.2.2.2.2.2.2.2.2.2.2.2.2.2.1, x.2.2.2.2.2.2.2.2.2.2.2.2.2.2.2.2.2.2.2.2.2.2.2.1, x.2.2.2.2.2.2.2.2.2.2.2.2.2.2.2.2.2.2.2.2.2.2.2.2.1, x.2.2.2.2.2.2.2.2.2.2.2.2.2.2.2.2.2.2.2.2.2.2.2.2.2.1, x.2.2.2.2.2.2.2.2.2.2.2.2.2.2.2.2.2.2.2.2.2.2.2.2.2.2.1, x.2.2.2.2.2.2.2.2.2.2.2.2.2.2.2.2.2.2.2.2.2.2.2.2.2.2.2.1, v)
/-- tokens: how many, kinds (the class's words), places, values; the bytes -/
def Tk : Type := (Nat) × (Nat → Nat) × (Nat → Nat) × (Nat → Nat) × (Nat → Nat)
abbrev Tk.n (x : Tk) : Nat := x.1
abbrev Tk.k (x : Tk) : Nat → Nat := x.2.1
abbrev Tk.pl (x : Tk) : Nat → Nat := x.2.2.1
abbrev Tk.v (x : Tk) : Nat → Nat := x.2.2.2.1
abbrev Tk.b (x : Tk) : Nat → Nat := x.2.2.2.2
abbrev Tk.s_n (x : Tk) (v : Nat) : Tk := (v, x.2)
abbrev Tk.s_k (x : Tk) (v : Nat → Nat) : Tk := (x.1, v, x.2.2)
abbrev Tk.s_pl (x : Tk) (v : Nat → Nat) : Tk := (x.1, x.2.1, v, x.2.2.2)
abbrev Tk.s_v (x : Tk) (v : Nat → Nat) : Tk := (x.1, x.2.1, x.2.2.1, v, x.2.2.2.2)
abbrev Tk.s_b (x : Tk) (v : Nat → Nat) : Tk := (x.1, x.2.1, x.2.2.1, x.2.2.2.1, v)
/-- where the reading stands -/
def PS : Type := (Nat) × (Txt) × (Option Nat) × (Nat)
abbrev PS.i (x : PS) : Nat := x.1
abbrev PS.T (x : PS) : Txt := x.2.1
abbrev PS.os (x : PS) : Option Nat := x.2.2.1
abbrev PS.od (x : PS) : Nat := x.2.2.2
abbrev PS.s_i (x : PS) (v : Nat) : PS := (v, x.2)
abbrev PS.s_T (x : PS) (v : Txt) : PS := (x.1, v, x.2.2)
abbrev PS.s_os (x : PS) (v : Option Nat) : PS := (x.1, x.2.1, v, x.2.2.2)
abbrev PS.s_od (x : PS) (v : Nat) : PS := (x.1, x.2.1, x.2.2.1, v)
abbrev Fl : Type := Nat × Nat
abbrev PR (α : Type) : Type := Except Fl α
/-- an answer, or a fault: what is asked of each -/
def Ex {α : Type} (P : α → Prop) (E : Fl → Prop) (r : PR α) : Prop := match r with
  | .ok a => P a
  | .error f => E f
theorem Ex_mono {α : Type} {P P' : α → Prop} {E E' : Fl → Prop} {r : PR α} (h : Ex P E r) (hp : ∀ a, P a → P' a) (he : ∀ f, E f → E' f) : Ex P' E' r := by
  cases r with
  | ok a => exact hp _ h
  | error f => exact he _ h
theorem Ex_bind {α β : Type} {P : β → Prop} {E : Fl → Prop} {r : PR α} {f : α → PR β} (h : Ex P E (r.bind f)) : Ex (fun a => Ex P E (f a)) E r := by
  cases r with
  | ok a => exact h
  | error e => exact h
theorem Ex_of {α : Type} {P : α → Prop} {E : Fl → Prop} {r : PR α} (h1 : ∀ a, r = .ok a → P a) (h2 : ∀ f, r = .error f → E f) : Ex P E r := by
  cases r with
  | ok a => exact h1 a rfl
  | error f => exact h2 f rfl
abbrev PS.st (s : PS) : PS := (PS.s_i s (s.i + 1))
section FF
variable (k : Tk)
/-- a refusal here -/
def rfi (why i : Nat) : Fl := (if k.k i = 131 then 1 else why, k.pl i)
def rf (why : Nat) (s : PS) : Fl := rfi k why s.i
/-- is the name here that of an attribute -/
def sameN (k : Tk) (T : Txt) (s a : Nat) : Bool := T.anl a == k.v s && (List.range (k.v s)).all (fun j => T.anm a j == k.b (k.pl s + j))
/-- the first attribute below n from a on, with the name here -/
def findN (k : Tk) (T : Txt) (s : Nat) : Nat → Nat → Option Nat
  | 0, _ => none
  | n + 1, a => if sameN k T s a then some a else findN k T s n (a + 1)
def hereN (s : PS) : Option Nat := findN k s.T s.i s.T.na 0
def skp (w : Nat) (s : PS) : Bool × PS := if k.k s.i = w then (true, s.st) else (false, s)
def req (w : Nat) (s : PS) : PR PS := if k.k s.i = w then .ok s.st else .error (rf k 2 s)
def fAttr (s : PS) : PR PS :=
  if 8 ≤ s.T.na then .error (rf k 5 s) else
  if k.k (s.i + 1) ≠ 128 then .error (rf k 2 s.st) else
  if hereN k s.st ≠ none then .error (rf k 3 s.st) else
  if k.k (s.i + 2) ≠ 129 then .error (rf k 2 s.st.st) else
  if k.v (s.i + 2) < 1 ∨ 8 < k.v (s.i + 2) then .error (rf k 4 s.st.st) else
  (fun q1 : Bool × PS => (fun q2 : Bool × PS =>
    req k 59 (PS.s_T q2.2 ((Txt.s_amust (Txt.s_amany (Txt.s_asz (Txt.s_anm (Txt.s_anl (Txt.s_na s.T (s.T.na + 1)) (up s.T.anl s.T.na (k.v (s.i + 1)))) (up s.T.anm s.T.na (fun j => k.b (k.pl (s.i + 1) + j)))) (up s.T.asz s.T.na (k.v (s.i + 2)))) (up s.T.amany s.T.na q1.1)) (up s.T.amust s.T.na q2.1))))) (skp k 3 q1.2)) (skp k 2 s.st.st.st)
/-- attributes; n: rounds that are left -/
def fAttrs : Nat → PS → PR PS
  | 0, s => .ok s
  | n + 1, s => if k.k s.i = 1 then (fAttr k s).bind (fAttrs n) else .ok s
end FF
/-- a new node -/
def addNd (T : Txt) (sort : Nat) (os : Option Nat) : Txt :=
  let T1 : Txt := (Txt.s_nnl (Txt.s_nxt (Txt.s_chn (Txt.s_own (Txt.s_root (Txt.s_fa (Txt.s_way (Txt.s_srt (Txt.s_nn T (T.nn + 1)) (up T.srt T.nn sort)) (up T.way T.nn none)) (up T.fa T.nn os)) (up T.root T.nn none)) (up T.own T.nn 0)) (up T.chn T.nn 0)) (up T.nxt T.nn none)) (up T.nnl T.nn 0))
  match os with
  | none => T1
  | some a => (Txt.s_chn (Txt.s_lst (Txt.s_nxt T1 (if T1.chn a = 0 then T1.nxt else up T1.nxt (T.lst a) (some T.nn))) (up T.lst a T.nn)) (up T1.chn a (T1.chn a + 1)))
/-- a new part -/
def addPt (T : Txt) (kd : Nat) : Txt := (Txt.s_pn (Txt.s_pf (Txt.s_pj (Txt.s_pnum (Txt.s_pa (Txt.s_pk (Txt.s_np T (T.np + 1)) (up T.pk T.np kd)) (up T.pa T.np 0)) (up T.pnum T.np 0)) (up T.pj T.np 0)) (up T.pf T.np none)) (up T.pn T.np none))
def addDt (T : Txt) (owner dec num : Nat) : Txt := (Txt.s_own (Txt.s_dfor (Txt.s_dof (Txt.s_dnum (Txt.s_nd T (T.nd + 1)) (up T.dnum T.nd num)) (up T.dof T.nd owner)) (up T.dfor T.nd dec)) (up T.own owner (T.own owner + 1)))
section FG
variable (k : Tk)
def fNode (sort : Nat) (s : PS) : PR (Nat × PS) := if 100 ≤ s.T.nn then .error (rf k 5 s) else .ok (s.T.nn, (PS.s_T s (addNd s.T sort s.os)))
def fPart1 (kd : Nat) (s : PS) : PR (Nat × PS) := if 400 ≤ s.T.np then .error (rf k 5 s) else .ok (s.T.np, (PS.s_T s (addPt s.T kd)))
def cmpl (p : Nat) (s : PS) : PS := (PS.s_T s ((Txt.s_dn s.T (s.T.dn ++ [p]))))
def fName (i : Nat) (s : PS) : Bool × PS := if k.k s.i = 128 then (true, (PS.s_T s.st ((Txt.s_nnm (Txt.s_nnl s.T (up s.T.nnl i (k.v s.i))) (up s.T.nnm i (fun j => k.b (k.pl s.i + j))))))) else (false, s)
/-- a number below 'below', behind a step -/
def fNum (below : Nat) (s : PS) : PR (Nat × PS) :=
  if k.k (s.i + 1) ≠ 129 then .error (rf k 2 s.st) else
  if below ≤ k.v (s.i + 1) then .error (rf k 4 s.st) else .ok (k.v (s.i + 1), s.st.st)
def fOther (s : PS) : PR (Nat × PS) :=
  if k.k (s.i + 1) ≠ 128 then .error (rf k 2 s.st) else
  match hereN k s.st with
  | none => .error (rf k 3 s.st)
  | some a => .ok (a, s.st.st)
/-- the values of a list: s stands ahead of a value -/
def fVals (below : Nat) : Nat → Nat → PS → PR (Nat × PS)
  | 0, mask, s => .ok (mask, s)
  | n + 1, mask, s =>
    if k.k (s.i + 1) ≠ 129 then .error (rf k 2 s.st) else
    if below ≤ k.v (s.i + 1) ∨ mask.testBit (k.v (s.i + 1)) = true then .error (rf k 4 s.st) else
    if k.k (s.i + 2) ≠ 44 then .ok (mask ||| 1 <<< k.v (s.i + 1), s.st.st) else fVals below n (mask ||| 1 <<< k.v (s.i + 1)) s.st.st
def fList (below : Nat) (s : PS) : PR (Nat × PS) :=
  if k.k (s.i + 1) ≠ 123 then .error (rf k 2 s.st) else
  (fVals k below 9 0 s.st).bind (fun q => (req k 125 q.2).bind (fun s' => .ok (q.1, s')))
def setT (p kd a : Nat) (s : PS) : PS := (PS.s_T s ((Txt.s_pa (Txt.s_pk s.T (up s.T.pk p kd)) (up s.T.pa p a))))
def setNum (p v : Nat) (s : PS) : PS := (PS.s_T s ((Txt.s_pnum s.T (up s.T.pnum p v))))
/-- a test; s stands at its name -/
def fTest (s : PS) : PR (Nat × PS) :=
  match hereN k s with
  | none => .error (rf k 3 s)
  | some a => (fPart1 k 128 s).bind (fun q =>
    let p := q.1
    let s1 := setT p (k.k (s.i + 1)) a q.2.st
    let fin : Nat × PS → PR (Nat × PS) := fun z => .ok (p, cmpl p (setNum p z.1 z.2))
    let c := k.k (s.i + 1)
    if c = 16 ∨ c = 20 then (fNum k (s.T.asz a) s1).bind fin
    else if c = 17 ∨ c = 18 then (fList k (s.T.asz a) s1).bind fin
    else if c = 60 ∨ c = 61 ∨ c = 62 then (fNum k 1000 s1).bind fin
    else if c = 19 then (fOther k s1).bind fin
    else if c = 21 then .ok (p, cmpl p s1.st)
    else .error (rf k 2 s1))
/-- further members of a joint -/
def fMore (w : Nat) (P : PS → PR (Nat × PS)) (j : Nat) : Nat → Nat → PS → PR (Nat × PS)
  | 0, _, s => .ok (j, cmpl j s)
  | n + 1, last, s =>
    if k.k s.i = w then (P s.st).bind (fun q => fMore w P j n q.1 (PS.s_T q.2 ((Txt.s_pj (Txt.s_pn q.2.T (up q.2.T.pn last (some q.1))) (up q.2.T.pj j (q.2.T.pj j + 1))))))
    else .ok (j, cmpl j s)
/-- what is joined by the word w, out of what P reads -/
def fJoin (w : Nat) (P : PS → PR (Nat × PS)) (s : PS) : PR (Nat × PS) :=
  (P s).bind (fun q => if k.k q.2.i = w then (fPart1 k w q.2).bind (fun z => fMore k w P z.1 400 q.1 (PS.s_T z.2 ((Txt.s_pj (Txt.s_pf z.2.T (up z.2.T.pf z.1 (some q.1))) (up z.2.T.pj z.1 1))))) else .ok q)
def fOr (P : PS → PR (Nat × PS)) : PS → PR (Nat × PS) := fJoin k 10 (fJoin k 11 P)
def fConst (s : PS) : PR (Nat × PS) := (fPart1 k (k.k s.i) s).bind (fun q => .ok (q.1, cmpl q.1 q.2.st))
/-- a part; the number: how many brackets may still open -/
def fPart : Nat → PS → PR (Nat × PS)
  | 0, s =>
    if k.k s.i = 12 ∨ k.k s.i = 40 then .error (rf k 5 s)
    else if k.k s.i = 13 ∨ k.k s.i = 14 ∨ k.k s.i = 15 then fConst k s
    else if k.k s.i = 128 then fTest k s else .error (rf k 2 s)
  | d + 1, s =>
    if k.k s.i = 12 then (fPart1 k 12 s).bind (fun q => (fPart d q.2.st).bind (fun z => .ok (q.1, cmpl q.1 (PS.s_T z.2 ((Txt.s_pj (Txt.s_pf z.2.T (up z.2.T.pf q.1 (some z.1))) (up z.2.T.pj q.1 1)))))))
    else if k.k s.i = 40 then (fOr k (fPart d) s.st).bind (fun q => (req k 41 q.2).bind (fun s' => .ok (q.1, s')))
    else if k.k s.i = 13 ∨ k.k s.i = 14 ∨ k.k s.i = 15 then fConst k s
    else if k.k s.i = 128 then fTest k s else .error (rf k 2 s)
/-- 'for' and an expression, or nothing: the node's root -/
def fFor (i : Nat) (s : PS) : PR PS :=
  if k.k s.i = 5 then (fOr k (fPart k (20 - s.od)) s.st).bind (fun q => .ok (PS.s_T q.2 ((Txt.s_root q.2.T (up q.2.T.root i (some q.1)))))) else .ok s
def fSet (s : PS) : PR PS :=
  if k.k s.i ≠ 4 then .error (rf k 2 s) else
  (fNode k 2 s).bind (fun q =>
    let s1 := fName k q.1 q.2.st
    if s1.1 = false then .error (rf k 2 s1.2) else
    if k.k s1.2.i < 22 ∨ 27 < k.k s1.2.i then .error (rf k 2 s1.2) else
    (fFor k q.1 (PS.s_T s1.2.st ((Txt.s_way s1.2.T (up s1.2.T.way q.1 (some (k.k s1.2.i - 22))))))).bind (fun s2 =>
      if k.k s2.i ≠ 123 then .error (rf k 2 s2) else
      if 20 ≤ s2.od then .error (rf k 5 s2) else .ok (PS.s_od (PS.s_os s2.st (some q.1)) (s2.od + 1))))
def fDutyN (owner dec : Nat) (s : PS) : PR PS :=
  if k.k s.i ≠ 129 then .error (rf k 2 s) else
  if 100 ≤ s.T.nd then .error (rf k 5 s) else .ok (PS.s_T s.st (addDt s.T owner dec (k.v s.i)))
/-- duties of a rule: s stands ahead of a number -/
def fDuties (owner dec : Nat) : Nat → PS → PR PS
  | 0, s => .ok s
  | n + 1, s => (fDutyN k owner dec s.st).bind (fun s' => if k.k s'.i = 44 then fDuties owner dec n s' else .ok s')
def fRule (s : PS) : PR PS :=
  let sort := if k.k s.i = 6 then 0 else 1
  (fNode k sort s).bind (fun q =>
    (fFor k q.1 (fName k q.1 q.2.st).2).bind (fun s2 =>
      (if k.k s2.i = 8 then fDuties k q.1 (sort + 1) 101 s2 else .ok s2).bind (fun s3 => req k 59 s3)))
def fDuty (s : PS) : PR PS :=
  if k.k (s.i + 1) ≠ 6 ∧ k.k (s.i + 1) ≠ 7 then .error (rf k 2 s.st) else
  (fDutyN k (s.os.getD 0) (if k.k (s.i + 1) = 6 then 1 else 2) s.st.st).bind (fun s' => req k 59 s')
def fMember (s : PS) : PR PS :=
  if k.k s.i = 4 then fSet k s
  else if k.k s.i = 6 ∨ k.k s.i = 7 then fRule k s
  else if k.k s.i = 9 then fDuty k s
  else if k.k s.i = 125 then .ok (PS.s_od (PS.s_os s.st (s.T.fa (s.os.getD 0))) (s.od - 1))
  else .error (rf k 2 s)
def fMembers : Nat → PS → PR PS
  | 0, s => .ok s
  | n + 1, s => if s.os = none then .ok s else (fMember k s).bind (fMembers n)
def fText (T0 : Txt) : PR PS :=
  (fAttrs k 9 ((0, (Txt.s_dn (Txt.s_np (Txt.s_nd (Txt.s_nn (Txt.s_na T0 (0)) (0)) (0)) (0)) ([])), none, 0) : PS)).bind (fun s =>
    (fSet k s).bind (fun s1 => (fMembers k k.n s1).bind (fun s2 => if k.k s2.i = 130 then .ok s2 else .error (rf k 2 s2))))
end FG
