/-! THE CLASS READS ITS TAPE. -/
theorem getD_any {α : Type} {l : List α} {j : Nat} {x y : α} (h : j < l.length) : l.getD j x = l.getD j y := by
  rw [List.getD_eq_getElem?_getD, List.getD_eq_getElem?_getD, List.getElem?_eq_getElem h]
  rfl
section CQ
variable {b : Nat → Nat} {n : Nat} {M0 M1 : aM} {t : Nat}
/-- what lies fast behind the cutting -/
theorem SC_of (h : TpC b n M0) (ht : tOk t) (hR : rR M0 2 3 = t) (hw : Rw (toks b n) M1) (hf : FrT M0 M1) : SC (tkOf b n) (wI M1 3 1 0) t := by
  have ln := h.ln
  have hl : (toks b n).length ≤ n + 1 := by
    obtain ⟨l, h1, h2, h3⟩ := toks_ok b n
    rw [h1, List.length_append]
    show l.length + 1 ≤ n + 1
    omega
  have hn : (tkOf b n).n = (toks b n).length := rfl
  refine ⟨?_, ht, ?_, ?_, by rw [hn]; omega, ?_, ?_, ?_, ?_, ?_, ?_, ?_, ?_, h.lb, ?_, ?_⟩
  · rw [show rK (wI M1 3 1 0) = rK M0 from hf.2.1]; exact h.K
  · show rR M1 2 3 = t
    rw [show rR M1 = rR M0 from congrArg (fun z => z.1) hf.2.2.1]; exact hR
  · rw [rw_sn (by omega)]; exact hw.1
  · intro j hj
    rw [rw_n (by omega), (hw.2 j hj).1]
    show _ = nI ((toks b n).getD j (130, n, 0)).1
    rw [getD_any (y := (130, n, 0)) hj]
  · intro j hj
    rw [rw_n (by omega), (hw.2 j hj).2.1]
    show _ = nI ((toks b n).getD j (130, n, 0)).2.1
    rw [getD_any (y := (130, n, 0)) hj]
  · intro j hj h131
    have h2 : ((toks b n).getD j (130, n, 0)).1 ≠ 131 := h131
    rw [rw_n (by omega), (hw.2 j hj).2.2 (by rw [getD_any (y := (130, n, 0)) hj]; exact h2)]
    show _ = nI ((toks b n).getD j (130, n, 0)).2.2
    rw [getD_any (y := (130, n, 0)) hj]
  · intro j hj
    rw [rw_n (by omega), hf.2.2.2.1 4 (by omega) (by omega) (by omega) (by omega)]
    exact h.b6 j hj
  · intro j hj h130
    rcases tk_cases b n hj with ⟨_, e, _⟩ | ⟨e, _⟩
    · exact absurd e h130
    · exact e
  · intro j hj
    rcases tk_cases b n hj with ⟨_, e, _⟩ | ⟨_, e⟩
    · omega
    · exact e.k
  · intro j hj
    rcases tk_cases b n hj with ⟨_, _, e, _⟩ | ⟨_, e⟩
    · omega
    · have := e.pl
      have h2 : (tkOf b n).pl j ≤ n := this
      omega
  · intro j hj
    rcases tk_cases b n hj with ⟨_, _, _, e⟩ | ⟨_, e⟩
    · omega
    · have := e.v
      have h2 : (tkOf b n).v j ≤ max n 1000 := this
      omega
  · intro j hj h128
    rcases tk_cases b n hj with ⟨_, e, _⟩ | ⟨_, e⟩
    · omega
    · have := e.nm h128
      have h2 : (tkOf b n).v j ≤ 12 ∧ 1 ≤ (tkOf b n).v j ∧ (tkOf b n).pl j + (tkOf b n).v j ≤ n := this
      omega
  · intro j hj h129
    exact tk_num hj h129
/-- the class's reading, from the tape on -/
theorem c_read {post : aM → Prop} (h : TpC b n M0) (ht : tOk t) (hR : rR M0 2 3 = t) (p : ∀ M1, FrT M0 M1 → Ex (OkV (tkOf b n) (wI M1 3 1 0) t post) (ErV (tkOf b n) (wI M1 3 1 0) t post) (fText (tkOf b n) tx0)) : w_Rd_begin (fun M2 => w_Rd_readPolicy post 2 M2) 2 M0 := by
  unfold w_Rd_begin
  refine t_cut h (fun M1 hw hf => ?_)
  refine c_readJ (SC_of h ht hR hw hf) ?_ (p M1 hf)
  show 0 < (toks b n).length
  obtain ⟨l, h1, h2, h3⟩ := toks_ok b n
  rw [h1, List.length_append]
  show 0 < l.length + 1
  omega
end CQ
