/-! THE CLASS READS ITS TAPE: the text that is read is not judged. -/
theorem j_read {post : aM → Prop} {t : Nat} {M : aM} (ht : 8 ≤ t) (hR : rR M 2 3 = t) (h : w_Rd_begin_J15 (fun M2 => w_Rd_readPolicy (fun M' => BJ t M' → post M') 2 M2) 2 M) : w_Rd_begin_J15 (fun M2 => w_Rd_readPolicy post 2 M2) 2 M := by
  unfold w_Rd_begin_J15 w_Rd_begin_J20 w_Rd_begin_J25 w_Rd_begin_J30 w_Rd_begin_J35 w_Rd_begin_J40 at h ⊢
  generalize hM : wI (wI (wI (wI (wI M 2 1 0) 2 2 0) 2 4 0) 2 5 (-1)) 2 6 0 = Mx at h ⊢
  have eR : rR Mx 2 3 = t := by rw [← hM]; exact hR
  unfold w_Tx_clear w_Tx_clear_J5 w_Tx_clear_J10 w_Tx_clear_J18 w_Tx_clear_J26 w_Tx_clear_J34 at h ⊢
  rw [eR] at h ⊢
  obtain ⟨h1, h2, h3⟩ := h
  refine ⟨h1, h2, ?_⟩
  generalize hN : wI (wI (wI (wI (wI (wI Mx t 0 0) t 1 0) (t + 1) 0 0) (t + 9) 0 0) (t + 9) 10 0) (t + 24) 0 0 = My at h3 ⊢
  have hB : BJ t My := by
    refine ⟨ht, ?_, ?_⟩
    · rw [← hN]; exact eR
    · rw [← hN, rw_n (by omega), rw_n (by omega), rw_n (by omega), rw_n (by omega), rw_ss]
  exact b_Rd_readAttributes h3 hB (fun M2 m2 g => b_Rd_readPolicy g m2 (fun M' b q => q b))
section CQ
variable {b : Nat → Nat} {n : Nat} {M0 M1 : aM} {t : Nat}
theorem c_read2 {post : aM → Prop} (h : TpC b n M0) (ht : tOk t) (hR : rR M0 2 3 = t) (p : ∀ M1, FrT M0 M1 → Ex (fun s' => ∀ M', RC (tkOf b n) (wI M1 3 1 0) t s' M' → rI M' t 1 = 0 → post M') (fun f => ∀ M', FC (tkOf b n) (wI M1 3 1 0) t f M' → post M') (fText (tkOf b n) tx0)) : w_Rd_begin (fun M2 => w_Rd_readPolicy post 2 M2) 2 M0 := by
  have h8 : 8 ≤ t := by rcases ht with rfl | rfl | rfl <;> omega
  unfold w_Rd_begin
  refine t_cut h (fun M1 hw hf => ?_)
  have eR : rR (wI M1 3 1 0) 2 3 = t := by
    show rR M1 2 3 = t
    rw [show rR M1 = rR M0 from congrArg (fun z => z.1) hf.2.2.1]; exact hR
  refine j_read h8 eR ?_
  refine c_readJ (SC_of h ht hR hw hf) ?_ ?_
  · show 0 < (toks b n).length
    obtain ⟨l, h1, h2, h3⟩ := toks_ok b n
    rw [h1, List.length_append]
    show 0 < l.length + 1
    omega
  · exact Ex_mono (p M1 hf) (fun s' q M' r bj => q M' r bj.2.2) (fun f q M' r _ => q M' r)
end CQ
