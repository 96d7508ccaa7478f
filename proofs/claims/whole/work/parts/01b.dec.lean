/-! Each method's code table is its code (the law's: in parts of their own). -/
theorem kr_0 : (List.range' 0 9).all (fun q => aDec (tB q) (tC q)) = true := by decide +kernel
theorem kr_9 : (List.range' 9 9).all (fun q => aDec (tB q) (tC q)) = true := by decide +kernel
theorem kr_18 : (List.range' 18 9).all (fun q => aDec (tB q) (tC q)) = true := by decide +kernel
theorem kr_27 : (List.range' 27 9).all (fun q => aDec (tB q) (tC q)) = true := by decide +kernel
theorem kr_36 : (List.range' 36 9).all (fun q => aDec (tB q) (tC q)) = true := by decide +kernel
theorem kr_45 : (List.range' 45 9).all (fun q => aDec (tB q) (tC q)) = true := by decide +kernel
theorem kr_54 : (List.range' 54 9).all (fun q => aDec (tB q) (tC q)) = true := by decide +kernel
theorem kr_63 : (List.range' 63 9).all (fun q => aDec (tB q) (tC q)) = true := by decide +kernel
theorem kr_72 : (List.range' 72 9).all (fun q => aDec (tB q) (tC q)) = true := by decide +kernel
theorem kr_81 : (List.range' 81 9).all (fun q => aDec (tB q) (tC q)) = true := by decide +kernel
theorem kr_90 : (List.range' 90 9).all (fun q => aDec (tB q) (tC q)) = true := by decide +kernel
theorem kr_99 : (List.range' 99 9).all (fun q => aDec (tB q) (tC q)) = true := by decide +kernel
theorem kr_108 : (List.range' 108 9).all (fun q => aDec (tB q) (tC q)) = true := by decide +kernel
theorem kr_117 : (List.range' 117 9).all (fun q => aDec (tB q) (tC q)) = true := by decide +kernel
theorem kr_126 : (List.range' 126 9).all (fun q => aDec (tB q) (tC q)) = true := by decide +kernel
theorem kr_135 : (List.range' 135 9).all (fun q => aDec (tB q) (tC q)) = true := by decide +kernel
theorem kr_144 : (List.range' 144 9).all (fun q => aDec (tB q) (tC q)) = true := by decide +kernel
theorem kr_153 : (List.range' 153 9).all (fun q => aDec (tB q) (tC q)) = true := by decide +kernel
theorem kr_162 : (List.range' 162 9).all (fun q => aDec (tB q) (tC q)) = true := by decide +kernel
theorem kr_171 : (List.range' 171 9).all (fun q => aDec (tB q) (tC q)) = true := by decide +kernel
theorem kr_180 : (List.range' 180 9).all (fun q => aDec (tB q) (tC q)) = true := by decide +kernel
theorem kr_189 : (List.range' 189 9).all (fun q => aDec (tB q) (tC q)) = true := by decide +kernel
theorem kr_198 : (List.range' 198 9).all (fun q => aDec (tB q) (tC q)) = true := by decide +kernel
theorem kr_207 : (List.range' 207 9).all (fun q => aDec (tB q) (tC q)) = true := by decide +kernel
theorem kr_216 : (List.range' 216 9).all (fun q => aDec (tB q) (tC q)) = true := by decide +kernel
theorem kr_225 : (List.range' 225 9).all (fun q => aDec (tB q) (tC q)) = true := by decide +kernel
theorem kr_234 : (List.range' 234 9).all (fun q => aDec (tB q) (tC q)) = true := by decide +kernel
theorem kr_243 : (List.range' 243 6).all (fun q => aDec (tB q) (tC q)) = true := by decide +kernel
theorem kr_250 : (List.range' 250 2).all (fun q => aDec (tB q) (tC q)) = true := by decide +kernel
theorem aDec_r {a n q : Nat} (h : (List.range' a n).all (fun q => aDec (tB q) (tC q)) = true) (h1 : a ≤ q) (h2 : q < a + n) : aDec (tB q) (tC q) = true := List.all_eq_true.mp h q (List.mem_range'_1.mpr ⟨h1, h2⟩)
theorem aDec_all {q : Nat} (hq : q < 252) (hl : q ≠ 249) : aDec (tB q) (tC q) = true := by
  rcases Nat.lt_or_ge q 9 with h | h
  · exact aDec_r kr_0 (by omega) h
  rcases Nat.lt_or_ge q 18 with h | h
  · exact aDec_r kr_9 (by omega) h
  rcases Nat.lt_or_ge q 27 with h | h
  · exact aDec_r kr_18 (by omega) h
  rcases Nat.lt_or_ge q 36 with h | h
  · exact aDec_r kr_27 (by omega) h
  rcases Nat.lt_or_ge q 45 with h | h
  · exact aDec_r kr_36 (by omega) h
  rcases Nat.lt_or_ge q 54 with h | h
  · exact aDec_r kr_45 (by omega) h
  rcases Nat.lt_or_ge q 63 with h | h
  · exact aDec_r kr_54 (by omega) h
  rcases Nat.lt_or_ge q 72 with h | h
  · exact aDec_r kr_63 (by omega) h
  rcases Nat.lt_or_ge q 81 with h | h
  · exact aDec_r kr_72 (by omega) h
  rcases Nat.lt_or_ge q 90 with h | h
  · exact aDec_r kr_81 (by omega) h
  rcases Nat.lt_or_ge q 99 with h | h
  · exact aDec_r kr_90 (by omega) h
  rcases Nat.lt_or_ge q 108 with h | h
  · exact aDec_r kr_99 (by omega) h
  rcases Nat.lt_or_ge q 117 with h | h
  · exact aDec_r kr_108 (by omega) h
  rcases Nat.lt_or_ge q 126 with h | h
  · exact aDec_r kr_117 (by omega) h
  rcases Nat.lt_or_ge q 135 with h | h
  · exact aDec_r kr_126 (by omega) h
  rcases Nat.lt_or_ge q 144 with h | h
  · exact aDec_r kr_135 (by omega) h
  rcases Nat.lt_or_ge q 153 with h | h
  · exact aDec_r kr_144 (by omega) h
  rcases Nat.lt_or_ge q 162 with h | h
  · exact aDec_r kr_153 (by omega) h
  rcases Nat.lt_or_ge q 171 with h | h
  · exact aDec_r kr_162 (by omega) h
  rcases Nat.lt_or_ge q 180 with h | h
  · exact aDec_r kr_171 (by omega) h
  rcases Nat.lt_or_ge q 189 with h | h
  · exact aDec_r kr_180 (by omega) h
  rcases Nat.lt_or_ge q 198 with h | h
  · exact aDec_r kr_189 (by omega) h
  rcases Nat.lt_or_ge q 207 with h | h
  · exact aDec_r kr_198 (by omega) h
  rcases Nat.lt_or_ge q 216 with h | h
  · exact aDec_r kr_207 (by omega) h
  rcases Nat.lt_or_ge q 225 with h | h
  · exact aDec_r kr_216 (by omega) h
  rcases Nat.lt_or_ge q 234 with h | h
  · exact aDec_r kr_225 (by omega) h
  rcases Nat.lt_or_ge q 243 with h | h
  · exact aDec_r kr_234 (by omega) h
  rcases Nat.lt_or_ge q 249 with h | h
  · exact aDec_r kr_243 (by omega) h
  · exact aDec_r kr_250 (by omega) (by omega)
