/-! HOW LONG the print is, and how deep sets lie. -/
theorem TO.dp {T : Txt} (h : TO T) : TDp T := by sorry
theorem TO.len {T : Txt} (h : TO T) : (sAll T).length ≤ 22000 := by sorry
theorem TO.byt {T : Txt} (h : TO T) (j : Nat) : (sAll T).getD j 0 < 256 := by sorry
