theorem kl_720 : aDec code ((c249.drop (36 * 20)).take 20) = true := by decide +kernel
theorem kl_740 : aDec code ((c249.drop (37 * 20)).take 20) = true := by decide +kernel
theorem kl_760 : aDec code ((c249.drop (38 * 20)).take 20) = true := by decide +kernel
theorem kl_780 : aDec code ((c249.drop (39 * 20)).take 20) = true := by decide +kernel
theorem kl_800 : aDec code ((c249.drop (40 * 20)).take 20) = true := by decide +kernel
theorem kl_820 : aDec code ((c249.drop (41 * 20)).take 20) = true := by decide +kernel
theorem kl_840 : aDec code ((c249.drop (42 * 20)).take 20) = true := by decide +kernel
theorem kl_860 : aDec code ((c249.drop (43 * 20)).take 20) = true := by decide +kernel
theorem kl_all : aDec code c249 = true := by
  refine all_ch _ _ 20 (by decide) fun k hk => ?_
  have hk : k < 44 := by
    have : c249.length = 868 := by decide +kernel
    omega
  rcases Nat.eq_or_lt_of_le (show 0 ≤ k by omega) with h | h
  · subst h; exact kl_0
  rcases Nat.eq_or_lt_of_le (show 1 ≤ k by omega) with h | h
  · subst h; exact kl_20
  rcases Nat.eq_or_lt_of_le (show 2 ≤ k by omega) with h | h
  · subst h; exact kl_40
  rcases Nat.eq_or_lt_of_le (show 3 ≤ k by omega) with h | h
  · subst h; exact kl_60
  rcases Nat.eq_or_lt_of_le (show 4 ≤ k by omega) with h | h
  · subst h; exact kl_80
  rcases Nat.eq_or_lt_of_le (show 5 ≤ k by omega) with h | h
  · subst h; exact kl_100
  rcases Nat.eq_or_lt_of_le (show 6 ≤ k by omega) with h | h
  · subst h; exact kl_120
  rcases Nat.eq_or_lt_of_le (show 7 ≤ k by omega) with h | h
  · subst h; exact kl_140
  rcases Nat.eq_or_lt_of_le (show 8 ≤ k by omega) with h | h
  · subst h; exact kl_160
  rcases Nat.eq_or_lt_of_le (show 9 ≤ k by omega) with h | h
  · subst h; exact kl_180
  rcases Nat.eq_or_lt_of_le (show 10 ≤ k by omega) with h | h
  · subst h; exact kl_200
  rcases Nat.eq_or_lt_of_le (show 11 ≤ k by omega) with h | h
  · subst h; exact kl_220
  rcases Nat.eq_or_lt_of_le (show 12 ≤ k by omega) with h | h
  · subst h; exact kl_240
  rcases Nat.eq_or_lt_of_le (show 13 ≤ k by omega) with h | h
  · subst h; exact kl_260
  rcases Nat.eq_or_lt_of_le (show 14 ≤ k by omega) with h | h
  · subst h; exact kl_280
  rcases Nat.eq_or_lt_of_le (show 15 ≤ k by omega) with h | h
  · subst h; exact kl_300
  rcases Nat.eq_or_lt_of_le (show 16 ≤ k by omega) with h | h
  · subst h; exact kl_320
  rcases Nat.eq_or_lt_of_le (show 17 ≤ k by omega) with h | h
  · subst h; exact kl_340
  rcases Nat.eq_or_lt_of_le (show 18 ≤ k by omega) with h | h
  · subst h; exact kl_360
  rcases Nat.eq_or_lt_of_le (show 19 ≤ k by omega) with h | h
  · subst h; exact kl_380
  rcases Nat.eq_or_lt_of_le (show 20 ≤ k by omega) with h | h
  · subst h; exact kl_400
  rcases Nat.eq_or_lt_of_le (show 21 ≤ k by omega) with h | h
  · subst h; exact kl_420
  rcases Nat.eq_or_lt_of_le (show 22 ≤ k by omega) with h | h
  · subst h; exact kl_440
  rcases Nat.eq_or_lt_of_le (show 23 ≤ k by omega) with h | h
  · subst h; exact kl_460
  rcases Nat.eq_or_lt_of_le (show 24 ≤ k by omega) with h | h
  · subst h; exact kl_480
  rcases Nat.eq_or_lt_of_le (show 25 ≤ k by omega) with h | h
  · subst h; exact kl_500
  rcases Nat.eq_or_lt_of_le (show 26 ≤ k by omega) with h | h
  · subst h; exact kl_520
  rcases Nat.eq_or_lt_of_le (show 27 ≤ k by omega) with h | h
  · subst h; exact kl_540
  rcases Nat.eq_or_lt_of_le (show 28 ≤ k by omega) with h | h
  · subst h; exact kl_560
  rcases Nat.eq_or_lt_of_le (show 29 ≤ k by omega) with h | h
  · subst h; exact kl_580
  rcases Nat.eq_or_lt_of_le (show 30 ≤ k by omega) with h | h
  · subst h; exact kl_600
  rcases Nat.eq_or_lt_of_le (show 31 ≤ k by omega) with h | h
  · subst h; exact kl_620
  rcases Nat.eq_or_lt_of_le (show 32 ≤ k by omega) with h | h
  · subst h; exact kl_640
  rcases Nat.eq_or_lt_of_le (show 33 ≤ k by omega) with h | h
  · subst h; exact kl_660
  rcases Nat.eq_or_lt_of_le (show 34 ≤ k by omega) with h | h
  · subst h; exact kl_680
  rcases Nat.eq_or_lt_of_le (show 35 ≤ k by omega) with h | h
  · subst h; exact kl_700
  rcases Nat.eq_or_lt_of_le (show 36 ≤ k by omega) with h | h
  · subst h; exact kl_720
  rcases Nat.eq_or_lt_of_le (show 37 ≤ k by omega) with h | h
  · subst h; exact kl_740
  rcases Nat.eq_or_lt_of_le (show 38 ≤ k by omega) with h | h
  · subst h; exact kl_760
  rcases Nat.eq_or_lt_of_le (show 39 ≤ k by omega) with h | h
  · subst h; exact kl_780
  rcases Nat.eq_or_lt_of_le (show 40 ≤ k by omega) with h | h
  · subst h; exact kl_800
  rcases Nat.eq_or_lt_of_le (show 41 ≤ k by omega) with h | h
  · subst h; exact kl_820
  rcases Nat.eq_or_lt_of_le (show 42 ≤ k by omega) with h | h
  · subst h; exact kl_840
  rcases Nat.eq_or_lt_of_le (show 43 ≤ k by omega) with h | h
  · subst h; exact kl_860
  · omega
theorem aDec_q {q : Nat} (hq : q < 252) : aDec (tB q) (tC q) = true := by
  by_cases h : q = 249
  · subst h; exact kl_all
  · exact aDec_all hq h
