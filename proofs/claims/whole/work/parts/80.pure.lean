/-! THE PURE THEOREM: the law's program answers -/
theorem law_pure (L : Nat) (sc : Nat → Int32) (hL : L ≤ 2560) : f_law_L L sc 6000 0 MI_X6_0 MI_X6_1 MI_X6_2 MI_X6_3 MI_X6_4 MI_X6_5 MI_X6_6 MI_X6_7 MI_X6_8 MI_X6_9 MI_X6_10 MI_X6_11 MI_X6_12 MI_X6_13 MI_X6_14 MI_X6_15 MI_X6_16 MI_X7_0 = some () :=
  law_go L sc hL 6000 0 MI_X6_0 MI_X6_1 MI_X6_2 MI_X6_3 MI_X6_4 MI_X6_5 MI_X6_6 MI_X6_7 MI_X6_8 MI_X6_9 MI_X6_10 MI_X6_11 MI_X6_12 MI_X6_13 MI_X6_14 MI_X6_15 MI_X6_16 MI_X7_0 (Nat.zero_le _) (by omega) INV_0
