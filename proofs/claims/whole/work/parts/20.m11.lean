/-! X7_count: EveryTwentyMinutesModel.count(I)I in world M at (0,) -/
abbrev M_X7_count : XM := (RX7, cX7_count, 2, (some .int), "count", 2, 0, 0)
def f_X7_count (m0 : Mem) (a1 : Int32) : Option (Int32 × Mem) :=
  lt (xs m0 0 14 0) fun w1 =>
  if a1 = 0 then
    some ((w1 0 0), w1)
  else
    if a1 = 1 then
      some ((w1 0 9), w1)
    else
      if a1 = 2 then
        (f_X7_unwed w1).bind fun t5 =>
        some ((((1 <<< ((w1 0 0) &&& 31)) - 1) - t5), w1)
      else
        if a1 = 3 then
          some ((w1 0 10), w1)
        else
          if a1 = 4 then
            some ((w1 0 12), w1)
          else
            if a1 = 5 then
              some ((w1 0 13), w1)
            else
              if a1 = 6 then
                some ((w1 0 17), w1)
              else
                if a1 = 7 then
                  some ((w1 0 37), w1)
                else
                  if a1 = 8 then
                    some ((w1 0 32), w1)
                  else
                    (f_X7_in ((a1 : Int32).toInt64) 11 16).bind fun t12 =>
                    if t12 = 0 then
                      some (((-9) : Int32), w1)
                    else
                      ck (inb (a1 - 10) 7) <|
                      some ((w1 10 (ix (a1 - 10))), w1)
set_option maxRecDepth 100000 in
theorem xe_X7_count (B : XB) (m0 : Mem) (a1 : Int32) : XE B M_X7_count (XQm B 0 0 SH_M) 0 [(0, some (.ref 0)), (1, some (.int a1))] [] (0, 0) SH_M [m0] (fun t => some (some (.int t.1), [t.2])) (f_X7_count m0 a1) := by
  unfold f_X7_count
  refine XE_aload_n (n := 1) dX7_count_0 rfl rfl rfl ?_
  refine XE_iconst (v := 0) (n := 2) dX7_count_1 rfl (by decide) ?_
  refine XE_putf (hs2 := fun w1 => [w1]) (n := 5) xf_X7_76 rfl rfl rfl rfl (Nat.le_of_ble_eq_true rfl) (fun _ => rfl) dX7_count_2 rfl (fun w1 => ?_)
  refine XE_iload_n (n := 6) dX7_count_5 rfl rfl rfl ?_
  refine XE_tsw (c := 0) (t := 56) (off := 50) dX7_count_6 (by decide) (by decide) rfl rfl ?_ (fun h2 => ?_)
  · refine XE_aload_n (n := 57) dX7_count_56 rfl rfl rfl ?_
    refine XE_getf (v := w1 0 0) (n := 60) xf_X7_83 rfl rfl rfl dX7_count_57 rfl ?_
    exact XE_ireturn rfl dX7_count_60 rfl (Nat.le_refl _) (Nat.le_refl _)
  refine XE_tsw (c := 1) (t := 61) (off := 55) dX7_count_6 (by decide) (by decide) rfl rfl ?_ (fun h3 => ?_)
  · refine XE_aload_n (n := 62) dX7_count_61 rfl rfl rfl ?_
    refine XE_getf (v := w1 0 9) (n := 65) xf_X7_100 rfl rfl rfl dX7_count_62 rfl ?_
    exact XE_ireturn rfl dX7_count_65 rfl (Nat.le_refl _) (Nat.le_refl _)
  refine XE_tsw (c := 2) (t := 66) (off := 60) dX7_count_6 (by decide) (by decide) rfl rfl ?_ (fun h4 => ?_)
  · refine XE_iconst (v := 1) (n := 67) dX7_count_66 rfl (by decide) ?_
    refine XE_aload_n (n := 68) dX7_count_67 rfl rfl rfl ?_
    refine XE_getf (v := w1 0 0) (n := 71) xf_X7_83 rfl rfl rfl dX7_count_68 rfl ?_
    refine XE_ishl (n := 72) dX7_count_71 rfl ?_
    refine XE_iconst (v := 1) (n := 73) dX7_count_72 rfl (by decide) ?_
    refine XE_isub (n := 74) dX7_count_73 rfl ?_
    refine XE_aload_n (n := 75) dX7_count_74 rfl rfl rfl ?_
    refine XE_callVi (ni := 0) (As := []) (st2 := fun t5 => [.int t5, .int ((1 <<< ((w1 0 0) &&& 31)) - 1)]) (n := 78) (b := 0) xc_X7_314 (fun l t ht => met_X7_unwed l w1 t ht) rfl rfl rfl rfl dX7_count_75 (Nat.le_of_ble_eq_true rfl) ⟨Nat.zero_le _, Nat.zero_le _⟩ (Nat.le_of_ble_eq_true rfl) (Nat.le_of_ble_eq_true rfl) (fun _ => rfl) rfl (fun t5 => ?_)
    refine XE_isub (n := 79) dX7_count_78 rfl ?_
    exact XE_ireturn rfl dX7_count_79 rfl (Nat.le_refl _) (Nat.le_refl _)
  refine XE_tsw (c := 3) (t := 80) (off := 74) dX7_count_6 (by decide) (by decide) rfl rfl ?_ (fun h6 => ?_)
  · refine XE_aload_n (n := 81) dX7_count_80 rfl rfl rfl ?_
    refine XE_getf (v := w1 0 10) (n := 84) xf_X7_80 rfl rfl rfl dX7_count_81 rfl ?_
    exact XE_ireturn rfl dX7_count_84 rfl (Nat.le_refl _) (Nat.le_refl _)
  refine XE_tsw (c := 4) (t := 85) (off := 79) dX7_count_6 (by decide) (by decide) rfl rfl ?_ (fun h7 => ?_)
  · refine XE_aload_n (n := 86) dX7_count_85 rfl rfl rfl ?_
    refine XE_getf (v := w1 0 12) (n := 89) xf_X7_94 rfl rfl rfl dX7_count_86 rfl ?_
    exact XE_ireturn rfl dX7_count_89 rfl (Nat.le_refl _) (Nat.le_refl _)
  refine XE_tsw (c := 5) (t := 90) (off := 84) dX7_count_6 (by decide) (by decide) rfl rfl ?_ (fun h8 => ?_)
  · refine XE_aload_n (n := 91) dX7_count_90 rfl rfl rfl ?_
    refine XE_getf (v := w1 0 13) (n := 94) xf_X7_114 rfl rfl rfl dX7_count_91 rfl ?_
    exact XE_ireturn rfl dX7_count_94 rfl (Nat.le_refl _) (Nat.le_refl _)
  refine XE_tsw (c := 6) (t := 95) (off := 89) dX7_count_6 (by decide) (by decide) rfl rfl ?_ (fun h9 => ?_)
  · refine XE_aload_n (n := 96) dX7_count_95 rfl rfl rfl ?_
    refine XE_getf (v := w1 0 17) (n := 99) xf_X7_141 rfl rfl rfl dX7_count_96 rfl ?_
    exact XE_ireturn rfl dX7_count_99 rfl (Nat.le_refl _) (Nat.le_refl _)
  refine XE_tsw (c := 7) (t := 100) (off := 94) dX7_count_6 (by decide) (by decide) rfl rfl ?_ (fun h10 => ?_)
  · refine XE_aload_n (n := 101) dX7_count_100 rfl rfl rfl ?_
    refine XE_getf (v := w1 0 37) (n := 104) xf_X7_300 rfl rfl rfl dX7_count_101 rfl ?_
    exact XE_ireturn rfl dX7_count_104 rfl (Nat.le_refl _) (Nat.le_refl _)
  refine XE_tsw (c := 8) (t := 105) (off := 99) dX7_count_6 (by decide) (by decide) rfl rfl ?_ (fun h11 => ?_)
  · refine XE_aload_n (n := 106) dX7_count_105 rfl rfl rfl ?_
    refine XE_getf (v := w1 0 32) (n := 109) xf_X7_203 rfl rfl rfl dX7_count_106 rfl ?_
    exact XE_ireturn rfl dX7_count_109 rfl (Nat.le_refl _) (Nat.le_refl _)
  refine XE_tswd (t := 110) dX7_count_6 (by have q0 := x_ne h2 (z := 0) (by decide); have q1 := x_ne h3 (z := 1) (by decide); have q2 := x_ne h4 (z := 2) (by decide); have q3 := x_ne h6 (z := 3) (by decide); have q4 := x_ne h7 (z := 4) (by decide); have q5 := x_ne h8 (z := 5) (by decide); have q6 := x_ne h9 (z := 6) (by decide); have q7 := x_ne h10 (z := 7) (by decide); have q8 := x_ne h11 (z := 8) (by decide); omega) rfl ?_
  refine XE_iload_n (n := 111) dX7_count_110 rfl rfl rfl ?_
  refine XE_i2l (n := 112) dX7_count_111 rfl ?_
  refine XE_ldc2 (n := 115) dX7_count_112 rfl xk_X7_326 ?_
  refine XE_ldc2 (n := 118) dX7_count_115 rfl xk_X7_328 ?_
  refine XE_callS (ni := 3) (As := [.long ((a1 : Int32).toInt64), .long 11, .long 16]) (π := []) (co := [0]) (cv := [w1]) (nn := 1) (hs2 := fun t12 => [w1]) (st2 := fun t12 => [.int t12]) (n := 121) xc_X7_86 (fun l t ht => met_X7_in l ((a1 : Int32).toInt64) 11 16 t ht) rfl rfl rfl dX7_count_118 (Nat.le_of_ble_eq_true rfl) ⟨Nat.zero_le _, Nat.zero_le _⟩ (Nat.le_of_ble_eq_true rfl) (Nat.le_of_ble_eq_true rfl) ok_40 rfl rfl rfl (fun _ => rfl) (fun _ => rfl) (fun _ => rfl) rfl (fun _ => rfl) rfl (fun t12 => ?_)
  refine XE_if_eq (t := 136) (n := 124) dX7_count_121 rfl rfl (fun h13 => ?_) (fun h13 => ?_)
  · refine XE_bipush (v := (-9)) (n := 138) dX7_count_136 rfl (by decide) ?_
    exact XE_ireturn rfl dX7_count_138 rfl (Nat.le_refl _) (Nat.le_refl _)
  · refine XE_aload_n (n := 125) dX7_count_124 rfl rfl rfl ?_
    refine XE_getr (b := 10) (n := 128) xf_X7_37 rfl rfl dX7_count_125 rfl ?_
    refine XE_iload_n (n := 129) dX7_count_128 rfl rfl rfl ?_
    refine XE_bipush (v := 10) (n := 131) dX7_count_129 rfl (by decide) ?_
    refine XE_isub (n := 132) dX7_count_131 rfl ?_
    refine XE_iald (row := w1 10) (n := 133) rfl rfl dX7_count_132 rfl ?_
    refine XE_goto (n := 138) dX7_count_133 rfl ?_
    exact XE_ireturn rfl dX7_count_138 rfl (Nat.le_refl _) (Nat.le_refl _)
theorem met_X7_count (l : Launch) (m0 : Mem) (a1 : Int32) (t : Int32 × Mem) (ht : f_X7_count m0 a1 = some t) : XMet l yX7_count cX7_count 2 (some .int) 2 0 0 [.ref 0, .int a1] SH_M [m0] SH_M (some (.int t.1), [t.2]) := XMet.of (by decide +kernel) (fun _ => Nat.le_of_ble_eq_true rfl) (fun B => xe_X7_count B m0 a1) (by rw [ht]; rfl)
