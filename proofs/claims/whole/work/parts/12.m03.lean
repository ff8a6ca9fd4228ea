/-! X5_keep: EveryTwentyMinutes$Past.keep(LEveryTwentyMinutes$Hall;)V in world PH at (0, 576) -/
abbrev M_X5_keep : XM := (RX5, cX5_keep, 2, none, "keep", 2, 0, 0)
def f_X5_keep (m0 : Mem) (m1 : Mem) (m2 : Mem) (m3 : Mem) (m4 : Mem) (m5 : Mem) (m6 : Mem) (m7 : Mem) (m8 : Mem) (m9 : Mem) : Option (Mem × Mem × Mem × Mem × Mem × Mem × Mem × Mem × Mem) :=
  (if (m0 0 2) = 8 then
     lt (xs m0 0 1 (((m0 0 1) + 1) - ((m0 0 1) + 1) / 8 * 8)) fun w6 =>
     lt (xs w6 0 2 ((w6 0 2) - 1)) fun w7 =>
     some (w7)
   else
     some (m0)).bind fun t9 =>
  if (((t9 0 1) + (t9 0 2)) - ((t9 0 1) + (t9 0 2)) / 8 * 8) = 0 then
    (f_X2_become m1 m9).bind fun t10 =>
    lt (xs t9 0 2 ((t9 0 2) + 1)) fun w11 =>
    some (w11, t10, m2, m3, m4, m5, m6, m7, m8)
  else
    if (((t9 0 1) + (t9 0 2)) - ((t9 0 1) + (t9 0 2)) / 8 * 8) = 1 then
      (f_X2_become m2 m9).bind fun t12 =>
      lt (xs t9 0 2 ((t9 0 2) + 1)) fun w13 =>
      some (w13, m1, t12, m3, m4, m5, m6, m7, m8)
    else
      if (((t9 0 1) + (t9 0 2)) - ((t9 0 1) + (t9 0 2)) / 8 * 8) = 2 then
        (f_X2_become m3 m9).bind fun t14 =>
        lt (xs t9 0 2 ((t9 0 2) + 1)) fun w15 =>
        some (w15, m1, m2, t14, m4, m5, m6, m7, m8)
      else
        if (((t9 0 1) + (t9 0 2)) - ((t9 0 1) + (t9 0 2)) / 8 * 8) = 3 then
          (f_X2_become m4 m9).bind fun t16 =>
          lt (xs t9 0 2 ((t9 0 2) + 1)) fun w17 =>
          some (w17, m1, m2, m3, t16, m5, m6, m7, m8)
        else
          if (((t9 0 1) + (t9 0 2)) - ((t9 0 1) + (t9 0 2)) / 8 * 8) = 4 then
            (f_X2_become m5 m9).bind fun t18 =>
            lt (xs t9 0 2 ((t9 0 2) + 1)) fun w19 =>
            some (w19, m1, m2, m3, m4, t18, m6, m7, m8)
          else
            if (((t9 0 1) + (t9 0 2)) - ((t9 0 1) + (t9 0 2)) / 8 * 8) = 5 then
              (f_X2_become m6 m9).bind fun t20 =>
              lt (xs t9 0 2 ((t9 0 2) + 1)) fun w21 =>
              some (w21, m1, m2, m3, m4, m5, t20, m7, m8)
            else
              if (((t9 0 1) + (t9 0 2)) - ((t9 0 1) + (t9 0 2)) / 8 * 8) = 6 then
                (f_X2_become m7 m9).bind fun t22 =>
                lt (xs t9 0 2 ((t9 0 2) + 1)) fun w23 =>
                some (w23, m1, m2, m3, m4, m5, m6, t22, m8)
              else
                if (((t9 0 1) + (t9 0 2)) - ((t9 0 1) + (t9 0 2)) / 8 * 8) = 7 then
                  (f_X2_become m8 m9).bind fun t24 =>
                  lt (xs t9 0 2 ((t9 0 2) + 1)) fun w25 =>
                  some (w25, m1, m2, m3, m4, m5, m6, m7, t24)
                else
                  none
set_option maxRecDepth 100000 in
theorem xe_X5_keep (B : XB) (m0 : Mem) (m1 : Mem) (m2 : Mem) (m3 : Mem) (m4 : Mem) (m5 : Mem) (m6 : Mem) (m7 : Mem) (m8 : Mem) (m9 : Mem) : XE B M_X5_keep (XQm B 0 0 SH_PH) 0 [(0, some (.ref 0)), (1, some (.ref 576))] [] (0, 0) SH_PH [m0, m1, m2, m3, m4, m5, m6, m7, m8, m9] (fun t => some (none, [t.1, t.2.1, t.2.2.1, t.2.2.2.1, t.2.2.2.2.1, t.2.2.2.2.2.1, t.2.2.2.2.2.2.1, t.2.2.2.2.2.2.2.1, t.2.2.2.2.2.2.2.2, m9])) (f_X5_keep m0 m1 m2 m3 m4 m5 m6 m7 m8 m9) := by
  unfold f_X5_keep
  refine XE_aload_n (n := 1) dX5_keep_0 rfl rfl rfl ?_
  refine XE_getf (v := m0 0 2) (n := 4) xf_X5_19 rfl rfl rfl dX5_keep_1 rfl ?_
  refine XE_bipush (v := 8) (n := 6) dX5_keep_4 rfl (by decide) ?_
  refine XE_reg (J := 32) (lsJ := fun t9 => [(0, some (.ref 0)), (1, some (.ref 576))]) (stJ := fun t9 => []) (hsJ := fun t9 => [t9, m1, m2, m3, m4, m5, m6, m7, m8, m9]) (fun t9 => ?_) (fun hJ5 => ?_)
  · refine XE_aload_n (n := 33) dX5_keep_32 rfl rfl rfl ?_
    refine XE_getr (b := 1) (n := 36) xf_X5_11 rfl rfl dX5_keep_33 rfl ?_
    refine XE_aload_n (n := 37) dX5_keep_36 rfl rfl rfl ?_
    refine XE_getf (v := t9 0 1) (n := 40) xf_X5_15 rfl rfl rfl dX5_keep_37 rfl ?_
    refine XE_aload_n (n := 41) dX5_keep_40 rfl rfl rfl ?_
    refine XE_getf (v := t9 0 2) (n := 44) xf_X5_19 rfl rfl rfl dX5_keep_41 rfl ?_
    refine XE_iadd (n := 45) dX5_keep_44 rfl ?_
    refine XE_bipush (v := 8) (n := 47) dX5_keep_45 rfl (by decide) ?_
    refine XE_irem (n := 48) dX5_keep_47 rfl (by decide) ?_
    refine XE_aald (j := 0) (b := 64) (n := 49) rfl rfl rfl dX5_keep_48 rfl ?_ ?_
    · refine XE_aload_n (n := 50) dX5_keep_49 rfl rfl rfl ?_
      refine XE_callV (ni := 1) (As := [.ref 576]) (π := [1, 9]) (co := [0, 2, 3, 4, 5, 6, 7, 8]) (cv := [t9, m2, m3, m4, m5, m6, m7, m8]) (nn := 10) (hs2 := fun t10 => [t9, t10, m2, m3, m4, m5, m6, m7, m8, m9]) (st2 := fun t10 => []) (n := 53) (b := 64) xc_X5_23 (fun l t ht => met_X2_become l m1 m9 t ht) rfl rfl rfl rfl rfl dX5_keep_50 (Nat.le_of_ble_eq_true rfl) ⟨Nat.zero_le _, Nat.zero_le _⟩ (Nat.le_of_ble_eq_true rfl) (Nat.le_of_ble_eq_true rfl) ok_11 rfl rfl rfl (fun _ => rfl) (fun _ => rfl) (fun _ => rfl) rfl (fun _ => rfl) rfl (fun t10 => ?_)
      refine XE_aload_n (n := 54) dX5_keep_53 rfl rfl rfl ?_
      refine XE_dup (n := 55) dX5_keep_54 rfl rfl ?_
      refine XE_getf (v := t9 0 2) (n := 58) xf_X5_19 rfl rfl rfl dX5_keep_55 rfl ?_
      refine XE_iconst (v := 1) (n := 59) dX5_keep_58 rfl (by decide) ?_
      refine XE_iadd (n := 60) dX5_keep_59 rfl ?_
      refine XE_putf (hs2 := fun w11 => [w11, t10, m2, m3, m4, m5, m6, m7, m8, m9]) (n := 63) xf_X5_19 rfl rfl rfl rfl (Nat.le_of_ble_eq_true rfl) (fun _ => rfl) dX5_keep_60 rfl (fun w11 => ?_)
      exact XE_vreturn rfl dX5_keep_63 rfl (Nat.le_refl _) (Nat.le_refl _)
    refine XE_aald (j := 1) (b := 128) (n := 49) rfl rfl rfl dX5_keep_48 rfl ?_ ?_
    · refine XE_aload_n (n := 50) dX5_keep_49 rfl rfl rfl ?_
      refine XE_callV (ni := 1) (As := [.ref 576]) (π := [2, 9]) (co := [0, 1, 3, 4, 5, 6, 7, 8]) (cv := [t9, m1, m3, m4, m5, m6, m7, m8]) (nn := 10) (hs2 := fun t12 => [t9, m1, t12, m3, m4, m5, m6, m7, m8, m9]) (st2 := fun t12 => []) (n := 53) (b := 128) xc_X5_23 (fun l t ht => met_X2_become l m2 m9 t ht) rfl rfl rfl rfl rfl dX5_keep_50 (Nat.le_of_ble_eq_true rfl) ⟨Nat.zero_le _, Nat.zero_le _⟩ (Nat.le_of_ble_eq_true rfl) (Nat.le_of_ble_eq_true rfl) ok_12 rfl rfl rfl (fun _ => rfl) (fun _ => rfl) (fun _ => rfl) rfl (fun _ => rfl) rfl (fun t12 => ?_)
      refine XE_aload_n (n := 54) dX5_keep_53 rfl rfl rfl ?_
      refine XE_dup (n := 55) dX5_keep_54 rfl rfl ?_
      refine XE_getf (v := t9 0 2) (n := 58) xf_X5_19 rfl rfl rfl dX5_keep_55 rfl ?_
      refine XE_iconst (v := 1) (n := 59) dX5_keep_58 rfl (by decide) ?_
      refine XE_iadd (n := 60) dX5_keep_59 rfl ?_
      refine XE_putf (hs2 := fun w13 => [w13, m1, t12, m3, m4, m5, m6, m7, m8, m9]) (n := 63) xf_X5_19 rfl rfl rfl rfl (Nat.le_of_ble_eq_true rfl) (fun _ => rfl) dX5_keep_60 rfl (fun w13 => ?_)
      exact XE_vreturn rfl dX5_keep_63 rfl (Nat.le_refl _) (Nat.le_refl _)
    refine XE_aald (j := 2) (b := 192) (n := 49) rfl rfl rfl dX5_keep_48 rfl ?_ ?_
    · refine XE_aload_n (n := 50) dX5_keep_49 rfl rfl rfl ?_
      refine XE_callV (ni := 1) (As := [.ref 576]) (π := [3, 9]) (co := [0, 1, 2, 4, 5, 6, 7, 8]) (cv := [t9, m1, m2, m4, m5, m6, m7, m8]) (nn := 10) (hs2 := fun t14 => [t9, m1, m2, t14, m4, m5, m6, m7, m8, m9]) (st2 := fun t14 => []) (n := 53) (b := 192) xc_X5_23 (fun l t ht => met_X2_become l m3 m9 t ht) rfl rfl rfl rfl rfl dX5_keep_50 (Nat.le_of_ble_eq_true rfl) ⟨Nat.zero_le _, Nat.zero_le _⟩ (Nat.le_of_ble_eq_true rfl) (Nat.le_of_ble_eq_true rfl) ok_13 rfl rfl rfl (fun _ => rfl) (fun _ => rfl) (fun _ => rfl) rfl (fun _ => rfl) rfl (fun t14 => ?_)
      refine XE_aload_n (n := 54) dX5_keep_53 rfl rfl rfl ?_
      refine XE_dup (n := 55) dX5_keep_54 rfl rfl ?_
      refine XE_getf (v := t9 0 2) (n := 58) xf_X5_19 rfl rfl rfl dX5_keep_55 rfl ?_
      refine XE_iconst (v := 1) (n := 59) dX5_keep_58 rfl (by decide) ?_
      refine XE_iadd (n := 60) dX5_keep_59 rfl ?_
      refine XE_putf (hs2 := fun w15 => [w15, m1, m2, t14, m4, m5, m6, m7, m8, m9]) (n := 63) xf_X5_19 rfl rfl rfl rfl (Nat.le_of_ble_eq_true rfl) (fun _ => rfl) dX5_keep_60 rfl (fun w15 => ?_)
      exact XE_vreturn rfl dX5_keep_63 rfl (Nat.le_refl _) (Nat.le_refl _)
    refine XE_aald (j := 3) (b := 256) (n := 49) rfl rfl rfl dX5_keep_48 rfl ?_ ?_
    · refine XE_aload_n (n := 50) dX5_keep_49 rfl rfl rfl ?_
      refine XE_callV (ni := 1) (As := [.ref 576]) (π := [4, 9]) (co := [0, 1, 2, 3, 5, 6, 7, 8]) (cv := [t9, m1, m2, m3, m5, m6, m7, m8]) (nn := 10) (hs2 := fun t16 => [t9, m1, m2, m3, t16, m5, m6, m7, m8, m9]) (st2 := fun t16 => []) (n := 53) (b := 256) xc_X5_23 (fun l t ht => met_X2_become l m4 m9 t ht) rfl rfl rfl rfl rfl dX5_keep_50 (Nat.le_of_ble_eq_true rfl) ⟨Nat.zero_le _, Nat.zero_le _⟩ (Nat.le_of_ble_eq_true rfl) (Nat.le_of_ble_eq_true rfl) ok_14 rfl rfl rfl (fun _ => rfl) (fun _ => rfl) (fun _ => rfl) rfl (fun _ => rfl) rfl (fun t16 => ?_)
      refine XE_aload_n (n := 54) dX5_keep_53 rfl rfl rfl ?_
      refine XE_dup (n := 55) dX5_keep_54 rfl rfl ?_
      refine XE_getf (v := t9 0 2) (n := 58) xf_X5_19 rfl rfl rfl dX5_keep_55 rfl ?_
      refine XE_iconst (v := 1) (n := 59) dX5_keep_58 rfl (by decide) ?_
      refine XE_iadd (n := 60) dX5_keep_59 rfl ?_
      refine XE_putf (hs2 := fun w17 => [w17, m1, m2, m3, t16, m5, m6, m7, m8, m9]) (n := 63) xf_X5_19 rfl rfl rfl rfl (Nat.le_of_ble_eq_true rfl) (fun _ => rfl) dX5_keep_60 rfl (fun w17 => ?_)
      exact XE_vreturn rfl dX5_keep_63 rfl (Nat.le_refl _) (Nat.le_refl _)
    refine XE_aald (j := 4) (b := 320) (n := 49) rfl rfl rfl dX5_keep_48 rfl ?_ ?_
    · refine XE_aload_n (n := 50) dX5_keep_49 rfl rfl rfl ?_
      refine XE_callV (ni := 1) (As := [.ref 576]) (π := [5, 9]) (co := [0, 1, 2, 3, 4, 6, 7, 8]) (cv := [t9, m1, m2, m3, m4, m6, m7, m8]) (nn := 10) (hs2 := fun t18 => [t9, m1, m2, m3, m4, t18, m6, m7, m8, m9]) (st2 := fun t18 => []) (n := 53) (b := 320) xc_X5_23 (fun l t ht => met_X2_become l m5 m9 t ht) rfl rfl rfl rfl rfl dX5_keep_50 (Nat.le_of_ble_eq_true rfl) ⟨Nat.zero_le _, Nat.zero_le _⟩ (Nat.le_of_ble_eq_true rfl) (Nat.le_of_ble_eq_true rfl) ok_15 rfl rfl rfl (fun _ => rfl) (fun _ => rfl) (fun _ => rfl) rfl (fun _ => rfl) rfl (fun t18 => ?_)
      refine XE_aload_n (n := 54) dX5_keep_53 rfl rfl rfl ?_
      refine XE_dup (n := 55) dX5_keep_54 rfl rfl ?_
      refine XE_getf (v := t9 0 2) (n := 58) xf_X5_19 rfl rfl rfl dX5_keep_55 rfl ?_
      refine XE_iconst (v := 1) (n := 59) dX5_keep_58 rfl (by decide) ?_
      refine XE_iadd (n := 60) dX5_keep_59 rfl ?_
      refine XE_putf (hs2 := fun w19 => [w19, m1, m2, m3, m4, t18, m6, m7, m8, m9]) (n := 63) xf_X5_19 rfl rfl rfl rfl (Nat.le_of_ble_eq_true rfl) (fun _ => rfl) dX5_keep_60 rfl (fun w19 => ?_)
      exact XE_vreturn rfl dX5_keep_63 rfl (Nat.le_refl _) (Nat.le_refl _)
    refine XE_aald (j := 5) (b := 384) (n := 49) rfl rfl rfl dX5_keep_48 rfl ?_ ?_
    · refine XE_aload_n (n := 50) dX5_keep_49 rfl rfl rfl ?_
      refine XE_callV (ni := 1) (As := [.ref 576]) (π := [6, 9]) (co := [0, 1, 2, 3, 4, 5, 7, 8]) (cv := [t9, m1, m2, m3, m4, m5, m7, m8]) (nn := 10) (hs2 := fun t20 => [t9, m1, m2, m3, m4, m5, t20, m7, m8, m9]) (st2 := fun t20 => []) (n := 53) (b := 384) xc_X5_23 (fun l t ht => met_X2_become l m6 m9 t ht) rfl rfl rfl rfl rfl dX5_keep_50 (Nat.le_of_ble_eq_true rfl) ⟨Nat.zero_le _, Nat.zero_le _⟩ (Nat.le_of_ble_eq_true rfl) (Nat.le_of_ble_eq_true rfl) ok_16 rfl rfl rfl (fun _ => rfl) (fun _ => rfl) (fun _ => rfl) rfl (fun _ => rfl) rfl (fun t20 => ?_)
      refine XE_aload_n (n := 54) dX5_keep_53 rfl rfl rfl ?_
      refine XE_dup (n := 55) dX5_keep_54 rfl rfl ?_
      refine XE_getf (v := t9 0 2) (n := 58) xf_X5_19 rfl rfl rfl dX5_keep_55 rfl ?_
      refine XE_iconst (v := 1) (n := 59) dX5_keep_58 rfl (by decide) ?_
      refine XE_iadd (n := 60) dX5_keep_59 rfl ?_
      refine XE_putf (hs2 := fun w21 => [w21, m1, m2, m3, m4, m5, t20, m7, m8, m9]) (n := 63) xf_X5_19 rfl rfl rfl rfl (Nat.le_of_ble_eq_true rfl) (fun _ => rfl) dX5_keep_60 rfl (fun w21 => ?_)
      exact XE_vreturn rfl dX5_keep_63 rfl (Nat.le_refl _) (Nat.le_refl _)
    refine XE_aald (j := 6) (b := 448) (n := 49) rfl rfl rfl dX5_keep_48 rfl ?_ ?_
    · refine XE_aload_n (n := 50) dX5_keep_49 rfl rfl rfl ?_
      refine XE_callV (ni := 1) (As := [.ref 576]) (π := [7, 9]) (co := [0, 1, 2, 3, 4, 5, 6, 8]) (cv := [t9, m1, m2, m3, m4, m5, m6, m8]) (nn := 10) (hs2 := fun t22 => [t9, m1, m2, m3, m4, m5, m6, t22, m8, m9]) (st2 := fun t22 => []) (n := 53) (b := 448) xc_X5_23 (fun l t ht => met_X2_become l m7 m9 t ht) rfl rfl rfl rfl rfl dX5_keep_50 (Nat.le_of_ble_eq_true rfl) ⟨Nat.zero_le _, Nat.zero_le _⟩ (Nat.le_of_ble_eq_true rfl) (Nat.le_of_ble_eq_true rfl) ok_17 rfl rfl rfl (fun _ => rfl) (fun _ => rfl) (fun _ => rfl) rfl (fun _ => rfl) rfl (fun t22 => ?_)
      refine XE_aload_n (n := 54) dX5_keep_53 rfl rfl rfl ?_
      refine XE_dup (n := 55) dX5_keep_54 rfl rfl ?_
      refine XE_getf (v := t9 0 2) (n := 58) xf_X5_19 rfl rfl rfl dX5_keep_55 rfl ?_
      refine XE_iconst (v := 1) (n := 59) dX5_keep_58 rfl (by decide) ?_
      refine XE_iadd (n := 60) dX5_keep_59 rfl ?_
      refine XE_putf (hs2 := fun w23 => [w23, m1, m2, m3, m4, m5, m6, t22, m8, m9]) (n := 63) xf_X5_19 rfl rfl rfl rfl (Nat.le_of_ble_eq_true rfl) (fun _ => rfl) dX5_keep_60 rfl (fun w23 => ?_)
      exact XE_vreturn rfl dX5_keep_63 rfl (Nat.le_refl _) (Nat.le_refl _)
    refine XE_aald (j := 7) (b := 512) (n := 49) rfl rfl rfl dX5_keep_48 rfl ?_ ?_
    · refine XE_aload_n (n := 50) dX5_keep_49 rfl rfl rfl ?_
      refine XE_callV (ni := 1) (As := [.ref 576]) (π := [8, 9]) (co := [0, 1, 2, 3, 4, 5, 6, 7]) (cv := [t9, m1, m2, m3, m4, m5, m6, m7]) (nn := 10) (hs2 := fun t24 => [t9, m1, m2, m3, m4, m5, m6, m7, t24, m9]) (st2 := fun t24 => []) (n := 53) (b := 512) xc_X5_23 (fun l t ht => met_X2_become l m8 m9 t ht) rfl rfl rfl rfl rfl dX5_keep_50 (Nat.le_of_ble_eq_true rfl) ⟨Nat.zero_le _, Nat.zero_le _⟩ (Nat.le_of_ble_eq_true rfl) (Nat.le_of_ble_eq_true rfl) ok_18 rfl rfl rfl (fun _ => rfl) (fun _ => rfl) (fun _ => rfl) rfl (fun _ => rfl) rfl (fun t24 => ?_)
      refine XE_aload_n (n := 54) dX5_keep_53 rfl rfl rfl ?_
      refine XE_dup (n := 55) dX5_keep_54 rfl rfl ?_
      refine XE_getf (v := t9 0 2) (n := 58) xf_X5_19 rfl rfl rfl dX5_keep_55 rfl ?_
      refine XE_iconst (v := 1) (n := 59) dX5_keep_58 rfl (by decide) ?_
      refine XE_iadd (n := 60) dX5_keep_59 rfl ?_
      refine XE_putf (hs2 := fun w25 => [w25, m1, m2, m3, m4, m5, m6, m7, t24, m9]) (n := 63) xf_X5_19 rfl rfl rfl rfl (Nat.le_of_ble_eq_true rfl) (fun _ => rfl) dX5_keep_60 rfl (fun w25 => ?_)
      exact XE_vreturn rfl dX5_keep_63 rfl (Nat.le_refl _) (Nat.le_refl _)
    exact XE_none
  · refine XE_icmp_ne (t := 32) (n := 9) dX5_keep_6 rfl rfl (fun h8 => ?_) (fun h8 => ?_)
    · refine XE_aload_n (n := 10) dX5_keep_9 rfl rfl rfl ?_
      refine XE_aload_n (n := 11) dX5_keep_10 rfl rfl rfl ?_
      refine XE_getf (v := m0 0 1) (n := 14) xf_X5_15 rfl rfl rfl dX5_keep_11 rfl ?_
      refine XE_iconst (v := 1) (n := 15) dX5_keep_14 rfl (by decide) ?_
      refine XE_iadd (n := 16) dX5_keep_15 rfl ?_
      refine XE_bipush (v := 8) (n := 18) dX5_keep_16 rfl (by decide) ?_
      refine XE_irem (n := 19) dX5_keep_18 rfl (by decide) ?_
      refine XE_putf (hs2 := fun w6 => [w6, m1, m2, m3, m4, m5, m6, m7, m8, m9]) (n := 22) xf_X5_15 rfl rfl rfl rfl (Nat.le_of_ble_eq_true rfl) (fun _ => rfl) dX5_keep_19 rfl (fun w6 => ?_)
      refine XE_aload_n (n := 23) dX5_keep_22 rfl rfl rfl ?_
      refine XE_dup (n := 24) dX5_keep_23 rfl rfl ?_
      refine XE_getf (v := w6 0 2) (n := 27) xf_X5_19 rfl rfl rfl dX5_keep_24 rfl ?_
      refine XE_iconst (v := 1) (n := 28) dX5_keep_27 rfl (by decide) ?_
      refine XE_isub (n := 29) dX5_keep_28 rfl ?_
      refine XE_putf (hs2 := fun w7 => [w7, m1, m2, m3, m4, m5, m6, m7, m8, m9]) (n := 32) xf_X5_19 rfl rfl rfl rfl (Nat.le_of_ble_eq_true rfl) (fun _ => rfl) dX5_keep_29 rfl (fun w7 => ?_)
      refine XE_ls (x_sub_ok (ls' := [(0, some (.ref 0)), (1, some (.ref 576))]) ⟨rfl, rfl, trivial⟩) ?_
      exact hJ5 (w7)
    · refine XE_ls (x_sub_ok (ls' := [(0, some (.ref 0)), (1, some (.ref 576))]) ⟨rfl, rfl, trivial⟩) ?_
      exact hJ5 (m0)
theorem met_X5_keep (l : Launch) (m0 : Mem) (m1 : Mem) (m2 : Mem) (m3 : Mem) (m4 : Mem) (m5 : Mem) (m6 : Mem) (m7 : Mem) (m8 : Mem) (m9 : Mem) (t : Mem × Mem × Mem × Mem × Mem × Mem × Mem × Mem × Mem) (ht : f_X5_keep m0 m1 m2 m3 m4 m5 m6 m7 m8 m9 = some t) : XMet l yX5_keep cX5_keep 2 none 2 0 0 [.ref 0, .ref 576] SH_PH [m0, m1, m2, m3, m4, m5, m6, m7, m8, m9] SH_PH (none, [t.1, t.2.1, t.2.2.1, t.2.2.2.1, t.2.2.2.2.1, t.2.2.2.2.2.1, t.2.2.2.2.2.2.1, t.2.2.2.2.2.2.2.1, t.2.2.2.2.2.2.2.2, m9]) := XMet.of (by decide +kernel) (fun _ => Nat.le_of_ble_eq_true rfl) (fun B => xe_X5_keep B m0 m1 m2 m3 m4 m5 m6 m7 m8 m9) (by rw [ht]; rfl)
set_option maxRecDepth 100000 in
theorem ok_19 : x_okc [9, 1] SH_HH SH_PH = true := by decide +kernel
set_option maxRecDepth 100000 in
theorem ok_20 : x_okc [9, 2] SH_HH SH_PH = true := by decide +kernel
set_option maxRecDepth 100000 in
theorem ok_21 : x_okc [9, 3] SH_HH SH_PH = true := by decide +kernel
set_option maxRecDepth 100000 in
theorem ok_22 : x_okc [9, 4] SH_HH SH_PH = true := by decide +kernel
set_option maxRecDepth 100000 in
theorem ok_23 : x_okc [9, 5] SH_HH SH_PH = true := by decide +kernel
set_option maxRecDepth 100000 in
theorem ok_24 : x_okc [9, 6] SH_HH SH_PH = true := by decide +kernel
set_option maxRecDepth 100000 in
theorem ok_25 : x_okc [9, 7] SH_HH SH_PH = true := by decide +kernel
set_option maxRecDepth 100000 in
theorem ok_26 : x_okc [9, 8] SH_HH SH_PH = true := by decide +kernel
/-! X5_giveBack: EveryTwentyMinutes$Past.giveBack(LEveryTwentyMinutes$Hall;)Z in world PH at (0, 576) -/
abbrev M_X5_giveBack : XM := (RX5, cX5_giveBack, 2, (some .boolean), "giveBack", 2, 0, 0)
def f_X5_giveBack (m0 : Mem) (m1 : Mem) (m2 : Mem) (m3 : Mem) (m4 : Mem) (m5 : Mem) (m6 : Mem) (m7 : Mem) (m8 : Mem) (m9 : Mem) : Option (Int32 × Mem × Mem) :=
  if (m0 0 2) = 0 then
    some ((0 : Int32), m0, m9)
  else
    lt (xs m0 0 2 ((m0 0 2) - 1)) fun w1 =>
    if (((w1 0 1) + (w1 0 2)) - ((w1 0 1) + (w1 0 2)) / 8 * 8) = 0 then
      (f_X2_become m9 m1).bind fun t2 =>
      some ((1 : Int32), w1, t2)
    else
      if (((w1 0 1) + (w1 0 2)) - ((w1 0 1) + (w1 0 2)) / 8 * 8) = 1 then
        (f_X2_become m9 m2).bind fun t3 =>
        some ((1 : Int32), w1, t3)
      else
        if (((w1 0 1) + (w1 0 2)) - ((w1 0 1) + (w1 0 2)) / 8 * 8) = 2 then
          (f_X2_become m9 m3).bind fun t4 =>
          some ((1 : Int32), w1, t4)
        else
          if (((w1 0 1) + (w1 0 2)) - ((w1 0 1) + (w1 0 2)) / 8 * 8) = 3 then
            (f_X2_become m9 m4).bind fun t5 =>
            some ((1 : Int32), w1, t5)
          else
            if (((w1 0 1) + (w1 0 2)) - ((w1 0 1) + (w1 0 2)) / 8 * 8) = 4 then
              (f_X2_become m9 m5).bind fun t6 =>
              some ((1 : Int32), w1, t6)
            else
              if (((w1 0 1) + (w1 0 2)) - ((w1 0 1) + (w1 0 2)) / 8 * 8) = 5 then
                (f_X2_become m9 m6).bind fun t7 =>
                some ((1 : Int32), w1, t7)
              else
                if (((w1 0 1) + (w1 0 2)) - ((w1 0 1) + (w1 0 2)) / 8 * 8) = 6 then
                  (f_X2_become m9 m7).bind fun t8 =>
                  some ((1 : Int32), w1, t8)
                else
                  if (((w1 0 1) + (w1 0 2)) - ((w1 0 1) + (w1 0 2)) / 8 * 8) = 7 then
                    (f_X2_become m9 m8).bind fun t9 =>
                    some ((1 : Int32), w1, t9)
                  else
                    none
set_option maxRecDepth 100000 in
theorem xe_X5_giveBack (B : XB) (m0 : Mem) (m1 : Mem) (m2 : Mem) (m3 : Mem) (m4 : Mem) (m5 : Mem) (m6 : Mem) (m7 : Mem) (m8 : Mem) (m9 : Mem) : XE B M_X5_giveBack (XQm B 0 0 SH_PH) 0 [(0, some (.ref 0)), (1, some (.ref 576))] [] (0, 0) SH_PH [m0, m1, m2, m3, m4, m5, m6, m7, m8, m9] (fun t => some (some (.int t.1), [t.2.1, m1, m2, m3, m4, m5, m6, m7, m8, t.2.2])) (f_X5_giveBack m0 m1 m2 m3 m4 m5 m6 m7 m8 m9) := by
  unfold f_X5_giveBack
  refine XE_aload_n (n := 1) dX5_giveBack_0 rfl rfl rfl ?_
  refine XE_getf (v := m0 0 2) (n := 4) xf_X5_19 rfl rfl rfl dX5_giveBack_1 rfl ?_
  refine XE_if_ne (t := 9) (n := 7) dX5_giveBack_4 rfl rfl (fun h10 => ?_) (fun h10 => ?_)
  · refine XE_iconst (v := 0) (n := 8) dX5_giveBack_7 rfl (by decide) ?_
    exact XE_zreturn rfl rfl dX5_giveBack_8 rfl (Nat.le_refl _) (Nat.le_refl _)
  · refine XE_aload_n (n := 10) dX5_giveBack_9 rfl rfl rfl ?_
    refine XE_dup (n := 11) dX5_giveBack_10 rfl rfl ?_
    refine XE_getf (v := m0 0 2) (n := 14) xf_X5_19 rfl rfl rfl dX5_giveBack_11 rfl ?_
    refine XE_iconst (v := 1) (n := 15) dX5_giveBack_14 rfl (by decide) ?_
    refine XE_isub (n := 16) dX5_giveBack_15 rfl ?_
    refine XE_putf (hs2 := fun w1 => [w1, m1, m2, m3, m4, m5, m6, m7, m8, m9]) (n := 19) xf_X5_19 rfl rfl rfl rfl (Nat.le_of_ble_eq_true rfl) (fun _ => rfl) dX5_giveBack_16 rfl (fun w1 => ?_)
    refine XE_aload_n (n := 20) dX5_giveBack_19 rfl rfl rfl ?_
    refine XE_aload_n (n := 21) dX5_giveBack_20 rfl rfl rfl ?_
    refine XE_getr (b := 1) (n := 24) xf_X5_11 rfl rfl dX5_giveBack_21 rfl ?_
    refine XE_aload_n (n := 25) dX5_giveBack_24 rfl rfl rfl ?_
    refine XE_getf (v := w1 0 1) (n := 28) xf_X5_15 rfl rfl rfl dX5_giveBack_25 rfl ?_
    refine XE_aload_n (n := 29) dX5_giveBack_28 rfl rfl rfl ?_
    refine XE_getf (v := w1 0 2) (n := 32) xf_X5_19 rfl rfl rfl dX5_giveBack_29 rfl ?_
    refine XE_iadd (n := 33) dX5_giveBack_32 rfl ?_
    refine XE_bipush (v := 8) (n := 35) dX5_giveBack_33 rfl (by decide) ?_
    refine XE_irem (n := 36) dX5_giveBack_35 rfl (by decide) ?_
    refine XE_aald (j := 0) (b := 64) (n := 37) rfl rfl rfl dX5_giveBack_36 rfl ?_ ?_
    · refine XE_callV (ni := 1) (As := [.ref 64]) (π := [9, 1]) (co := [0, 2, 3, 4, 5, 6, 7, 8]) (cv := [w1, m2, m3, m4, m5, m6, m7, m8]) (nn := 10) (hs2 := fun t2 => [w1, m1, m2, m3, m4, m5, m6, m7, m8, t2]) (st2 := fun t2 => []) (n := 40) (b := 576) xc_X5_23 (fun l t ht => met_X2_become l m9 m1 t ht) rfl rfl rfl rfl rfl dX5_giveBack_37 (Nat.le_of_ble_eq_true rfl) ⟨Nat.zero_le _, Nat.zero_le _⟩ (Nat.le_of_ble_eq_true rfl) (Nat.le_of_ble_eq_true rfl) ok_19 rfl rfl rfl (fun _ => rfl) (fun _ => rfl) (fun _ => rfl) rfl (fun _ => rfl) rfl (fun t2 => ?_)
      refine XE_iconst (v := 1) (n := 41) dX5_giveBack_40 rfl (by decide) ?_
      exact XE_zreturn rfl rfl dX5_giveBack_41 rfl (Nat.le_refl _) (Nat.le_refl _)
    refine XE_aald (j := 1) (b := 128) (n := 37) rfl rfl rfl dX5_giveBack_36 rfl ?_ ?_
    · refine XE_callV (ni := 1) (As := [.ref 128]) (π := [9, 2]) (co := [0, 1, 3, 4, 5, 6, 7, 8]) (cv := [w1, m1, m3, m4, m5, m6, m7, m8]) (nn := 10) (hs2 := fun t3 => [w1, m1, m2, m3, m4, m5, m6, m7, m8, t3]) (st2 := fun t3 => []) (n := 40) (b := 576) xc_X5_23 (fun l t ht => met_X2_become l m9 m2 t ht) rfl rfl rfl rfl rfl dX5_giveBack_37 (Nat.le_of_ble_eq_true rfl) ⟨Nat.zero_le _, Nat.zero_le _⟩ (Nat.le_of_ble_eq_true rfl) (Nat.le_of_ble_eq_true rfl) ok_20 rfl rfl rfl (fun _ => rfl) (fun _ => rfl) (fun _ => rfl) rfl (fun _ => rfl) rfl (fun t3 => ?_)
      refine XE_iconst (v := 1) (n := 41) dX5_giveBack_40 rfl (by decide) ?_
      exact XE_zreturn rfl rfl dX5_giveBack_41 rfl (Nat.le_refl _) (Nat.le_refl _)
    refine XE_aald (j := 2) (b := 192) (n := 37) rfl rfl rfl dX5_giveBack_36 rfl ?_ ?_
    · refine XE_callV (ni := 1) (As := [.ref 192]) (π := [9, 3]) (co := [0, 1, 2, 4, 5, 6, 7, 8]) (cv := [w1, m1, m2, m4, m5, m6, m7, m8]) (nn := 10) (hs2 := fun t4 => [w1, m1, m2, m3, m4, m5, m6, m7, m8, t4]) (st2 := fun t4 => []) (n := 40) (b := 576) xc_X5_23 (fun l t ht => met_X2_become l m9 m3 t ht) rfl rfl rfl rfl rfl dX5_giveBack_37 (Nat.le_of_ble_eq_true rfl) ⟨Nat.zero_le _, Nat.zero_le _⟩ (Nat.le_of_ble_eq_true rfl) (Nat.le_of_ble_eq_true rfl) ok_21 rfl rfl rfl (fun _ => rfl) (fun _ => rfl) (fun _ => rfl) rfl (fun _ => rfl) rfl (fun t4 => ?_)
      refine XE_iconst (v := 1) (n := 41) dX5_giveBack_40 rfl (by decide) ?_
      exact XE_zreturn rfl rfl dX5_giveBack_41 rfl (Nat.le_refl _) (Nat.le_refl _)
    refine XE_aald (j := 3) (b := 256) (n := 37) rfl rfl rfl dX5_giveBack_36 rfl ?_ ?_
    · refine XE_callV (ni := 1) (As := [.ref 256]) (π := [9, 4]) (co := [0, 1, 2, 3, 5, 6, 7, 8]) (cv := [w1, m1, m2, m3, m5, m6, m7, m8]) (nn := 10) (hs2 := fun t5 => [w1, m1, m2, m3, m4, m5, m6, m7, m8, t5]) (st2 := fun t5 => []) (n := 40) (b := 576) xc_X5_23 (fun l t ht => met_X2_become l m9 m4 t ht) rfl rfl rfl rfl rfl dX5_giveBack_37 (Nat.le_of_ble_eq_true rfl) ⟨Nat.zero_le _, Nat.zero_le _⟩ (Nat.le_of_ble_eq_true rfl) (Nat.le_of_ble_eq_true rfl) ok_22 rfl rfl rfl (fun _ => rfl) (fun _ => rfl) (fun _ => rfl) rfl (fun _ => rfl) rfl (fun t5 => ?_)
      refine XE_iconst (v := 1) (n := 41) dX5_giveBack_40 rfl (by decide) ?_
      exact XE_zreturn rfl rfl dX5_giveBack_41 rfl (Nat.le_refl _) (Nat.le_refl _)
    refine XE_aald (j := 4) (b := 320) (n := 37) rfl rfl rfl dX5_giveBack_36 rfl ?_ ?_
    · refine XE_callV (ni := 1) (As := [.ref 320]) (π := [9, 5]) (co := [0, 1, 2, 3, 4, 6, 7, 8]) (cv := [w1, m1, m2, m3, m4, m6, m7, m8]) (nn := 10) (hs2 := fun t6 => [w1, m1, m2, m3, m4, m5, m6, m7, m8, t6]) (st2 := fun t6 => []) (n := 40) (b := 576) xc_X5_23 (fun l t ht => met_X2_become l m9 m5 t ht) rfl rfl rfl rfl rfl dX5_giveBack_37 (Nat.le_of_ble_eq_true rfl) ⟨Nat.zero_le _, Nat.zero_le _⟩ (Nat.le_of_ble_eq_true rfl) (Nat.le_of_ble_eq_true rfl) ok_23 rfl rfl rfl (fun _ => rfl) (fun _ => rfl) (fun _ => rfl) rfl (fun _ => rfl) rfl (fun t6 => ?_)
      refine XE_iconst (v := 1) (n := 41) dX5_giveBack_40 rfl (by decide) ?_
      exact XE_zreturn rfl rfl dX5_giveBack_41 rfl (Nat.le_refl _) (Nat.le_refl _)
    refine XE_aald (j := 5) (b := 384) (n := 37) rfl rfl rfl dX5_giveBack_36 rfl ?_ ?_
    · refine XE_callV (ni := 1) (As := [.ref 384]) (π := [9, 6]) (co := [0, 1, 2, 3, 4, 5, 7, 8]) (cv := [w1, m1, m2, m3, m4, m5, m7, m8]) (nn := 10) (hs2 := fun t7 => [w1, m1, m2, m3, m4, m5, m6, m7, m8, t7]) (st2 := fun t7 => []) (n := 40) (b := 576) xc_X5_23 (fun l t ht => met_X2_become l m9 m6 t ht) rfl rfl rfl rfl rfl dX5_giveBack_37 (Nat.le_of_ble_eq_true rfl) ⟨Nat.zero_le _, Nat.zero_le _⟩ (Nat.le_of_ble_eq_true rfl) (Nat.le_of_ble_eq_true rfl) ok_24 rfl rfl rfl (fun _ => rfl) (fun _ => rfl) (fun _ => rfl) rfl (fun _ => rfl) rfl (fun t7 => ?_)
      refine XE_iconst (v := 1) (n := 41) dX5_giveBack_40 rfl (by decide) ?_
      exact XE_zreturn rfl rfl dX5_giveBack_41 rfl (Nat.le_refl _) (Nat.le_refl _)
    refine XE_aald (j := 6) (b := 448) (n := 37) rfl rfl rfl dX5_giveBack_36 rfl ?_ ?_
    · refine XE_callV (ni := 1) (As := [.ref 448]) (π := [9, 7]) (co := [0, 1, 2, 3, 4, 5, 6, 8]) (cv := [w1, m1, m2, m3, m4, m5, m6, m8]) (nn := 10) (hs2 := fun t8 => [w1, m1, m2, m3, m4, m5, m6, m7, m8, t8]) (st2 := fun t8 => []) (n := 40) (b := 576) xc_X5_23 (fun l t ht => met_X2_become l m9 m7 t ht) rfl rfl rfl rfl rfl dX5_giveBack_37 (Nat.le_of_ble_eq_true rfl) ⟨Nat.zero_le _, Nat.zero_le _⟩ (Nat.le_of_ble_eq_true rfl) (Nat.le_of_ble_eq_true rfl) ok_25 rfl rfl rfl (fun _ => rfl) (fun _ => rfl) (fun _ => rfl) rfl (fun _ => rfl) rfl (fun t8 => ?_)
      refine XE_iconst (v := 1) (n := 41) dX5_giveBack_40 rfl (by decide) ?_
      exact XE_zreturn rfl rfl dX5_giveBack_41 rfl (Nat.le_refl _) (Nat.le_refl _)
    refine XE_aald (j := 7) (b := 512) (n := 37) rfl rfl rfl dX5_giveBack_36 rfl ?_ ?_
    · refine XE_callV (ni := 1) (As := [.ref 512]) (π := [9, 8]) (co := [0, 1, 2, 3, 4, 5, 6, 7]) (cv := [w1, m1, m2, m3, m4, m5, m6, m7]) (nn := 10) (hs2 := fun t9 => [w1, m1, m2, m3, m4, m5, m6, m7, m8, t9]) (st2 := fun t9 => []) (n := 40) (b := 576) xc_X5_23 (fun l t ht => met_X2_become l m9 m8 t ht) rfl rfl rfl rfl rfl dX5_giveBack_37 (Nat.le_of_ble_eq_true rfl) ⟨Nat.zero_le _, Nat.zero_le _⟩ (Nat.le_of_ble_eq_true rfl) (Nat.le_of_ble_eq_true rfl) ok_26 rfl rfl rfl (fun _ => rfl) (fun _ => rfl) (fun _ => rfl) rfl (fun _ => rfl) rfl (fun t9 => ?_)
      refine XE_iconst (v := 1) (n := 41) dX5_giveBack_40 rfl (by decide) ?_
      exact XE_zreturn rfl rfl dX5_giveBack_41 rfl (Nat.le_refl _) (Nat.le_refl _)
    exact XE_none
theorem met_X5_giveBack (l : Launch) (m0 : Mem) (m1 : Mem) (m2 : Mem) (m3 : Mem) (m4 : Mem) (m5 : Mem) (m6 : Mem) (m7 : Mem) (m8 : Mem) (m9 : Mem) (t : Int32 × Mem × Mem) (ht : f_X5_giveBack m0 m1 m2 m3 m4 m5 m6 m7 m8 m9 = some t) : XMet l yX5_giveBack cX5_giveBack 2 (some .boolean) 2 0 0 [.ref 0, .ref 576] SH_PH [m0, m1, m2, m3, m4, m5, m6, m7, m8, m9] SH_PH (some (.int t.1), [t.2.1, m1, m2, m3, m4, m5, m6, m7, m8, t.2.2]) := XMet.of (by decide +kernel) (fun _ => Nat.le_of_ble_eq_true rfl) (fun B => xe_X5_giveBack B m0 m1 m2 m3 m4 m5 m6 m7 m8 m9) (by rw [ht]; rfl)
def SH_P : XSs := [(0, .inr (.inr (4, [4, 0, 0]))), (1, .inr (.inl [65, 129, 193, 257, 321, 385, 449, 513])), (64, .inr (.inr (2, [0, 68, 69, 70, 0, 71, 72, 73, 0, 74, 0, 75, 0, 0]))), (65, .inl 7), (66, .inl 7), (67, .inl 7), (68, .inl 7), (69, .inl 7), (70, .inl 7), (71, .inl 7), (72, .inl 2), (128, .inr (.inr (2, [0, 132, 133, 134, 0, 135, 136, 137, 0, 138, 0, 139, 0, 0]))), (129, .inl 7), (130, .inl 7), (131, .inl 7), (132, .inl 7), (133, .inl 7), (134, .inl 7), (135, .inl 7), (136, .inl 2), (192, .inr (.inr (2, [0, 196, 197, 198, 0, 199, 200, 201, 0, 202, 0, 203, 0, 0]))), (193, .inl 7), (194, .inl 7), (195, .inl 7), (196, .inl 7), (197, .inl 7), (198, .inl 7), (199, .inl 7), (200, .inl 2), (256, .inr (.inr (2, [0, 260, 261, 262, 0, 263, 264, 265, 0, 266, 0, 267, 0, 0]))), (257, .inl 7), (258, .inl 7), (259, .inl 7), (260, .inl 7), (261, .inl 7), (262, .inl 7), (263, .inl 7), (264, .inl 2), (320, .inr (.inr (2, [0, 324, 325, 326, 0, 327, 328, 329, 0, 330, 0, 331, 0, 0]))), (321, .inl 7), (322, .inl 7), (323, .inl 7), (324, .inl 7), (325, .inl 7), (326, .inl 7), (327, .inl 7), (328, .inl 2), (384, .inr (.inr (2, [0, 388, 389, 390, 0, 391, 392, 393, 0, 394, 0, 395, 0, 0]))), (385, .inl 7), (386, .inl 7), (387, .inl 7), (388, .inl 7), (389, .inl 7), (390, .inl 7), (391, .inl 7), (392, .inl 2), (448, .inr (.inr (2, [0, 452, 453, 454, 0, 455, 456, 457, 0, 458, 0, 459, 0, 0]))), (449, .inl 7), (450, .inl 7), (451, .inl 7), (452, .inl 7), (453, .inl 7), (454, .inl 7), (455, .inl 7), (456, .inl 2), (512, .inr (.inr (2, [0, 516, 517, 518, 0, 519, 520, 521, 0, 522, 0, 523, 0, 0]))), (513, .inl 7), (514, .inl 7), (515, .inl 7), (516, .inl 7), (517, .inl 7), (518, .inl 7), (519, .inl 7), (520, .inl 2)]
/-! X5_forget: EveryTwentyMinutes$Past.forget()V in world P at (0,) -/
abbrev M_X5_forget : XM := (RX5, cX5_forget, 1, none, "forget", 1, 0, 0)
def f_X5_forget (m0 : Mem) : Option (Mem) :=
  lt (xs m0 0 2 0) fun w1 =>
  some w1
set_option maxRecDepth 100000 in
theorem xe_X5_forget (B : XB) (m0 : Mem) (m1 : Mem) (m2 : Mem) (m3 : Mem) (m4 : Mem) (m5 : Mem) (m6 : Mem) (m7 : Mem) (m8 : Mem) : XE B M_X5_forget (XQm B 0 0 SH_P) 0 [(0, some (.ref 0))] [] (0, 0) SH_P [m0, m1, m2, m3, m4, m5, m6, m7, m8] (fun t => some (none, [t, m1, m2, m3, m4, m5, m6, m7, m8])) (f_X5_forget m0) := by
  unfold f_X5_forget
  refine XE_aload_n (n := 1) dX5_forget_0 rfl rfl rfl ?_
  refine XE_iconst (v := 0) (n := 2) dX5_forget_1 rfl (by decide) ?_
  refine XE_putf (hs2 := fun w1 => [w1, m1, m2, m3, m4, m5, m6, m7, m8]) (n := 5) xf_X5_19 rfl rfl rfl rfl (Nat.le_of_ble_eq_true rfl) (fun _ => rfl) dX5_forget_2 rfl (fun w1 => ?_)
  exact XE_vreturn rfl dX5_forget_5 rfl (Nat.le_refl _) (Nat.le_refl _)
theorem met_X5_forget (l : Launch) (m0 : Mem) (m1 : Mem) (m2 : Mem) (m3 : Mem) (m4 : Mem) (m5 : Mem) (m6 : Mem) (m7 : Mem) (m8 : Mem) (t : Mem) (ht : f_X5_forget m0 = some t) : XMet l yX5_forget cX5_forget 1 none 1 0 0 [.ref 0] SH_P [m0, m1, m2, m3, m4, m5, m6, m7, m8] SH_P (none, [t, m1, m2, m3, m4, m5, m6, m7, m8]) := XMet.of (by decide +kernel) (fun _ => Nat.le_of_ble_eq_true rfl) (fun B => xe_X5_forget B m0 m1 m2 m3 m4 m5 m6 m7 m8) (by rw [ht]; rfl)
def SH_X : XSs := [(0, .inr (.inr (5, [67, 131, 195, 0, 259, 835, 899, 1027, 4, 0, 5]))), (1, .inl 12), (2, .inl 7), (64, .inr (.inr (2, [0, 68, 69, 70, 0, 71, 72, 73, 0, 74, 0, 75, 0, 0]))), (65, .inl 7), (66, .inl 7), (67, .inl 7), (68, .inl 7), (69, .inl 7), (70, .inl 7), (71, .inl 7), (72, .inl 2), (128, .inr (.inr (2, [0, 132, 133, 134, 0, 135, 136, 137, 0, 138, 0, 139, 0, 0]))), (129, .inl 7), (130, .inl 7), (131, .inl 7), (132, .inl 7), (133, .inl 7), (134, .inl 7), (135, .inl 7), (136, .inl 2), (192, .inr (.inr (2, [0, 196, 197, 198, 0, 199, 200, 201, 0, 202, 0, 203, 0, 0]))), (193, .inl 7), (194, .inl 7), (195, .inl 7), (196, .inl 7), (197, .inl 7), (198, .inl 7), (199, .inl 7), (200, .inl 2), (256, .inr (.inr (4, [260, 0, 0]))), (257, .inr (.inl [321, 385, 449, 513, 577, 641, 705, 769])), (320, .inr (.inr (2, [0, 324, 325, 326, 0, 327, 328, 329, 0, 330, 0, 331, 0, 0]))), (321, .inl 7), (322, .inl 7), (323, .inl 7), (324, .inl 7), (325, .inl 7), (326, .inl 7), (327, .inl 7), (328, .inl 2), (384, .inr (.inr (2, [0, 388, 389, 390, 0, 391, 392, 393, 0, 394, 0, 395, 0, 0]))), (385, .inl 7), (386, .inl 7), (387, .inl 7), (388, .inl 7), (389, .inl 7), (390, .inl 7), (391, .inl 7), (392, .inl 2), (448, .inr (.inr (2, [0, 452, 453, 454, 0, 455, 456, 457, 0, 458, 0, 459, 0, 0]))), (449, .inl 7), (450, .inl 7), (451, .inl 7), (452, .inl 7), (453, .inl 7), (454, .inl 7), (455, .inl 7), (456, .inl 2), (512, .inr (.inr (2, [0, 516, 517, 518, 0, 519, 520, 521, 0, 522, 0, 523, 0, 0]))), (513, .inl 7), (514, .inl 7), (515, .inl 7), (516, .inl 7), (517, .inl 7), (518, .inl 7), (519, .inl 7), (520, .inl 2), (576, .inr (.inr (2, [0, 580, 581, 582, 0, 583, 584, 585, 0, 586, 0, 587, 0, 0]))), (577, .inl 7), (578, .inl 7), (579, .inl 7), (580, .inl 7), (581, .inl 7), (582, .inl 7), (583, .inl 7), (584, .inl 2), (640, .inr (.inr (2, [0, 644, 645, 646, 0, 647, 648, 649, 0, 650, 0, 651, 0, 0]))), (641, .inl 7), (642, .inl 7), (643, .inl 7), (644, .inl 7), (645, .inl 7), (646, .inl 7), (647, .inl 7), (648, .inl 2), (704, .inr (.inr (2, [0, 708, 709, 710, 0, 711, 712, 713, 0, 714, 0, 715, 0, 0]))), (705, .inl 7), (706, .inl 7), (707, .inl 7), (708, .inl 7), (709, .inl 7), (710, .inl 7), (711, .inl 7), (712, .inl 2), (768, .inr (.inr (2, [0, 772, 773, 774, 0, 775, 776, 777, 0, 778, 0, 779, 0, 0]))), (769, .inl 7), (770, .inl 7), (771, .inl 7), (772, .inl 7), (773, .inl 7), (774, .inl 7), (775, .inl 7), (776, .inl 2), (832, .inr (.inr (3, [836, 0]))), (833, .inl 96), (896, .inr (.inr (0, [963, 900, 901, 0, 0]))), (897, .inl 7), (898, .inl 7), (960, .inr (.inr (2, [0, 964, 965, 966, 0, 967, 968, 969, 0, 970, 0, 971, 0, 0]))), (961, .inl 7), (962, .inl 7), (963, .inl 7), (964, .inl 7), (965, .inl 7), (966, .inl 7), (967, .inl 7), (968, .inl 2), (1024, .inr (.inr (1, [1028, 0, 0]))), (1025, .inl 7)]
/-! X6_refused: EveryTwentyMinutes.refused(I)I in world X at (0,) -/
abbrev M_X6_refused : XM := (RX6, cX6_refused, 3, (some .int), "refused", 1, 0, 0)
def f_X6_refused (m0 : Mem) (a1 : Int32) : Option (Int32 × Mem) :=
  lt (-a1) fun v1 =>
  if v1 < 0 then
    some (a1, m0)
  else
    if 7 ≤ v1 then
      some (a1, m0)
    else
      ck (inb v1 7) <|
      ck (inb v1 7) <|
      lt (xs m0 2 (ix v1) ((m0 2 (ix v1)) + 1)) fun w2 =>
      some (a1, w2)
set_option maxRecDepth 100000 in
theorem xe_X6_refused (B : XB) (m0 : Mem) (m1 : Mem) (m2 : Mem) (m3 : Mem) (m4 : Mem) (m5 : Mem) (m6 : Mem) (m7 : Mem) (m8 : Mem) (m9 : Mem) (m10 : Mem) (m11 : Mem) (m12 : Mem) (m13 : Mem) (m14 : Mem) (m15 : Mem) (m16 : Mem) (a1 : Int32) : XE B M_X6_refused (XQm B 0 0 SH_X) 0 [(0, some (.ref 0)), (1, some (.int a1))] [] (0, 0) SH_X [m0, m1, m2, m3, m4, m5, m6, m7, m8, m9, m10, m11, m12, m13, m14, m15, m16] (fun t => some (some (.int t.1), [t.2, m1, m2, m3, m4, m5, m6, m7, m8, m9, m10, m11, m12, m13, m14, m15, m16])) (f_X6_refused m0 a1) := by
  unfold f_X6_refused
  refine XE_iload_n (n := 1) dX6_refused_0 rfl rfl rfl ?_
  refine XE_ineg (n := 2) dX6_refused_1 rfl ?_
  refine XE_topi (fun v1 => ?_)
  refine XE_istore_n (i := 2) (n := 3) dX6_refused_2 rfl rfl (Nat.le_of_ble_eq_true rfl) rfl ?_
  refine XE_iload_n (n := 4) dX6_refused_3 rfl rfl rfl ?_
  refine XE_if_lt (t := 26) (n := 7) dX6_refused_4 rfl rfl (fun h4 => ?_) (fun h4 => ?_)
  · refine XE_iload_n (n := 27) dX6_refused_26 rfl rfl rfl ?_
    exact XE_ireturn rfl dX6_refused_27 rfl (Nat.le_refl _) (Nat.le_refl _)
  · refine XE_iload_n (n := 8) dX6_refused_7 rfl rfl rfl ?_
    refine XE_aload_n (n := 9) dX6_refused_8 rfl rfl rfl ?_
    refine XE_getr (b := 2) (n := 12) xf_X6_62 rfl rfl dX6_refused_9 rfl ?_
    refine XE_alen (v := 7) (n := 13) rfl rfl dX6_refused_12 rfl ?_
    refine XE_icmp_ge (t := 26) (n := 16) dX6_refused_13 rfl rfl (fun h3 => ?_) (fun h3 => ?_)
    · refine XE_iload_n (n := 27) dX6_refused_26 rfl rfl rfl ?_
      exact XE_ireturn rfl dX6_refused_27 rfl (Nat.le_refl _) (Nat.le_refl _)
    · refine XE_aload_n (n := 17) dX6_refused_16 rfl rfl rfl ?_
      refine XE_getr (b := 2) (n := 20) xf_X6_62 rfl rfl dX6_refused_17 rfl ?_
      refine XE_iload_n (n := 21) dX6_refused_20 rfl rfl rfl ?_
      refine XE_dup2 (n := 22) dX6_refused_21 rfl rfl rfl ?_
      refine XE_iald (row := m0 2) (n := 23) rfl rfl dX6_refused_22 rfl ?_
      refine XE_iconst (v := 1) (n := 24) dX6_refused_23 rfl (by decide) ?_
      refine XE_iadd (n := 25) dX6_refused_24 rfl ?_
      refine XE_iast (hs2 := fun w2 => [w2, m1, m2, m3, m4, m5, m6, m7, m8, m9, m10, m11, m12, m13, m14, m15, m16]) (n := 26) rfl rfl rfl (Nat.le_of_ble_eq_true rfl) (fun _ => rfl) dX6_refused_25 rfl (fun w2 => ?_)
      refine XE_iload_n (n := 27) dX6_refused_26 rfl rfl rfl ?_
      exact XE_ireturn rfl dX6_refused_27 rfl (Nat.le_refl _) (Nat.le_refl _)
theorem met_X6_refused (l : Launch) (m0 : Mem) (m1 : Mem) (m2 : Mem) (m3 : Mem) (m4 : Mem) (m5 : Mem) (m6 : Mem) (m7 : Mem) (m8 : Mem) (m9 : Mem) (m10 : Mem) (m11 : Mem) (m12 : Mem) (m13 : Mem) (m14 : Mem) (m15 : Mem) (m16 : Mem) (a1 : Int32) (t : Int32 × Mem) (ht : f_X6_refused m0 a1 = some t) : XMet l yX6_refused cX6_refused 3 (some .int) 1 0 0 [.ref 0, .int a1] SH_X [m0, m1, m2, m3, m4, m5, m6, m7, m8, m9, m10, m11, m12, m13, m14, m15, m16] SH_X (some (.int t.1), [t.2, m1, m2, m3, m4, m5, m6, m7, m8, m9, m10, m11, m12, m13, m14, m15, m16]) := XMet.of (by decide +kernel) (fun _ => Nat.le_of_ble_eq_true rfl) (fun B => xe_X6_refused B m0 m1 m2 m3 m4 m5 m6 m7 m8 m9 m10 m11 m12 m13 m14 m15 m16 a1) (by rw [ht]; rfl)
set_option maxRecDepth 100000 in
theorem ok_27 : x_okc [13] SH_L SH_X = true := by decide +kernel
/-! X6_feed: EveryTwentyMinutes.feed(I)I in world X at (0,) -/
abbrev M_X6_feed : XM := (RX6, cX6_feed, 2, (some .int), "feed", 2, 0, 0)
def f_X6_feed_J29 (m0 : Mem) (w1 : Mem) : Option (Int32 × Mem × Mem) :=
  (f_X6_refused m0 (-6)).bind fun t2 =>
  some (t2.1, t2.2, w1)
def f_X6_feed (m0 : Mem) (m13 : Mem) (a1 : Int32) : Option (Int32 × Mem × Mem) :=
  if 0 ≤ a1 then
    if 255 < a1 then
      f_X6_feed_J29 m0 m13
    else
      (f_X4_take m13 a1).bind fun t3 =>
      if t3.1 = 0 then
        f_X6_feed_J29 m0 t3.2
      else
        some ((t3.2 0 1), m0, t3.2)
  else
    (f_X6_refused m0 (-4)).bind fun t6 =>
    some (t6.1, t6.2, m13)
set_option maxRecDepth 100000 in
theorem f_X6_feed_J29_x (B : XB) (m0 : Mem) (m1 : Mem) (m2 : Mem) (m3 : Mem) (m4 : Mem) (m5 : Mem) (m6 : Mem) (m7 : Mem) (m8 : Mem) (m9 : Mem) (m10 : Mem) (m11 : Mem) (m12 : Mem) (m14 : Mem) (m15 : Mem) (m16 : Mem) (w1 : Mem) : XE B M_X6_feed (XQm B 0 0 SH_X) 29 [(0, some (.ref 0))] [] (0, 0) SH_X [m0, m1, m2, m3, m4, m5, m6, m7, m8, m9, m10, m11, m12, w1, m14, m15, m16] (fun t => some (some (.int t.1), [t.2.1, m1, m2, m3, m4, m5, m6, m7, m8, m9, m10, m11, m12, t.2.2, m14, m15, m16])) (f_X6_feed_J29 m0 w1) := by
  unfold f_X6_feed_J29
  refine XE_aload_n (n := 30) dX6_feed_29 rfl rfl rfl ?_
  refine XE_bipush (v := (-6)) (n := 32) dX6_feed_30 rfl (by decide) ?_
  refine XE_callVi (ni := 1) (As := [.int (-6)]) (st2 := fun t2 => [.int t2.1]) (n := 35) (b := 0) xc_X6_65 (fun l t ht => met_X6_refused l m0 m1 m2 m3 m4 m5 m6 m7 m8 m9 m10 m11 m12 w1 m14 m15 m16 (-6) t ht) rfl rfl rfl rfl dX6_feed_32 (Nat.le_of_ble_eq_true rfl) ⟨Nat.zero_le _, Nat.zero_le _⟩ (Nat.le_of_ble_eq_true rfl) (Nat.le_of_ble_eq_true rfl) (fun _ => rfl) rfl (fun t2 => ?_)
  exact XE_ireturn rfl dX6_feed_35 rfl (Nat.le_refl _) (Nat.le_refl _)
set_option maxRecDepth 100000 in
theorem xe_X6_feed (B : XB) (m0 : Mem) (m1 : Mem) (m2 : Mem) (m3 : Mem) (m4 : Mem) (m5 : Mem) (m6 : Mem) (m7 : Mem) (m8 : Mem) (m9 : Mem) (m10 : Mem) (m11 : Mem) (m12 : Mem) (m13 : Mem) (m14 : Mem) (m15 : Mem) (m16 : Mem) (a1 : Int32) : XE B M_X6_feed (XQm B 0 0 SH_X) 0 [(0, some (.ref 0)), (1, some (.int a1))] [] (0, 0) SH_X [m0, m1, m2, m3, m4, m5, m6, m7, m8, m9, m10, m11, m12, m13, m14, m15, m16] (fun t => some (some (.int t.1), [t.2.1, m1, m2, m3, m4, m5, m6, m7, m8, m9, m10, m11, m12, t.2.2, m14, m15, m16])) (f_X6_feed m0 m13 a1) := by
  unfold f_X6_feed
  refine XE_iload_n (n := 1) dX6_feed_0 rfl rfl rfl ?_
  refine XE_if_ge (t := 11) (n := 4) dX6_feed_1 rfl rfl (fun h7 => ?_) (fun h7 => ?_)
  · refine XE_iload_n (n := 12) dX6_feed_11 rfl rfl rfl ?_
    refine XE_sipush (v := 255) (n := 15) dX6_feed_12 rfl (by decide) ?_
    refine XE_icmp_gt (t := 29) (n := 18) dX6_feed_15 rfl rfl (fun h5 => ?_) (fun h5 => ?_)
    · refine XE_ls (x_sub_ok (ls' := [(0, some (.ref 0))]) ⟨rfl, trivial⟩) ?_
      exact f_X6_feed_J29_x B m0 m1 m2 m3 m4 m5 m6 m7 m8 m9 m10 m11 m12 m14 m15 m16 m13
    · refine XE_aload_n (n := 19) dX6_feed_18 rfl rfl rfl ?_
      refine XE_getr (b := 832) (n := 22) xf_X6_36 rfl rfl dX6_feed_19 rfl ?_
      refine XE_iload_n (n := 23) dX6_feed_22 rfl rfl rfl ?_
      refine XE_callV (ni := 1) (As := [.int a1]) (π := [13]) (co := [0, 1, 2, 3, 4, 5, 6, 7, 8, 9, 10, 11, 12, 14, 15, 16]) (cv := [m0, m1, m2, m3, m4, m5, m6, m7, m8, m9, m10, m11, m12, m14, m15, m16]) (nn := 17) (hs2 := fun t3 => [m0, m1, m2, m3, m4, m5, m6, m7, m8, m9, m10, m11, m12, t3.2, m14, m15, m16]) (st2 := fun t3 => [.int t3.1]) (n := 26) (b := 832) xc_X6_69 (fun l t ht => met_X4_take l m13 a1 t ht) rfl rfl rfl rfl rfl dX6_feed_23 (Nat.le_of_ble_eq_true rfl) ⟨Nat.zero_le _, Nat.zero_le _⟩ (Nat.le_of_ble_eq_true rfl) (Nat.le_of_ble_eq_true rfl) ok_27 rfl rfl rfl (fun _ => rfl) (fun _ => rfl) (fun _ => rfl) rfl (fun _ => rfl) rfl (fun t3 => ?_)
      refine XE_if_ne (t := 36) (n := 29) dX6_feed_26 rfl rfl (fun h4 => ?_) (fun h4 => ?_)
      · refine XE_ls (x_sub_ok (ls' := [(0, some (.ref 0))]) ⟨rfl, trivial⟩) ?_
        exact f_X6_feed_J29_x B m0 m1 m2 m3 m4 m5 m6 m7 m8 m9 m10 m11 m12 m14 m15 m16 t3.2
      · refine XE_aload_n (n := 37) dX6_feed_36 rfl rfl rfl ?_
        refine XE_getr (b := 832) (n := 40) xf_X6_36 rfl rfl dX6_feed_37 rfl ?_
        refine XE_getf (v := t3.2 0 1) (n := 43) xf_X6_73 rfl rfl rfl dX6_feed_40 rfl ?_
        exact XE_ireturn rfl dX6_feed_43 rfl (Nat.le_refl _) (Nat.le_refl _)
  · refine XE_aload_n (n := 5) dX6_feed_4 rfl rfl rfl ?_
    refine XE_bipush (v := (-4)) (n := 7) dX6_feed_5 rfl (by decide) ?_
    refine XE_callVi (ni := 1) (As := [.int (-4)]) (st2 := fun t6 => [.int t6.1]) (n := 10) (b := 0) xc_X6_65 (fun l t ht => met_X6_refused l m0 m1 m2 m3 m4 m5 m6 m7 m8 m9 m10 m11 m12 m13 m14 m15 m16 (-4) t ht) rfl rfl rfl rfl dX6_feed_7 (Nat.le_of_ble_eq_true rfl) ⟨Nat.zero_le _, Nat.zero_le _⟩ (Nat.le_of_ble_eq_true rfl) (Nat.le_of_ble_eq_true rfl) (fun _ => rfl) rfl (fun t6 => ?_)
    exact XE_ireturn rfl dX6_feed_10 rfl (Nat.le_refl _) (Nat.le_refl _)
theorem met_X6_feed (l : Launch) (m0 : Mem) (m1 : Mem) (m2 : Mem) (m3 : Mem) (m4 : Mem) (m5 : Mem) (m6 : Mem) (m7 : Mem) (m8 : Mem) (m9 : Mem) (m10 : Mem) (m11 : Mem) (m12 : Mem) (m13 : Mem) (m14 : Mem) (m15 : Mem) (m16 : Mem) (a1 : Int32) (t : Int32 × Mem × Mem) (ht : f_X6_feed m0 m13 a1 = some t) : XMet l yX6_feed cX6_feed 2 (some .int) 2 0 0 [.ref 0, .int a1] SH_X [m0, m1, m2, m3, m4, m5, m6, m7, m8, m9, m10, m11, m12, m13, m14, m15, m16] SH_X (some (.int t.1), [t.2.1, m1, m2, m3, m4, m5, m6, m7, m8, m9, m10, m11, m12, t.2.2, m14, m15, m16]) := XMet.of (by decide +kernel) (fun _ => Nat.le_of_ble_eq_true rfl) (fun B => xe_X6_feed B m0 m1 m2 m3 m4 m5 m6 m7 m8 m9 m10 m11 m12 m13 m14 m15 m16 a1) (by rw [ht]; rfl)
set_option maxRecDepth 100000 in
theorem ok_28 : x_okc [2, 1] SH_HH SH_X = true := by decide +kernel
/-! X6_asNow: EveryTwentyMinutes.asNow()LEveryTwentyMinutes$Hall; in world X at (0,) -/
abbrev M_X6_asNow : XM := (RX6, cX6_asNow, 1, (some (.object "EveryTwentyMinutes$Hall")), "asNow", 2, 0, 0)
def f_X6_asNow (m0 : Mem) (m1 : Mem) (m2 : Mem) : Option (Mem) :=
  (f_X2_become m2 m1).bind fun t1 =>
  some t1
set_option maxRecDepth 100000 in
theorem xe_X6_asNow (B : XB) (m0 : Mem) (m1 : Mem) (m2 : Mem) (m3 : Mem) (m4 : Mem) (m5 : Mem) (m6 : Mem) (m7 : Mem) (m8 : Mem) (m9 : Mem) (m10 : Mem) (m11 : Mem) (m12 : Mem) (m13 : Mem) (m14 : Mem) (m15 : Mem) (m16 : Mem) : XE B M_X6_asNow (XQm B 0 0 SH_X) 0 [(0, some (.ref 0))] [] (0, 0) SH_X [m0, m1, m2, m3, m4, m5, m6, m7, m8, m9, m10, m11, m12, m13, m14, m15, m16] (fun t => some (some (.ref 128), [m0, m1, t, m3, m4, m5, m6, m7, m8, m9, m10, m11, m12, m13, m14, m15, m16])) (f_X6_asNow m0 m1 m2) := by
  unfold f_X6_asNow
  refine XE_aload_n (n := 1) dX6_asNow_0 rfl rfl rfl ?_
  refine XE_getr (b := 128) (n := 4) xf_X6_16 rfl rfl dX6_asNow_1 rfl ?_
  refine XE_aload_n (n := 5) dX6_asNow_4 rfl rfl rfl ?_
  refine XE_getr (b := 64) (n := 8) xf_X6_10 rfl rfl dX6_asNow_5 rfl ?_
  refine XE_callV (ni := 1) (As := [.ref 64]) (π := [2, 1]) (co := [0, 3, 4, 5, 6, 7, 8, 9, 10, 11, 12, 13, 14, 15, 16]) (cv := [m0, m3, m4, m5, m6, m7, m8, m9, m10, m11, m12, m13, m14, m15, m16]) (nn := 17) (hs2 := fun t1 => [m0, m1, t1, m3, m4, m5, m6, m7, m8, m9, m10, m11, m12, m13, m14, m15, m16]) (st2 := fun t1 => []) (n := 11) (b := 128) xc_X6_88 (fun l t ht => met_X2_become l m2 m1 t ht) rfl rfl rfl rfl rfl dX6_asNow_8 (Nat.le_of_ble_eq_true rfl) ⟨Nat.zero_le _, Nat.zero_le _⟩ (Nat.le_of_ble_eq_true rfl) (Nat.le_of_ble_eq_true rfl) ok_28 rfl rfl rfl (fun _ => rfl) (fun _ => rfl) (fun _ => rfl) rfl (fun _ => rfl) rfl (fun t1 => ?_)
  refine XE_aload_n (n := 12) dX6_asNow_11 rfl rfl rfl ?_
  refine XE_getr (b := 128) (n := 15) xf_X6_16 rfl rfl dX6_asNow_12 rfl ?_
  exact XE_areturn (Or.inl ⟨_, rfl⟩) rfl dX6_asNow_15 rfl (Nat.le_refl _) (Nat.le_refl _)
theorem met_X6_asNow (l : Launch) (m0 : Mem) (m1 : Mem) (m2 : Mem) (m3 : Mem) (m4 : Mem) (m5 : Mem) (m6 : Mem) (m7 : Mem) (m8 : Mem) (m9 : Mem) (m10 : Mem) (m11 : Mem) (m12 : Mem) (m13 : Mem) (m14 : Mem) (m15 : Mem) (m16 : Mem) (t : Mem) (ht : f_X6_asNow m0 m1 m2 = some t) : XMet l yX6_asNow cX6_asNow 1 (some (.object "EveryTwentyMinutes$Hall")) 2 0 0 [.ref 0] SH_X [m0, m1, m2, m3, m4, m5, m6, m7, m8, m9, m10, m11, m12, m13, m14, m15, m16] SH_X (some (.ref 128), [m0, m1, t, m3, m4, m5, m6, m7, m8, m9, m10, m11, m12, m13, m14, m15, m16]) := XMet.of (by decide +kernel) (fun _ => Nat.le_of_ble_eq_true rfl) (fun B => xe_X6_asNow B m0 m1 m2 m3 m4 m5 m6 m7 m8 m9 m10 m11 m12 m13 m14 m15 m16) (by rw [ht]; rfl)
set_option maxRecDepth 100000 in
theorem ok_29 : x_okc [13, 2] SH_LH SH_X = true := by decide +kernel
set_option maxRecDepth 100000 in
theorem ok_30 : x_okc [1, 2] SH_HH SH_X = true := by decide +kernel
set_option maxRecDepth 100000 in
theorem ok_31 : x_okc [4, 5, 6, 7, 8, 9, 10, 11, 12] SH_P SH_X = true := by decide +kernel
/-! X6_hall: EveryTwentyMinutes.hall()I in world X at (0,) -/
abbrev M_X6_hall : XM := (RX6, cX6_hall, 4, (some .int), "hall", 8, 0, 0)
def f_X6_hall (m0 : Mem) (m1 : Mem) (m2 : Mem) (m4 : Mem) (m13 : Mem) : Option (Int32 × Mem × Mem × Mem × Mem) :=
  (f_X4_faultyPlace m13).bind fun t1 =>
  if t1 < 0 then
    (f_X6_asNow m0 m1 m2).bind fun t2 =>
    (f_X4_tellTo m13 t2).bind fun t3 =>
    lt t3.1 fun v4 =>
    if v4 ≤ 0 then
      lt (xs m13 0 1 0) fun w5 =>
      some (v4, m1, t3.2, m4, w5)
    else
      (f_X2_become m1 t3.2).bind fun t6 =>
      (f_X5_forget m4).bind fun t7 =>
      lt (xs m13 0 1 0) fun w8 =>
      some (v4, t6, t3.2, t7, w8)
  else
    lt ((-1000) - t1) fun v10 =>
    lt (xs m13 0 1 0) fun w11 =>
    some (v10, m1, m2, m4, w11)
set_option maxRecDepth 100000 in
theorem xe_X6_hall (B : XB) (m0 : Mem) (m1 : Mem) (m2 : Mem) (m3 : Mem) (m4 : Mem) (m5 : Mem) (m6 : Mem) (m7 : Mem) (m8 : Mem) (m9 : Mem) (m10 : Mem) (m11 : Mem) (m12 : Mem) (m13 : Mem) (m14 : Mem) (m15 : Mem) (m16 : Mem) : XE B M_X6_hall (XQm B 0 0 SH_X) 0 [(0, some (.ref 0))] [] (0, 0) SH_X [m0, m1, m2, m3, m4, m5, m6, m7, m8, m9, m10, m11, m12, m13, m14, m15, m16] (fun t => some (some (.int t.1), [m0, t.2.1, t.2.2.1, m3, t.2.2.2.1, m5, m6, m7, m8, m9, m10, m11, m12, t.2.2.2.2, m14, m15, m16])) (f_X6_hall m0 m1 m2 m4 m13) := by
  unfold f_X6_hall
  refine XE_aload_n (n := 1) dX6_hall_0 rfl rfl rfl ?_
  refine XE_getr (b := 832) (n := 4) xf_X6_36 rfl rfl dX6_hall_1 rfl ?_
  refine XE_callV (ni := 0) (As := []) (π := [13]) (co := [0, 1, 2, 3, 4, 5, 6, 7, 8, 9, 10, 11, 12, 14, 15, 16]) (cv := [m0, m1, m2, m3, m4, m5, m6, m7, m8, m9, m10, m11, m12, m14, m15, m16]) (nn := 17) (hs2 := fun t1 => [m0, m1, m2, m3, m4, m5, m6, m7, m8, m9, m10, m11, m12, m13, m14, m15, m16]) (st2 := fun t1 => [.int t1]) (n := 7) (b := 832) xc_X6_76 (fun l t ht => met_X4_faultyPlace l m13 t ht) rfl rfl rfl rfl rfl dX6_hall_4 (Nat.le_of_ble_eq_true rfl) ⟨Nat.zero_le _, Nat.zero_le _⟩ (Nat.le_of_ble_eq_true rfl) (Nat.le_of_ble_eq_true rfl) ok_27 rfl rfl rfl (fun _ => rfl) (fun _ => rfl) (fun _ => rfl) rfl (fun _ => rfl) rfl (fun t1 => ?_)
  refine XE_istore_n (i := 1) (n := 8) dX6_hall_7 rfl rfl (Nat.le_of_ble_eq_true rfl) rfl ?_
  refine XE_iload_n (n := 9) dX6_hall_8 rfl rfl rfl ?_
  refine XE_if_lt (t := 21) (n := 12) dX6_hall_9 rfl rfl (fun h12 => ?_) (fun h12 => ?_)
  · refine XE_aload_n (n := 22) dX6_hall_21 rfl rfl rfl ?_
    refine XE_callVi (ni := 0) (As := []) (st2 := fun t2 => [.ref 128]) (n := 25) (b := 0) xc_X6_80 (fun l t ht => met_X6_asNow l m0 m1 m2 m3 m4 m5 m6 m7 m8 m9 m10 m11 m12 m13 m14 m15 m16 t ht) rfl rfl rfl rfl dX6_hall_22 (Nat.le_of_ble_eq_true rfl) ⟨Nat.zero_le _, Nat.zero_le _⟩ (Nat.le_of_ble_eq_true rfl) (Nat.le_of_ble_eq_true rfl) (fun _ => rfl) rfl (fun t2 => ?_)
    refine XE_astore_n (i := 3) (n := 26) dX6_hall_25 rfl rfl (Nat.le_of_ble_eq_true rfl) rfl ?_
    refine XE_aload_n (n := 27) dX6_hall_26 rfl rfl rfl ?_
    refine XE_getr (b := 832) (n := 30) xf_X6_36 rfl rfl dX6_hall_27 rfl ?_
    refine XE_aload_n (n := 31) dX6_hall_30 rfl rfl rfl ?_
    refine XE_callV (ni := 1) (As := [.ref 128]) (π := [13, 2]) (co := [0, 1, 3, 4, 5, 6, 7, 8, 9, 10, 11, 12, 14, 15, 16]) (cv := [m0, m1, m3, m4, m5, m6, m7, m8, m9, m10, m11, m12, m14, m15, m16]) (nn := 17) (hs2 := fun t3 => [m0, m1, t3.2, m3, m4, m5, m6, m7, m8, m9, m10, m11, m12, m13, m14, m15, m16]) (st2 := fun t3 => [.int t3.1]) (n := 34) (b := 832) xc_X6_84 (fun l t ht => met_X4_tellTo l m13 t2 t ht) rfl rfl rfl rfl rfl dX6_hall_31 (Nat.le_of_ble_eq_true rfl) ⟨Nat.zero_le _, Nat.zero_le _⟩ (Nat.le_of_ble_eq_true rfl) (Nat.le_of_ble_eq_true rfl) ok_29 rfl rfl rfl (fun _ => rfl) (fun _ => rfl) (fun _ => rfl) rfl (fun _ => rfl) rfl (fun t3 => ?_)
    refine XE_topi (fun v4 => ?_)
    refine XE_istore_n (i := 2) (n := 35) dX6_hall_34 rfl rfl (Nat.le_of_ble_eq_true rfl) rfl ?_
    refine XE_iload_n (n := 36) dX6_hall_35 rfl rfl rfl ?_
    refine XE_if_le (t := 54) (n := 39) dX6_hall_36 rfl rfl (fun h9 => ?_) (fun h9 => ?_)
    · refine XE_aload_n (n := 55) dX6_hall_54 rfl rfl rfl ?_
      refine XE_getr (b := 832) (n := 58) xf_X6_36 rfl rfl dX6_hall_55 rfl ?_
      refine XE_iconst (v := 0) (n := 59) dX6_hall_58 rfl (by decide) ?_
      refine XE_putf (hs2 := fun w5 => [m0, m1, t3.2, m3, m4, m5, m6, m7, m8, m9, m10, m11, m12, w5, m14, m15, m16]) (n := 62) xf_X6_73 rfl rfl rfl rfl (Nat.le_of_ble_eq_true rfl) (fun _ => rfl) dX6_hall_59 rfl (fun w5 => ?_)
      refine XE_iload_n (n := 63) dX6_hall_62 rfl rfl rfl ?_
      exact XE_ireturn rfl dX6_hall_63 rfl (Nat.le_refl _) (Nat.le_refl _)
    · refine XE_aload_n (n := 40) dX6_hall_39 rfl rfl rfl ?_
      refine XE_getr (b := 64) (n := 43) xf_X6_10 rfl rfl dX6_hall_40 rfl ?_
      refine XE_aload_n (n := 44) dX6_hall_43 rfl rfl rfl ?_
      refine XE_callV (ni := 1) (As := [.ref 128]) (π := [1, 2]) (co := [0, 3, 4, 5, 6, 7, 8, 9, 10, 11, 12, 13, 14, 15, 16]) (cv := [m0, m3, m4, m5, m6, m7, m8, m9, m10, m11, m12, m13, m14, m15, m16]) (nn := 17) (hs2 := fun t6 => [m0, t6, t3.2, m3, m4, m5, m6, m7, m8, m9, m10, m11, m12, m13, m14, m15, m16]) (st2 := fun t6 => []) (n := 47) (b := 64) xc_X6_88 (fun l t ht => met_X2_become l m1 t3.2 t ht) rfl rfl rfl rfl rfl dX6_hall_44 (Nat.le_of_ble_eq_true rfl) ⟨Nat.zero_le _, Nat.zero_le _⟩ (Nat.le_of_ble_eq_true rfl) (Nat.le_of_ble_eq_true rfl) ok_30 rfl rfl rfl (fun _ => rfl) (fun _ => rfl) (fun _ => rfl) rfl (fun _ => rfl) rfl (fun t6 => ?_)
      refine XE_aload_n (n := 48) dX6_hall_47 rfl rfl rfl ?_
      refine XE_getr (b := 256) (n := 51) xf_X6_29 rfl rfl dX6_hall_48 rfl ?_
      refine XE_callV (ni := 0) (As := []) (π := [4, 5, 6, 7, 8, 9, 10, 11, 12]) (co := [0, 1, 2, 3, 13, 14, 15, 16]) (cv := [m0, t6, t3.2, m3, m13, m14, m15, m16]) (nn := 17) (hs2 := fun t7 => [m0, t6, t3.2, m3, t7, m5, m6, m7, m8, m9, m10, m11, m12, m13, m14, m15, m16]) (st2 := fun t7 => []) (n := 54) (b := 256) xc_X6_92 (fun l t ht => met_X5_forget l m4 m5 m6 m7 m8 m9 m10 m11 m12 t ht) rfl rfl rfl rfl rfl dX6_hall_51 (Nat.le_of_ble_eq_true rfl) ⟨Nat.zero_le _, Nat.zero_le _⟩ (Nat.le_of_ble_eq_true rfl) (Nat.le_of_ble_eq_true rfl) ok_31 rfl rfl rfl (fun _ => rfl) (fun _ => rfl) (fun _ => rfl) rfl (fun _ => rfl) rfl (fun t7 => ?_)
      refine XE_aload_n (n := 55) dX6_hall_54 rfl rfl rfl ?_
      refine XE_getr (b := 832) (n := 58) xf_X6_36 rfl rfl dX6_hall_55 rfl ?_
      refine XE_iconst (v := 0) (n := 59) dX6_hall_58 rfl (by decide) ?_
      refine XE_putf (hs2 := fun w8 => [m0, t6, t3.2, m3, t7, m5, m6, m7, m8, m9, m10, m11, m12, w8, m14, m15, m16]) (n := 62) xf_X6_73 rfl rfl rfl rfl (Nat.le_of_ble_eq_true rfl) (fun _ => rfl) dX6_hall_59 rfl (fun w8 => ?_)
      refine XE_iload_n (n := 63) dX6_hall_62 rfl rfl rfl ?_
      exact XE_ireturn rfl dX6_hall_63 rfl (Nat.le_refl _) (Nat.le_refl _)
  · refine XE_sipush (v := (-1000)) (n := 15) dX6_hall_12 rfl (by decide) ?_
    refine XE_iload_n (n := 16) dX6_hall_15 rfl rfl rfl ?_
    refine XE_isub (n := 17) dX6_hall_16 rfl ?_
    refine XE_topi (fun v10 => ?_)
    refine XE_istore_n (i := 2) (n := 18) dX6_hall_17 rfl rfl (Nat.le_of_ble_eq_true rfl) rfl ?_
    refine XE_goto (n := 54) dX6_hall_18 rfl ?_
    refine XE_aload_n (n := 55) dX6_hall_54 rfl rfl rfl ?_
    refine XE_getr (b := 832) (n := 58) xf_X6_36 rfl rfl dX6_hall_55 rfl ?_
    refine XE_iconst (v := 0) (n := 59) dX6_hall_58 rfl (by decide) ?_
    refine XE_putf (hs2 := fun w11 => [m0, m1, m2, m3, m4, m5, m6, m7, m8, m9, m10, m11, m12, w11, m14, m15, m16]) (n := 62) xf_X6_73 rfl rfl rfl rfl (Nat.le_of_ble_eq_true rfl) (fun _ => rfl) dX6_hall_59 rfl (fun w11 => ?_)
    refine XE_iload_n (n := 63) dX6_hall_62 rfl rfl rfl ?_
    exact XE_ireturn rfl dX6_hall_63 rfl (Nat.le_refl _) (Nat.le_refl _)
theorem met_X6_hall (l : Launch) (m0 : Mem) (m1 : Mem) (m2 : Mem) (m3 : Mem) (m4 : Mem) (m5 : Mem) (m6 : Mem) (m7 : Mem) (m8 : Mem) (m9 : Mem) (m10 : Mem) (m11 : Mem) (m12 : Mem) (m13 : Mem) (m14 : Mem) (m15 : Mem) (m16 : Mem) (t : Int32 × Mem × Mem × Mem × Mem) (ht : f_X6_hall m0 m1 m2 m4 m13 = some t) : XMet l yX6_hall cX6_hall 4 (some .int) 8 0 0 [.ref 0] SH_X [m0, m1, m2, m3, m4, m5, m6, m7, m8, m9, m10, m11, m12, m13, m14, m15, m16] SH_X (some (.int t.1), [m0, t.2.1, t.2.2.1, m3, t.2.2.2.1, m5, m6, m7, m8, m9, m10, m11, m12, t.2.2.2.2, m14, m15, m16]) := XMet.of (by decide +kernel) (fun _ => Nat.le_of_ble_eq_true rfl) (fun B => xe_X6_hall B m0 m1 m2 m3 m4 m5 m6 m7 m8 m9 m10 m11 m12 m13 m14 m15 m16) (by rw [ht]; rfl)
set_option maxRecDepth 100000 in
theorem ok_32 : x_okc [1] SH_H SH_X = true := by decide +kernel
set_option maxRecDepth 100000 in
theorem ok_33 : x_okc [] SH_0 SH_X = true := by decide +kernel
/-! X6_coupleOf: EveryTwentyMinutes.coupleOf(II)I in world X at (0,) -/
abbrev M_X6_coupleOf : XM := (RX6, cX6_coupleOf, 3, (some .int), "coupleOf", 3, 0, 0)
def f_X6_coupleOf (m0 : Mem) (m1 : Mem) (a1 : Int32) (a2 : Int32) : Option (Int32 × Mem) :=
  (f_X2_has m1 a1).bind fun t1 =>
  if t1 = 0 then
    (f_X6_refused m0 (-1)).bind fun t17 =>
    some (t17.1, t17.2)
  else
    if a2 = 0 then
      ck (inb a1 7) <|
      some ((m1 1 (ix a1)), m0)
    else
      if a2 = 1 then
        ck (inb a1 7) <|
        some ((m1 2 (ix a1)), m0)
      else
        if a2 = 2 then
          ck (inb a1 7) <|
          some ((m1 3 (ix a1)), m0)
        else
          if a2 = 3 then
            (f_X2_isWed m1 a1).bind fun t6 =>
            if t6 = 0 then
              some ((0 : Int32), m0)
            else
              some ((1 : Int32), m0)
          else
            if a2 = 4 then
              (f_X2_lastsOf m1 a1).bind fun t9 =>
              some (t9, m0)
            else
              if a2 = 5 then
                (f_X2_readyOf m1 a1).bind fun t11 =>
                some (t11, m0)
              else
                if a2 = 6 then
                  (f_X2_guestsOf m1 a1).bind fun t13 =>
                  some (t13, m0)
                else
                  if a2 = 7 then
                    ck (inb a1 7) <|
                    ck (inb a1 7) <|
                    (f_X3_poses (m1 1 (ix a1)) (m1 2 (ix a1))).bind fun t15 =>
                    some (t15, m0)
                  else
                    (f_X6_refused m0 (-2)).bind fun t16 =>
                    some (t16.1, t16.2)
set_option maxRecDepth 100000 in
theorem xe_X6_coupleOf (B : XB) (m0 : Mem) (m1 : Mem) (m2 : Mem) (m3 : Mem) (m4 : Mem) (m5 : Mem) (m6 : Mem) (m7 : Mem) (m8 : Mem) (m9 : Mem) (m10 : Mem) (m11 : Mem) (m12 : Mem) (m13 : Mem) (m14 : Mem) (m15 : Mem) (m16 : Mem) (a1 : Int32) (a2 : Int32) : XE B M_X6_coupleOf (XQm B 0 0 SH_X) 0 [(0, some (.ref 0)), (1, some (.int a1)), (2, some (.int a2))] [] (0, 0) SH_X [m0, m1, m2, m3, m4, m5, m6, m7, m8, m9, m10, m11, m12, m13, m14, m15, m16] (fun t => some (some (.int t.1), [t.2, m1, m2, m3, m4, m5, m6, m7, m8, m9, m10, m11, m12, m13, m14, m15, m16])) (f_X6_coupleOf m0 m1 a1 a2) := by
  unfold f_X6_coupleOf
  refine XE_aload_n (n := 1) dX6_coupleOf_0 rfl rfl rfl ?_
  refine XE_getr (b := 64) (n := 4) xf_X6_10 rfl rfl dX6_coupleOf_1 rfl ?_
  refine XE_iload_n (n := 5) dX6_coupleOf_4 rfl rfl rfl ?_
  refine XE_callV (ni := 1) (As := [.int a1]) (π := [1]) (co := [0, 2, 3, 4, 5, 6, 7, 8, 9, 10, 11, 12, 13, 14, 15, 16]) (cv := [m0, m2, m3, m4, m5, m6, m7, m8, m9, m10, m11, m12, m13, m14, m15, m16]) (nn := 17) (hs2 := fun t1 => [m0, m1, m2, m3, m4, m5, m6, m7, m8, m9, m10, m11, m12, m13, m14, m15, m16]) (st2 := fun t1 => [.int t1]) (n := 8) (b := 64) xc_X6_95 (fun l t ht => met_X2_has l m1 a1 t ht) rfl rfl rfl rfl rfl dX6_coupleOf_5 (Nat.le_of_ble_eq_true rfl) ⟨Nat.zero_le _, Nat.zero_le _⟩ (Nat.le_of_ble_eq_true rfl) (Nat.le_of_ble_eq_true rfl) ok_32 rfl rfl rfl (fun _ => rfl) (fun _ => rfl) (fun _ => rfl) rfl (fun _ => rfl) rfl (fun t1 => ?_)
  refine XE_if_ne (t := 17) (n := 11) dX6_coupleOf_8 rfl rfl (fun h18 => ?_) (fun h18 => ?_)
  · refine XE_aload_n (n := 12) dX6_coupleOf_11 rfl rfl rfl ?_
    refine XE_iconst (v := (-1)) (n := 13) dX6_coupleOf_12 rfl (by decide) ?_
    refine XE_callVi (ni := 1) (As := [.int (-1)]) (st2 := fun t17 => [.int t17.1]) (n := 16) (b := 0) xc_X6_65 (fun l t ht => met_X6_refused l m0 m1 m2 m3 m4 m5 m6 m7 m8 m9 m10 m11 m12 m13 m14 m15 m16 (-1) t ht) rfl rfl rfl rfl dX6_coupleOf_13 (Nat.le_of_ble_eq_true rfl) ⟨Nat.zero_le _, Nat.zero_le _⟩ (Nat.le_of_ble_eq_true rfl) (Nat.le_of_ble_eq_true rfl) (fun _ => rfl) rfl (fun t17 => ?_)
    exact XE_ireturn rfl dX6_coupleOf_16 rfl (Nat.le_refl _) (Nat.le_refl _)
  · refine XE_iload_n (n := 18) dX6_coupleOf_17 rfl rfl rfl ?_
    refine XE_tsw (c := 0) (t := 64) (off := 46) dX6_coupleOf_18 (by decide) (by decide) rfl rfl ?_ (fun h2 => ?_)
    · refine XE_aload_n (n := 65) dX6_coupleOf_64 rfl rfl rfl ?_
      refine XE_getr (b := 64) (n := 68) xf_X6_10 rfl rfl dX6_coupleOf_65 rfl ?_
      refine XE_getr (b := 65) (n := 71) xf_X6_98 rfl rfl dX6_coupleOf_68 rfl ?_
      refine XE_iload_n (n := 72) dX6_coupleOf_71 rfl rfl rfl ?_
      refine XE_iald (row := m1 1) (n := 73) rfl rfl dX6_coupleOf_72 rfl ?_
      exact XE_ireturn rfl dX6_coupleOf_73 rfl (Nat.le_refl _) (Nat.le_refl _)
    refine XE_tsw (c := 1) (t := 74) (off := 56) dX6_coupleOf_18 (by decide) (by decide) rfl rfl ?_ (fun h3 => ?_)
    · refine XE_aload_n (n := 75) dX6_coupleOf_74 rfl rfl rfl ?_
      refine XE_getr (b := 64) (n := 78) xf_X6_10 rfl rfl dX6_coupleOf_75 rfl ?_
      refine XE_getr (b := 66) (n := 81) xf_X6_101 rfl rfl dX6_coupleOf_78 rfl ?_
      refine XE_iload_n (n := 82) dX6_coupleOf_81 rfl rfl rfl ?_
      refine XE_iald (row := m1 2) (n := 83) rfl rfl dX6_coupleOf_82 rfl ?_
      exact XE_ireturn rfl dX6_coupleOf_83 rfl (Nat.le_refl _) (Nat.le_refl _)
    refine XE_tsw (c := 2) (t := 84) (off := 66) dX6_coupleOf_18 (by decide) (by decide) rfl rfl ?_ (fun h4 => ?_)
    · refine XE_aload_n (n := 85) dX6_coupleOf_84 rfl rfl rfl ?_
      refine XE_getr (b := 64) (n := 88) xf_X6_10 rfl rfl dX6_coupleOf_85 rfl ?_
      refine XE_getr (b := 67) (n := 91) xf_X6_104 rfl rfl dX6_coupleOf_88 rfl ?_
      refine XE_iload_n (n := 92) dX6_coupleOf_91 rfl rfl rfl ?_
      refine XE_iald (row := m1 3) (n := 93) rfl rfl dX6_coupleOf_92 rfl ?_
      exact XE_ireturn rfl dX6_coupleOf_93 rfl (Nat.le_refl _) (Nat.le_refl _)
    refine XE_tsw (c := 3) (t := 94) (off := 76) dX6_coupleOf_18 (by decide) (by decide) rfl rfl ?_ (fun h5 => ?_)
    · refine XE_aload_n (n := 95) dX6_coupleOf_94 rfl rfl rfl ?_
      refine XE_getr (b := 64) (n := 98) xf_X6_10 rfl rfl dX6_coupleOf_95 rfl ?_
      refine XE_iload_n (n := 99) dX6_coupleOf_98 rfl rfl rfl ?_
      refine XE_callV (ni := 1) (As := [.int a1]) (π := [1]) (co := [0, 2, 3, 4, 5, 6, 7, 8, 9, 10, 11, 12, 13, 14, 15, 16]) (cv := [m0, m2, m3, m4, m5, m6, m7, m8, m9, m10, m11, m12, m13, m14, m15, m16]) (nn := 17) (hs2 := fun t6 => [m0, m1, m2, m3, m4, m5, m6, m7, m8, m9, m10, m11, m12, m13, m14, m15, m16]) (st2 := fun t6 => [.int t6]) (n := 102) (b := 64) xc_X6_107 (fun l t ht => met_X2_isWed l m1 a1 t ht) rfl rfl rfl rfl rfl dX6_coupleOf_99 (Nat.le_of_ble_eq_true rfl) ⟨Nat.zero_le _, Nat.zero_le _⟩ (Nat.le_of_ble_eq_true rfl) (Nat.le_of_ble_eq_true rfl) ok_32 rfl rfl rfl (fun _ => rfl) (fun _ => rfl) (fun _ => rfl) rfl (fun _ => rfl) rfl (fun t6 => ?_)
      refine XE_if_eq (t := 109) (n := 105) dX6_coupleOf_102 rfl rfl (fun h7 => ?_) (fun h7 => ?_)
      · refine XE_iconst (v := 0) (n := 110) dX6_coupleOf_109 rfl (by decide) ?_
        exact XE_ireturn rfl dX6_coupleOf_110 rfl (Nat.le_refl _) (Nat.le_refl _)
      · refine XE_iconst (v := 1) (n := 106) dX6_coupleOf_105 rfl (by decide) ?_
        refine XE_goto (n := 110) dX6_coupleOf_106 rfl ?_
        exact XE_ireturn rfl dX6_coupleOf_110 rfl (Nat.le_refl _) (Nat.le_refl _)
    refine XE_tsw (c := 4) (t := 111) (off := 93) dX6_coupleOf_18 (by decide) (by decide) rfl rfl ?_ (fun h8 => ?_)
    · refine XE_aload_n (n := 112) dX6_coupleOf_111 rfl rfl rfl ?_
      refine XE_getr (b := 64) (n := 115) xf_X6_10 rfl rfl dX6_coupleOf_112 rfl ?_
      refine XE_iload_n (n := 116) dX6_coupleOf_115 rfl rfl rfl ?_
      refine XE_callV (ni := 1) (As := [.int a1]) (π := [1]) (co := [0, 2, 3, 4, 5, 6, 7, 8, 9, 10, 11, 12, 13, 14, 15, 16]) (cv := [m0, m2, m3, m4, m5, m6, m7, m8, m9, m10, m11, m12, m13, m14, m15, m16]) (nn := 17) (hs2 := fun t9 => [m0, m1, m2, m3, m4, m5, m6, m7, m8, m9, m10, m11, m12, m13, m14, m15, m16]) (st2 := fun t9 => [.int t9]) (n := 119) (b := 64) xc_X6_110 (fun l t ht => met_X2_lastsOf l m1 a1 t ht) rfl rfl rfl rfl rfl dX6_coupleOf_116 (Nat.le_of_ble_eq_true rfl) ⟨Nat.zero_le _, Nat.zero_le _⟩ (Nat.le_of_ble_eq_true rfl) (Nat.le_of_ble_eq_true rfl) ok_32 rfl rfl rfl (fun _ => rfl) (fun _ => rfl) (fun _ => rfl) rfl (fun _ => rfl) rfl (fun t9 => ?_)
      exact XE_ireturn rfl dX6_coupleOf_119 rfl (Nat.le_refl _) (Nat.le_refl _)
    refine XE_tsw (c := 5) (t := 120) (off := 102) dX6_coupleOf_18 (by decide) (by decide) rfl rfl ?_ (fun h10 => ?_)
    · refine XE_aload_n (n := 121) dX6_coupleOf_120 rfl rfl rfl ?_
      refine XE_getr (b := 64) (n := 124) xf_X6_10 rfl rfl dX6_coupleOf_121 rfl ?_
      refine XE_iload_n (n := 125) dX6_coupleOf_124 rfl rfl rfl ?_
      refine XE_callV (ni := 1) (As := [.int a1]) (π := [1]) (co := [0, 2, 3, 4, 5, 6, 7, 8, 9, 10, 11, 12, 13, 14, 15, 16]) (cv := [m0, m2, m3, m4, m5, m6, m7, m8, m9, m10, m11, m12, m13, m14, m15, m16]) (nn := 17) (hs2 := fun t11 => [m0, m1, m2, m3, m4, m5, m6, m7, m8, m9, m10, m11, m12, m13, m14, m15, m16]) (st2 := fun t11 => [.int t11]) (n := 128) (b := 64) xc_X6_113 (fun l t ht => met_X2_readyOf l m1 a1 t ht) rfl rfl rfl rfl rfl dX6_coupleOf_125 (Nat.le_of_ble_eq_true rfl) ⟨Nat.zero_le _, Nat.zero_le _⟩ (Nat.le_of_ble_eq_true rfl) (Nat.le_of_ble_eq_true rfl) ok_32 rfl rfl rfl (fun _ => rfl) (fun _ => rfl) (fun _ => rfl) rfl (fun _ => rfl) rfl (fun t11 => ?_)
      exact XE_ireturn rfl dX6_coupleOf_128 rfl (Nat.le_refl _) (Nat.le_refl _)
    refine XE_tsw (c := 6) (t := 129) (off := 111) dX6_coupleOf_18 (by decide) (by decide) rfl rfl ?_ (fun h12 => ?_)
    · refine XE_aload_n (n := 130) dX6_coupleOf_129 rfl rfl rfl ?_
      refine XE_getr (b := 64) (n := 133) xf_X6_10 rfl rfl dX6_coupleOf_130 rfl ?_
      refine XE_iload_n (n := 134) dX6_coupleOf_133 rfl rfl rfl ?_
      refine XE_callV (ni := 1) (As := [.int a1]) (π := [1]) (co := [0, 2, 3, 4, 5, 6, 7, 8, 9, 10, 11, 12, 13, 14, 15, 16]) (cv := [m0, m2, m3, m4, m5, m6, m7, m8, m9, m10, m11, m12, m13, m14, m15, m16]) (nn := 17) (hs2 := fun t13 => [m0, m1, m2, m3, m4, m5, m6, m7, m8, m9, m10, m11, m12, m13, m14, m15, m16]) (st2 := fun t13 => [.int t13]) (n := 137) (b := 64) xc_X6_116 (fun l t ht => met_X2_guestsOf l m1 a1 t ht) rfl rfl rfl rfl rfl dX6_coupleOf_134 (Nat.le_of_ble_eq_true rfl) ⟨Nat.zero_le _, Nat.zero_le _⟩ (Nat.le_of_ble_eq_true rfl) (Nat.le_of_ble_eq_true rfl) ok_32 rfl rfl rfl (fun _ => rfl) (fun _ => rfl) (fun _ => rfl) rfl (fun _ => rfl) rfl (fun t13 => ?_)
      exact XE_ireturn rfl dX6_coupleOf_137 rfl (Nat.le_refl _) (Nat.le_refl _)
    refine XE_tsw (c := 7) (t := 138) (off := 120) dX6_coupleOf_18 (by decide) (by decide) rfl rfl ?_ (fun h14 => ?_)
    · refine XE_aload_n (n := 139) dX6_coupleOf_138 rfl rfl rfl ?_
      refine XE_getr (b := 64) (n := 142) xf_X6_10 rfl rfl dX6_coupleOf_139 rfl ?_
      refine XE_getr (b := 65) (n := 145) xf_X6_98 rfl rfl dX6_coupleOf_142 rfl ?_
      refine XE_iload_n (n := 146) dX6_coupleOf_145 rfl rfl rfl ?_
      refine XE_iald (row := m1 1) (n := 147) rfl rfl dX6_coupleOf_146 rfl ?_
      refine XE_aload_n (n := 148) dX6_coupleOf_147 rfl rfl rfl ?_
      refine XE_getr (b := 64) (n := 151) xf_X6_10 rfl rfl dX6_coupleOf_148 rfl ?_
      refine XE_getr (b := 66) (n := 154) xf_X6_101 rfl rfl dX6_coupleOf_151 rfl ?_
      refine XE_iload_n (n := 155) dX6_coupleOf_154 rfl rfl rfl ?_
      refine XE_iald (row := m1 2) (n := 156) rfl rfl dX6_coupleOf_155 rfl ?_
      refine XE_callS (ni := 2) (As := [.int (m1 1 (ix a1)), .int (m1 2 (ix a1))]) (π := []) (co := [0, 1, 2, 3, 4, 5, 6, 7, 8, 9, 10, 11, 12, 13, 14, 15, 16]) (cv := [m0, m1, m2, m3, m4, m5, m6, m7, m8, m9, m10, m11, m12, m13, m14, m15, m16]) (nn := 17) (hs2 := fun t15 => [m0, m1, m2, m3, m4, m5, m6, m7, m8, m9, m10, m11, m12, m13, m14, m15, m16]) (st2 := fun t15 => [.int t15]) (n := 159) xc_X6_119 (fun l t ht => met_X3_poses l (m1 1 (ix a1)) (m1 2 (ix a1)) t ht) rfl rfl rfl dX6_coupleOf_156 (Nat.le_of_ble_eq_true rfl) ⟨Nat.zero_le _, Nat.zero_le _⟩ (Nat.le_of_ble_eq_true rfl) (Nat.le_of_ble_eq_true rfl) ok_33 rfl rfl rfl (fun _ => rfl) (fun _ => rfl) (fun _ => rfl) rfl (fun _ => rfl) rfl (fun t15 => ?_)
      exact XE_ireturn rfl dX6_coupleOf_159 rfl (Nat.le_refl _) (Nat.le_refl _)
    refine XE_tswd (t := 160) dX6_coupleOf_18 (by have q0 := x_ne h2 (z := 0) (by decide); have q1 := x_ne h3 (z := 1) (by decide); have q2 := x_ne h4 (z := 2) (by decide); have q3 := x_ne h5 (z := 3) (by decide); have q4 := x_ne h8 (z := 4) (by decide); have q5 := x_ne h10 (z := 5) (by decide); have q6 := x_ne h12 (z := 6) (by decide); have q7 := x_ne h14 (z := 7) (by decide); omega) rfl ?_
    refine XE_aload_n (n := 161) dX6_coupleOf_160 rfl rfl rfl ?_
    refine XE_bipush (v := (-2)) (n := 163) dX6_coupleOf_161 rfl (by decide) ?_
    refine XE_callVi (ni := 1) (As := [.int (-2)]) (st2 := fun t16 => [.int t16.1]) (n := 166) (b := 0) xc_X6_65 (fun l t ht => met_X6_refused l m0 m1 m2 m3 m4 m5 m6 m7 m8 m9 m10 m11 m12 m13 m14 m15 m16 (-2) t ht) rfl rfl rfl rfl dX6_coupleOf_163 (Nat.le_of_ble_eq_true rfl) ⟨Nat.zero_le _, Nat.zero_le _⟩ (Nat.le_of_ble_eq_true rfl) (Nat.le_of_ble_eq_true rfl) (fun _ => rfl) rfl (fun t16 => ?_)
    exact XE_ireturn rfl dX6_coupleOf_166 rfl (Nat.le_refl _) (Nat.le_refl _)
theorem met_X6_coupleOf (l : Launch) (m0 : Mem) (m1 : Mem) (m2 : Mem) (m3 : Mem) (m4 : Mem) (m5 : Mem) (m6 : Mem) (m7 : Mem) (m8 : Mem) (m9 : Mem) (m10 : Mem) (m11 : Mem) (m12 : Mem) (m13 : Mem) (m14 : Mem) (m15 : Mem) (m16 : Mem) (a1 : Int32) (a2 : Int32) (t : Int32 × Mem) (ht : f_X6_coupleOf m0 m1 a1 a2 = some t) : XMet l yX6_coupleOf cX6_coupleOf 3 (some .int) 3 0 0 [.ref 0, .int a1, .int a2] SH_X [m0, m1, m2, m3, m4, m5, m6, m7, m8, m9, m10, m11, m12, m13, m14, m15, m16] SH_X (some (.int t.1), [t.2, m1, m2, m3, m4, m5, m6, m7, m8, m9, m10, m11, m12, m13, m14, m15, m16]) := XMet.of (by decide +kernel) (fun _ => Nat.le_of_ble_eq_true rfl) (fun B => xe_X6_coupleOf B m0 m1 m2 m3 m4 m5 m6 m7 m8 m9 m10 m11 m12 m13 m14 m15 m16 a1 a2) (by rw [ht]; rfl)
/-! X6_order: EveryTwentyMinutes.order(I)I in world X at (0,) -/
abbrev M_X6_order : XM := (RX6, cX6_order, 2, (some .int), "order", 2, 0, 0)
def f_X6_order (m0 : Mem) (m1 : Mem) (a1 : Int32) : Option (Int32 × Mem) :=
  if 0 ≤ a1 then
    if (m1 0 8) ≤ a1 then
      some (((-9) : Int32), m0)
    else
      ck (inb a1 7) <|
      some ((m1 7 (ix a1)), m0)
  else
    (f_X6_refused m0 (-4)).bind fun t2 =>
    some (t2.1, t2.2)
set_option maxRecDepth 100000 in
theorem xe_X6_order (B : XB) (m0 : Mem) (m1 : Mem) (m2 : Mem) (m3 : Mem) (m4 : Mem) (m5 : Mem) (m6 : Mem) (m7 : Mem) (m8 : Mem) (m9 : Mem) (m10 : Mem) (m11 : Mem) (m12 : Mem) (m13 : Mem) (m14 : Mem) (m15 : Mem) (m16 : Mem) (a1 : Int32) : XE B M_X6_order (XQm B 0 0 SH_X) 0 [(0, some (.ref 0)), (1, some (.int a1))] [] (0, 0) SH_X [m0, m1, m2, m3, m4, m5, m6, m7, m8, m9, m10, m11, m12, m13, m14, m15, m16] (fun t => some (some (.int t.1), [t.2, m1, m2, m3, m4, m5, m6, m7, m8, m9, m10, m11, m12, m13, m14, m15, m16])) (f_X6_order m0 m1 a1) := by
  unfold f_X6_order
  refine XE_iload_n (n := 1) dX6_order_0 rfl rfl rfl ?_
  refine XE_if_ge (t := 11) (n := 4) dX6_order_1 rfl rfl (fun h3 => ?_) (fun h3 => ?_)
  · refine XE_iload_n (n := 12) dX6_order_11 rfl rfl rfl ?_
    refine XE_aload_n (n := 13) dX6_order_12 rfl rfl rfl ?_
    refine XE_getr (b := 64) (n := 16) xf_X6_10 rfl rfl dX6_order_13 rfl ?_
    refine XE_getf (v := m1 0 8) (n := 19) xf_X6_125 rfl rfl rfl dX6_order_16 rfl ?_
    refine XE_icmp_ge (t := 34) (n := 22) dX6_order_19 rfl rfl (fun h1 => ?_) (fun h1 => ?_)
    · refine XE_bipush (v := (-9)) (n := 36) dX6_order_34 rfl (by decide) ?_
      exact XE_ireturn rfl dX6_order_36 rfl (Nat.le_refl _) (Nat.le_refl _)
    · refine XE_aload_n (n := 23) dX6_order_22 rfl rfl rfl ?_
      refine XE_getr (b := 64) (n := 26) xf_X6_10 rfl rfl dX6_order_23 rfl ?_
      refine XE_getr (b := 71) (n := 29) xf_X6_128 rfl rfl dX6_order_26 rfl ?_
      refine XE_iload_n (n := 30) dX6_order_29 rfl rfl rfl ?_
      refine XE_iald (row := m1 7) (n := 31) rfl rfl dX6_order_30 rfl ?_
      refine XE_goto (n := 36) dX6_order_31 rfl ?_
      exact XE_ireturn rfl dX6_order_36 rfl (Nat.le_refl _) (Nat.le_refl _)
  · refine XE_aload_n (n := 5) dX6_order_4 rfl rfl rfl ?_
    refine XE_bipush (v := (-4)) (n := 7) dX6_order_5 rfl (by decide) ?_
    refine XE_callVi (ni := 1) (As := [.int (-4)]) (st2 := fun t2 => [.int t2.1]) (n := 10) (b := 0) xc_X6_65 (fun l t ht => met_X6_refused l m0 m1 m2 m3 m4 m5 m6 m7 m8 m9 m10 m11 m12 m13 m14 m15 m16 (-4) t ht) rfl rfl rfl rfl dX6_order_7 (Nat.le_of_ble_eq_true rfl) ⟨Nat.zero_le _, Nat.zero_le _⟩ (Nat.le_of_ble_eq_true rfl) (Nat.le_of_ble_eq_true rfl) (fun _ => rfl) rfl (fun t2 => ?_)
    exact XE_ireturn rfl dX6_order_10 rfl (Nat.le_refl _) (Nat.le_refl _)
theorem met_X6_order (l : Launch) (m0 : Mem) (m1 : Mem) (m2 : Mem) (m3 : Mem) (m4 : Mem) (m5 : Mem) (m6 : Mem) (m7 : Mem) (m8 : Mem) (m9 : Mem) (m10 : Mem) (m11 : Mem) (m12 : Mem) (m13 : Mem) (m14 : Mem) (m15 : Mem) (m16 : Mem) (a1 : Int32) (t : Int32 × Mem) (ht : f_X6_order m0 m1 a1 = some t) : XMet l yX6_order cX6_order 2 (some .int) 2 0 0 [.ref 0, .int a1] SH_X [m0, m1, m2, m3, m4, m5, m6, m7, m8, m9, m10, m11, m12, m13, m14, m15, m16] SH_X (some (.int t.1), [t.2, m1, m2, m3, m4, m5, m6, m7, m8, m9, m10, m11, m12, m13, m14, m15, m16]) := XMet.of (by decide +kernel) (fun _ => Nat.le_of_ble_eq_true rfl) (fun B => xe_X6_order B m0 m1 m2 m3 m4 m5 m6 m7 m8 m9 m10 m11 m12 m13 m14 m15 m16 a1) (by rw [ht]; rfl)
/-! X6_free: EveryTwentyMinutes.free(I)I in world X at (0,) -/
abbrev M_X6_free : XM := (RX6, cX6_free, 2, (some .int), "free", 2, 0, 0)
def f_X6_free_J15 (m0 : Mem) : Option (Int32 × Mem) :=
  (f_X6_refused m0 (-2)).bind fun t1 =>
  some (t1.1, t1.2)
def f_X6_free (m0 : Mem) (m1 : Mem) (a1 : Int32) : Option (Int32 × Mem) :=
  if a1 < 0 then
    f_X6_free_J15 m0
  else
    if a1 < (m1 0 10) then
      ck (inb a1 2) <|
      some ((m1 8 (ix a1)), m0)
    else
      f_X6_free_J15 m0
set_option maxRecDepth 100000 in
theorem f_X6_free_J15_x (B : XB) (m0 : Mem) (m1 : Mem) (m2 : Mem) (m3 : Mem) (m4 : Mem) (m5 : Mem) (m6 : Mem) (m7 : Mem) (m8 : Mem) (m9 : Mem) (m10 : Mem) (m11 : Mem) (m12 : Mem) (m13 : Mem) (m14 : Mem) (m15 : Mem) (m16 : Mem) : XE B M_X6_free (XQm B 0 0 SH_X) 15 [(0, some (.ref 0))] [] (0, 0) SH_X [m0, m1, m2, m3, m4, m5, m6, m7, m8, m9, m10, m11, m12, m13, m14, m15, m16] (fun t => some (some (.int t.1), [t.2, m1, m2, m3, m4, m5, m6, m7, m8, m9, m10, m11, m12, m13, m14, m15, m16])) (f_X6_free_J15 m0) := by
  unfold f_X6_free_J15
  refine XE_aload_n (n := 16) dX6_free_15 rfl rfl rfl ?_
  refine XE_bipush (v := (-2)) (n := 18) dX6_free_16 rfl (by decide) ?_
  refine XE_callVi (ni := 1) (As := [.int (-2)]) (st2 := fun t1 => [.int t1.1]) (n := 21) (b := 0) xc_X6_65 (fun l t ht => met_X6_refused l m0 m1 m2 m3 m4 m5 m6 m7 m8 m9 m10 m11 m12 m13 m14 m15 m16 (-2) t ht) rfl rfl rfl rfl dX6_free_18 (Nat.le_of_ble_eq_true rfl) ⟨Nat.zero_le _, Nat.zero_le _⟩ (Nat.le_of_ble_eq_true rfl) (Nat.le_of_ble_eq_true rfl) (fun _ => rfl) rfl (fun t1 => ?_)
  exact XE_ireturn rfl dX6_free_21 rfl (Nat.le_refl _) (Nat.le_refl _)
set_option maxRecDepth 100000 in
theorem xe_X6_free (B : XB) (m0 : Mem) (m1 : Mem) (m2 : Mem) (m3 : Mem) (m4 : Mem) (m5 : Mem) (m6 : Mem) (m7 : Mem) (m8 : Mem) (m9 : Mem) (m10 : Mem) (m11 : Mem) (m12 : Mem) (m13 : Mem) (m14 : Mem) (m15 : Mem) (m16 : Mem) (a1 : Int32) : XE B M_X6_free (XQm B 0 0 SH_X) 0 [(0, some (.ref 0)), (1, some (.int a1))] [] (0, 0) SH_X [m0, m1, m2, m3, m4, m5, m6, m7, m8, m9, m10, m11, m12, m13, m14, m15, m16] (fun t => some (some (.int t.1), [t.2, m1, m2, m3, m4, m5, m6, m7, m8, m9, m10, m11, m12, m13, m14, m15, m16])) (f_X6_free m0 m1 a1) := by
  unfold f_X6_free
  refine XE_iload_n (n := 1) dX6_free_0 rfl rfl rfl ?_
  refine XE_if_lt (t := 15) (n := 4) dX6_free_1 rfl rfl (fun h3 => ?_) (fun h3 => ?_)
  · refine XE_ls (x_sub_ok (ls' := [(0, some (.ref 0))]) ⟨rfl, trivial⟩) ?_
    exact f_X6_free_J15_x B m0 m1 m2 m3 m4 m5 m6 m7 m8 m9 m10 m11 m12 m13 m14 m15 m16
  · refine XE_iload_n (n := 5) dX6_free_4 rfl rfl rfl ?_
    refine XE_aload_n (n := 6) dX6_free_5 rfl rfl rfl ?_
    refine XE_getr (b := 64) (n := 9) xf_X6_10 rfl rfl dX6_free_6 rfl ?_
    refine XE_getf (v := m1 0 10) (n := 12) xf_X6_131 rfl rfl rfl dX6_free_9 rfl ?_
    refine XE_icmp_lt (t := 22) (n := 15) dX6_free_12 rfl rfl (fun h2 => ?_) (fun h2 => ?_)
    · refine XE_aload_n (n := 23) dX6_free_22 rfl rfl rfl ?_
      refine XE_getr (b := 64) (n := 26) xf_X6_10 rfl rfl dX6_free_23 rfl ?_
      refine XE_getr (b := 72) (n := 29) xf_X6_134 rfl rfl dX6_free_26 rfl ?_
      refine XE_iload_n (n := 30) dX6_free_29 rfl rfl rfl ?_
      refine XE_iald (row := m1 8) (n := 31) rfl rfl dX6_free_30 rfl ?_
      exact XE_ireturn rfl dX6_free_31 rfl (Nat.le_refl _) (Nat.le_refl _)
    · refine XE_ls (x_sub_ok (ls' := [(0, some (.ref 0))]) ⟨rfl, trivial⟩) ?_
      exact f_X6_free_J15_x B m0 m1 m2 m3 m4 m5 m6 m7 m8 m9 m10 m11 m12 m13 m14 m15 m16
theorem met_X6_free (l : Launch) (m0 : Mem) (m1 : Mem) (m2 : Mem) (m3 : Mem) (m4 : Mem) (m5 : Mem) (m6 : Mem) (m7 : Mem) (m8 : Mem) (m9 : Mem) (m10 : Mem) (m11 : Mem) (m12 : Mem) (m13 : Mem) (m14 : Mem) (m15 : Mem) (m16 : Mem) (a1 : Int32) (t : Int32 × Mem) (ht : f_X6_free m0 m1 a1 = some t) : XMet l yX6_free cX6_free 2 (some .int) 2 0 0 [.ref 0, .int a1] SH_X [m0, m1, m2, m3, m4, m5, m6, m7, m8, m9, m10, m11, m12, m13, m14, m15, m16] SH_X (some (.int t.1), [t.2, m1, m2, m3, m4, m5, m6, m7, m8, m9, m10, m11, m12, m13, m14, m15, m16]) := XMet.of (by decide +kernel) (fun _ => Nat.le_of_ble_eq_true rfl) (fun B => xe_X6_free B m0 m1 m2 m3 m4 m5 m6 m7 m8 m9 m10 m11 m12 m13 m14 m15 m16 a1) (by rw [ht]; rfl)
/-! X6_couple: EveryTwentyMinutes.couple(III)I in world X at (0,) -/
abbrev M_X6_couple : XM := (RX6, cX6_couple, 4, (some .int), "couple", 3, 0, 0)
def f_X6_couple_J22 (m0 : Mem) (m1 : Mem) (m4 : Mem) : Option (Int32 × Mem × Mem × Mem) :=
  (f_X6_refused m0 (-4)).bind fun t2 =>
  some (t2.1, t2.2, m1, m4)
def f_X6_couple_J52 (m0 : Mem) (m1 : Mem) (m4 : Mem) : Option (Int32 × Mem × Mem × Mem) :=
  (f_X6_refused m0 (-6)).bind fun t3 =>
  some (t3.1, t3.2, m1, m4)
def f_X6_couple (m0 : Mem) (m1 : Mem) (m4 : Mem) (a1 : Int32) (a2 : Int32) (a3 : Int32) : Option (Int32 × Mem × Mem × Mem) :=
  (f_X3_isOne a1).bind fun t1 =>
  if t1 = 0 then
    (f_X6_refused m0 (-2)).bind fun t12 =>
    some (t12.1, t12.2, m1, m4)
  else
    if a2 < 0 then
      f_X6_couple_J22 m0 m1 m4
    else
      if 0 ≤ a3 then
        if 9 < a2 then
          f_X6_couple_J52 m0 m1 m4
        else
          if 240 < a3 then
            f_X6_couple_J52 m0 m1 m4
          else
            (f_X2_isFull m1).bind fun t4 =>
            if t4 = 0 then
              (f_X2_add m1 a1 a2 a3).bind fun t5 =>
              (f_X5_forget m4).bind fun t6 =>
              some (((t5 0 0) - 1), m0, t5, t6)
            else
              f_X6_couple_J52 m0 m1 m4
      else
        f_X6_couple_J22 m0 m1 m4
set_option maxRecDepth 100000 in
theorem f_X6_couple_J22_x (B : XB) (m0 : Mem) (m1 : Mem) (m2 : Mem) (m3 : Mem) (m4 : Mem) (m5 : Mem) (m6 : Mem) (m7 : Mem) (m8 : Mem) (m9 : Mem) (m10 : Mem) (m11 : Mem) (m12 : Mem) (m13 : Mem) (m14 : Mem) (m15 : Mem) (m16 : Mem) : XE B M_X6_couple (XQm B 0 0 SH_X) 22 [(0, some (.ref 0))] [] (0, 0) SH_X [m0, m1, m2, m3, m4, m5, m6, m7, m8, m9, m10, m11, m12, m13, m14, m15, m16] (fun t => some (some (.int t.1), [t.2.1, t.2.2.1, m2, m3, t.2.2.2, m5, m6, m7, m8, m9, m10, m11, m12, m13, m14, m15, m16])) (f_X6_couple_J22 m0 m1 m4) := by
  unfold f_X6_couple_J22
  refine XE_aload_n (n := 23) dX6_couple_22 rfl rfl rfl ?_
  refine XE_bipush (v := (-4)) (n := 25) dX6_couple_23 rfl (by decide) ?_
  refine XE_callVi (ni := 1) (As := [.int (-4)]) (st2 := fun t2 => [.int t2.1]) (n := 28) (b := 0) xc_X6_65 (fun l t ht => met_X6_refused l m0 m1 m2 m3 m4 m5 m6 m7 m8 m9 m10 m11 m12 m13 m14 m15 m16 (-4) t ht) rfl rfl rfl rfl dX6_couple_25 (Nat.le_of_ble_eq_true rfl) ⟨Nat.zero_le _, Nat.zero_le _⟩ (Nat.le_of_ble_eq_true rfl) (Nat.le_of_ble_eq_true rfl) (fun _ => rfl) rfl (fun t2 => ?_)
  exact XE_ireturn rfl dX6_couple_28 rfl (Nat.le_refl _) (Nat.le_refl _)
set_option maxRecDepth 100000 in
theorem f_X6_couple_J52_x (B : XB) (m0 : Mem) (m1 : Mem) (m2 : Mem) (m3 : Mem) (m4 : Mem) (m5 : Mem) (m6 : Mem) (m7 : Mem) (m8 : Mem) (m9 : Mem) (m10 : Mem) (m11 : Mem) (m12 : Mem) (m13 : Mem) (m14 : Mem) (m15 : Mem) (m16 : Mem) : XE B M_X6_couple (XQm B 0 0 SH_X) 52 [(0, some (.ref 0))] [] (0, 0) SH_X [m0, m1, m2, m3, m4, m5, m6, m7, m8, m9, m10, m11, m12, m13, m14, m15, m16] (fun t => some (some (.int t.1), [t.2.1, t.2.2.1, m2, m3, t.2.2.2, m5, m6, m7, m8, m9, m10, m11, m12, m13, m14, m15, m16])) (f_X6_couple_J52 m0 m1 m4) := by
  unfold f_X6_couple_J52
  refine XE_aload_n (n := 53) dX6_couple_52 rfl rfl rfl ?_
  refine XE_bipush (v := (-6)) (n := 55) dX6_couple_53 rfl (by decide) ?_
  refine XE_callVi (ni := 1) (As := [.int (-6)]) (st2 := fun t3 => [.int t3.1]) (n := 58) (b := 0) xc_X6_65 (fun l t ht => met_X6_refused l m0 m1 m2 m3 m4 m5 m6 m7 m8 m9 m10 m11 m12 m13 m14 m15 m16 (-6) t ht) rfl rfl rfl rfl dX6_couple_55 (Nat.le_of_ble_eq_true rfl) ⟨Nat.zero_le _, Nat.zero_le _⟩ (Nat.le_of_ble_eq_true rfl) (Nat.le_of_ble_eq_true rfl) (fun _ => rfl) rfl (fun t3 => ?_)
  exact XE_ireturn rfl dX6_couple_58 rfl (Nat.le_refl _) (Nat.le_refl _)
set_option maxRecDepth 100000 in
theorem xe_X6_couple (B : XB) (m0 : Mem) (m1 : Mem) (m2 : Mem) (m3 : Mem) (m4 : Mem) (m5 : Mem) (m6 : Mem) (m7 : Mem) (m8 : Mem) (m9 : Mem) (m10 : Mem) (m11 : Mem) (m12 : Mem) (m13 : Mem) (m14 : Mem) (m15 : Mem) (m16 : Mem) (a1 : Int32) (a2 : Int32) (a3 : Int32) : XE B M_X6_couple (XQm B 0 0 SH_X) 0 [(0, some (.ref 0)), (1, some (.int a1)), (2, some (.int a2)), (3, some (.int a3))] [] (0, 0) SH_X [m0, m1, m2, m3, m4, m5, m6, m7, m8, m9, m10, m11, m12, m13, m14, m15, m16] (fun t => some (some (.int t.1), [t.2.1, t.2.2.1, m2, m3, t.2.2.2, m5, m6, m7, m8, m9, m10, m11, m12, m13, m14, m15, m16])) (f_X6_couple m0 m1 m4 a1 a2 a3) := by
  unfold f_X6_couple
  refine XE_iload_n (n := 1) dX6_couple_0 rfl rfl rfl ?_
  refine XE_callS (ni := 1) (As := [.int a1]) (π := []) (co := [0, 1, 2, 3, 4, 5, 6, 7, 8, 9, 10, 11, 12, 13, 14, 15, 16]) (cv := [m0, m1, m2, m3, m4, m5, m6, m7, m8, m9, m10, m11, m12, m13, m14, m15, m16]) (nn := 17) (hs2 := fun t1 => [m0, m1, m2, m3, m4, m5, m6, m7, m8, m9, m10, m11, m12, m13, m14, m15, m16]) (st2 := fun t1 => [.int t1]) (n := 4) xc_X6_137 (fun l t ht => met_X3_isOne l a1 t ht) rfl rfl rfl dX6_couple_1 (Nat.le_of_ble_eq_true rfl) ⟨Nat.zero_le _, Nat.zero_le _⟩ (Nat.le_of_ble_eq_true rfl) (Nat.le_of_ble_eq_true rfl) ok_33 rfl rfl rfl (fun _ => rfl) (fun _ => rfl) (fun _ => rfl) rfl (fun _ => rfl) rfl (fun t1 => ?_)
  refine XE_if_ne (t := 14) (n := 7) dX6_couple_4 rfl rfl (fun h13 => ?_) (fun h13 => ?_)
  · refine XE_aload_n (n := 8) dX6_couple_7 rfl rfl rfl ?_
    refine XE_bipush (v := (-2)) (n := 10) dX6_couple_8 rfl (by decide) ?_
    refine XE_callVi (ni := 1) (As := [.int (-2)]) (st2 := fun t12 => [.int t12.1]) (n := 13) (b := 0) xc_X6_65 (fun l t ht => met_X6_refused l m0 m1 m2 m3 m4 m5 m6 m7 m8 m9 m10 m11 m12 m13 m14 m15 m16 (-2) t ht) rfl rfl rfl rfl dX6_couple_10 (Nat.le_of_ble_eq_true rfl) ⟨Nat.zero_le _, Nat.zero_le _⟩ (Nat.le_of_ble_eq_true rfl) (Nat.le_of_ble_eq_true rfl) (fun _ => rfl) rfl (fun t12 => ?_)
    exact XE_ireturn rfl dX6_couple_13 rfl (Nat.le_refl _) (Nat.le_refl _)
  · refine XE_iload_n (n := 15) dX6_couple_14 rfl rfl rfl ?_
    refine XE_if_lt (t := 22) (n := 18) dX6_couple_15 rfl rfl (fun h11 => ?_) (fun h11 => ?_)
    · refine XE_ls (x_sub_ok (ls' := [(0, some (.ref 0))]) ⟨rfl, trivial⟩) ?_
      exact f_X6_couple_J22_x B m0 m1 m2 m3 m4 m5 m6 m7 m8 m9 m10 m11 m12 m13 m14 m15 m16
    · refine XE_iload_n (n := 19) dX6_couple_18 rfl rfl rfl ?_
      refine XE_if_ge (t := 29) (n := 22) dX6_couple_19 rfl rfl (fun h10 => ?_) (fun h10 => ?_)
      · refine XE_iload_n (n := 30) dX6_couple_29 rfl rfl rfl ?_
        refine XE_bipush (v := 9) (n := 32) dX6_couple_30 rfl (by decide) ?_
        refine XE_icmp_gt (t := 52) (n := 35) dX6_couple_32 rfl rfl (fun h9 => ?_) (fun h9 => ?_)
        · refine XE_ls (x_sub_ok (ls' := [(0, some (.ref 0))]) ⟨rfl, trivial⟩) ?_
          exact f_X6_couple_J52_x B m0 m1 m2 m3 m4 m5 m6 m7 m8 m9 m10 m11 m12 m13 m14 m15 m16
        · refine XE_iload_n (n := 36) dX6_couple_35 rfl rfl rfl ?_
          refine XE_sipush (v := 240) (n := 39) dX6_couple_36 rfl (by decide) ?_
          refine XE_icmp_gt (t := 52) (n := 42) dX6_couple_39 rfl rfl (fun h8 => ?_) (fun h8 => ?_)
          · refine XE_ls (x_sub_ok (ls' := [(0, some (.ref 0))]) ⟨rfl, trivial⟩) ?_
            exact f_X6_couple_J52_x B m0 m1 m2 m3 m4 m5 m6 m7 m8 m9 m10 m11 m12 m13 m14 m15 m16
          · refine XE_aload_n (n := 43) dX6_couple_42 rfl rfl rfl ?_
            refine XE_getr (b := 64) (n := 46) xf_X6_10 rfl rfl dX6_couple_43 rfl ?_
            refine XE_callV (ni := 0) (As := []) (π := [1]) (co := [0, 2, 3, 4, 5, 6, 7, 8, 9, 10, 11, 12, 13, 14, 15, 16]) (cv := [m0, m2, m3, m4, m5, m6, m7, m8, m9, m10, m11, m12, m13, m14, m15, m16]) (nn := 17) (hs2 := fun t4 => [m0, m1, m2, m3, m4, m5, m6, m7, m8, m9, m10, m11, m12, m13, m14, m15, m16]) (st2 := fun t4 => [.int t4]) (n := 49) (b := 64) xc_X6_140 (fun l t ht => met_X2_isFull l m1 t ht) rfl rfl rfl rfl rfl dX6_couple_46 (Nat.le_of_ble_eq_true rfl) ⟨Nat.zero_le _, Nat.zero_le _⟩ (Nat.le_of_ble_eq_true rfl) (Nat.le_of_ble_eq_true rfl) ok_32 rfl rfl rfl (fun _ => rfl) (fun _ => rfl) (fun _ => rfl) rfl (fun _ => rfl) rfl (fun t4 => ?_)
            refine XE_if_eq (t := 59) (n := 52) dX6_couple_49 rfl rfl (fun h7 => ?_) (fun h7 => ?_)
            · refine XE_aload_n (n := 60) dX6_couple_59 rfl rfl rfl ?_
              refine XE_getr (b := 64) (n := 63) xf_X6_10 rfl rfl dX6_couple_60 rfl ?_
              refine XE_iload_n (n := 64) dX6_couple_63 rfl rfl rfl ?_
              refine XE_iload_n (n := 65) dX6_couple_64 rfl rfl rfl ?_
              refine XE_iload_n (n := 66) dX6_couple_65 rfl rfl rfl ?_
              refine XE_callV (ni := 3) (As := [.int a1, .int a2, .int a3]) (π := [1]) (co := [0, 2, 3, 4, 5, 6, 7, 8, 9, 10, 11, 12, 13, 14, 15, 16]) (cv := [m0, m2, m3, m4, m5, m6, m7, m8, m9, m10, m11, m12, m13, m14, m15, m16]) (nn := 17) (hs2 := fun t5 => [m0, t5, m2, m3, m4, m5, m6, m7, m8, m9, m10, m11, m12, m13, m14, m15, m16]) (st2 := fun t5 => []) (n := 69) (b := 64) xc_X6_144 (fun l t ht => met_X2_add l m1 a1 a2 a3 t ht) rfl rfl rfl rfl rfl dX6_couple_66 (Nat.le_of_ble_eq_true rfl) ⟨Nat.zero_le _, Nat.zero_le _⟩ (Nat.le_of_ble_eq_true rfl) (Nat.le_of_ble_eq_true rfl) ok_32 rfl rfl rfl (fun _ => rfl) (fun _ => rfl) (fun _ => rfl) rfl (fun _ => rfl) rfl (fun t5 => ?_)
              refine XE_aload_n (n := 70) dX6_couple_69 rfl rfl rfl ?_
              refine XE_getr (b := 256) (n := 73) xf_X6_29 rfl rfl dX6_couple_70 rfl ?_
              refine XE_callV (ni := 0) (As := []) (π := [4, 5, 6, 7, 8, 9, 10, 11, 12]) (co := [0, 1, 2, 3, 13, 14, 15, 16]) (cv := [m0, t5, m2, m3, m13, m14, m15, m16]) (nn := 17) (hs2 := fun t6 => [m0, t5, m2, m3, t6, m5, m6, m7, m8, m9, m10, m11, m12, m13, m14, m15, m16]) (st2 := fun t6 => []) (n := 76) (b := 256) xc_X6_92 (fun l t ht => met_X5_forget l m4 m5 m6 m7 m8 m9 m10 m11 m12 t ht) rfl rfl rfl rfl rfl dX6_couple_73 (Nat.le_of_ble_eq_true rfl) ⟨Nat.zero_le _, Nat.zero_le _⟩ (Nat.le_of_ble_eq_true rfl) (Nat.le_of_ble_eq_true rfl) ok_31 rfl rfl rfl (fun _ => rfl) (fun _ => rfl) (fun _ => rfl) rfl (fun _ => rfl) rfl (fun t6 => ?_)
              refine XE_aload_n (n := 77) dX6_couple_76 rfl rfl rfl ?_
              refine XE_getr (b := 64) (n := 80) xf_X6_10 rfl rfl dX6_couple_77 rfl ?_
              refine XE_getf (v := t5 0 0) (n := 83) xf_X6_148 rfl rfl rfl dX6_couple_80 rfl ?_
              refine XE_iconst (v := 1) (n := 84) dX6_couple_83 rfl (by decide) ?_
              refine XE_isub (n := 85) dX6_couple_84 rfl ?_
              exact XE_ireturn rfl dX6_couple_85 rfl (Nat.le_refl _) (Nat.le_refl _)
            · refine XE_ls (x_sub_ok (ls' := [(0, some (.ref 0))]) ⟨rfl, trivial⟩) ?_
              exact f_X6_couple_J52_x B m0 m1 m2 m3 m4 m5 m6 m7 m8 m9 m10 m11 m12 m13 m14 m15 m16
      · refine XE_ls (x_sub_ok (ls' := [(0, some (.ref 0))]) ⟨rfl, trivial⟩) ?_
        exact f_X6_couple_J22_x B m0 m1 m2 m3 m4 m5 m6 m7 m8 m9 m10 m11 m12 m13 m14 m15 m16
theorem met_X6_couple (l : Launch) (m0 : Mem) (m1 : Mem) (m2 : Mem) (m3 : Mem) (m4 : Mem) (m5 : Mem) (m6 : Mem) (m7 : Mem) (m8 : Mem) (m9 : Mem) (m10 : Mem) (m11 : Mem) (m12 : Mem) (m13 : Mem) (m14 : Mem) (m15 : Mem) (m16 : Mem) (a1 : Int32) (a2 : Int32) (a3 : Int32) (t : Int32 × Mem × Mem × Mem) (ht : f_X6_couple m0 m1 m4 a1 a2 a3 = some t) : XMet l yX6_couple cX6_couple 4 (some .int) 3 0 0 [.ref 0, .int a1, .int a2, .int a3] SH_X [m0, m1, m2, m3, m4, m5, m6, m7, m8, m9, m10, m11, m12, m13, m14, m15, m16] SH_X (some (.int t.1), [t.2.1, t.2.2.1, m2, m3, t.2.2.2, m5, m6, m7, m8, m9, m10, m11, m12, m13, m14, m15, m16]) := XMet.of (by decide +kernel) (fun _ => Nat.le_of_ble_eq_true rfl) (fun B => xe_X6_couple B m0 m1 m2 m3 m4 m5 m6 m7 m8 m9 m10 m11 m12 m13 m14 m15 m16 a1 a2 a3) (by rw [ht]; rfl)
/-! X6_rooms: EveryTwentyMinutes.rooms(I)I in world X at (0,) -/
abbrev M_X6_rooms : XM := (RX6, cX6_rooms, 3, (some .int), "rooms", 2, 0, 0)
def f_X6_rooms (m0 : Mem) (m1 : Mem) (m4 : Mem) (a1 : Int32) : Option (Int32 × Mem × Mem × Mem) :=
  if 1 ≤ a1 then
    if a1 ≤ 2 then
      lt (m1 0 10) fun v1 =>
      (f_X2_openRooms m1 a1).bind fun t2 =>
      (f_X5_forget m4).bind fun t3 =>
      some (v1, m0, t2, t3)
    else
      (f_X6_refused m0 (-6)).bind fun t4 =>
      some (t4.1, t4.2, m1, m4)
  else
    (f_X6_refused m0 (-4)).bind fun t6 =>
    some (t6.1, t6.2, m1, m4)
set_option maxRecDepth 100000 in
theorem xe_X6_rooms (B : XB) (m0 : Mem) (m1 : Mem) (m2 : Mem) (m3 : Mem) (m4 : Mem) (m5 : Mem) (m6 : Mem) (m7 : Mem) (m8 : Mem) (m9 : Mem) (m10 : Mem) (m11 : Mem) (m12 : Mem) (m13 : Mem) (m14 : Mem) (m15 : Mem) (m16 : Mem) (a1 : Int32) : XE B M_X6_rooms (XQm B 0 0 SH_X) 0 [(0, some (.ref 0)), (1, some (.int a1))] [] (0, 0) SH_X [m0, m1, m2, m3, m4, m5, m6, m7, m8, m9, m10, m11, m12, m13, m14, m15, m16] (fun t => some (some (.int t.1), [t.2.1, t.2.2.1, m2, m3, t.2.2.2, m5, m6, m7, m8, m9, m10, m11, m12, m13, m14, m15, m16])) (f_X6_rooms m0 m1 m4 a1) := by
  unfold f_X6_rooms
  refine XE_iload_n (n := 1) dX6_rooms_0 rfl rfl rfl ?_
  refine XE_iconst (v := 1) (n := 2) dX6_rooms_1 rfl (by decide) ?_
  refine XE_icmp_ge (t := 12) (n := 5) dX6_rooms_2 rfl rfl (fun h7 => ?_) (fun h7 => ?_)
  · refine XE_iload_n (n := 13) dX6_rooms_12 rfl rfl rfl ?_
    refine XE_iconst (v := 2) (n := 14) dX6_rooms_13 rfl (by decide) ?_
    refine XE_icmp_le (t := 24) (n := 17) dX6_rooms_14 rfl rfl (fun h5 => ?_) (fun h5 => ?_)
    · refine XE_aload_n (n := 25) dX6_rooms_24 rfl rfl rfl ?_
      refine XE_getr (b := 64) (n := 28) xf_X6_10 rfl rfl dX6_rooms_25 rfl ?_
      refine XE_getf (v := m1 0 10) (n := 31) xf_X6_131 rfl rfl rfl dX6_rooms_28 rfl ?_
      refine XE_topi (fun v1 => ?_)
      refine XE_istore_n (i := 2) (n := 32) dX6_rooms_31 rfl rfl (Nat.le_of_ble_eq_true rfl) rfl ?_
      refine XE_aload_n (n := 33) dX6_rooms_32 rfl rfl rfl ?_
      refine XE_getr (b := 64) (n := 36) xf_X6_10 rfl rfl dX6_rooms_33 rfl ?_
      refine XE_iload_n (n := 37) dX6_rooms_36 rfl rfl rfl ?_
      refine XE_callV (ni := 1) (As := [.int a1]) (π := [1]) (co := [0, 2, 3, 4, 5, 6, 7, 8, 9, 10, 11, 12, 13, 14, 15, 16]) (cv := [m0, m2, m3, m4, m5, m6, m7, m8, m9, m10, m11, m12, m13, m14, m15, m16]) (nn := 17) (hs2 := fun t2 => [m0, t2, m2, m3, m4, m5, m6, m7, m8, m9, m10, m11, m12, m13, m14, m15, m16]) (st2 := fun t2 => []) (n := 40) (b := 64) xc_X6_151 (fun l t ht => met_X2_openRooms l m1 a1 t ht) rfl rfl rfl rfl rfl dX6_rooms_37 (Nat.le_of_ble_eq_true rfl) ⟨Nat.zero_le _, Nat.zero_le _⟩ (Nat.le_of_ble_eq_true rfl) (Nat.le_of_ble_eq_true rfl) ok_32 rfl rfl rfl (fun _ => rfl) (fun _ => rfl) (fun _ => rfl) rfl (fun _ => rfl) rfl (fun t2 => ?_)
      refine XE_aload_n (n := 41) dX6_rooms_40 rfl rfl rfl ?_
      refine XE_getr (b := 256) (n := 44) xf_X6_29 rfl rfl dX6_rooms_41 rfl ?_
      refine XE_callV (ni := 0) (As := []) (π := [4, 5, 6, 7, 8, 9, 10, 11, 12]) (co := [0, 1, 2, 3, 13, 14, 15, 16]) (cv := [m0, t2, m2, m3, m13, m14, m15, m16]) (nn := 17) (hs2 := fun t3 => [m0, t2, m2, m3, t3, m5, m6, m7, m8, m9, m10, m11, m12, m13, m14, m15, m16]) (st2 := fun t3 => []) (n := 47) (b := 256) xc_X6_92 (fun l t ht => met_X5_forget l m4 m5 m6 m7 m8 m9 m10 m11 m12 t ht) rfl rfl rfl rfl rfl dX6_rooms_44 (Nat.le_of_ble_eq_true rfl) ⟨Nat.zero_le _, Nat.zero_le _⟩ (Nat.le_of_ble_eq_true rfl) (Nat.le_of_ble_eq_true rfl) ok_31 rfl rfl rfl (fun _ => rfl) (fun _ => rfl) (fun _ => rfl) rfl (fun _ => rfl) rfl (fun t3 => ?_)
      refine XE_iload_n (n := 48) dX6_rooms_47 rfl rfl rfl ?_
      exact XE_ireturn rfl dX6_rooms_48 rfl (Nat.le_refl _) (Nat.le_refl _)
    · refine XE_aload_n (n := 18) dX6_rooms_17 rfl rfl rfl ?_
      refine XE_bipush (v := (-6)) (n := 20) dX6_rooms_18 rfl (by decide) ?_
      refine XE_callVi (ni := 1) (As := [.int (-6)]) (st2 := fun t4 => [.int t4.1]) (n := 23) (b := 0) xc_X6_65 (fun l t ht => met_X6_refused l m0 m1 m2 m3 m4 m5 m6 m7 m8 m9 m10 m11 m12 m13 m14 m15 m16 (-6) t ht) rfl rfl rfl rfl dX6_rooms_20 (Nat.le_of_ble_eq_true rfl) ⟨Nat.zero_le _, Nat.zero_le _⟩ (Nat.le_of_ble_eq_true rfl) (Nat.le_of_ble_eq_true rfl) (fun _ => rfl) rfl (fun t4 => ?_)
      exact XE_ireturn rfl dX6_rooms_23 rfl (Nat.le_refl _) (Nat.le_refl _)
  · refine XE_aload_n (n := 6) dX6_rooms_5 rfl rfl rfl ?_
    refine XE_bipush (v := (-4)) (n := 8) dX6_rooms_6 rfl (by decide) ?_
    refine XE_callVi (ni := 1) (As := [.int (-4)]) (st2 := fun t6 => [.int t6.1]) (n := 11) (b := 0) xc_X6_65 (fun l t ht => met_X6_refused l m0 m1 m2 m3 m4 m5 m6 m7 m8 m9 m10 m11 m12 m13 m14 m15 m16 (-4) t ht) rfl rfl rfl rfl dX6_rooms_8 (Nat.le_of_ble_eq_true rfl) ⟨Nat.zero_le _, Nat.zero_le _⟩ (Nat.le_of_ble_eq_true rfl) (Nat.le_of_ble_eq_true rfl) (fun _ => rfl) rfl (fun t6 => ?_)
    exact XE_ireturn rfl dX6_rooms_11 rfl (Nat.le_refl _) (Nat.le_refl _)
theorem met_X6_rooms (l : Launch) (m0 : Mem) (m1 : Mem) (m2 : Mem) (m3 : Mem) (m4 : Mem) (m5 : Mem) (m6 : Mem) (m7 : Mem) (m8 : Mem) (m9 : Mem) (m10 : Mem) (m11 : Mem) (m12 : Mem) (m13 : Mem) (m14 : Mem) (m15 : Mem) (m16 : Mem) (a1 : Int32) (t : Int32 × Mem × Mem × Mem) (ht : f_X6_rooms m0 m1 m4 a1 = some t) : XMet l yX6_rooms cX6_rooms 3 (some .int) 2 0 0 [.ref 0, .int a1] SH_X [m0, m1, m2, m3, m4, m5, m6, m7, m8, m9, m10, m11, m12, m13, m14, m15, m16] SH_X (some (.int t.1), [t.2.1, t.2.2.1, m2, m3, t.2.2.2, m5, m6, m7, m8, m9, m10, m11, m12, m13, m14, m15, m16]) := XMet.of (by decide +kernel) (fun _ => Nat.le_of_ble_eq_true rfl) (fun B => xe_X6_rooms B m0 m1 m2 m3 m4 m5 m6 m7 m8 m9 m10 m11 m12 m13 m14 m15 m16 a1) (by rw [ht]; rfl)
set_option maxRecDepth 100000 in
theorem ok_34 : x_okc [4, 5, 6, 7, 8, 9, 10, 11, 12, 1] SH_PH SH_X = true := by decide +kernel
/-! X6_weds: EveryTwentyMinutes.weds(I)I in world X at (0,) -/
abbrev M_X6_weds : XM := (RX6, cX6_weds, 3, (some .int), "weds", 5, 0, 0)
def f_X6_weds (m0 : Mem) (m1 : Mem) (m4 : Mem) (m5 : Mem) (m6 : Mem) (m7 : Mem) (m8 : Mem) (m9 : Mem) (m10 : Mem) (m11 : Mem) (m12 : Mem) (a1 : Int32) : Option (Int32 × Mem × Mem × Mem × Mem × Mem × Mem × Mem × Mem × Mem × Mem × Mem) :=
  if 1 ≤ a1 then
    if a1 ≤ 7 then
      if a1 ≤ (m1 0 8) then
        (f_X5_keep m4 m5 m6 m7 m8 m9 m10 m11 m12 m1).bind fun t1 =>
        ck (inb (a1 - 1) 7) <|
        lt (m1 7 (ix (a1 - 1))) fun v2 =>
        (f_X2_wedSome m1 a1).bind fun t3 =>
        ck (inb v2 7) <|
        some ((t3 5 (ix v2)), m0, t3, t1.1, t1.2.1, t1.2.2.1, t1.2.2.2.1, t1.2.2.2.2.1, t1.2.2.2.2.2.1, t1.2.2.2.2.2.2.1, t1.2.2.2.2.2.2.2.1, t1.2.2.2.2.2.2.2.2)
      else
        (f_X6_refused m0 (-3)).bind fun t4 =>
        some (t4.1, t4.2, m1, m4, m5, m6, m7, m8, m9, m10, m11, m12)
    else
      (f_X6_refused m0 (-6)).bind fun t6 =>
      some (t6.1, t6.2, m1, m4, m5, m6, m7, m8, m9, m10, m11, m12)
  else
    (f_X6_refused m0 (-4)).bind fun t8 =>
    some (t8.1, t8.2, m1, m4, m5, m6, m7, m8, m9, m10, m11, m12)
set_option maxRecDepth 100000 in
theorem xe_X6_weds (B : XB) (m0 : Mem) (m1 : Mem) (m2 : Mem) (m3 : Mem) (m4 : Mem) (m5 : Mem) (m6 : Mem) (m7 : Mem) (m8 : Mem) (m9 : Mem) (m10 : Mem) (m11 : Mem) (m12 : Mem) (m13 : Mem) (m14 : Mem) (m15 : Mem) (m16 : Mem) (a1 : Int32) : XE B M_X6_weds (XQm B 0 0 SH_X) 0 [(0, some (.ref 0)), (1, some (.int a1))] [] (0, 0) SH_X [m0, m1, m2, m3, m4, m5, m6, m7, m8, m9, m10, m11, m12, m13, m14, m15, m16] (fun t => some (some (.int t.1), [t.2.1, t.2.2.1, m2, m3, t.2.2.2.1, t.2.2.2.2.1, t.2.2.2.2.2.1, t.2.2.2.2.2.2.1, t.2.2.2.2.2.2.2.1, t.2.2.2.2.2.2.2.2.1, t.2.2.2.2.2.2.2.2.2.1, t.2.2.2.2.2.2.2.2.2.2.1, t.2.2.2.2.2.2.2.2.2.2.2, m13, m14, m15, m16])) (f_X6_weds m0 m1 m4 m5 m6 m7 m8 m9 m10 m11 m12 a1) := by
  unfold f_X6_weds
  refine XE_iload_n (n := 1) dX6_weds_0 rfl rfl rfl ?_
  refine XE_iconst (v := 1) (n := 2) dX6_weds_1 rfl (by decide) ?_
  refine XE_icmp_ge (t := 12) (n := 5) dX6_weds_2 rfl rfl (fun h9 => ?_) (fun h9 => ?_)
  · refine XE_iload_n (n := 13) dX6_weds_12 rfl rfl rfl ?_
    refine XE_bipush (v := 7) (n := 15) dX6_weds_13 rfl (by decide) ?_
    refine XE_icmp_le (t := 25) (n := 18) dX6_weds_15 rfl rfl (fun h7 => ?_) (fun h7 => ?_)
    · refine XE_iload_n (n := 26) dX6_weds_25 rfl rfl rfl ?_
      refine XE_aload_n (n := 27) dX6_weds_26 rfl rfl rfl ?_
      refine XE_getr (b := 64) (n := 30) xf_X6_10 rfl rfl dX6_weds_27 rfl ?_
      refine XE_getf (v := m1 0 8) (n := 33) xf_X6_125 rfl rfl rfl dX6_weds_30 rfl ?_
      refine XE_icmp_le (t := 43) (n := 36) dX6_weds_33 rfl rfl (fun h5 => ?_) (fun h5 => ?_)
      · refine XE_aload_n (n := 44) dX6_weds_43 rfl rfl rfl ?_
        refine XE_getr (b := 256) (n := 47) xf_X6_29 rfl rfl dX6_weds_44 rfl ?_
        refine XE_aload_n (n := 48) dX6_weds_47 rfl rfl rfl ?_
        refine XE_getr (b := 64) (n := 51) xf_X6_10 rfl rfl dX6_weds_48 rfl ?_
        refine XE_callV (ni := 1) (As := [.ref 64]) (π := [4, 5, 6, 7, 8, 9, 10, 11, 12, 1]) (co := [0, 2, 3, 13, 14, 15, 16]) (cv := [m0, m2, m3, m13, m14, m15, m16]) (nn := 17) (hs2 := fun t1 => [m0, m1, m2, m3, t1.1, t1.2.1, t1.2.2.1, t1.2.2.2.1, t1.2.2.2.2.1, t1.2.2.2.2.2.1, t1.2.2.2.2.2.2.1, t1.2.2.2.2.2.2.2.1, t1.2.2.2.2.2.2.2.2, m13, m14, m15, m16]) (st2 := fun t1 => []) (n := 54) (b := 256) xc_X6_155 (fun l t ht => met_X5_keep l m4 m5 m6 m7 m8 m9 m10 m11 m12 m1 t ht) rfl rfl rfl rfl rfl dX6_weds_51 (Nat.le_of_ble_eq_true rfl) ⟨Nat.zero_le _, Nat.zero_le _⟩ (Nat.le_of_ble_eq_true rfl) (Nat.le_of_ble_eq_true rfl) ok_34 rfl rfl rfl (fun _ => rfl) (fun _ => rfl) (fun _ => rfl) rfl (fun _ => rfl) rfl (fun t1 => ?_)
        refine XE_aload_n (n := 55) dX6_weds_54 rfl rfl rfl ?_
        refine XE_getr (b := 64) (n := 58) xf_X6_10 rfl rfl dX6_weds_55 rfl ?_
        refine XE_getr (b := 71) (n := 61) xf_X6_128 rfl rfl dX6_weds_58 rfl ?_
        refine XE_iload_n (n := 62) dX6_weds_61 rfl rfl rfl ?_
        refine XE_iconst (v := 1) (n := 63) dX6_weds_62 rfl (by decide) ?_
        refine XE_isub (n := 64) dX6_weds_63 rfl ?_
        refine XE_iald (row := m1 7) (n := 65) rfl rfl dX6_weds_64 rfl ?_
        refine XE_topi (fun v2 => ?_)
        refine XE_istore_n (i := 2) (n := 66) dX6_weds_65 rfl rfl (Nat.le_of_ble_eq_true rfl) rfl ?_
        refine XE_aload_n (n := 67) dX6_weds_66 rfl rfl rfl ?_
        refine XE_getr (b := 64) (n := 70) xf_X6_10 rfl rfl dX6_weds_67 rfl ?_
        refine XE_iload_n (n := 71) dX6_weds_70 rfl rfl rfl ?_
        refine XE_callV (ni := 1) (As := [.int a1]) (π := [1]) (co := [0, 2, 3, 4, 5, 6, 7, 8, 9, 10, 11, 12, 13, 14, 15, 16]) (cv := [m0, m2, m3, t1.1, t1.2.1, t1.2.2.1, t1.2.2.2.1, t1.2.2.2.2.1, t1.2.2.2.2.2.1, t1.2.2.2.2.2.2.1, t1.2.2.2.2.2.2.2.1, t1.2.2.2.2.2.2.2.2, m13, m14, m15, m16]) (nn := 17) (hs2 := fun t3 => [m0, t3, m2, m3, t1.1, t1.2.1, t1.2.2.1, t1.2.2.2.1, t1.2.2.2.2.1, t1.2.2.2.2.2.1, t1.2.2.2.2.2.2.1, t1.2.2.2.2.2.2.2.1, t1.2.2.2.2.2.2.2.2, m13, m14, m15, m16]) (st2 := fun t3 => []) (n := 74) (b := 64) xc_X6_158 (fun l t ht => met_X2_wedSome l m1 a1 t ht) rfl rfl rfl rfl rfl dX6_weds_71 (Nat.le_of_ble_eq_true rfl) ⟨Nat.zero_le _, Nat.zero_le _⟩ (Nat.le_of_ble_eq_true rfl) (Nat.le_of_ble_eq_true rfl) ok_32 rfl rfl rfl (fun _ => rfl) (fun _ => rfl) (fun _ => rfl) rfl (fun _ => rfl) rfl (fun t3 => ?_)
        refine XE_aload_n (n := 75) dX6_weds_74 rfl rfl rfl ?_
        refine XE_getr (b := 64) (n := 78) xf_X6_10 rfl rfl dX6_weds_75 rfl ?_
        refine XE_getr (b := 69) (n := 81) xf_X6_161 rfl rfl dX6_weds_78 rfl ?_
        refine XE_iload_n (n := 82) dX6_weds_81 rfl rfl rfl ?_
        refine XE_iald (row := t3 5) (n := 83) rfl rfl dX6_weds_82 rfl ?_
        exact XE_ireturn rfl dX6_weds_83 rfl (Nat.le_refl _) (Nat.le_refl _)
      · refine XE_aload_n (n := 37) dX6_weds_36 rfl rfl rfl ?_
        refine XE_bipush (v := (-3)) (n := 39) dX6_weds_37 rfl (by decide) ?_
        refine XE_callVi (ni := 1) (As := [.int (-3)]) (st2 := fun t4 => [.int t4.1]) (n := 42) (b := 0) xc_X6_65 (fun l t ht => met_X6_refused l m0 m1 m2 m3 m4 m5 m6 m7 m8 m9 m10 m11 m12 m13 m14 m15 m16 (-3) t ht) rfl rfl rfl rfl dX6_weds_39 (Nat.le_of_ble_eq_true rfl) ⟨Nat.zero_le _, Nat.zero_le _⟩ (Nat.le_of_ble_eq_true rfl) (Nat.le_of_ble_eq_true rfl) (fun _ => rfl) rfl (fun t4 => ?_)
        exact XE_ireturn rfl dX6_weds_42 rfl (Nat.le_refl _) (Nat.le_refl _)
    · refine XE_aload_n (n := 19) dX6_weds_18 rfl rfl rfl ?_
      refine XE_bipush (v := (-6)) (n := 21) dX6_weds_19 rfl (by decide) ?_
      refine XE_callVi (ni := 1) (As := [.int (-6)]) (st2 := fun t6 => [.int t6.1]) (n := 24) (b := 0) xc_X6_65 (fun l t ht => met_X6_refused l m0 m1 m2 m3 m4 m5 m6 m7 m8 m9 m10 m11 m12 m13 m14 m15 m16 (-6) t ht) rfl rfl rfl rfl dX6_weds_21 (Nat.le_of_ble_eq_true rfl) ⟨Nat.zero_le _, Nat.zero_le _⟩ (Nat.le_of_ble_eq_true rfl) (Nat.le_of_ble_eq_true rfl) (fun _ => rfl) rfl (fun t6 => ?_)
      exact XE_ireturn rfl dX6_weds_24 rfl (Nat.le_refl _) (Nat.le_refl _)
  · refine XE_aload_n (n := 6) dX6_weds_5 rfl rfl rfl ?_
    refine XE_bipush (v := (-4)) (n := 8) dX6_weds_6 rfl (by decide) ?_
    refine XE_callVi (ni := 1) (As := [.int (-4)]) (st2 := fun t8 => [.int t8.1]) (n := 11) (b := 0) xc_X6_65 (fun l t ht => met_X6_refused l m0 m1 m2 m3 m4 m5 m6 m7 m8 m9 m10 m11 m12 m13 m14 m15 m16 (-4) t ht) rfl rfl rfl rfl dX6_weds_8 (Nat.le_of_ble_eq_true rfl) ⟨Nat.zero_le _, Nat.zero_le _⟩ (Nat.le_of_ble_eq_true rfl) (Nat.le_of_ble_eq_true rfl) (fun _ => rfl) rfl (fun t8 => ?_)
    exact XE_ireturn rfl dX6_weds_11 rfl (Nat.le_refl _) (Nat.le_refl _)
theorem met_X6_weds (l : Launch) (m0 : Mem) (m1 : Mem) (m2 : Mem) (m3 : Mem) (m4 : Mem) (m5 : Mem) (m6 : Mem) (m7 : Mem) (m8 : Mem) (m9 : Mem) (m10 : Mem) (m11 : Mem) (m12 : Mem) (m13 : Mem) (m14 : Mem) (m15 : Mem) (m16 : Mem) (a1 : Int32) (t : Int32 × Mem × Mem × Mem × Mem × Mem × Mem × Mem × Mem × Mem × Mem × Mem) (ht : f_X6_weds m0 m1 m4 m5 m6 m7 m8 m9 m10 m11 m12 a1 = some t) : XMet l yX6_weds cX6_weds 3 (some .int) 5 0 0 [.ref 0, .int a1] SH_X [m0, m1, m2, m3, m4, m5, m6, m7, m8, m9, m10, m11, m12, m13, m14, m15, m16] SH_X (some (.int t.1), [t.2.1, t.2.2.1, m2, m3, t.2.2.2.1, t.2.2.2.2.1, t.2.2.2.2.2.1, t.2.2.2.2.2.2.1, t.2.2.2.2.2.2.2.1, t.2.2.2.2.2.2.2.2.1, t.2.2.2.2.2.2.2.2.2.1, t.2.2.2.2.2.2.2.2.2.2.1, t.2.2.2.2.2.2.2.2.2.2.2, m13, m14, m15, m16]) := XMet.of (by decide +kernel) (fun _ => Nat.le_of_ble_eq_true rfl) (fun B => xe_X6_weds B m0 m1 m2 m3 m4 m5 m6 m7 m8 m9 m10 m11 m12 m13 m14 m15 m16 a1) (by rw [ht]; rfl)
/-! X6_pulls: EveryTwentyMinutes.pulls(I)I in world X at (0,) -/
abbrev M_X6_pulls : XM := (RX6, cX6_pulls, 3, (some .int), "pulls", 3, 0, 0)
def f_X6_pulls (m0 : Mem) (m1 : Mem) (m4 : Mem) (m5 : Mem) (m6 : Mem) (m7 : Mem) (m8 : Mem) (m9 : Mem) (m10 : Mem) (m11 : Mem) (m12 : Mem) (a1 : Int32) : Option (Int32 × Mem × Mem × Mem × Mem × Mem × Mem × Mem × Mem × Mem × Mem × Mem) :=
  (f_X2_has m1 a1).bind fun t1 =>
  if t1 = 0 then
    (f_X6_refused m0 (-1)).bind fun t8 =>
    some (t8.1, t8.2, m1, m4, m5, m6, m7, m8, m9, m10, m11, m12)
  else
    (f_X2_isWed m1 a1).bind fun t2 =>
    if t2 = 0 then
      (f_X5_keep m4 m5 m6 m7 m8 m9 m10 m11 m12 m1).bind fun t3 =>
      (f_X2_placeOf m1 a1).bind fun t4 =>
      (f_X2_putFirst m1 a1).bind fun t5 =>
      some (t4, m0, t5, t3.1, t3.2.1, t3.2.2.1, t3.2.2.2.1, t3.2.2.2.2.1, t3.2.2.2.2.2.1, t3.2.2.2.2.2.2.1, t3.2.2.2.2.2.2.2.1, t3.2.2.2.2.2.2.2.2)
    else
      (f_X6_refused m0 (-3)).bind fun t6 =>
      some (t6.1, t6.2, m1, m4, m5, m6, m7, m8, m9, m10, m11, m12)
set_option maxRecDepth 100000 in
theorem xe_X6_pulls (B : XB) (m0 : Mem) (m1 : Mem) (m2 : Mem) (m3 : Mem) (m4 : Mem) (m5 : Mem) (m6 : Mem) (m7 : Mem) (m8 : Mem) (m9 : Mem) (m10 : Mem) (m11 : Mem) (m12 : Mem) (m13 : Mem) (m14 : Mem) (m15 : Mem) (m16 : Mem) (a1 : Int32) : XE B M_X6_pulls (XQm B 0 0 SH_X) 0 [(0, some (.ref 0)), (1, some (.int a1))] [] (0, 0) SH_X [m0, m1, m2, m3, m4, m5, m6, m7, m8, m9, m10, m11, m12, m13, m14, m15, m16] (fun t => some (some (.int t.1), [t.2.1, t.2.2.1, m2, m3, t.2.2.2.1, t.2.2.2.2.1, t.2.2.2.2.2.1, t.2.2.2.2.2.2.1, t.2.2.2.2.2.2.2.1, t.2.2.2.2.2.2.2.2.1, t.2.2.2.2.2.2.2.2.2.1, t.2.2.2.2.2.2.2.2.2.2.1, t.2.2.2.2.2.2.2.2.2.2.2, m13, m14, m15, m16])) (f_X6_pulls m0 m1 m4 m5 m6 m7 m8 m9 m10 m11 m12 a1) := by
  unfold f_X6_pulls
  refine XE_aload_n (n := 1) dX6_pulls_0 rfl rfl rfl ?_
  refine XE_getr (b := 64) (n := 4) xf_X6_10 rfl rfl dX6_pulls_1 rfl ?_
  refine XE_iload_n (n := 5) dX6_pulls_4 rfl rfl rfl ?_
  refine XE_callV (ni := 1) (As := [.int a1]) (π := [1]) (co := [0, 2, 3, 4, 5, 6, 7, 8, 9, 10, 11, 12, 13, 14, 15, 16]) (cv := [m0, m2, m3, m4, m5, m6, m7, m8, m9, m10, m11, m12, m13, m14, m15, m16]) (nn := 17) (hs2 := fun t1 => [m0, m1, m2, m3, m4, m5, m6, m7, m8, m9, m10, m11, m12, m13, m14, m15, m16]) (st2 := fun t1 => [.int t1]) (n := 8) (b := 64) xc_X6_95 (fun l t ht => met_X2_has l m1 a1 t ht) rfl rfl rfl rfl rfl dX6_pulls_5 (Nat.le_of_ble_eq_true rfl) ⟨Nat.zero_le _, Nat.zero_le _⟩ (Nat.le_of_ble_eq_true rfl) (Nat.le_of_ble_eq_true rfl) ok_32 rfl rfl rfl (fun _ => rfl) (fun _ => rfl) (fun _ => rfl) rfl (fun _ => rfl) rfl (fun t1 => ?_)
  refine XE_if_ne (t := 17) (n := 11) dX6_pulls_8 rfl rfl (fun h9 => ?_) (fun h9 => ?_)
  · refine XE_aload_n (n := 12) dX6_pulls_11 rfl rfl rfl ?_
    refine XE_iconst (v := (-1)) (n := 13) dX6_pulls_12 rfl (by decide) ?_
    refine XE_callVi (ni := 1) (As := [.int (-1)]) (st2 := fun t8 => [.int t8.1]) (n := 16) (b := 0) xc_X6_65 (fun l t ht => met_X6_refused l m0 m1 m2 m3 m4 m5 m6 m7 m8 m9 m10 m11 m12 m13 m14 m15 m16 (-1) t ht) rfl rfl rfl rfl dX6_pulls_13 (Nat.le_of_ble_eq_true rfl) ⟨Nat.zero_le _, Nat.zero_le _⟩ (Nat.le_of_ble_eq_true rfl) (Nat.le_of_ble_eq_true rfl) (fun _ => rfl) rfl (fun t8 => ?_)
    exact XE_ireturn rfl dX6_pulls_16 rfl (Nat.le_refl _) (Nat.le_refl _)
  · refine XE_aload_n (n := 18) dX6_pulls_17 rfl rfl rfl ?_
    refine XE_getr (b := 64) (n := 21) xf_X6_10 rfl rfl dX6_pulls_18 rfl ?_
    refine XE_iload_n (n := 22) dX6_pulls_21 rfl rfl rfl ?_
    refine XE_callV (ni := 1) (As := [.int a1]) (π := [1]) (co := [0, 2, 3, 4, 5, 6, 7, 8, 9, 10, 11, 12, 13, 14, 15, 16]) (cv := [m0, m2, m3, m4, m5, m6, m7, m8, m9, m10, m11, m12, m13, m14, m15, m16]) (nn := 17) (hs2 := fun t2 => [m0, m1, m2, m3, m4, m5, m6, m7, m8, m9, m10, m11, m12, m13, m14, m15, m16]) (st2 := fun t2 => [.int t2]) (n := 25) (b := 64) xc_X6_107 (fun l t ht => met_X2_isWed l m1 a1 t ht) rfl rfl rfl rfl rfl dX6_pulls_22 (Nat.le_of_ble_eq_true rfl) ⟨Nat.zero_le _, Nat.zero_le _⟩ (Nat.le_of_ble_eq_true rfl) (Nat.le_of_ble_eq_true rfl) ok_32 rfl rfl rfl (fun _ => rfl) (fun _ => rfl) (fun _ => rfl) rfl (fun _ => rfl) rfl (fun t2 => ?_)
    refine XE_if_eq (t := 35) (n := 28) dX6_pulls_25 rfl rfl (fun h7 => ?_) (fun h7 => ?_)
    · refine XE_aload_n (n := 36) dX6_pulls_35 rfl rfl rfl ?_
      refine XE_getr (b := 256) (n := 39) xf_X6_29 rfl rfl dX6_pulls_36 rfl ?_
      refine XE_aload_n (n := 40) dX6_pulls_39 rfl rfl rfl ?_
      refine XE_getr (b := 64) (n := 43) xf_X6_10 rfl rfl dX6_pulls_40 rfl ?_
      refine XE_callV (ni := 1) (As := [.ref 64]) (π := [4, 5, 6, 7, 8, 9, 10, 11, 12, 1]) (co := [0, 2, 3, 13, 14, 15, 16]) (cv := [m0, m2, m3, m13, m14, m15, m16]) (nn := 17) (hs2 := fun t3 => [m0, m1, m2, m3, t3.1, t3.2.1, t3.2.2.1, t3.2.2.2.1, t3.2.2.2.2.1, t3.2.2.2.2.2.1, t3.2.2.2.2.2.2.1, t3.2.2.2.2.2.2.2.1, t3.2.2.2.2.2.2.2.2, m13, m14, m15, m16]) (st2 := fun t3 => []) (n := 46) (b := 256) xc_X6_155 (fun l t ht => met_X5_keep l m4 m5 m6 m7 m8 m9 m10 m11 m12 m1 t ht) rfl rfl rfl rfl rfl dX6_pulls_43 (Nat.le_of_ble_eq_true rfl) ⟨Nat.zero_le _, Nat.zero_le _⟩ (Nat.le_of_ble_eq_true rfl) (Nat.le_of_ble_eq_true rfl) ok_34 rfl rfl rfl (fun _ => rfl) (fun _ => rfl) (fun _ => rfl) rfl (fun _ => rfl) rfl (fun t3 => ?_)
      refine XE_aload_n (n := 47) dX6_pulls_46 rfl rfl rfl ?_
      refine XE_getr (b := 64) (n := 50) xf_X6_10 rfl rfl dX6_pulls_47 rfl ?_
      refine XE_iload_n (n := 51) dX6_pulls_50 rfl rfl rfl ?_
      refine XE_callV (ni := 1) (As := [.int a1]) (π := [1]) (co := [0, 2, 3, 4, 5, 6, 7, 8, 9, 10, 11, 12, 13, 14, 15, 16]) (cv := [m0, m2, m3, t3.1, t3.2.1, t3.2.2.1, t3.2.2.2.1, t3.2.2.2.2.1, t3.2.2.2.2.2.1, t3.2.2.2.2.2.2.1, t3.2.2.2.2.2.2.2.1, t3.2.2.2.2.2.2.2.2, m13, m14, m15, m16]) (nn := 17) (hs2 := fun t4 => [m0, m1, m2, m3, t3.1, t3.2.1, t3.2.2.1, t3.2.2.2.1, t3.2.2.2.2.1, t3.2.2.2.2.2.1, t3.2.2.2.2.2.2.1, t3.2.2.2.2.2.2.2.1, t3.2.2.2.2.2.2.2.2, m13, m14, m15, m16]) (st2 := fun t4 => [.int t4]) (n := 54) (b := 64) xc_X6_164 (fun l t ht => met_X2_placeOf l m1 a1 t ht) rfl rfl rfl rfl rfl dX6_pulls_51 (Nat.le_of_ble_eq_true rfl) ⟨Nat.zero_le _, Nat.zero_le _⟩ (Nat.le_of_ble_eq_true rfl) (Nat.le_of_ble_eq_true rfl) ok_32 rfl rfl rfl (fun _ => rfl) (fun _ => rfl) (fun _ => rfl) rfl (fun _ => rfl) rfl (fun t4 => ?_)
      refine XE_istore_n (i := 2) (n := 55) dX6_pulls_54 rfl rfl (Nat.le_of_ble_eq_true rfl) rfl ?_
      refine XE_aload_n (n := 56) dX6_pulls_55 rfl rfl rfl ?_
      refine XE_getr (b := 64) (n := 59) xf_X6_10 rfl rfl dX6_pulls_56 rfl ?_
      refine XE_iload_n (n := 60) dX6_pulls_59 rfl rfl rfl ?_
      refine XE_callV (ni := 1) (As := [.int a1]) (π := [1]) (co := [0, 2, 3, 4, 5, 6, 7, 8, 9, 10, 11, 12, 13, 14, 15, 16]) (cv := [m0, m2, m3, t3.1, t3.2.1, t3.2.2.1, t3.2.2.2.1, t3.2.2.2.2.1, t3.2.2.2.2.2.1, t3.2.2.2.2.2.2.1, t3.2.2.2.2.2.2.2.1, t3.2.2.2.2.2.2.2.2, m13, m14, m15, m16]) (nn := 17) (hs2 := fun t5 => [m0, t5, m2, m3, t3.1, t3.2.1, t3.2.2.1, t3.2.2.2.1, t3.2.2.2.2.1, t3.2.2.2.2.2.1, t3.2.2.2.2.2.2.1, t3.2.2.2.2.2.2.2.1, t3.2.2.2.2.2.2.2.2, m13, m14, m15, m16]) (st2 := fun t5 => []) (n := 63) (b := 64) xc_X6_167 (fun l t ht => met_X2_putFirst l m1 a1 t ht) rfl rfl rfl rfl rfl dX6_pulls_60 (Nat.le_of_ble_eq_true rfl) ⟨Nat.zero_le _, Nat.zero_le _⟩ (Nat.le_of_ble_eq_true rfl) (Nat.le_of_ble_eq_true rfl) ok_32 rfl rfl rfl (fun _ => rfl) (fun _ => rfl) (fun _ => rfl) rfl (fun _ => rfl) rfl (fun t5 => ?_)
      refine XE_iload_n (n := 64) dX6_pulls_63 rfl rfl rfl ?_
      exact XE_ireturn rfl dX6_pulls_64 rfl (Nat.le_refl _) (Nat.le_refl _)
    · refine XE_aload_n (n := 29) dX6_pulls_28 rfl rfl rfl ?_
      refine XE_bipush (v := (-3)) (n := 31) dX6_pulls_29 rfl (by decide) ?_
      refine XE_callVi (ni := 1) (As := [.int (-3)]) (st2 := fun t6 => [.int t6.1]) (n := 34) (b := 0) xc_X6_65 (fun l t ht => met_X6_refused l m0 m1 m2 m3 m4 m5 m6 m7 m8 m9 m10 m11 m12 m13 m14 m15 m16 (-3) t ht) rfl rfl rfl rfl dX6_pulls_31 (Nat.le_of_ble_eq_true rfl) ⟨Nat.zero_le _, Nat.zero_le _⟩ (Nat.le_of_ble_eq_true rfl) (Nat.le_of_ble_eq_true rfl) (fun _ => rfl) rfl (fun t6 => ?_)
      exact XE_ireturn rfl dX6_pulls_34 rfl (Nat.le_refl _) (Nat.le_refl _)
theorem met_X6_pulls (l : Launch) (m0 : Mem) (m1 : Mem) (m2 : Mem) (m3 : Mem) (m4 : Mem) (m5 : Mem) (m6 : Mem) (m7 : Mem) (m8 : Mem) (m9 : Mem) (m10 : Mem) (m11 : Mem) (m12 : Mem) (m13 : Mem) (m14 : Mem) (m15 : Mem) (m16 : Mem) (a1 : Int32) (t : Int32 × Mem × Mem × Mem × Mem × Mem × Mem × Mem × Mem × Mem × Mem × Mem) (ht : f_X6_pulls m0 m1 m4 m5 m6 m7 m8 m9 m10 m11 m12 a1 = some t) : XMet l yX6_pulls cX6_pulls 3 (some .int) 3 0 0 [.ref 0, .int a1] SH_X [m0, m1, m2, m3, m4, m5, m6, m7, m8, m9, m10, m11, m12, m13, m14, m15, m16] SH_X (some (.int t.1), [t.2.1, t.2.2.1, m2, m3, t.2.2.2.1, t.2.2.2.2.1, t.2.2.2.2.2.1, t.2.2.2.2.2.2.1, t.2.2.2.2.2.2.2.1, t.2.2.2.2.2.2.2.2.1, t.2.2.2.2.2.2.2.2.2.1, t.2.2.2.2.2.2.2.2.2.2.1, t.2.2.2.2.2.2.2.2.2.2.2, m13, m14, m15, m16]) := XMet.of (by decide +kernel) (fun _ => Nat.le_of_ble_eq_true rfl) (fun B => xe_X6_pulls B m0 m1 m2 m3 m4 m5 m6 m7 m8 m9 m10 m11 m12 m13 m14 m15 m16 a1) (by rw [ht]; rfl)
/-! X6_slack: EveryTwentyMinutes.slack(I)I in world X at (0,) -/
abbrev M_X6_slack : XM := (RX6, cX6_slack, 3, (some .int), "slack", 3, 0, 0)
def f_X6_slack (m0 : Mem) (m1 : Mem) (m4 : Mem) (m5 : Mem) (m6 : Mem) (m7 : Mem) (m8 : Mem) (m9 : Mem) (m10 : Mem) (m11 : Mem) (m12 : Mem) (a1 : Int32) : Option (Int32 × Mem × Mem × Mem × Mem × Mem × Mem × Mem × Mem × Mem × Mem × Mem) :=
  if 0 ≤ a1 then
    if a1 ≤ 9 then
      (f_X5_keep m4 m5 m6 m7 m8 m9 m10 m11 m12 m1).bind fun t1 =>
      lt (m1 0 13) fun v2 =>
      lt (xs m1 0 13 a1) fun w3 =>
      some (v2, m0, w3, t1.1, t1.2.1, t1.2.2.1, t1.2.2.2.1, t1.2.2.2.2.1, t1.2.2.2.2.2.1, t1.2.2.2.2.2.2.1, t1.2.2.2.2.2.2.2.1, t1.2.2.2.2.2.2.2.2)
    else
      (f_X6_refused m0 (-6)).bind fun t4 =>
      some (t4.1, t4.2, m1, m4, m5, m6, m7, m8, m9, m10, m11, m12)
  else
    (f_X6_refused m0 (-4)).bind fun t6 =>
    some (t6.1, t6.2, m1, m4, m5, m6, m7, m8, m9, m10, m11, m12)
set_option maxRecDepth 100000 in
theorem xe_X6_slack (B : XB) (m0 : Mem) (m1 : Mem) (m2 : Mem) (m3 : Mem) (m4 : Mem) (m5 : Mem) (m6 : Mem) (m7 : Mem) (m8 : Mem) (m9 : Mem) (m10 : Mem) (m11 : Mem) (m12 : Mem) (m13 : Mem) (m14 : Mem) (m15 : Mem) (m16 : Mem) (a1 : Int32) : XE B M_X6_slack (XQm B 0 0 SH_X) 0 [(0, some (.ref 0)), (1, some (.int a1))] [] (0, 0) SH_X [m0, m1, m2, m3, m4, m5, m6, m7, m8, m9, m10, m11, m12, m13, m14, m15, m16] (fun t => some (some (.int t.1), [t.2.1, t.2.2.1, m2, m3, t.2.2.2.1, t.2.2.2.2.1, t.2.2.2.2.2.1, t.2.2.2.2.2.2.1, t.2.2.2.2.2.2.2.1, t.2.2.2.2.2.2.2.2.1, t.2.2.2.2.2.2.2.2.2.1, t.2.2.2.2.2.2.2.2.2.2.1, t.2.2.2.2.2.2.2.2.2.2.2, m13, m14, m15, m16])) (f_X6_slack m0 m1 m4 m5 m6 m7 m8 m9 m10 m11 m12 a1) := by
  unfold f_X6_slack
  refine XE_iload_n (n := 1) dX6_slack_0 rfl rfl rfl ?_
  refine XE_if_ge (t := 11) (n := 4) dX6_slack_1 rfl rfl (fun h7 => ?_) (fun h7 => ?_)
  · refine XE_iload_n (n := 12) dX6_slack_11 rfl rfl rfl ?_
    refine XE_bipush (v := 9) (n := 14) dX6_slack_12 rfl (by decide) ?_
    refine XE_icmp_le (t := 24) (n := 17) dX6_slack_14 rfl rfl (fun h5 => ?_) (fun h5 => ?_)
    · refine XE_aload_n (n := 25) dX6_slack_24 rfl rfl rfl ?_
      refine XE_getr (b := 256) (n := 28) xf_X6_29 rfl rfl dX6_slack_25 rfl ?_
      refine XE_aload_n (n := 29) dX6_slack_28 rfl rfl rfl ?_
      refine XE_getr (b := 64) (n := 32) xf_X6_10 rfl rfl dX6_slack_29 rfl ?_
      refine XE_callV (ni := 1) (As := [.ref 64]) (π := [4, 5, 6, 7, 8, 9, 10, 11, 12, 1]) (co := [0, 2, 3, 13, 14, 15, 16]) (cv := [m0, m2, m3, m13, m14, m15, m16]) (nn := 17) (hs2 := fun t1 => [m0, m1, m2, m3, t1.1, t1.2.1, t1.2.2.1, t1.2.2.2.1, t1.2.2.2.2.1, t1.2.2.2.2.2.1, t1.2.2.2.2.2.2.1, t1.2.2.2.2.2.2.2.1, t1.2.2.2.2.2.2.2.2, m13, m14, m15, m16]) (st2 := fun t1 => []) (n := 35) (b := 256) xc_X6_155 (fun l t ht => met_X5_keep l m4 m5 m6 m7 m8 m9 m10 m11 m12 m1 t ht) rfl rfl rfl rfl rfl dX6_slack_32 (Nat.le_of_ble_eq_true rfl) ⟨Nat.zero_le _, Nat.zero_le _⟩ (Nat.le_of_ble_eq_true rfl) (Nat.le_of_ble_eq_true rfl) ok_34 rfl rfl rfl (fun _ => rfl) (fun _ => rfl) (fun _ => rfl) rfl (fun _ => rfl) rfl (fun t1 => ?_)
      refine XE_aload_n (n := 36) dX6_slack_35 rfl rfl rfl ?_
      refine XE_getr (b := 64) (n := 39) xf_X6_10 rfl rfl dX6_slack_36 rfl ?_
      refine XE_getf (v := m1 0 13) (n := 42) xf_X6_170 rfl rfl rfl dX6_slack_39 rfl ?_
      refine XE_topi (fun v2 => ?_)
      refine XE_istore_n (i := 2) (n := 43) dX6_slack_42 rfl rfl (Nat.le_of_ble_eq_true rfl) rfl ?_
      refine XE_aload_n (n := 44) dX6_slack_43 rfl rfl rfl ?_
      refine XE_getr (b := 64) (n := 47) xf_X6_10 rfl rfl dX6_slack_44 rfl ?_
      refine XE_iload_n (n := 48) dX6_slack_47 rfl rfl rfl ?_
      refine XE_putf (hs2 := fun w3 => [m0, w3, m2, m3, t1.1, t1.2.1, t1.2.2.1, t1.2.2.2.1, t1.2.2.2.2.1, t1.2.2.2.2.2.1, t1.2.2.2.2.2.2.1, t1.2.2.2.2.2.2.2.1, t1.2.2.2.2.2.2.2.2, m13, m14, m15, m16]) (n := 51) xf_X6_170 rfl rfl rfl rfl (Nat.le_of_ble_eq_true rfl) (fun _ => rfl) dX6_slack_48 rfl (fun w3 => ?_)
      refine XE_iload_n (n := 52) dX6_slack_51 rfl rfl rfl ?_
      exact XE_ireturn rfl dX6_slack_52 rfl (Nat.le_refl _) (Nat.le_refl _)
    · refine XE_aload_n (n := 18) dX6_slack_17 rfl rfl rfl ?_
      refine XE_bipush (v := (-6)) (n := 20) dX6_slack_18 rfl (by decide) ?_
      refine XE_callVi (ni := 1) (As := [.int (-6)]) (st2 := fun t4 => [.int t4.1]) (n := 23) (b := 0) xc_X6_65 (fun l t ht => met_X6_refused l m0 m1 m2 m3 m4 m5 m6 m7 m8 m9 m10 m11 m12 m13 m14 m15 m16 (-6) t ht) rfl rfl rfl rfl dX6_slack_20 (Nat.le_of_ble_eq_true rfl) ⟨Nat.zero_le _, Nat.zero_le _⟩ (Nat.le_of_ble_eq_true rfl) (Nat.le_of_ble_eq_true rfl) (fun _ => rfl) rfl (fun t4 => ?_)
      exact XE_ireturn rfl dX6_slack_23 rfl (Nat.le_refl _) (Nat.le_refl _)
  · refine XE_aload_n (n := 5) dX6_slack_4 rfl rfl rfl ?_
    refine XE_bipush (v := (-4)) (n := 7) dX6_slack_5 rfl (by decide) ?_
    refine XE_callVi (ni := 1) (As := [.int (-4)]) (st2 := fun t6 => [.int t6.1]) (n := 10) (b := 0) xc_X6_65 (fun l t ht => met_X6_refused l m0 m1 m2 m3 m4 m5 m6 m7 m8 m9 m10 m11 m12 m13 m14 m15 m16 (-4) t ht) rfl rfl rfl rfl dX6_slack_7 (Nat.le_of_ble_eq_true rfl) ⟨Nat.zero_le _, Nat.zero_le _⟩ (Nat.le_of_ble_eq_true rfl) (Nat.le_of_ble_eq_true rfl) (fun _ => rfl) rfl (fun t6 => ?_)
    exact XE_ireturn rfl dX6_slack_10 rfl (Nat.le_refl _) (Nat.le_refl _)
theorem met_X6_slack (l : Launch) (m0 : Mem) (m1 : Mem) (m2 : Mem) (m3 : Mem) (m4 : Mem) (m5 : Mem) (m6 : Mem) (m7 : Mem) (m8 : Mem) (m9 : Mem) (m10 : Mem) (m11 : Mem) (m12 : Mem) (m13 : Mem) (m14 : Mem) (m15 : Mem) (m16 : Mem) (a1 : Int32) (t : Int32 × Mem × Mem × Mem × Mem × Mem × Mem × Mem × Mem × Mem × Mem × Mem) (ht : f_X6_slack m0 m1 m4 m5 m6 m7 m8 m9 m10 m11 m12 a1 = some t) : XMet l yX6_slack cX6_slack 3 (some .int) 3 0 0 [.ref 0, .int a1] SH_X [m0, m1, m2, m3, m4, m5, m6, m7, m8, m9, m10, m11, m12, m13, m14, m15, m16] SH_X (some (.int t.1), [t.2.1, t.2.2.1, m2, m3, t.2.2.2.1, t.2.2.2.2.1, t.2.2.2.2.2.1, t.2.2.2.2.2.2.1, t.2.2.2.2.2.2.2.1, t.2.2.2.2.2.2.2.2.1, t.2.2.2.2.2.2.2.2.2.1, t.2.2.2.2.2.2.2.2.2.2.1, t.2.2.2.2.2.2.2.2.2.2.2, m13, m14, m15, m16]) := XMet.of (by decide +kernel) (fun _ => Nat.le_of_ble_eq_true rfl) (fun B => xe_X6_slack B m0 m1 m2 m3 m4 m5 m6 m7 m8 m9 m10 m11 m12 m13 m14 m15 m16 a1) (by rw [ht]; rfl)
/-! X6_rests: EveryTwentyMinutes.rests(I)I in world X at (0,) -/
abbrev M_X6_rests : XM := (RX6, cX6_rests, 3, (some .int), "rests", 3, 0, 0)
def f_X6_rests (m0 : Mem) (m1 : Mem) (m4 : Mem) (m5 : Mem) (m6 : Mem) (m7 : Mem) (m8 : Mem) (m9 : Mem) (m10 : Mem) (m11 : Mem) (m12 : Mem) (a1 : Int32) : Option (Int32 × Mem × Mem × Mem × Mem × Mem × Mem × Mem × Mem × Mem × Mem × Mem) :=
  if 1 ≤ a1 then
    if a1 ≤ 30 then
      (f_X5_keep m4 m5 m6 m7 m8 m9 m10 m11 m12 m1).bind fun t1 =>
      lt (m1 0 12) fun v2 =>
      (f_X2_restClerk m1 a1).bind fun t3 =>
      some (v2, m0, t3, t1.1, t1.2.1, t1.2.2.1, t1.2.2.2.1, t1.2.2.2.2.1, t1.2.2.2.2.2.1, t1.2.2.2.2.2.2.1, t1.2.2.2.2.2.2.2.1, t1.2.2.2.2.2.2.2.2)
    else
      (f_X6_refused m0 (-6)).bind fun t4 =>
      some (t4.1, t4.2, m1, m4, m5, m6, m7, m8, m9, m10, m11, m12)
  else
    (f_X6_refused m0 (-4)).bind fun t6 =>
    some (t6.1, t6.2, m1, m4, m5, m6, m7, m8, m9, m10, m11, m12)
set_option maxRecDepth 100000 in
theorem xe_X6_rests (B : XB) (m0 : Mem) (m1 : Mem) (m2 : Mem) (m3 : Mem) (m4 : Mem) (m5 : Mem) (m6 : Mem) (m7 : Mem) (m8 : Mem) (m9 : Mem) (m10 : Mem) (m11 : Mem) (m12 : Mem) (m13 : Mem) (m14 : Mem) (m15 : Mem) (m16 : Mem) (a1 : Int32) : XE B M_X6_rests (XQm B 0 0 SH_X) 0 [(0, some (.ref 0)), (1, some (.int a1))] [] (0, 0) SH_X [m0, m1, m2, m3, m4, m5, m6, m7, m8, m9, m10, m11, m12, m13, m14, m15, m16] (fun t => some (some (.int t.1), [t.2.1, t.2.2.1, m2, m3, t.2.2.2.1, t.2.2.2.2.1, t.2.2.2.2.2.1, t.2.2.2.2.2.2.1, t.2.2.2.2.2.2.2.1, t.2.2.2.2.2.2.2.2.1, t.2.2.2.2.2.2.2.2.2.1, t.2.2.2.2.2.2.2.2.2.2.1, t.2.2.2.2.2.2.2.2.2.2.2, m13, m14, m15, m16])) (f_X6_rests m0 m1 m4 m5 m6 m7 m8 m9 m10 m11 m12 a1) := by
  unfold f_X6_rests
  refine XE_iload_n (n := 1) dX6_rests_0 rfl rfl rfl ?_
  refine XE_iconst (v := 1) (n := 2) dX6_rests_1 rfl (by decide) ?_
  refine XE_icmp_ge (t := 12) (n := 5) dX6_rests_2 rfl rfl (fun h7 => ?_) (fun h7 => ?_)
  · refine XE_iload_n (n := 13) dX6_rests_12 rfl rfl rfl ?_
    refine XE_bipush (v := 30) (n := 15) dX6_rests_13 rfl (by decide) ?_
    refine XE_icmp_le (t := 25) (n := 18) dX6_rests_15 rfl rfl (fun h5 => ?_) (fun h5 => ?_)
    · refine XE_aload_n (n := 26) dX6_rests_25 rfl rfl rfl ?_
      refine XE_getr (b := 256) (n := 29) xf_X6_29 rfl rfl dX6_rests_26 rfl ?_
      refine XE_aload_n (n := 30) dX6_rests_29 rfl rfl rfl ?_
      refine XE_getr (b := 64) (n := 33) xf_X6_10 rfl rfl dX6_rests_30 rfl ?_
      refine XE_callV (ni := 1) (As := [.ref 64]) (π := [4, 5, 6, 7, 8, 9, 10, 11, 12, 1]) (co := [0, 2, 3, 13, 14, 15, 16]) (cv := [m0, m2, m3, m13, m14, m15, m16]) (nn := 17) (hs2 := fun t1 => [m0, m1, m2, m3, t1.1, t1.2.1, t1.2.2.1, t1.2.2.2.1, t1.2.2.2.2.1, t1.2.2.2.2.2.1, t1.2.2.2.2.2.2.1, t1.2.2.2.2.2.2.2.1, t1.2.2.2.2.2.2.2.2, m13, m14, m15, m16]) (st2 := fun t1 => []) (n := 36) (b := 256) xc_X6_155 (fun l t ht => met_X5_keep l m4 m5 m6 m7 m8 m9 m10 m11 m12 m1 t ht) rfl rfl rfl rfl rfl dX6_rests_33 (Nat.le_of_ble_eq_true rfl) ⟨Nat.zero_le _, Nat.zero_le _⟩ (Nat.le_of_ble_eq_true rfl) (Nat.le_of_ble_eq_true rfl) ok_34 rfl rfl rfl (fun _ => rfl) (fun _ => rfl) (fun _ => rfl) rfl (fun _ => rfl) rfl (fun t1 => ?_)
      refine XE_aload_n (n := 37) dX6_rests_36 rfl rfl rfl ?_
      refine XE_getr (b := 64) (n := 40) xf_X6_10 rfl rfl dX6_rests_37 rfl ?_
      refine XE_getf (v := m1 0 12) (n := 43) xf_X6_173 rfl rfl rfl dX6_rests_40 rfl ?_
      refine XE_topi (fun v2 => ?_)
      refine XE_istore_n (i := 2) (n := 44) dX6_rests_43 rfl rfl (Nat.le_of_ble_eq_true rfl) rfl ?_
      refine XE_aload_n (n := 45) dX6_rests_44 rfl rfl rfl ?_
      refine XE_getr (b := 64) (n := 48) xf_X6_10 rfl rfl dX6_rests_45 rfl ?_
      refine XE_iload_n (n := 49) dX6_rests_48 rfl rfl rfl ?_
      refine XE_callV (ni := 1) (As := [.int a1]) (π := [1]) (co := [0, 2, 3, 4, 5, 6, 7, 8, 9, 10, 11, 12, 13, 14, 15, 16]) (cv := [m0, m2, m3, t1.1, t1.2.1, t1.2.2.1, t1.2.2.2.1, t1.2.2.2.2.1, t1.2.2.2.2.2.1, t1.2.2.2.2.2.2.1, t1.2.2.2.2.2.2.2.1, t1.2.2.2.2.2.2.2.2, m13, m14, m15, m16]) (nn := 17) (hs2 := fun t3 => [m0, t3, m2, m3, t1.1, t1.2.1, t1.2.2.1, t1.2.2.2.1, t1.2.2.2.2.1, t1.2.2.2.2.2.1, t1.2.2.2.2.2.2.1, t1.2.2.2.2.2.2.2.1, t1.2.2.2.2.2.2.2.2, m13, m14, m15, m16]) (st2 := fun t3 => []) (n := 52) (b := 64) xc_X6_176 (fun l t ht => met_X2_restClerk l m1 a1 t ht) rfl rfl rfl rfl rfl dX6_rests_49 (Nat.le_of_ble_eq_true rfl) ⟨Nat.zero_le _, Nat.zero_le _⟩ (Nat.le_of_ble_eq_true rfl) (Nat.le_of_ble_eq_true rfl) ok_32 rfl rfl rfl (fun _ => rfl) (fun _ => rfl) (fun _ => rfl) rfl (fun _ => rfl) rfl (fun t3 => ?_)
      refine XE_iload_n (n := 53) dX6_rests_52 rfl rfl rfl ?_
      exact XE_ireturn rfl dX6_rests_53 rfl (Nat.le_refl _) (Nat.le_refl _)
    · refine XE_aload_n (n := 19) dX6_rests_18 rfl rfl rfl ?_
      refine XE_bipush (v := (-6)) (n := 21) dX6_rests_19 rfl (by decide) ?_
      refine XE_callVi (ni := 1) (As := [.int (-6)]) (st2 := fun t4 => [.int t4.1]) (n := 24) (b := 0) xc_X6_65 (fun l t ht => met_X6_refused l m0 m1 m2 m3 m4 m5 m6 m7 m8 m9 m10 m11 m12 m13 m14 m15 m16 (-6) t ht) rfl rfl rfl rfl dX6_rests_21 (Nat.le_of_ble_eq_true rfl) ⟨Nat.zero_le _, Nat.zero_le _⟩ (Nat.le_of_ble_eq_true rfl) (Nat.le_of_ble_eq_true rfl) (fun _ => rfl) rfl (fun t4 => ?_)
      exact XE_ireturn rfl dX6_rests_24 rfl (Nat.le_refl _) (Nat.le_refl _)
  · refine XE_aload_n (n := 6) dX6_rests_5 rfl rfl rfl ?_
    refine XE_bipush (v := (-4)) (n := 8) dX6_rests_6 rfl (by decide) ?_
    refine XE_callVi (ni := 1) (As := [.int (-4)]) (st2 := fun t6 => [.int t6.1]) (n := 11) (b := 0) xc_X6_65 (fun l t ht => met_X6_refused l m0 m1 m2 m3 m4 m5 m6 m7 m8 m9 m10 m11 m12 m13 m14 m15 m16 (-4) t ht) rfl rfl rfl rfl dX6_rests_8 (Nat.le_of_ble_eq_true rfl) ⟨Nat.zero_le _, Nat.zero_le _⟩ (Nat.le_of_ble_eq_true rfl) (Nat.le_of_ble_eq_true rfl) (fun _ => rfl) rfl (fun t6 => ?_)
    exact XE_ireturn rfl dX6_rests_11 rfl (Nat.le_refl _) (Nat.le_refl _)
theorem met_X6_rests (l : Launch) (m0 : Mem) (m1 : Mem) (m2 : Mem) (m3 : Mem) (m4 : Mem) (m5 : Mem) (m6 : Mem) (m7 : Mem) (m8 : Mem) (m9 : Mem) (m10 : Mem) (m11 : Mem) (m12 : Mem) (m13 : Mem) (m14 : Mem) (m15 : Mem) (m16 : Mem) (a1 : Int32) (t : Int32 × Mem × Mem × Mem × Mem × Mem × Mem × Mem × Mem × Mem × Mem × Mem) (ht : f_X6_rests m0 m1 m4 m5 m6 m7 m8 m9 m10 m11 m12 a1 = some t) : XMet l yX6_rests cX6_rests 3 (some .int) 3 0 0 [.ref 0, .int a1] SH_X [m0, m1, m2, m3, m4, m5, m6, m7, m8, m9, m10, m11, m12, m13, m14, m15, m16] SH_X (some (.int t.1), [t.2.1, t.2.2.1, m2, m3, t.2.2.2.1, t.2.2.2.2.1, t.2.2.2.2.2.1, t.2.2.2.2.2.2.1, t.2.2.2.2.2.2.2.1, t.2.2.2.2.2.2.2.2.1, t.2.2.2.2.2.2.2.2.2.1, t.2.2.2.2.2.2.2.2.2.2.1, t.2.2.2.2.2.2.2.2.2.2.2, m13, m14, m15, m16]) := XMet.of (by decide +kernel) (fun _ => Nat.le_of_ble_eq_true rfl) (fun B => xe_X6_rests B m0 m1 m2 m3 m4 m5 m6 m7 m8 m9 m10 m11 m12 m13 m14 m15 m16 a1) (by rw [ht]; rfl)
/-! X6_back: EveryTwentyMinutes.back()I in world X at (0,) -/
abbrev M_X6_back : XM := (RX6, cX6_back, 1, (some .int), "back", 3, 0, 0)
def f_X6_back (m0 : Mem) (m1 : Mem) (m4 : Mem) (m5 : Mem) (m6 : Mem) (m7 : Mem) (m8 : Mem) (m9 : Mem) (m10 : Mem) (m11 : Mem) (m12 : Mem) : Option (Int32 × Mem × Mem × Mem) :=
  (f_X5_giveBack m4 m5 m6 m7 m8 m9 m10 m11 m12 m1).bind fun t1 =>
  if t1.1 = 0 then
    (f_X6_refused m0 (-3)).bind fun t2 =>
    some (t2.1, t2.2, t1.2.2, t1.2.1)
  else
    some ((t1.2.1 0 2), m0, t1.2.2, t1.2.1)
set_option maxRecDepth 100000 in
theorem xe_X6_back (B : XB) (m0 : Mem) (m1 : Mem) (m2 : Mem) (m3 : Mem) (m4 : Mem) (m5 : Mem) (m6 : Mem) (m7 : Mem) (m8 : Mem) (m9 : Mem) (m10 : Mem) (m11 : Mem) (m12 : Mem) (m13 : Mem) (m14 : Mem) (m15 : Mem) (m16 : Mem) : XE B M_X6_back (XQm B 0 0 SH_X) 0 [(0, some (.ref 0))] [] (0, 0) SH_X [m0, m1, m2, m3, m4, m5, m6, m7, m8, m9, m10, m11, m12, m13, m14, m15, m16] (fun t => some (some (.int t.1), [t.2.1, t.2.2.1, m2, m3, t.2.2.2, m5, m6, m7, m8, m9, m10, m11, m12, m13, m14, m15, m16])) (f_X6_back m0 m1 m4 m5 m6 m7 m8 m9 m10 m11 m12) := by
  unfold f_X6_back
  refine XE_aload_n (n := 1) dX6_back_0 rfl rfl rfl ?_
  refine XE_getr (b := 256) (n := 4) xf_X6_29 rfl rfl dX6_back_1 rfl ?_
  refine XE_aload_n (n := 5) dX6_back_4 rfl rfl rfl ?_
  refine XE_getr (b := 64) (n := 8) xf_X6_10 rfl rfl dX6_back_5 rfl ?_
  refine XE_callV (ni := 1) (As := [.ref 64]) (π := [4, 5, 6, 7, 8, 9, 10, 11, 12, 1]) (co := [0, 2, 3, 13, 14, 15, 16]) (cv := [m0, m2, m3, m13, m14, m15, m16]) (nn := 17) (hs2 := fun t1 => [m0, t1.2.2, m2, m3, t1.2.1, m5, m6, m7, m8, m9, m10, m11, m12, m13, m14, m15, m16]) (st2 := fun t1 => [.int t1.1]) (n := 11) (b := 256) xc_X6_179 (fun l t ht => met_X5_giveBack l m4 m5 m6 m7 m8 m9 m10 m11 m12 m1 t ht) rfl rfl rfl rfl rfl dX6_back_8 (Nat.le_of_ble_eq_true rfl) ⟨Nat.zero_le _, Nat.zero_le _⟩ (Nat.le_of_ble_eq_true rfl) (Nat.le_of_ble_eq_true rfl) ok_34 rfl rfl rfl (fun _ => rfl) (fun _ => rfl) (fun _ => rfl) rfl (fun _ => rfl) rfl (fun t1 => ?_)
  refine XE_if_ne (t := 21) (n := 14) dX6_back_11 rfl rfl (fun h3 => ?_) (fun h3 => ?_)
  · refine XE_aload_n (n := 15) dX6_back_14 rfl rfl rfl ?_
    refine XE_bipush (v := (-3)) (n := 17) dX6_back_15 rfl (by decide) ?_
    refine XE_callVi (ni := 1) (As := [.int (-3)]) (st2 := fun t2 => [.int t2.1]) (n := 20) (b := 0) xc_X6_65 (fun l t ht => met_X6_refused l m0 t1.2.2 m2 m3 t1.2.1 m5 m6 m7 m8 m9 m10 m11 m12 m13 m14 m15 m16 (-3) t ht) rfl rfl rfl rfl dX6_back_17 (Nat.le_of_ble_eq_true rfl) ⟨Nat.zero_le _, Nat.zero_le _⟩ (Nat.le_of_ble_eq_true rfl) (Nat.le_of_ble_eq_true rfl) (fun _ => rfl) rfl (fun t2 => ?_)
    exact XE_ireturn rfl dX6_back_20 rfl (Nat.le_refl _) (Nat.le_refl _)
  · refine XE_aload_n (n := 22) dX6_back_21 rfl rfl rfl ?_
    refine XE_getr (b := 256) (n := 25) xf_X6_29 rfl rfl dX6_back_22 rfl ?_
    refine XE_getf (v := t1.2.1 0 2) (n := 28) xf_X6_183 rfl rfl rfl dX6_back_25 rfl ?_
    exact XE_ireturn rfl dX6_back_28 rfl (Nat.le_refl _) (Nat.le_refl _)
theorem met_X6_back (l : Launch) (m0 : Mem) (m1 : Mem) (m2 : Mem) (m3 : Mem) (m4 : Mem) (m5 : Mem) (m6 : Mem) (m7 : Mem) (m8 : Mem) (m9 : Mem) (m10 : Mem) (m11 : Mem) (m12 : Mem) (m13 : Mem) (m14 : Mem) (m15 : Mem) (m16 : Mem) (t : Int32 × Mem × Mem × Mem) (ht : f_X6_back m0 m1 m4 m5 m6 m7 m8 m9 m10 m11 m12 = some t) : XMet l yX6_back cX6_back 1 (some .int) 3 0 0 [.ref 0] SH_X [m0, m1, m2, m3, m4, m5, m6, m7, m8, m9, m10, m11, m12, m13, m14, m15, m16] SH_X (some (.int t.1), [t.2.1, t.2.2.1, m2, m3, t.2.2.2, m5, m6, m7, m8, m9, m10, m11, m12, m13, m14, m15, m16]) := XMet.of (by decide +kernel) (fun _ => Nat.le_of_ble_eq_true rfl) (fun B => xe_X6_back B m0 m1 m2 m3 m4 m5 m6 m7 m8 m9 m10 m11 m12 m13 m14 m15 m16) (by rw [ht]; rfl)
set_option maxRecDepth 100000 in
theorem ok_35 : x_okc [2] SH_H SH_X = true := by decide +kernel
/-! X6_inMind: EveryTwentyMinutes.inMind()LEveryTwentyMinutes$Hall; in world X at (0,) -/
abbrev M_X6_inMind : XM := (RX6, cX6_inMind, 2, (some (.object "EveryTwentyMinutes$Hall")), "inMind", 5, 0, 0)
def f_X6_inMind (m0 : Mem) (m1 : Mem) (m2 : Mem) : Option (Mem) :=
  (f_X6_asNow m0 m1 m2).bind fun t1 =>
  (f_X2_wedAll t1).bind fun t2 =>
  some t2
set_option maxRecDepth 100000 in
theorem xe_X6_inMind (B : XB) (m0 : Mem) (m1 : Mem) (m2 : Mem) (m3 : Mem) (m4 : Mem) (m5 : Mem) (m6 : Mem) (m7 : Mem) (m8 : Mem) (m9 : Mem) (m10 : Mem) (m11 : Mem) (m12 : Mem) (m13 : Mem) (m14 : Mem) (m15 : Mem) (m16 : Mem) : XE B M_X6_inMind (XQm B 0 0 SH_X) 0 [(0, some (.ref 0))] [] (0, 0) SH_X [m0, m1, m2, m3, m4, m5, m6, m7, m8, m9, m10, m11, m12, m13, m14, m15, m16] (fun t => some (some (.ref 128), [m0, m1, t, m3, m4, m5, m6, m7, m8, m9, m10, m11, m12, m13, m14, m15, m16])) (f_X6_inMind m0 m1 m2) := by
  unfold f_X6_inMind
  refine XE_aload_n (n := 1) dX6_inMind_0 rfl rfl rfl ?_
  refine XE_callVi (ni := 0) (As := []) (st2 := fun t1 => [.ref 128]) (n := 4) (b := 0) xc_X6_80 (fun l t ht => met_X6_asNow l m0 m1 m2 m3 m4 m5 m6 m7 m8 m9 m10 m11 m12 m13 m14 m15 m16 t ht) rfl rfl rfl rfl dX6_inMind_1 (Nat.le_of_ble_eq_true rfl) ⟨Nat.zero_le _, Nat.zero_le _⟩ (Nat.le_of_ble_eq_true rfl) (Nat.le_of_ble_eq_true rfl) (fun _ => rfl) rfl (fun t1 => ?_)
  refine XE_astore_n (i := 1) (n := 5) dX6_inMind_4 rfl rfl (Nat.le_of_ble_eq_true rfl) rfl ?_
  refine XE_aload_n (n := 6) dX6_inMind_5 rfl rfl rfl ?_
  refine XE_callV (ni := 0) (As := []) (π := [2]) (co := [0, 1, 3, 4, 5, 6, 7, 8, 9, 10, 11, 12, 13, 14, 15, 16]) (cv := [m0, m1, m3, m4, m5, m6, m7, m8, m9, m10, m11, m12, m13, m14, m15, m16]) (nn := 17) (hs2 := fun t2 => [m0, m1, t2, m3, m4, m5, m6, m7, m8, m9, m10, m11, m12, m13, m14, m15, m16]) (st2 := fun t2 => []) (n := 9) (b := 128) xc_X6_226 (fun l t ht => met_X2_wedAll l t1 t ht) rfl rfl rfl rfl rfl dX6_inMind_6 (Nat.le_of_ble_eq_true rfl) ⟨Nat.zero_le _, Nat.zero_le _⟩ (Nat.le_of_ble_eq_true rfl) (Nat.le_of_ble_eq_true rfl) ok_35 rfl rfl rfl (fun _ => rfl) (fun _ => rfl) (fun _ => rfl) rfl (fun _ => rfl) rfl (fun t2 => ?_)
  refine XE_aload_n (n := 10) dX6_inMind_9 rfl rfl rfl ?_
  exact XE_areturn (Or.inl ⟨_, rfl⟩) rfl dX6_inMind_10 rfl (Nat.le_refl _) (Nat.le_refl _)
theorem met_X6_inMind (l : Launch) (m0 : Mem) (m1 : Mem) (m2 : Mem) (m3 : Mem) (m4 : Mem) (m5 : Mem) (m6 : Mem) (m7 : Mem) (m8 : Mem) (m9 : Mem) (m10 : Mem) (m11 : Mem) (m12 : Mem) (m13 : Mem) (m14 : Mem) (m15 : Mem) (m16 : Mem) (t : Mem) (ht : f_X6_inMind m0 m1 m2 = some t) : XMet l yX6_inMind cX6_inMind 2 (some (.object "EveryTwentyMinutes$Hall")) 5 0 0 [.ref 0] SH_X [m0, m1, m2, m3, m4, m5, m6, m7, m8, m9, m10, m11, m12, m13, m14, m15, m16] SH_X (some (.ref 128), [m0, m1, t, m3, m4, m5, m6, m7, m8, m9, m10, m11, m12, m13, m14, m15, m16]) := XMet.of (by decide +kernel) (fun _ => Nat.le_of_ble_eq_true rfl) (fun B => xe_X6_inMind B m0 m1 m2 m3 m4 m5 m6 m7 m8 m9 m10 m11 m12 m13 m14 m15 m16) (by rw [ht]; rfl)
/-! X6_when: EveryTwentyMinutes.when(II)I in world X at (0,) -/
abbrev M_X6_when : XM := (RX6, cX6_when, 4, (some .int), "when", 6, 0, 0)
def f_X6_when (m0 : Mem) (m1 : Mem) (m2 : Mem) (a1 : Int32) (a2 : Int32) : Option (Int32 × Mem × Mem) :=
  (f_X2_has m1 a1).bind fun t1 =>
  if t1 = 0 then
    (f_X6_refused m0 (-1)).bind fun t9 =>
    some (t9.1, t9.2, m2)
  else
    (f_X6_inMind m0 m1 m2).bind fun t2 =>
    if a2 = 0 then
      ck (inb a1 7) <|
      some ((t2 4 (ix a1)), m0, t2)
    else
      if a2 = 1 then
        ck (inb a1 7) <|
        some ((t2 5 (ix a1)), m0, t2)
      else
        if a2 = 2 then
          ck (inb a1 7) <|
          some ((t2 6 (ix a1)), m0, t2)
        else
          if a2 = 3 then
            (f_X2_lateOf t2 a1).bind fun t7 =>
            some (t7, m0, t2)
          else
            (f_X6_refused m0 (-2)).bind fun t8 =>
            some (t8.1, t8.2, t2)
set_option maxRecDepth 100000 in
theorem xe_X6_when (B : XB) (m0 : Mem) (m1 : Mem) (m2 : Mem) (m3 : Mem) (m4 : Mem) (m5 : Mem) (m6 : Mem) (m7 : Mem) (m8 : Mem) (m9 : Mem) (m10 : Mem) (m11 : Mem) (m12 : Mem) (m13 : Mem) (m14 : Mem) (m15 : Mem) (m16 : Mem) (a1 : Int32) (a2 : Int32) : XE B M_X6_when (XQm B 0 0 SH_X) 0 [(0, some (.ref 0)), (1, some (.int a1)), (2, some (.int a2))] [] (0, 0) SH_X [m0, m1, m2, m3, m4, m5, m6, m7, m8, m9, m10, m11, m12, m13, m14, m15, m16] (fun t => some (some (.int t.1), [t.2.1, m1, t.2.2, m3, m4, m5, m6, m7, m8, m9, m10, m11, m12, m13, m14, m15, m16])) (f_X6_when m0 m1 m2 a1 a2) := by
  unfold f_X6_when
  refine XE_aload_n (n := 1) dX6_when_0 rfl rfl rfl ?_
  refine XE_getr (b := 64) (n := 4) xf_X6_10 rfl rfl dX6_when_1 rfl ?_
  refine XE_iload_n (n := 5) dX6_when_4 rfl rfl rfl ?_
  refine XE_callV (ni := 1) (As := [.int a1]) (π := [1]) (co := [0, 2, 3, 4, 5, 6, 7, 8, 9, 10, 11, 12, 13, 14, 15, 16]) (cv := [m0, m2, m3, m4, m5, m6, m7, m8, m9, m10, m11, m12, m13, m14, m15, m16]) (nn := 17) (hs2 := fun t1 => [m0, m1, m2, m3, m4, m5, m6, m7, m8, m9, m10, m11, m12, m13, m14, m15, m16]) (st2 := fun t1 => [.int t1]) (n := 8) (b := 64) xc_X6_95 (fun l t ht => met_X2_has l m1 a1 t ht) rfl rfl rfl rfl rfl dX6_when_5 (Nat.le_of_ble_eq_true rfl) ⟨Nat.zero_le _, Nat.zero_le _⟩ (Nat.le_of_ble_eq_true rfl) (Nat.le_of_ble_eq_true rfl) ok_32 rfl rfl rfl (fun _ => rfl) (fun _ => rfl) (fun _ => rfl) rfl (fun _ => rfl) rfl (fun t1 => ?_)
  refine XE_if_ne (t := 17) (n := 11) dX6_when_8 rfl rfl (fun h10 => ?_) (fun h10 => ?_)
  · refine XE_aload_n (n := 12) dX6_when_11 rfl rfl rfl ?_
    refine XE_iconst (v := (-1)) (n := 13) dX6_when_12 rfl (by decide) ?_
    refine XE_callVi (ni := 1) (As := [.int (-1)]) (st2 := fun t9 => [.int t9.1]) (n := 16) (b := 0) xc_X6_65 (fun l t ht => met_X6_refused l m0 m1 m2 m3 m4 m5 m6 m7 m8 m9 m10 m11 m12 m13 m14 m15 m16 (-1) t ht) rfl rfl rfl rfl dX6_when_13 (Nat.le_of_ble_eq_true rfl) ⟨Nat.zero_le _, Nat.zero_le _⟩ (Nat.le_of_ble_eq_true rfl) (Nat.le_of_ble_eq_true rfl) (fun _ => rfl) rfl (fun t9 => ?_)
    exact XE_ireturn rfl dX6_when_16 rfl (Nat.le_refl _) (Nat.le_refl _)
  · refine XE_aload_n (n := 18) dX6_when_17 rfl rfl rfl ?_
    refine XE_callVi (ni := 0) (As := []) (st2 := fun t2 => [.ref 128]) (n := 21) (b := 0) xc_X6_184 (fun l t ht => met_X6_inMind l m0 m1 m2 m3 m4 m5 m6 m7 m8 m9 m10 m11 m12 m13 m14 m15 m16 t ht) rfl rfl rfl rfl dX6_when_18 (Nat.le_of_ble_eq_true rfl) ⟨Nat.zero_le _, Nat.zero_le _⟩ (Nat.le_of_ble_eq_true rfl) (Nat.le_of_ble_eq_true rfl) (fun _ => rfl) rfl (fun t2 => ?_)
    refine XE_astore_n (i := 3) (n := 22) dX6_when_21 rfl rfl (Nat.le_of_ble_eq_true rfl) rfl ?_
    refine XE_iload_n (n := 23) dX6_when_22 rfl rfl rfl ?_
    refine XE_tsw (c := 0) (t := 52) (off := 29) dX6_when_23 (by decide) (by decide) rfl rfl ?_ (fun h3 => ?_)
    · refine XE_aload_n (n := 53) dX6_when_52 rfl rfl rfl ?_
      refine XE_getr (b := 132) (n := 56) xf_X6_187 rfl rfl dX6_when_53 rfl ?_
      refine XE_iload_n (n := 57) dX6_when_56 rfl rfl rfl ?_
      refine XE_iald (row := t2 4) (n := 58) rfl rfl dX6_when_57 rfl ?_
      exact XE_ireturn rfl dX6_when_58 rfl (Nat.le_refl _) (Nat.le_refl _)
    refine XE_tsw (c := 1) (t := 59) (off := 36) dX6_when_23 (by decide) (by decide) rfl rfl ?_ (fun h4 => ?_)
    · refine XE_aload_n (n := 60) dX6_when_59 rfl rfl rfl ?_
      refine XE_getr (b := 133) (n := 63) xf_X6_161 rfl rfl dX6_when_60 rfl ?_
      refine XE_iload_n (n := 64) dX6_when_63 rfl rfl rfl ?_
      refine XE_iald (row := t2 5) (n := 65) rfl rfl dX6_when_64 rfl ?_
      exact XE_ireturn rfl dX6_when_65 rfl (Nat.le_refl _) (Nat.le_refl _)
    refine XE_tsw (c := 2) (t := 66) (off := 43) dX6_when_23 (by decide) (by decide) rfl rfl ?_ (fun h5 => ?_)
    · refine XE_aload_n (n := 67) dX6_when_66 rfl rfl rfl ?_
      refine XE_getr (b := 134) (n := 70) xf_X6_190 rfl rfl dX6_when_67 rfl ?_
      refine XE_iload_n (n := 71) dX6_when_70 rfl rfl rfl ?_
      refine XE_iald (row := t2 6) (n := 72) rfl rfl dX6_when_71 rfl ?_
      exact XE_ireturn rfl dX6_when_72 rfl (Nat.le_refl _) (Nat.le_refl _)
    refine XE_tsw (c := 3) (t := 73) (off := 50) dX6_when_23 (by decide) (by decide) rfl rfl ?_ (fun h6 => ?_)
    · refine XE_aload_n (n := 74) dX6_when_73 rfl rfl rfl ?_
      refine XE_iload_n (n := 75) dX6_when_74 rfl rfl rfl ?_
      refine XE_callV (ni := 1) (As := [.int a1]) (π := [2]) (co := [0, 1, 3, 4, 5, 6, 7, 8, 9, 10, 11, 12, 13, 14, 15, 16]) (cv := [m0, m1, m3, m4, m5, m6, m7, m8, m9, m10, m11, m12, m13, m14, m15, m16]) (nn := 17) (hs2 := fun t7 => [m0, m1, t2, m3, m4, m5, m6, m7, m8, m9, m10, m11, m12, m13, m14, m15, m16]) (st2 := fun t7 => [.int t7]) (n := 78) (b := 128) xc_X6_193 (fun l t ht => met_X2_lateOf l t2 a1 t ht) rfl rfl rfl rfl rfl dX6_when_75 (Nat.le_of_ble_eq_true rfl) ⟨Nat.zero_le _, Nat.zero_le _⟩ (Nat.le_of_ble_eq_true rfl) (Nat.le_of_ble_eq_true rfl) ok_35 rfl rfl rfl (fun _ => rfl) (fun _ => rfl) (fun _ => rfl) rfl (fun _ => rfl) rfl (fun t7 => ?_)
      exact XE_ireturn rfl dX6_when_78 rfl (Nat.le_refl _) (Nat.le_refl _)
    refine XE_tswd (t := 79) dX6_when_23 (by have q0 := x_ne h3 (z := 0) (by decide); have q1 := x_ne h4 (z := 1) (by decide); have q2 := x_ne h5 (z := 2) (by decide); have q3 := x_ne h6 (z := 3) (by decide); omega) rfl ?_
    refine XE_aload_n (n := 80) dX6_when_79 rfl rfl rfl ?_
    refine XE_bipush (v := (-2)) (n := 82) dX6_when_80 rfl (by decide) ?_
    refine XE_callVi (ni := 1) (As := [.int (-2)]) (st2 := fun t8 => [.int t8.1]) (n := 85) (b := 0) xc_X6_65 (fun l t ht => met_X6_refused l m0 m1 t2 m3 m4 m5 m6 m7 m8 m9 m10 m11 m12 m13 m14 m15 m16 (-2) t ht) rfl rfl rfl rfl dX6_when_82 (Nat.le_of_ble_eq_true rfl) ⟨Nat.zero_le _, Nat.zero_le _⟩ (Nat.le_of_ble_eq_true rfl) (Nat.le_of_ble_eq_true rfl) (fun _ => rfl) rfl (fun t8 => ?_)
    exact XE_ireturn rfl dX6_when_85 rfl (Nat.le_refl _) (Nat.le_refl _)
theorem met_X6_when (l : Launch) (m0 : Mem) (m1 : Mem) (m2 : Mem) (m3 : Mem) (m4 : Mem) (m5 : Mem) (m6 : Mem) (m7 : Mem) (m8 : Mem) (m9 : Mem) (m10 : Mem) (m11 : Mem) (m12 : Mem) (m13 : Mem) (m14 : Mem) (m15 : Mem) (m16 : Mem) (a1 : Int32) (a2 : Int32) (t : Int32 × Mem × Mem) (ht : f_X6_when m0 m1 m2 a1 a2 = some t) : XMet l yX6_when cX6_when 4 (some .int) 6 0 0 [.ref 0, .int a1, .int a2] SH_X [m0, m1, m2, m3, m4, m5, m6, m7, m8, m9, m10, m11, m12, m13, m14, m15, m16] SH_X (some (.int t.1), [t.2.1, m1, t.2.2, m3, m4, m5, m6, m7, m8, m9, m10, m11, m12, m13, m14, m15, m16]) := XMet.of (by decide +kernel) (fun _ => Nat.le_of_ble_eq_true rfl) (fun B => xe_X6_when B m0 m1 m2 m3 m4 m5 m6 m7 m8 m9 m10 m11 m12 m13 m14 m15 m16 a1 a2) (by rw [ht]; rfl)
/-! X6_waits: EveryTwentyMinutes.waits(I)I in world X at (0,) -/
abbrev M_X6_waits : XM := (RX6, cX6_waits, 2, (some .int), "waits", 6, 0, 0)
def f_X6_waits (m0 : Mem) (m1 : Mem) (m2 : Mem) (a1 : Int32) : Option (Int32 × Mem × Mem) :=
  (f_X2_has m1 a1).bind fun t1 =>
  if t1 = 0 then
    (f_X6_refused m0 (-1)).bind fun t4 =>
    some ((1000000000 - t4.1), t4.2, m2)
  else
    (f_X6_inMind m0 m1 m2).bind fun t2 =>
    (f_X2_waitOf t2 a1).bind fun t3 =>
    some (t3, m0, t2)
set_option maxRecDepth 100000 in
theorem xe_X6_waits (B : XB) (m0 : Mem) (m1 : Mem) (m2 : Mem) (m3 : Mem) (m4 : Mem) (m5 : Mem) (m6 : Mem) (m7 : Mem) (m8 : Mem) (m9 : Mem) (m10 : Mem) (m11 : Mem) (m12 : Mem) (m13 : Mem) (m14 : Mem) (m15 : Mem) (m16 : Mem) (a1 : Int32) : XE B M_X6_waits (XQm B 0 0 SH_X) 0 [(0, some (.ref 0)), (1, some (.int a1))] [] (0, 0) SH_X [m0, m1, m2, m3, m4, m5, m6, m7, m8, m9, m10, m11, m12, m13, m14, m15, m16] (fun t => some (some (.int t.1), [t.2.1, m1, t.2.2, m3, m4, m5, m6, m7, m8, m9, m10, m11, m12, m13, m14, m15, m16])) (f_X6_waits m0 m1 m2 a1) := by
  unfold f_X6_waits
  refine XE_aload_n (n := 1) dX6_waits_0 rfl rfl rfl ?_
  refine XE_getr (b := 64) (n := 4) xf_X6_10 rfl rfl dX6_waits_1 rfl ?_
  refine XE_iload_n (n := 5) dX6_waits_4 rfl rfl rfl ?_
  refine XE_callV (ni := 1) (As := [.int a1]) (π := [1]) (co := [0, 2, 3, 4, 5, 6, 7, 8, 9, 10, 11, 12, 13, 14, 15, 16]) (cv := [m0, m2, m3, m4, m5, m6, m7, m8, m9, m10, m11, m12, m13, m14, m15, m16]) (nn := 17) (hs2 := fun t1 => [m0, m1, m2, m3, m4, m5, m6, m7, m8, m9, m10, m11, m12, m13, m14, m15, m16]) (st2 := fun t1 => [.int t1]) (n := 8) (b := 64) xc_X6_95 (fun l t ht => met_X2_has l m1 a1 t ht) rfl rfl rfl rfl rfl dX6_waits_5 (Nat.le_of_ble_eq_true rfl) ⟨Nat.zero_le _, Nat.zero_le _⟩ (Nat.le_of_ble_eq_true rfl) (Nat.le_of_ble_eq_true rfl) ok_32 rfl rfl rfl (fun _ => rfl) (fun _ => rfl) (fun _ => rfl) rfl (fun _ => rfl) rfl (fun t1 => ?_)
  refine XE_if_ne (t := 20) (n := 11) dX6_waits_8 rfl rfl (fun h5 => ?_) (fun h5 => ?_)
  · refine XE_ldc (n := 13) dX6_waits_11 rfl xk_X6_196 ?_
    refine XE_aload_n (n := 14) dX6_waits_13 rfl rfl rfl ?_
    refine XE_iconst (v := (-1)) (n := 15) dX6_waits_14 rfl (by decide) ?_
    refine XE_callVi (ni := 1) (As := [.int (-1)]) (st2 := fun t4 => [.int t4.1, .int 1000000000]) (n := 18) (b := 0) xc_X6_65 (fun l t ht => met_X6_refused l m0 m1 m2 m3 m4 m5 m6 m7 m8 m9 m10 m11 m12 m13 m14 m15 m16 (-1) t ht) rfl rfl rfl rfl dX6_waits_15 (Nat.le_of_ble_eq_true rfl) ⟨Nat.zero_le _, Nat.zero_le _⟩ (Nat.le_of_ble_eq_true rfl) (Nat.le_of_ble_eq_true rfl) (fun _ => rfl) rfl (fun t4 => ?_)
    refine XE_isub (n := 19) dX6_waits_18 rfl ?_
    exact XE_ireturn rfl dX6_waits_19 rfl (Nat.le_refl _) (Nat.le_refl _)
  · refine XE_aload_n (n := 21) dX6_waits_20 rfl rfl rfl ?_
    refine XE_callVi (ni := 0) (As := []) (st2 := fun t2 => [.ref 128]) (n := 24) (b := 0) xc_X6_184 (fun l t ht => met_X6_inMind l m0 m1 m2 m3 m4 m5 m6 m7 m8 m9 m10 m11 m12 m13 m14 m15 m16 t ht) rfl rfl rfl rfl dX6_waits_21 (Nat.le_of_ble_eq_true rfl) ⟨Nat.zero_le _, Nat.zero_le _⟩ (Nat.le_of_ble_eq_true rfl) (Nat.le_of_ble_eq_true rfl) (fun _ => rfl) rfl (fun t2 => ?_)
    refine XE_iload_n (n := 25) dX6_waits_24 rfl rfl rfl ?_
    refine XE_callV (ni := 1) (As := [.int a1]) (π := [2]) (co := [0, 1, 3, 4, 5, 6, 7, 8, 9, 10, 11, 12, 13, 14, 15, 16]) (cv := [m0, m1, m3, m4, m5, m6, m7, m8, m9, m10, m11, m12, m13, m14, m15, m16]) (nn := 17) (hs2 := fun t3 => [m0, m1, t2, m3, m4, m5, m6, m7, m8, m9, m10, m11, m12, m13, m14, m15, m16]) (st2 := fun t3 => [.int t3]) (n := 28) (b := 128) xc_X6_197 (fun l t ht => met_X2_waitOf l t2 a1 t ht) rfl rfl rfl rfl rfl dX6_waits_25 (Nat.le_of_ble_eq_true rfl) ⟨Nat.zero_le _, Nat.zero_le _⟩ (Nat.le_of_ble_eq_true rfl) (Nat.le_of_ble_eq_true rfl) ok_35 rfl rfl rfl (fun _ => rfl) (fun _ => rfl) (fun _ => rfl) rfl (fun _ => rfl) rfl (fun t3 => ?_)
    exact XE_ireturn rfl dX6_waits_28 rfl (Nat.le_refl _) (Nat.le_refl _)
theorem met_X6_waits (l : Launch) (m0 : Mem) (m1 : Mem) (m2 : Mem) (m3 : Mem) (m4 : Mem) (m5 : Mem) (m6 : Mem) (m7 : Mem) (m8 : Mem) (m9 : Mem) (m10 : Mem) (m11 : Mem) (m12 : Mem) (m13 : Mem) (m14 : Mem) (m15 : Mem) (m16 : Mem) (a1 : Int32) (t : Int32 × Mem × Mem) (ht : f_X6_waits m0 m1 m2 a1 = some t) : XMet l yX6_waits cX6_waits 2 (some .int) 6 0 0 [.ref 0, .int a1] SH_X [m0, m1, m2, m3, m4, m5, m6, m7, m8, m9, m10, m11, m12, m13, m14, m15, m16] SH_X (some (.int t.1), [t.2.1, m1, t.2.2, m3, m4, m5, m6, m7, m8, m9, m10, m11, m12, m13, m14, m15, m16]) := XMet.of (by decide +kernel) (fun _ => Nat.le_of_ble_eq_true rfl) (fun B => xe_X6_waits B m0 m1 m2 m3 m4 m5 m6 m7 m8 m9 m10 m11 m12 m13 m14 m15 m16 a1) (by rw [ht]; rfl)
/-! X6_all: EveryTwentyMinutes.all(I)I in world X at (0,) -/
abbrev M_X6_all : XM := (RX6, cX6_all, 2, (some .int), "all", 6, 0, 0)
def f_X6_all (m0 : Mem) (m1 : Mem) (m2 : Mem) (a1 : Int32) : Option (Int32 × Mem × Mem) :=
  if a1 = 0 then
    (f_X6_inMind m0 m1 m2).bind fun t2 =>
    (f_X2_allLate t2).bind fun t3 =>
    some (t3, m0, t2)
  else
    if a1 = 1 then
      (f_X6_inMind m0 m1 m2).bind fun t5 =>
      (f_X2_last t5).bind fun t6 =>
      some (t6, m0, t5)
    else
      (f_X6_refused m0 (-2)).bind fun t7 =>
      some (t7.1, t7.2, m2)
set_option maxRecDepth 100000 in
theorem xe_X6_all (B : XB) (m0 : Mem) (m1 : Mem) (m2 : Mem) (m3 : Mem) (m4 : Mem) (m5 : Mem) (m6 : Mem) (m7 : Mem) (m8 : Mem) (m9 : Mem) (m10 : Mem) (m11 : Mem) (m12 : Mem) (m13 : Mem) (m14 : Mem) (m15 : Mem) (m16 : Mem) (a1 : Int32) : XE B M_X6_all (XQm B 0 0 SH_X) 0 [(0, some (.ref 0)), (1, some (.int a1))] [] (0, 0) SH_X [m0, m1, m2, m3, m4, m5, m6, m7, m8, m9, m10, m11, m12, m13, m14, m15, m16] (fun t => some (some (.int t.1), [t.2.1, m1, t.2.2, m3, m4, m5, m6, m7, m8, m9, m10, m11, m12, m13, m14, m15, m16])) (f_X6_all m0 m1 m2 a1) := by
  unfold f_X6_all
  refine XE_iload_n (n := 1) dX6_all_0 rfl rfl rfl ?_
  refine XE_lsw (c := 0) (t := 28) (off := 27) dX6_all_1 (by decide) (by decide) rfl ?_ (fun h1 => ?_)
  · refine XE_aload_n (n := 29) dX6_all_28 rfl rfl rfl ?_
    refine XE_callVi (ni := 0) (As := []) (st2 := fun t2 => [.ref 128]) (n := 32) (b := 0) xc_X6_184 (fun l t ht => met_X6_inMind l m0 m1 m2 m3 m4 m5 m6 m7 m8 m9 m10 m11 m12 m13 m14 m15 m16 t ht) rfl rfl rfl rfl dX6_all_29 (Nat.le_of_ble_eq_true rfl) ⟨Nat.zero_le _, Nat.zero_le _⟩ (Nat.le_of_ble_eq_true rfl) (Nat.le_of_ble_eq_true rfl) (fun _ => rfl) rfl (fun t2 => ?_)
    refine XE_callV (ni := 0) (As := []) (π := [2]) (co := [0, 1, 3, 4, 5, 6, 7, 8, 9, 10, 11, 12, 13, 14, 15, 16]) (cv := [m0, m1, m3, m4, m5, m6, m7, m8, m9, m10, m11, m12, m13, m14, m15, m16]) (nn := 17) (hs2 := fun t3 => [m0, m1, t2, m3, m4, m5, m6, m7, m8, m9, m10, m11, m12, m13, m14, m15, m16]) (st2 := fun t3 => [.int t3]) (n := 35) (b := 128) xc_X6_200 (fun l t ht => met_X2_allLate l t2 t ht) rfl rfl rfl rfl rfl dX6_all_32 (Nat.le_of_ble_eq_true rfl) ⟨Nat.zero_le _, Nat.zero_le _⟩ (Nat.le_of_ble_eq_true rfl) (Nat.le_of_ble_eq_true rfl) ok_35 rfl rfl rfl (fun _ => rfl) (fun _ => rfl) (fun _ => rfl) rfl (fun _ => rfl) rfl (fun t3 => ?_)
    exact XE_ireturn rfl dX6_all_35 rfl (Nat.le_refl _) (Nat.le_refl _)
  refine XE_lsw (c := 1) (t := 36) (off := 35) dX6_all_1 (by decide) (by decide) rfl ?_ (fun h4 => ?_)
  · refine XE_aload_n (n := 37) dX6_all_36 rfl rfl rfl ?_
    refine XE_callVi (ni := 0) (As := []) (st2 := fun t5 => [.ref 128]) (n := 40) (b := 0) xc_X6_184 (fun l t ht => met_X6_inMind l m0 m1 m2 m3 m4 m5 m6 m7 m8 m9 m10 m11 m12 m13 m14 m15 m16 t ht) rfl rfl rfl rfl dX6_all_37 (Nat.le_of_ble_eq_true rfl) ⟨Nat.zero_le _, Nat.zero_le _⟩ (Nat.le_of_ble_eq_true rfl) (Nat.le_of_ble_eq_true rfl) (fun _ => rfl) rfl (fun t5 => ?_)
    refine XE_callV (ni := 0) (As := []) (π := [2]) (co := [0, 1, 3, 4, 5, 6, 7, 8, 9, 10, 11, 12, 13, 14, 15, 16]) (cv := [m0, m1, m3, m4, m5, m6, m7, m8, m9, m10, m11, m12, m13, m14, m15, m16]) (nn := 17) (hs2 := fun t6 => [m0, m1, t5, m3, m4, m5, m6, m7, m8, m9, m10, m11, m12, m13, m14, m15, m16]) (st2 := fun t6 => [.int t6]) (n := 43) (b := 128) xc_X6_203 (fun l t ht => met_X2_last l t5 t ht) rfl rfl rfl rfl rfl dX6_all_40 (Nat.le_of_ble_eq_true rfl) ⟨Nat.zero_le _, Nat.zero_le _⟩ (Nat.le_of_ble_eq_true rfl) (Nat.le_of_ble_eq_true rfl) ok_35 rfl rfl rfl (fun _ => rfl) (fun _ => rfl) (fun _ => rfl) rfl (fun _ => rfl) rfl (fun t6 => ?_)
    exact XE_ireturn rfl dX6_all_43 rfl (Nat.le_refl _) (Nat.le_refl _)
  refine XE_lswd (t := 44) (off := 43) dX6_all_1 (by decide) ((lv_osw h1 rfl).trans ((lv_osw h4 rfl).trans (rfl))) rfl ?_
  refine XE_aload_n (n := 45) dX6_all_44 rfl rfl rfl ?_
  refine XE_bipush (v := (-2)) (n := 47) dX6_all_45 rfl (by decide) ?_
  refine XE_callVi (ni := 1) (As := [.int (-2)]) (st2 := fun t7 => [.int t7.1]) (n := 50) (b := 0) xc_X6_65 (fun l t ht => met_X6_refused l m0 m1 m2 m3 m4 m5 m6 m7 m8 m9 m10 m11 m12 m13 m14 m15 m16 (-2) t ht) rfl rfl rfl rfl dX6_all_47 (Nat.le_of_ble_eq_true rfl) ⟨Nat.zero_le _, Nat.zero_le _⟩ (Nat.le_of_ble_eq_true rfl) (Nat.le_of_ble_eq_true rfl) (fun _ => rfl) rfl (fun t7 => ?_)
  exact XE_ireturn rfl dX6_all_50 rfl (Nat.le_refl _) (Nat.le_refl _)
theorem met_X6_all (l : Launch) (m0 : Mem) (m1 : Mem) (m2 : Mem) (m3 : Mem) (m4 : Mem) (m5 : Mem) (m6 : Mem) (m7 : Mem) (m8 : Mem) (m9 : Mem) (m10 : Mem) (m11 : Mem) (m12 : Mem) (m13 : Mem) (m14 : Mem) (m15 : Mem) (m16 : Mem) (a1 : Int32) (t : Int32 × Mem × Mem) (ht : f_X6_all m0 m1 m2 a1 = some t) : XMet l yX6_all cX6_all 2 (some .int) 6 0 0 [.ref 0, .int a1] SH_X [m0, m1, m2, m3, m4, m5, m6, m7, m8, m9, m10, m11, m12, m13, m14, m15, m16] SH_X (some (.int t.1), [t.2.1, m1, t.2.2, m3, m4, m5, m6, m7, m8, m9, m10, m11, m12, m13, m14, m15, m16]) := XMet.of (by decide +kernel) (fun _ => Nat.le_of_ble_eq_true rfl) (fun B => xe_X6_all B m0 m1 m2 m3 m4 m5 m6 m7 m8 m9 m10 m11 m12 m13 m14 m15 m16 a1) (by rw [ht]; rfl)
/-! X6_met: EveryTwentyMinutes.met(I)I in world X at (0,) -/
abbrev M_X6_met : XM := (RX6, cX6_met, 2, (some .int), "met", 6, 0, 0)
def f_X6_met (m0 : Mem) (m1 : Mem) (m2 : Mem) (a1 : Int32) : Option (Int32 × Mem × Mem) :=
  if a1 = 0 then
    (f_X6_inMind m0 m1 m2).bind fun t2 =>
    (f_X2_meetings t2).bind fun t3 =>
    some (t3, m0, t2)
  else
    if a1 = 1 then
      (f_X6_inMind m0 m1 m2).bind fun t5 =>
      (f_X2_firstMeeting t5).bind fun t6 =>
      some (t6, m0, t5)
    else
      if a1 = 2 then
        (f_X6_inMind m0 m1 m2).bind fun t8 =>
        (f_X2_strayed t8).bind fun t9 =>
        some (t9, m0, t8)
      else
        (f_X6_refused m0 (-2)).bind fun t10 =>
        some (t10.1, t10.2, m2)
set_option maxRecDepth 100000 in
theorem xe_X6_met (B : XB) (m0 : Mem) (m1 : Mem) (m2 : Mem) (m3 : Mem) (m4 : Mem) (m5 : Mem) (m6 : Mem) (m7 : Mem) (m8 : Mem) (m9 : Mem) (m10 : Mem) (m11 : Mem) (m12 : Mem) (m13 : Mem) (m14 : Mem) (m15 : Mem) (m16 : Mem) (a1 : Int32) : XE B M_X6_met (XQm B 0 0 SH_X) 0 [(0, some (.ref 0)), (1, some (.int a1))] [] (0, 0) SH_X [m0, m1, m2, m3, m4, m5, m6, m7, m8, m9, m10, m11, m12, m13, m14, m15, m16] (fun t => some (some (.int t.1), [t.2.1, m1, t.2.2, m3, m4, m5, m6, m7, m8, m9, m10, m11, m12, m13, m14, m15, m16])) (f_X6_met m0 m1 m2 a1) := by
  unfold f_X6_met
  refine XE_iload_n (n := 1) dX6_met_0 rfl rfl rfl ?_
  refine XE_tsw (c := 0) (t := 28) (off := 27) dX6_met_1 (by decide) (by decide) rfl rfl ?_ (fun h1 => ?_)
  · refine XE_aload_n (n := 29) dX6_met_28 rfl rfl rfl ?_
    refine XE_callVi (ni := 0) (As := []) (st2 := fun t2 => [.ref 128]) (n := 32) (b := 0) xc_X6_184 (fun l t ht => met_X6_inMind l m0 m1 m2 m3 m4 m5 m6 m7 m8 m9 m10 m11 m12 m13 m14 m15 m16 t ht) rfl rfl rfl rfl dX6_met_29 (Nat.le_of_ble_eq_true rfl) ⟨Nat.zero_le _, Nat.zero_le _⟩ (Nat.le_of_ble_eq_true rfl) (Nat.le_of_ble_eq_true rfl) (fun _ => rfl) rfl (fun t2 => ?_)
    refine XE_callV (ni := 0) (As := []) (π := [2]) (co := [0, 1, 3, 4, 5, 6, 7, 8, 9, 10, 11, 12, 13, 14, 15, 16]) (cv := [m0, m1, m3, m4, m5, m6, m7, m8, m9, m10, m11, m12, m13, m14, m15, m16]) (nn := 17) (hs2 := fun t3 => [m0, m1, t2, m3, m4, m5, m6, m7, m8, m9, m10, m11, m12, m13, m14, m15, m16]) (st2 := fun t3 => [.int t3]) (n := 35) (b := 128) xc_X6_206 (fun l t ht => met_X2_meetings l t2 t ht) rfl rfl rfl rfl rfl dX6_met_32 (Nat.le_of_ble_eq_true rfl) ⟨Nat.zero_le _, Nat.zero_le _⟩ (Nat.le_of_ble_eq_true rfl) (Nat.le_of_ble_eq_true rfl) ok_35 rfl rfl rfl (fun _ => rfl) (fun _ => rfl) (fun _ => rfl) rfl (fun _ => rfl) rfl (fun t3 => ?_)
    exact XE_ireturn rfl dX6_met_35 rfl (Nat.le_refl _) (Nat.le_refl _)
  refine XE_tsw (c := 1) (t := 36) (off := 35) dX6_met_1 (by decide) (by decide) rfl rfl ?_ (fun h4 => ?_)
  · refine XE_aload_n (n := 37) dX6_met_36 rfl rfl rfl ?_
    refine XE_callVi (ni := 0) (As := []) (st2 := fun t5 => [.ref 128]) (n := 40) (b := 0) xc_X6_184 (fun l t ht => met_X6_inMind l m0 m1 m2 m3 m4 m5 m6 m7 m8 m9 m10 m11 m12 m13 m14 m15 m16 t ht) rfl rfl rfl rfl dX6_met_37 (Nat.le_of_ble_eq_true rfl) ⟨Nat.zero_le _, Nat.zero_le _⟩ (Nat.le_of_ble_eq_true rfl) (Nat.le_of_ble_eq_true rfl) (fun _ => rfl) rfl (fun t5 => ?_)
    refine XE_callV (ni := 0) (As := []) (π := [2]) (co := [0, 1, 3, 4, 5, 6, 7, 8, 9, 10, 11, 12, 13, 14, 15, 16]) (cv := [m0, m1, m3, m4, m5, m6, m7, m8, m9, m10, m11, m12, m13, m14, m15, m16]) (nn := 17) (hs2 := fun t6 => [m0, m1, t5, m3, m4, m5, m6, m7, m8, m9, m10, m11, m12, m13, m14, m15, m16]) (st2 := fun t6 => [.int t6]) (n := 43) (b := 128) xc_X6_209 (fun l t ht => met_X2_firstMeeting l t5 t ht) rfl rfl rfl rfl rfl dX6_met_40 (Nat.le_of_ble_eq_true rfl) ⟨Nat.zero_le _, Nat.zero_le _⟩ (Nat.le_of_ble_eq_true rfl) (Nat.le_of_ble_eq_true rfl) ok_35 rfl rfl rfl (fun _ => rfl) (fun _ => rfl) (fun _ => rfl) rfl (fun _ => rfl) rfl (fun t6 => ?_)
    exact XE_ireturn rfl dX6_met_43 rfl (Nat.le_refl _) (Nat.le_refl _)
  refine XE_tsw (c := 2) (t := 44) (off := 43) dX6_met_1 (by decide) (by decide) rfl rfl ?_ (fun h7 => ?_)
  · refine XE_aload_n (n := 45) dX6_met_44 rfl rfl rfl ?_
    refine XE_callVi (ni := 0) (As := []) (st2 := fun t8 => [.ref 128]) (n := 48) (b := 0) xc_X6_184 (fun l t ht => met_X6_inMind l m0 m1 m2 m3 m4 m5 m6 m7 m8 m9 m10 m11 m12 m13 m14 m15 m16 t ht) rfl rfl rfl rfl dX6_met_45 (Nat.le_of_ble_eq_true rfl) ⟨Nat.zero_le _, Nat.zero_le _⟩ (Nat.le_of_ble_eq_true rfl) (Nat.le_of_ble_eq_true rfl) (fun _ => rfl) rfl (fun t8 => ?_)
    refine XE_callV (ni := 0) (As := []) (π := [2]) (co := [0, 1, 3, 4, 5, 6, 7, 8, 9, 10, 11, 12, 13, 14, 15, 16]) (cv := [m0, m1, m3, m4, m5, m6, m7, m8, m9, m10, m11, m12, m13, m14, m15, m16]) (nn := 17) (hs2 := fun t9 => [m0, m1, t8, m3, m4, m5, m6, m7, m8, m9, m10, m11, m12, m13, m14, m15, m16]) (st2 := fun t9 => [.int t9]) (n := 51) (b := 128) xc_X6_212 (fun l t ht => met_X2_strayed l t8 t ht) rfl rfl rfl rfl rfl dX6_met_48 (Nat.le_of_ble_eq_true rfl) ⟨Nat.zero_le _, Nat.zero_le _⟩ (Nat.le_of_ble_eq_true rfl) (Nat.le_of_ble_eq_true rfl) ok_35 rfl rfl rfl (fun _ => rfl) (fun _ => rfl) (fun _ => rfl) rfl (fun _ => rfl) rfl (fun t9 => ?_)
    exact XE_ireturn rfl dX6_met_51 rfl (Nat.le_refl _) (Nat.le_refl _)
  refine XE_tswd (t := 52) dX6_met_1 (by have q0 := x_ne h1 (z := 0) (by decide); have q1 := x_ne h4 (z := 1) (by decide); have q2 := x_ne h7 (z := 2) (by decide); omega) rfl ?_
  refine XE_aload_n (n := 53) dX6_met_52 rfl rfl rfl ?_
  refine XE_bipush (v := (-2)) (n := 55) dX6_met_53 rfl (by decide) ?_
  refine XE_callVi (ni := 1) (As := [.int (-2)]) (st2 := fun t10 => [.int t10.1]) (n := 58) (b := 0) xc_X6_65 (fun l t ht => met_X6_refused l m0 m1 m2 m3 m4 m5 m6 m7 m8 m9 m10 m11 m12 m13 m14 m15 m16 (-2) t ht) rfl rfl rfl rfl dX6_met_55 (Nat.le_of_ble_eq_true rfl) ⟨Nat.zero_le _, Nat.zero_le _⟩ (Nat.le_of_ble_eq_true rfl) (Nat.le_of_ble_eq_true rfl) (fun _ => rfl) rfl (fun t10 => ?_)
  exact XE_ireturn rfl dX6_met_58 rfl (Nat.le_refl _) (Nat.le_refl _)
theorem met_X6_met (l : Launch) (m0 : Mem) (m1 : Mem) (m2 : Mem) (m3 : Mem) (m4 : Mem) (m5 : Mem) (m6 : Mem) (m7 : Mem) (m8 : Mem) (m9 : Mem) (m10 : Mem) (m11 : Mem) (m12 : Mem) (m13 : Mem) (m14 : Mem) (m15 : Mem) (m16 : Mem) (a1 : Int32) (t : Int32 × Mem × Mem) (ht : f_X6_met m0 m1 m2 a1 = some t) : XMet l yX6_met cX6_met 2 (some .int) 6 0 0 [.ref 0, .int a1] SH_X [m0, m1, m2, m3, m4, m5, m6, m7, m8, m9, m10, m11, m12, m13, m14, m15, m16] SH_X (some (.int t.1), [t.2.1, m1, t.2.2, m3, m4, m5, m6, m7, m8, m9, m10, m11, m12, m13, m14, m15, m16]) := XMet.of (by decide +kernel) (fun _ => Nat.le_of_ble_eq_true rfl) (fun B => xe_X6_met B m0 m1 m2 m3 m4 m5 m6 m7 m8 m9 m10 m11 m12 m13 m14 m15 m16 a1) (by rw [ht]; rfl)
set_option maxRecDepth 100000 in
theorem ok_36 : x_okc [14, 15, 1] SH_BH SH_X = true := by decide +kernel
/-! X6_best: EveryTwentyMinutes.best(I)I in world X at (0,) -/
abbrev M_X6_best : XM := (RX6, cX6_best, 2, (some .int), "best", 14, 0, 0)
def f_X6_best (m0 : Mem) (m1 : Mem) (m14 : Mem) (m15 : Mem) (a1 : Int32) : Option (Int32 × Mem × Mem × Mem) :=
  if (-1) ≤ a1 then
    (f_X0_find m14 m15 m1).bind fun t1 =>
    if a1 = (-1) then
      some ((t1.1 0 4), m0, t1.1, t1.2)
    else
      if (t1.1 0 3) ≤ a1 then
        some (((-9) : Int32), m0, t1.1, t1.2)
      else
        ck (inb a1 7) <|
        some ((t1.1 2 (ix a1)), m0, t1.1, t1.2)
  else
    (f_X6_refused m0 (-4)).bind fun t4 =>
    some (t4.1, t4.2, m14, m15)
set_option maxRecDepth 100000 in
theorem xe_X6_best (B : XB) (m0 : Mem) (m1 : Mem) (m2 : Mem) (m3 : Mem) (m4 : Mem) (m5 : Mem) (m6 : Mem) (m7 : Mem) (m8 : Mem) (m9 : Mem) (m10 : Mem) (m11 : Mem) (m12 : Mem) (m13 : Mem) (m14 : Mem) (m15 : Mem) (m16 : Mem) (a1 : Int32) : XE B M_X6_best (XQm B 0 0 SH_X) 0 [(0, some (.ref 0)), (1, some (.int a1))] [] (0, 0) SH_X [m0, m1, m2, m3, m4, m5, m6, m7, m8, m9, m10, m11, m12, m13, m14, m15, m16] (fun t => some (some (.int t.1), [t.2.1, m1, m2, m3, m4, m5, m6, m7, m8, m9, m10, m11, m12, m13, t.2.2.1, t.2.2.2, m16])) (f_X6_best m0 m1 m14 m15 a1) := by
  unfold f_X6_best
  refine XE_iload_n (n := 1) dX6_best_0 rfl rfl rfl ?_
  refine XE_iconst (v := (-1)) (n := 2) dX6_best_1 rfl (by decide) ?_
  refine XE_icmp_ge (t := 12) (n := 5) dX6_best_2 rfl rfl (fun h5 => ?_) (fun h5 => ?_)
  · refine XE_aload_n (n := 13) dX6_best_12 rfl rfl rfl ?_
    refine XE_getr (b := 896) (n := 16) xf_X6_43 rfl rfl dX6_best_13 rfl ?_
    refine XE_aload_n (n := 17) dX6_best_16 rfl rfl rfl ?_
    refine XE_getr (b := 64) (n := 20) xf_X6_10 rfl rfl dX6_best_17 rfl ?_
    refine XE_callV (ni := 1) (As := [.ref 64]) (π := [14, 15, 1]) (co := [0, 2, 3, 4, 5, 6, 7, 8, 9, 10, 11, 12, 13, 16]) (cv := [m0, m2, m3, m4, m5, m6, m7, m8, m9, m10, m11, m12, m13, m16]) (nn := 17) (hs2 := fun t1 => [m0, m1, m2, m3, m4, m5, m6, m7, m8, m9, m10, m11, m12, m13, t1.1, t1.2, m16]) (st2 := fun t1 => []) (n := 23) (b := 896) xc_X6_215 (fun l t ht => met_X0_find l m14 m15 m1 t ht) rfl rfl rfl rfl rfl dX6_best_20 (Nat.le_of_ble_eq_true rfl) ⟨Nat.zero_le _, Nat.zero_le _⟩ (Nat.le_of_ble_eq_true rfl) (Nat.le_of_ble_eq_true rfl) ok_36 rfl rfl rfl (fun _ => rfl) (fun _ => rfl) (fun _ => rfl) rfl (fun _ => rfl) rfl (fun t1 => ?_)
    refine XE_iload_n (n := 24) dX6_best_23 rfl rfl rfl ?_
    refine XE_iconst (v := (-1)) (n := 25) dX6_best_24 rfl (by decide) ?_
    refine XE_icmp_ne (t := 36) (n := 28) dX6_best_25 rfl rfl (fun h3 => ?_) (fun h3 => ?_)
    · refine XE_aload_n (n := 29) dX6_best_28 rfl rfl rfl ?_
      refine XE_getr (b := 896) (n := 32) xf_X6_43 rfl rfl dX6_best_29 rfl ?_
      refine XE_getf (v := t1.1 0 4) (n := 35) xf_X6_218 rfl rfl rfl dX6_best_32 rfl ?_
      exact XE_ireturn rfl dX6_best_35 rfl (Nat.le_refl _) (Nat.le_refl _)
    · refine XE_iload_n (n := 37) dX6_best_36 rfl rfl rfl ?_
      refine XE_aload_n (n := 38) dX6_best_37 rfl rfl rfl ?_
      refine XE_getr (b := 896) (n := 41) xf_X6_43 rfl rfl dX6_best_38 rfl ?_
      refine XE_getf (v := t1.1 0 3) (n := 44) xf_X6_221 rfl rfl rfl dX6_best_41 rfl ?_
      refine XE_icmp_ge (t := 59) (n := 47) dX6_best_44 rfl rfl (fun h2 => ?_) (fun h2 => ?_)
      · refine XE_bipush (v := (-9)) (n := 61) dX6_best_59 rfl (by decide) ?_
        exact XE_ireturn rfl dX6_best_61 rfl (Nat.le_refl _) (Nat.le_refl _)
      · refine XE_aload_n (n := 48) dX6_best_47 rfl rfl rfl ?_
        refine XE_getr (b := 896) (n := 51) xf_X6_43 rfl rfl dX6_best_48 rfl ?_
        refine XE_getr (b := 898) (n := 54) xf_X6_222 rfl rfl dX6_best_51 rfl ?_
        refine XE_iload_n (n := 55) dX6_best_54 rfl rfl rfl ?_
        refine XE_iald (row := t1.1 2) (n := 56) rfl rfl dX6_best_55 rfl ?_
        refine XE_goto (n := 61) dX6_best_56 rfl ?_
        exact XE_ireturn rfl dX6_best_61 rfl (Nat.le_refl _) (Nat.le_refl _)
  · refine XE_aload_n (n := 6) dX6_best_5 rfl rfl rfl ?_
    refine XE_bipush (v := (-4)) (n := 8) dX6_best_6 rfl (by decide) ?_
    refine XE_callVi (ni := 1) (As := [.int (-4)]) (st2 := fun t4 => [.int t4.1]) (n := 11) (b := 0) xc_X6_65 (fun l t ht => met_X6_refused l m0 m1 m2 m3 m4 m5 m6 m7 m8 m9 m10 m11 m12 m13 m14 m15 m16 (-4) t ht) rfl rfl rfl rfl dX6_best_8 (Nat.le_of_ble_eq_true rfl) ⟨Nat.zero_le _, Nat.zero_le _⟩ (Nat.le_of_ble_eq_true rfl) (Nat.le_of_ble_eq_true rfl) (fun _ => rfl) rfl (fun t4 => ?_)
    exact XE_ireturn rfl dX6_best_11 rfl (Nat.le_refl _) (Nat.le_refl _)
theorem met_X6_best (l : Launch) (m0 : Mem) (m1 : Mem) (m2 : Mem) (m3 : Mem) (m4 : Mem) (m5 : Mem) (m6 : Mem) (m7 : Mem) (m8 : Mem) (m9 : Mem) (m10 : Mem) (m11 : Mem) (m12 : Mem) (m13 : Mem) (m14 : Mem) (m15 : Mem) (m16 : Mem) (a1 : Int32) (t : Int32 × Mem × Mem × Mem) (ht : f_X6_best m0 m1 m14 m15 a1 = some t) : XMet l yX6_best cX6_best 2 (some .int) 14 0 0 [.ref 0, .int a1] SH_X [m0, m1, m2, m3, m4, m5, m6, m7, m8, m9, m10, m11, m12, m13, m14, m15, m16] SH_X (some (.int t.1), [t.2.1, m1, m2, m3, m4, m5, m6, m7, m8, m9, m10, m11, m12, m13, t.2.2.1, t.2.2.2, m16]) := XMet.of (by decide +kernel) (fun _ => Nat.le_of_ble_eq_true rfl) (fun B => xe_X6_best B m0 m1 m2 m3 m4 m5 m6 m7 m8 m9 m10 m11 m12 m13 m14 m15 m16 a1) (by rw [ht]; rfl)
/-! X6_lateBy: EveryTwentyMinutes.lateBy(LEveryTwentyMinutes$Hall;)I in world H at (0,) -/
abbrev M_X6_lateBy : XM := (RX6, cX6_lateBy, 1, (some .int), "lateBy", 5, 0, 0)
def f_X6_lateBy (m0 : Mem) : Option (Int32 × Mem) :=
  (f_X2_wedAll m0).bind fun t1 =>
  (f_X2_allLate t1).bind fun t2 =>
  some (t2, t1)
set_option maxRecDepth 100000 in
theorem xe_X6_lateBy (B : XB) (m0 : Mem) : XE B M_X6_lateBy (XQm B 0 0 SH_H) 0 [(0, some (.ref 0))] [] (0, 0) SH_H [m0] (fun t => some (some (.int t.1), [t.2])) (f_X6_lateBy m0) := by
  unfold f_X6_lateBy
  refine XE_aload_n (n := 1) dX6_lateBy_0 rfl rfl rfl ?_
  refine XE_callVi (ni := 0) (As := []) (st2 := fun t1 => []) (n := 4) (b := 0) xc_X6_226 (fun l t ht => met_X2_wedAll l m0 t ht) rfl rfl rfl rfl dX6_lateBy_1 (Nat.le_of_ble_eq_true rfl) ⟨Nat.zero_le _, Nat.zero_le _⟩ (Nat.le_of_ble_eq_true rfl) (Nat.le_of_ble_eq_true rfl) (fun _ => rfl) rfl (fun t1 => ?_)
  refine XE_aload_n (n := 5) dX6_lateBy_4 rfl rfl rfl ?_
  refine XE_callVi (ni := 0) (As := []) (st2 := fun t2 => [.int t2]) (n := 8) (b := 0) xc_X6_200 (fun l t ht => met_X2_allLate l t1 t ht) rfl rfl rfl rfl dX6_lateBy_5 (Nat.le_of_ble_eq_true rfl) ⟨Nat.zero_le _, Nat.zero_le _⟩ (Nat.le_of_ble_eq_true rfl) (Nat.le_of_ble_eq_true rfl) (fun _ => rfl) rfl (fun t2 => ?_)
  exact XE_ireturn rfl dX6_lateBy_8 rfl (Nat.le_refl _) (Nat.le_refl _)
theorem met_X6_lateBy (l : Launch) (m0 : Mem) (t : Int32 × Mem) (ht : f_X6_lateBy m0 = some t) : XMet l yX6_lateBy cX6_lateBy 1 (some .int) 5 0 0 [.ref 0] SH_H [m0] SH_H (some (.int t.1), [t.2]) := XMet.of (by decide +kernel) (fun _ => Nat.le_of_ble_eq_true rfl) (fun B => xe_X6_lateBy B m0) (by rw [ht]; rfl)
/-! X6_pull: EveryTwentyMinutes.pull()I in world X at (0,) -/
abbrev M_X6_pull : XM := (RX6, cX6_pull, 6, (some .int), "pull", 6, 0, 0)
def f_X6_pull_L13 (m0 : Mem) (m1 : Mem) : Nat → Int32 → Int32 → Int32 → Mem → Option (Int32 × Mem)
  | 0, _, _, _, _ => none
  | n + 1, v3, v4, v5, w6 =>
    if (m1 0 0) ≤ v5 then
      some (v4, w6)
    else
      (f_X2_isWed m1 v5).bind fun t7 =>
      if t7 = 0 then
        (f_X6_asNow m0 m1 w6).bind fun t9 =>
        (f_X2_putFirst t9 v5).bind fun t10 =>
        (f_X6_lateBy t10).bind fun t11 =>
        lt t11.1 fun v12 =>
        if v3 ≤ v12 then
          lt (v5 + 1) fun v13 =>
          (f_X6_pull_L13 m0 m1 n) v3 v4 v13 t11.2
        else
          lt (v5 + 1) fun v14 =>
          (f_X6_pull_L13 m0 m1 n) v12 v5 v14 t11.2
      else
        lt (v5 + 1) fun v8 =>
        (f_X6_pull_L13 m0 m1 n) v3 v4 v8 w6
def f_X6_pull (m0 : Mem) (m1 : Mem) (m2 : Mem) : Option (Int32 × Mem) :=
  (f_X6_inMind m0 m1 m2).bind fun t1 =>
  (f_X2_allLate t1).bind fun t2 =>
  (f_X6_pull_L13 m0 m1 6000 t2 ((-9) : Int32) (0 : Int32) t1).bind fun t18 =>
  some (t18.1, t18.2)
set_option maxRecDepth 100000 in
theorem f_X6_pull_L13_x {α R : Type} (B : XB) {Q : R → State → Prop} {k : α → Option R} {r : (Int32 × Mem) → Option α} (m0 : Mem) (m1 : Mem) (m3 : Mem) (m4 : Mem) (m5 : Mem) (m6 : Mem) (m7 : Mem) (m8 : Mem) (m9 : Mem) (m10 : Mem) (m11 : Mem) (m12 : Mem) (m13 : Mem) (m14 : Mem) (m15 : Mem) (m16 : Mem) (hE : ∀ t0 : (Int32 × Mem), XE B M_X6_pull Q 71 [(2, some (.int t0.1))] [] (0, 0) SH_X [m0, m1, t0.2, m3, m4, m5, m6, m7, m8, m9, m10, m11, m12, m13, m14, m15, m16] (fun t => (r t).bind k) (some t0)) : ∀ (n : Nat) (v3 : Int32) (v4 : Int32) (v5 : Int32) (w6 : Mem), XE B M_X6_pull Q 13 [(0, some (.ref 0)), (1, some (.int v3)), (2, some (.int v4)), (3, some (.int v5))] [] (0, 0) SH_X [m0, m1, w6, m3, m4, m5, m6, m7, m8, m9, m10, m11, m12, m13, m14, m15, m16] (fun t => (r t).bind k) (f_X6_pull_L13 m0 m1 n v3 v4 v5 w6) := by
  intro n
  induction n with
  | zero => intros; exact XE_none
  | succ n ih =>
    intro v3 v4 v5 w6
    rw [f_X6_pull_L13]
    refine XE_iload_n (n := 14) dX6_pull_13 rfl rfl rfl ?_
    refine XE_aload_n (n := 15) dX6_pull_14 rfl rfl rfl ?_
    refine XE_getr (b := 64) (n := 18) xf_X6_10 rfl rfl dX6_pull_15 rfl ?_
    refine XE_getf (v := m1 0 0) (n := 21) xf_X6_148 rfl rfl rfl dX6_pull_18 rfl ?_
    refine XE_icmp_ge (t := 71) (n := 24) dX6_pull_21 rfl rfl (fun h17 => ?_) (fun h17 => ?_)
    · refine XE_ls (x_sub_ok (ls' := [(2, some (.int v4))]) ⟨rfl, trivial⟩) ?_
      exact hE (v4, w6)
    · refine XE_aload_n (n := 25) dX6_pull_24 rfl rfl rfl ?_
      refine XE_getr (b := 64) (n := 28) xf_X6_10 rfl rfl dX6_pull_25 rfl ?_
      refine XE_iload_n (n := 29) dX6_pull_28 rfl rfl rfl ?_
      refine XE_callV (ni := 1) (As := [.int v5]) (π := [1]) (co := [0, 2, 3, 4, 5, 6, 7, 8, 9, 10, 11, 12, 13, 14, 15, 16]) (cv := [m0, w6, m3, m4, m5, m6, m7, m8, m9, m10, m11, m12, m13, m14, m15, m16]) (nn := 17) (hs2 := fun t7 => [m0, m1, w6, m3, m4, m5, m6, m7, m8, m9, m10, m11, m12, m13, m14, m15, m16]) (st2 := fun t7 => [.int t7]) (n := 32) (b := 64) xc_X6_107 (fun l t ht => met_X2_isWed l m1 v5 t ht) rfl rfl rfl rfl rfl dX6_pull_29 (Nat.le_of_ble_eq_true rfl) ⟨Nat.zero_le _, Nat.zero_le _⟩ (Nat.le_of_ble_eq_true rfl) (Nat.le_of_ble_eq_true rfl) ok_32 rfl rfl rfl (fun _ => rfl) (fun _ => rfl) (fun _ => rfl) rfl (fun _ => rfl) rfl (fun t7 => ?_)
      refine XE_if_ne (t := 65) (n := 35) dX6_pull_32 rfl rfl (fun h16 => ?_) (fun h16 => ?_)
      · refine XE_aload_n (n := 36) dX6_pull_35 rfl rfl rfl ?_
        refine XE_callVi (ni := 0) (As := []) (st2 := fun t9 => [.ref 128]) (n := 39) (b := 0) xc_X6_80 (fun l t ht => met_X6_asNow l m0 m1 w6 m3 m4 m5 m6 m7 m8 m9 m10 m11 m12 m13 m14 m15 m16 t ht) rfl rfl rfl rfl dX6_pull_36 (Nat.le_of_ble_eq_true rfl) ⟨Nat.zero_le _, Nat.zero_le _⟩ (Nat.le_of_ble_eq_true rfl) (Nat.le_of_ble_eq_true rfl) (fun _ => rfl) rfl (fun t9 => ?_)
        refine XE_astore (i := 4) (n := 41) dX6_pull_39 rfl (Nat.le_of_ble_eq_true rfl) rfl ?_
        refine XE_aload (n := 43) dX6_pull_41 rfl rfl ?_
        refine XE_iload_n (n := 44) dX6_pull_43 rfl rfl rfl ?_
        refine XE_callV (ni := 1) (As := [.int v5]) (π := [2]) (co := [0, 1, 3, 4, 5, 6, 7, 8, 9, 10, 11, 12, 13, 14, 15, 16]) (cv := [m0, m1, m3, m4, m5, m6, m7, m8, m9, m10, m11, m12, m13, m14, m15, m16]) (nn := 17) (hs2 := fun t10 => [m0, m1, t10, m3, m4, m5, m6, m7, m8, m9, m10, m11, m12, m13, m14, m15, m16]) (st2 := fun t10 => []) (n := 47) (b := 128) xc_X6_167 (fun l t ht => met_X2_putFirst l t9 v5 t ht) rfl rfl rfl rfl rfl dX6_pull_44 (Nat.le_of_ble_eq_true rfl) ⟨Nat.zero_le _, Nat.zero_le _⟩ (Nat.le_of_ble_eq_true rfl) (Nat.le_of_ble_eq_true rfl) ok_35 rfl rfl rfl (fun _ => rfl) (fun _ => rfl) (fun _ => rfl) rfl (fun _ => rfl) rfl (fun t10 => ?_)
        refine XE_aload (n := 49) dX6_pull_47 rfl rfl ?_
        refine XE_callS (ni := 1) (As := [.ref 128]) (π := [2]) (co := [0, 1, 3, 4, 5, 6, 7, 8, 9, 10, 11, 12, 13, 14, 15, 16]) (cv := [m0, m1, m3, m4, m5, m6, m7, m8, m9, m10, m11, m12, m13, m14, m15, m16]) (nn := 17) (hs2 := fun t11 => [m0, m1, t11.2, m3, m4, m5, m6, m7, m8, m9, m10, m11, m12, m13, m14, m15, m16]) (st2 := fun t11 => [.int t11.1]) (n := 52) xc_X6_223 (fun l t ht => met_X6_lateBy l t10 t ht) rfl rfl rfl dX6_pull_49 (Nat.le_of_ble_eq_true rfl) ⟨Nat.zero_le _, Nat.zero_le _⟩ (Nat.le_of_ble_eq_true rfl) (Nat.le_of_ble_eq_true rfl) ok_35 rfl rfl rfl (fun _ => rfl) (fun _ => rfl) (fun _ => rfl) rfl (fun _ => rfl) rfl (fun t11 => ?_)
        refine XE_topi (fun v12 => ?_)
        refine XE_istore (i := 5) (n := 54) dX6_pull_52 rfl (Nat.le_of_ble_eq_true rfl) rfl ?_
        refine XE_iload (n := 56) dX6_pull_54 rfl rfl ?_
        refine XE_iload_n (n := 57) dX6_pull_56 rfl rfl rfl ?_
        refine XE_icmp_ge (t := 65) (n := 60) dX6_pull_57 rfl rfl (fun h15 => ?_) (fun h15 => ?_)
        · refine XE_iincl (n := 68) dX6_pull_65 rfl rfl (by decide) (Nat.le_of_ble_eq_true rfl) rfl (fun v13 => ?_)
          refine XE_goto (n := 13) dX6_pull_68 rfl ?_
          refine XE_ls (x_sub_ok (ls' := [(0, some (.ref 0)), (1, some (.int v3)), (2, some (.int v4)), (3, some (.int v13))]) ⟨rfl, rfl, rfl, rfl, trivial⟩) ?_
          exact ih v3 v4 v13 t11.2
        · refine XE_iload (n := 62) dX6_pull_60 rfl rfl ?_
          refine XE_istore_n (i := 1) (n := 63) dX6_pull_62 rfl rfl (Nat.le_of_ble_eq_true rfl) rfl ?_
          refine XE_iload_n (n := 64) dX6_pull_63 rfl rfl rfl ?_
          refine XE_istore_n (i := 2) (n := 65) dX6_pull_64 rfl rfl (Nat.le_of_ble_eq_true rfl) rfl ?_
          refine XE_iincl (n := 68) dX6_pull_65 rfl rfl (by decide) (Nat.le_of_ble_eq_true rfl) rfl (fun v14 => ?_)
          refine XE_goto (n := 13) dX6_pull_68 rfl ?_
          refine XE_ls (x_sub_ok (ls' := [(0, some (.ref 0)), (1, some (.int v12)), (2, some (.int v5)), (3, some (.int v14))]) ⟨rfl, rfl, rfl, rfl, trivial⟩) ?_
          exact ih v12 v5 v14 t11.2
      · refine XE_iincl (n := 68) dX6_pull_65 rfl rfl (by decide) (Nat.le_of_ble_eq_true rfl) rfl (fun v8 => ?_)
        refine XE_goto (n := 13) dX6_pull_68 rfl ?_
        refine XE_ls (x_sub_ok (ls' := [(0, some (.ref 0)), (1, some (.int v3)), (2, some (.int v4)), (3, some (.int v8))]) ⟨rfl, rfl, rfl, rfl, trivial⟩) ?_
        exact ih v3 v4 v8 w6
set_option maxRecDepth 100000 in
theorem xe_X6_pull (B : XB) (m0 : Mem) (m1 : Mem) (m2 : Mem) (m3 : Mem) (m4 : Mem) (m5 : Mem) (m6 : Mem) (m7 : Mem) (m8 : Mem) (m9 : Mem) (m10 : Mem) (m11 : Mem) (m12 : Mem) (m13 : Mem) (m14 : Mem) (m15 : Mem) (m16 : Mem) : XE B M_X6_pull (XQm B 0 0 SH_X) 0 [(0, some (.ref 0))] [] (0, 0) SH_X [m0, m1, m2, m3, m4, m5, m6, m7, m8, m9, m10, m11, m12, m13, m14, m15, m16] (fun t => some (some (.int t.1), [m0, m1, t.2, m3, m4, m5, m6, m7, m8, m9, m10, m11, m12, m13, m14, m15, m16])) (f_X6_pull m0 m1 m2) := by
  unfold f_X6_pull
  refine XE_aload_n (n := 1) dX6_pull_0 rfl rfl rfl ?_
  refine XE_callVi (ni := 0) (As := []) (st2 := fun t1 => [.ref 128]) (n := 4) (b := 0) xc_X6_184 (fun l t ht => met_X6_inMind l m0 m1 m2 m3 m4 m5 m6 m7 m8 m9 m10 m11 m12 m13 m14 m15 m16 t ht) rfl rfl rfl rfl dX6_pull_1 (Nat.le_of_ble_eq_true rfl) ⟨Nat.zero_le _, Nat.zero_le _⟩ (Nat.le_of_ble_eq_true rfl) (Nat.le_of_ble_eq_true rfl) (fun _ => rfl) rfl (fun t1 => ?_)
  refine XE_callV (ni := 0) (As := []) (π := [2]) (co := [0, 1, 3, 4, 5, 6, 7, 8, 9, 10, 11, 12, 13, 14, 15, 16]) (cv := [m0, m1, m3, m4, m5, m6, m7, m8, m9, m10, m11, m12, m13, m14, m15, m16]) (nn := 17) (hs2 := fun t2 => [m0, m1, t1, m3, m4, m5, m6, m7, m8, m9, m10, m11, m12, m13, m14, m15, m16]) (st2 := fun t2 => [.int t2]) (n := 7) (b := 128) xc_X6_200 (fun l t ht => met_X2_allLate l t1 t ht) rfl rfl rfl rfl rfl dX6_pull_4 (Nat.le_of_ble_eq_true rfl) ⟨Nat.zero_le _, Nat.zero_le _⟩ (Nat.le_of_ble_eq_true rfl) (Nat.le_of_ble_eq_true rfl) ok_35 rfl rfl rfl (fun _ => rfl) (fun _ => rfl) (fun _ => rfl) rfl (fun _ => rfl) rfl (fun t2 => ?_)
  refine XE_istore_n (i := 1) (n := 8) dX6_pull_7 rfl rfl (Nat.le_of_ble_eq_true rfl) rfl ?_
  refine XE_bipush (v := (-9)) (n := 10) dX6_pull_8 rfl (by decide) ?_
  refine XE_istore_n (i := 2) (n := 11) dX6_pull_10 rfl rfl (Nat.le_of_ble_eq_true rfl) rfl ?_
  refine XE_iconst (v := 0) (n := 12) dX6_pull_11 rfl (by decide) ?_
  refine XE_istore_n (i := 3) (n := 13) dX6_pull_12 rfl rfl (Nat.le_of_ble_eq_true rfl) rfl ?_
  refine XE_ls (x_sub_ok (ls' := [(0, some (.ref 0)), (1, some (.int t2)), (2, some (.int (-9))), (3, some (.int 0))]) ⟨rfl, rfl, rfl, rfl, trivial⟩) ?_
  refine XE_reg (J := 71) (lsJ := fun t18 => [(2, some (.int t18.1))]) (stJ := fun t18 => []) (hsJ := fun t18 => [m0, m1, t18.2, m3, m4, m5, m6, m7, m8, m9, m10, m11, m12, m13, m14, m15, m16]) (fun t18 => ?_) (fun hJ19 => f_X6_pull_L13_x B m0 m1 m3 m4 m5 m6 m7 m8 m9 m10 m11 m12 m13 m14 m15 m16 hJ19 6000 t2 ((-9) : Int32) (0 : Int32) t1)
  refine XE_iload_n (n := 72) dX6_pull_71 rfl rfl rfl ?_
  exact XE_ireturn rfl dX6_pull_72 rfl (Nat.le_refl _) (Nat.le_refl _)
theorem met_X6_pull (l : Launch) (m0 : Mem) (m1 : Mem) (m2 : Mem) (m3 : Mem) (m4 : Mem) (m5 : Mem) (m6 : Mem) (m7 : Mem) (m8 : Mem) (m9 : Mem) (m10 : Mem) (m11 : Mem) (m12 : Mem) (m13 : Mem) (m14 : Mem) (m15 : Mem) (m16 : Mem) (t : Int32 × Mem) (ht : f_X6_pull m0 m1 m2 = some t) : XMet l yX6_pull cX6_pull 6 (some .int) 6 0 0 [.ref 0] SH_X [m0, m1, m2, m3, m4, m5, m6, m7, m8, m9, m10, m11, m12, m13, m14, m15, m16] SH_X (some (.int t.1), [m0, m1, t.2, m3, m4, m5, m6, m7, m8, m9, m10, m11, m12, m13, m14, m15, m16]) := XMet.of (by decide +kernel) (fun _ => Nat.le_of_ble_eq_true rfl) (fun B => xe_X6_pull B m0 m1 m2 m3 m4 m5 m6 m7 m8 m9 m10 m11 m12 m13 m14 m15 m16) (by rw [ht]; rfl)
/-! X6_bestSlack: EveryTwentyMinutes.bestSlack(I)I in world X at (0,) -/
abbrev M_X6_bestSlack : XM := (RX6, cX6_bestSlack, 7, (some .int), "bestSlack", 6, 0, 0)
def f_X6_bestSlack_L24 (m0 : Mem) (m1 : Mem) : Nat → Int32 → Int32 → Int32 → Mem → Option (Int32 × Int32 × Mem)
  | 0, _, _, _, _ => none
  | n + 1, v6, v7, v8, w9 =>
    if 9 < v8 then
      some (v6, v7, w9)
    else
      (f_X6_asNow m0 m1 w9).bind fun t10 =>
      lt (xs t10 0 13 v8) fun w11 =>
      (f_X6_lateBy w11).bind fun t12 =>
      (f_X2_meetings t12.2).bind fun t13 =>
      lt (t12.1 + (5 * t13)) fun v14 =>
      if v6 ≤ v14 then
        lt (v8 + 1) fun v15 =>
        (f_X6_bestSlack_L24 m0 m1 n) v6 v7 v15 t12.2
      else
        lt (v8 + 1) fun v16 =>
        (f_X6_bestSlack_L24 m0 m1 n) v14 v8 v16 t12.2
def f_X6_bestSlack_J24 (m0 : Mem) (m1 : Mem) (m2 : Mem) (v2 : Int32) (v3 : Int32) (v4 : Int32) (v5 : Int32) : Option (Int32 × Mem × Mem) :=
  (f_X6_bestSlack_L24 m0 m1 6000 v3 v4 v5 m2).bind fun t19 =>
  if v2 = 0 then
    some (t19.2.1, m0, t19.2.2)
  else
    some (t19.1, m0, t19.2.2)
def f_X6_bestSlack_J16 (m0 : Mem) (m1 : Mem) (m2 : Mem) (v1 : Int32) : Option (Int32 × Mem × Mem) :=
  f_X6_bestSlack_J24 m0 m1 m2 v1 (1000000000 : Int32) (0 : Int32) (0 : Int32)
def f_X6_bestSlack (m0 : Mem) (m1 : Mem) (m2 : Mem) (a1 : Int32) : Option (Int32 × Mem × Mem) :=
  if a1 = 0 then
    f_X6_bestSlack_J16 m0 m1 m2 a1
  else
    if a1 = 1 then
      f_X6_bestSlack_J16 m0 m1 m2 a1
    else
      (f_X6_refused m0 (-2)).bind fun t22 =>
      some (t22.1, t22.2, m2)
set_option maxRecDepth 100000 in
theorem f_X6_bestSlack_L24_x {α R : Type} (B : XB) {Q : R → State → Prop} {k : α → Option R} {r : (Int32 × Int32 × Mem) → Option α} (m0 : Mem) (m1 : Mem) (m3 : Mem) (m4 : Mem) (m5 : Mem) (m6 : Mem) (m7 : Mem) (m8 : Mem) (m9 : Mem) (m10 : Mem) (m11 : Mem) (m12 : Mem) (m13 : Mem) (m14 : Mem) (m15 : Mem) (m16 : Mem) (v2 : Int32) (hE : ∀ t0 : (Int32 × Int32 × Mem), XE B M_X6_bestSlack Q 77 [(1, some (.int v2)), (2, some (.int t0.1)), (3, some (.int t0.2.1))] [] (0, 0) SH_X [m0, m1, t0.2.2, m3, m4, m5, m6, m7, m8, m9, m10, m11, m12, m13, m14, m15, m16] (fun t => (r t).bind k) (some t0)) : ∀ (n : Nat) (v6 : Int32) (v7 : Int32) (v8 : Int32) (w9 : Mem), XE B M_X6_bestSlack Q 24 [(0, some (.ref 0)), (1, some (.int v2)), (2, some (.int v6)), (3, some (.int v7)), (4, some (.int v8))] [] (0, 0) SH_X [m0, m1, w9, m3, m4, m5, m6, m7, m8, m9, m10, m11, m12, m13, m14, m15, m16] (fun t => (r t).bind k) (f_X6_bestSlack_L24 m0 m1 n v6 v7 v8 w9) := by
  intro n
  induction n with
  | zero => intros; exact XE_none
  | succ n ih =>
    intro v6 v7 v8 w9
    rw [f_X6_bestSlack_L24]
    refine XE_iload (n := 26) dX6_bestSlack_24 rfl rfl ?_
    refine XE_bipush (v := 9) (n := 28) dX6_bestSlack_26 rfl (by decide) ?_
    refine XE_icmp_gt (t := 77) (n := 31) dX6_bestSlack_28 rfl rfl (fun h18 => ?_) (fun h18 => ?_)
    · refine XE_ls (x_sub_ok (ls' := [(1, some (.int v2)), (2, some (.int v6)), (3, some (.int v7))]) ⟨rfl, rfl, rfl, trivial⟩) ?_
      exact hE (v6, v7, w9)
    · refine XE_aload_n (n := 32) dX6_bestSlack_31 rfl rfl rfl ?_
      refine XE_callVi (ni := 0) (As := []) (st2 := fun t10 => [.ref 128]) (n := 35) (b := 0) xc_X6_80 (fun l t ht => met_X6_asNow l m0 m1 w9 m3 m4 m5 m6 m7 m8 m9 m10 m11 m12 m13 m14 m15 m16 t ht) rfl rfl rfl rfl dX6_bestSlack_32 (Nat.le_of_ble_eq_true rfl) ⟨Nat.zero_le _, Nat.zero_le _⟩ (Nat.le_of_ble_eq_true rfl) (Nat.le_of_ble_eq_true rfl) (fun _ => rfl) rfl (fun t10 => ?_)
      refine XE_astore (i := 5) (n := 37) dX6_bestSlack_35 rfl (Nat.le_of_ble_eq_true rfl) rfl ?_
      refine XE_aload (n := 39) dX6_bestSlack_37 rfl rfl ?_
      refine XE_iload (n := 41) dX6_bestSlack_39 rfl rfl ?_
      refine XE_putf (hs2 := fun w11 => [m0, m1, w11, m3, m4, m5, m6, m7, m8, m9, m10, m11, m12, m13, m14, m15, m16]) (n := 44) xf_X6_170 rfl rfl rfl rfl (Nat.le_of_ble_eq_true rfl) (fun _ => rfl) dX6_bestSlack_41 rfl (fun w11 => ?_)
      refine XE_aload (n := 46) dX6_bestSlack_44 rfl rfl ?_
      refine XE_callS (ni := 1) (As := [.ref 128]) (π := [2]) (co := [0, 1, 3, 4, 5, 6, 7, 8, 9, 10, 11, 12, 13, 14, 15, 16]) (cv := [m0, m1, m3, m4, m5, m6, m7, m8, m9, m10, m11, m12, m13, m14, m15, m16]) (nn := 17) (hs2 := fun t12 => [m0, m1, t12.2, m3, m4, m5, m6, m7, m8, m9, m10, m11, m12, m13, m14, m15, m16]) (st2 := fun t12 => [.int t12.1]) (n := 49) xc_X6_223 (fun l t ht => met_X6_lateBy l w11 t ht) rfl rfl rfl dX6_bestSlack_46 (Nat.le_of_ble_eq_true rfl) ⟨Nat.zero_le _, Nat.zero_le _⟩ (Nat.le_of_ble_eq_true rfl) (Nat.le_of_ble_eq_true rfl) ok_35 rfl rfl rfl (fun _ => rfl) (fun _ => rfl) (fun _ => rfl) rfl (fun _ => rfl) rfl (fun t12 => ?_)
      refine XE_iconst (v := 5) (n := 50) dX6_bestSlack_49 rfl (by decide) ?_
      refine XE_aload (n := 52) dX6_bestSlack_50 rfl rfl ?_
      refine XE_callV (ni := 0) (As := []) (π := [2]) (co := [0, 1, 3, 4, 5, 6, 7, 8, 9, 10, 11, 12, 13, 14, 15, 16]) (cv := [m0, m1, m3, m4, m5, m6, m7, m8, m9, m10, m11, m12, m13, m14, m15, m16]) (nn := 17) (hs2 := fun t13 => [m0, m1, t12.2, m3, m4, m5, m6, m7, m8, m9, m10, m11, m12, m13, m14, m15, m16]) (st2 := fun t13 => [.int t13, .int 5, .int t12.1]) (n := 55) (b := 128) xc_X6_206 (fun l t ht => met_X2_meetings l t12.2 t ht) rfl rfl rfl rfl rfl dX6_bestSlack_52 (Nat.le_of_ble_eq_true rfl) ⟨Nat.zero_le _, Nat.zero_le _⟩ (Nat.le_of_ble_eq_true rfl) (Nat.le_of_ble_eq_true rfl) ok_35 rfl rfl rfl (fun _ => rfl) (fun _ => rfl) (fun _ => rfl) rfl (fun _ => rfl) rfl (fun t13 => ?_)
      refine XE_imul (n := 56) dX6_bestSlack_55 rfl ?_
      refine XE_iadd (n := 57) dX6_bestSlack_56 rfl ?_
      refine XE_topi (fun v14 => ?_)
      refine XE_istore (i := 6) (n := 59) dX6_bestSlack_57 rfl (Nat.le_of_ble_eq_true rfl) rfl ?_
      refine XE_iload (n := 61) dX6_bestSlack_59 rfl rfl ?_
      refine XE_iload_n (n := 62) dX6_bestSlack_61 rfl rfl rfl ?_
      refine XE_icmp_ge (t := 71) (n := 65) dX6_bestSlack_62 rfl rfl (fun h17 => ?_) (fun h17 => ?_)
      · refine XE_iincl (n := 74) dX6_bestSlack_71 rfl rfl (by decide) (Nat.le_of_ble_eq_true rfl) rfl (fun v15 => ?_)
        refine XE_goto (n := 24) dX6_bestSlack_74 rfl ?_
        refine XE_ls (x_sub_ok (ls' := [(0, some (.ref 0)), (1, some (.int v2)), (2, some (.int v6)), (3, some (.int v7)), (4, some (.int v15))]) ⟨rfl, rfl, rfl, rfl, rfl, trivial⟩) ?_
        exact ih v6 v7 v15 t12.2
      · refine XE_iload (n := 67) dX6_bestSlack_65 rfl rfl ?_
        refine XE_istore_n (i := 2) (n := 68) dX6_bestSlack_67 rfl rfl (Nat.le_of_ble_eq_true rfl) rfl ?_
        refine XE_iload (n := 70) dX6_bestSlack_68 rfl rfl ?_
        refine XE_istore_n (i := 3) (n := 71) dX6_bestSlack_70 rfl rfl (Nat.le_of_ble_eq_true rfl) rfl ?_
        refine XE_iincl (n := 74) dX6_bestSlack_71 rfl rfl (by decide) (Nat.le_of_ble_eq_true rfl) rfl (fun v16 => ?_)
        refine XE_goto (n := 24) dX6_bestSlack_74 rfl ?_
        refine XE_ls (x_sub_ok (ls' := [(0, some (.ref 0)), (1, some (.int v2)), (2, some (.int v14)), (3, some (.int v8)), (4, some (.int v16))]) ⟨rfl, rfl, rfl, rfl, rfl, trivial⟩) ?_
        exact ih v14 v8 v16 t12.2
set_option maxRecDepth 100000 in
theorem f_X6_bestSlack_J24_x (B : XB) (m0 : Mem) (m1 : Mem) (m2 : Mem) (m3 : Mem) (m4 : Mem) (m5 : Mem) (m6 : Mem) (m7 : Mem) (m8 : Mem) (m9 : Mem) (m10 : Mem) (m11 : Mem) (m12 : Mem) (m13 : Mem) (m14 : Mem) (m15 : Mem) (m16 : Mem) (v2 : Int32) (v3 : Int32) (v4 : Int32) (v5 : Int32) : XE B M_X6_bestSlack (XQm B 0 0 SH_X) 24 [(0, some (.ref 0)), (1, some (.int v2)), (2, some (.int v3)), (3, some (.int v4)), (4, some (.int v5))] [] (0, 0) SH_X [m0, m1, m2, m3, m4, m5, m6, m7, m8, m9, m10, m11, m12, m13, m14, m15, m16] (fun t => some (some (.int t.1), [t.2.1, m1, t.2.2, m3, m4, m5, m6, m7, m8, m9, m10, m11, m12, m13, m14, m15, m16])) (f_X6_bestSlack_J24 m0 m1 m2 v2 v3 v4 v5) := by
  unfold f_X6_bestSlack_J24
  refine XE_ls (x_sub_ok (ls' := [(0, some (.ref 0)), (1, some (.int v2)), (2, some (.int v3)), (3, some (.int v4)), (4, some (.int v5))]) ⟨rfl, rfl, rfl, rfl, rfl, trivial⟩) ?_
  refine XE_reg (J := 77) (lsJ := fun t19 => [(1, some (.int v2)), (2, some (.int t19.1)), (3, some (.int t19.2.1))]) (stJ := fun t19 => []) (hsJ := fun t19 => [m0, m1, t19.2.2, m3, m4, m5, m6, m7, m8, m9, m10, m11, m12, m13, m14, m15, m16]) (fun t19 => ?_) (fun hJ21 => f_X6_bestSlack_L24_x B m0 m1 m3 m4 m5 m6 m7 m8 m9 m10 m11 m12 m13 m14 m15 m16 v2 hJ21 6000 v3 v4 v5 m2)
  refine XE_iload_n (n := 78) dX6_bestSlack_77 rfl rfl rfl ?_
  refine XE_if_ne (t := 85) (n := 81) dX6_bestSlack_78 rfl rfl (fun h20 => ?_) (fun h20 => ?_)
  · refine XE_iload_n (n := 82) dX6_bestSlack_81 rfl rfl rfl ?_
    refine XE_goto (n := 86) dX6_bestSlack_82 rfl ?_
    exact XE_ireturn rfl dX6_bestSlack_86 rfl (Nat.le_refl _) (Nat.le_refl _)
  · refine XE_iload_n (n := 86) dX6_bestSlack_85 rfl rfl rfl ?_
    exact XE_ireturn rfl dX6_bestSlack_86 rfl (Nat.le_refl _) (Nat.le_refl _)
set_option maxRecDepth 100000 in
theorem f_X6_bestSlack_J16_x (B : XB) (m0 : Mem) (m1 : Mem) (m2 : Mem) (m3 : Mem) (m4 : Mem) (m5 : Mem) (m6 : Mem) (m7 : Mem) (m8 : Mem) (m9 : Mem) (m10 : Mem) (m11 : Mem) (m12 : Mem) (m13 : Mem) (m14 : Mem) (m15 : Mem) (m16 : Mem) (v1 : Int32) : XE B M_X6_bestSlack (XQm B 0 0 SH_X) 16 [(0, some (.ref 0)), (1, some (.int v1))] [] (0, 0) SH_X [m0, m1, m2, m3, m4, m5, m6, m7, m8, m9, m10, m11, m12, m13, m14, m15, m16] (fun t => some (some (.int t.1), [t.2.1, m1, t.2.2, m3, m4, m5, m6, m7, m8, m9, m10, m11, m12, m13, m14, m15, m16])) (f_X6_bestSlack_J16 m0 m1 m2 v1) := by
  unfold f_X6_bestSlack_J16
  refine XE_ldc (n := 18) dX6_bestSlack_16 rfl xk_X6_196 ?_
  refine XE_istore_n (i := 2) (n := 19) dX6_bestSlack_18 rfl rfl (Nat.le_of_ble_eq_true rfl) rfl ?_
  refine XE_iconst (v := 0) (n := 20) dX6_bestSlack_19 rfl (by decide) ?_
  refine XE_istore_n (i := 3) (n := 21) dX6_bestSlack_20 rfl rfl (Nat.le_of_ble_eq_true rfl) rfl ?_
  refine XE_iconst (v := 0) (n := 22) dX6_bestSlack_21 rfl (by decide) ?_
  refine XE_istore (i := 4) (n := 24) dX6_bestSlack_22 rfl (Nat.le_of_ble_eq_true rfl) rfl ?_
  refine XE_ls (x_sub_ok (ls' := [(0, some (.ref 0)), (1, some (.int v1)), (2, some (.int 1000000000)), (3, some (.int 0)), (4, some (.int 0))]) ⟨rfl, rfl, rfl, rfl, rfl, trivial⟩) ?_
  exact f_X6_bestSlack_J24_x B m0 m1 m2 m3 m4 m5 m6 m7 m8 m9 m10 m11 m12 m13 m14 m15 m16 v1 (1000000000 : Int32) (0 : Int32) (0 : Int32)
set_option maxRecDepth 100000 in
theorem xe_X6_bestSlack (B : XB) (m0 : Mem) (m1 : Mem) (m2 : Mem) (m3 : Mem) (m4 : Mem) (m5 : Mem) (m6 : Mem) (m7 : Mem) (m8 : Mem) (m9 : Mem) (m10 : Mem) (m11 : Mem) (m12 : Mem) (m13 : Mem) (m14 : Mem) (m15 : Mem) (m16 : Mem) (a1 : Int32) : XE B M_X6_bestSlack (XQm B 0 0 SH_X) 0 [(0, some (.ref 0)), (1, some (.int a1))] [] (0, 0) SH_X [m0, m1, m2, m3, m4, m5, m6, m7, m8, m9, m10, m11, m12, m13, m14, m15, m16] (fun t => some (some (.int t.1), [t.2.1, m1, t.2.2, m3, m4, m5, m6, m7, m8, m9, m10, m11, m12, m13, m14, m15, m16])) (f_X6_bestSlack m0 m1 m2 a1) := by
  unfold f_X6_bestSlack
  refine XE_iload_n (n := 1) dX6_bestSlack_0 rfl rfl rfl ?_
  refine XE_if_eq (t := 16) (n := 4) dX6_bestSlack_1 rfl rfl (fun h24 => ?_) (fun h24 => ?_)
  · refine XE_ls (x_sub_ok (ls' := [(0, some (.ref 0)), (1, some (.int a1))]) ⟨rfl, rfl, trivial⟩) ?_
    exact f_X6_bestSlack_J16_x B m0 m1 m2 m3 m4 m5 m6 m7 m8 m9 m10 m11 m12 m13 m14 m15 m16 a1
  · refine XE_iload_n (n := 5) dX6_bestSlack_4 rfl rfl rfl ?_
    refine XE_iconst (v := 1) (n := 6) dX6_bestSlack_5 rfl (by decide) ?_
    refine XE_icmp_eq (t := 16) (n := 9) dX6_bestSlack_6 rfl rfl (fun h23 => ?_) (fun h23 => ?_)
    · refine XE_ls (x_sub_ok (ls' := [(0, some (.ref 0)), (1, some (.int a1))]) ⟨rfl, rfl, trivial⟩) ?_
      exact f_X6_bestSlack_J16_x B m0 m1 m2 m3 m4 m5 m6 m7 m8 m9 m10 m11 m12 m13 m14 m15 m16 a1
    · refine XE_aload_n (n := 10) dX6_bestSlack_9 rfl rfl rfl ?_
      refine XE_bipush (v := (-2)) (n := 12) dX6_bestSlack_10 rfl (by decide) ?_
      refine XE_callVi (ni := 1) (As := [.int (-2)]) (st2 := fun t22 => [.int t22.1]) (n := 15) (b := 0) xc_X6_65 (fun l t ht => met_X6_refused l m0 m1 m2 m3 m4 m5 m6 m7 m8 m9 m10 m11 m12 m13 m14 m15 m16 (-2) t ht) rfl rfl rfl rfl dX6_bestSlack_12 (Nat.le_of_ble_eq_true rfl) ⟨Nat.zero_le _, Nat.zero_le _⟩ (Nat.le_of_ble_eq_true rfl) (Nat.le_of_ble_eq_true rfl) (fun _ => rfl) rfl (fun t22 => ?_)
      exact XE_ireturn rfl dX6_bestSlack_15 rfl (Nat.le_refl _) (Nat.le_refl _)
theorem met_X6_bestSlack (l : Launch) (m0 : Mem) (m1 : Mem) (m2 : Mem) (m3 : Mem) (m4 : Mem) (m5 : Mem) (m6 : Mem) (m7 : Mem) (m8 : Mem) (m9 : Mem) (m10 : Mem) (m11 : Mem) (m12 : Mem) (m13 : Mem) (m14 : Mem) (m15 : Mem) (m16 : Mem) (a1 : Int32) (t : Int32 × Mem × Mem) (ht : f_X6_bestSlack m0 m1 m2 a1 = some t) : XMet l yX6_bestSlack cX6_bestSlack 7 (some .int) 6 0 0 [.ref 0, .int a1] SH_X [m0, m1, m2, m3, m4, m5, m6, m7, m8, m9, m10, m11, m12, m13, m14, m15, m16] SH_X (some (.int t.1), [t.2.1, m1, t.2.2, m3, m4, m5, m6, m7, m8, m9, m10, m11, m12, m13, m14, m15, m16]) := XMet.of (by decide +kernel) (fun _ => Nat.le_of_ble_eq_true rfl) (fun B => xe_X6_bestSlack B m0 m1 m2 m3 m4 m5 m6 m7 m8 m9 m10 m11 m12 m13 m14 m15 m16 a1) (by rw [ht]; rfl)
/-! X6_rest: EveryTwentyMinutes.rest()I in world X at (0,) -/
abbrev M_X6_rest : XM := (RX6, cX6_rest, 6, (some .int), "rest", 6, 0, 0)
def f_X6_rest_L13 (m0 : Mem) (m1 : Mem) : Nat → Int32 → Int32 → Int32 → Mem → Option (Int32 × Mem)
  | 0, _, _, _, _ => none
  | n + 1, v3, v4, v5, w6 =>
    if (m1 0 8) < v5 then
      some (v4, w6)
    else
      (f_X6_asNow m0 m1 w6).bind fun t7 =>
      (f_X2_wedSome t7 v5).bind fun t8 =>
      (f_X2_restClerk t8 10).bind fun t9 =>
      (f_X6_lateBy t9).bind fun t10 =>
      lt t10.1 fun v11 =>
      if v3 ≤ v11 then
        lt (v5 + 1) fun v12 =>
        (f_X6_rest_L13 m0 m1 n) v3 v4 v12 t10.2
      else
        lt (v5 + 1) fun v13 =>
        (f_X6_rest_L13 m0 m1 n) v11 v5 v13 t10.2
def f_X6_rest (m0 : Mem) (m1 : Mem) (m2 : Mem) : Option (Int32 × Mem) :=
  (f_X6_inMind m0 m1 m2).bind fun t1 =>
  (f_X2_allLate t1).bind fun t2 =>
  (f_X6_rest_L13 m0 m1 6000 t2 ((-9) : Int32) (0 : Int32) t1).bind fun t16 =>
  some (t16.1, t16.2)
set_option maxRecDepth 100000 in
theorem f_X6_rest_L13_x {α R : Type} (B : XB) {Q : R → State → Prop} {k : α → Option R} {r : (Int32 × Mem) → Option α} (m0 : Mem) (m1 : Mem) (m3 : Mem) (m4 : Mem) (m5 : Mem) (m6 : Mem) (m7 : Mem) (m8 : Mem) (m9 : Mem) (m10 : Mem) (m11 : Mem) (m12 : Mem) (m13 : Mem) (m14 : Mem) (m15 : Mem) (m16 : Mem) (hE : ∀ t0 : (Int32 × Mem), XE B M_X6_rest Q 67 [(2, some (.int t0.1))] [] (0, 0) SH_X [m0, m1, t0.2, m3, m4, m5, m6, m7, m8, m9, m10, m11, m12, m13, m14, m15, m16] (fun t => (r t).bind k) (some t0)) : ∀ (n : Nat) (v3 : Int32) (v4 : Int32) (v5 : Int32) (w6 : Mem), XE B M_X6_rest Q 13 [(0, some (.ref 0)), (1, some (.int v3)), (2, some (.int v4)), (3, some (.int v5))] [] (0, 0) SH_X [m0, m1, w6, m3, m4, m5, m6, m7, m8, m9, m10, m11, m12, m13, m14, m15, m16] (fun t => (r t).bind k) (f_X6_rest_L13 m0 m1 n v3 v4 v5 w6) := by
  intro n
  induction n with
  | zero => intros; exact XE_none
  | succ n ih =>
    intro v3 v4 v5 w6
    rw [f_X6_rest_L13]
    refine XE_iload_n (n := 14) dX6_rest_13 rfl rfl rfl ?_
    refine XE_aload_n (n := 15) dX6_rest_14 rfl rfl rfl ?_
    refine XE_getr (b := 64) (n := 18) xf_X6_10 rfl rfl dX6_rest_15 rfl ?_
    refine XE_getf (v := m1 0 8) (n := 21) xf_X6_125 rfl rfl rfl dX6_rest_18 rfl ?_
    refine XE_icmp_gt (t := 67) (n := 24) dX6_rest_21 rfl rfl (fun h15 => ?_) (fun h15 => ?_)
    · refine XE_ls (x_sub_ok (ls' := [(2, some (.int v4))]) ⟨rfl, trivial⟩) ?_
      exact hE (v4, w6)
    · refine XE_aload_n (n := 25) dX6_rest_24 rfl rfl rfl ?_
      refine XE_callVi (ni := 0) (As := []) (st2 := fun t7 => [.ref 128]) (n := 28) (b := 0) xc_X6_80 (fun l t ht => met_X6_asNow l m0 m1 w6 m3 m4 m5 m6 m7 m8 m9 m10 m11 m12 m13 m14 m15 m16 t ht) rfl rfl rfl rfl dX6_rest_25 (Nat.le_of_ble_eq_true rfl) ⟨Nat.zero_le _, Nat.zero_le _⟩ (Nat.le_of_ble_eq_true rfl) (Nat.le_of_ble_eq_true rfl) (fun _ => rfl) rfl (fun t7 => ?_)
      refine XE_astore (i := 4) (n := 30) dX6_rest_28 rfl (Nat.le_of_ble_eq_true rfl) rfl ?_
      refine XE_aload (n := 32) dX6_rest_30 rfl rfl ?_
      refine XE_iload_n (n := 33) dX6_rest_32 rfl rfl rfl ?_
      refine XE_callV (ni := 1) (As := [.int v5]) (π := [2]) (co := [0, 1, 3, 4, 5, 6, 7, 8, 9, 10, 11, 12, 13, 14, 15, 16]) (cv := [m0, m1, m3, m4, m5, m6, m7, m8, m9, m10, m11, m12, m13, m14, m15, m16]) (nn := 17) (hs2 := fun t8 => [m0, m1, t8, m3, m4, m5, m6, m7, m8, m9, m10, m11, m12, m13, m14, m15, m16]) (st2 := fun t8 => []) (n := 36) (b := 128) xc_X6_158 (fun l t ht => met_X2_wedSome l t7 v5 t ht) rfl rfl rfl rfl rfl dX6_rest_33 (Nat.le_of_ble_eq_true rfl) ⟨Nat.zero_le _, Nat.zero_le _⟩ (Nat.le_of_ble_eq_true rfl) (Nat.le_of_ble_eq_true rfl) ok_35 rfl rfl rfl (fun _ => rfl) (fun _ => rfl) (fun _ => rfl) rfl (fun _ => rfl) rfl (fun t8 => ?_)
      refine XE_aload (n := 38) dX6_rest_36 rfl rfl ?_
      refine XE_bipush (v := 10) (n := 40) dX6_rest_38 rfl (by decide) ?_
      refine XE_callV (ni := 1) (As := [.int 10]) (π := [2]) (co := [0, 1, 3, 4, 5, 6, 7, 8, 9, 10, 11, 12, 13, 14, 15, 16]) (cv := [m0, m1, m3, m4, m5, m6, m7, m8, m9, m10, m11, m12, m13, m14, m15, m16]) (nn := 17) (hs2 := fun t9 => [m0, m1, t9, m3, m4, m5, m6, m7, m8, m9, m10, m11, m12, m13, m14, m15, m16]) (st2 := fun t9 => []) (n := 43) (b := 128) xc_X6_176 (fun l t ht => met_X2_restClerk l t8 10 t ht) rfl rfl rfl rfl rfl dX6_rest_40 (Nat.le_of_ble_eq_true rfl) ⟨Nat.zero_le _, Nat.zero_le _⟩ (Nat.le_of_ble_eq_true rfl) (Nat.le_of_ble_eq_true rfl) ok_35 rfl rfl rfl (fun _ => rfl) (fun _ => rfl) (fun _ => rfl) rfl (fun _ => rfl) rfl (fun t9 => ?_)
      refine XE_aload (n := 45) dX6_rest_43 rfl rfl ?_
      refine XE_callS (ni := 1) (As := [.ref 128]) (π := [2]) (co := [0, 1, 3, 4, 5, 6, 7, 8, 9, 10, 11, 12, 13, 14, 15, 16]) (cv := [m0, m1, m3, m4, m5, m6, m7, m8, m9, m10, m11, m12, m13, m14, m15, m16]) (nn := 17) (hs2 := fun t10 => [m0, m1, t10.2, m3, m4, m5, m6, m7, m8, m9, m10, m11, m12, m13, m14, m15, m16]) (st2 := fun t10 => [.int t10.1]) (n := 48) xc_X6_223 (fun l t ht => met_X6_lateBy l t9 t ht) rfl rfl rfl dX6_rest_45 (Nat.le_of_ble_eq_true rfl) ⟨Nat.zero_le _, Nat.zero_le _⟩ (Nat.le_of_ble_eq_true rfl) (Nat.le_of_ble_eq_true rfl) ok_35 rfl rfl rfl (fun _ => rfl) (fun _ => rfl) (fun _ => rfl) rfl (fun _ => rfl) rfl (fun t10 => ?_)
      refine XE_topi (fun v11 => ?_)
      refine XE_istore (i := 5) (n := 50) dX6_rest_48 rfl (Nat.le_of_ble_eq_true rfl) rfl ?_
      refine XE_iload (n := 52) dX6_rest_50 rfl rfl ?_
      refine XE_iload_n (n := 53) dX6_rest_52 rfl rfl rfl ?_
      refine XE_icmp_ge (t := 61) (n := 56) dX6_rest_53 rfl rfl (fun h14 => ?_) (fun h14 => ?_)
      · refine XE_iincl (n := 64) dX6_rest_61 rfl rfl (by decide) (Nat.le_of_ble_eq_true rfl) rfl (fun v12 => ?_)
        refine XE_goto (n := 13) dX6_rest_64 rfl ?_
        refine XE_ls (x_sub_ok (ls' := [(0, some (.ref 0)), (1, some (.int v3)), (2, some (.int v4)), (3, some (.int v12))]) ⟨rfl, rfl, rfl, rfl, trivial⟩) ?_
        exact ih v3 v4 v12 t10.2
      · refine XE_iload (n := 58) dX6_rest_56 rfl rfl ?_
        refine XE_istore_n (i := 1) (n := 59) dX6_rest_58 rfl rfl (Nat.le_of_ble_eq_true rfl) rfl ?_
        refine XE_iload_n (n := 60) dX6_rest_59 rfl rfl rfl ?_
        refine XE_istore_n (i := 2) (n := 61) dX6_rest_60 rfl rfl (Nat.le_of_ble_eq_true rfl) rfl ?_
        refine XE_iincl (n := 64) dX6_rest_61 rfl rfl (by decide) (Nat.le_of_ble_eq_true rfl) rfl (fun v13 => ?_)
        refine XE_goto (n := 13) dX6_rest_64 rfl ?_
        refine XE_ls (x_sub_ok (ls' := [(0, some (.ref 0)), (1, some (.int v11)), (2, some (.int v5)), (3, some (.int v13))]) ⟨rfl, rfl, rfl, rfl, trivial⟩) ?_
        exact ih v11 v5 v13 t10.2
set_option maxRecDepth 100000 in
theorem xe_X6_rest (B : XB) (m0 : Mem) (m1 : Mem) (m2 : Mem) (m3 : Mem) (m4 : Mem) (m5 : Mem) (m6 : Mem) (m7 : Mem) (m8 : Mem) (m9 : Mem) (m10 : Mem) (m11 : Mem) (m12 : Mem) (m13 : Mem) (m14 : Mem) (m15 : Mem) (m16 : Mem) : XE B M_X6_rest (XQm B 0 0 SH_X) 0 [(0, some (.ref 0))] [] (0, 0) SH_X [m0, m1, m2, m3, m4, m5, m6, m7, m8, m9, m10, m11, m12, m13, m14, m15, m16] (fun t => some (some (.int t.1), [m0, m1, t.2, m3, m4, m5, m6, m7, m8, m9, m10, m11, m12, m13, m14, m15, m16])) (f_X6_rest m0 m1 m2) := by
  unfold f_X6_rest
  refine XE_aload_n (n := 1) dX6_rest_0 rfl rfl rfl ?_
  refine XE_callVi (ni := 0) (As := []) (st2 := fun t1 => [.ref 128]) (n := 4) (b := 0) xc_X6_184 (fun l t ht => met_X6_inMind l m0 m1 m2 m3 m4 m5 m6 m7 m8 m9 m10 m11 m12 m13 m14 m15 m16 t ht) rfl rfl rfl rfl dX6_rest_1 (Nat.le_of_ble_eq_true rfl) ⟨Nat.zero_le _, Nat.zero_le _⟩ (Nat.le_of_ble_eq_true rfl) (Nat.le_of_ble_eq_true rfl) (fun _ => rfl) rfl (fun t1 => ?_)
  refine XE_callV (ni := 0) (As := []) (π := [2]) (co := [0, 1, 3, 4, 5, 6, 7, 8, 9, 10, 11, 12, 13, 14, 15, 16]) (cv := [m0, m1, m3, m4, m5, m6, m7, m8, m9, m10, m11, m12, m13, m14, m15, m16]) (nn := 17) (hs2 := fun t2 => [m0, m1, t1, m3, m4, m5, m6, m7, m8, m9, m10, m11, m12, m13, m14, m15, m16]) (st2 := fun t2 => [.int t2]) (n := 7) (b := 128) xc_X6_200 (fun l t ht => met_X2_allLate l t1 t ht) rfl rfl rfl rfl rfl dX6_rest_4 (Nat.le_of_ble_eq_true rfl) ⟨Nat.zero_le _, Nat.zero_le _⟩ (Nat.le_of_ble_eq_true rfl) (Nat.le_of_ble_eq_true rfl) ok_35 rfl rfl rfl (fun _ => rfl) (fun _ => rfl) (fun _ => rfl) rfl (fun _ => rfl) rfl (fun t2 => ?_)
  refine XE_istore_n (i := 1) (n := 8) dX6_rest_7 rfl rfl (Nat.le_of_ble_eq_true rfl) rfl ?_
  refine XE_bipush (v := (-9)) (n := 10) dX6_rest_8 rfl (by decide) ?_
  refine XE_istore_n (i := 2) (n := 11) dX6_rest_10 rfl rfl (Nat.le_of_ble_eq_true rfl) rfl ?_
  refine XE_iconst (v := 0) (n := 12) dX6_rest_11 rfl (by decide) ?_
  refine XE_istore_n (i := 3) (n := 13) dX6_rest_12 rfl rfl (Nat.le_of_ble_eq_true rfl) rfl ?_
  refine XE_ls (x_sub_ok (ls' := [(0, some (.ref 0)), (1, some (.int t2)), (2, some (.int (-9))), (3, some (.int 0))]) ⟨rfl, rfl, rfl, rfl, trivial⟩) ?_
  refine XE_reg (J := 67) (lsJ := fun t16 => [(2, some (.int t16.1))]) (stJ := fun t16 => []) (hsJ := fun t16 => [m0, m1, t16.2, m3, m4, m5, m6, m7, m8, m9, m10, m11, m12, m13, m14, m15, m16]) (fun t16 => ?_) (fun hJ17 => f_X6_rest_L13_x B m0 m1 m3 m4 m5 m6 m7 m8 m9 m10 m11 m12 m13 m14 m15 m16 hJ17 6000 t2 ((-9) : Int32) (0 : Int32) t1)
  refine XE_iload_n (n := 68) dX6_rest_67 rfl rfl rfl ?_
  exact XE_ireturn rfl dX6_rest_68 rfl (Nat.le_refl _) (Nat.le_refl _)
theorem met_X6_rest (l : Launch) (m0 : Mem) (m1 : Mem) (m2 : Mem) (m3 : Mem) (m4 : Mem) (m5 : Mem) (m6 : Mem) (m7 : Mem) (m8 : Mem) (m9 : Mem) (m10 : Mem) (m11 : Mem) (m12 : Mem) (m13 : Mem) (m14 : Mem) (m15 : Mem) (m16 : Mem) (t : Int32 × Mem) (ht : f_X6_rest m0 m1 m2 = some t) : XMet l yX6_rest cX6_rest 6 (some .int) 6 0 0 [.ref 0] SH_X [m0, m1, m2, m3, m4, m5, m6, m7, m8, m9, m10, m11, m12, m13, m14, m15, m16] SH_X (some (.int t.1), [m0, m1, t.2, m3, m4, m5, m6, m7, m8, m9, m10, m11, m12, m13, m14, m15, m16]) := XMet.of (by decide +kernel) (fun _ => Nat.le_of_ble_eq_true rfl) (fun B => xe_X6_rest B m0 m1 m2 m3 m4 m5 m6 m7 m8 m9 m10 m11 m12 m13 m14 m15 m16) (by rw [ht]; rfl)
