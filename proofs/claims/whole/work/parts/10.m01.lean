/-! ALL -/
def SH_BH : XSs := [(0, .inr (.inr (0, [67, 4, 5, 0, 0]))), (1, .inl 7), (2, .inl 7), (64, .inr (.inr (2, [0, 68, 69, 70, 0, 71, 72, 73, 0, 74, 0, 75, 0, 0]))), (65, .inl 7), (66, .inl 7), (67, .inl 7), (68, .inl 7), (69, .inl 7), (70, .inl 7), (71, .inl 7), (72, .inl 2), (128, .inr (.inr (2, [0, 132, 133, 134, 0, 135, 136, 137, 0, 138, 0, 139, 0, 0]))), (129, .inl 7), (130, .inl 7), (131, .inl 7), (132, .inl 7), (133, .inl 7), (134, .inl 7), (135, .inl 7), (136, .inl 2)]
def SH_HH : XSs := [(0, .inr (.inr (2, [0, 4, 5, 6, 0, 7, 8, 9, 0, 10, 0, 11, 0, 0]))), (1, .inl 7), (2, .inl 7), (3, .inl 7), (4, .inl 7), (5, .inl 7), (6, .inl 7), (7, .inl 7), (8, .inl 2), (64, .inr (.inr (2, [0, 68, 69, 70, 0, 71, 72, 73, 0, 74, 0, 75, 0, 0]))), (65, .inl 7), (66, .inl 7), (67, .inl 7), (68, .inl 7), (69, .inl 7), (70, .inl 7), (71, .inl 7), (72, .inl 2)]
/-! X2_become: EveryTwentyMinutes$Hall.become(LEveryTwentyMinutes$Hall;)V in world HH at (0, 64) -/
abbrev M_X2_become : XM := (RX2, cX2_become, 2, none, "become", 1, 0, 0)
def f_X2_become (m0 : Mem) (m1 : Mem) : Option (Mem) :=
  lt (xs m0 0 0 (m1 0 0)) fun w1 =>
  lt (xcp w1 1 (m1 1) 0 0 7) fun w2 =>
  lt (xcp w2 2 (m1 2) 0 0 7) fun w3 =>
  lt (xcp w3 3 (m1 3) 0 0 7) fun w4 =>
  lt (xs w4 0 4 (m1 0 4)) fun w5 =>
  lt (xcp w5 4 (m1 4) 0 0 7) fun w6 =>
  lt (xcp w6 5 (m1 5) 0 0 7) fun w7 =>
  lt (xcp w7 6 (m1 6) 0 0 7) fun w8 =>
  lt (xs w8 0 8 (m1 0 8)) fun w9 =>
  lt (xcp w9 7 (m1 7) 0 0 7) fun w10 =>
  lt (xs w10 0 10 (m1 0 10)) fun w11 =>
  lt (xcp w11 8 (m1 8) 0 0 2) fun w12 =>
  lt (xs w12 0 12 (m1 0 12)) fun w13 =>
  lt (xs w13 0 13 (m1 0 13)) fun w14 =>
  some w14
set_option maxRecDepth 100000 in
theorem xe_X2_become (B : XB) (m0 : Mem) (m1 : Mem) : XE B M_X2_become (XQm B 0 0 SH_HH) 0 [(0, some (.ref 0)), (1, some (.ref 64))] [] (0, 0) SH_HH [m0, m1] (fun t => some (none, [t, m1])) (f_X2_become m0 m1) := by
  unfold f_X2_become
  refine XE_aload_n (n := 1) dX2_become_0 rfl rfl rfl ?_
  refine XE_aload_n (n := 2) dX2_become_1 rfl rfl rfl ?_
  refine XE_getf (v := m1 0 0) (n := 5) xf_X2_9 rfl rfl rfl dX2_become_2 rfl ?_
  refine XE_putf (hs2 := fun w1 => [w1, m1]) (n := 8) xf_X2_9 rfl rfl rfl rfl (Nat.le_of_ble_eq_true rfl) (fun _ => rfl) dX2_become_5 rfl (fun w1 => ?_)
  refine XE_aload_n (n := 9) dX2_become_8 rfl rfl rfl ?_
  refine XE_getr (b := 65) (n := 12) xf_X2_15 rfl rfl dX2_become_9 rfl ?_
  refine XE_iconst (v := 0) (n := 13) dX2_become_12 rfl (by decide) ?_
  refine XE_aload_n (n := 14) dX2_become_13 rfl rfl rfl ?_
  refine XE_getr (b := 1) (n := 17) xf_X2_15 rfl rfl dX2_become_14 rfl ?_
  refine XE_iconst (v := 0) (n := 18) dX2_become_17 rfl (by decide) ?_
  refine XE_bipush (v := 7) (n := 20) dX2_become_18 rfl (by decide) ?_
  refine XE_cpyk (row := (m1 1)) (hs2 := fun w2 => [w2, m1]) (n := 23) xp_X2_55 rfl rfl rfl rfl rfl (Nat.le_of_ble_eq_true rfl) (fun _ => rfl) rfl rfl rfl rfl (Nat.le_of_ble_eq_true rfl) rfl dX2_become_20 rfl (fun w2 => ?_)
  refine XE_aload_n (n := 24) dX2_become_23 rfl rfl rfl ?_
  refine XE_getr (b := 66) (n := 27) xf_X2_19 rfl rfl dX2_become_24 rfl ?_
  refine XE_iconst (v := 0) (n := 28) dX2_become_27 rfl (by decide) ?_
  refine XE_aload_n (n := 29) dX2_become_28 rfl rfl rfl ?_
  refine XE_getr (b := 2) (n := 32) xf_X2_19 rfl rfl dX2_become_29 rfl ?_
  refine XE_iconst (v := 0) (n := 33) dX2_become_32 rfl (by decide) ?_
  refine XE_bipush (v := 7) (n := 35) dX2_become_33 rfl (by decide) ?_
  refine XE_cpyk (row := (m1 2)) (hs2 := fun w3 => [w3, m1]) (n := 38) xp_X2_55 rfl rfl rfl rfl rfl (Nat.le_of_ble_eq_true rfl) (fun _ => rfl) rfl rfl rfl rfl (Nat.le_of_ble_eq_true rfl) rfl dX2_become_35 rfl (fun w3 => ?_)
  refine XE_aload_n (n := 39) dX2_become_38 rfl rfl rfl ?_
  refine XE_getr (b := 67) (n := 42) xf_X2_22 rfl rfl dX2_become_39 rfl ?_
  refine XE_iconst (v := 0) (n := 43) dX2_become_42 rfl (by decide) ?_
  refine XE_aload_n (n := 44) dX2_become_43 rfl rfl rfl ?_
  refine XE_getr (b := 3) (n := 47) xf_X2_22 rfl rfl dX2_become_44 rfl ?_
  refine XE_iconst (v := 0) (n := 48) dX2_become_47 rfl (by decide) ?_
  refine XE_bipush (v := 7) (n := 50) dX2_become_48 rfl (by decide) ?_
  refine XE_cpyk (row := (m1 3)) (hs2 := fun w4 => [w4, m1]) (n := 53) xp_X2_55 rfl rfl rfl rfl rfl (Nat.le_of_ble_eq_true rfl) (fun _ => rfl) rfl rfl rfl rfl (Nat.le_of_ble_eq_true rfl) rfl dX2_become_50 rfl (fun w4 => ?_)
  refine XE_aload_n (n := 54) dX2_become_53 rfl rfl rfl ?_
  refine XE_aload_n (n := 55) dX2_become_54 rfl rfl rfl ?_
  refine XE_getf (v := m1 0 4) (n := 58) xf_X2_25 rfl rfl rfl dX2_become_55 rfl ?_
  refine XE_putf (hs2 := fun w5 => [w5, m1]) (n := 61) xf_X2_25 rfl rfl rfl rfl (Nat.le_of_ble_eq_true rfl) (fun _ => rfl) dX2_become_58 rfl (fun w5 => ?_)
  refine XE_aload_n (n := 62) dX2_become_61 rfl rfl rfl ?_
  refine XE_getr (b := 68) (n := 65) xf_X2_28 rfl rfl dX2_become_62 rfl ?_
  refine XE_iconst (v := 0) (n := 66) dX2_become_65 rfl (by decide) ?_
  refine XE_aload_n (n := 67) dX2_become_66 rfl rfl rfl ?_
  refine XE_getr (b := 4) (n := 70) xf_X2_28 rfl rfl dX2_become_67 rfl ?_
  refine XE_iconst (v := 0) (n := 71) dX2_become_70 rfl (by decide) ?_
  refine XE_bipush (v := 7) (n := 73) dX2_become_71 rfl (by decide) ?_
  refine XE_cpyk (row := (m1 4)) (hs2 := fun w6 => [w6, m1]) (n := 76) xp_X2_55 rfl rfl rfl rfl rfl (Nat.le_of_ble_eq_true rfl) (fun _ => rfl) rfl rfl rfl rfl (Nat.le_of_ble_eq_true rfl) rfl dX2_become_73 rfl (fun w6 => ?_)
  refine XE_aload_n (n := 77) dX2_become_76 rfl rfl rfl ?_
  refine XE_getr (b := 69) (n := 80) xf_X2_31 rfl rfl dX2_become_77 rfl ?_
  refine XE_iconst (v := 0) (n := 81) dX2_become_80 rfl (by decide) ?_
  refine XE_aload_n (n := 82) dX2_become_81 rfl rfl rfl ?_
  refine XE_getr (b := 5) (n := 85) xf_X2_31 rfl rfl dX2_become_82 rfl ?_
  refine XE_iconst (v := 0) (n := 86) dX2_become_85 rfl (by decide) ?_
  refine XE_bipush (v := 7) (n := 88) dX2_become_86 rfl (by decide) ?_
  refine XE_cpyk (row := (m1 5)) (hs2 := fun w7 => [w7, m1]) (n := 91) xp_X2_55 rfl rfl rfl rfl rfl (Nat.le_of_ble_eq_true rfl) (fun _ => rfl) rfl rfl rfl rfl (Nat.le_of_ble_eq_true rfl) rfl dX2_become_88 rfl (fun w7 => ?_)
  refine XE_aload_n (n := 92) dX2_become_91 rfl rfl rfl ?_
  refine XE_getr (b := 70) (n := 95) xf_X2_34 rfl rfl dX2_become_92 rfl ?_
  refine XE_iconst (v := 0) (n := 96) dX2_become_95 rfl (by decide) ?_
  refine XE_aload_n (n := 97) dX2_become_96 rfl rfl rfl ?_
  refine XE_getr (b := 6) (n := 100) xf_X2_34 rfl rfl dX2_become_97 rfl ?_
  refine XE_iconst (v := 0) (n := 101) dX2_become_100 rfl (by decide) ?_
  refine XE_bipush (v := 7) (n := 103) dX2_become_101 rfl (by decide) ?_
  refine XE_cpyk (row := (m1 6)) (hs2 := fun w8 => [w8, m1]) (n := 106) xp_X2_55 rfl rfl rfl rfl rfl (Nat.le_of_ble_eq_true rfl) (fun _ => rfl) rfl rfl rfl rfl (Nat.le_of_ble_eq_true rfl) rfl dX2_become_103 rfl (fun w8 => ?_)
  refine XE_aload_n (n := 107) dX2_become_106 rfl rfl rfl ?_
  refine XE_aload_n (n := 108) dX2_become_107 rfl rfl rfl ?_
  refine XE_getf (v := m1 0 8) (n := 111) xf_X2_37 rfl rfl rfl dX2_become_108 rfl ?_
  refine XE_putf (hs2 := fun w9 => [w9, m1]) (n := 114) xf_X2_37 rfl rfl rfl rfl (Nat.le_of_ble_eq_true rfl) (fun _ => rfl) dX2_become_111 rfl (fun w9 => ?_)
  refine XE_aload_n (n := 115) dX2_become_114 rfl rfl rfl ?_
  refine XE_getr (b := 71) (n := 118) xf_X2_40 rfl rfl dX2_become_115 rfl ?_
  refine XE_iconst (v := 0) (n := 119) dX2_become_118 rfl (by decide) ?_
  refine XE_aload_n (n := 120) dX2_become_119 rfl rfl rfl ?_
  refine XE_getr (b := 7) (n := 123) xf_X2_40 rfl rfl dX2_become_120 rfl ?_
  refine XE_iconst (v := 0) (n := 124) dX2_become_123 rfl (by decide) ?_
  refine XE_bipush (v := 7) (n := 126) dX2_become_124 rfl (by decide) ?_
  refine XE_cpyk (row := (m1 7)) (hs2 := fun w10 => [w10, m1]) (n := 129) xp_X2_55 rfl rfl rfl rfl rfl (Nat.le_of_ble_eq_true rfl) (fun _ => rfl) rfl rfl rfl rfl (Nat.le_of_ble_eq_true rfl) rfl dX2_become_126 rfl (fun w10 => ?_)
  refine XE_aload_n (n := 130) dX2_become_129 rfl rfl rfl ?_
  refine XE_aload_n (n := 131) dX2_become_130 rfl rfl rfl ?_
  refine XE_getf (v := m1 0 10) (n := 134) xf_X2_43 rfl rfl rfl dX2_become_131 rfl ?_
  refine XE_putf (hs2 := fun w11 => [w11, m1]) (n := 137) xf_X2_43 rfl rfl rfl rfl (Nat.le_of_ble_eq_true rfl) (fun _ => rfl) dX2_become_134 rfl (fun w11 => ?_)
  refine XE_aload_n (n := 138) dX2_become_137 rfl rfl rfl ?_
  refine XE_getr (b := 72) (n := 141) xf_X2_46 rfl rfl dX2_become_138 rfl ?_
  refine XE_iconst (v := 0) (n := 142) dX2_become_141 rfl (by decide) ?_
  refine XE_aload_n (n := 143) dX2_become_142 rfl rfl rfl ?_
  refine XE_getr (b := 8) (n := 146) xf_X2_46 rfl rfl dX2_become_143 rfl ?_
  refine XE_iconst (v := 0) (n := 147) dX2_become_146 rfl (by decide) ?_
  refine XE_iconst (v := 2) (n := 148) dX2_become_147 rfl (by decide) ?_
  refine XE_cpyk (row := (m1 8)) (hs2 := fun w12 => [w12, m1]) (n := 151) xp_X2_55 rfl rfl rfl rfl rfl (Nat.le_of_ble_eq_true rfl) (fun _ => rfl) rfl rfl rfl rfl (Nat.le_of_ble_eq_true rfl) rfl dX2_become_148 rfl (fun w12 => ?_)
  refine XE_aload_n (n := 152) dX2_become_151 rfl rfl rfl ?_
  refine XE_aload_n (n := 153) dX2_become_152 rfl rfl rfl ?_
  refine XE_getf (v := m1 0 12) (n := 156) xf_X2_49 rfl rfl rfl dX2_become_153 rfl ?_
  refine XE_putf (hs2 := fun w13 => [w13, m1]) (n := 159) xf_X2_49 rfl rfl rfl rfl (Nat.le_of_ble_eq_true rfl) (fun _ => rfl) dX2_become_156 rfl (fun w13 => ?_)
  refine XE_aload_n (n := 160) dX2_become_159 rfl rfl rfl ?_
  refine XE_aload_n (n := 161) dX2_become_160 rfl rfl rfl ?_
  refine XE_getf (v := m1 0 13) (n := 164) xf_X2_52 rfl rfl rfl dX2_become_161 rfl ?_
  refine XE_putf (hs2 := fun w14 => [w14, m1]) (n := 167) xf_X2_52 rfl rfl rfl rfl (Nat.le_of_ble_eq_true rfl) (fun _ => rfl) dX2_become_164 rfl (fun w14 => ?_)
  exact XE_vreturn rfl dX2_become_167 rfl (Nat.le_refl _) (Nat.le_refl _)
theorem met_X2_become (l : Launch) (m0 : Mem) (m1 : Mem) (t : Mem) (ht : f_X2_become m0 m1 = some t) : XMet l yX2_become cX2_become 2 none 1 0 0 [.ref 0, .ref 64] SH_HH [m0, m1] SH_HH (none, [t, m1]) := XMet.of (by decide +kernel) (fun _ => Nat.le_of_ble_eq_true rfl) (fun B => xe_X2_become B m0 m1) (by rw [ht]; rfl)
set_option maxRecDepth 100000 in
theorem ok_0 : x_okc [1, 2] SH_HH SH_BH = true := by decide +kernel
def SH_H : XSs := [(0, .inr (.inr (2, [0, 4, 5, 6, 0, 7, 8, 9, 0, 10, 0, 11, 0, 0]))), (1, .inl 7), (2, .inl 7), (3, .inl 7), (4, .inl 7), (5, .inl 7), (6, .inl 7), (7, .inl 7), (8, .inl 2)]
/-! X2_isWed: EveryTwentyMinutes$Hall.isWed(I)Z in world H at (0,) -/
abbrev M_X2_isWed : XM := (RX2, cX2_isWed, 2, (some .boolean), "isWed", 1, 0, 0)
def f_X2_isWed (m0 : Mem) (a1 : Int32) : Option (Int32) :=
  if (((m0 0 4) >>> (a1 &&& 31)) &&& 1) = 1 then
    some (1 : Int32)
  else
    some (0 : Int32)
set_option maxRecDepth 100000 in
theorem xe_X2_isWed (B : XB) (m0 : Mem) (a1 : Int32) : XE B M_X2_isWed (XQm B 0 0 SH_H) 0 [(0, some (.ref 0)), (1, some (.int a1))] [] (0, 0) SH_H [m0] (fun t => some (some (.int t), [m0])) (f_X2_isWed m0 a1) := by
  unfold f_X2_isWed
  refine XE_aload_n (n := 1) dX2_isWed_0 rfl rfl rfl ?_
  refine XE_getf (v := m0 0 4) (n := 4) xf_X2_25 rfl rfl rfl dX2_isWed_1 rfl ?_
  refine XE_iload_n (n := 5) dX2_isWed_4 rfl rfl rfl ?_
  refine XE_ishr (n := 6) dX2_isWed_5 rfl ?_
  refine XE_iconst (v := 1) (n := 7) dX2_isWed_6 rfl (by decide) ?_
  refine XE_iand (n := 8) dX2_isWed_7 rfl ?_
  refine XE_iconst (v := 1) (n := 9) dX2_isWed_8 rfl (by decide) ?_
  refine XE_icmp_ne (t := 16) (n := 12) dX2_isWed_9 rfl rfl (fun h1 => ?_) (fun h1 => ?_)
  · refine XE_iconst (v := 1) (n := 13) dX2_isWed_12 rfl (by decide) ?_
    refine XE_goto (n := 17) dX2_isWed_13 rfl ?_
    exact XE_zreturn rfl rfl dX2_isWed_17 rfl (Nat.le_refl _) (Nat.le_refl _)
  · refine XE_iconst (v := 0) (n := 17) dX2_isWed_16 rfl (by decide) ?_
    exact XE_zreturn rfl rfl dX2_isWed_17 rfl (Nat.le_refl _) (Nat.le_refl _)
theorem met_X2_isWed (l : Launch) (m0 : Mem) (a1 : Int32) (t : Int32) (ht : f_X2_isWed m0 a1 = some t) : XMet l yX2_isWed cX2_isWed 2 (some .boolean) 1 0 0 [.ref 0, .int a1] SH_H [m0] SH_H (some (.int t), [m0]) := XMet.of (by decide +kernel) (fun _ => Nat.le_of_ble_eq_true rfl) (fun B => xe_X2_isWed B m0 a1) (by rw [ht]; rfl)
/-! X2_lateOf: EveryTwentyMinutes$Hall.lateOf(I)I in world H at (0,) -/
abbrev M_X2_lateOf : XM := (RX2, cX2_lateOf, 2, (some .int), "lateOf", 1, 0, 0)
def f_X2_lateOf (m0 : Mem) (a1 : Int32) : Option (Int32) :=
  ck (inb a1 7) <|
  ck (inb a1 7) <|
  some (imax ((m0 4 (ix a1)) - (m0 3 (ix a1))) 0)
set_option maxRecDepth 100000 in
theorem xe_X2_lateOf (B : XB) (m0 : Mem) (a1 : Int32) : XE B M_X2_lateOf (XQm B 0 0 SH_H) 0 [(0, some (.ref 0)), (1, some (.int a1))] [] (0, 0) SH_H [m0] (fun t => some (some (.int t), [m0])) (f_X2_lateOf m0 a1) := by
  unfold f_X2_lateOf
  refine XE_aload_n (n := 1) dX2_lateOf_0 rfl rfl rfl ?_
  refine XE_getr (b := 4) (n := 4) xf_X2_28 rfl rfl dX2_lateOf_1 rfl ?_
  refine XE_iload_n (n := 5) dX2_lateOf_4 rfl rfl rfl ?_
  refine XE_iald (row := m0 4) (n := 6) rfl rfl dX2_lateOf_5 rfl ?_
  refine XE_aload_n (n := 7) dX2_lateOf_6 rfl rfl rfl ?_
  refine XE_getr (b := 3) (n := 10) xf_X2_22 rfl rfl dX2_lateOf_7 rfl ?_
  refine XE_iload_n (n := 11) dX2_lateOf_10 rfl rfl rfl ?_
  refine XE_iald (row := m0 3) (n := 12) rfl rfl dX2_lateOf_11 rfl ?_
  refine XE_isub (n := 13) dX2_lateOf_12 rfl ?_
  refine XE_iconst (v := 0) (n := 14) dX2_lateOf_13 rfl (by decide) ?_
  refine XE_mmax (n := 17) xp_X2_95 rfl (Nat.le_of_ble_eq_true rfl) (Nat.le_of_ble_eq_true rfl) dX2_lateOf_14 rfl ?_
  exact XE_ireturn rfl dX2_lateOf_17 rfl (Nat.le_refl _) (Nat.le_refl _)
theorem met_X2_lateOf (l : Launch) (m0 : Mem) (a1 : Int32) (t : Int32) (ht : f_X2_lateOf m0 a1 = some t) : XMet l yX2_lateOf cX2_lateOf 2 (some .int) 1 0 0 [.ref 0, .int a1] SH_H [m0] SH_H (some (.int t), [m0]) := XMet.of (by decide +kernel) (fun _ => Nat.le_of_ble_eq_true rfl) (fun B => xe_X2_lateOf B m0 a1) (by rw [ht]; rfl)
/-! X2_lateOfWed: EveryTwentyMinutes$Hall.lateOfWed()I in world H at (0,) -/
abbrev M_X2_lateOfWed : XM := (RX2, cX2_lateOfWed, 3, (some .int), "lateOfWed", 2, 0, 0)
def f_X2_lateOfWed_L4 (m0 : Mem) : Nat → Int32 → Int32 → Option (Int32)
  | 0, _, _ => none
  | n + 1, v1, v2 =>
    if (m0 0 0) ≤ v2 then
      some (v1)
    else
      (f_X2_isWed m0 v2).bind fun t3 =>
      if t3 = 0 then
        lt (v2 + 1) fun v4 =>
        (f_X2_lateOfWed_L4 m0 n) v1 v4
      else
        (f_X2_lateOf m0 v2).bind fun t5 =>
        lt (v1 + t5) fun v6 =>
        lt (v2 + 1) fun v7 =>
        (f_X2_lateOfWed_L4 m0 n) v6 v7
def f_X2_lateOfWed (m0 : Mem) : Option (Int32) :=
  (f_X2_lateOfWed_L4 m0 6000 (0 : Int32) (0 : Int32)).bind fun t10 =>
  some t10
set_option maxRecDepth 100000 in
theorem f_X2_lateOfWed_L4_x {α R : Type} (B : XB) {Q : R → State → Prop} {k : α → Option R} {r : (Int32) → Option α} (m0 : Mem) (hE : ∀ t0 : (Int32), XE B M_X2_lateOfWed Q 34 [(1, some (.int t0))] [] (0, 0) SH_H [m0] (fun t => (r t).bind k) (some t0)) : ∀ (n : Nat) (v1 : Int32) (v2 : Int32), XE B M_X2_lateOfWed Q 4 [(0, some (.ref 0)), (1, some (.int v1)), (2, some (.int v2))] [] (0, 0) SH_H [m0] (fun t => (r t).bind k) (f_X2_lateOfWed_L4 m0 n v1 v2) := by
  intro n
  induction n with
  | zero => intros; exact XE_none
  | succ n ih =>
    intro v1 v2
    rw [f_X2_lateOfWed_L4]
    refine XE_iload_n (n := 5) dX2_lateOfWed_4 rfl rfl rfl ?_
    refine XE_aload_n (n := 6) dX2_lateOfWed_5 rfl rfl rfl ?_
    refine XE_getf (v := m0 0 0) (n := 9) xf_X2_9 rfl rfl rfl dX2_lateOfWed_6 rfl ?_
    refine XE_icmp_ge (t := 34) (n := 12) dX2_lateOfWed_9 rfl rfl (fun h9 => ?_) (fun h9 => ?_)
    · refine XE_ls (x_sub_ok (ls' := [(1, some (.int v1))]) ⟨rfl, trivial⟩) ?_
      exact hE (v1)
    · refine XE_aload_n (n := 13) dX2_lateOfWed_12 rfl rfl rfl ?_
      refine XE_iload_n (n := 14) dX2_lateOfWed_13 rfl rfl rfl ?_
      refine XE_callVi (ni := 1) (As := [.int v2]) (st2 := fun t3 => [.int t3]) (n := 17) (b := 0) xc_X2_104 (fun l t ht => met_X2_isWed l m0 v2 t ht) rfl rfl rfl rfl dX2_lateOfWed_14 (Nat.le_of_ble_eq_true rfl) ⟨Nat.zero_le _, Nat.zero_le _⟩ (Nat.le_of_ble_eq_true rfl) (Nat.le_of_ble_eq_true rfl) (fun _ => rfl) rfl (fun t3 => ?_)
      refine XE_if_eq (t := 28) (n := 20) dX2_lateOfWed_17 rfl rfl (fun h8 => ?_) (fun h8 => ?_)
      · refine XE_iincl (n := 31) dX2_lateOfWed_28 rfl rfl (by decide) (Nat.le_of_ble_eq_true rfl) rfl (fun v4 => ?_)
        refine XE_goto (n := 4) dX2_lateOfWed_31 rfl ?_
        refine XE_ls (x_sub_ok (ls' := [(0, some (.ref 0)), (1, some (.int v1)), (2, some (.int v4))]) ⟨rfl, rfl, rfl, trivial⟩) ?_
        exact ih v1 v4
      · refine XE_iload_n (n := 21) dX2_lateOfWed_20 rfl rfl rfl ?_
        refine XE_aload_n (n := 22) dX2_lateOfWed_21 rfl rfl rfl ?_
        refine XE_iload_n (n := 23) dX2_lateOfWed_22 rfl rfl rfl ?_
        refine XE_callVi (ni := 1) (As := [.int v2]) (st2 := fun t5 => [.int t5, .int v1]) (n := 26) (b := 0) xc_X2_101 (fun l t ht => met_X2_lateOf l m0 v2 t ht) rfl rfl rfl rfl dX2_lateOfWed_23 (Nat.le_of_ble_eq_true rfl) ⟨Nat.zero_le _, Nat.zero_le _⟩ (Nat.le_of_ble_eq_true rfl) (Nat.le_of_ble_eq_true rfl) (fun _ => rfl) rfl (fun t5 => ?_)
        refine XE_iadd (n := 27) dX2_lateOfWed_26 rfl ?_
        refine XE_topi (fun v6 => ?_)
        refine XE_istore_n (i := 1) (n := 28) dX2_lateOfWed_27 rfl rfl (Nat.le_of_ble_eq_true rfl) rfl ?_
        refine XE_iincl (n := 31) dX2_lateOfWed_28 rfl rfl (by decide) (Nat.le_of_ble_eq_true rfl) rfl (fun v7 => ?_)
        refine XE_goto (n := 4) dX2_lateOfWed_31 rfl ?_
        refine XE_ls (x_sub_ok (ls' := [(0, some (.ref 0)), (1, some (.int v6)), (2, some (.int v7))]) ⟨rfl, rfl, rfl, trivial⟩) ?_
        exact ih v6 v7
set_option maxRecDepth 100000 in
theorem xe_X2_lateOfWed (B : XB) (m0 : Mem) : XE B M_X2_lateOfWed (XQm B 0 0 SH_H) 0 [(0, some (.ref 0))] [] (0, 0) SH_H [m0] (fun t => some (some (.int t), [m0])) (f_X2_lateOfWed m0) := by
  unfold f_X2_lateOfWed
  refine XE_iconst (v := 0) (n := 1) dX2_lateOfWed_0 rfl (by decide) ?_
  refine XE_istore_n (i := 1) (n := 2) dX2_lateOfWed_1 rfl rfl (Nat.le_of_ble_eq_true rfl) rfl ?_
  refine XE_iconst (v := 0) (n := 3) dX2_lateOfWed_2 rfl (by decide) ?_
  refine XE_istore_n (i := 2) (n := 4) dX2_lateOfWed_3 rfl rfl (Nat.le_of_ble_eq_true rfl) rfl ?_
  refine XE_ls (x_sub_ok (ls' := [(0, some (.ref 0)), (1, some (.int 0)), (2, some (.int 0))]) ⟨rfl, rfl, rfl, trivial⟩) ?_
  refine XE_reg (J := 34) (lsJ := fun t10 => [(1, some (.int t10))]) (stJ := fun t10 => []) (hsJ := fun t10 => [m0]) (fun t10 => ?_) (fun hJ11 => f_X2_lateOfWed_L4_x B m0 hJ11 6000 (0 : Int32) (0 : Int32))
  refine XE_iload_n (n := 35) dX2_lateOfWed_34 rfl rfl rfl ?_
  exact XE_ireturn rfl dX2_lateOfWed_35 rfl (Nat.le_refl _) (Nat.le_refl _)
theorem met_X2_lateOfWed (l : Launch) (m0 : Mem) (t : Int32) (ht : f_X2_lateOfWed m0 = some t) : XMet l yX2_lateOfWed cX2_lateOfWed 3 (some .int) 2 0 0 [.ref 0] SH_H [m0] SH_H (some (.int t), [m0]) := XMet.of (by decide +kernel) (fun _ => Nat.le_of_ble_eq_true rfl) (fun B => xe_X2_lateOfWed B m0) (by rw [ht]; rfl)
set_option maxRecDepth 100000 in
theorem ok_1 : x_okc [2] SH_H SH_BH = true := by decide +kernel
def SH_B : XSs := [(0, .inr (.inr (0, [67, 4, 5, 0, 0]))), (1, .inl 7), (2, .inl 7), (64, .inr (.inr (2, [0, 68, 69, 70, 0, 71, 72, 73, 0, 74, 0, 75, 0, 0]))), (65, .inl 7), (66, .inl 7), (67, .inl 7), (68, .inl 7), (69, .inl 7), (70, .inl 7), (71, .inl 7), (72, .inl 2)]
def SH_0 : XSs := []
/-! X3_ready: EveryTwentyMinutes$Kinds.ready(III)I in world 0 at () -/
abbrev M_X3_ready : XM := (RX3, cX3_ready, 3, (some .int), "ready", 1, 0, 0)
def f_X3_ready (a0 : Int32) (a1 : Int32) (a2 : Int32) : Option (Int32) :=
  if a0 = 1 then
    if a2 ≤ 5 then
      some (0 : Int32)
    else
      some (a2 - 5)
  else
    if a0 = 2 then
      some (a2 + (a1 / 2))
    else
      if a0 = 3 then
        some ((a2 + a1) + 7)
      else
        if a0 = 4 then
          if a2 ≤ 20 then
            some (0 : Int32)
          else
            some (a2 - 20)
        else
          if a0 = 5 then
            some (a2 + (a1 / 2))
          else
            some a2
set_option maxRecDepth 100000 in
theorem xe_X3_ready (B : XB) (a0 : Int32) (a1 : Int32) (a2 : Int32) : XE B M_X3_ready (XQm B 0 0 SH_0) 0 [(0, some (.int a0)), (1, some (.int a1)), (2, some (.int a2))] [] (0, 0) SH_0 [] (fun t => some (some (.int t), [])) (f_X3_ready a0 a1 a2) := by
  unfold f_X3_ready
  refine XE_iload_n (n := 1) dX3_ready_0 rfl rfl rfl ?_
  refine XE_tsw (c := 1) (t := 36) (off := 35) dX3_ready_1 (by decide) (by decide) rfl rfl ?_ (fun h1 => ?_)
  · refine XE_iload_n (n := 37) dX3_ready_36 rfl rfl rfl ?_
    refine XE_iconst (v := 5) (n := 38) dX3_ready_37 rfl (by decide) ?_
    refine XE_icmp_le (t := 47) (n := 41) dX3_ready_38 rfl rfl (fun h2 => ?_) (fun h2 => ?_)
    · refine XE_iconst (v := 0) (n := 48) dX3_ready_47 rfl (by decide) ?_
      exact XE_ireturn rfl dX3_ready_48 rfl (Nat.le_refl _) (Nat.le_refl _)
    · refine XE_iload_n (n := 42) dX3_ready_41 rfl rfl rfl ?_
      refine XE_iconst (v := 5) (n := 43) dX3_ready_42 rfl (by decide) ?_
      refine XE_isub (n := 44) dX3_ready_43 rfl ?_
      refine XE_goto (n := 48) dX3_ready_44 rfl ?_
      exact XE_ireturn rfl dX3_ready_48 rfl (Nat.le_refl _) (Nat.le_refl _)
  refine XE_tsw (c := 2) (t := 49) (off := 48) dX3_ready_1 (by decide) (by decide) rfl rfl ?_ (fun h3 => ?_)
  · refine XE_iload_n (n := 50) dX3_ready_49 rfl rfl rfl ?_
    refine XE_iload_n (n := 51) dX3_ready_50 rfl rfl rfl ?_
    refine XE_iconst (v := 2) (n := 52) dX3_ready_51 rfl (by decide) ?_
    refine XE_idiv (n := 53) dX3_ready_52 rfl (by decide) ?_
    refine XE_iadd (n := 54) dX3_ready_53 rfl ?_
    exact XE_ireturn rfl dX3_ready_54 rfl (Nat.le_refl _) (Nat.le_refl _)
  refine XE_tsw (c := 3) (t := 55) (off := 54) dX3_ready_1 (by decide) (by decide) rfl rfl ?_ (fun h4 => ?_)
  · refine XE_iload_n (n := 56) dX3_ready_55 rfl rfl rfl ?_
    refine XE_iload_n (n := 57) dX3_ready_56 rfl rfl rfl ?_
    refine XE_iadd (n := 58) dX3_ready_57 rfl ?_
    refine XE_bipush (v := 7) (n := 60) dX3_ready_58 rfl (by decide) ?_
    refine XE_iadd (n := 61) dX3_ready_60 rfl ?_
    exact XE_ireturn rfl dX3_ready_61 rfl (Nat.le_refl _) (Nat.le_refl _)
  refine XE_tsw (c := 4) (t := 62) (off := 61) dX3_ready_1 (by decide) (by decide) rfl rfl ?_ (fun h5 => ?_)
  · refine XE_iload_n (n := 63) dX3_ready_62 rfl rfl rfl ?_
    refine XE_bipush (v := 20) (n := 65) dX3_ready_63 rfl (by decide) ?_
    refine XE_icmp_le (t := 75) (n := 68) dX3_ready_65 rfl rfl (fun h6 => ?_) (fun h6 => ?_)
    · refine XE_iconst (v := 0) (n := 76) dX3_ready_75 rfl (by decide) ?_
      exact XE_ireturn rfl dX3_ready_76 rfl (Nat.le_refl _) (Nat.le_refl _)
    · refine XE_iload_n (n := 69) dX3_ready_68 rfl rfl rfl ?_
      refine XE_bipush (v := 20) (n := 71) dX3_ready_69 rfl (by decide) ?_
      refine XE_isub (n := 72) dX3_ready_71 rfl ?_
      refine XE_goto (n := 76) dX3_ready_72 rfl ?_
      exact XE_ireturn rfl dX3_ready_76 rfl (Nat.le_refl _) (Nat.le_refl _)
  refine XE_tsw (c := 5) (t := 49) (off := 48) dX3_ready_1 (by decide) (by decide) rfl rfl ?_ (fun h7 => ?_)
  · refine XE_iload_n (n := 50) dX3_ready_49 rfl rfl rfl ?_
    refine XE_iload_n (n := 51) dX3_ready_50 rfl rfl rfl ?_
    refine XE_iconst (v := 2) (n := 52) dX3_ready_51 rfl (by decide) ?_
    refine XE_idiv (n := 53) dX3_ready_52 rfl (by decide) ?_
    refine XE_iadd (n := 54) dX3_ready_53 rfl ?_
    exact XE_ireturn rfl dX3_ready_54 rfl (Nat.le_refl _) (Nat.le_refl _)
  refine XE_tswd (t := 77) dX3_ready_1 (by have q0 := x_ne h1 (z := 1) (by decide); have q1 := x_ne h3 (z := 2) (by decide); have q2 := x_ne h4 (z := 3) (by decide); have q3 := x_ne h5 (z := 4) (by decide); have q4 := x_ne h7 (z := 5) (by decide); omega) rfl ?_
  refine XE_iload_n (n := 78) dX3_ready_77 rfl rfl rfl ?_
  exact XE_ireturn rfl dX3_ready_78 rfl (Nat.le_refl _) (Nat.le_refl _)
theorem met_X3_ready (l : Launch) (a0 : Int32) (a1 : Int32) (a2 : Int32) (t : Int32) (ht : f_X3_ready a0 a1 a2 = some t) : XMet l yX3_ready cX3_ready 3 (some .int) 1 0 0 [.int a0, .int a1, .int a2] SH_0 [] SH_0 (some (.int t), []) := XMet.of (by decide +kernel) (fun _ => Nat.le_of_ble_eq_true rfl) (fun B => xe_X3_ready B a0 a1 a2) (by rw [ht]; rfl)
set_option maxRecDepth 100000 in
theorem ok_2 : x_okc [] SH_0 SH_H = true := by decide +kernel
/-! X3_lasts: EveryTwentyMinutes$Kinds.lasts(II)I in world 0 at () -/
abbrev M_X3_lasts : XM := (RX3, cX3_lasts, 5, (some .int), "lasts", 1, 0, 0)
def f_X3_lasts (a0 : Int32) (a1 : Int32) : Option (Int32) :=
  lt (15 + a1) fun v1 =>
  lt (10 + (a1 / 2)) fun v2 =>
  lt (v1 + 8) fun v3 =>
  if a0 = 1 then
    some v2
  else
    if a0 = 2 then
      some v3
    else
      if a0 = 3 then
        some v1
      else
        if a0 = 4 then
          some (v2 - 2)
        else
          if a0 = 5 then
            some (v3 + 5)
          else
            some v1
set_option maxRecDepth 100000 in
theorem xe_X3_lasts (B : XB) (a0 : Int32) (a1 : Int32) : XE B M_X3_lasts (XQm B 0 0 SH_0) 0 [(0, some (.int a0)), (1, some (.int a1))] [] (0, 0) SH_0 [] (fun t => some (some (.int t), [])) (f_X3_lasts a0 a1) := by
  unfold f_X3_lasts
  refine XE_bipush (v := 15) (n := 2) dX3_lasts_0 rfl (by decide) ?_
  refine XE_iload_n (n := 3) dX3_lasts_2 rfl rfl rfl ?_
  refine XE_iadd (n := 4) dX3_lasts_3 rfl ?_
  refine XE_topi (fun v1 => ?_)
  refine XE_istore_n (i := 2) (n := 5) dX3_lasts_4 rfl rfl (Nat.le_of_ble_eq_true rfl) rfl ?_
  refine XE_bipush (v := 10) (n := 7) dX3_lasts_5 rfl (by decide) ?_
  refine XE_iload_n (n := 8) dX3_lasts_7 rfl rfl rfl ?_
  refine XE_iconst (v := 2) (n := 9) dX3_lasts_8 rfl (by decide) ?_
  refine XE_idiv (n := 10) dX3_lasts_9 rfl (by decide) ?_
  refine XE_iadd (n := 11) dX3_lasts_10 rfl ?_
  refine XE_topi (fun v2 => ?_)
  refine XE_istore_n (i := 3) (n := 12) dX3_lasts_11 rfl rfl (Nat.le_of_ble_eq_true rfl) rfl ?_
  refine XE_iload_n (n := 13) dX3_lasts_12 rfl rfl rfl ?_
  refine XE_bipush (v := 8) (n := 15) dX3_lasts_13 rfl (by decide) ?_
  refine XE_iadd (n := 16) dX3_lasts_15 rfl ?_
  refine XE_topi (fun v3 => ?_)
  refine XE_istore (i := 4) (n := 18) dX3_lasts_16 rfl (Nat.le_of_ble_eq_true rfl) rfl ?_
  refine XE_iload_n (n := 19) dX3_lasts_18 rfl rfl rfl ?_
  refine XE_tsw (c := 1) (t := 52) (off := 33) dX3_lasts_19 (by decide) (by decide) rfl rfl ?_ (fun h4 => ?_)
  · refine XE_iload_n (n := 53) dX3_lasts_52 rfl rfl rfl ?_
    exact XE_ireturn rfl dX3_lasts_53 rfl (Nat.le_refl _) (Nat.le_refl _)
  refine XE_tsw (c := 2) (t := 54) (off := 35) dX3_lasts_19 (by decide) (by decide) rfl rfl ?_ (fun h5 => ?_)
  · refine XE_iload (n := 56) dX3_lasts_54 rfl rfl ?_
    exact XE_ireturn rfl dX3_lasts_56 rfl (Nat.le_refl _) (Nat.le_refl _)
  refine XE_tsw (c := 3) (t := 66) (off := 47) dX3_lasts_19 (by decide) (by decide) rfl rfl ?_ (fun h6 => ?_)
  · refine XE_iload_n (n := 67) dX3_lasts_66 rfl rfl rfl ?_
    exact XE_ireturn rfl dX3_lasts_67 rfl (Nat.le_refl _) (Nat.le_refl _)
  refine XE_tsw (c := 4) (t := 57) (off := 38) dX3_lasts_19 (by decide) (by decide) rfl rfl ?_ (fun h7 => ?_)
  · refine XE_iload_n (n := 58) dX3_lasts_57 rfl rfl rfl ?_
    refine XE_iconst (v := 2) (n := 59) dX3_lasts_58 rfl (by decide) ?_
    refine XE_isub (n := 60) dX3_lasts_59 rfl ?_
    exact XE_ireturn rfl dX3_lasts_60 rfl (Nat.le_refl _) (Nat.le_refl _)
  refine XE_tsw (c := 5) (t := 61) (off := 42) dX3_lasts_19 (by decide) (by decide) rfl rfl ?_ (fun h8 => ?_)
  · refine XE_iload (n := 63) dX3_lasts_61 rfl rfl ?_
    refine XE_iconst (v := 5) (n := 64) dX3_lasts_63 rfl (by decide) ?_
    refine XE_iadd (n := 65) dX3_lasts_64 rfl ?_
    exact XE_ireturn rfl dX3_lasts_65 rfl (Nat.le_refl _) (Nat.le_refl _)
  refine XE_tswd (t := 66) dX3_lasts_19 (by have q0 := x_ne h4 (z := 1) (by decide); have q1 := x_ne h5 (z := 2) (by decide); have q2 := x_ne h6 (z := 3) (by decide); have q3 := x_ne h7 (z := 4) (by decide); have q4 := x_ne h8 (z := 5) (by decide); omega) rfl ?_
  refine XE_iload_n (n := 67) dX3_lasts_66 rfl rfl rfl ?_
  exact XE_ireturn rfl dX3_lasts_67 rfl (Nat.le_refl _) (Nat.le_refl _)
theorem met_X3_lasts (l : Launch) (a0 : Int32) (a1 : Int32) (t : Int32) (ht : f_X3_lasts a0 a1 = some t) : XMet l yX3_lasts cX3_lasts 5 (some .int) 1 0 0 [.int a0, .int a1] SH_0 [] SH_0 (some (.int t), []) := XMet.of (by decide +kernel) (fun _ => Nat.le_of_ble_eq_true rfl) (fun B => xe_X3_lasts B a0 a1) (by rw [ht]; rfl)
/-! X2_hold: EveryTwentyMinutes$Hall.hold(II)V in world H at (0,) -/
abbrev M_X2_hold : XM := (RX2, cX2_hold, 6, none, "hold", 2, 0, 0)
def f_X2_hold (m0 : Mem) (a1 : Int32) (a2 : Int32) : Option (Mem) :=
  lt (if (m0 0 10) ≤ 1 then
      ((0 : Int32))
    else
      if (m0 8 0) ≤ (m0 8 1) then
        ((0 : Int32))
      else
        ((1 : Int32))) fun t4 =>
  ck (inb t4 2) <|
  ck (inb a1 7) <|
  ck (inb a1 7) <|
  ck (inb a1 7) <|
  (f_X3_ready (m0 1 (ix a1)) (m0 2 (ix a1)) (m0 3 (ix a1))).bind fun t5 =>
  lt (imax (m0 8 (ix t4)) t5) fun v6 =>
  ck (inb a1 7) <|
  (if (m0 1 (ix a1)) = 4 then
     some (v6)
   else
     ck (inb a1 7) <|
     lt (imax v6 (m0 3 (ix a1))) fun v10 =>
     some (v10)).bind fun t12 =>
  ck (inb a1 7) <|
  ck (inb a1 7) <|
  (f_X3_lasts (m0 1 (ix a1)) (m0 2 (ix a1))).bind fun t13 =>
  lt (if (m0 0 12) < 30 then
      ((0 : Int32))
    else
      ((2 : Int32))) fun t16 =>
  lt ((t13 + a2) + t16) fun v17 =>
  ck (inb a1 7) <|
  lt (xs m0 4 (ix a1) t12) fun w18 =>
  ck (inb a1 7) <|
  lt (xs w18 5 (ix a1) (imin (t12 + v17) 999)) fun w19 =>
  ck (inb a1 7) <|
  lt (xs w19 6 (ix a1) t4) fun w20 =>
  ck (inb a1 7) <|
  ck (inb t4 2) <|
  lt (xs w20 8 (ix t4) (imin ((w20 5 (ix a1)) + (w20 0 13)) 999)) fun w21 =>
  lt (xs w21 0 12 (imin ((w21 0 12) + (v17 / 4)) 99)) fun w22 =>
  some w22
set_option maxRecDepth 100000 in
theorem xe_X2_hold (B : XB) (m0 : Mem) (a1 : Int32) (a2 : Int32) : XE B M_X2_hold (XQm B 0 0 SH_H) 0 [(0, some (.ref 0)), (1, some (.int a1)), (2, some (.int a2))] [] (0, 0) SH_H [m0] (fun t => some (none, [t])) (f_X2_hold m0 a1 a2) := by
  unfold f_X2_hold
  refine XE_aload_n (n := 1) dX2_hold_0 rfl rfl rfl ?_
  refine XE_getf (v := m0 0 10) (n := 4) xf_X2_43 rfl rfl rfl dX2_hold_1 rfl ?_
  refine XE_iconst (v := 1) (n := 5) dX2_hold_4 rfl (by decide) ?_
  refine XE_regv (J := 28) (lsJ := fun t4 => [(0, some (.ref 0)), (1, some (.int a1)), (2, some (.int a2))]) (stJ := fun t4 => [.int t4]) (hsJ := fun t4 => [m0]) (fun t4 => ?_) (fun hJ1 => ?_)
  · refine XE_istore_n (i := 3) (n := 29) dX2_hold_28 rfl rfl (Nat.le_of_ble_eq_true rfl) rfl ?_
    refine XE_aload_n (n := 30) dX2_hold_29 rfl rfl rfl ?_
    refine XE_getr (b := 8) (n := 33) xf_X2_46 rfl rfl dX2_hold_30 rfl ?_
    refine XE_iload_n (n := 34) dX2_hold_33 rfl rfl rfl ?_
    refine XE_iald (row := m0 8) (n := 35) rfl rfl dX2_hold_34 rfl ?_
    refine XE_aload_n (n := 36) dX2_hold_35 rfl rfl rfl ?_
    refine XE_getr (b := 1) (n := 39) xf_X2_15 rfl rfl dX2_hold_36 rfl ?_
    refine XE_iload_n (n := 40) dX2_hold_39 rfl rfl rfl ?_
    refine XE_iald (row := m0 1) (n := 41) rfl rfl dX2_hold_40 rfl ?_
    refine XE_aload_n (n := 42) dX2_hold_41 rfl rfl rfl ?_
    refine XE_getr (b := 2) (n := 45) xf_X2_19 rfl rfl dX2_hold_42 rfl ?_
    refine XE_iload_n (n := 46) dX2_hold_45 rfl rfl rfl ?_
    refine XE_iald (row := m0 2) (n := 47) rfl rfl dX2_hold_46 rfl ?_
    refine XE_aload_n (n := 48) dX2_hold_47 rfl rfl rfl ?_
    refine XE_getr (b := 3) (n := 51) xf_X2_22 rfl rfl dX2_hold_48 rfl ?_
    refine XE_iload_n (n := 52) dX2_hold_51 rfl rfl rfl ?_
    refine XE_iald (row := m0 3) (n := 53) rfl rfl dX2_hold_52 rfl ?_
    refine XE_callS (ni := 3) (As := [.int (m0 1 (ix a1)), .int (m0 2 (ix a1)), .int (m0 3 (ix a1))]) (π := []) (co := [0]) (cv := [m0]) (nn := 1) (hs2 := fun t5 => [m0]) (st2 := fun t5 => [.int t5, .int (m0 8 (ix t4))]) (n := 56) xc_X2_67 (fun l t ht => met_X3_ready l (m0 1 (ix a1)) (m0 2 (ix a1)) (m0 3 (ix a1)) t ht) rfl rfl rfl dX2_hold_53 (Nat.le_of_ble_eq_true rfl) ⟨Nat.zero_le _, Nat.zero_le _⟩ (Nat.le_of_ble_eq_true rfl) (Nat.le_of_ble_eq_true rfl) ok_2 rfl rfl rfl (fun _ => rfl) (fun _ => rfl) (fun _ => rfl) rfl (fun _ => rfl) rfl (fun t5 => ?_)
    refine XE_mmax (n := 59) xp_X2_95 rfl (Nat.le_of_ble_eq_true rfl) (Nat.le_of_ble_eq_true rfl) dX2_hold_56 rfl ?_
    refine XE_topi (fun v6 => ?_)
    refine XE_istore (i := 4) (n := 61) dX2_hold_59 rfl (Nat.le_of_ble_eq_true rfl) rfl ?_
    refine XE_aload_n (n := 62) dX2_hold_61 rfl rfl rfl ?_
    refine XE_getr (b := 1) (n := 65) xf_X2_15 rfl rfl dX2_hold_62 rfl ?_
    refine XE_iload_n (n := 66) dX2_hold_65 rfl rfl rfl ?_
    refine XE_iald (row := m0 1) (n := 67) rfl rfl dX2_hold_66 rfl ?_
    refine XE_iconst (v := 4) (n := 68) dX2_hold_67 rfl (by decide) ?_
    refine XE_reg (J := 84) (lsJ := fun t12 => [(0, some (.ref 0)), (1, some (.int a1)), (2, some (.int a2)), (3, some (.int t4)), (4, some (.int t12))]) (stJ := fun t12 => []) (hsJ := fun t12 => [m0]) (fun t12 => ?_) (fun hJ9 => ?_)
    · refine XE_aload_n (n := 85) dX2_hold_84 rfl rfl rfl ?_
      refine XE_getr (b := 1) (n := 88) xf_X2_15 rfl rfl dX2_hold_85 rfl ?_
      refine XE_iload_n (n := 89) dX2_hold_88 rfl rfl rfl ?_
      refine XE_iald (row := m0 1) (n := 90) rfl rfl dX2_hold_89 rfl ?_
      refine XE_aload_n (n := 91) dX2_hold_90 rfl rfl rfl ?_
      refine XE_getr (b := 2) (n := 94) xf_X2_19 rfl rfl dX2_hold_91 rfl ?_
      refine XE_iload_n (n := 95) dX2_hold_94 rfl rfl rfl ?_
      refine XE_iald (row := m0 2) (n := 96) rfl rfl dX2_hold_95 rfl ?_
      refine XE_callS (ni := 2) (As := [.int (m0 1 (ix a1)), .int (m0 2 (ix a1))]) (π := []) (co := [0]) (cv := [m0]) (nn := 1) (hs2 := fun t13 => [m0]) (st2 := fun t13 => [.int t13]) (n := 99) xc_X2_61 (fun l t ht => met_X3_lasts l (m0 1 (ix a1)) (m0 2 (ix a1)) t ht) rfl rfl rfl dX2_hold_96 (Nat.le_of_ble_eq_true rfl) ⟨Nat.zero_le _, Nat.zero_le _⟩ (Nat.le_of_ble_eq_true rfl) (Nat.le_of_ble_eq_true rfl) ok_2 rfl rfl rfl (fun _ => rfl) (fun _ => rfl) (fun _ => rfl) rfl (fun _ => rfl) rfl (fun t13 => ?_)
      refine XE_iload_n (n := 100) dX2_hold_99 rfl rfl rfl ?_
      refine XE_iadd (n := 101) dX2_hold_100 rfl ?_
      refine XE_aload_n (n := 102) dX2_hold_101 rfl rfl rfl ?_
      refine XE_getf (v := m0 0 12) (n := 105) xf_X2_49 rfl rfl rfl dX2_hold_102 rfl ?_
      refine XE_bipush (v := 30) (n := 107) dX2_hold_105 rfl (by decide) ?_
      refine XE_regv (J := 115) (lsJ := fun t16 => [(0, some (.ref 0)), (1, some (.int a1)), (3, some (.int t4)), (4, some (.int t12))]) (stJ := fun t16 => [.int t16, .int (t13 + a2)]) (hsJ := fun t16 => [m0]) (fun t16 => ?_) (fun hJ14 => ?_)
      · refine XE_iadd (n := 116) dX2_hold_115 rfl ?_
        refine XE_topi (fun v17 => ?_)
        refine XE_istore (i := 5) (n := 118) dX2_hold_116 rfl (Nat.le_of_ble_eq_true rfl) rfl ?_
        refine XE_aload_n (n := 119) dX2_hold_118 rfl rfl rfl ?_
        refine XE_getr (b := 4) (n := 122) xf_X2_28 rfl rfl dX2_hold_119 rfl ?_
        refine XE_iload_n (n := 123) dX2_hold_122 rfl rfl rfl ?_
        refine XE_iload (n := 125) dX2_hold_123 rfl rfl ?_
        refine XE_iast (hs2 := fun w18 => [w18]) (n := 126) rfl rfl rfl (Nat.le_of_ble_eq_true rfl) (fun _ => rfl) dX2_hold_125 rfl (fun w18 => ?_)
        refine XE_aload_n (n := 127) dX2_hold_126 rfl rfl rfl ?_
        refine XE_getr (b := 5) (n := 130) xf_X2_31 rfl rfl dX2_hold_127 rfl ?_
        refine XE_iload_n (n := 131) dX2_hold_130 rfl rfl rfl ?_
        refine XE_iload (n := 133) dX2_hold_131 rfl rfl ?_
        refine XE_iload (n := 135) dX2_hold_133 rfl rfl ?_
        refine XE_iadd (n := 136) dX2_hold_135 rfl ?_
        refine XE_sipush (v := 999) (n := 139) dX2_hold_136 rfl (by decide) ?_
        refine XE_mmin (n := 142) xp_X2_82 rfl (Nat.le_of_ble_eq_true rfl) (Nat.le_of_ble_eq_true rfl) dX2_hold_139 rfl ?_
        refine XE_iast (hs2 := fun w19 => [w19]) (n := 143) rfl rfl rfl (Nat.le_of_ble_eq_true rfl) (fun _ => rfl) dX2_hold_142 rfl (fun w19 => ?_)
        refine XE_aload_n (n := 144) dX2_hold_143 rfl rfl rfl ?_
        refine XE_getr (b := 6) (n := 147) xf_X2_34 rfl rfl dX2_hold_144 rfl ?_
        refine XE_iload_n (n := 148) dX2_hold_147 rfl rfl rfl ?_
        refine XE_iload_n (n := 149) dX2_hold_148 rfl rfl rfl ?_
        refine XE_iast (hs2 := fun w20 => [w20]) (n := 150) rfl rfl rfl (Nat.le_of_ble_eq_true rfl) (fun _ => rfl) dX2_hold_149 rfl (fun w20 => ?_)
        refine XE_aload_n (n := 151) dX2_hold_150 rfl rfl rfl ?_
        refine XE_getr (b := 8) (n := 154) xf_X2_46 rfl rfl dX2_hold_151 rfl ?_
        refine XE_iload_n (n := 155) dX2_hold_154 rfl rfl rfl ?_
        refine XE_aload_n (n := 156) dX2_hold_155 rfl rfl rfl ?_
        refine XE_getr (b := 5) (n := 159) xf_X2_31 rfl rfl dX2_hold_156 rfl ?_
        refine XE_iload_n (n := 160) dX2_hold_159 rfl rfl rfl ?_
        refine XE_iald (row := w20 5) (n := 161) rfl rfl dX2_hold_160 rfl ?_
        refine XE_aload_n (n := 162) dX2_hold_161 rfl rfl rfl ?_
        refine XE_getf (v := w20 0 13) (n := 165) xf_X2_52 rfl rfl rfl dX2_hold_162 rfl ?_
        refine XE_iadd (n := 166) dX2_hold_165 rfl ?_
        refine XE_sipush (v := 999) (n := 169) dX2_hold_166 rfl (by decide) ?_
        refine XE_mmin (n := 172) xp_X2_82 rfl (Nat.le_of_ble_eq_true rfl) (Nat.le_of_ble_eq_true rfl) dX2_hold_169 rfl ?_
        refine XE_iast (hs2 := fun w21 => [w21]) (n := 173) rfl rfl rfl (Nat.le_of_ble_eq_true rfl) (fun _ => rfl) dX2_hold_172 rfl (fun w21 => ?_)
        refine XE_aload_n (n := 174) dX2_hold_173 rfl rfl rfl ?_
        refine XE_aload_n (n := 175) dX2_hold_174 rfl rfl rfl ?_
        refine XE_getf (v := w21 0 12) (n := 178) xf_X2_49 rfl rfl rfl dX2_hold_175 rfl ?_
        refine XE_iload (n := 180) dX2_hold_178 rfl rfl ?_
        refine XE_iconst (v := 4) (n := 181) dX2_hold_180 rfl (by decide) ?_
        refine XE_idiv (n := 182) dX2_hold_181 rfl (by decide) ?_
        refine XE_iadd (n := 183) dX2_hold_182 rfl ?_
        refine XE_bipush (v := 99) (n := 185) dX2_hold_183 rfl (by decide) ?_
        refine XE_mmin (n := 188) xp_X2_82 rfl (Nat.le_of_ble_eq_true rfl) (Nat.le_of_ble_eq_true rfl) dX2_hold_185 rfl ?_
        refine XE_putf (hs2 := fun w22 => [w22]) (n := 191) xf_X2_49 rfl rfl rfl rfl (Nat.le_of_ble_eq_true rfl) (fun _ => rfl) dX2_hold_188 rfl (fun w22 => ?_)
        exact XE_vreturn rfl dX2_hold_191 rfl (Nat.le_refl _) (Nat.le_refl _)
      · refine XE_ltif ?_
        refine XE_icmp_lt (t := 114) (n := 110) dX2_hold_107 rfl rfl (fun h15 => ?_) (fun h15 => ?_)
        · refine XE_iconst (v := 0) (n := 115) dX2_hold_114 rfl (by decide) ?_
          refine XE_ls (x_sub_ok (ls' := [(0, some (.ref 0)), (1, some (.int a1)), (3, some (.int t4)), (4, some (.int t12))]) ⟨rfl, rfl, rfl, rfl, trivial⟩) ?_
          exact hJ14 ((0 : Int32))
        · refine XE_iconst (v := 2) (n := 111) dX2_hold_110 rfl (by decide) ?_
          refine XE_goto (n := 115) dX2_hold_111 rfl ?_
          refine XE_ls (x_sub_ok (ls' := [(0, some (.ref 0)), (1, some (.int a1)), (3, some (.int t4)), (4, some (.int t12))]) ⟨rfl, rfl, rfl, rfl, trivial⟩) ?_
          exact hJ14 ((2 : Int32))
    · refine XE_icmp_eq (t := 84) (n := 71) dX2_hold_68 rfl rfl (fun h11 => ?_) (fun h11 => ?_)
      · refine XE_ls (x_sub_ok (ls' := [(0, some (.ref 0)), (1, some (.int a1)), (2, some (.int a2)), (3, some (.int t4)), (4, some (.int v6))]) ⟨rfl, rfl, rfl, rfl, rfl, trivial⟩) ?_
        exact hJ9 (v6)
      · refine XE_iload (n := 73) dX2_hold_71 rfl rfl ?_
        refine XE_aload_n (n := 74) dX2_hold_73 rfl rfl rfl ?_
        refine XE_getr (b := 3) (n := 77) xf_X2_22 rfl rfl dX2_hold_74 rfl ?_
        refine XE_iload_n (n := 78) dX2_hold_77 rfl rfl rfl ?_
        refine XE_iald (row := m0 3) (n := 79) rfl rfl dX2_hold_78 rfl ?_
        refine XE_mmax (n := 82) xp_X2_95 rfl (Nat.le_of_ble_eq_true rfl) (Nat.le_of_ble_eq_true rfl) dX2_hold_79 rfl ?_
        refine XE_topi (fun v10 => ?_)
        refine XE_istore (i := 4) (n := 84) dX2_hold_82 rfl (Nat.le_of_ble_eq_true rfl) rfl ?_
        refine XE_ls (x_sub_ok (ls' := [(0, some (.ref 0)), (1, some (.int a1)), (2, some (.int a2)), (3, some (.int t4)), (4, some (.int v10))]) ⟨rfl, rfl, rfl, rfl, rfl, trivial⟩) ?_
        exact hJ9 (v10)
  · refine XE_ltif ?_
    refine XE_icmp_le (t := 27) (n := 8) dX2_hold_5 rfl rfl (fun h3 => ?_) (fun h3 => ?_)
    · refine XE_iconst (v := 0) (n := 28) dX2_hold_27 rfl (by decide) ?_
      refine XE_ls (x_sub_ok (ls' := [(0, some (.ref 0)), (1, some (.int a1)), (2, some (.int a2))]) ⟨rfl, rfl, rfl, trivial⟩) ?_
      exact hJ1 ((0 : Int32))
    · refine XE_aload_n (n := 9) dX2_hold_8 rfl rfl rfl ?_
      refine XE_getr (b := 8) (n := 12) xf_X2_46 rfl rfl dX2_hold_9 rfl ?_
      refine XE_iconst (v := 1) (n := 13) dX2_hold_12 rfl (by decide) ?_
      refine XE_ialdc (row := m0 8) (j := 1) (n := 14) rfl rfl rfl rfl dX2_hold_13 rfl ?_
      refine XE_aload_n (n := 15) dX2_hold_14 rfl rfl rfl ?_
      refine XE_getr (b := 8) (n := 18) xf_X2_46 rfl rfl dX2_hold_15 rfl ?_
      refine XE_iconst (v := 0) (n := 19) dX2_hold_18 rfl (by decide) ?_
      refine XE_ialdc (row := m0 8) (j := 0) (n := 20) rfl rfl rfl rfl dX2_hold_19 rfl ?_
      refine XE_ltif ?_
      refine XE_icmp_ge (t := 27) (n := 23) dX2_hold_20 rfl rfl (fun h2 => ?_) (fun h2 => ?_)
      · refine XE_iconst (v := 0) (n := 28) dX2_hold_27 rfl (by decide) ?_
        refine XE_ls (x_sub_ok (ls' := [(0, some (.ref 0)), (1, some (.int a1)), (2, some (.int a2))]) ⟨rfl, rfl, rfl, trivial⟩) ?_
        exact hJ1 ((0 : Int32))
      · refine XE_iconst (v := 1) (n := 24) dX2_hold_23 rfl (by decide) ?_
        refine XE_goto (n := 28) dX2_hold_24 rfl ?_
        refine XE_ls (x_sub_ok (ls' := [(0, some (.ref 0)), (1, some (.int a1)), (2, some (.int a2))]) ⟨rfl, rfl, rfl, trivial⟩) ?_
        exact hJ1 ((1 : Int32))
theorem met_X2_hold (l : Launch) (m0 : Mem) (a1 : Int32) (a2 : Int32) (t : Mem) (ht : f_X2_hold m0 a1 a2 = some t) : XMet l yX2_hold cX2_hold 6 none 2 0 0 [.ref 0, .int a1, .int a2] SH_H [m0] SH_H (none, [t]) := XMet.of (by decide +kernel) (fun _ => Nat.le_of_ble_eq_true rfl) (fun B => xe_X2_hold B m0 a1 a2) (by rw [ht]; rfl)
set_option maxRecDepth 100000 in
theorem ok_3 : x_okc [1] SH_H SH_B = true := by decide +kernel
/-! X0_seek: recursion, its depth n0 -/
abbrev M_X0_seek (n0 : Nat) : XM := (RX0, cX0_seek, 9, none, "seek", n0 + 1 + 2, 0, 0)
def f_X0_seek_L80 (rec : Mem → Mem → Int32 → Int32 → Int32 → Option (Mem × Mem)) (a1 : Int32) (a2 : Int32) (a3 : Int32) (v1 : Int32) (v2 : Int32) (v3 : Int32) : Nat → Int32 → Mem → Mem → Option (Mem × Mem)
  | 0, _, _, _ => none
  | n + 1, v4, w5, w6 =>
    if (w6 0 0) ≤ v4 then
      some (w5, w6)
    else
      if ((a2 >>> (v4 &&& 31)) &&& 1) = 0 then
        ck (inb a1 7) <|
        lt (xs w5 1 (ix a1) v4) fun w8 =>
        (f_X2_hold w6 v4 0).bind fun t9 =>
        (f_X2_lateOf t9 v4).bind fun t10 =>
        (rec w8 t9 (a1 + 1) (a2 ||| (1 <<< (v4 &&& 31))) (a3 + t10)).bind fun t11 =>
        lt (xs t11.2 8 0 v1) fun w12 =>
        lt (xs w12 8 1 v2) fun w13 =>
        lt (xs w13 0 12 v3) fun w14 =>
        lt (v4 + 1) fun v15 =>
        (f_X0_seek_L80 rec a1 a2 a3 v1 v2 v3 n) v15 t11.1 w14
      else
        lt (v4 + 1) fun v7 =>
        (f_X0_seek_L80 rec a1 a2 a3 v1 v2 v3 n) v7 w5 w6
def f_X0_seekB (rec : Mem → Mem → Int32 → Int32 → Int32 → Option (Mem × Mem)) (m0 : Mem) (m1 : Mem) (a1 : Int32) (a2 : Int32) (a3 : Int32) : Option (Mem × Mem) :=
  if (m0 0 4) ≤ a3 then
    some (m0, m1)
  else
    if a1 ≤ 7 then
      if a1 < (m0 0 3) then
        lt (m1 8 0) fun v1 =>
        lt (m1 8 1) fun v2 =>
        lt (m1 0 12) fun v3 =>
        (f_X0_seek_L80 rec a1 a2 a3 v1 v2 v3 6000 (0 : Int32) m0 m1).bind fun t18 =>
        some (t18.1, t18.2)
      else
        lt (xs m0 0 4 a3) fun w20 =>
        ck (cpok 0 0 (w20 0 3) 7 7) <|
        lt (xcp w20 2 (w20 1) (ix 0) (ix 0) (ix (w20 0 3))) fun w21 =>
        some (w21, m1)
    else
      some (m0, m1)
def f_X0_seek : Nat → Mem → Mem → Int32 → Int32 → Int32 → Option (Mem × Mem)
  | 0 => fun _ _ _ _ _ => none
  | n + 1 => f_X0_seekB (f_X0_seek n)
set_option maxRecDepth 100000 in
theorem f_X0_seek_L80_x {α R : Type} (B : XB) {Q : R → State → Prop} {k : α → Option R} {r : (Mem × Mem) → Option α} (rec : Mem → Mem → Int32 → Int32 → Int32 → Option (Mem × Mem)) (n0 : Nat) (hrec : ∀ (l : Launch) (m0 : Mem) (m1 : Mem) (a1 : Int32) (a2 : Int32) (a3 : Int32) (t : Mem × Mem), rec m0 m1 a1 a2 a3 = some t → XMet l yX0_seek cX0_seek 9 none (n0 + 2) 0 0 [.ref 0, .int a1, .int a2, .int a3] SH_B [m0, m1] SH_B (none, [t.1, t.2])) (a1 : Int32) (a2 : Int32) (a3 : Int32) (v1 : Int32) (v2 : Int32) (v3 : Int32) (hE : ∀ t0 : (Mem × Mem), XE B (M_X0_seek n0) Q 168 [] [] (0, 0) SH_B [t0.1, t0.2] (fun t => (r t).bind k) (some t0)) : ∀ (n : Nat) (v4 : Int32) (w5 : Mem) (w6 : Mem), XE B (M_X0_seek n0) Q 80 [(0, some (.ref 0)), (1, some (.int a1)), (2, some (.int a2)), (3, some (.int a3)), (4, some (.ref 64)), (5, some (.int v1)), (6, some (.int v2)), (7, some (.int v3)), (8, some (.int v4))] [] (0, 0) SH_B [w5, w6] (fun t => (r t).bind k) (f_X0_seek_L80 rec a1 a2 a3 v1 v2 v3 n v4 w5 w6) := by
  intro n
  induction n with
  | zero => intros; exact XE_none
  | succ n ih =>
    intro v4 w5 w6
    rw [f_X0_seek_L80]
    refine XE_iload (n := 82) dX0_seek_80 rfl rfl ?_
    refine XE_aload (n := 84) dX0_seek_82 rfl rfl ?_
    refine XE_getf (v := w6 0 0) (n := 87) xf_X0_63 rfl rfl rfl dX0_seek_84 rfl ?_
    refine XE_icmp_ge (t := 168) (n := 90) dX0_seek_87 rfl rfl (fun h17 => ?_) (fun h17 => ?_)
    · refine XE_ls (x_sub_ok (ls' := []) trivial) ?_
      exact hE (w5, w6)
    · refine XE_iload_n (n := 91) dX0_seek_90 rfl rfl rfl ?_
      refine XE_iload (n := 93) dX0_seek_91 rfl rfl ?_
      refine XE_ishr (n := 94) dX0_seek_93 rfl ?_
      refine XE_iconst (v := 1) (n := 95) dX0_seek_94 rfl (by decide) ?_
      refine XE_iand (n := 96) dX0_seek_95 rfl ?_
      refine XE_if_ne (t := 162) (n := 99) dX0_seek_96 rfl rfl (fun h16 => ?_) (fun h16 => ?_)
      · refine XE_aload_n (n := 100) dX0_seek_99 rfl rfl rfl ?_
        refine XE_getr (b := 1) (n := 103) xf_X0_18 rfl rfl dX0_seek_100 rfl ?_
        refine XE_iload_n (n := 104) dX0_seek_103 rfl rfl rfl ?_
        refine XE_iload (n := 106) dX0_seek_104 rfl rfl ?_
        refine XE_iast (hs2 := fun w8 => [w8, w6]) (n := 107) rfl rfl rfl (Nat.le_of_ble_eq_true rfl) (fun _ => rfl) dX0_seek_106 rfl (fun w8 => ?_)
        refine XE_aload (n := 109) dX0_seek_107 rfl rfl ?_
        refine XE_iload (n := 111) dX0_seek_109 rfl rfl ?_
        refine XE_iconst (v := 0) (n := 112) dX0_seek_111 rfl (by decide) ?_
        refine XE_callV (ni := 2) (As := [.int v4, .int 0]) (π := [1]) (co := [0]) (cv := [w8]) (nn := 2) (hs2 := fun t9 => [w8, t9]) (st2 := fun t9 => []) (n := 115) (b := 64) xc_X0_66 (fun l t ht => met_X2_hold l w6 v4 0 t ht) rfl rfl rfl rfl rfl dX0_seek_112 (Nat.le_of_ble_eq_true rfl) ⟨Nat.zero_le _, Nat.zero_le _⟩ (Nat.le_of_ble_eq_true rfl) (Nat.le_of_ble_eq_true rfl) ok_3 rfl rfl rfl (fun _ => rfl) (fun _ => rfl) (fun _ => rfl) rfl (fun _ => rfl) rfl (fun t9 => ?_)
        refine XE_aload_n (n := 116) dX0_seek_115 rfl rfl rfl ?_
        refine XE_iload_n (n := 117) dX0_seek_116 rfl rfl rfl ?_
        refine XE_iconst (v := 1) (n := 118) dX0_seek_117 rfl (by decide) ?_
        refine XE_iadd (n := 119) dX0_seek_118 rfl ?_
        refine XE_iload_n (n := 120) dX0_seek_119 rfl rfl rfl ?_
        refine XE_iconst (v := 1) (n := 121) dX0_seek_120 rfl (by decide) ?_
        refine XE_iload (n := 123) dX0_seek_121 rfl rfl ?_
        refine XE_ishl (n := 124) dX0_seek_123 rfl ?_
        refine XE_ior (n := 125) dX0_seek_124 rfl ?_
        refine XE_iload_n (n := 126) dX0_seek_125 rfl rfl rfl ?_
        refine XE_aload (n := 128) dX0_seek_126 rfl rfl ?_
        refine XE_iload (n := 130) dX0_seek_128 rfl rfl ?_
        refine XE_callV (ni := 1) (As := [.int v4]) (π := [1]) (co := [0]) (cv := [w8]) (nn := 2) (hs2 := fun t10 => [w8, t9]) (st2 := fun t10 => [.int t10, .int a3, .int (a2 ||| (1 <<< (v4 &&& 31))), .int (a1 + 1), .ref 0]) (n := 133) (b := 64) xc_X0_70 (fun l t ht => met_X2_lateOf l t9 v4 t ht) rfl rfl rfl rfl rfl dX0_seek_130 (Nat.le_of_ble_eq_true rfl) ⟨Nat.zero_le _, Nat.zero_le _⟩ (Nat.le_of_ble_eq_true rfl) (Nat.le_of_ble_eq_true rfl) ok_3 rfl rfl rfl (fun _ => rfl) (fun _ => rfl) (fun _ => rfl) rfl (fun _ => rfl) rfl (fun t10 => ?_)
        refine XE_iadd (n := 134) dX0_seek_133 rfl ?_
        refine XE_callSi (ni := 4) (As := [.ref 0, .int (a1 + 1), .int (a2 ||| (1 <<< (v4 &&& 31))), .int (a3 + t10)]) (st2 := fun t11 => []) (n := 137) xc_X0_47 (fun l t ht => hrec l w8 t9 (a1 + 1) (a2 ||| (1 <<< (v4 &&& 31))) (a3 + t10) t ht) rfl rfl dX0_seek_134 (by show n0 + 2 + 1 ≤ n0 + 1 + 2; omega) ⟨Nat.zero_le _, Nat.zero_le _⟩ (Nat.le_of_ble_eq_true rfl) (Nat.le_of_ble_eq_true rfl) (fun _ => rfl) rfl (fun t11 => ?_)
        refine XE_aload (n := 139) dX0_seek_137 rfl rfl ?_
        refine XE_getr (b := 72) (n := 142) xf_X0_57 rfl rfl dX0_seek_139 rfl ?_
        refine XE_iconst (v := 0) (n := 143) dX0_seek_142 rfl (by decide) ?_
        refine XE_iload (n := 145) dX0_seek_143 rfl rfl ?_
        refine XE_iastj (j := 0) (hs2 := fun w12 => [t11.1, w12]) (n := 146) rfl rfl rfl (Nat.le_of_ble_eq_true rfl) (fun _ => rfl) rfl rfl dX0_seek_145 rfl (fun w12 => ?_)
        refine XE_aload (n := 148) dX0_seek_146 rfl rfl ?_
        refine XE_getr (b := 72) (n := 151) xf_X0_57 rfl rfl dX0_seek_148 rfl ?_
        refine XE_iconst (v := 1) (n := 152) dX0_seek_151 rfl (by decide) ?_
        refine XE_iload (n := 154) dX0_seek_152 rfl rfl ?_
        refine XE_iastj (j := 1) (hs2 := fun w13 => [t11.1, w13]) (n := 155) rfl rfl rfl (Nat.le_of_ble_eq_true rfl) (fun _ => rfl) rfl rfl dX0_seek_154 rfl (fun w13 => ?_)
        refine XE_aload (n := 157) dX0_seek_155 rfl rfl ?_
        refine XE_iload (n := 159) dX0_seek_157 rfl rfl ?_
        refine XE_putf (hs2 := fun w14 => [t11.1, w14]) (n := 162) xf_X0_60 rfl rfl rfl rfl (Nat.le_of_ble_eq_true rfl) (fun _ => rfl) dX0_seek_159 rfl (fun w14 => ?_)
        refine XE_iincl (n := 165) dX0_seek_162 rfl rfl (by decide) (Nat.le_of_ble_eq_true rfl) rfl (fun v15 => ?_)
        refine XE_goto (n := 80) dX0_seek_165 rfl ?_
        refine XE_ls (x_sub_ok (ls' := [(0, some (.ref 0)), (1, some (.int a1)), (2, some (.int a2)), (3, some (.int a3)), (4, some (.ref 64)), (5, some (.int v1)), (6, some (.int v2)), (7, some (.int v3)), (8, some (.int v15))]) ⟨rfl, rfl, rfl, rfl, rfl, rfl, rfl, rfl, rfl, trivial⟩) ?_
        exact ih v15 t11.1 w14
      · refine XE_iincl (n := 165) dX0_seek_162 rfl rfl (by decide) (Nat.le_of_ble_eq_true rfl) rfl (fun v7 => ?_)
        refine XE_goto (n := 80) dX0_seek_165 rfl ?_
        refine XE_ls (x_sub_ok (ls' := [(0, some (.ref 0)), (1, some (.int a1)), (2, some (.int a2)), (3, some (.int a3)), (4, some (.ref 64)), (5, some (.int v1)), (6, some (.int v2)), (7, some (.int v3)), (8, some (.int v7))]) ⟨rfl, rfl, rfl, rfl, rfl, rfl, rfl, rfl, rfl, trivial⟩) ?_
        exact ih v7 w5 w6
set_option maxRecDepth 100000 in
theorem xe_X0_seek (B : XB) (rec : Mem → Mem → Int32 → Int32 → Int32 → Option (Mem × Mem)) (n0 : Nat) (hrec : ∀ (l : Launch) (m0 : Mem) (m1 : Mem) (a1 : Int32) (a2 : Int32) (a3 : Int32) (t : Mem × Mem), rec m0 m1 a1 a2 a3 = some t → XMet l yX0_seek cX0_seek 9 none (n0 + 2) 0 0 [.ref 0, .int a1, .int a2, .int a3] SH_B [m0, m1] SH_B (none, [t.1, t.2])) (m0 : Mem) (m1 : Mem) (a1 : Int32) (a2 : Int32) (a3 : Int32) : XE B (M_X0_seek n0) (XQm B 0 0 SH_B) 0 [(0, some (.ref 0)), (1, some (.int a1)), (2, some (.int a2)), (3, some (.int a3))] [] (0, 0) SH_B [m0, m1] (fun t => some (none, [t.1, t.2])) (f_X0_seekB rec m0 m1 a1 a2 a3) := by
  unfold f_X0_seekB
  refine XE_iload_n (n := 1) dX0_seek_0 rfl rfl rfl ?_
  refine XE_aload_n (n := 2) dX0_seek_1 rfl rfl rfl ?_
  refine XE_getf (v := m0 0 4) (n := 5) xf_X0_29 rfl rfl rfl dX0_seek_2 rfl ?_
  refine XE_icmp_ge (t := 14) (n := 8) dX0_seek_5 rfl rfl (fun h24 => ?_) (fun h24 => ?_)
  · exact XE_vreturn rfl dX0_seek_14 rfl (Nat.le_refl _) (Nat.le_refl _)
  · refine XE_iload_n (n := 9) dX0_seek_8 rfl rfl rfl ?_
    refine XE_bipush (v := 7) (n := 11) dX0_seek_9 rfl (by decide) ?_
    refine XE_icmp_le (t := 15) (n := 14) dX0_seek_11 rfl rfl (fun h23 => ?_) (fun h23 => ?_)
    · refine XE_iload_n (n := 16) dX0_seek_15 rfl rfl rfl ?_
      refine XE_aload_n (n := 17) dX0_seek_16 rfl rfl rfl ?_
      refine XE_getf (v := m0 0 3) (n := 20) xf_X0_25 rfl rfl rfl dX0_seek_17 rfl ?_
      refine XE_icmp_lt (t := 46) (n := 23) dX0_seek_20 rfl rfl (fun h22 => ?_) (fun h22 => ?_)
      · refine XE_aload_n (n := 47) dX0_seek_46 rfl rfl rfl ?_
        refine XE_getr (b := 64) (n := 50) xf_X0_12 rfl rfl dX0_seek_47 rfl ?_
        refine XE_astore (i := 4) (n := 52) dX0_seek_50 rfl (Nat.le_of_ble_eq_true rfl) rfl ?_
        refine XE_aload (n := 54) dX0_seek_52 rfl rfl ?_
        refine XE_getr (b := 72) (n := 57) xf_X0_57 rfl rfl dX0_seek_54 rfl ?_
        refine XE_iconst (v := 0) (n := 58) dX0_seek_57 rfl (by decide) ?_
        refine XE_ialdc (row := m1 8) (j := 0) (n := 59) rfl rfl rfl rfl dX0_seek_58 rfl ?_
        refine XE_topi (fun v1 => ?_)
        refine XE_istore (i := 5) (n := 61) dX0_seek_59 rfl (Nat.le_of_ble_eq_true rfl) rfl ?_
        refine XE_aload (n := 63) dX0_seek_61 rfl rfl ?_
        refine XE_getr (b := 72) (n := 66) xf_X0_57 rfl rfl dX0_seek_63 rfl ?_
        refine XE_iconst (v := 1) (n := 67) dX0_seek_66 rfl (by decide) ?_
        refine XE_ialdc (row := m1 8) (j := 1) (n := 68) rfl rfl rfl rfl dX0_seek_67 rfl ?_
        refine XE_topi (fun v2 => ?_)
        refine XE_istore (i := 6) (n := 70) dX0_seek_68 rfl (Nat.le_of_ble_eq_true rfl) rfl ?_
        refine XE_aload (n := 72) dX0_seek_70 rfl rfl ?_
        refine XE_getf (v := m1 0 12) (n := 75) xf_X0_60 rfl rfl rfl dX0_seek_72 rfl ?_
        refine XE_topi (fun v3 => ?_)
        refine XE_istore (i := 7) (n := 77) dX0_seek_75 rfl (Nat.le_of_ble_eq_true rfl) rfl ?_
        refine XE_iconst (v := 0) (n := 78) dX0_seek_77 rfl (by decide) ?_
        refine XE_istore (i := 8) (n := 80) dX0_seek_78 rfl (Nat.le_of_ble_eq_true rfl) rfl ?_
        refine XE_ls (x_sub_ok (ls' := [(0, some (.ref 0)), (1, some (.int a1)), (2, some (.int a2)), (3, some (.int a3)), (4, some (.ref 64)), (5, some (.int v1)), (6, some (.int v2)), (7, some (.int v3)), (8, some (.int 0))]) ⟨rfl, rfl, rfl, rfl, rfl, rfl, rfl, rfl, rfl, trivial⟩) ?_
        refine XE_reg (J := 168) (lsJ := fun t18 => []) (stJ := fun t18 => []) (hsJ := fun t18 => [t18.1, t18.2]) (fun t18 => ?_) (fun hJ19 => f_X0_seek_L80_x B rec n0 hrec a1 a2 a3 v1 v2 v3 hJ19 6000 (0 : Int32) m0 m1)
        exact XE_vreturn rfl dX0_seek_168 rfl (Nat.le_refl _) (Nat.le_refl _)
      · refine XE_aload_n (n := 24) dX0_seek_23 rfl rfl rfl ?_
        refine XE_iload_n (n := 25) dX0_seek_24 rfl rfl rfl ?_
        refine XE_putf (hs2 := fun w20 => [w20, m1]) (n := 28) xf_X0_29 rfl rfl rfl rfl (Nat.le_of_ble_eq_true rfl) (fun _ => rfl) dX0_seek_25 rfl (fun w20 => ?_)
        refine XE_aload_n (n := 29) dX0_seek_28 rfl rfl rfl ?_
        refine XE_getr (b := 1) (n := 32) xf_X0_18 rfl rfl dX0_seek_29 rfl ?_
        refine XE_iconst (v := 0) (n := 33) dX0_seek_32 rfl (by decide) ?_
        refine XE_aload_n (n := 34) dX0_seek_33 rfl rfl rfl ?_
        refine XE_getr (b := 2) (n := 37) xf_X0_22 rfl rfl dX0_seek_34 rfl ?_
        refine XE_iconst (v := 0) (n := 38) dX0_seek_37 rfl (by decide) ?_
        refine XE_aload_n (n := 39) dX0_seek_38 rfl rfl rfl ?_
        refine XE_getf (v := w20 0 3) (n := 42) xf_X0_25 rfl rfl rfl dX0_seek_39 rfl ?_
        refine XE_cpy (row := (w20 1)) (hs2 := fun w21 => [w21, m1]) (n := 45) xp_X0_51 rfl rfl rfl rfl rfl (Nat.le_of_ble_eq_true rfl) (fun _ => rfl) (Nat.le_of_ble_eq_true rfl) rfl dX0_seek_42 rfl (fun w21 => ?_)
        exact XE_vreturn rfl dX0_seek_45 rfl (Nat.le_refl _) (Nat.le_refl _)
    · exact XE_vreturn rfl dX0_seek_14 rfl (Nat.le_refl _) (Nat.le_refl _)
theorem met_X0_seek : ∀ (n : Nat) (l : Launch) (m0 : Mem) (m1 : Mem) (a1 : Int32) (a2 : Int32) (a3 : Int32) (t : Mem × Mem) (ht : f_X0_seek n m0 m1 a1 a2 a3 = some t), XMet l yX0_seek cX0_seek 9 none (n + 2) 0 0 [.ref 0, .int a1, .int a2, .int a3] SH_B [m0, m1] SH_B (none, [t.1, t.2])
  | 0, l, m0, m1, a1, a2, a3, t, ht => by cases ht
  | n + 1, l, m0, m1, a1, a2, a3, t, ht => XMet.of (k := (fun (t : Mem × Mem) => some (none, [t.1, t.2]))) (by decide +kernel) (fun _ => Nat.le_of_ble_eq_true rfl) (fun B => xe_X0_seek B (f_X0_seek n) n (met_X0_seek n) m0 m1 a1 a2 a3) (by rw [show f_X0_seekB (f_X0_seek n) m0 m1 a1 a2 a3 = some t from ht]; rfl)
set_option maxRecDepth 100000 in
theorem ok_4 : x_okc [0, 1] SH_B SH_BH = true := by decide +kernel
/-! X0_find: EveryTwentyMinutes$BestOrder.find(LEveryTwentyMinutes$Hall;)V in world BH at (0, 128) -/
abbrev M_X0_find : XM := (RX0, cX0_find, 2, none, "find", 13, 0, 0)
def f_X0_find (m0 : Mem) (m1 : Mem) (m2 : Mem) : Option (Mem × Mem) :=
  (f_X2_become m1 m2).bind fun t1 =>
  lt (xs m0 0 3 (m2 0 8)) fun w2 =>
  lt (xs w2 0 4 1000000000) fun w3 =>
  (f_X2_lateOfWed m2).bind fun t4 =>
  (f_X0_seek 10 w3 t1 0 (m2 0 4) t4).bind fun t5 =>
  some (t5.1, t5.2)
set_option maxRecDepth 100000 in
theorem xe_X0_find (B : XB) (m0 : Mem) (m1 : Mem) (m2 : Mem) : XE B M_X0_find (XQm B 0 0 SH_BH) 0 [(0, some (.ref 0)), (1, some (.ref 128))] [] (0, 0) SH_BH [m0, m1, m2] (fun t => some (none, [t.1, t.2, m2])) (f_X0_find m0 m1 m2) := by
  unfold f_X0_find
  refine XE_aload_n (n := 1) dX0_find_0 rfl rfl rfl ?_
  refine XE_getr (b := 64) (n := 4) xf_X0_12 rfl rfl dX0_find_1 rfl ?_
  refine XE_aload_n (n := 5) dX0_find_4 rfl rfl rfl ?_
  refine XE_callV (ni := 1) (As := [.ref 128]) (π := [1, 2]) (co := [0]) (cv := [m0]) (nn := 3) (hs2 := fun t1 => [m0, t1, m2]) (st2 := fun t1 => []) (n := 8) (b := 64) xc_X0_32 (fun l t ht => met_X2_become l m1 m2 t ht) rfl rfl rfl rfl rfl dX0_find_5 (Nat.le_of_ble_eq_true rfl) ⟨Nat.zero_le _, Nat.zero_le _⟩ (Nat.le_of_ble_eq_true rfl) (Nat.le_of_ble_eq_true rfl) ok_0 rfl rfl rfl (fun _ => rfl) (fun _ => rfl) (fun _ => rfl) rfl (fun _ => rfl) rfl (fun t1 => ?_)
  refine XE_aload_n (n := 9) dX0_find_8 rfl rfl rfl ?_
  refine XE_aload_n (n := 10) dX0_find_9 rfl rfl rfl ?_
  refine XE_getf (v := m2 0 8) (n := 13) xf_X0_36 rfl rfl rfl dX0_find_10 rfl ?_
  refine XE_putf (hs2 := fun w2 => [w2, t1, m2]) (n := 16) xf_X0_25 rfl rfl rfl rfl (Nat.le_of_ble_eq_true rfl) (fun _ => rfl) dX0_find_13 rfl (fun w2 => ?_)
  refine XE_aload_n (n := 17) dX0_find_16 rfl rfl rfl ?_
  refine XE_ldc (n := 19) dX0_find_17 rfl xk_X0_39 ?_
  refine XE_putf (hs2 := fun w3 => [w3, t1, m2]) (n := 22) xf_X0_29 rfl rfl rfl rfl (Nat.le_of_ble_eq_true rfl) (fun _ => rfl) dX0_find_19 rfl (fun w3 => ?_)
  refine XE_aload_n (n := 23) dX0_find_22 rfl rfl rfl ?_
  refine XE_iconst (v := 0) (n := 24) dX0_find_23 rfl (by decide) ?_
  refine XE_aload_n (n := 25) dX0_find_24 rfl rfl rfl ?_
  refine XE_getf (v := m2 0 4) (n := 28) xf_X0_40 rfl rfl rfl dX0_find_25 rfl ?_
  refine XE_aload_n (n := 29) dX0_find_28 rfl rfl rfl ?_
  refine XE_callV (ni := 0) (As := []) (π := [2]) (co := [0, 1]) (cv := [w3, t1]) (nn := 3) (hs2 := fun t4 => [w3, t1, m2]) (st2 := fun t4 => [.int t4, .int (m2 0 4), .int 0, .ref 0]) (n := 32) (b := 128) xc_X0_43 (fun l t ht => met_X2_lateOfWed l m2 t ht) rfl rfl rfl rfl rfl dX0_find_29 (Nat.le_of_ble_eq_true rfl) ⟨Nat.zero_le _, Nat.zero_le _⟩ (Nat.le_of_ble_eq_true rfl) (Nat.le_of_ble_eq_true rfl) ok_1 rfl rfl rfl (fun _ => rfl) (fun _ => rfl) (fun _ => rfl) rfl (fun _ => rfl) rfl (fun t4 => ?_)
  refine XE_callS (ni := 4) (As := [.ref 0, .int 0, .int (m2 0 4), .int t4]) (π := [0, 1]) (co := [2]) (cv := [m2]) (nn := 3) (hs2 := fun t5 => [t5.1, t5.2, m2]) (st2 := fun t5 => []) (n := 35) xc_X0_47 (fun l t ht => met_X0_seek 10 l w3 t1 0 (m2 0 4) t4 t ht) rfl rfl rfl dX0_find_32 (Nat.le_of_ble_eq_true rfl) ⟨Nat.zero_le _, Nat.zero_le _⟩ (Nat.le_of_ble_eq_true rfl) (Nat.le_of_ble_eq_true rfl) ok_4 rfl rfl rfl (fun _ => rfl) (fun _ => rfl) (fun _ => rfl) rfl (fun _ => rfl) rfl (fun t5 => ?_)
  exact XE_vreturn rfl dX0_find_35 rfl (Nat.le_refl _) (Nat.le_refl _)
theorem met_X0_find (l : Launch) (m0 : Mem) (m1 : Mem) (m2 : Mem) (t : Mem × Mem) (ht : f_X0_find m0 m1 m2 = some t) : XMet l yX0_find cX0_find 2 none 13 0 0 [.ref 0, .ref 128] SH_BH [m0, m1, m2] SH_BH (none, [t.1, t.2, m2]) := XMet.of (by decide +kernel) (fun _ => Nat.le_of_ble_eq_true rfl) (fun B => xe_X0_find B m0 m1 m2) (by rw [ht]; rfl)
def SH_FH : XSs := [(0, .inr (.inr (1, [4, 0, 0]))), (1, .inl 7), (64, .inr (.inr (2, [0, 68, 69, 70, 0, 71, 72, 73, 0, 74, 0, 75, 0, 0]))), (65, .inl 7), (66, .inl 7), (67, .inl 7), (68, .inl 7), (69, .inl 7), (70, .inl 7), (71, .inl 7), (72, .inl 2)]
/-! X1_next: EveryTwentyMinutes$Fountain.next(LEveryTwentyMinutes$Hall;I)I in world H at (0,) -/
abbrev M_X1_next : XM := (RX1, cX1_next, 4, (some .int), "next", 1, 0, 0)
def f_X1_next_L4 (a1 : Int32) (m0 : Mem) : Nat → Int32 → Int32 → Option (Int32)
  | 0, _, _ => none
  | n + 1, v1, v2 =>
    if (m0 0 0) ≤ v2 then
      some (v1)
    else
      if ((a1 >>> (v2 &&& 31)) &&& 1) = 0 then
        if v1 < 0 then
          lt (v2 + 1) fun v4 =>
          (f_X1_next_L4 a1 m0 n) v2 v4
        else
          ck (inb v2 7) <|
          ck (inb v1 7) <|
          if (m0 5 (ix v1)) ≤ (m0 5 (ix v2)) then
            lt (v2 + 1) fun v5 =>
            (f_X1_next_L4 a1 m0 n) v1 v5
          else
            lt (v2 + 1) fun v6 =>
            (f_X1_next_L4 a1 m0 n) v2 v6
      else
        lt (v2 + 1) fun v3 =>
        (f_X1_next_L4 a1 m0 n) v1 v3
def f_X1_next (m0 : Mem) (a1 : Int32) : Option (Int32) :=
  (f_X1_next_L4 a1 m0 6000 ((-1) : Int32) (0 : Int32)).bind fun t11 =>
  some t11
set_option maxRecDepth 100000 in
theorem f_X1_next_L4_x {α R : Type} (B : XB) {Q : R → State → Prop} {k : α → Option R} {r : (Int32) → Option α} (a1 : Int32) (m0 : Mem) (hE : ∀ t0 : (Int32), XE B M_X1_next Q 47 [(2, some (.int t0))] [] (0, 0) SH_H [m0] (fun t => (r t).bind k) (some t0)) : ∀ (n : Nat) (v1 : Int32) (v2 : Int32), XE B M_X1_next Q 4 [(0, some (.ref 0)), (1, some (.int a1)), (2, some (.int v1)), (3, some (.int v2))] [] (0, 0) SH_H [m0] (fun t => (r t).bind k) (f_X1_next_L4 a1 m0 n v1 v2) := by
  intro n
  induction n with
  | zero => intros; exact XE_none
  | succ n ih =>
    intro v1 v2
    rw [f_X1_next_L4]
    refine XE_iload_n (n := 5) dX1_next_4 rfl rfl rfl ?_
    refine XE_aload_n (n := 6) dX1_next_5 rfl rfl rfl ?_
    refine XE_getf (v := m0 0 0) (n := 9) xf_X1_24 rfl rfl rfl dX1_next_6 rfl ?_
    refine XE_icmp_ge (t := 47) (n := 12) dX1_next_9 rfl rfl (fun h10 => ?_) (fun h10 => ?_)
    · refine XE_ls (x_sub_ok (ls' := [(2, some (.int v1))]) ⟨rfl, trivial⟩) ?_
      exact hE (v1)
    · refine XE_iload_n (n := 13) dX1_next_12 rfl rfl rfl ?_
      refine XE_iload_n (n := 14) dX1_next_13 rfl rfl rfl ?_
      refine XE_ishr (n := 15) dX1_next_14 rfl ?_
      refine XE_iconst (v := 1) (n := 16) dX1_next_15 rfl (by decide) ?_
      refine XE_iand (n := 17) dX1_next_16 rfl ?_
      refine XE_if_ne (t := 41) (n := 20) dX1_next_17 rfl rfl (fun h9 => ?_) (fun h9 => ?_)
      · refine XE_iload_n (n := 21) dX1_next_20 rfl rfl rfl ?_
        refine XE_if_lt (t := 39) (n := 24) dX1_next_21 rfl rfl (fun h8 => ?_) (fun h8 => ?_)
        · refine XE_iload_n (n := 40) dX1_next_39 rfl rfl rfl ?_
          refine XE_istore_n (i := 2) (n := 41) dX1_next_40 rfl rfl (Nat.le_of_ble_eq_true rfl) rfl ?_
          refine XE_iincl (n := 44) dX1_next_41 rfl rfl (by decide) (Nat.le_of_ble_eq_true rfl) rfl (fun v4 => ?_)
          refine XE_goto (n := 4) dX1_next_44 rfl ?_
          refine XE_ls (x_sub_ok (ls' := [(0, some (.ref 0)), (1, some (.int a1)), (2, some (.int v2)), (3, some (.int v4))]) ⟨rfl, rfl, rfl, rfl, trivial⟩) ?_
          exact ih v2 v4
        · refine XE_aload_n (n := 25) dX1_next_24 rfl rfl rfl ?_
          refine XE_getr (b := 5) (n := 28) xf_X1_31 rfl rfl dX1_next_25 rfl ?_
          refine XE_iload_n (n := 29) dX1_next_28 rfl rfl rfl ?_
          refine XE_iald (row := m0 5) (n := 30) rfl rfl dX1_next_29 rfl ?_
          refine XE_aload_n (n := 31) dX1_next_30 rfl rfl rfl ?_
          refine XE_getr (b := 5) (n := 34) xf_X1_31 rfl rfl dX1_next_31 rfl ?_
          refine XE_iload_n (n := 35) dX1_next_34 rfl rfl rfl ?_
          refine XE_iald (row := m0 5) (n := 36) rfl rfl dX1_next_35 rfl ?_
          refine XE_icmp_ge (t := 41) (n := 39) dX1_next_36 rfl rfl (fun h7 => ?_) (fun h7 => ?_)
          · refine XE_iincl (n := 44) dX1_next_41 rfl rfl (by decide) (Nat.le_of_ble_eq_true rfl) rfl (fun v5 => ?_)
            refine XE_goto (n := 4) dX1_next_44 rfl ?_
            refine XE_ls (x_sub_ok (ls' := [(0, some (.ref 0)), (1, some (.int a1)), (2, some (.int v1)), (3, some (.int v5))]) ⟨rfl, rfl, rfl, rfl, trivial⟩) ?_
            exact ih v1 v5
          · refine XE_iload_n (n := 40) dX1_next_39 rfl rfl rfl ?_
            refine XE_istore_n (i := 2) (n := 41) dX1_next_40 rfl rfl (Nat.le_of_ble_eq_true rfl) rfl ?_
            refine XE_iincl (n := 44) dX1_next_41 rfl rfl (by decide) (Nat.le_of_ble_eq_true rfl) rfl (fun v6 => ?_)
            refine XE_goto (n := 4) dX1_next_44 rfl ?_
            refine XE_ls (x_sub_ok (ls' := [(0, some (.ref 0)), (1, some (.int a1)), (2, some (.int v2)), (3, some (.int v6))]) ⟨rfl, rfl, rfl, rfl, trivial⟩) ?_
            exact ih v2 v6
      · refine XE_iincl (n := 44) dX1_next_41 rfl rfl (by decide) (Nat.le_of_ble_eq_true rfl) rfl (fun v3 => ?_)
        refine XE_goto (n := 4) dX1_next_44 rfl ?_
        refine XE_ls (x_sub_ok (ls' := [(0, some (.ref 0)), (1, some (.int a1)), (2, some (.int v1)), (3, some (.int v3))]) ⟨rfl, rfl, rfl, rfl, trivial⟩) ?_
        exact ih v1 v3
set_option maxRecDepth 100000 in
theorem xe_X1_next (B : XB) (m0 : Mem) (a1 : Int32) : XE B M_X1_next (XQm B 0 0 SH_H) 0 [(0, some (.ref 0)), (1, some (.int a1))] [] (0, 0) SH_H [m0] (fun t => some (some (.int t), [m0])) (f_X1_next m0 a1) := by
  unfold f_X1_next
  refine XE_iconst (v := (-1)) (n := 1) dX1_next_0 rfl (by decide) ?_
  refine XE_istore_n (i := 2) (n := 2) dX1_next_1 rfl rfl (Nat.le_of_ble_eq_true rfl) rfl ?_
  refine XE_iconst (v := 0) (n := 3) dX1_next_2 rfl (by decide) ?_
  refine XE_istore_n (i := 3) (n := 4) dX1_next_3 rfl rfl (Nat.le_of_ble_eq_true rfl) rfl ?_
  refine XE_ls (x_sub_ok (ls' := [(0, some (.ref 0)), (1, some (.int a1)), (2, some (.int (-1))), (3, some (.int 0))]) ⟨rfl, rfl, rfl, rfl, trivial⟩) ?_
  refine XE_reg (J := 47) (lsJ := fun t11 => [(2, some (.int t11))]) (stJ := fun t11 => []) (hsJ := fun t11 => [m0]) (fun t11 => ?_) (fun hJ12 => f_X1_next_L4_x B a1 m0 hJ12 6000 ((-1) : Int32) (0 : Int32))
  refine XE_iload_n (n := 48) dX1_next_47 rfl rfl rfl ?_
  exact XE_ireturn rfl dX1_next_48 rfl (Nat.le_refl _) (Nat.le_refl _)
theorem met_X1_next (l : Launch) (m0 : Mem) (a1 : Int32) (t : Int32) (ht : f_X1_next m0 a1 = some t) : XMet l yX1_next cX1_next 4 (some .int) 1 0 0 [.ref 0, .int a1] SH_H [m0] SH_H (some (.int t), [m0]) := XMet.of (by decide +kernel) (fun _ => Nat.le_of_ble_eq_true rfl) (fun B => xe_X1_next B m0 a1) (by rw [ht]; rfl)
set_option maxRecDepth 100000 in
theorem ok_5 : x_okc [1] SH_H SH_FH = true := by decide +kernel
/-! X3_poses: EveryTwentyMinutes$Kinds.poses(II)I in world 0 at () -/
abbrev M_X3_poses : XM := (RX3, cX3_poses, 2, (some .int), "poses", 1, 0, 0)
def f_X3_poses (a0 : Int32) (a1 : Int32) : Option (Int32) :=
  if a0 = 2 then
    some (3 + a1)
  else
    if a0 = 5 then
      some (3 + a1)
    else
      some (3 : Int32)
set_option maxRecDepth 100000 in
theorem xe_X3_poses (B : XB) (a0 : Int32) (a1 : Int32) : XE B M_X3_poses (XQm B 0 0 SH_0) 0 [(0, some (.int a0)), (1, some (.int a1))] [] (0, 0) SH_0 [] (fun t => some (some (.int t), [])) (f_X3_poses a0 a1) := by
  unfold f_X3_poses
  refine XE_iload_n (n := 1) dX3_poses_0 rfl rfl rfl ?_
  refine XE_iconst (v := 2) (n := 2) dX3_poses_1 rfl (by decide) ?_
  refine XE_icmp_eq (t := 10) (n := 5) dX3_poses_2 rfl rfl (fun h2 => ?_) (fun h2 => ?_)
  · refine XE_iconst (v := 3) (n := 11) dX3_poses_10 rfl (by decide) ?_
    refine XE_iload_n (n := 12) dX3_poses_11 rfl rfl rfl ?_
    refine XE_iadd (n := 13) dX3_poses_12 rfl ?_
    refine XE_goto (n := 17) dX3_poses_13 rfl ?_
    exact XE_ireturn rfl dX3_poses_17 rfl (Nat.le_refl _) (Nat.le_refl _)
  · refine XE_iload_n (n := 6) dX3_poses_5 rfl rfl rfl ?_
    refine XE_iconst (v := 5) (n := 7) dX3_poses_6 rfl (by decide) ?_
    refine XE_icmp_ne (t := 16) (n := 10) dX3_poses_7 rfl rfl (fun h1 => ?_) (fun h1 => ?_)
    · refine XE_iconst (v := 3) (n := 11) dX3_poses_10 rfl (by decide) ?_
      refine XE_iload_n (n := 12) dX3_poses_11 rfl rfl rfl ?_
      refine XE_iadd (n := 13) dX3_poses_12 rfl ?_
      refine XE_goto (n := 17) dX3_poses_13 rfl ?_
      exact XE_ireturn rfl dX3_poses_17 rfl (Nat.le_refl _) (Nat.le_refl _)
    · refine XE_iconst (v := 3) (n := 17) dX3_poses_16 rfl (by decide) ?_
      exact XE_ireturn rfl dX3_poses_17 rfl (Nat.le_refl _) (Nat.le_refl _)
theorem met_X3_poses (l : Launch) (a0 : Int32) (a1 : Int32) (t : Int32) (ht : f_X3_poses a0 a1 = some t) : XMet l yX3_poses cX3_poses 2 (some .int) 1 0 0 [.int a0, .int a1] SH_0 [] SH_0 (some (.int t), []) := XMet.of (by decide +kernel) (fun _ => Nat.le_of_ble_eq_true rfl) (fun B => xe_X3_poses B a0 a1) (by rw [ht]; rfl)
set_option maxRecDepth 100000 in
theorem ok_6 : x_okc [] SH_0 SH_FH = true := by decide +kernel
/-! X1_take: EveryTwentyMinutes$Fountain.take(LEveryTwentyMinutes$Hall;)V in world FH at (0, 64) -/
abbrev M_X1_take : XM := (RX1, cX1_take, 8, none, "take", 2, 0, 0)
def f_X1_take_L18 (m1 : Mem) : Nat → Int32 → Int32 → Int32 → Mem → Option (Mem)
  | 0, _, _, _, _ => none
  | n + 1, v3, v4, v5, w6 =>
    if (m1 0 0) ≤ v5 then
      some w6
    else
      (f_X1_next m1 v3).bind fun t7 =>
      if 0 ≤ t7 then
        lt (v3 ||| (1 <<< (t7 &&& 31))) fun v8 =>
        ck (inb t7 7) <|
        lt ((m1 5 (ix t7)) + 2) fun v9 =>
        ck (inb t7 7) <|
        lt (xs w6 1 (ix t7) (imax v9 (w6 0 2))) fun w10 =>
        ck (inb t7 7) <|
        ck (inb t7 7) <|
        ck (inb t7 7) <|
        (f_X3_poses (m1 1 (ix t7)) (m1 2 (ix t7))).bind fun t11 =>
        lt (xs w10 0 2 ((w10 1 (ix t7)) + t11)) fun w12 =>
        ck (inb t7 7) <|
        lt ((w12 1 (ix t7)) - v9) fun v13 =>
        if v4 < v13 then
          lt (xs w12 0 1 t7) fun w14 =>
          lt (v5 + 1) fun v15 =>
          (f_X1_take_L18 m1 n) v8 v13 v15 w14
        else
          if v13 = v4 then
            if (w12 0 1) ≤ t7 then
              lt (v5 + 1) fun v17 =>
              (f_X1_take_L18 m1 n) v8 v4 v17 w12
            else
              lt (xs w12 0 1 t7) fun w18 =>
              lt (v5 + 1) fun v19 =>
              (f_X1_take_L18 m1 n) v8 v13 v19 w18
          else
            lt (v5 + 1) fun v16 =>
            (f_X1_take_L18 m1 n) v8 v4 v16 w12
      else
        some w6
def f_X1_take (m0 : Mem) (m1 : Mem) : Option (Mem) :=
  lt (xs m0 0 1 (-9)) fun w1 =>
  lt (xs w1 0 2 0) fun w2 =>
  f_X1_take_L18 m1 6000 (0 : Int32) ((-1) : Int32) (0 : Int32) w2
set_option maxRecDepth 100000 in
theorem f_X1_take_L18_x (B : XB) (m1 : Mem) : ∀ (n : Nat) (v3 : Int32) (v4 : Int32) (v5 : Int32) (w6 : Mem), XE B M_X1_take (XQm B 0 0 SH_FH) 18 [(0, some (.ref 0)), (1, some (.ref 64)), (2, some (.int v3)), (3, some (.int v4)), (4, some (.int v5))] [] (0, 0) SH_FH [w6, m1] (fun t => some (none, [t, m1])) (f_X1_take_L18 m1 n v3 v4 v5 w6) := by
  intro n
  induction n with
  | zero => intros; exact XE_none
  | succ n ih =>
    intro v3 v4 v5 w6
    rw [f_X1_take_L18]
    refine XE_iload (n := 20) dX1_take_18 rfl rfl ?_
    refine XE_aload_n (n := 21) dX1_take_20 rfl rfl rfl ?_
    refine XE_getf (v := m1 0 0) (n := 24) xf_X1_24 rfl rfl rfl dX1_take_21 rfl ?_
    refine XE_icmp_ge (t := 151) (n := 27) dX1_take_24 rfl rfl (fun h24 => ?_) (fun h24 => ?_)
    · exact XE_vreturn rfl dX1_take_151 rfl (Nat.le_refl _) (Nat.le_refl _)
    · refine XE_aload_n (n := 28) dX1_take_27 rfl rfl rfl ?_
      refine XE_iload_n (n := 29) dX1_take_28 rfl rfl rfl ?_
      refine XE_callS (ni := 2) (As := [.ref 64, .int v3]) (π := [1]) (co := [0]) (cv := [w6]) (nn := 2) (hs2 := fun t7 => [w6, m1]) (st2 := fun t7 => [.int t7]) (n := 32) xc_X1_27 (fun l t ht => met_X1_next l m1 v3 t ht) rfl rfl rfl dX1_take_29 (Nat.le_of_ble_eq_true rfl) ⟨Nat.zero_le _, Nat.zero_le _⟩ (Nat.le_of_ble_eq_true rfl) (Nat.le_of_ble_eq_true rfl) ok_5 rfl rfl rfl (fun _ => rfl) (fun _ => rfl) (fun _ => rfl) rfl (fun _ => rfl) rfl (fun t7 => ?_)
      refine XE_istore (i := 5) (n := 34) dX1_take_32 rfl (Nat.le_of_ble_eq_true rfl) rfl ?_
      refine XE_iload (n := 36) dX1_take_34 rfl rfl ?_
      refine XE_if_ge (t := 40) (n := 39) dX1_take_36 rfl rfl (fun h23 => ?_) (fun h23 => ?_)
      · refine XE_iload_n (n := 41) dX1_take_40 rfl rfl rfl ?_
        refine XE_iconst (v := 1) (n := 42) dX1_take_41 rfl (by decide) ?_
        refine XE_iload (n := 44) dX1_take_42 rfl rfl ?_
        refine XE_ishl (n := 45) dX1_take_44 rfl ?_
        refine XE_ior (n := 46) dX1_take_45 rfl ?_
        refine XE_topi (fun v8 => ?_)
        refine XE_istore_n (i := 2) (n := 47) dX1_take_46 rfl rfl (Nat.le_of_ble_eq_true rfl) rfl ?_
        refine XE_aload_n (n := 48) dX1_take_47 rfl rfl rfl ?_
        refine XE_getr (b := 69) (n := 51) xf_X1_31 rfl rfl dX1_take_48 rfl ?_
        refine XE_iload (n := 53) dX1_take_51 rfl rfl ?_
        refine XE_iald (row := m1 5) (n := 54) rfl rfl dX1_take_53 rfl ?_
        refine XE_iconst (v := 2) (n := 55) dX1_take_54 rfl (by decide) ?_
        refine XE_iadd (n := 56) dX1_take_55 rfl ?_
        refine XE_topi (fun v9 => ?_)
        refine XE_istore (i := 6) (n := 58) dX1_take_56 rfl (Nat.le_of_ble_eq_true rfl) rfl ?_
        refine XE_aload_n (n := 59) dX1_take_58 rfl rfl rfl ?_
        refine XE_getr (b := 1) (n := 62) xf_X1_11 rfl rfl dX1_take_59 rfl ?_
        refine XE_iload (n := 64) dX1_take_62 rfl rfl ?_
        refine XE_iload (n := 66) dX1_take_64 rfl rfl ?_
        refine XE_aload_n (n := 67) dX1_take_66 rfl rfl rfl ?_
        refine XE_getf (v := w6 0 2) (n := 70) xf_X1_21 rfl rfl rfl dX1_take_67 rfl ?_
        refine XE_mmax (n := 73) xp_X1_34 rfl (Nat.le_of_ble_eq_true rfl) (Nat.le_of_ble_eq_true rfl) dX1_take_70 rfl ?_
        refine XE_iast (hs2 := fun w10 => [w10, m1]) (n := 74) rfl rfl rfl (Nat.le_of_ble_eq_true rfl) (fun _ => rfl) dX1_take_73 rfl (fun w10 => ?_)
        refine XE_aload_n (n := 75) dX1_take_74 rfl rfl rfl ?_
        refine XE_aload_n (n := 76) dX1_take_75 rfl rfl rfl ?_
        refine XE_getr (b := 1) (n := 79) xf_X1_11 rfl rfl dX1_take_76 rfl ?_
        refine XE_iload (n := 81) dX1_take_79 rfl rfl ?_
        refine XE_iald (row := w10 1) (n := 82) rfl rfl dX1_take_81 rfl ?_
        refine XE_aload_n (n := 83) dX1_take_82 rfl rfl rfl ?_
        refine XE_getr (b := 65) (n := 86) xf_X1_40 rfl rfl dX1_take_83 rfl ?_
        refine XE_iload (n := 88) dX1_take_86 rfl rfl ?_
        refine XE_iald (row := m1 1) (n := 89) rfl rfl dX1_take_88 rfl ?_
        refine XE_aload_n (n := 90) dX1_take_89 rfl rfl rfl ?_
        refine XE_getr (b := 66) (n := 93) xf_X1_43 rfl rfl dX1_take_90 rfl ?_
        refine XE_iload (n := 95) dX1_take_93 rfl rfl ?_
        refine XE_iald (row := m1 2) (n := 96) rfl rfl dX1_take_95 rfl ?_
        refine XE_callS (ni := 2) (As := [.int (m1 1 (ix t7)), .int (m1 2 (ix t7))]) (π := []) (co := [0, 1]) (cv := [w10, m1]) (nn := 2) (hs2 := fun t11 => [w10, m1]) (st2 := fun t11 => [.int t11, .int (w10 1 (ix t7)), .ref 0]) (n := 99) xc_X1_46 (fun l t ht => met_X3_poses l (m1 1 (ix t7)) (m1 2 (ix t7)) t ht) rfl rfl rfl dX1_take_96 (Nat.le_of_ble_eq_true rfl) ⟨Nat.zero_le _, Nat.zero_le _⟩ (Nat.le_of_ble_eq_true rfl) (Nat.le_of_ble_eq_true rfl) ok_6 rfl rfl rfl (fun _ => rfl) (fun _ => rfl) (fun _ => rfl) rfl (fun _ => rfl) rfl (fun t11 => ?_)
        refine XE_iadd (n := 100) dX1_take_99 rfl ?_
        refine XE_putf (hs2 := fun w12 => [w12, m1]) (n := 103) xf_X1_21 rfl rfl rfl rfl (Nat.le_of_ble_eq_true rfl) (fun _ => rfl) dX1_take_100 rfl (fun w12 => ?_)
        refine XE_aload_n (n := 104) dX1_take_103 rfl rfl rfl ?_
        refine XE_getr (b := 1) (n := 107) xf_X1_11 rfl rfl dX1_take_104 rfl ?_
        refine XE_iload (n := 109) dX1_take_107 rfl rfl ?_
        refine XE_iald (row := w12 1) (n := 110) rfl rfl dX1_take_109 rfl ?_
        refine XE_iload (n := 112) dX1_take_110 rfl rfl ?_
        refine XE_isub (n := 113) dX1_take_112 rfl ?_
        refine XE_topi (fun v13 => ?_)
        refine XE_istore (i := 7) (n := 115) dX1_take_113 rfl (Nat.le_of_ble_eq_true rfl) rfl ?_
        refine XE_iload (n := 117) dX1_take_115 rfl rfl ?_
        refine XE_iload_n (n := 118) dX1_take_117 rfl rfl rfl ?_
        refine XE_icmp_gt (t := 136) (n := 121) dX1_take_118 rfl rfl (fun h22 => ?_) (fun h22 => ?_)
        · refine XE_iload (n := 138) dX1_take_136 rfl rfl ?_
          refine XE_istore_n (i := 3) (n := 139) dX1_take_138 rfl rfl (Nat.le_of_ble_eq_true rfl) rfl ?_
          refine XE_aload_n (n := 140) dX1_take_139 rfl rfl rfl ?_
          refine XE_iload (n := 142) dX1_take_140 rfl rfl ?_
          refine XE_putf (hs2 := fun w14 => [w14, m1]) (n := 145) xf_X1_17 rfl rfl rfl rfl (Nat.le_of_ble_eq_true rfl) (fun _ => rfl) dX1_take_142 rfl (fun w14 => ?_)
          refine XE_iincl (n := 148) dX1_take_145 rfl rfl (by decide) (Nat.le_of_ble_eq_true rfl) rfl (fun v15 => ?_)
          refine XE_goto (n := 18) dX1_take_148 rfl ?_
          refine XE_ls (x_sub_ok (ls' := [(0, some (.ref 0)), (1, some (.ref 64)), (2, some (.int v8)), (3, some (.int v13)), (4, some (.int v15))]) ⟨rfl, rfl, rfl, rfl, rfl, trivial⟩) ?_
          exact ih v8 v13 v15 w14
        · refine XE_iload (n := 123) dX1_take_121 rfl rfl ?_
          refine XE_iload_n (n := 124) dX1_take_123 rfl rfl rfl ?_
          refine XE_icmp_ne (t := 145) (n := 127) dX1_take_124 rfl rfl (fun h21 => ?_) (fun h21 => ?_)
          · refine XE_iload (n := 129) dX1_take_127 rfl rfl ?_
            refine XE_aload_n (n := 130) dX1_take_129 rfl rfl rfl ?_
            refine XE_getf (v := w12 0 1) (n := 133) xf_X1_17 rfl rfl rfl dX1_take_130 rfl ?_
            refine XE_icmp_ge (t := 145) (n := 136) dX1_take_133 rfl rfl (fun h20 => ?_) (fun h20 => ?_)
            · refine XE_iincl (n := 148) dX1_take_145 rfl rfl (by decide) (Nat.le_of_ble_eq_true rfl) rfl (fun v17 => ?_)
              refine XE_goto (n := 18) dX1_take_148 rfl ?_
              refine XE_ls (x_sub_ok (ls' := [(0, some (.ref 0)), (1, some (.ref 64)), (2, some (.int v8)), (3, some (.int v4)), (4, some (.int v17))]) ⟨rfl, rfl, rfl, rfl, rfl, trivial⟩) ?_
              exact ih v8 v4 v17 w12
            · refine XE_iload (n := 138) dX1_take_136 rfl rfl ?_
              refine XE_istore_n (i := 3) (n := 139) dX1_take_138 rfl rfl (Nat.le_of_ble_eq_true rfl) rfl ?_
              refine XE_aload_n (n := 140) dX1_take_139 rfl rfl rfl ?_
              refine XE_iload (n := 142) dX1_take_140 rfl rfl ?_
              refine XE_putf (hs2 := fun w18 => [w18, m1]) (n := 145) xf_X1_17 rfl rfl rfl rfl (Nat.le_of_ble_eq_true rfl) (fun _ => rfl) dX1_take_142 rfl (fun w18 => ?_)
              refine XE_iincl (n := 148) dX1_take_145 rfl rfl (by decide) (Nat.le_of_ble_eq_true rfl) rfl (fun v19 => ?_)
              refine XE_goto (n := 18) dX1_take_148 rfl ?_
              refine XE_ls (x_sub_ok (ls' := [(0, some (.ref 0)), (1, some (.ref 64)), (2, some (.int v8)), (3, some (.int v13)), (4, some (.int v19))]) ⟨rfl, rfl, rfl, rfl, rfl, trivial⟩) ?_
              exact ih v8 v13 v19 w18
          · refine XE_iincl (n := 148) dX1_take_145 rfl rfl (by decide) (Nat.le_of_ble_eq_true rfl) rfl (fun v16 => ?_)
            refine XE_goto (n := 18) dX1_take_148 rfl ?_
            refine XE_ls (x_sub_ok (ls' := [(0, some (.ref 0)), (1, some (.ref 64)), (2, some (.int v8)), (3, some (.int v4)), (4, some (.int v16))]) ⟨rfl, rfl, rfl, rfl, rfl, trivial⟩) ?_
            exact ih v8 v4 v16 w12
      · exact XE_vreturn rfl dX1_take_39 rfl (Nat.le_refl _) (Nat.le_refl _)
set_option maxRecDepth 100000 in
theorem xe_X1_take (B : XB) (m0 : Mem) (m1 : Mem) : XE B M_X1_take (XQm B 0 0 SH_FH) 0 [(0, some (.ref 0)), (1, some (.ref 64))] [] (0, 0) SH_FH [m0, m1] (fun t => some (none, [t, m1])) (f_X1_take m0 m1) := by
  unfold f_X1_take
  refine XE_aload_n (n := 1) dX1_take_0 rfl rfl rfl ?_
  refine XE_bipush (v := (-9)) (n := 3) dX1_take_1 rfl (by decide) ?_
  refine XE_putf (hs2 := fun w1 => [w1, m1]) (n := 6) xf_X1_17 rfl rfl rfl rfl (Nat.le_of_ble_eq_true rfl) (fun _ => rfl) dX1_take_3 rfl (fun w1 => ?_)
  refine XE_aload_n (n := 7) dX1_take_6 rfl rfl rfl ?_
  refine XE_iconst (v := 0) (n := 8) dX1_take_7 rfl (by decide) ?_
  refine XE_putf (hs2 := fun w2 => [w2, m1]) (n := 11) xf_X1_21 rfl rfl rfl rfl (Nat.le_of_ble_eq_true rfl) (fun _ => rfl) dX1_take_8 rfl (fun w2 => ?_)
  refine XE_iconst (v := 0) (n := 12) dX1_take_11 rfl (by decide) ?_
  refine XE_istore_n (i := 2) (n := 13) dX1_take_12 rfl rfl (Nat.le_of_ble_eq_true rfl) rfl ?_
  refine XE_iconst (v := (-1)) (n := 14) dX1_take_13 rfl (by decide) ?_
  refine XE_istore_n (i := 3) (n := 15) dX1_take_14 rfl rfl (Nat.le_of_ble_eq_true rfl) rfl ?_
  refine XE_iconst (v := 0) (n := 16) dX1_take_15 rfl (by decide) ?_
  refine XE_istore (i := 4) (n := 18) dX1_take_16 rfl (Nat.le_of_ble_eq_true rfl) rfl ?_
  refine XE_ls (x_sub_ok (ls' := [(0, some (.ref 0)), (1, some (.ref 64)), (2, some (.int 0)), (3, some (.int (-1))), (4, some (.int 0))]) ⟨rfl, rfl, rfl, rfl, rfl, trivial⟩) ?_
  exact f_X1_take_L18_x B m1 6000 (0 : Int32) ((-1) : Int32) (0 : Int32) w2
theorem met_X1_take (l : Launch) (m0 : Mem) (m1 : Mem) (t : Mem) (ht : f_X1_take m0 m1 = some t) : XMet l yX1_take cX1_take 8 none 2 0 0 [.ref 0, .ref 64] SH_FH [m0, m1] SH_FH (none, [t, m1]) := XMet.of (by decide +kernel) (fun _ => Nat.le_of_ble_eq_true rfl) (fun B => xe_X1_take B m0 m1) (by rw [ht]; rfl)
/-! X2_has: EveryTwentyMinutes$Hall.has(I)Z in world H at (0,) -/
abbrev M_X2_has : XM := (RX2, cX2_has, 2, (some .boolean), "has", 1, 0, 0)
def f_X2_has (m0 : Mem) (a1 : Int32) : Option (Int32) :=
  if a1 < 0 then
    some (0 : Int32)
  else
    if (m0 0 0) ≤ a1 then
      some (0 : Int32)
    else
      some (1 : Int32)
set_option maxRecDepth 100000 in
theorem xe_X2_has (B : XB) (m0 : Mem) (a1 : Int32) : XE B M_X2_has (XQm B 0 0 SH_H) 0 [(0, some (.ref 0)), (1, some (.int a1))] [] (0, 0) SH_H [m0] (fun t => some (some (.int t), [m0])) (f_X2_has m0 a1) := by
  unfold f_X2_has
  refine XE_iload_n (n := 1) dX2_has_0 rfl rfl rfl ?_
  refine XE_if_lt (t := 16) (n := 4) dX2_has_1 rfl rfl (fun h2 => ?_) (fun h2 => ?_)
  · refine XE_iconst (v := 0) (n := 17) dX2_has_16 rfl (by decide) ?_
    exact XE_zreturn rfl rfl dX2_has_17 rfl (Nat.le_refl _) (Nat.le_refl _)
  · refine XE_iload_n (n := 5) dX2_has_4 rfl rfl rfl ?_
    refine XE_aload_n (n := 6) dX2_has_5 rfl rfl rfl ?_
    refine XE_getf (v := m0 0 0) (n := 9) xf_X2_9 rfl rfl rfl dX2_has_6 rfl ?_
    refine XE_icmp_ge (t := 16) (n := 12) dX2_has_9 rfl rfl (fun h1 => ?_) (fun h1 => ?_)
    · refine XE_iconst (v := 0) (n := 17) dX2_has_16 rfl (by decide) ?_
      exact XE_zreturn rfl rfl dX2_has_17 rfl (Nat.le_refl _) (Nat.le_refl _)
    · refine XE_iconst (v := 1) (n := 13) dX2_has_12 rfl (by decide) ?_
      refine XE_goto (n := 17) dX2_has_13 rfl ?_
      exact XE_zreturn rfl rfl dX2_has_17 rfl (Nat.le_refl _) (Nat.le_refl _)
theorem met_X2_has (l : Launch) (m0 : Mem) (a1 : Int32) (t : Int32) (ht : f_X2_has m0 a1 = some t) : XMet l yX2_has cX2_has 2 (some .boolean) 1 0 0 [.ref 0, .int a1] SH_H [m0] SH_H (some (.int t), [m0]) := XMet.of (by decide +kernel) (fun _ => Nat.le_of_ble_eq_true rfl) (fun B => xe_X2_has B m0 a1) (by rw [ht]; rfl)
/-! X2_isFull: EveryTwentyMinutes$Hall.isFull()Z in world H at (0,) -/
abbrev M_X2_isFull : XM := (RX2, cX2_isFull, 1, (some .boolean), "isFull", 1, 0, 0)
def f_X2_isFull (m0 : Mem) : Option (Int32) :=
  if (m0 0 0) < 7 then
    some (0 : Int32)
  else
    some (1 : Int32)
set_option maxRecDepth 100000 in
theorem xe_X2_isFull (B : XB) (m0 : Mem) : XE B M_X2_isFull (XQm B 0 0 SH_H) 0 [(0, some (.ref 0))] [] (0, 0) SH_H [m0] (fun t => some (some (.int t), [m0])) (f_X2_isFull m0) := by
  unfold f_X2_isFull
  refine XE_aload_n (n := 1) dX2_isFull_0 rfl rfl rfl ?_
  refine XE_getf (v := m0 0 0) (n := 4) xf_X2_9 rfl rfl rfl dX2_isFull_1 rfl ?_
  refine XE_bipush (v := 7) (n := 6) dX2_isFull_4 rfl (by decide) ?_
  refine XE_icmp_lt (t := 13) (n := 9) dX2_isFull_6 rfl rfl (fun h1 => ?_) (fun h1 => ?_)
  · refine XE_iconst (v := 0) (n := 14) dX2_isFull_13 rfl (by decide) ?_
    exact XE_zreturn rfl rfl dX2_isFull_14 rfl (Nat.le_refl _) (Nat.le_refl _)
  · refine XE_iconst (v := 1) (n := 10) dX2_isFull_9 rfl (by decide) ?_
    refine XE_goto (n := 14) dX2_isFull_10 rfl ?_
    exact XE_zreturn rfl rfl dX2_isFull_14 rfl (Nat.le_refl _) (Nat.le_refl _)
theorem met_X2_isFull (l : Launch) (m0 : Mem) (t : Int32) (ht : f_X2_isFull m0 = some t) : XMet l yX2_isFull cX2_isFull 1 (some .boolean) 1 0 0 [.ref 0] SH_H [m0] SH_H (some (.int t), [m0]) := XMet.of (by decide +kernel) (fun _ => Nat.le_of_ble_eq_true rfl) (fun B => xe_X2_isFull B m0) (by rw [ht]; rfl)
/-! X2_lastsOf: EveryTwentyMinutes$Hall.lastsOf(I)I in world H at (0,) -/
abbrev M_X2_lastsOf : XM := (RX2, cX2_lastsOf, 2, (some .int), "lastsOf", 2, 0, 0)
def f_X2_lastsOf (m0 : Mem) (a1 : Int32) : Option (Int32) :=
  ck (inb a1 7) <|
  ck (inb a1 7) <|
  (f_X3_lasts (m0 1 (ix a1)) (m0 2 (ix a1))).bind fun t1 =>
  some t1
set_option maxRecDepth 100000 in
theorem xe_X2_lastsOf (B : XB) (m0 : Mem) (a1 : Int32) : XE B M_X2_lastsOf (XQm B 0 0 SH_H) 0 [(0, some (.ref 0)), (1, some (.int a1))] [] (0, 0) SH_H [m0] (fun t => some (some (.int t), [m0])) (f_X2_lastsOf m0 a1) := by
  unfold f_X2_lastsOf
  refine XE_aload_n (n := 1) dX2_lastsOf_0 rfl rfl rfl ?_
  refine XE_getr (b := 1) (n := 4) xf_X2_15 rfl rfl dX2_lastsOf_1 rfl ?_
  refine XE_iload_n (n := 5) dX2_lastsOf_4 rfl rfl rfl ?_
  refine XE_iald (row := m0 1) (n := 6) rfl rfl dX2_lastsOf_5 rfl ?_
  refine XE_aload_n (n := 7) dX2_lastsOf_6 rfl rfl rfl ?_
  refine XE_getr (b := 2) (n := 10) xf_X2_19 rfl rfl dX2_lastsOf_7 rfl ?_
  refine XE_iload_n (n := 11) dX2_lastsOf_10 rfl rfl rfl ?_
  refine XE_iald (row := m0 2) (n := 12) rfl rfl dX2_lastsOf_11 rfl ?_
  refine XE_callS (ni := 2) (As := [.int (m0 1 (ix a1)), .int (m0 2 (ix a1))]) (π := []) (co := [0]) (cv := [m0]) (nn := 1) (hs2 := fun t1 => [m0]) (st2 := fun t1 => [.int t1]) (n := 15) xc_X2_61 (fun l t ht => met_X3_lasts l (m0 1 (ix a1)) (m0 2 (ix a1)) t ht) rfl rfl rfl dX2_lastsOf_12 (Nat.le_of_ble_eq_true rfl) ⟨Nat.zero_le _, Nat.zero_le _⟩ (Nat.le_of_ble_eq_true rfl) (Nat.le_of_ble_eq_true rfl) ok_2 rfl rfl rfl (fun _ => rfl) (fun _ => rfl) (fun _ => rfl) rfl (fun _ => rfl) rfl (fun t1 => ?_)
  exact XE_ireturn rfl dX2_lastsOf_15 rfl (Nat.le_refl _) (Nat.le_refl _)
theorem met_X2_lastsOf (l : Launch) (m0 : Mem) (a1 : Int32) (t : Int32) (ht : f_X2_lastsOf m0 a1 = some t) : XMet l yX2_lastsOf cX2_lastsOf 2 (some .int) 2 0 0 [.ref 0, .int a1] SH_H [m0] SH_H (some (.int t), [m0]) := XMet.of (by decide +kernel) (fun _ => Nat.le_of_ble_eq_true rfl) (fun B => xe_X2_lastsOf B m0 a1) (by rw [ht]; rfl)
/-! X2_readyOf: EveryTwentyMinutes$Hall.readyOf(I)I in world H at (0,) -/
abbrev M_X2_readyOf : XM := (RX2, cX2_readyOf, 2, (some .int), "readyOf", 2, 0, 0)
def f_X2_readyOf (m0 : Mem) (a1 : Int32) : Option (Int32) :=
  ck (inb a1 7) <|
  ck (inb a1 7) <|
  ck (inb a1 7) <|
  (f_X3_ready (m0 1 (ix a1)) (m0 2 (ix a1)) (m0 3 (ix a1))).bind fun t1 =>
  some t1
set_option maxRecDepth 100000 in
theorem xe_X2_readyOf (B : XB) (m0 : Mem) (a1 : Int32) : XE B M_X2_readyOf (XQm B 0 0 SH_H) 0 [(0, some (.ref 0)), (1, some (.int a1))] [] (0, 0) SH_H [m0] (fun t => some (some (.int t), [m0])) (f_X2_readyOf m0 a1) := by
  unfold f_X2_readyOf
  refine XE_aload_n (n := 1) dX2_readyOf_0 rfl rfl rfl ?_
  refine XE_getr (b := 1) (n := 4) xf_X2_15 rfl rfl dX2_readyOf_1 rfl ?_
  refine XE_iload_n (n := 5) dX2_readyOf_4 rfl rfl rfl ?_
  refine XE_iald (row := m0 1) (n := 6) rfl rfl dX2_readyOf_5 rfl ?_
  refine XE_aload_n (n := 7) dX2_readyOf_6 rfl rfl rfl ?_
  refine XE_getr (b := 2) (n := 10) xf_X2_19 rfl rfl dX2_readyOf_7 rfl ?_
  refine XE_iload_n (n := 11) dX2_readyOf_10 rfl rfl rfl ?_
  refine XE_iald (row := m0 2) (n := 12) rfl rfl dX2_readyOf_11 rfl ?_
  refine XE_aload_n (n := 13) dX2_readyOf_12 rfl rfl rfl ?_
  refine XE_getr (b := 3) (n := 16) xf_X2_22 rfl rfl dX2_readyOf_13 rfl ?_
  refine XE_iload_n (n := 17) dX2_readyOf_16 rfl rfl rfl ?_
  refine XE_iald (row := m0 3) (n := 18) rfl rfl dX2_readyOf_17 rfl ?_
  refine XE_callS (ni := 3) (As := [.int (m0 1 (ix a1)), .int (m0 2 (ix a1)), .int (m0 3 (ix a1))]) (π := []) (co := [0]) (cv := [m0]) (nn := 1) (hs2 := fun t1 => [m0]) (st2 := fun t1 => [.int t1]) (n := 21) xc_X2_67 (fun l t ht => met_X3_ready l (m0 1 (ix a1)) (m0 2 (ix a1)) (m0 3 (ix a1)) t ht) rfl rfl rfl dX2_readyOf_18 (Nat.le_of_ble_eq_true rfl) ⟨Nat.zero_le _, Nat.zero_le _⟩ (Nat.le_of_ble_eq_true rfl) (Nat.le_of_ble_eq_true rfl) ok_2 rfl rfl rfl (fun _ => rfl) (fun _ => rfl) (fun _ => rfl) rfl (fun _ => rfl) rfl (fun t1 => ?_)
  exact XE_ireturn rfl dX2_readyOf_21 rfl (Nat.le_refl _) (Nat.le_refl _)
theorem met_X2_readyOf (l : Launch) (m0 : Mem) (a1 : Int32) (t : Int32) (ht : f_X2_readyOf m0 a1 = some t) : XMet l yX2_readyOf cX2_readyOf 2 (some .int) 2 0 0 [.ref 0, .int a1] SH_H [m0] SH_H (some (.int t), [m0]) := XMet.of (by decide +kernel) (fun _ => Nat.le_of_ble_eq_true rfl) (fun B => xe_X2_readyOf B m0 a1) (by rw [ht]; rfl)
/-! X3_guests: EveryTwentyMinutes$Kinds.guests(II)I in world 0 at () -/
abbrev M_X3_guests : XM := (RX3, cX3_guests, 3, (some .int), "guests", 1, 0, 0)
def f_X3_guests (a0 : Int32) (a1 : Int32) : Option (Int32) :=
  lt (a1 + 4) fun v1 =>
  if a0 = 1 then
    some (v1 / 2)
  else
    if a0 = 2 then
      some (v1 * 2)
    else
      if a0 = 3 then
        some v1
      else
        if a0 = 4 then
          some (v1 / 2)
        else
          if a0 = 5 then
            some ((v1 * 2) - 3)
          else
            some v1
set_option maxRecDepth 100000 in
theorem xe_X3_guests (B : XB) (a0 : Int32) (a1 : Int32) : XE B M_X3_guests (XQm B 0 0 SH_0) 0 [(0, some (.int a0)), (1, some (.int a1))] [] (0, 0) SH_0 [] (fun t => some (some (.int t), [])) (f_X3_guests a0 a1) := by
  unfold f_X3_guests
  refine XE_iload_n (n := 1) dX3_guests_0 rfl rfl rfl ?_
  refine XE_iconst (v := 4) (n := 2) dX3_guests_1 rfl (by decide) ?_
  refine XE_iadd (n := 3) dX3_guests_2 rfl ?_
  refine XE_topi (fun v1 => ?_)
  refine XE_istore_n (i := 2) (n := 4) dX3_guests_3 rfl rfl (Nat.le_of_ble_eq_true rfl) rfl ?_
  refine XE_iload_n (n := 5) dX3_guests_4 rfl rfl rfl ?_
  refine XE_tsw (c := 1) (t := 40) (off := 35) dX3_guests_5 (by decide) (by decide) rfl rfl ?_ (fun h2 => ?_)
  · refine XE_iload_n (n := 41) dX3_guests_40 rfl rfl rfl ?_
    refine XE_iconst (v := 2) (n := 42) dX3_guests_41 rfl (by decide) ?_
    refine XE_idiv (n := 43) dX3_guests_42 rfl (by decide) ?_
    exact XE_ireturn rfl dX3_guests_43 rfl (Nat.le_refl _) (Nat.le_refl _)
  refine XE_tsw (c := 2) (t := 44) (off := 39) dX3_guests_5 (by decide) (by decide) rfl rfl ?_ (fun h3 => ?_)
  · refine XE_iload_n (n := 45) dX3_guests_44 rfl rfl rfl ?_
    refine XE_iconst (v := 2) (n := 46) dX3_guests_45 rfl (by decide) ?_
    refine XE_imul (n := 47) dX3_guests_46 rfl ?_
    exact XE_ireturn rfl dX3_guests_47 rfl (Nat.le_refl _) (Nat.le_refl _)
  refine XE_tsw (c := 3) (t := 54) (off := 49) dX3_guests_5 (by decide) (by decide) rfl rfl ?_ (fun h4 => ?_)
  · refine XE_iload_n (n := 55) dX3_guests_54 rfl rfl rfl ?_
    exact XE_ireturn rfl dX3_guests_55 rfl (Nat.le_refl _) (Nat.le_refl _)
  refine XE_tsw (c := 4) (t := 40) (off := 35) dX3_guests_5 (by decide) (by decide) rfl rfl ?_ (fun h5 => ?_)
  · refine XE_iload_n (n := 41) dX3_guests_40 rfl rfl rfl ?_
    refine XE_iconst (v := 2) (n := 42) dX3_guests_41 rfl (by decide) ?_
    refine XE_idiv (n := 43) dX3_guests_42 rfl (by decide) ?_
    exact XE_ireturn rfl dX3_guests_43 rfl (Nat.le_refl _) (Nat.le_refl _)
  refine XE_tsw (c := 5) (t := 48) (off := 43) dX3_guests_5 (by decide) (by decide) rfl rfl ?_ (fun h6 => ?_)
  · refine XE_iload_n (n := 49) dX3_guests_48 rfl rfl rfl ?_
    refine XE_iconst (v := 2) (n := 50) dX3_guests_49 rfl (by decide) ?_
    refine XE_imul (n := 51) dX3_guests_50 rfl ?_
    refine XE_iconst (v := 3) (n := 52) dX3_guests_51 rfl (by decide) ?_
    refine XE_isub (n := 53) dX3_guests_52 rfl ?_
    exact XE_ireturn rfl dX3_guests_53 rfl (Nat.le_refl _) (Nat.le_refl _)
  refine XE_tswd (t := 54) dX3_guests_5 (by have q0 := x_ne h2 (z := 1) (by decide); have q1 := x_ne h3 (z := 2) (by decide); have q2 := x_ne h4 (z := 3) (by decide); have q3 := x_ne h5 (z := 4) (by decide); have q4 := x_ne h6 (z := 5) (by decide); omega) rfl ?_
  refine XE_iload_n (n := 55) dX3_guests_54 rfl rfl rfl ?_
  exact XE_ireturn rfl dX3_guests_55 rfl (Nat.le_refl _) (Nat.le_refl _)
theorem met_X3_guests (l : Launch) (a0 : Int32) (a1 : Int32) (t : Int32) (ht : f_X3_guests a0 a1 = some t) : XMet l yX3_guests cX3_guests 3 (some .int) 1 0 0 [.int a0, .int a1] SH_0 [] SH_0 (some (.int t), []) := XMet.of (by decide +kernel) (fun _ => Nat.le_of_ble_eq_true rfl) (fun B => xe_X3_guests B a0 a1) (by rw [ht]; rfl)
/-! X2_guestsOf: EveryTwentyMinutes$Hall.guestsOf(I)I in world H at (0,) -/
abbrev M_X2_guestsOf : XM := (RX2, cX2_guestsOf, 2, (some .int), "guestsOf", 2, 0, 0)
def f_X2_guestsOf (m0 : Mem) (a1 : Int32) : Option (Int32) :=
  ck (inb a1 7) <|
  ck (inb a1 7) <|
  (f_X3_guests (m0 1 (ix a1)) (m0 2 (ix a1))).bind fun t1 =>
  some t1
set_option maxRecDepth 100000 in
theorem xe_X2_guestsOf (B : XB) (m0 : Mem) (a1 : Int32) : XE B M_X2_guestsOf (XQm B 0 0 SH_H) 0 [(0, some (.ref 0)), (1, some (.int a1))] [] (0, 0) SH_H [m0] (fun t => some (some (.int t), [m0])) (f_X2_guestsOf m0 a1) := by
  unfold f_X2_guestsOf
  refine XE_aload_n (n := 1) dX2_guestsOf_0 rfl rfl rfl ?_
  refine XE_getr (b := 1) (n := 4) xf_X2_15 rfl rfl dX2_guestsOf_1 rfl ?_
  refine XE_iload_n (n := 5) dX2_guestsOf_4 rfl rfl rfl ?_
  refine XE_iald (row := m0 1) (n := 6) rfl rfl dX2_guestsOf_5 rfl ?_
  refine XE_aload_n (n := 7) dX2_guestsOf_6 rfl rfl rfl ?_
  refine XE_getr (b := 2) (n := 10) xf_X2_19 rfl rfl dX2_guestsOf_7 rfl ?_
  refine XE_iload_n (n := 11) dX2_guestsOf_10 rfl rfl rfl ?_
  refine XE_iald (row := m0 2) (n := 12) rfl rfl dX2_guestsOf_11 rfl ?_
  refine XE_callS (ni := 2) (As := [.int (m0 1 (ix a1)), .int (m0 2 (ix a1))]) (π := []) (co := [0]) (cv := [m0]) (nn := 1) (hs2 := fun t1 => [m0]) (st2 := fun t1 => [.int t1]) (n := 15) xc_X2_71 (fun l t ht => met_X3_guests l (m0 1 (ix a1)) (m0 2 (ix a1)) t ht) rfl rfl rfl dX2_guestsOf_12 (Nat.le_of_ble_eq_true rfl) ⟨Nat.zero_le _, Nat.zero_le _⟩ (Nat.le_of_ble_eq_true rfl) (Nat.le_of_ble_eq_true rfl) ok_2 rfl rfl rfl (fun _ => rfl) (fun _ => rfl) (fun _ => rfl) rfl (fun _ => rfl) rfl (fun t1 => ?_)
  exact XE_ireturn rfl dX2_guestsOf_15 rfl (Nat.le_refl _) (Nat.le_refl _)
theorem met_X2_guestsOf (l : Launch) (m0 : Mem) (a1 : Int32) (t : Int32) (ht : f_X2_guestsOf m0 a1 = some t) : XMet l yX2_guestsOf cX2_guestsOf 2 (some .int) 2 0 0 [.ref 0, .int a1] SH_H [m0] SH_H (some (.int t), [m0]) := XMet.of (by decide +kernel) (fun _ => Nat.le_of_ble_eq_true rfl) (fun B => xe_X2_guestsOf B m0 a1) (by rw [ht]; rfl)
/-! X2_add: EveryTwentyMinutes$Hall.add(III)V in world H at (0,) -/
abbrev M_X2_add : XM := (RX2, cX2_add, 4, none, "add", 2, 0, 0)
def f_X2_add (m0 : Mem) (a1 : Int32) (a2 : Int32) (a3 : Int32) : Option (Mem) :=
  (f_X2_isFull m0).bind fun t1 =>
  if t1 = 0 then
    if (m0 0 8) < 7 then
      ck (inb (m0 0 0) 7) <|
      lt (xs m0 1 (ix (m0 0 0)) a1) fun w2 =>
      ck (inb (w2 0 0) 7) <|
      lt (xs w2 2 (ix (w2 0 0)) a2) fun w3 =>
      ck (inb (w3 0 0) 7) <|
      lt (xs w3 3 (ix (w3 0 0)) a3) fun w4 =>
      ck (inb (w4 0 8) 7) <|
      lt (xs w4 7 (ix (w4 0 8)) (w4 0 0)) fun w5 =>
      lt (xs w5 0 8 ((w5 0 8) + 1)) fun w6 =>
      lt (xs w6 0 0 ((w6 0 0) + 1)) fun w7 =>
      some w7
    else
      some m0
  else
    some m0
set_option maxRecDepth 100000 in
theorem xe_X2_add (B : XB) (m0 : Mem) (a1 : Int32) (a2 : Int32) (a3 : Int32) : XE B M_X2_add (XQm B 0 0 SH_H) 0 [(0, some (.ref 0)), (1, some (.int a1)), (2, some (.int a2)), (3, some (.int a3))] [] (0, 0) SH_H [m0] (fun t => some (none, [t])) (f_X2_add m0 a1 a2 a3) := by
  unfold f_X2_add
  refine XE_aload_n (n := 1) dX2_add_0 rfl rfl rfl ?_
  refine XE_callVi (ni := 0) (As := []) (st2 := fun t1 => [.int t1]) (n := 4) (b := 0) xc_X2_74 (fun l t ht => met_X2_isFull l m0 t ht) rfl rfl rfl rfl dX2_add_1 (Nat.le_of_ble_eq_true rfl) ⟨Nat.zero_le _, Nat.zero_le _⟩ (Nat.le_of_ble_eq_true rfl) (Nat.le_of_ble_eq_true rfl) (fun _ => rfl) rfl (fun t1 => ?_)
  refine XE_if_ne (t := 16) (n := 7) dX2_add_4 rfl rfl (fun h9 => ?_) (fun h9 => ?_)
  · refine XE_aload_n (n := 8) dX2_add_7 rfl rfl rfl ?_
    refine XE_getf (v := m0 0 8) (n := 11) xf_X2_37 rfl rfl rfl dX2_add_8 rfl ?_
    refine XE_bipush (v := 7) (n := 13) dX2_add_11 rfl (by decide) ?_
    refine XE_icmp_lt (t := 17) (n := 16) dX2_add_13 rfl rfl (fun h8 => ?_) (fun h8 => ?_)
    · refine XE_aload_n (n := 18) dX2_add_17 rfl rfl rfl ?_
      refine XE_getr (b := 1) (n := 21) xf_X2_15 rfl rfl dX2_add_18 rfl ?_
      refine XE_aload_n (n := 22) dX2_add_21 rfl rfl rfl ?_
      refine XE_getf (v := m0 0 0) (n := 25) xf_X2_9 rfl rfl rfl dX2_add_22 rfl ?_
      refine XE_iload_n (n := 26) dX2_add_25 rfl rfl rfl ?_
      refine XE_iast (hs2 := fun w2 => [w2]) (n := 27) rfl rfl rfl (Nat.le_of_ble_eq_true rfl) (fun _ => rfl) dX2_add_26 rfl (fun w2 => ?_)
      refine XE_aload_n (n := 28) dX2_add_27 rfl rfl rfl ?_
      refine XE_getr (b := 2) (n := 31) xf_X2_19 rfl rfl dX2_add_28 rfl ?_
      refine XE_aload_n (n := 32) dX2_add_31 rfl rfl rfl ?_
      refine XE_getf (v := w2 0 0) (n := 35) xf_X2_9 rfl rfl rfl dX2_add_32 rfl ?_
      refine XE_iload_n (n := 36) dX2_add_35 rfl rfl rfl ?_
      refine XE_iast (hs2 := fun w3 => [w3]) (n := 37) rfl rfl rfl (Nat.le_of_ble_eq_true rfl) (fun _ => rfl) dX2_add_36 rfl (fun w3 => ?_)
      refine XE_aload_n (n := 38) dX2_add_37 rfl rfl rfl ?_
      refine XE_getr (b := 3) (n := 41) xf_X2_22 rfl rfl dX2_add_38 rfl ?_
      refine XE_aload_n (n := 42) dX2_add_41 rfl rfl rfl ?_
      refine XE_getf (v := w3 0 0) (n := 45) xf_X2_9 rfl rfl rfl dX2_add_42 rfl ?_
      refine XE_iload_n (n := 46) dX2_add_45 rfl rfl rfl ?_
      refine XE_iast (hs2 := fun w4 => [w4]) (n := 47) rfl rfl rfl (Nat.le_of_ble_eq_true rfl) (fun _ => rfl) dX2_add_46 rfl (fun w4 => ?_)
      refine XE_aload_n (n := 48) dX2_add_47 rfl rfl rfl ?_
      refine XE_getr (b := 7) (n := 51) xf_X2_40 rfl rfl dX2_add_48 rfl ?_
      refine XE_aload_n (n := 52) dX2_add_51 rfl rfl rfl ?_
      refine XE_getf (v := w4 0 8) (n := 55) xf_X2_37 rfl rfl rfl dX2_add_52 rfl ?_
      refine XE_aload_n (n := 56) dX2_add_55 rfl rfl rfl ?_
      refine XE_getf (v := w4 0 0) (n := 59) xf_X2_9 rfl rfl rfl dX2_add_56 rfl ?_
      refine XE_iast (hs2 := fun w5 => [w5]) (n := 60) rfl rfl rfl (Nat.le_of_ble_eq_true rfl) (fun _ => rfl) dX2_add_59 rfl (fun w5 => ?_)
      refine XE_aload_n (n := 61) dX2_add_60 rfl rfl rfl ?_
      refine XE_dup (n := 62) dX2_add_61 rfl rfl ?_
      refine XE_getf (v := w5 0 8) (n := 65) xf_X2_37 rfl rfl rfl dX2_add_62 rfl ?_
      refine XE_iconst (v := 1) (n := 66) dX2_add_65 rfl (by decide) ?_
      refine XE_iadd (n := 67) dX2_add_66 rfl ?_
      refine XE_putf (hs2 := fun w6 => [w6]) (n := 70) xf_X2_37 rfl rfl rfl rfl (Nat.le_of_ble_eq_true rfl) (fun _ => rfl) dX2_add_67 rfl (fun w6 => ?_)
      refine XE_aload_n (n := 71) dX2_add_70 rfl rfl rfl ?_
      refine XE_dup (n := 72) dX2_add_71 rfl rfl ?_
      refine XE_getf (v := w6 0 0) (n := 75) xf_X2_9 rfl rfl rfl dX2_add_72 rfl ?_
      refine XE_iconst (v := 1) (n := 76) dX2_add_75 rfl (by decide) ?_
      refine XE_iadd (n := 77) dX2_add_76 rfl ?_
      refine XE_putf (hs2 := fun w7 => [w7]) (n := 80) xf_X2_9 rfl rfl rfl rfl (Nat.le_of_ble_eq_true rfl) (fun _ => rfl) dX2_add_77 rfl (fun w7 => ?_)
      exact XE_vreturn rfl dX2_add_80 rfl (Nat.le_refl _) (Nat.le_refl _)
    · exact XE_vreturn rfl dX2_add_16 rfl (Nat.le_refl _) (Nat.le_refl _)
  · exact XE_vreturn rfl dX2_add_16 rfl (Nat.le_refl _) (Nat.le_refl _)
theorem met_X2_add (l : Launch) (m0 : Mem) (a1 : Int32) (a2 : Int32) (a3 : Int32) (t : Mem) (ht : f_X2_add m0 a1 a2 a3 = some t) : XMet l yX2_add cX2_add 4 none 2 0 0 [.ref 0, .int a1, .int a2, .int a3] SH_H [m0] SH_H (none, [t]) := XMet.of (by decide +kernel) (fun _ => Nat.le_of_ble_eq_true rfl) (fun B => xe_X2_add B m0 a1 a2 a3) (by rw [ht]; rfl)
/-! X2_openRooms: EveryTwentyMinutes$Hall.openRooms(I)V in world H at (0,) -/
abbrev M_X2_openRooms : XM := (RX2, cX2_openRooms, 2, none, "openRooms", 1, 0, 0)
def f_X2_openRooms (m0 : Mem) (a1 : Int32) : Option (Mem) :=
  if a1 = 2 then
    if 2 ≤ (m0 0 10) then
      lt (xs m0 0 10 a1) fun w2 =>
      some w2
    else
      lt (xs m0 8 1 (m0 8 0)) fun w3 =>
      lt (xs w3 0 10 a1) fun w4 =>
      some w4
  else
    lt (xs m0 0 10 a1) fun w1 =>
    some w1
set_option maxRecDepth 100000 in
theorem xe_X2_openRooms (B : XB) (m0 : Mem) (a1 : Int32) : XE B M_X2_openRooms (XQm B 0 0 SH_H) 0 [(0, some (.ref 0)), (1, some (.int a1))] [] (0, 0) SH_H [m0] (fun t => some (none, [t])) (f_X2_openRooms m0 a1) := by
  unfold f_X2_openRooms
  refine XE_iload_n (n := 1) dX2_openRooms_0 rfl rfl rfl ?_
  refine XE_iconst (v := 2) (n := 2) dX2_openRooms_1 rfl (by decide) ?_
  refine XE_icmp_ne (t := 25) (n := 5) dX2_openRooms_2 rfl rfl (fun h6 => ?_) (fun h6 => ?_)
  · refine XE_aload_n (n := 6) dX2_openRooms_5 rfl rfl rfl ?_
    refine XE_getf (v := m0 0 10) (n := 9) xf_X2_43 rfl rfl rfl dX2_openRooms_6 rfl ?_
    refine XE_iconst (v := 2) (n := 10) dX2_openRooms_9 rfl (by decide) ?_
    refine XE_icmp_ge (t := 25) (n := 13) dX2_openRooms_10 rfl rfl (fun h5 => ?_) (fun h5 => ?_)
    · refine XE_aload_n (n := 26) dX2_openRooms_25 rfl rfl rfl ?_
      refine XE_iload_n (n := 27) dX2_openRooms_26 rfl rfl rfl ?_
      refine XE_putf (hs2 := fun w2 => [w2]) (n := 30) xf_X2_43 rfl rfl rfl rfl (Nat.le_of_ble_eq_true rfl) (fun _ => rfl) dX2_openRooms_27 rfl (fun w2 => ?_)
      exact XE_vreturn rfl dX2_openRooms_30 rfl (Nat.le_refl _) (Nat.le_refl _)
    · refine XE_aload_n (n := 14) dX2_openRooms_13 rfl rfl rfl ?_
      refine XE_getr (b := 8) (n := 17) xf_X2_46 rfl rfl dX2_openRooms_14 rfl ?_
      refine XE_iconst (v := 1) (n := 18) dX2_openRooms_17 rfl (by decide) ?_
      refine XE_aload_n (n := 19) dX2_openRooms_18 rfl rfl rfl ?_
      refine XE_getr (b := 8) (n := 22) xf_X2_46 rfl rfl dX2_openRooms_19 rfl ?_
      refine XE_iconst (v := 0) (n := 23) dX2_openRooms_22 rfl (by decide) ?_
      refine XE_ialdc (row := m0 8) (j := 0) (n := 24) rfl rfl rfl rfl dX2_openRooms_23 rfl ?_
      refine XE_iastj (j := 1) (hs2 := fun w3 => [w3]) (n := 25) rfl rfl rfl (Nat.le_of_ble_eq_true rfl) (fun _ => rfl) rfl rfl dX2_openRooms_24 rfl (fun w3 => ?_)
      refine XE_aload_n (n := 26) dX2_openRooms_25 rfl rfl rfl ?_
      refine XE_iload_n (n := 27) dX2_openRooms_26 rfl rfl rfl ?_
      refine XE_putf (hs2 := fun w4 => [w4]) (n := 30) xf_X2_43 rfl rfl rfl rfl (Nat.le_of_ble_eq_true rfl) (fun _ => rfl) dX2_openRooms_27 rfl (fun w4 => ?_)
      exact XE_vreturn rfl dX2_openRooms_30 rfl (Nat.le_refl _) (Nat.le_refl _)
  · refine XE_aload_n (n := 26) dX2_openRooms_25 rfl rfl rfl ?_
    refine XE_iload_n (n := 27) dX2_openRooms_26 rfl rfl rfl ?_
    refine XE_putf (hs2 := fun w1 => [w1]) (n := 30) xf_X2_43 rfl rfl rfl rfl (Nat.le_of_ble_eq_true rfl) (fun _ => rfl) dX2_openRooms_27 rfl (fun w1 => ?_)
    exact XE_vreturn rfl dX2_openRooms_30 rfl (Nat.le_refl _) (Nat.le_refl _)
theorem met_X2_openRooms (l : Launch) (m0 : Mem) (a1 : Int32) (t : Mem) (ht : f_X2_openRooms m0 a1 = some t) : XMet l yX2_openRooms cX2_openRooms 2 none 1 0 0 [.ref 0, .int a1] SH_H [m0] SH_H (none, [t]) := XMet.of (by decide +kernel) (fun _ => Nat.le_of_ble_eq_true rfl) (fun B => xe_X2_openRooms B m0 a1) (by rw [ht]; rfl)
/-! X2_placeOf: EveryTwentyMinutes$Hall.placeOf(I)I in world H at (0,) -/
abbrev M_X2_placeOf : XM := (RX2, cX2_placeOf, 3, (some .int), "placeOf", 1, 0, 0)
def f_X2_placeOf_L2 (a1 : Int32) (m0 : Mem) : Nat → Int32 → Option (Int32)
  | 0, _ => none
  | n + 1, v1 =>
    if (m0 0 8) ≤ v1 then
      some (v1)
    else
      ck (inb v1 7) <|
      if (m0 7 (ix v1)) = a1 then
        some (v1)
      else
        lt (v1 + 1) fun v2 =>
        (f_X2_placeOf_L2 a1 m0 n) v2
def f_X2_placeOf (m0 : Mem) (a1 : Int32) : Option (Int32) :=
  (f_X2_placeOf_L2 a1 m0 6000 (0 : Int32)).bind fun t5 =>
  some t5
set_option maxRecDepth 100000 in
theorem f_X2_placeOf_L2_x {α R : Type} (B : XB) {Q : R → State → Prop} {k : α → Option R} {r : (Int32) → Option α} (a1 : Int32) (m0 : Mem) (hE : ∀ t0 : (Int32), XE B M_X2_placeOf Q 26 [(2, some (.int t0))] [] (0, 0) SH_H [m0] (fun t => (r t).bind k) (some t0)) : ∀ (n : Nat) (v1 : Int32), XE B M_X2_placeOf Q 2 [(0, some (.ref 0)), (1, some (.int a1)), (2, some (.int v1))] [] (0, 0) SH_H [m0] (fun t => (r t).bind k) (f_X2_placeOf_L2 a1 m0 n v1) := by
  intro n
  induction n with
  | zero => intros; exact XE_none
  | succ n ih =>
    intro v1
    rw [f_X2_placeOf_L2]
    refine XE_iload_n (n := 3) dX2_placeOf_2 rfl rfl rfl ?_
    refine XE_aload_n (n := 4) dX2_placeOf_3 rfl rfl rfl ?_
    refine XE_getf (v := m0 0 8) (n := 7) xf_X2_37 rfl rfl rfl dX2_placeOf_4 rfl ?_
    refine XE_icmp_ge (t := 26) (n := 10) dX2_placeOf_7 rfl rfl (fun h4 => ?_) (fun h4 => ?_)
    · refine XE_ls (x_sub_ok (ls' := [(2, some (.int v1))]) ⟨rfl, trivial⟩) ?_
      exact hE (v1)
    · refine XE_aload_n (n := 11) dX2_placeOf_10 rfl rfl rfl ?_
      refine XE_getr (b := 7) (n := 14) xf_X2_40 rfl rfl dX2_placeOf_11 rfl ?_
      refine XE_iload_n (n := 15) dX2_placeOf_14 rfl rfl rfl ?_
      refine XE_iald (row := m0 7) (n := 16) rfl rfl dX2_placeOf_15 rfl ?_
      refine XE_iload_n (n := 17) dX2_placeOf_16 rfl rfl rfl ?_
      refine XE_icmp_eq (t := 26) (n := 20) dX2_placeOf_17 rfl rfl (fun h3 => ?_) (fun h3 => ?_)
      · refine XE_ls (x_sub_ok (ls' := [(2, some (.int v1))]) ⟨rfl, trivial⟩) ?_
        exact hE (v1)
      · refine XE_iincl (n := 23) dX2_placeOf_20 rfl rfl (by decide) (Nat.le_of_ble_eq_true rfl) rfl (fun v2 => ?_)
        refine XE_goto (n := 2) dX2_placeOf_23 rfl ?_
        refine XE_ls (x_sub_ok (ls' := [(0, some (.ref 0)), (1, some (.int a1)), (2, some (.int v2))]) ⟨rfl, rfl, rfl, trivial⟩) ?_
        exact ih v2
set_option maxRecDepth 100000 in
theorem xe_X2_placeOf (B : XB) (m0 : Mem) (a1 : Int32) : XE B M_X2_placeOf (XQm B 0 0 SH_H) 0 [(0, some (.ref 0)), (1, some (.int a1))] [] (0, 0) SH_H [m0] (fun t => some (some (.int t), [m0])) (f_X2_placeOf m0 a1) := by
  unfold f_X2_placeOf
  refine XE_iconst (v := 0) (n := 1) dX2_placeOf_0 rfl (by decide) ?_
  refine XE_istore_n (i := 2) (n := 2) dX2_placeOf_1 rfl rfl (Nat.le_of_ble_eq_true rfl) rfl ?_
  refine XE_ls (x_sub_ok (ls' := [(0, some (.ref 0)), (1, some (.int a1)), (2, some (.int 0))]) ⟨rfl, rfl, rfl, trivial⟩) ?_
  refine XE_reg (J := 26) (lsJ := fun t5 => [(2, some (.int t5))]) (stJ := fun t5 => []) (hsJ := fun t5 => [m0]) (fun t5 => ?_) (fun hJ6 => f_X2_placeOf_L2_x B a1 m0 hJ6 6000 (0 : Int32))
  refine XE_iload_n (n := 27) dX2_placeOf_26 rfl rfl rfl ?_
  exact XE_ireturn rfl dX2_placeOf_27 rfl (Nat.le_refl _) (Nat.le_refl _)
theorem met_X2_placeOf (l : Launch) (m0 : Mem) (a1 : Int32) (t : Int32) (ht : f_X2_placeOf m0 a1 = some t) : XMet l yX2_placeOf cX2_placeOf 3 (some .int) 1 0 0 [.ref 0, .int a1] SH_H [m0] SH_H (some (.int t), [m0]) := XMet.of (by decide +kernel) (fun _ => Nat.le_of_ble_eq_true rfl) (fun B => xe_X2_placeOf B m0 a1) (by rw [ht]; rfl)
/-! X2_putFirst: EveryTwentyMinutes$Hall.putFirst(I)V in world H at (0,) -/
abbrev M_X2_putFirst : XM := (RX2, cX2_putFirst, 4, none, "putFirst", 2, 0, 0)
def f_X2_putFirst_L17 : Nat → Int32 → Mem → Option (Mem)
  | 0, _, _ => none
  | n + 1, v2, w3 =>
    if v2 ≤ 0 then
      some (w3)
    else
      ck (inb (v2 - 1) 7) <|
      ck (inb v2 7) <|
      lt (xs w3 7 (ix v2) (w3 7 (ix (v2 - 1)))) fun w4 =>
      lt (v2 + (-1)) fun v5 =>
      (f_X2_putFirst_L17 n) v5 w4
def f_X2_putFirst (m0 : Mem) (a1 : Int32) : Option (Mem) :=
  (f_X2_placeOf m0 a1).bind fun t1 =>
  if t1 < (m0 0 8) then
    (f_X2_putFirst_L17 6000 t1 m0).bind fun t7 =>
    lt (xs t7 7 0 a1) fun w8 =>
    some w8
  else
    some m0
set_option maxRecDepth 100000 in
theorem f_X2_putFirst_L17_x {α R : Type} (B : XB) {Q : R → State → Prop} {k : α → Option R} {r : (Mem) → Option α} (a1 : Int32) (hE : ∀ t0 : (Mem), XE B M_X2_putFirst Q 41 [(0, some (.ref 0)), (1, some (.int a1))] [] (0, 0) SH_H [t0] (fun t => (r t).bind k) (some t0)) : ∀ (n : Nat) (v2 : Int32) (w3 : Mem), XE B M_X2_putFirst Q 17 [(0, some (.ref 0)), (1, some (.int a1)), (3, some (.int v2))] [] (0, 0) SH_H [w3] (fun t => (r t).bind k) (f_X2_putFirst_L17 n v2 w3) := by
  intro n
  induction n with
  | zero => intros; exact XE_none
  | succ n ih =>
    intro v2 w3
    rw [f_X2_putFirst_L17]
    refine XE_iload_n (n := 18) dX2_putFirst_17 rfl rfl rfl ?_
    refine XE_if_le (t := 41) (n := 21) dX2_putFirst_18 rfl rfl (fun h6 => ?_) (fun h6 => ?_)
    · refine XE_ls (x_sub_ok (ls' := [(0, some (.ref 0)), (1, some (.int a1))]) ⟨rfl, rfl, trivial⟩) ?_
      exact hE (w3)
    · refine XE_aload_n (n := 22) dX2_putFirst_21 rfl rfl rfl ?_
      refine XE_getr (b := 7) (n := 25) xf_X2_40 rfl rfl dX2_putFirst_22 rfl ?_
      refine XE_iload_n (n := 26) dX2_putFirst_25 rfl rfl rfl ?_
      refine XE_aload_n (n := 27) dX2_putFirst_26 rfl rfl rfl ?_
      refine XE_getr (b := 7) (n := 30) xf_X2_40 rfl rfl dX2_putFirst_27 rfl ?_
      refine XE_iload_n (n := 31) dX2_putFirst_30 rfl rfl rfl ?_
      refine XE_iconst (v := 1) (n := 32) dX2_putFirst_31 rfl (by decide) ?_
      refine XE_isub (n := 33) dX2_putFirst_32 rfl ?_
      refine XE_iald (row := w3 7) (n := 34) rfl rfl dX2_putFirst_33 rfl ?_
      refine XE_iast (hs2 := fun w4 => [w4]) (n := 35) rfl rfl rfl (Nat.le_of_ble_eq_true rfl) (fun _ => rfl) dX2_putFirst_34 rfl (fun w4 => ?_)
      refine XE_iincl (n := 38) dX2_putFirst_35 rfl rfl (by decide) (Nat.le_of_ble_eq_true rfl) rfl (fun v5 => ?_)
      refine XE_goto (n := 17) dX2_putFirst_38 rfl ?_
      refine XE_ls (x_sub_ok (ls' := [(0, some (.ref 0)), (1, some (.int a1)), (3, some (.int v5))]) ⟨rfl, rfl, rfl, trivial⟩) ?_
      exact ih v5 w4
set_option maxRecDepth 100000 in
theorem xe_X2_putFirst (B : XB) (m0 : Mem) (a1 : Int32) : XE B M_X2_putFirst (XQm B 0 0 SH_H) 0 [(0, some (.ref 0)), (1, some (.int a1))] [] (0, 0) SH_H [m0] (fun t => some (none, [t])) (f_X2_putFirst m0 a1) := by
  unfold f_X2_putFirst
  refine XE_aload_n (n := 1) dX2_putFirst_0 rfl rfl rfl ?_
  refine XE_iload_n (n := 2) dX2_putFirst_1 rfl rfl rfl ?_
  refine XE_callVi (ni := 1) (As := [.int a1]) (st2 := fun t1 => [.int t1]) (n := 5) (b := 0) xc_X2_78 (fun l t ht => met_X2_placeOf l m0 a1 t ht) rfl rfl rfl rfl dX2_putFirst_2 (Nat.le_of_ble_eq_true rfl) ⟨Nat.zero_le _, Nat.zero_le _⟩ (Nat.le_of_ble_eq_true rfl) (Nat.le_of_ble_eq_true rfl) (fun _ => rfl) rfl (fun t1 => ?_)
  refine XE_istore_n (i := 2) (n := 6) dX2_putFirst_5 rfl rfl (Nat.le_of_ble_eq_true rfl) rfl ?_
  refine XE_iload_n (n := 7) dX2_putFirst_6 rfl rfl rfl ?_
  refine XE_aload_n (n := 8) dX2_putFirst_7 rfl rfl rfl ?_
  refine XE_getf (v := m0 0 8) (n := 11) xf_X2_37 rfl rfl rfl dX2_putFirst_8 rfl ?_
  refine XE_icmp_lt (t := 15) (n := 14) dX2_putFirst_11 rfl rfl (fun h10 => ?_) (fun h10 => ?_)
  · refine XE_iload_n (n := 16) dX2_putFirst_15 rfl rfl rfl ?_
    refine XE_istore_n (i := 3) (n := 17) dX2_putFirst_16 rfl rfl (Nat.le_of_ble_eq_true rfl) rfl ?_
    refine XE_ls (x_sub_ok (ls' := [(0, some (.ref 0)), (1, some (.int a1)), (3, some (.int t1))]) ⟨rfl, rfl, rfl, trivial⟩) ?_
    refine XE_reg (J := 41) (lsJ := fun t7 => [(0, some (.ref 0)), (1, some (.int a1))]) (stJ := fun t7 => []) (hsJ := fun t7 => [t7]) (fun t7 => ?_) (fun hJ9 => f_X2_putFirst_L17_x B a1 hJ9 6000 t1 m0)
    refine XE_aload_n (n := 42) dX2_putFirst_41 rfl rfl rfl ?_
    refine XE_getr (b := 7) (n := 45) xf_X2_40 rfl rfl dX2_putFirst_42 rfl ?_
    refine XE_iconst (v := 0) (n := 46) dX2_putFirst_45 rfl (by decide) ?_
    refine XE_iload_n (n := 47) dX2_putFirst_46 rfl rfl rfl ?_
    refine XE_iastj (j := 0) (hs2 := fun w8 => [w8]) (n := 48) rfl rfl rfl (Nat.le_of_ble_eq_true rfl) (fun _ => rfl) rfl rfl dX2_putFirst_47 rfl (fun w8 => ?_)
    exact XE_vreturn rfl dX2_putFirst_48 rfl (Nat.le_refl _) (Nat.le_refl _)
  · exact XE_vreturn rfl dX2_putFirst_14 rfl (Nat.le_refl _) (Nat.le_refl _)
theorem met_X2_putFirst (l : Launch) (m0 : Mem) (a1 : Int32) (t : Mem) (ht : f_X2_putFirst m0 a1 = some t) : XMet l yX2_putFirst cX2_putFirst 4 none 2 0 0 [.ref 0, .int a1] SH_H [m0] SH_H (none, [t]) := XMet.of (by decide +kernel) (fun _ => Nat.le_of_ble_eq_true rfl) (fun B => xe_X2_putFirst B m0 a1) (by rw [ht]; rfl)
/-! X2_changePlaces: EveryTwentyMinutes$Hall.changePlaces(II)V in world H at (0,) -/
abbrev M_X2_changePlaces : XM := (RX2, cX2_changePlaces, 5, none, "changePlaces", 2, 0, 0)
def f_X2_changePlaces (m0 : Mem) (a1 : Int32) (a2 : Int32) : Option (Mem) :=
  (f_X2_placeOf m0 a1).bind fun t1 =>
  (f_X2_placeOf m0 a2).bind fun t2 =>
  if (m0 0 8) ≤ t1 then
    some m0
  else
    if (m0 0 8) ≤ t2 then
      some m0
    else
      ck (inb t1 7) <|
      lt (xs m0 7 (ix t1) a2) fun w3 =>
      ck (inb t2 7) <|
      lt (xs w3 7 (ix t2) a1) fun w4 =>
      some w4
set_option maxRecDepth 100000 in
theorem xe_X2_changePlaces (B : XB) (m0 : Mem) (a1 : Int32) (a2 : Int32) : XE B M_X2_changePlaces (XQm B 0 0 SH_H) 0 [(0, some (.ref 0)), (1, some (.int a1)), (2, some (.int a2))] [] (0, 0) SH_H [m0] (fun t => some (none, [t])) (f_X2_changePlaces m0 a1 a2) := by
  unfold f_X2_changePlaces
  refine XE_aload_n (n := 1) dX2_changePlaces_0 rfl rfl rfl ?_
  refine XE_iload_n (n := 2) dX2_changePlaces_1 rfl rfl rfl ?_
  refine XE_callVi (ni := 1) (As := [.int a1]) (st2 := fun t1 => [.int t1]) (n := 5) (b := 0) xc_X2_78 (fun l t ht => met_X2_placeOf l m0 a1 t ht) rfl rfl rfl rfl dX2_changePlaces_2 (Nat.le_of_ble_eq_true rfl) ⟨Nat.zero_le _, Nat.zero_le _⟩ (Nat.le_of_ble_eq_true rfl) (Nat.le_of_ble_eq_true rfl) (fun _ => rfl) rfl (fun t1 => ?_)
  refine XE_istore_n (i := 3) (n := 6) dX2_changePlaces_5 rfl rfl (Nat.le_of_ble_eq_true rfl) rfl ?_
  refine XE_aload_n (n := 7) dX2_changePlaces_6 rfl rfl rfl ?_
  refine XE_iload_n (n := 8) dX2_changePlaces_7 rfl rfl rfl ?_
  refine XE_callVi (ni := 1) (As := [.int a2]) (st2 := fun t2 => [.int t2]) (n := 11) (b := 0) xc_X2_78 (fun l t ht => met_X2_placeOf l m0 a2 t ht) rfl rfl rfl rfl dX2_changePlaces_8 (Nat.le_of_ble_eq_true rfl) ⟨Nat.zero_le _, Nat.zero_le _⟩ (Nat.le_of_ble_eq_true rfl) (Nat.le_of_ble_eq_true rfl) (fun _ => rfl) rfl (fun t2 => ?_)
  refine XE_istore (i := 4) (n := 13) dX2_changePlaces_11 rfl (Nat.le_of_ble_eq_true rfl) rfl ?_
  refine XE_iload_n (n := 14) dX2_changePlaces_13 rfl rfl rfl ?_
  refine XE_aload_n (n := 15) dX2_changePlaces_14 rfl rfl rfl ?_
  refine XE_getf (v := m0 0 8) (n := 18) xf_X2_37 rfl rfl rfl dX2_changePlaces_15 rfl ?_
  refine XE_icmp_ge (t := 45) (n := 21) dX2_changePlaces_18 rfl rfl (fun h6 => ?_) (fun h6 => ?_)
  · exact XE_vreturn rfl dX2_changePlaces_45 rfl (Nat.le_refl _) (Nat.le_refl _)
  · refine XE_iload (n := 23) dX2_changePlaces_21 rfl rfl ?_
    refine XE_aload_n (n := 24) dX2_changePlaces_23 rfl rfl rfl ?_
    refine XE_getf (v := m0 0 8) (n := 27) xf_X2_37 rfl rfl rfl dX2_changePlaces_24 rfl ?_
    refine XE_icmp_ge (t := 45) (n := 30) dX2_changePlaces_27 rfl rfl (fun h5 => ?_) (fun h5 => ?_)
    · exact XE_vreturn rfl dX2_changePlaces_45 rfl (Nat.le_refl _) (Nat.le_refl _)
    · refine XE_aload_n (n := 31) dX2_changePlaces_30 rfl rfl rfl ?_
      refine XE_getr (b := 7) (n := 34) xf_X2_40 rfl rfl dX2_changePlaces_31 rfl ?_
      refine XE_iload_n (n := 35) dX2_changePlaces_34 rfl rfl rfl ?_
      refine XE_iload_n (n := 36) dX2_changePlaces_35 rfl rfl rfl ?_
      refine XE_iast (hs2 := fun w3 => [w3]) (n := 37) rfl rfl rfl (Nat.le_of_ble_eq_true rfl) (fun _ => rfl) dX2_changePlaces_36 rfl (fun w3 => ?_)
      refine XE_aload_n (n := 38) dX2_changePlaces_37 rfl rfl rfl ?_
      refine XE_getr (b := 7) (n := 41) xf_X2_40 rfl rfl dX2_changePlaces_38 rfl ?_
      refine XE_iload (n := 43) dX2_changePlaces_41 rfl rfl ?_
      refine XE_iload_n (n := 44) dX2_changePlaces_43 rfl rfl rfl ?_
      refine XE_iast (hs2 := fun w4 => [w4]) (n := 45) rfl rfl rfl (Nat.le_of_ble_eq_true rfl) (fun _ => rfl) dX2_changePlaces_44 rfl (fun w4 => ?_)
      exact XE_vreturn rfl dX2_changePlaces_45 rfl (Nat.le_refl _) (Nat.le_refl _)
theorem met_X2_changePlaces (l : Launch) (m0 : Mem) (a1 : Int32) (a2 : Int32) (t : Mem) (ht : f_X2_changePlaces m0 a1 a2 = some t) : XMet l yX2_changePlaces cX2_changePlaces 5 none 2 0 0 [.ref 0, .int a1, .int a2] SH_H [m0] SH_H (none, [t]) := XMet.of (by decide +kernel) (fun _ => Nat.le_of_ble_eq_true rfl) (fun B => xe_X2_changePlaces B m0 a1 a2) (by rw [ht]; rfl)
/-! X2_restClerk: EveryTwentyMinutes$Hall.restClerk(I)V in world H at (0,) -/
abbrev M_X2_restClerk : XM := (RX2, cX2_restClerk, 3, none, "restClerk", 1, 0, 0)
def f_X2_restClerk_L7 (a1 : Int32) : Nat → Int32 → Mem → Option (Mem)
  | 0, _, _ => none
  | n + 1, v2, w3 =>
    if (w3 0 10) ≤ v2 then
      some (w3)
    else
      ck (inb v2 2) <|
      ck (inb v2 2) <|
      lt (xs w3 8 (ix v2) (imin ((w3 8 (ix v2)) + a1) 999)) fun w4 =>
      lt (v2 + 1) fun v5 =>
      (f_X2_restClerk_L7 a1 n) v5 w4
def f_X2_restClerk (m0 : Mem) (a1 : Int32) : Option (Mem) :=
  lt (xs m0 0 12 0) fun w1 =>
  (f_X2_restClerk_L7 a1 6000 (0 : Int32) w1).bind fun t7 =>
  some t7
set_option maxRecDepth 100000 in
theorem f_X2_restClerk_L7_x {α R : Type} (B : XB) {Q : R → State → Prop} {k : α → Option R} {r : (Mem) → Option α} (a1 : Int32) (hE : ∀ t0 : (Mem), XE B M_X2_restClerk Q 41 [] [] (0, 0) SH_H [t0] (fun t => (r t).bind k) (some t0)) : ∀ (n : Nat) (v2 : Int32) (w3 : Mem), XE B M_X2_restClerk Q 7 [(0, some (.ref 0)), (1, some (.int a1)), (2, some (.int v2))] [] (0, 0) SH_H [w3] (fun t => (r t).bind k) (f_X2_restClerk_L7 a1 n v2 w3) := by
  intro n
  induction n with
  | zero => intros; exact XE_none
  | succ n ih =>
    intro v2 w3
    rw [f_X2_restClerk_L7]
    refine XE_iload_n (n := 8) dX2_restClerk_7 rfl rfl rfl ?_
    refine XE_aload_n (n := 9) dX2_restClerk_8 rfl rfl rfl ?_
    refine XE_getf (v := w3 0 10) (n := 12) xf_X2_43 rfl rfl rfl dX2_restClerk_9 rfl ?_
    refine XE_icmp_ge (t := 41) (n := 15) dX2_restClerk_12 rfl rfl (fun h6 => ?_) (fun h6 => ?_)
    · refine XE_ls (x_sub_ok (ls' := []) trivial) ?_
      exact hE (w3)
    · refine XE_aload_n (n := 16) dX2_restClerk_15 rfl rfl rfl ?_
      refine XE_getr (b := 8) (n := 19) xf_X2_46 rfl rfl dX2_restClerk_16 rfl ?_
      refine XE_iload_n (n := 20) dX2_restClerk_19 rfl rfl rfl ?_
      refine XE_aload_n (n := 21) dX2_restClerk_20 rfl rfl rfl ?_
      refine XE_getr (b := 8) (n := 24) xf_X2_46 rfl rfl dX2_restClerk_21 rfl ?_
      refine XE_iload_n (n := 25) dX2_restClerk_24 rfl rfl rfl ?_
      refine XE_iald (row := w3 8) (n := 26) rfl rfl dX2_restClerk_25 rfl ?_
      refine XE_iload_n (n := 27) dX2_restClerk_26 rfl rfl rfl ?_
      refine XE_iadd (n := 28) dX2_restClerk_27 rfl ?_
      refine XE_sipush (v := 999) (n := 31) dX2_restClerk_28 rfl (by decide) ?_
      refine XE_mmin (n := 34) xp_X2_82 rfl (Nat.le_of_ble_eq_true rfl) (Nat.le_of_ble_eq_true rfl) dX2_restClerk_31 rfl ?_
      refine XE_iast (hs2 := fun w4 => [w4]) (n := 35) rfl rfl rfl (Nat.le_of_ble_eq_true rfl) (fun _ => rfl) dX2_restClerk_34 rfl (fun w4 => ?_)
      refine XE_iincl (n := 38) dX2_restClerk_35 rfl rfl (by decide) (Nat.le_of_ble_eq_true rfl) rfl (fun v5 => ?_)
      refine XE_goto (n := 7) dX2_restClerk_38 rfl ?_
      refine XE_ls (x_sub_ok (ls' := [(0, some (.ref 0)), (1, some (.int a1)), (2, some (.int v5))]) ⟨rfl, rfl, rfl, trivial⟩) ?_
      exact ih v5 w4
set_option maxRecDepth 100000 in
theorem xe_X2_restClerk (B : XB) (m0 : Mem) (a1 : Int32) : XE B M_X2_restClerk (XQm B 0 0 SH_H) 0 [(0, some (.ref 0)), (1, some (.int a1))] [] (0, 0) SH_H [m0] (fun t => some (none, [t])) (f_X2_restClerk m0 a1) := by
  unfold f_X2_restClerk
  refine XE_aload_n (n := 1) dX2_restClerk_0 rfl rfl rfl ?_
  refine XE_iconst (v := 0) (n := 2) dX2_restClerk_1 rfl (by decide) ?_
  refine XE_putf (hs2 := fun w1 => [w1]) (n := 5) xf_X2_49 rfl rfl rfl rfl (Nat.le_of_ble_eq_true rfl) (fun _ => rfl) dX2_restClerk_2 rfl (fun w1 => ?_)
  refine XE_iconst (v := 0) (n := 6) dX2_restClerk_5 rfl (by decide) ?_
  refine XE_istore_n (i := 2) (n := 7) dX2_restClerk_6 rfl rfl (Nat.le_of_ble_eq_true rfl) rfl ?_
  refine XE_ls (x_sub_ok (ls' := [(0, some (.ref 0)), (1, some (.int a1)), (2, some (.int 0))]) ⟨rfl, rfl, rfl, trivial⟩) ?_
  refine XE_reg (J := 41) (lsJ := fun t7 => []) (stJ := fun t7 => []) (hsJ := fun t7 => [t7]) (fun t7 => ?_) (fun hJ8 => f_X2_restClerk_L7_x B a1 hJ8 6000 (0 : Int32) w1)
  exact XE_vreturn rfl dX2_restClerk_41 rfl (Nat.le_refl _) (Nat.le_refl _)
theorem met_X2_restClerk (l : Launch) (m0 : Mem) (a1 : Int32) (t : Mem) (ht : f_X2_restClerk m0 a1 = some t) : XMet l yX2_restClerk cX2_restClerk 3 none 1 0 0 [.ref 0, .int a1] SH_H [m0] SH_H (none, [t]) := XMet.of (by decide +kernel) (fun _ => Nat.le_of_ble_eq_true rfl) (fun B => xe_X2_restClerk B m0 a1) (by rw [ht]; rfl)
/-! X2_wedFirst: EveryTwentyMinutes$Hall.wedFirst(I)V in world H at (0,) -/
abbrev M_X2_wedFirst : XM := (RX2, cX2_wedFirst, 4, none, "wedFirst", 3, 0, 0)
def f_X2_wedFirst_L28 : Nat → Int32 → Mem → Option (Mem)
  | 0, _, _ => none
  | n + 1, v3, w4 =>
    if (w4 0 8) ≤ v3 then
      some (w4)
    else
      ck (inb (v3 + 1) 7) <|
      ck (inb v3 7) <|
      lt (xs w4 7 (ix v3) (w4 7 (ix (v3 + 1)))) fun w5 =>
      lt (v3 + 1) fun v6 =>
      (f_X2_wedFirst_L28 n) v6 w5
def f_X2_wedFirst (m0 : Mem) (a1 : Int32) : Option (Mem) :=
  if 1 ≤ (m0 0 8) then
    lt (m0 7 0) fun v1 =>
    lt (xs m0 0 8 ((m0 0 8) - 1)) fun w2 =>
    (f_X2_wedFirst_L28 6000 (0 : Int32) w2).bind fun t8 =>
    lt (xs t8 0 4 ((t8 0 4) ||| (1 <<< (v1 &&& 31)))) fun w9 =>
    (f_X2_hold w9 v1 a1).bind fun t10 =>
    some t10
  else
    some m0
set_option maxRecDepth 100000 in
theorem f_X2_wedFirst_L28_x {α R : Type} (B : XB) {Q : R → State → Prop} {k : α → Option R} {r : (Mem) → Option α} (a1 : Int32) (v1 : Int32) (hE : ∀ t0 : (Mem), XE B M_X2_wedFirst Q 56 [(0, some (.ref 0)), (1, some (.int a1)), (2, some (.int v1))] [] (0, 0) SH_H [t0] (fun t => (r t).bind k) (some t0)) : ∀ (n : Nat) (v3 : Int32) (w4 : Mem), XE B M_X2_wedFirst Q 28 [(0, some (.ref 0)), (1, some (.int a1)), (2, some (.int v1)), (3, some (.int v3))] [] (0, 0) SH_H [w4] (fun t => (r t).bind k) (f_X2_wedFirst_L28 n v3 w4) := by
  intro n
  induction n with
  | zero => intros; exact XE_none
  | succ n ih =>
    intro v3 w4
    rw [f_X2_wedFirst_L28]
    refine XE_iload_n (n := 29) dX2_wedFirst_28 rfl rfl rfl ?_
    refine XE_aload_n (n := 30) dX2_wedFirst_29 rfl rfl rfl ?_
    refine XE_getf (v := w4 0 8) (n := 33) xf_X2_37 rfl rfl rfl dX2_wedFirst_30 rfl ?_
    refine XE_icmp_ge (t := 56) (n := 36) dX2_wedFirst_33 rfl rfl (fun h7 => ?_) (fun h7 => ?_)
    · refine XE_ls (x_sub_ok (ls' := [(0, some (.ref 0)), (1, some (.int a1)), (2, some (.int v1))]) ⟨rfl, rfl, rfl, trivial⟩) ?_
      exact hE (w4)
    · refine XE_aload_n (n := 37) dX2_wedFirst_36 rfl rfl rfl ?_
      refine XE_getr (b := 7) (n := 40) xf_X2_40 rfl rfl dX2_wedFirst_37 rfl ?_
      refine XE_iload_n (n := 41) dX2_wedFirst_40 rfl rfl rfl ?_
      refine XE_aload_n (n := 42) dX2_wedFirst_41 rfl rfl rfl ?_
      refine XE_getr (b := 7) (n := 45) xf_X2_40 rfl rfl dX2_wedFirst_42 rfl ?_
      refine XE_iload_n (n := 46) dX2_wedFirst_45 rfl rfl rfl ?_
      refine XE_iconst (v := 1) (n := 47) dX2_wedFirst_46 rfl (by decide) ?_
      refine XE_iadd (n := 48) dX2_wedFirst_47 rfl ?_
      refine XE_iald (row := w4 7) (n := 49) rfl rfl dX2_wedFirst_48 rfl ?_
      refine XE_iast (hs2 := fun w5 => [w5]) (n := 50) rfl rfl rfl (Nat.le_of_ble_eq_true rfl) (fun _ => rfl) dX2_wedFirst_49 rfl (fun w5 => ?_)
      refine XE_iincl (n := 53) dX2_wedFirst_50 rfl rfl (by decide) (Nat.le_of_ble_eq_true rfl) rfl (fun v6 => ?_)
      refine XE_goto (n := 28) dX2_wedFirst_53 rfl ?_
      refine XE_ls (x_sub_ok (ls' := [(0, some (.ref 0)), (1, some (.int a1)), (2, some (.int v1)), (3, some (.int v6))]) ⟨rfl, rfl, rfl, rfl, trivial⟩) ?_
      exact ih v6 w5
set_option maxRecDepth 100000 in
theorem xe_X2_wedFirst (B : XB) (m0 : Mem) (a1 : Int32) : XE B M_X2_wedFirst (XQm B 0 0 SH_H) 0 [(0, some (.ref 0)), (1, some (.int a1))] [] (0, 0) SH_H [m0] (fun t => some (none, [t])) (f_X2_wedFirst m0 a1) := by
  unfold f_X2_wedFirst
  refine XE_aload_n (n := 1) dX2_wedFirst_0 rfl rfl rfl ?_
  refine XE_getf (v := m0 0 8) (n := 4) xf_X2_37 rfl rfl rfl dX2_wedFirst_1 rfl ?_
  refine XE_iconst (v := 1) (n := 5) dX2_wedFirst_4 rfl (by decide) ?_
  refine XE_icmp_ge (t := 9) (n := 8) dX2_wedFirst_5 rfl rfl (fun h12 => ?_) (fun h12 => ?_)
  · refine XE_aload_n (n := 10) dX2_wedFirst_9 rfl rfl rfl ?_
    refine XE_getr (b := 7) (n := 13) xf_X2_40 rfl rfl dX2_wedFirst_10 rfl ?_
    refine XE_iconst (v := 0) (n := 14) dX2_wedFirst_13 rfl (by decide) ?_
    refine XE_ialdc (row := m0 7) (j := 0) (n := 15) rfl rfl rfl rfl dX2_wedFirst_14 rfl ?_
    refine XE_topi (fun v1 => ?_)
    refine XE_istore_n (i := 2) (n := 16) dX2_wedFirst_15 rfl rfl (Nat.le_of_ble_eq_true rfl) rfl ?_
    refine XE_aload_n (n := 17) dX2_wedFirst_16 rfl rfl rfl ?_
    refine XE_dup (n := 18) dX2_wedFirst_17 rfl rfl ?_
    refine XE_getf (v := m0 0 8) (n := 21) xf_X2_37 rfl rfl rfl dX2_wedFirst_18 rfl ?_
    refine XE_iconst (v := 1) (n := 22) dX2_wedFirst_21 rfl (by decide) ?_
    refine XE_isub (n := 23) dX2_wedFirst_22 rfl ?_
    refine XE_putf (hs2 := fun w2 => [w2]) (n := 26) xf_X2_37 rfl rfl rfl rfl (Nat.le_of_ble_eq_true rfl) (fun _ => rfl) dX2_wedFirst_23 rfl (fun w2 => ?_)
    refine XE_iconst (v := 0) (n := 27) dX2_wedFirst_26 rfl (by decide) ?_
    refine XE_istore_n (i := 3) (n := 28) dX2_wedFirst_27 rfl rfl (Nat.le_of_ble_eq_true rfl) rfl ?_
    refine XE_ls (x_sub_ok (ls' := [(0, some (.ref 0)), (1, some (.int a1)), (2, some (.int v1)), (3, some (.int 0))]) ⟨rfl, rfl, rfl, rfl, trivial⟩) ?_
    refine XE_reg (J := 56) (lsJ := fun t8 => [(0, some (.ref 0)), (1, some (.int a1)), (2, some (.int v1))]) (stJ := fun t8 => []) (hsJ := fun t8 => [t8]) (fun t8 => ?_) (fun hJ11 => f_X2_wedFirst_L28_x B a1 v1 hJ11 6000 (0 : Int32) w2)
    refine XE_aload_n (n := 57) dX2_wedFirst_56 rfl rfl rfl ?_
    refine XE_dup (n := 58) dX2_wedFirst_57 rfl rfl ?_
    refine XE_getf (v := t8 0 4) (n := 61) xf_X2_25 rfl rfl rfl dX2_wedFirst_58 rfl ?_
    refine XE_iconst (v := 1) (n := 62) dX2_wedFirst_61 rfl (by decide) ?_
    refine XE_iload_n (n := 63) dX2_wedFirst_62 rfl rfl rfl ?_
    refine XE_ishl (n := 64) dX2_wedFirst_63 rfl ?_
    refine XE_ior (n := 65) dX2_wedFirst_64 rfl ?_
    refine XE_putf (hs2 := fun w9 => [w9]) (n := 68) xf_X2_25 rfl rfl rfl rfl (Nat.le_of_ble_eq_true rfl) (fun _ => rfl) dX2_wedFirst_65 rfl (fun w9 => ?_)
    refine XE_aload_n (n := 69) dX2_wedFirst_68 rfl rfl rfl ?_
    refine XE_iload_n (n := 70) dX2_wedFirst_69 rfl rfl rfl ?_
    refine XE_iload_n (n := 71) dX2_wedFirst_70 rfl rfl rfl ?_
    refine XE_callVi (ni := 2) (As := [.int v1, .int a1]) (st2 := fun t10 => []) (n := 74) (b := 0) xc_X2_91 (fun l t ht => met_X2_hold l w9 v1 a1 t ht) rfl rfl rfl rfl dX2_wedFirst_71 (Nat.le_of_ble_eq_true rfl) ⟨Nat.zero_le _, Nat.zero_le _⟩ (Nat.le_of_ble_eq_true rfl) (Nat.le_of_ble_eq_true rfl) (fun _ => rfl) rfl (fun t10 => ?_)
    exact XE_vreturn rfl dX2_wedFirst_74 rfl (Nat.le_refl _) (Nat.le_refl _)
  · exact XE_vreturn rfl dX2_wedFirst_8 rfl (Nat.le_refl _) (Nat.le_refl _)
theorem met_X2_wedFirst (l : Launch) (m0 : Mem) (a1 : Int32) (t : Mem) (ht : f_X2_wedFirst m0 a1 = some t) : XMet l yX2_wedFirst cX2_wedFirst 4 none 3 0 0 [.ref 0, .int a1] SH_H [m0] SH_H (none, [t]) := XMet.of (by decide +kernel) (fun _ => Nat.le_of_ble_eq_true rfl) (fun B => xe_X2_wedFirst B m0 a1) (by rw [ht]; rfl)
