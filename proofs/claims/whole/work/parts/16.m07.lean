/-! X7_comesTold: EveryTwentyMinutesModel.comesTold(I)Z in world M at (0,) -/
abbrev M_X7_comesTold : XM := (RX7, cX7_comesTold, 4, (some .boolean), "comesTold", 5, 0, 0)
def f_X7_comesTold (m0 : Mem) (a1 : Int32) : Option (Int32 × Mem) :=
  ck (inb (3 * a1) 147) <|
  lt (m0 14 (ix (3 * a1))) fun v1 =>
  ck (inb a1 49) <|
  if (m0 13 (ix a1)) = 99 then
    ck (inb ((3 * a1) + 1) 147) <|
    ck (inb ((3 * a1) + 2) 147) <|
    (f_X7_coupleComes m0 v1 (m0 14 (ix ((3 * a1) + 1))) (m0 14 (ix ((3 * a1) + 2)))).bind fun t3 =>
    ck (isb t3.1) <|
    some (t3.1, t3.2)
  else
    if (m0 13 (ix a1)) = 102 then
      (f_X7_isCouple m0 v1).bind fun t6 =>
      (if t6 = 0 then
         some ((0 : Int32))
       else
         ck (inb v1 7) <|
         if (m0 4 (ix v1)) = 0 then
           some ((1 : Int32))
         else
           some ((0 : Int32))).bind fun t13 =>
      if t13 = 0 then
        ck (isb t13) <|
        some (t13, m0)
      else
        (f_X7_putFirst m0 v1).bind fun t15 =>
        ck (isb t13) <|
        some (t13, t15)
    else
      if (m0 13 (ix a1)) = 114 then
        (f_X7_in ((v1 : Int32).toInt64) 1 2).bind fun t19 =>
        if t19 = 0 then
          ck (isb t19) <|
          some (t19, m0)
        else
          (f_X7_roomsBecome m0 v1).bind fun t21 =>
          ck (isb t19) <|
          some (t19, t21)
      else
        if (m0 13 (ix a1)) = 115 then
          lt (xs m0 0 13 v1) fun w25 =>
          some ((1 : Int32), w25)
        else
          if (m0 13 (ix a1)) = 119 then
            (f_X7_wedsCome m0 v1).bind fun t27 =>
            ck (isb t27.1) <|
            some (t27.1, t27.2)
          else
            (f_X7_in ((v1 : Int32).toInt64) 1 30).bind fun t29 =>
            if t29 = 0 then
              ck (isb t29) <|
              some (t29, m0)
            else
              (f_X7_restFor m0 v1).bind fun t31 =>
              ck (isb t29) <|
              some (t29, t31)
set_option maxRecDepth 100000 in
theorem xe_X7_comesTold (B : XB) (m0 : Mem) (a1 : Int32) : XE B M_X7_comesTold (XQm B 0 0 SH_M) 0 [(0, some (.ref 0)), (1, some (.int a1))] [] (0, 0) SH_M [m0] (fun t => some (some (.int t.1), [t.2])) (f_X7_comesTold m0 a1) := by
  unfold f_X7_comesTold
  refine XE_aload_n (n := 1) dX7_comesTold_0 rfl rfl rfl ?_
  refine XE_getr (b := 14) (n := 4) xf_X7_49 rfl rfl dX7_comesTold_1 rfl ?_
  refine XE_iconst (v := 3) (n := 5) dX7_comesTold_4 rfl (by decide) ?_
  refine XE_iload_n (n := 6) dX7_comesTold_5 rfl rfl rfl ?_
  refine XE_imul (n := 7) dX7_comesTold_6 rfl ?_
  refine XE_iald (row := m0 14) (n := 8) rfl rfl dX7_comesTold_7 rfl ?_
  refine XE_topi (fun v1 => ?_)
  refine XE_istore_n (i := 2) (n := 9) dX7_comesTold_8 rfl rfl (Nat.le_of_ble_eq_true rfl) rfl ?_
  refine XE_iconst (v := 1) (n := 10) dX7_comesTold_9 rfl (by decide) ?_
  refine XE_istore_n (i := 3) (n := 11) dX7_comesTold_10 rfl rfl (Nat.le_of_ble_eq_true rfl) rfl ?_
  refine XE_aload_n (n := 12) dX7_comesTold_11 rfl rfl rfl ?_
  refine XE_getr (b := 13) (n := 15) xf_X7_46 rfl rfl dX7_comesTold_12 rfl ?_
  refine XE_iload_n (n := 16) dX7_comesTold_15 rfl rfl rfl ?_
  refine XE_iald (row := m0 13) (n := 17) rfl rfl dX7_comesTold_16 rfl ?_
  refine XE_lsw (c := 99) (t := 68) (off := 51) dX7_comesTold_17 (by decide) (by decide) rfl ?_ (fun h2 => ?_)
  · refine XE_aload_n (n := 69) dX7_comesTold_68 rfl rfl rfl ?_
    refine XE_iload_n (n := 70) dX7_comesTold_69 rfl rfl rfl ?_
    refine XE_aload_n (n := 71) dX7_comesTold_70 rfl rfl rfl ?_
    refine XE_getr (b := 14) (n := 74) xf_X7_49 rfl rfl dX7_comesTold_71 rfl ?_
    refine XE_iconst (v := 3) (n := 75) dX7_comesTold_74 rfl (by decide) ?_
    refine XE_iload_n (n := 76) dX7_comesTold_75 rfl rfl rfl ?_
    refine XE_imul (n := 77) dX7_comesTold_76 rfl ?_
    refine XE_iconst (v := 1) (n := 78) dX7_comesTold_77 rfl (by decide) ?_
    refine XE_iadd (n := 79) dX7_comesTold_78 rfl ?_
    refine XE_iald (row := m0 14) (n := 80) rfl rfl dX7_comesTold_79 rfl ?_
    refine XE_aload_n (n := 81) dX7_comesTold_80 rfl rfl rfl ?_
    refine XE_getr (b := 14) (n := 84) xf_X7_49 rfl rfl dX7_comesTold_81 rfl ?_
    refine XE_iconst (v := 3) (n := 85) dX7_comesTold_84 rfl (by decide) ?_
    refine XE_iload_n (n := 86) dX7_comesTold_85 rfl rfl rfl ?_
    refine XE_imul (n := 87) dX7_comesTold_86 rfl ?_
    refine XE_iconst (v := 2) (n := 88) dX7_comesTold_87 rfl (by decide) ?_
    refine XE_iadd (n := 89) dX7_comesTold_88 rfl ?_
    refine XE_iald (row := m0 14) (n := 90) rfl rfl dX7_comesTold_89 rfl ?_
    refine XE_callVi (ni := 3) (As := [.int v1, .int (m0 14 (ix ((3 * a1) + 1))), .int (m0 14 (ix ((3 * a1) + 2)))]) (st2 := fun t3 => [.int t3.1]) (n := 93) (b := 0) xc_X7_170 (fun l t ht => met_X7_coupleComes l m0 v1 (m0 14 (ix ((3 * a1) + 1))) (m0 14 (ix ((3 * a1) + 2))) t ht) rfl rfl rfl rfl dX7_comesTold_90 (Nat.le_of_ble_eq_true rfl) ⟨Nat.zero_le _, Nat.zero_le _⟩ (Nat.le_of_ble_eq_true rfl) (Nat.le_of_ble_eq_true rfl) (fun _ => rfl) rfl (fun t3 => ?_)
    refine XE_ck (fun h4 => ?_)
    exact XE_zreturn h4 rfl dX7_comesTold_93 rfl (Nat.le_refl _) (Nat.le_refl _)
  refine XE_lsw (c := 102) (t := 122) (off := 105) dX7_comesTold_17 (by decide) (by decide) rfl ?_ (fun h5 => ?_)
  · refine XE_aload_n (n := 123) dX7_comesTold_122 rfl rfl rfl ?_
    refine XE_iload_n (n := 124) dX7_comesTold_123 rfl rfl rfl ?_
    refine XE_callVi (ni := 1) (As := [.int v1]) (st2 := fun t6 => [.int t6]) (n := 127) (b := 0) xc_X7_177 (fun l t ht => met_X7_isCouple l m0 v1 t ht) rfl rfl rfl rfl dX7_comesTold_124 (Nat.le_of_ble_eq_true rfl) ⟨Nat.zero_le _, Nat.zero_le _⟩ (Nat.le_of_ble_eq_true rfl) (Nat.le_of_ble_eq_true rfl) (fun _ => rfl) rfl (fun t6 => ?_)
    refine XE_reg (J := 144) (lsJ := fun t13 => [(0, some (.ref 0)), (2, some (.int v1))]) (stJ := fun t13 => [.int t13]) (hsJ := fun t13 => [m0]) (fun t13 => ?_) (fun hJ10 => ?_)
    · refine XE_istore_n (i := 3) (n := 145) dX7_comesTold_144 rfl rfl (Nat.le_of_ble_eq_true rfl) rfl ?_
      refine XE_iload_n (n := 146) dX7_comesTold_145 rfl rfl rfl ?_
      refine XE_if_eq (t := 154) (n := 149) dX7_comesTold_146 rfl rfl (fun h17 => ?_) (fun h17 => ?_)
      · refine XE_iload_n (n := 155) dX7_comesTold_154 rfl rfl rfl ?_
        refine XE_ck (fun h14 => ?_)
        exact XE_zreturn h14 rfl dX7_comesTold_155 rfl (Nat.le_refl _) (Nat.le_refl _)
      · refine XE_aload_n (n := 150) dX7_comesTold_149 rfl rfl rfl ?_
        refine XE_iload_n (n := 151) dX7_comesTold_150 rfl rfl rfl ?_
        refine XE_callVi (ni := 1) (As := [.int v1]) (st2 := fun t15 => []) (n := 154) (b := 0) xc_X7_180 (fun l t ht => met_X7_putFirst l m0 v1 t ht) rfl rfl rfl rfl dX7_comesTold_151 (Nat.le_of_ble_eq_true rfl) ⟨Nat.zero_le _, Nat.zero_le _⟩ (Nat.le_of_ble_eq_true rfl) (Nat.le_of_ble_eq_true rfl) (fun _ => rfl) rfl (fun t15 => ?_)
        refine XE_iload_n (n := 155) dX7_comesTold_154 rfl rfl rfl ?_
        refine XE_ck (fun h16 => ?_)
        exact XE_zreturn h16 rfl dX7_comesTold_155 rfl (Nat.le_refl _) (Nat.le_refl _)
    · refine XE_if_eq (t := 143) (n := 130) dX7_comesTold_127 rfl rfl (fun h12 => ?_) (fun h12 => ?_)
      · refine XE_iconst (v := 0) (n := 144) dX7_comesTold_143 rfl (by decide) ?_
        refine XE_ls (x_sub_ok (ls' := [(0, some (.ref 0)), (2, some (.int v1))]) ⟨rfl, rfl, trivial⟩) ?_
        exact hJ10 ((0 : Int32))
      · refine XE_aload_n (n := 131) dX7_comesTold_130 rfl rfl rfl ?_
        refine XE_getr (b := 4) (n := 134) xf_X7_19 rfl rfl dX7_comesTold_131 rfl ?_
        refine XE_iload_n (n := 135) dX7_comesTold_134 rfl rfl rfl ?_
        refine XE_iald (row := m0 4) (n := 136) rfl rfl dX7_comesTold_135 rfl ?_
        refine XE_if_ne (t := 143) (n := 139) dX7_comesTold_136 rfl rfl (fun h11 => ?_) (fun h11 => ?_)
        · refine XE_iconst (v := 1) (n := 140) dX7_comesTold_139 rfl (by decide) ?_
          refine XE_goto (n := 144) dX7_comesTold_140 rfl ?_
          refine XE_ls (x_sub_ok (ls' := [(0, some (.ref 0)), (2, some (.int v1))]) ⟨rfl, rfl, trivial⟩) ?_
          exact hJ10 ((1 : Int32))
        · refine XE_iconst (v := 0) (n := 144) dX7_comesTold_143 rfl (by decide) ?_
          refine XE_ls (x_sub_ok (ls' := [(0, some (.ref 0)), (2, some (.int v1))]) ⟨rfl, rfl, trivial⟩) ?_
          exact hJ10 ((0 : Int32))
  refine XE_lsw (c := 114) (t := 101) (off := 84) dX7_comesTold_17 (by decide) (by decide) rfl ?_ (fun h18 => ?_)
  · refine XE_iload_n (n := 102) dX7_comesTold_101 rfl rfl rfl ?_
    refine XE_i2l (n := 103) dX7_comesTold_102 rfl ?_
    refine XE_lconst (v := 1) (n := 104) dX7_comesTold_103 rfl (by decide) ?_
    refine XE_ldc2 (n := 107) dX7_comesTold_104 rfl xk_X7_126 ?_
    refine XE_callS (ni := 3) (As := [.long ((v1 : Int32).toInt64), .long 1, .long 2]) (π := []) (co := [0]) (cv := [m0]) (nn := 1) (hs2 := fun t19 => [m0]) (st2 := fun t19 => [.int t19]) (n := 110) xc_X7_86 (fun l t ht => met_X7_in l ((v1 : Int32).toInt64) 1 2 t ht) rfl rfl rfl dX7_comesTold_107 (Nat.le_of_ble_eq_true rfl) ⟨Nat.zero_le _, Nat.zero_le _⟩ (Nat.le_of_ble_eq_true rfl) (Nat.le_of_ble_eq_true rfl) ok_40 rfl rfl rfl (fun _ => rfl) (fun _ => rfl) (fun _ => rfl) rfl (fun _ => rfl) rfl (fun t19 => ?_)
    refine XE_istore_n (i := 3) (n := 111) dX7_comesTold_110 rfl rfl (Nat.le_of_ble_eq_true rfl) rfl ?_
    refine XE_iload_n (n := 112) dX7_comesTold_111 rfl rfl rfl ?_
    refine XE_if_eq (t := 120) (n := 115) dX7_comesTold_112 rfl rfl (fun h23 => ?_) (fun h23 => ?_)
    · refine XE_iload_n (n := 121) dX7_comesTold_120 rfl rfl rfl ?_
      refine XE_ck (fun h20 => ?_)
      exact XE_zreturn h20 rfl dX7_comesTold_121 rfl (Nat.le_refl _) (Nat.le_refl _)
    · refine XE_aload_n (n := 116) dX7_comesTold_115 rfl rfl rfl ?_
      refine XE_iload_n (n := 117) dX7_comesTold_116 rfl rfl rfl ?_
      refine XE_callVi (ni := 1) (As := [.int v1]) (st2 := fun t21 => []) (n := 120) (b := 0) xc_X7_174 (fun l t ht => met_X7_roomsBecome l m0 v1 t ht) rfl rfl rfl rfl dX7_comesTold_117 (Nat.le_of_ble_eq_true rfl) ⟨Nat.zero_le _, Nat.zero_le _⟩ (Nat.le_of_ble_eq_true rfl) (Nat.le_of_ble_eq_true rfl) (fun _ => rfl) rfl (fun t21 => ?_)
      refine XE_iload_n (n := 121) dX7_comesTold_120 rfl rfl rfl ?_
      refine XE_ck (fun h22 => ?_)
      exact XE_zreturn h22 rfl dX7_comesTold_121 rfl (Nat.le_refl _) (Nat.le_refl _)
  refine XE_lsw (c := 115) (t := 94) (off := 77) dX7_comesTold_17 (by decide) (by decide) rfl ?_ (fun h24 => ?_)
  · refine XE_aload_n (n := 95) dX7_comesTold_94 rfl rfl rfl ?_
    refine XE_iload_n (n := 96) dX7_comesTold_95 rfl rfl rfl ?_
    refine XE_putf (hs2 := fun w25 => [w25]) (n := 99) xf_X7_114 rfl rfl rfl rfl (Nat.le_of_ble_eq_true rfl) (fun _ => rfl) dX7_comesTold_96 rfl (fun w25 => ?_)
    refine XE_iconst (v := 1) (n := 100) dX7_comesTold_99 rfl (by decide) ?_
    exact XE_zreturn rfl rfl dX7_comesTold_100 rfl (Nat.le_refl _) (Nat.le_refl _)
  refine XE_lsw (c := 119) (t := 156) (off := 139) dX7_comesTold_17 (by decide) (by decide) rfl ?_ (fun h26 => ?_)
  · refine XE_aload_n (n := 157) dX7_comesTold_156 rfl rfl rfl ?_
    refine XE_iload_n (n := 158) dX7_comesTold_157 rfl rfl rfl ?_
    refine XE_callVi (ni := 1) (As := [.int v1]) (st2 := fun t27 => [.int t27.1]) (n := 161) (b := 0) xc_X7_183 (fun l t ht => met_X7_wedsCome l m0 v1 t ht) rfl rfl rfl rfl dX7_comesTold_158 (Nat.le_of_ble_eq_true rfl) ⟨Nat.zero_le _, Nat.zero_le _⟩ (Nat.le_of_ble_eq_true rfl) (Nat.le_of_ble_eq_true rfl) (fun _ => rfl) rfl (fun t27 => ?_)
    refine XE_ck (fun h28 => ?_)
    exact XE_zreturn h28 rfl dX7_comesTold_161 rfl (Nat.le_refl _) (Nat.le_refl _)
  refine XE_lswd (t := 162) (off := 145) dX7_comesTold_17 (by decide) ((lv_osw h2 rfl).trans ((lv_osw h5 rfl).trans ((lv_osw h18 rfl).trans ((lv_osw h24 rfl).trans ((lv_osw h26 rfl).trans (rfl)))))) rfl ?_
  refine XE_iload_n (n := 163) dX7_comesTold_162 rfl rfl rfl ?_
  refine XE_i2l (n := 164) dX7_comesTold_163 rfl ?_
  refine XE_lconst (v := 1) (n := 165) dX7_comesTold_164 rfl (by decide) ?_
  refine XE_ldc2 (n := 168) dX7_comesTold_165 rfl xk_X7_186 ?_
  refine XE_callS (ni := 3) (As := [.long ((v1 : Int32).toInt64), .long 1, .long 30]) (π := []) (co := [0]) (cv := [m0]) (nn := 1) (hs2 := fun t29 => [m0]) (st2 := fun t29 => [.int t29]) (n := 171) xc_X7_86 (fun l t ht => met_X7_in l ((v1 : Int32).toInt64) 1 30 t ht) rfl rfl rfl dX7_comesTold_168 (Nat.le_of_ble_eq_true rfl) ⟨Nat.zero_le _, Nat.zero_le _⟩ (Nat.le_of_ble_eq_true rfl) (Nat.le_of_ble_eq_true rfl) ok_40 rfl rfl rfl (fun _ => rfl) (fun _ => rfl) (fun _ => rfl) rfl (fun _ => rfl) rfl (fun t29 => ?_)
  refine XE_istore_n (i := 3) (n := 172) dX7_comesTold_171 rfl rfl (Nat.le_of_ble_eq_true rfl) rfl ?_
  refine XE_iload_n (n := 173) dX7_comesTold_172 rfl rfl rfl ?_
  refine XE_if_eq (t := 181) (n := 176) dX7_comesTold_173 rfl rfl (fun h33 => ?_) (fun h33 => ?_)
  · refine XE_iload_n (n := 182) dX7_comesTold_181 rfl rfl rfl ?_
    refine XE_ck (fun h30 => ?_)
    exact XE_zreturn h30 rfl dX7_comesTold_182 rfl (Nat.le_refl _) (Nat.le_refl _)
  · refine XE_aload_n (n := 177) dX7_comesTold_176 rfl rfl rfl ?_
    refine XE_iload_n (n := 178) dX7_comesTold_177 rfl rfl rfl ?_
    refine XE_callVi (ni := 1) (As := [.int v1]) (st2 := fun t31 => []) (n := 181) (b := 0) xc_X7_188 (fun l t ht => met_X7_restFor l m0 v1 t ht) rfl rfl rfl rfl dX7_comesTold_178 (Nat.le_of_ble_eq_true rfl) ⟨Nat.zero_le _, Nat.zero_le _⟩ (Nat.le_of_ble_eq_true rfl) (Nat.le_of_ble_eq_true rfl) (fun _ => rfl) rfl (fun t31 => ?_)
    refine XE_iload_n (n := 182) dX7_comesTold_181 rfl rfl rfl ?_
    refine XE_ck (fun h32 => ?_)
    exact XE_zreturn h32 rfl dX7_comesTold_182 rfl (Nat.le_refl _) (Nat.le_refl _)
theorem met_X7_comesTold (l : Launch) (m0 : Mem) (a1 : Int32) (t : Int32 × Mem) (ht : f_X7_comesTold m0 a1 = some t) : XMet l yX7_comesTold cX7_comesTold 4 (some .boolean) 5 0 0 [.ref 0, .int a1] SH_M [m0] SH_M (some (.int t.1), [t.2]) := XMet.of (by decide +kernel) (fun _ => Nat.le_of_ble_eq_true rfl) (fun B => xe_X7_comesTold B m0 a1) (by rw [ht]; rfl)
/-! X7_carry: EveryTwentyMinutesModel.carry(I)I in world M at (0,) -/
abbrev M_X7_carry : XM := (RX7, cX7_carry, 2, (some .int), "carry", 1, 0, 0)
def f_X7_carry (m0 : Mem) (a1 : Int32) : Option (Int32 × Mem) :=
  (if (m0 0 28) = 0 then
     some (m0)
   else
     if m0 0 29 = 15 then
       ck (inb (m0 0 27) 63) <|
       lt (xs m0 15 (ix (m0 0 27)) a1) fun w7 =>
       some (w7)
     else
       if m0 0 29 = 16 then
         ck (inb (m0 0 27) 63) <|
         lt (xs m0 16 (ix (m0 0 27)) a1) fun w8 =>
         some (w8)
       else
         if m0 0 29 = 18 then
           ck (inb (m0 0 27) 63) <|
           lt (xs m0 18 (ix (m0 0 27)) a1) fun w9 =>
           some (w9)
         else
           none).bind fun t11 =>
  lt (xs t11 0 27 ((t11 0 27) + 1)) fun w12 =>
  if w12 0 29 = 15 then
    ck (inb ((w12 0 27) - 1) 63) <|
    some ((w12 15 (ix ((w12 0 27) - 1))), w12)
  else
    if w12 0 29 = 16 then
      ck (inb ((w12 0 27) - 1) 63) <|
      some ((w12 16 (ix ((w12 0 27) - 1))), w12)
    else
      if w12 0 29 = 18 then
        ck (inb ((w12 0 27) - 1) 63) <|
        some ((w12 18 (ix ((w12 0 27) - 1))), w12)
      else
        none
set_option maxRecDepth 100000 in
theorem xe_X7_carry (B : XB) (m0 : Mem) (a1 : Int32) : XE B M_X7_carry (XQm B 0 0 SH_M) 0 [(0, some (.ref 0)), (1, some (.int a1))] [] (0, 0) SH_M [m0] (fun t => some (some (.int t.1), [t.2])) (f_X7_carry m0 a1) := by
  unfold f_X7_carry
  refine XE_aload_n (n := 1) dX7_carry_0 rfl rfl rfl ?_
  refine XE_getf (v := m0 0 28) (n := 4) xf_X7_206 rfl rfl rfl dX7_carry_1 rfl ?_
  refine XE_reg (J := 17) (lsJ := fun t11 => [(0, some (.ref 0))]) (stJ := fun t11 => []) (hsJ := fun t11 => [t11]) (fun t11 => ?_) (fun hJ6 => ?_)
  · refine XE_aload_n (n := 18) dX7_carry_17 rfl rfl rfl ?_
    refine XE_dup (n := 19) dX7_carry_18 rfl rfl ?_
    refine XE_getf (v := t11 0 27) (n := 22) xf_X7_212 rfl rfl rfl dX7_carry_19 rfl ?_
    refine XE_iconst (v := 1) (n := 23) dX7_carry_22 rfl (by decide) ?_
    refine XE_iadd (n := 24) dX7_carry_23 rfl ?_
    refine XE_putf (hs2 := fun w12 => [w12]) (n := 27) xf_X7_212 rfl rfl rfl rfl (Nat.le_of_ble_eq_true rfl) (fun _ => rfl) dX7_carry_24 rfl (fun w12 => ?_)
    refine XE_aload_n (n := 28) dX7_carry_27 rfl rfl rfl ?_
    refine XE_getd (v := w12 0 29) (u := 15) (b := 15) (n := 31) xf_X7_209 rfl rfl rfl (by decide) (by decide) dX7_carry_28 rfl ?_ ?_
    · refine XE_aload_n (n := 32) dX7_carry_31 rfl rfl rfl ?_
      refine XE_getf (v := w12 0 27) (n := 35) xf_X7_212 rfl rfl rfl dX7_carry_32 rfl ?_
      refine XE_iconst (v := 1) (n := 36) dX7_carry_35 rfl (by decide) ?_
      refine XE_isub (n := 37) dX7_carry_36 rfl ?_
      refine XE_iald (row := w12 15) (n := 38) rfl rfl dX7_carry_37 rfl ?_
      exact XE_ireturn rfl dX7_carry_38 rfl (Nat.le_refl _) (Nat.le_refl _)
    refine XE_getd (v := w12 0 29) (u := 16) (b := 16) (n := 31) xf_X7_209 rfl rfl rfl (by decide) (by decide) dX7_carry_28 rfl ?_ ?_
    · refine XE_aload_n (n := 32) dX7_carry_31 rfl rfl rfl ?_
      refine XE_getf (v := w12 0 27) (n := 35) xf_X7_212 rfl rfl rfl dX7_carry_32 rfl ?_
      refine XE_iconst (v := 1) (n := 36) dX7_carry_35 rfl (by decide) ?_
      refine XE_isub (n := 37) dX7_carry_36 rfl ?_
      refine XE_iald (row := w12 16) (n := 38) rfl rfl dX7_carry_37 rfl ?_
      exact XE_ireturn rfl dX7_carry_38 rfl (Nat.le_refl _) (Nat.le_refl _)
    refine XE_getd (v := w12 0 29) (u := 18) (b := 18) (n := 31) xf_X7_209 rfl rfl rfl (by decide) (by decide) dX7_carry_28 rfl ?_ ?_
    · refine XE_aload_n (n := 32) dX7_carry_31 rfl rfl rfl ?_
      refine XE_getf (v := w12 0 27) (n := 35) xf_X7_212 rfl rfl rfl dX7_carry_32 rfl ?_
      refine XE_iconst (v := 1) (n := 36) dX7_carry_35 rfl (by decide) ?_
      refine XE_isub (n := 37) dX7_carry_36 rfl ?_
      refine XE_iald (row := w12 18) (n := 38) rfl rfl dX7_carry_37 rfl ?_
      exact XE_ireturn rfl dX7_carry_38 rfl (Nat.le_refl _) (Nat.le_refl _)
    exact XE_none
  · refine XE_if_eq (t := 17) (n := 7) dX7_carry_4 rfl rfl (fun h10 => ?_) (fun h10 => ?_)
    · refine XE_ls (x_sub_ok (ls' := [(0, some (.ref 0))]) ⟨rfl, trivial⟩) ?_
      exact hJ6 (m0)
    · refine XE_aload_n (n := 8) dX7_carry_7 rfl rfl rfl ?_
      refine XE_getd (v := m0 0 29) (u := 15) (b := 15) (n := 11) xf_X7_209 rfl rfl rfl (by decide) (by decide) dX7_carry_8 rfl ?_ ?_
      · refine XE_aload_n (n := 12) dX7_carry_11 rfl rfl rfl ?_
        refine XE_getf (v := m0 0 27) (n := 15) xf_X7_212 rfl rfl rfl dX7_carry_12 rfl ?_
        refine XE_iload_n (n := 16) dX7_carry_15 rfl rfl rfl ?_
        refine XE_iast (hs2 := fun w7 => [w7]) (n := 17) rfl rfl rfl (Nat.le_of_ble_eq_true rfl) (fun _ => rfl) dX7_carry_16 rfl (fun w7 => ?_)
        refine XE_ls (x_sub_ok (ls' := [(0, some (.ref 0))]) ⟨rfl, trivial⟩) ?_
        exact hJ6 (w7)
      refine XE_getd (v := m0 0 29) (u := 16) (b := 16) (n := 11) xf_X7_209 rfl rfl rfl (by decide) (by decide) dX7_carry_8 rfl ?_ ?_
      · refine XE_aload_n (n := 12) dX7_carry_11 rfl rfl rfl ?_
        refine XE_getf (v := m0 0 27) (n := 15) xf_X7_212 rfl rfl rfl dX7_carry_12 rfl ?_
        refine XE_iload_n (n := 16) dX7_carry_15 rfl rfl rfl ?_
        refine XE_iast (hs2 := fun w8 => [w8]) (n := 17) rfl rfl rfl (Nat.le_of_ble_eq_true rfl) (fun _ => rfl) dX7_carry_16 rfl (fun w8 => ?_)
        refine XE_ls (x_sub_ok (ls' := [(0, some (.ref 0))]) ⟨rfl, trivial⟩) ?_
        exact hJ6 (w8)
      refine XE_getd (v := m0 0 29) (u := 18) (b := 18) (n := 11) xf_X7_209 rfl rfl rfl (by decide) (by decide) dX7_carry_8 rfl ?_ ?_
      · refine XE_aload_n (n := 12) dX7_carry_11 rfl rfl rfl ?_
        refine XE_getf (v := m0 0 27) (n := 15) xf_X7_212 rfl rfl rfl dX7_carry_12 rfl ?_
        refine XE_iload_n (n := 16) dX7_carry_15 rfl rfl rfl ?_
        refine XE_iast (hs2 := fun w9 => [w9]) (n := 17) rfl rfl rfl (Nat.le_of_ble_eq_true rfl) (fun _ => rfl) dX7_carry_16 rfl (fun w9 => ?_)
        refine XE_ls (x_sub_ok (ls' := [(0, some (.ref 0))]) ⟨rfl, trivial⟩) ?_
        exact hJ6 (w9)
      exact XE_none
theorem met_X7_carry (l : Launch) (m0 : Mem) (a1 : Int32) (t : Int32 × Mem) (ht : f_X7_carry m0 a1 = some t) : XMet l yX7_carry cX7_carry 2 (some .int) 1 0 0 [.ref 0, .int a1] SH_M [m0] SH_M (some (.int t.1), [t.2]) := XMet.of (by decide +kernel) (fun _ => Nat.le_of_ble_eq_true rfl) (fun B => xe_X7_carry B m0 a1) (by rw [ht]; rfl)
/-! X7_carryAll: EveryTwentyMinutesModel.carryAll([IZ)V in world M at (0, 15) -/
abbrev M_X7_carryAll : XM := (RX7, cX7_carryAll, 4, none, "carryAll", 2, 0, 0)
def f_X7_carryAll_L109 : Nat → Int32 → Mem → Option (Mem)
  | 0, _, _ => none
  | n + 1, v19, w20 =>
    if 7 ≤ v19 then
      some (w20)
    else
      ck (inb v19 7) <|
      (f_X7_carry w20 (w20 1 (ix v19))).bind fun t21 =>
      ck (inb v19 7) <|
      lt (xs t21.2 1 (ix v19) t21.1) fun w22 =>
      ck (inb v19 7) <|
      (f_X7_carry w22 (w22 2 (ix v19))).bind fun t23 =>
      ck (inb v19 7) <|
      lt (xs t23.2 2 (ix v19) t23.1) fun w24 =>
      ck (inb v19 7) <|
      (f_X7_carry w24 (w24 3 (ix v19))).bind fun t25 =>
      ck (inb v19 7) <|
      lt (xs t25.2 3 (ix v19) t25.1) fun w26 =>
      ck (inb v19 7) <|
      (f_X7_carry w26 (w26 4 (ix v19))).bind fun t27 =>
      ck (inb v19 7) <|
      lt (xs t27.2 4 (ix v19) t27.1) fun w28 =>
      ck (inb v19 7) <|
      (f_X7_carry w28 (w28 5 (ix v19))).bind fun t29 =>
      ck (inb v19 7) <|
      lt (xs t29.2 5 (ix v19) t29.1) fun w30 =>
      ck (inb v19 7) <|
      (f_X7_carry w30 (w30 6 (ix v19))).bind fun t31 =>
      ck (inb v19 7) <|
      lt (xs t31.2 6 (ix v19) t31.1) fun w32 =>
      ck (inb v19 7) <|
      (f_X7_carry w32 (w32 7 (ix v19))).bind fun t33 =>
      ck (inb v19 7) <|
      lt (xs t33.2 7 (ix v19) t33.1) fun w34 =>
      ck (inb v19 7) <|
      (f_X7_carry w34 (w34 8 (ix v19))).bind fun t35 =>
      ck (inb v19 7) <|
      lt (xs t35.2 8 (ix v19) t35.1) fun w36 =>
      lt (v19 + 1) fun v37 =>
      (f_X7_carryAll_L109 n) v37 w36
def f_X7_carryAll (m0 : Mem) (a2 : Int32) : Option (Mem) :=
  lt (xs m0 0 29 15) fun w1 =>
  ck (isb a2) <|
  lt (xs w1 0 28 a2) fun w2 =>
  lt (xs w2 0 27 0) fun w4 =>
  (f_X7_carry w4 (w4 0 0)).bind fun t5 =>
  lt (xs t5.2 0 0 t5.1) fun w6 =>
  (f_X7_carry w6 (w6 0 9)).bind fun t7 =>
  lt (xs t7.2 0 9 t7.1) fun w8 =>
  (f_X7_carry w8 (w8 0 10)).bind fun t9 =>
  lt (xs t9.2 0 10 t9.1) fun w10 =>
  (f_X7_carry w10 (w10 0 12)).bind fun t11 =>
  lt (xs t11.2 0 12 t11.1) fun w12 =>
  (f_X7_carry w12 (w12 0 13)).bind fun t13 =>
  lt (xs t13.2 0 13 t13.1) fun w14 =>
  (f_X7_carry w14 (w14 9 0)).bind fun t15 =>
  lt (xs t15.2 9 0 t15.1) fun w16 =>
  (f_X7_carry w16 (w16 9 1)).bind fun t17 =>
  lt (xs t17.2 9 1 t17.1) fun w18 =>
  (f_X7_carryAll_L109 6000 (0 : Int32) w18).bind fun t39 =>
  some t39
set_option maxRecDepth 100000 in
theorem f_X7_carryAll_L109_x {α R : Type} (B : XB) {Q : R → State → Prop} {k : α → Option R} {r : (Mem) → Option α} (hE : ∀ t0 : (Mem), XE B M_X7_carryAll Q 249 [] [] (0, 0) SH_M [t0] (fun t => (r t).bind k) (some t0)) : ∀ (n : Nat) (v19 : Int32) (w20 : Mem), XE B M_X7_carryAll Q 109 [(0, some (.ref 0)), (3, some (.int v19))] [] (0, 0) SH_M [w20] (fun t => (r t).bind k) (f_X7_carryAll_L109 n v19 w20) := by
  intro n
  induction n with
  | zero => intros; exact XE_none
  | succ n ih =>
    intro v19 w20
    rw [f_X7_carryAll_L109]
    refine XE_iload_n (n := 110) dX7_carryAll_109 rfl rfl rfl ?_
    refine XE_bipush (v := 7) (n := 112) dX7_carryAll_110 rfl (by decide) ?_
    refine XE_icmp_ge (t := 249) (n := 115) dX7_carryAll_112 rfl rfl (fun h38 => ?_) (fun h38 => ?_)
    · refine XE_ls (x_sub_ok (ls' := []) trivial) ?_
      exact hE (w20)
    · refine XE_aload_n (n := 116) dX7_carryAll_115 rfl rfl rfl ?_
      refine XE_getr (b := 1) (n := 119) xf_X7_7 rfl rfl dX7_carryAll_116 rfl ?_
      refine XE_iload_n (n := 120) dX7_carryAll_119 rfl rfl rfl ?_
      refine XE_aload_n (n := 121) dX7_carryAll_120 rfl rfl rfl ?_
      refine XE_aload_n (n := 122) dX7_carryAll_121 rfl rfl rfl ?_
      refine XE_getr (b := 1) (n := 125) xf_X7_7 rfl rfl dX7_carryAll_122 rfl ?_
      refine XE_iload_n (n := 126) dX7_carryAll_125 rfl rfl rfl ?_
      refine XE_iald (row := w20 1) (n := 127) rfl rfl dX7_carryAll_126 rfl ?_
      refine XE_callVi (ni := 1) (As := [.int (w20 1 (ix v19))]) (st2 := fun t21 => [.int t21.1, .int v19, .ref 1]) (n := 130) (b := 0) xc_X7_215 (fun l t ht => met_X7_carry l w20 (w20 1 (ix v19)) t ht) rfl rfl rfl rfl dX7_carryAll_127 (Nat.le_of_ble_eq_true rfl) ⟨Nat.zero_le _, Nat.zero_le _⟩ (Nat.le_of_ble_eq_true rfl) (Nat.le_of_ble_eq_true rfl) (fun _ => rfl) rfl (fun t21 => ?_)
      refine XE_iast (hs2 := fun w22 => [w22]) (n := 131) rfl rfl rfl (Nat.le_of_ble_eq_true rfl) (fun _ => rfl) dX7_carryAll_130 rfl (fun w22 => ?_)
      refine XE_aload_n (n := 132) dX7_carryAll_131 rfl rfl rfl ?_
      refine XE_getr (b := 2) (n := 135) xf_X7_13 rfl rfl dX7_carryAll_132 rfl ?_
      refine XE_iload_n (n := 136) dX7_carryAll_135 rfl rfl rfl ?_
      refine XE_aload_n (n := 137) dX7_carryAll_136 rfl rfl rfl ?_
      refine XE_aload_n (n := 138) dX7_carryAll_137 rfl rfl rfl ?_
      refine XE_getr (b := 2) (n := 141) xf_X7_13 rfl rfl dX7_carryAll_138 rfl ?_
      refine XE_iload_n (n := 142) dX7_carryAll_141 rfl rfl rfl ?_
      refine XE_iald (row := w22 2) (n := 143) rfl rfl dX7_carryAll_142 rfl ?_
      refine XE_callVi (ni := 1) (As := [.int (w22 2 (ix v19))]) (st2 := fun t23 => [.int t23.1, .int v19, .ref 2]) (n := 146) (b := 0) xc_X7_215 (fun l t ht => met_X7_carry l w22 (w22 2 (ix v19)) t ht) rfl rfl rfl rfl dX7_carryAll_143 (Nat.le_of_ble_eq_true rfl) ⟨Nat.zero_le _, Nat.zero_le _⟩ (Nat.le_of_ble_eq_true rfl) (Nat.le_of_ble_eq_true rfl) (fun _ => rfl) rfl (fun t23 => ?_)
      refine XE_iast (hs2 := fun w24 => [w24]) (n := 147) rfl rfl rfl (Nat.le_of_ble_eq_true rfl) (fun _ => rfl) dX7_carryAll_146 rfl (fun w24 => ?_)
      refine XE_aload_n (n := 148) dX7_carryAll_147 rfl rfl rfl ?_
      refine XE_getr (b := 3) (n := 151) xf_X7_16 rfl rfl dX7_carryAll_148 rfl ?_
      refine XE_iload_n (n := 152) dX7_carryAll_151 rfl rfl rfl ?_
      refine XE_aload_n (n := 153) dX7_carryAll_152 rfl rfl rfl ?_
      refine XE_aload_n (n := 154) dX7_carryAll_153 rfl rfl rfl ?_
      refine XE_getr (b := 3) (n := 157) xf_X7_16 rfl rfl dX7_carryAll_154 rfl ?_
      refine XE_iload_n (n := 158) dX7_carryAll_157 rfl rfl rfl ?_
      refine XE_iald (row := w24 3) (n := 159) rfl rfl dX7_carryAll_158 rfl ?_
      refine XE_callVi (ni := 1) (As := [.int (w24 3 (ix v19))]) (st2 := fun t25 => [.int t25.1, .int v19, .ref 3]) (n := 162) (b := 0) xc_X7_215 (fun l t ht => met_X7_carry l w24 (w24 3 (ix v19)) t ht) rfl rfl rfl rfl dX7_carryAll_159 (Nat.le_of_ble_eq_true rfl) ⟨Nat.zero_le _, Nat.zero_le _⟩ (Nat.le_of_ble_eq_true rfl) (Nat.le_of_ble_eq_true rfl) (fun _ => rfl) rfl (fun t25 => ?_)
      refine XE_iast (hs2 := fun w26 => [w26]) (n := 163) rfl rfl rfl (Nat.le_of_ble_eq_true rfl) (fun _ => rfl) dX7_carryAll_162 rfl (fun w26 => ?_)
      refine XE_aload_n (n := 164) dX7_carryAll_163 rfl rfl rfl ?_
      refine XE_getr (b := 4) (n := 167) xf_X7_19 rfl rfl dX7_carryAll_164 rfl ?_
      refine XE_iload_n (n := 168) dX7_carryAll_167 rfl rfl rfl ?_
      refine XE_aload_n (n := 169) dX7_carryAll_168 rfl rfl rfl ?_
      refine XE_aload_n (n := 170) dX7_carryAll_169 rfl rfl rfl ?_
      refine XE_getr (b := 4) (n := 173) xf_X7_19 rfl rfl dX7_carryAll_170 rfl ?_
      refine XE_iload_n (n := 174) dX7_carryAll_173 rfl rfl rfl ?_
      refine XE_iald (row := w26 4) (n := 175) rfl rfl dX7_carryAll_174 rfl ?_
      refine XE_callVi (ni := 1) (As := [.int (w26 4 (ix v19))]) (st2 := fun t27 => [.int t27.1, .int v19, .ref 4]) (n := 178) (b := 0) xc_X7_215 (fun l t ht => met_X7_carry l w26 (w26 4 (ix v19)) t ht) rfl rfl rfl rfl dX7_carryAll_175 (Nat.le_of_ble_eq_true rfl) ⟨Nat.zero_le _, Nat.zero_le _⟩ (Nat.le_of_ble_eq_true rfl) (Nat.le_of_ble_eq_true rfl) (fun _ => rfl) rfl (fun t27 => ?_)
      refine XE_iast (hs2 := fun w28 => [w28]) (n := 179) rfl rfl rfl (Nat.le_of_ble_eq_true rfl) (fun _ => rfl) dX7_carryAll_178 rfl (fun w28 => ?_)
      refine XE_aload_n (n := 180) dX7_carryAll_179 rfl rfl rfl ?_
      refine XE_getr (b := 5) (n := 183) xf_X7_22 rfl rfl dX7_carryAll_180 rfl ?_
      refine XE_iload_n (n := 184) dX7_carryAll_183 rfl rfl rfl ?_
      refine XE_aload_n (n := 185) dX7_carryAll_184 rfl rfl rfl ?_
      refine XE_aload_n (n := 186) dX7_carryAll_185 rfl rfl rfl ?_
      refine XE_getr (b := 5) (n := 189) xf_X7_22 rfl rfl dX7_carryAll_186 rfl ?_
      refine XE_iload_n (n := 190) dX7_carryAll_189 rfl rfl rfl ?_
      refine XE_iald (row := w28 5) (n := 191) rfl rfl dX7_carryAll_190 rfl ?_
      refine XE_callVi (ni := 1) (As := [.int (w28 5 (ix v19))]) (st2 := fun t29 => [.int t29.1, .int v19, .ref 5]) (n := 194) (b := 0) xc_X7_215 (fun l t ht => met_X7_carry l w28 (w28 5 (ix v19)) t ht) rfl rfl rfl rfl dX7_carryAll_191 (Nat.le_of_ble_eq_true rfl) ⟨Nat.zero_le _, Nat.zero_le _⟩ (Nat.le_of_ble_eq_true rfl) (Nat.le_of_ble_eq_true rfl) (fun _ => rfl) rfl (fun t29 => ?_)
      refine XE_iast (hs2 := fun w30 => [w30]) (n := 195) rfl rfl rfl (Nat.le_of_ble_eq_true rfl) (fun _ => rfl) dX7_carryAll_194 rfl (fun w30 => ?_)
      refine XE_aload_n (n := 196) dX7_carryAll_195 rfl rfl rfl ?_
      refine XE_getr (b := 6) (n := 199) xf_X7_25 rfl rfl dX7_carryAll_196 rfl ?_
      refine XE_iload_n (n := 200) dX7_carryAll_199 rfl rfl rfl ?_
      refine XE_aload_n (n := 201) dX7_carryAll_200 rfl rfl rfl ?_
      refine XE_aload_n (n := 202) dX7_carryAll_201 rfl rfl rfl ?_
      refine XE_getr (b := 6) (n := 205) xf_X7_25 rfl rfl dX7_carryAll_202 rfl ?_
      refine XE_iload_n (n := 206) dX7_carryAll_205 rfl rfl rfl ?_
      refine XE_iald (row := w30 6) (n := 207) rfl rfl dX7_carryAll_206 rfl ?_
      refine XE_callVi (ni := 1) (As := [.int (w30 6 (ix v19))]) (st2 := fun t31 => [.int t31.1, .int v19, .ref 6]) (n := 210) (b := 0) xc_X7_215 (fun l t ht => met_X7_carry l w30 (w30 6 (ix v19)) t ht) rfl rfl rfl rfl dX7_carryAll_207 (Nat.le_of_ble_eq_true rfl) ⟨Nat.zero_le _, Nat.zero_le _⟩ (Nat.le_of_ble_eq_true rfl) (Nat.le_of_ble_eq_true rfl) (fun _ => rfl) rfl (fun t31 => ?_)
      refine XE_iast (hs2 := fun w32 => [w32]) (n := 211) rfl rfl rfl (Nat.le_of_ble_eq_true rfl) (fun _ => rfl) dX7_carryAll_210 rfl (fun w32 => ?_)
      refine XE_aload_n (n := 212) dX7_carryAll_211 rfl rfl rfl ?_
      refine XE_getr (b := 7) (n := 215) xf_X7_28 rfl rfl dX7_carryAll_212 rfl ?_
      refine XE_iload_n (n := 216) dX7_carryAll_215 rfl rfl rfl ?_
      refine XE_aload_n (n := 217) dX7_carryAll_216 rfl rfl rfl ?_
      refine XE_aload_n (n := 218) dX7_carryAll_217 rfl rfl rfl ?_
      refine XE_getr (b := 7) (n := 221) xf_X7_28 rfl rfl dX7_carryAll_218 rfl ?_
      refine XE_iload_n (n := 222) dX7_carryAll_221 rfl rfl rfl ?_
      refine XE_iald (row := w32 7) (n := 223) rfl rfl dX7_carryAll_222 rfl ?_
      refine XE_callVi (ni := 1) (As := [.int (w32 7 (ix v19))]) (st2 := fun t33 => [.int t33.1, .int v19, .ref 7]) (n := 226) (b := 0) xc_X7_215 (fun l t ht => met_X7_carry l w32 (w32 7 (ix v19)) t ht) rfl rfl rfl rfl dX7_carryAll_223 (Nat.le_of_ble_eq_true rfl) ⟨Nat.zero_le _, Nat.zero_le _⟩ (Nat.le_of_ble_eq_true rfl) (Nat.le_of_ble_eq_true rfl) (fun _ => rfl) rfl (fun t33 => ?_)
      refine XE_iast (hs2 := fun w34 => [w34]) (n := 227) rfl rfl rfl (Nat.le_of_ble_eq_true rfl) (fun _ => rfl) dX7_carryAll_226 rfl (fun w34 => ?_)
      refine XE_aload_n (n := 228) dX7_carryAll_227 rfl rfl rfl ?_
      refine XE_getr (b := 8) (n := 231) xf_X7_31 rfl rfl dX7_carryAll_228 rfl ?_
      refine XE_iload_n (n := 232) dX7_carryAll_231 rfl rfl rfl ?_
      refine XE_aload_n (n := 233) dX7_carryAll_232 rfl rfl rfl ?_
      refine XE_aload_n (n := 234) dX7_carryAll_233 rfl rfl rfl ?_
      refine XE_getr (b := 8) (n := 237) xf_X7_31 rfl rfl dX7_carryAll_234 rfl ?_
      refine XE_iload_n (n := 238) dX7_carryAll_237 rfl rfl rfl ?_
      refine XE_iald (row := w34 8) (n := 239) rfl rfl dX7_carryAll_238 rfl ?_
      refine XE_callVi (ni := 1) (As := [.int (w34 8 (ix v19))]) (st2 := fun t35 => [.int t35.1, .int v19, .ref 8]) (n := 242) (b := 0) xc_X7_215 (fun l t ht => met_X7_carry l w34 (w34 8 (ix v19)) t ht) rfl rfl rfl rfl dX7_carryAll_239 (Nat.le_of_ble_eq_true rfl) ⟨Nat.zero_le _, Nat.zero_le _⟩ (Nat.le_of_ble_eq_true rfl) (Nat.le_of_ble_eq_true rfl) (fun _ => rfl) rfl (fun t35 => ?_)
      refine XE_iast (hs2 := fun w36 => [w36]) (n := 243) rfl rfl rfl (Nat.le_of_ble_eq_true rfl) (fun _ => rfl) dX7_carryAll_242 rfl (fun w36 => ?_)
      refine XE_iincl (n := 246) dX7_carryAll_243 rfl rfl (by decide) (Nat.le_of_ble_eq_true rfl) rfl (fun v37 => ?_)
      refine XE_goto (n := 109) dX7_carryAll_246 rfl ?_
      refine XE_ls (x_sub_ok (ls' := [(0, some (.ref 0)), (3, some (.int v37))]) ⟨rfl, rfl, trivial⟩) ?_
      exact ih v37 w36
set_option maxRecDepth 100000 in
theorem xe_X7_carryAll (B : XB) (m0 : Mem) (a2 : Int32) : XE B M_X7_carryAll (XQm B 0 0 SH_M) 0 [(0, some (.ref 0)), (1, some (.ref 15)), (2, some (.int a2))] [] (0, 0) SH_M [m0] (fun t => some (none, [t])) (f_X7_carryAll m0 a2) := by
  unfold f_X7_carryAll
  refine XE_aload_n (n := 1) dX7_carryAll_0 rfl rfl rfl ?_
  refine XE_aload_n (n := 2) dX7_carryAll_1 rfl rfl rfl ?_
  refine XE_putd (v := 15) (b := 15) (hs2 := fun w1 => [w1]) (n := 5) xf_X7_209 rfl rfl rfl rfl (Nat.le_of_ble_eq_true rfl) (fun _ => rfl) (by decide) (by decide) (Or.inl ⟨_, rfl⟩) dX7_carryAll_2 rfl (fun w1 => ?_)
  refine XE_aload_n (n := 6) dX7_carryAll_5 rfl rfl rfl ?_
  refine XE_iload_n (n := 7) dX7_carryAll_6 rfl rfl rfl ?_
  refine XE_ck (fun h3 => ?_)
  refine XE_putz (hs2 := fun w2 => [w2]) (n := 10) xf_X7_206 rfl rfl rfl rfl (Nat.le_of_ble_eq_true rfl) (fun _ => rfl) h3 dX7_carryAll_7 rfl (fun w2 => ?_)
  refine XE_aload_n (n := 11) dX7_carryAll_10 rfl rfl rfl ?_
  refine XE_iconst (v := 0) (n := 12) dX7_carryAll_11 rfl (by decide) ?_
  refine XE_putf (hs2 := fun w4 => [w4]) (n := 15) xf_X7_212 rfl rfl rfl rfl (Nat.le_of_ble_eq_true rfl) (fun _ => rfl) dX7_carryAll_12 rfl (fun w4 => ?_)
  refine XE_aload_n (n := 16) dX7_carryAll_15 rfl rfl rfl ?_
  refine XE_aload_n (n := 17) dX7_carryAll_16 rfl rfl rfl ?_
  refine XE_aload_n (n := 18) dX7_carryAll_17 rfl rfl rfl ?_
  refine XE_getf (v := w4 0 0) (n := 21) xf_X7_83 rfl rfl rfl dX7_carryAll_18 rfl ?_
  refine XE_callVi (ni := 1) (As := [.int (w4 0 0)]) (st2 := fun t5 => [.int t5.1, .ref 0]) (n := 24) (b := 0) xc_X7_215 (fun l t ht => met_X7_carry l w4 (w4 0 0) t ht) rfl rfl rfl rfl dX7_carryAll_21 (Nat.le_of_ble_eq_true rfl) ⟨Nat.zero_le _, Nat.zero_le _⟩ (Nat.le_of_ble_eq_true rfl) (Nat.le_of_ble_eq_true rfl) (fun _ => rfl) rfl (fun t5 => ?_)
  refine XE_putf (hs2 := fun w6 => [w6]) (n := 27) xf_X7_83 rfl rfl rfl rfl (Nat.le_of_ble_eq_true rfl) (fun _ => rfl) dX7_carryAll_24 rfl (fun w6 => ?_)
  refine XE_aload_n (n := 28) dX7_carryAll_27 rfl rfl rfl ?_
  refine XE_aload_n (n := 29) dX7_carryAll_28 rfl rfl rfl ?_
  refine XE_aload_n (n := 30) dX7_carryAll_29 rfl rfl rfl ?_
  refine XE_getf (v := w6 0 9) (n := 33) xf_X7_100 rfl rfl rfl dX7_carryAll_30 rfl ?_
  refine XE_callVi (ni := 1) (As := [.int (w6 0 9)]) (st2 := fun t7 => [.int t7.1, .ref 0]) (n := 36) (b := 0) xc_X7_215 (fun l t ht => met_X7_carry l w6 (w6 0 9) t ht) rfl rfl rfl rfl dX7_carryAll_33 (Nat.le_of_ble_eq_true rfl) ⟨Nat.zero_le _, Nat.zero_le _⟩ (Nat.le_of_ble_eq_true rfl) (Nat.le_of_ble_eq_true rfl) (fun _ => rfl) rfl (fun t7 => ?_)
  refine XE_putf (hs2 := fun w8 => [w8]) (n := 39) xf_X7_100 rfl rfl rfl rfl (Nat.le_of_ble_eq_true rfl) (fun _ => rfl) dX7_carryAll_36 rfl (fun w8 => ?_)
  refine XE_aload_n (n := 40) dX7_carryAll_39 rfl rfl rfl ?_
  refine XE_aload_n (n := 41) dX7_carryAll_40 rfl rfl rfl ?_
  refine XE_aload_n (n := 42) dX7_carryAll_41 rfl rfl rfl ?_
  refine XE_getf (v := w8 0 10) (n := 45) xf_X7_80 rfl rfl rfl dX7_carryAll_42 rfl ?_
  refine XE_callVi (ni := 1) (As := [.int (w8 0 10)]) (st2 := fun t9 => [.int t9.1, .ref 0]) (n := 48) (b := 0) xc_X7_215 (fun l t ht => met_X7_carry l w8 (w8 0 10) t ht) rfl rfl rfl rfl dX7_carryAll_45 (Nat.le_of_ble_eq_true rfl) ⟨Nat.zero_le _, Nat.zero_le _⟩ (Nat.le_of_ble_eq_true rfl) (Nat.le_of_ble_eq_true rfl) (fun _ => rfl) rfl (fun t9 => ?_)
  refine XE_putf (hs2 := fun w10 => [w10]) (n := 51) xf_X7_80 rfl rfl rfl rfl (Nat.le_of_ble_eq_true rfl) (fun _ => rfl) dX7_carryAll_48 rfl (fun w10 => ?_)
  refine XE_aload_n (n := 52) dX7_carryAll_51 rfl rfl rfl ?_
  refine XE_aload_n (n := 53) dX7_carryAll_52 rfl rfl rfl ?_
  refine XE_aload_n (n := 54) dX7_carryAll_53 rfl rfl rfl ?_
  refine XE_getf (v := w10 0 12) (n := 57) xf_X7_94 rfl rfl rfl dX7_carryAll_54 rfl ?_
  refine XE_callVi (ni := 1) (As := [.int (w10 0 12)]) (st2 := fun t11 => [.int t11.1, .ref 0]) (n := 60) (b := 0) xc_X7_215 (fun l t ht => met_X7_carry l w10 (w10 0 12) t ht) rfl rfl rfl rfl dX7_carryAll_57 (Nat.le_of_ble_eq_true rfl) ⟨Nat.zero_le _, Nat.zero_le _⟩ (Nat.le_of_ble_eq_true rfl) (Nat.le_of_ble_eq_true rfl) (fun _ => rfl) rfl (fun t11 => ?_)
  refine XE_putf (hs2 := fun w12 => [w12]) (n := 63) xf_X7_94 rfl rfl rfl rfl (Nat.le_of_ble_eq_true rfl) (fun _ => rfl) dX7_carryAll_60 rfl (fun w12 => ?_)
  refine XE_aload_n (n := 64) dX7_carryAll_63 rfl rfl rfl ?_
  refine XE_aload_n (n := 65) dX7_carryAll_64 rfl rfl rfl ?_
  refine XE_aload_n (n := 66) dX7_carryAll_65 rfl rfl rfl ?_
  refine XE_getf (v := w12 0 13) (n := 69) xf_X7_114 rfl rfl rfl dX7_carryAll_66 rfl ?_
  refine XE_callVi (ni := 1) (As := [.int (w12 0 13)]) (st2 := fun t13 => [.int t13.1, .ref 0]) (n := 72) (b := 0) xc_X7_215 (fun l t ht => met_X7_carry l w12 (w12 0 13) t ht) rfl rfl rfl rfl dX7_carryAll_69 (Nat.le_of_ble_eq_true rfl) ⟨Nat.zero_le _, Nat.zero_le _⟩ (Nat.le_of_ble_eq_true rfl) (Nat.le_of_ble_eq_true rfl) (fun _ => rfl) rfl (fun t13 => ?_)
  refine XE_putf (hs2 := fun w14 => [w14]) (n := 75) xf_X7_114 rfl rfl rfl rfl (Nat.le_of_ble_eq_true rfl) (fun _ => rfl) dX7_carryAll_72 rfl (fun w14 => ?_)
  refine XE_aload_n (n := 76) dX7_carryAll_75 rfl rfl rfl ?_
  refine XE_getr (b := 9) (n := 79) xf_X7_34 rfl rfl dX7_carryAll_76 rfl ?_
  refine XE_iconst (v := 0) (n := 80) dX7_carryAll_79 rfl (by decide) ?_
  refine XE_aload_n (n := 81) dX7_carryAll_80 rfl rfl rfl ?_
  refine XE_aload_n (n := 82) dX7_carryAll_81 rfl rfl rfl ?_
  refine XE_getr (b := 9) (n := 85) xf_X7_34 rfl rfl dX7_carryAll_82 rfl ?_
  refine XE_iconst (v := 0) (n := 86) dX7_carryAll_85 rfl (by decide) ?_
  refine XE_ialdc (row := w14 9) (j := 0) (n := 87) rfl rfl rfl rfl dX7_carryAll_86 rfl ?_
  refine XE_callVi (ni := 1) (As := [.int (w14 9 0)]) (st2 := fun t15 => [.int t15.1, .int 0, .ref 9]) (n := 90) (b := 0) xc_X7_215 (fun l t ht => met_X7_carry l w14 (w14 9 0) t ht) rfl rfl rfl rfl dX7_carryAll_87 (Nat.le_of_ble_eq_true rfl) ⟨Nat.zero_le _, Nat.zero_le _⟩ (Nat.le_of_ble_eq_true rfl) (Nat.le_of_ble_eq_true rfl) (fun _ => rfl) rfl (fun t15 => ?_)
  refine XE_iastj (j := 0) (hs2 := fun w16 => [w16]) (n := 91) rfl rfl rfl (Nat.le_of_ble_eq_true rfl) (fun _ => rfl) rfl rfl dX7_carryAll_90 rfl (fun w16 => ?_)
  refine XE_aload_n (n := 92) dX7_carryAll_91 rfl rfl rfl ?_
  refine XE_getr (b := 9) (n := 95) xf_X7_34 rfl rfl dX7_carryAll_92 rfl ?_
  refine XE_iconst (v := 1) (n := 96) dX7_carryAll_95 rfl (by decide) ?_
  refine XE_aload_n (n := 97) dX7_carryAll_96 rfl rfl rfl ?_
  refine XE_aload_n (n := 98) dX7_carryAll_97 rfl rfl rfl ?_
  refine XE_getr (b := 9) (n := 101) xf_X7_34 rfl rfl dX7_carryAll_98 rfl ?_
  refine XE_iconst (v := 1) (n := 102) dX7_carryAll_101 rfl (by decide) ?_
  refine XE_ialdc (row := w16 9) (j := 1) (n := 103) rfl rfl rfl rfl dX7_carryAll_102 rfl ?_
  refine XE_callVi (ni := 1) (As := [.int (w16 9 1)]) (st2 := fun t17 => [.int t17.1, .int 1, .ref 9]) (n := 106) (b := 0) xc_X7_215 (fun l t ht => met_X7_carry l w16 (w16 9 1) t ht) rfl rfl rfl rfl dX7_carryAll_103 (Nat.le_of_ble_eq_true rfl) ⟨Nat.zero_le _, Nat.zero_le _⟩ (Nat.le_of_ble_eq_true rfl) (Nat.le_of_ble_eq_true rfl) (fun _ => rfl) rfl (fun t17 => ?_)
  refine XE_iastj (j := 1) (hs2 := fun w18 => [w18]) (n := 107) rfl rfl rfl (Nat.le_of_ble_eq_true rfl) (fun _ => rfl) rfl rfl dX7_carryAll_106 rfl (fun w18 => ?_)
  refine XE_iconst (v := 0) (n := 108) dX7_carryAll_107 rfl (by decide) ?_
  refine XE_istore_n (i := 3) (n := 109) dX7_carryAll_108 rfl rfl (Nat.le_of_ble_eq_true rfl) rfl ?_
  refine XE_ls (x_sub_ok (ls' := [(0, some (.ref 0)), (3, some (.int 0))]) ⟨rfl, rfl, trivial⟩) ?_
  refine XE_reg (J := 249) (lsJ := fun t39 => []) (stJ := fun t39 => []) (hsJ := fun t39 => [t39]) (fun t39 => ?_) (fun hJ40 => f_X7_carryAll_L109_x B hJ40 6000 (0 : Int32) w18)
  exact XE_vreturn rfl dX7_carryAll_249 rfl (Nat.le_refl _) (Nat.le_refl _)
theorem met_X7_carryAll (l : Launch) (m0 : Mem) (a2 : Int32) (t : Mem) (ht : f_X7_carryAll m0 a2 = some t) : XMet l yX7_carryAll cX7_carryAll 4 none 2 0 0 [.ref 0, .ref 15, .int a2] SH_M [m0] SH_M (none, [t]) := XMet.of (by decide +kernel) (fun _ => Nat.le_of_ble_eq_true rfl) (fun B => xe_X7_carryAll B m0 a2) (by rw [ht]; rfl)
/-! X7_think: EveryTwentyMinutesModel.think()V in world M at (0,) -/
abbrev M_X7_think : XM := (RX7, cX7_think, 1, none, "think", 3, 0, 0)
def f_X7_think (m0 : Mem) : Option (Mem) :=
  (f_X7_carryAll m0 1).bind fun t1 =>
  some t1
set_option maxRecDepth 100000 in
theorem xe_X7_think (B : XB) (m0 : Mem) : XE B M_X7_think (XQm B 0 0 SH_M) 0 [(0, some (.ref 0))] [] (0, 0) SH_M [m0] (fun t => some (none, [t])) (f_X7_think m0) := by
  unfold f_X7_think
  refine XE_aload_n (n := 1) dX7_think_0 rfl rfl rfl ?_
  refine XE_aload_n (n := 2) dX7_think_1 rfl rfl rfl ?_
  refine XE_getr (b := 15) (n := 5) xf_X7_52 rfl rfl dX7_think_2 rfl ?_
  refine XE_iconst (v := 1) (n := 6) dX7_think_5 rfl (by decide) ?_
  refine XE_callVi (ni := 2) (As := [.ref 15, .int 1]) (st2 := fun t1 => []) (n := 9) (b := 0) xc_X7_218 (fun l t ht => met_X7_carryAll l m0 1 t ht) rfl rfl rfl rfl dX7_think_6 (Nat.le_of_ble_eq_true rfl) ⟨Nat.zero_le _, Nat.zero_le _⟩ (Nat.le_of_ble_eq_true rfl) (Nat.le_of_ble_eq_true rfl) (fun _ => rfl) rfl (fun t1 => ?_)
  exact XE_vreturn rfl dX7_think_9 rfl (Nat.le_refl _) (Nat.le_refl _)
theorem met_X7_think (l : Launch) (m0 : Mem) (t : Mem) (ht : f_X7_think m0 = some t) : XMet l yX7_think cX7_think 1 none 3 0 0 [.ref 0] SH_M [m0] SH_M (none, [t]) := XMet.of (by decide +kernel) (fun _ => Nat.le_of_ble_eq_true rfl) (fun B => xe_X7_think B m0) (by rw [ht]; rfl)
/-! X7_again: EveryTwentyMinutesModel.again()V in world M at (0,) -/
abbrev M_X7_again : XM := (RX7, cX7_again, 1, none, "again", 3, 0, 0)
def f_X7_again (m0 : Mem) : Option (Mem) :=
  (f_X7_carryAll m0 0).bind fun t1 =>
  some t1
set_option maxRecDepth 100000 in
theorem xe_X7_again (B : XB) (m0 : Mem) : XE B M_X7_again (XQm B 0 0 SH_M) 0 [(0, some (.ref 0))] [] (0, 0) SH_M [m0] (fun t => some (none, [t])) (f_X7_again m0) := by
  unfold f_X7_again
  refine XE_aload_n (n := 1) dX7_again_0 rfl rfl rfl ?_
  refine XE_aload_n (n := 2) dX7_again_1 rfl rfl rfl ?_
  refine XE_getr (b := 15) (n := 5) xf_X7_52 rfl rfl dX7_again_2 rfl ?_
  refine XE_iconst (v := 0) (n := 6) dX7_again_5 rfl (by decide) ?_
  refine XE_callVi (ni := 2) (As := [.ref 15, .int 0]) (st2 := fun t1 => []) (n := 9) (b := 0) xc_X7_218 (fun l t ht => met_X7_carryAll l m0 0 t ht) rfl rfl rfl rfl dX7_again_6 (Nat.le_of_ble_eq_true rfl) ⟨Nat.zero_le _, Nat.zero_le _⟩ (Nat.le_of_ble_eq_true rfl) (Nat.le_of_ble_eq_true rfl) (fun _ => rfl) rfl (fun t1 => ?_)
  exact XE_vreturn rfl dX7_again_9 rfl (Nat.le_refl _) (Nat.le_refl _)
theorem met_X7_again (l : Launch) (m0 : Mem) (t : Mem) (ht : f_X7_again m0 = some t) : XMet l yX7_again cX7_again 1 none 3 0 0 [.ref 0] SH_M [m0] SH_M (none, [t]) := XMet.of (by decide +kernel) (fun _ => Nat.le_of_ble_eq_true rfl) (fun B => xe_X7_again B m0) (by rw [ht]; rfl)
/-! X7_hall: EveryTwentyMinutesModel.hall()I in world M at (0,) -/
abbrev M_X7_hall : XM := (RX7, cX7_hall, 2, (some .int), "hall", 6, 0, 0)
def f_X7_hall_L20 : Nat → Mem → Option (Mem)
  | 0, _ => none
  | n + 1, w5 =>
    if (w5 0 19) = 0 then
      if (w5 0 20) = 0 then
        (f_X7_readStatement w5).bind fun t6 =>
        (f_X7_hall_L20 n) t6
      else
        if (w5 0 17) ≤ (w5 0 18) then
          some (w5)
        else
          (f_X7_readStatement w5).bind fun t7 =>
          (f_X7_hall_L20 n) t7
    else
      some (w5)
def f_X7_hall_L79 : Nat → Int32 → Mem → Option (Int32 × Mem)
  | 0, _, _ => none
  | n + 1, v14, w15 =>
    if (w15 0 20) ≤ v14 then
      lt (xs w15 0 32 0) fun w16 =>
      some ((w16 0 20), w16)
    else
      (f_X7_comesTold w15 v14).bind fun t17 =>
      if t17.1 = 0 then
        (f_X7_again t17.2).bind fun t19 =>
        ck (inb v14 49) <|
        some (((-2000) - (t19 12 (ix v14))), t19)
      else
        lt (v14 + 1) fun v18 =>
        (f_X7_hall_L79 n) v18 t17.2
def f_X7_hall (m0 : Mem) : Option (Int32 × Mem) :=
  lt (xs m0 0 14 0) fun w1 =>
  lt (xs w1 0 18 0) fun w2 =>
  lt (xs w2 0 19 0) fun w3 =>
  lt (xs w3 0 20 0) fun w4 =>
  (f_X7_hall_L20 6000 w4).bind fun t11 =>
  lt (xs t11 0 17 0) fun w12 =>
  if (w12 0 19) = 0 then
    (f_X7_think w12).bind fun t13 =>
    f_X7_hall_L79 6000 (0 : Int32) t13
  else
    some (((-1000) - (w12 0 18)), w12)
set_option maxRecDepth 100000 in
theorem f_X7_hall_L20_x {α R : Type} (B : XB) {Q : R → State → Prop} {k : α → Option R} {r : (Mem) → Option α} (hE : ∀ t0 : (Mem), XE B M_X7_hall Q 52 [(0, some (.ref 0))] [] (0, 0) SH_M [t0] (fun t => (r t).bind k) (some t0)) : ∀ (n : Nat) (w5 : Mem), XE B M_X7_hall Q 20 [(0, some (.ref 0))] [] (0, 0) SH_M [w5] (fun t => (r t).bind k) (f_X7_hall_L20 n w5) := by
  intro n
  induction n with
  | zero => intros; exact XE_none
  | succ n ih =>
    intro w5
    rw [f_X7_hall_L20]
    refine XE_aload_n (n := 21) dX7_hall_20 rfl rfl rfl ?_
    refine XE_getf (v := w5 0 19) (n := 24) xf_X7_147 rfl rfl rfl dX7_hall_21 rfl ?_
    refine XE_if_ne (t := 52) (n := 27) dX7_hall_24 rfl rfl (fun h10 => ?_) (fun h10 => ?_)
    · refine XE_aload_n (n := 28) dX7_hall_27 rfl rfl rfl ?_
      refine XE_getf (v := w5 0 20) (n := 31) xf_X7_158 rfl rfl rfl dX7_hall_28 rfl ?_
      refine XE_if_eq (t := 45) (n := 34) dX7_hall_31 rfl rfl (fun h9 => ?_) (fun h9 => ?_)
      · refine XE_aload_n (n := 46) dX7_hall_45 rfl rfl rfl ?_
        refine XE_callVi (ni := 0) (As := []) (st2 := fun t6 => []) (n := 49) (b := 0) xc_X7_191 (fun l t ht => met_X7_readStatement l w5 t ht) rfl rfl rfl rfl dX7_hall_46 (Nat.le_of_ble_eq_true rfl) ⟨Nat.zero_le _, Nat.zero_le _⟩ (Nat.le_of_ble_eq_true rfl) (Nat.le_of_ble_eq_true rfl) (fun _ => rfl) rfl (fun t6 => ?_)
        refine XE_goto (n := 20) dX7_hall_49 rfl ?_
        refine XE_ls (x_sub_ok (ls' := [(0, some (.ref 0))]) ⟨rfl, trivial⟩) ?_
        exact ih t6
      · refine XE_aload_n (n := 35) dX7_hall_34 rfl rfl rfl ?_
        refine XE_getf (v := w5 0 18) (n := 38) xf_X7_144 rfl rfl rfl dX7_hall_35 rfl ?_
        refine XE_aload_n (n := 39) dX7_hall_38 rfl rfl rfl ?_
        refine XE_getf (v := w5 0 17) (n := 42) xf_X7_141 rfl rfl rfl dX7_hall_39 rfl ?_
        refine XE_icmp_ge (t := 52) (n := 45) dX7_hall_42 rfl rfl (fun h8 => ?_) (fun h8 => ?_)
        · refine XE_ls (x_sub_ok (ls' := [(0, some (.ref 0))]) ⟨rfl, trivial⟩) ?_
          exact hE (w5)
        · refine XE_aload_n (n := 46) dX7_hall_45 rfl rfl rfl ?_
          refine XE_callVi (ni := 0) (As := []) (st2 := fun t7 => []) (n := 49) (b := 0) xc_X7_191 (fun l t ht => met_X7_readStatement l w5 t ht) rfl rfl rfl rfl dX7_hall_46 (Nat.le_of_ble_eq_true rfl) ⟨Nat.zero_le _, Nat.zero_le _⟩ (Nat.le_of_ble_eq_true rfl) (Nat.le_of_ble_eq_true rfl) (fun _ => rfl) rfl (fun t7 => ?_)
          refine XE_goto (n := 20) dX7_hall_49 rfl ?_
          refine XE_ls (x_sub_ok (ls' := [(0, some (.ref 0))]) ⟨rfl, trivial⟩) ?_
          exact ih t7
    · refine XE_ls (x_sub_ok (ls' := [(0, some (.ref 0))]) ⟨rfl, trivial⟩) ?_
      exact hE (w5)
set_option maxRecDepth 100000 in
theorem f_X7_hall_L79_x (B : XB) : ∀ (n : Nat) (v14 : Int32) (w15 : Mem), XE B M_X7_hall (XQm B 0 0 SH_M) 79 [(0, some (.ref 0)), (1, some (.int v14))] [] (0, 0) SH_M [w15] (fun t => some (some (.int t.1), [t.2])) (f_X7_hall_L79 n v14 w15) := by
  intro n
  induction n with
  | zero => intros; exact XE_none
  | succ n ih =>
    intro v14 w15
    rw [f_X7_hall_L79]
    refine XE_iload_n (n := 80) dX7_hall_79 rfl rfl rfl ?_
    refine XE_aload_n (n := 81) dX7_hall_80 rfl rfl rfl ?_
    refine XE_getf (v := w15 0 20) (n := 84) xf_X7_158 rfl rfl rfl dX7_hall_81 rfl ?_
    refine XE_icmp_ge (t := 116) (n := 87) dX7_hall_84 rfl rfl (fun h21 => ?_) (fun h21 => ?_)
    · refine XE_aload_n (n := 117) dX7_hall_116 rfl rfl rfl ?_
      refine XE_iconst (v := 0) (n := 118) dX7_hall_117 rfl (by decide) ?_
      refine XE_putf (hs2 := fun w16 => [w16]) (n := 121) xf_X7_203 rfl rfl rfl rfl (Nat.le_of_ble_eq_true rfl) (fun _ => rfl) dX7_hall_118 rfl (fun w16 => ?_)
      refine XE_aload_n (n := 122) dX7_hall_121 rfl rfl rfl ?_
      refine XE_getf (v := w16 0 20) (n := 125) xf_X7_158 rfl rfl rfl dX7_hall_122 rfl ?_
      exact XE_ireturn rfl dX7_hall_125 rfl (Nat.le_refl _) (Nat.le_refl _)
    · refine XE_aload_n (n := 88) dX7_hall_87 rfl rfl rfl ?_
      refine XE_iload_n (n := 89) dX7_hall_88 rfl rfl rfl ?_
      refine XE_callVi (ni := 1) (As := [.int v14]) (st2 := fun t17 => [.int t17.1]) (n := 92) (b := 0) xc_X7_197 (fun l t ht => met_X7_comesTold l w15 v14 t ht) rfl rfl rfl rfl dX7_hall_89 (Nat.le_of_ble_eq_true rfl) ⟨Nat.zero_le _, Nat.zero_le _⟩ (Nat.le_of_ble_eq_true rfl) (Nat.le_of_ble_eq_true rfl) (fun _ => rfl) rfl (fun t17 => ?_)
      refine XE_if_ne (t := 110) (n := 95) dX7_hall_92 rfl rfl (fun h20 => ?_) (fun h20 => ?_)
      · refine XE_aload_n (n := 96) dX7_hall_95 rfl rfl rfl ?_
        refine XE_callVi (ni := 0) (As := []) (st2 := fun t19 => []) (n := 99) (b := 0) xc_X7_200 (fun l t ht => met_X7_again l t17.2 t ht) rfl rfl rfl rfl dX7_hall_96 (Nat.le_of_ble_eq_true rfl) ⟨Nat.zero_le _, Nat.zero_le _⟩ (Nat.le_of_ble_eq_true rfl) (Nat.le_of_ble_eq_true rfl) (fun _ => rfl) rfl (fun t19 => ?_)
        refine XE_sipush (v := (-2000)) (n := 102) dX7_hall_99 rfl (by decide) ?_
        refine XE_aload_n (n := 103) dX7_hall_102 rfl rfl rfl ?_
        refine XE_getr (b := 12) (n := 106) xf_X7_43 rfl rfl dX7_hall_103 rfl ?_
        refine XE_iload_n (n := 107) dX7_hall_106 rfl rfl rfl ?_
        refine XE_iald (row := t19 12) (n := 108) rfl rfl dX7_hall_107 rfl ?_
        refine XE_isub (n := 109) dX7_hall_108 rfl ?_
        exact XE_ireturn rfl dX7_hall_109 rfl (Nat.le_refl _) (Nat.le_refl _)
      · refine XE_iincl (n := 113) dX7_hall_110 rfl rfl (by decide) (Nat.le_of_ble_eq_true rfl) rfl (fun v18 => ?_)
        refine XE_goto (n := 79) dX7_hall_113 rfl ?_
        refine XE_ls (x_sub_ok (ls' := [(0, some (.ref 0)), (1, some (.int v18))]) ⟨rfl, rfl, trivial⟩) ?_
        exact ih v18 t17.2
set_option maxRecDepth 100000 in
theorem xe_X7_hall (B : XB) (m0 : Mem) : XE B M_X7_hall (XQm B 0 0 SH_M) 0 [(0, some (.ref 0))] [] (0, 0) SH_M [m0] (fun t => some (some (.int t.1), [t.2])) (f_X7_hall m0) := by
  unfold f_X7_hall
  refine XE_aload_n (n := 1) dX7_hall_0 rfl rfl rfl ?_
  refine XE_iconst (v := 0) (n := 2) dX7_hall_1 rfl (by decide) ?_
  refine XE_putf (hs2 := fun w1 => [w1]) (n := 5) xf_X7_76 rfl rfl rfl rfl (Nat.le_of_ble_eq_true rfl) (fun _ => rfl) dX7_hall_2 rfl (fun w1 => ?_)
  refine XE_aload_n (n := 6) dX7_hall_5 rfl rfl rfl ?_
  refine XE_iconst (v := 0) (n := 7) dX7_hall_6 rfl (by decide) ?_
  refine XE_putf (hs2 := fun w2 => [w2]) (n := 10) xf_X7_144 rfl rfl rfl rfl (Nat.le_of_ble_eq_true rfl) (fun _ => rfl) dX7_hall_7 rfl (fun w2 => ?_)
  refine XE_aload_n (n := 11) dX7_hall_10 rfl rfl rfl ?_
  refine XE_iconst (v := 0) (n := 12) dX7_hall_11 rfl (by decide) ?_
  refine XE_putz (hs2 := fun w3 => [w3]) (n := 15) xf_X7_147 rfl rfl rfl rfl (Nat.le_of_ble_eq_true rfl) (fun _ => rfl) rfl dX7_hall_12 rfl (fun w3 => ?_)
  refine XE_aload_n (n := 16) dX7_hall_15 rfl rfl rfl ?_
  refine XE_iconst (v := 0) (n := 17) dX7_hall_16 rfl (by decide) ?_
  refine XE_putf (hs2 := fun w4 => [w4]) (n := 20) xf_X7_158 rfl rfl rfl rfl (Nat.le_of_ble_eq_true rfl) (fun _ => rfl) dX7_hall_17 rfl (fun w4 => ?_)
  refine XE_ls (x_sub_ok (ls' := [(0, some (.ref 0))]) ⟨rfl, trivial⟩) ?_
  refine XE_reg (J := 52) (lsJ := fun t11 => [(0, some (.ref 0))]) (stJ := fun t11 => []) (hsJ := fun t11 => [t11]) (fun t11 => ?_) (fun hJ23 => f_X7_hall_L20_x B hJ23 6000 w4)
  refine XE_aload_n (n := 53) dX7_hall_52 rfl rfl rfl ?_
  refine XE_iconst (v := 0) (n := 54) dX7_hall_53 rfl (by decide) ?_
  refine XE_putf (hs2 := fun w12 => [w12]) (n := 57) xf_X7_141 rfl rfl rfl rfl (Nat.le_of_ble_eq_true rfl) (fun _ => rfl) dX7_hall_54 rfl (fun w12 => ?_)
  refine XE_aload_n (n := 58) dX7_hall_57 rfl rfl rfl ?_
  refine XE_getf (v := w12 0 19) (n := 61) xf_X7_147 rfl rfl rfl dX7_hall_58 rfl ?_
  refine XE_if_eq (t := 73) (n := 64) dX7_hall_61 rfl rfl (fun h22 => ?_) (fun h22 => ?_)
  · refine XE_aload_n (n := 74) dX7_hall_73 rfl rfl rfl ?_
    refine XE_callVi (ni := 0) (As := []) (st2 := fun t13 => []) (n := 77) (b := 0) xc_X7_194 (fun l t ht => met_X7_think l w12 t ht) rfl rfl rfl rfl dX7_hall_74 (Nat.le_of_ble_eq_true rfl) ⟨Nat.zero_le _, Nat.zero_le _⟩ (Nat.le_of_ble_eq_true rfl) (Nat.le_of_ble_eq_true rfl) (fun _ => rfl) rfl (fun t13 => ?_)
    refine XE_iconst (v := 0) (n := 78) dX7_hall_77 rfl (by decide) ?_
    refine XE_istore_n (i := 1) (n := 79) dX7_hall_78 rfl rfl (Nat.le_of_ble_eq_true rfl) rfl ?_
    refine XE_ls (x_sub_ok (ls' := [(0, some (.ref 0)), (1, some (.int 0))]) ⟨rfl, rfl, trivial⟩) ?_
    exact f_X7_hall_L79_x B 6000 (0 : Int32) t13
  · refine XE_sipush (v := (-1000)) (n := 67) dX7_hall_64 rfl (by decide) ?_
    refine XE_aload_n (n := 68) dX7_hall_67 rfl rfl rfl ?_
    refine XE_getf (v := w12 0 18) (n := 71) xf_X7_144 rfl rfl rfl dX7_hall_68 rfl ?_
    refine XE_isub (n := 72) dX7_hall_71 rfl ?_
    exact XE_ireturn rfl dX7_hall_72 rfl (Nat.le_refl _) (Nat.le_refl _)
theorem met_X7_hall (l : Launch) (m0 : Mem) (t : Int32 × Mem) (ht : f_X7_hall m0 = some t) : XMet l yX7_hall cX7_hall 2 (some .int) 6 0 0 [.ref 0] SH_M [m0] SH_M (some (.int t.1), [t.2]) := XMet.of (by decide +kernel) (fun _ => Nat.le_of_ble_eq_true rfl) (fun B => xe_X7_hall B m0) (by rw [ht]; rfl)
/-! X7_carryAll_16: EveryTwentyMinutesModel.carryAll([IZ)V in world M at (0, 16) -/
abbrev M_X7_carryAll_16 : XM := (RX7, cX7_carryAll, 4, none, "carryAll", 2, 0, 0)
def f_X7_carryAll_16_L109 : Nat → Int32 → Mem → Option (Mem)
  | 0, _, _ => none
  | n + 1, v19, w20 =>
    if 7 ≤ v19 then
      some (w20)
    else
      ck (inb v19 7) <|
      (f_X7_carry w20 (w20 1 (ix v19))).bind fun t21 =>
      ck (inb v19 7) <|
      lt (xs t21.2 1 (ix v19) t21.1) fun w22 =>
      ck (inb v19 7) <|
      (f_X7_carry w22 (w22 2 (ix v19))).bind fun t23 =>
      ck (inb v19 7) <|
      lt (xs t23.2 2 (ix v19) t23.1) fun w24 =>
      ck (inb v19 7) <|
      (f_X7_carry w24 (w24 3 (ix v19))).bind fun t25 =>
      ck (inb v19 7) <|
      lt (xs t25.2 3 (ix v19) t25.1) fun w26 =>
      ck (inb v19 7) <|
      (f_X7_carry w26 (w26 4 (ix v19))).bind fun t27 =>
      ck (inb v19 7) <|
      lt (xs t27.2 4 (ix v19) t27.1) fun w28 =>
      ck (inb v19 7) <|
      (f_X7_carry w28 (w28 5 (ix v19))).bind fun t29 =>
      ck (inb v19 7) <|
      lt (xs t29.2 5 (ix v19) t29.1) fun w30 =>
      ck (inb v19 7) <|
      (f_X7_carry w30 (w30 6 (ix v19))).bind fun t31 =>
      ck (inb v19 7) <|
      lt (xs t31.2 6 (ix v19) t31.1) fun w32 =>
      ck (inb v19 7) <|
      (f_X7_carry w32 (w32 7 (ix v19))).bind fun t33 =>
      ck (inb v19 7) <|
      lt (xs t33.2 7 (ix v19) t33.1) fun w34 =>
      ck (inb v19 7) <|
      (f_X7_carry w34 (w34 8 (ix v19))).bind fun t35 =>
      ck (inb v19 7) <|
      lt (xs t35.2 8 (ix v19) t35.1) fun w36 =>
      lt (v19 + 1) fun v37 =>
      (f_X7_carryAll_16_L109 n) v37 w36
def f_X7_carryAll_16 (m0 : Mem) (a2 : Int32) : Option (Mem) :=
  lt (xs m0 0 29 16) fun w1 =>
  ck (isb a2) <|
  lt (xs w1 0 28 a2) fun w2 =>
  lt (xs w2 0 27 0) fun w4 =>
  (f_X7_carry w4 (w4 0 0)).bind fun t5 =>
  lt (xs t5.2 0 0 t5.1) fun w6 =>
  (f_X7_carry w6 (w6 0 9)).bind fun t7 =>
  lt (xs t7.2 0 9 t7.1) fun w8 =>
  (f_X7_carry w8 (w8 0 10)).bind fun t9 =>
  lt (xs t9.2 0 10 t9.1) fun w10 =>
  (f_X7_carry w10 (w10 0 12)).bind fun t11 =>
  lt (xs t11.2 0 12 t11.1) fun w12 =>
  (f_X7_carry w12 (w12 0 13)).bind fun t13 =>
  lt (xs t13.2 0 13 t13.1) fun w14 =>
  (f_X7_carry w14 (w14 9 0)).bind fun t15 =>
  lt (xs t15.2 9 0 t15.1) fun w16 =>
  (f_X7_carry w16 (w16 9 1)).bind fun t17 =>
  lt (xs t17.2 9 1 t17.1) fun w18 =>
  (f_X7_carryAll_16_L109 6000 (0 : Int32) w18).bind fun t39 =>
  some t39
set_option maxRecDepth 100000 in
theorem f_X7_carryAll_16_L109_x {α R : Type} (B : XB) {Q : R → State → Prop} {k : α → Option R} {r : (Mem) → Option α} (hE : ∀ t0 : (Mem), XE B M_X7_carryAll_16 Q 249 [] [] (0, 0) SH_M [t0] (fun t => (r t).bind k) (some t0)) : ∀ (n : Nat) (v19 : Int32) (w20 : Mem), XE B M_X7_carryAll_16 Q 109 [(0, some (.ref 0)), (3, some (.int v19))] [] (0, 0) SH_M [w20] (fun t => (r t).bind k) (f_X7_carryAll_16_L109 n v19 w20) := by
  intro n
  induction n with
  | zero => intros; exact XE_none
  | succ n ih =>
    intro v19 w20
    rw [f_X7_carryAll_16_L109]
    refine XE_iload_n (n := 110) dX7_carryAll_109 rfl rfl rfl ?_
    refine XE_bipush (v := 7) (n := 112) dX7_carryAll_110 rfl (by decide) ?_
    refine XE_icmp_ge (t := 249) (n := 115) dX7_carryAll_112 rfl rfl (fun h38 => ?_) (fun h38 => ?_)
    · refine XE_ls (x_sub_ok (ls' := []) trivial) ?_
      exact hE (w20)
    · refine XE_aload_n (n := 116) dX7_carryAll_115 rfl rfl rfl ?_
      refine XE_getr (b := 1) (n := 119) xf_X7_7 rfl rfl dX7_carryAll_116 rfl ?_
      refine XE_iload_n (n := 120) dX7_carryAll_119 rfl rfl rfl ?_
      refine XE_aload_n (n := 121) dX7_carryAll_120 rfl rfl rfl ?_
      refine XE_aload_n (n := 122) dX7_carryAll_121 rfl rfl rfl ?_
      refine XE_getr (b := 1) (n := 125) xf_X7_7 rfl rfl dX7_carryAll_122 rfl ?_
      refine XE_iload_n (n := 126) dX7_carryAll_125 rfl rfl rfl ?_
      refine XE_iald (row := w20 1) (n := 127) rfl rfl dX7_carryAll_126 rfl ?_
      refine XE_callVi (ni := 1) (As := [.int (w20 1 (ix v19))]) (st2 := fun t21 => [.int t21.1, .int v19, .ref 1]) (n := 130) (b := 0) xc_X7_215 (fun l t ht => met_X7_carry l w20 (w20 1 (ix v19)) t ht) rfl rfl rfl rfl dX7_carryAll_127 (Nat.le_of_ble_eq_true rfl) ⟨Nat.zero_le _, Nat.zero_le _⟩ (Nat.le_of_ble_eq_true rfl) (Nat.le_of_ble_eq_true rfl) (fun _ => rfl) rfl (fun t21 => ?_)
      refine XE_iast (hs2 := fun w22 => [w22]) (n := 131) rfl rfl rfl (Nat.le_of_ble_eq_true rfl) (fun _ => rfl) dX7_carryAll_130 rfl (fun w22 => ?_)
      refine XE_aload_n (n := 132) dX7_carryAll_131 rfl rfl rfl ?_
      refine XE_getr (b := 2) (n := 135) xf_X7_13 rfl rfl dX7_carryAll_132 rfl ?_
      refine XE_iload_n (n := 136) dX7_carryAll_135 rfl rfl rfl ?_
      refine XE_aload_n (n := 137) dX7_carryAll_136 rfl rfl rfl ?_
      refine XE_aload_n (n := 138) dX7_carryAll_137 rfl rfl rfl ?_
      refine XE_getr (b := 2) (n := 141) xf_X7_13 rfl rfl dX7_carryAll_138 rfl ?_
      refine XE_iload_n (n := 142) dX7_carryAll_141 rfl rfl rfl ?_
      refine XE_iald (row := w22 2) (n := 143) rfl rfl dX7_carryAll_142 rfl ?_
      refine XE_callVi (ni := 1) (As := [.int (w22 2 (ix v19))]) (st2 := fun t23 => [.int t23.1, .int v19, .ref 2]) (n := 146) (b := 0) xc_X7_215 (fun l t ht => met_X7_carry l w22 (w22 2 (ix v19)) t ht) rfl rfl rfl rfl dX7_carryAll_143 (Nat.le_of_ble_eq_true rfl) ⟨Nat.zero_le _, Nat.zero_le _⟩ (Nat.le_of_ble_eq_true rfl) (Nat.le_of_ble_eq_true rfl) (fun _ => rfl) rfl (fun t23 => ?_)
      refine XE_iast (hs2 := fun w24 => [w24]) (n := 147) rfl rfl rfl (Nat.le_of_ble_eq_true rfl) (fun _ => rfl) dX7_carryAll_146 rfl (fun w24 => ?_)
      refine XE_aload_n (n := 148) dX7_carryAll_147 rfl rfl rfl ?_
      refine XE_getr (b := 3) (n := 151) xf_X7_16 rfl rfl dX7_carryAll_148 rfl ?_
      refine XE_iload_n (n := 152) dX7_carryAll_151 rfl rfl rfl ?_
      refine XE_aload_n (n := 153) dX7_carryAll_152 rfl rfl rfl ?_
      refine XE_aload_n (n := 154) dX7_carryAll_153 rfl rfl rfl ?_
      refine XE_getr (b := 3) (n := 157) xf_X7_16 rfl rfl dX7_carryAll_154 rfl ?_
      refine XE_iload_n (n := 158) dX7_carryAll_157 rfl rfl rfl ?_
      refine XE_iald (row := w24 3) (n := 159) rfl rfl dX7_carryAll_158 rfl ?_
      refine XE_callVi (ni := 1) (As := [.int (w24 3 (ix v19))]) (st2 := fun t25 => [.int t25.1, .int v19, .ref 3]) (n := 162) (b := 0) xc_X7_215 (fun l t ht => met_X7_carry l w24 (w24 3 (ix v19)) t ht) rfl rfl rfl rfl dX7_carryAll_159 (Nat.le_of_ble_eq_true rfl) ⟨Nat.zero_le _, Nat.zero_le _⟩ (Nat.le_of_ble_eq_true rfl) (Nat.le_of_ble_eq_true rfl) (fun _ => rfl) rfl (fun t25 => ?_)
      refine XE_iast (hs2 := fun w26 => [w26]) (n := 163) rfl rfl rfl (Nat.le_of_ble_eq_true rfl) (fun _ => rfl) dX7_carryAll_162 rfl (fun w26 => ?_)
      refine XE_aload_n (n := 164) dX7_carryAll_163 rfl rfl rfl ?_
      refine XE_getr (b := 4) (n := 167) xf_X7_19 rfl rfl dX7_carryAll_164 rfl ?_
      refine XE_iload_n (n := 168) dX7_carryAll_167 rfl rfl rfl ?_
      refine XE_aload_n (n := 169) dX7_carryAll_168 rfl rfl rfl ?_
      refine XE_aload_n (n := 170) dX7_carryAll_169 rfl rfl rfl ?_
      refine XE_getr (b := 4) (n := 173) xf_X7_19 rfl rfl dX7_carryAll_170 rfl ?_
      refine XE_iload_n (n := 174) dX7_carryAll_173 rfl rfl rfl ?_
      refine XE_iald (row := w26 4) (n := 175) rfl rfl dX7_carryAll_174 rfl ?_
      refine XE_callVi (ni := 1) (As := [.int (w26 4 (ix v19))]) (st2 := fun t27 => [.int t27.1, .int v19, .ref 4]) (n := 178) (b := 0) xc_X7_215 (fun l t ht => met_X7_carry l w26 (w26 4 (ix v19)) t ht) rfl rfl rfl rfl dX7_carryAll_175 (Nat.le_of_ble_eq_true rfl) ⟨Nat.zero_le _, Nat.zero_le _⟩ (Nat.le_of_ble_eq_true rfl) (Nat.le_of_ble_eq_true rfl) (fun _ => rfl) rfl (fun t27 => ?_)
      refine XE_iast (hs2 := fun w28 => [w28]) (n := 179) rfl rfl rfl (Nat.le_of_ble_eq_true rfl) (fun _ => rfl) dX7_carryAll_178 rfl (fun w28 => ?_)
      refine XE_aload_n (n := 180) dX7_carryAll_179 rfl rfl rfl ?_
      refine XE_getr (b := 5) (n := 183) xf_X7_22 rfl rfl dX7_carryAll_180 rfl ?_
      refine XE_iload_n (n := 184) dX7_carryAll_183 rfl rfl rfl ?_
      refine XE_aload_n (n := 185) dX7_carryAll_184 rfl rfl rfl ?_
      refine XE_aload_n (n := 186) dX7_carryAll_185 rfl rfl rfl ?_
      refine XE_getr (b := 5) (n := 189) xf_X7_22 rfl rfl dX7_carryAll_186 rfl ?_
      refine XE_iload_n (n := 190) dX7_carryAll_189 rfl rfl rfl ?_
      refine XE_iald (row := w28 5) (n := 191) rfl rfl dX7_carryAll_190 rfl ?_
      refine XE_callVi (ni := 1) (As := [.int (w28 5 (ix v19))]) (st2 := fun t29 => [.int t29.1, .int v19, .ref 5]) (n := 194) (b := 0) xc_X7_215 (fun l t ht => met_X7_carry l w28 (w28 5 (ix v19)) t ht) rfl rfl rfl rfl dX7_carryAll_191 (Nat.le_of_ble_eq_true rfl) ⟨Nat.zero_le _, Nat.zero_le _⟩ (Nat.le_of_ble_eq_true rfl) (Nat.le_of_ble_eq_true rfl) (fun _ => rfl) rfl (fun t29 => ?_)
      refine XE_iast (hs2 := fun w30 => [w30]) (n := 195) rfl rfl rfl (Nat.le_of_ble_eq_true rfl) (fun _ => rfl) dX7_carryAll_194 rfl (fun w30 => ?_)
      refine XE_aload_n (n := 196) dX7_carryAll_195 rfl rfl rfl ?_
      refine XE_getr (b := 6) (n := 199) xf_X7_25 rfl rfl dX7_carryAll_196 rfl ?_
      refine XE_iload_n (n := 200) dX7_carryAll_199 rfl rfl rfl ?_
      refine XE_aload_n (n := 201) dX7_carryAll_200 rfl rfl rfl ?_
      refine XE_aload_n (n := 202) dX7_carryAll_201 rfl rfl rfl ?_
      refine XE_getr (b := 6) (n := 205) xf_X7_25 rfl rfl dX7_carryAll_202 rfl ?_
      refine XE_iload_n (n := 206) dX7_carryAll_205 rfl rfl rfl ?_
      refine XE_iald (row := w30 6) (n := 207) rfl rfl dX7_carryAll_206 rfl ?_
      refine XE_callVi (ni := 1) (As := [.int (w30 6 (ix v19))]) (st2 := fun t31 => [.int t31.1, .int v19, .ref 6]) (n := 210) (b := 0) xc_X7_215 (fun l t ht => met_X7_carry l w30 (w30 6 (ix v19)) t ht) rfl rfl rfl rfl dX7_carryAll_207 (Nat.le_of_ble_eq_true rfl) ⟨Nat.zero_le _, Nat.zero_le _⟩ (Nat.le_of_ble_eq_true rfl) (Nat.le_of_ble_eq_true rfl) (fun _ => rfl) rfl (fun t31 => ?_)
      refine XE_iast (hs2 := fun w32 => [w32]) (n := 211) rfl rfl rfl (Nat.le_of_ble_eq_true rfl) (fun _ => rfl) dX7_carryAll_210 rfl (fun w32 => ?_)
      refine XE_aload_n (n := 212) dX7_carryAll_211 rfl rfl rfl ?_
      refine XE_getr (b := 7) (n := 215) xf_X7_28 rfl rfl dX7_carryAll_212 rfl ?_
      refine XE_iload_n (n := 216) dX7_carryAll_215 rfl rfl rfl ?_
      refine XE_aload_n (n := 217) dX7_carryAll_216 rfl rfl rfl ?_
      refine XE_aload_n (n := 218) dX7_carryAll_217 rfl rfl rfl ?_
      refine XE_getr (b := 7) (n := 221) xf_X7_28 rfl rfl dX7_carryAll_218 rfl ?_
      refine XE_iload_n (n := 222) dX7_carryAll_221 rfl rfl rfl ?_
      refine XE_iald (row := w32 7) (n := 223) rfl rfl dX7_carryAll_222 rfl ?_
      refine XE_callVi (ni := 1) (As := [.int (w32 7 (ix v19))]) (st2 := fun t33 => [.int t33.1, .int v19, .ref 7]) (n := 226) (b := 0) xc_X7_215 (fun l t ht => met_X7_carry l w32 (w32 7 (ix v19)) t ht) rfl rfl rfl rfl dX7_carryAll_223 (Nat.le_of_ble_eq_true rfl) ⟨Nat.zero_le _, Nat.zero_le _⟩ (Nat.le_of_ble_eq_true rfl) (Nat.le_of_ble_eq_true rfl) (fun _ => rfl) rfl (fun t33 => ?_)
      refine XE_iast (hs2 := fun w34 => [w34]) (n := 227) rfl rfl rfl (Nat.le_of_ble_eq_true rfl) (fun _ => rfl) dX7_carryAll_226 rfl (fun w34 => ?_)
      refine XE_aload_n (n := 228) dX7_carryAll_227 rfl rfl rfl ?_
      refine XE_getr (b := 8) (n := 231) xf_X7_31 rfl rfl dX7_carryAll_228 rfl ?_
      refine XE_iload_n (n := 232) dX7_carryAll_231 rfl rfl rfl ?_
      refine XE_aload_n (n := 233) dX7_carryAll_232 rfl rfl rfl ?_
      refine XE_aload_n (n := 234) dX7_carryAll_233 rfl rfl rfl ?_
      refine XE_getr (b := 8) (n := 237) xf_X7_31 rfl rfl dX7_carryAll_234 rfl ?_
      refine XE_iload_n (n := 238) dX7_carryAll_237 rfl rfl rfl ?_
      refine XE_iald (row := w34 8) (n := 239) rfl rfl dX7_carryAll_238 rfl ?_
      refine XE_callVi (ni := 1) (As := [.int (w34 8 (ix v19))]) (st2 := fun t35 => [.int t35.1, .int v19, .ref 8]) (n := 242) (b := 0) xc_X7_215 (fun l t ht => met_X7_carry l w34 (w34 8 (ix v19)) t ht) rfl rfl rfl rfl dX7_carryAll_239 (Nat.le_of_ble_eq_true rfl) ⟨Nat.zero_le _, Nat.zero_le _⟩ (Nat.le_of_ble_eq_true rfl) (Nat.le_of_ble_eq_true rfl) (fun _ => rfl) rfl (fun t35 => ?_)
      refine XE_iast (hs2 := fun w36 => [w36]) (n := 243) rfl rfl rfl (Nat.le_of_ble_eq_true rfl) (fun _ => rfl) dX7_carryAll_242 rfl (fun w36 => ?_)
      refine XE_iincl (n := 246) dX7_carryAll_243 rfl rfl (by decide) (Nat.le_of_ble_eq_true rfl) rfl (fun v37 => ?_)
      refine XE_goto (n := 109) dX7_carryAll_246 rfl ?_
      refine XE_ls (x_sub_ok (ls' := [(0, some (.ref 0)), (3, some (.int v37))]) ⟨rfl, rfl, trivial⟩) ?_
      exact ih v37 w36
set_option maxRecDepth 100000 in
theorem xe_X7_carryAll_16 (B : XB) (m0 : Mem) (a2 : Int32) : XE B M_X7_carryAll_16 (XQm B 0 0 SH_M) 0 [(0, some (.ref 0)), (1, some (.ref 16)), (2, some (.int a2))] [] (0, 0) SH_M [m0] (fun t => some (none, [t])) (f_X7_carryAll_16 m0 a2) := by
  unfold f_X7_carryAll_16
  refine XE_aload_n (n := 1) dX7_carryAll_0 rfl rfl rfl ?_
  refine XE_aload_n (n := 2) dX7_carryAll_1 rfl rfl rfl ?_
  refine XE_putd (v := 16) (b := 16) (hs2 := fun w1 => [w1]) (n := 5) xf_X7_209 rfl rfl rfl rfl (Nat.le_of_ble_eq_true rfl) (fun _ => rfl) (by decide) (by decide) (Or.inl ⟨_, rfl⟩) dX7_carryAll_2 rfl (fun w1 => ?_)
  refine XE_aload_n (n := 6) dX7_carryAll_5 rfl rfl rfl ?_
  refine XE_iload_n (n := 7) dX7_carryAll_6 rfl rfl rfl ?_
  refine XE_ck (fun h3 => ?_)
  refine XE_putz (hs2 := fun w2 => [w2]) (n := 10) xf_X7_206 rfl rfl rfl rfl (Nat.le_of_ble_eq_true rfl) (fun _ => rfl) h3 dX7_carryAll_7 rfl (fun w2 => ?_)
  refine XE_aload_n (n := 11) dX7_carryAll_10 rfl rfl rfl ?_
  refine XE_iconst (v := 0) (n := 12) dX7_carryAll_11 rfl (by decide) ?_
  refine XE_putf (hs2 := fun w4 => [w4]) (n := 15) xf_X7_212 rfl rfl rfl rfl (Nat.le_of_ble_eq_true rfl) (fun _ => rfl) dX7_carryAll_12 rfl (fun w4 => ?_)
  refine XE_aload_n (n := 16) dX7_carryAll_15 rfl rfl rfl ?_
  refine XE_aload_n (n := 17) dX7_carryAll_16 rfl rfl rfl ?_
  refine XE_aload_n (n := 18) dX7_carryAll_17 rfl rfl rfl ?_
  refine XE_getf (v := w4 0 0) (n := 21) xf_X7_83 rfl rfl rfl dX7_carryAll_18 rfl ?_
  refine XE_callVi (ni := 1) (As := [.int (w4 0 0)]) (st2 := fun t5 => [.int t5.1, .ref 0]) (n := 24) (b := 0) xc_X7_215 (fun l t ht => met_X7_carry l w4 (w4 0 0) t ht) rfl rfl rfl rfl dX7_carryAll_21 (Nat.le_of_ble_eq_true rfl) ⟨Nat.zero_le _, Nat.zero_le _⟩ (Nat.le_of_ble_eq_true rfl) (Nat.le_of_ble_eq_true rfl) (fun _ => rfl) rfl (fun t5 => ?_)
  refine XE_putf (hs2 := fun w6 => [w6]) (n := 27) xf_X7_83 rfl rfl rfl rfl (Nat.le_of_ble_eq_true rfl) (fun _ => rfl) dX7_carryAll_24 rfl (fun w6 => ?_)
  refine XE_aload_n (n := 28) dX7_carryAll_27 rfl rfl rfl ?_
  refine XE_aload_n (n := 29) dX7_carryAll_28 rfl rfl rfl ?_
  refine XE_aload_n (n := 30) dX7_carryAll_29 rfl rfl rfl ?_
  refine XE_getf (v := w6 0 9) (n := 33) xf_X7_100 rfl rfl rfl dX7_carryAll_30 rfl ?_
  refine XE_callVi (ni := 1) (As := [.int (w6 0 9)]) (st2 := fun t7 => [.int t7.1, .ref 0]) (n := 36) (b := 0) xc_X7_215 (fun l t ht => met_X7_carry l w6 (w6 0 9) t ht) rfl rfl rfl rfl dX7_carryAll_33 (Nat.le_of_ble_eq_true rfl) ⟨Nat.zero_le _, Nat.zero_le _⟩ (Nat.le_of_ble_eq_true rfl) (Nat.le_of_ble_eq_true rfl) (fun _ => rfl) rfl (fun t7 => ?_)
  refine XE_putf (hs2 := fun w8 => [w8]) (n := 39) xf_X7_100 rfl rfl rfl rfl (Nat.le_of_ble_eq_true rfl) (fun _ => rfl) dX7_carryAll_36 rfl (fun w8 => ?_)
  refine XE_aload_n (n := 40) dX7_carryAll_39 rfl rfl rfl ?_
  refine XE_aload_n (n := 41) dX7_carryAll_40 rfl rfl rfl ?_
  refine XE_aload_n (n := 42) dX7_carryAll_41 rfl rfl rfl ?_
  refine XE_getf (v := w8 0 10) (n := 45) xf_X7_80 rfl rfl rfl dX7_carryAll_42 rfl ?_
  refine XE_callVi (ni := 1) (As := [.int (w8 0 10)]) (st2 := fun t9 => [.int t9.1, .ref 0]) (n := 48) (b := 0) xc_X7_215 (fun l t ht => met_X7_carry l w8 (w8 0 10) t ht) rfl rfl rfl rfl dX7_carryAll_45 (Nat.le_of_ble_eq_true rfl) ⟨Nat.zero_le _, Nat.zero_le _⟩ (Nat.le_of_ble_eq_true rfl) (Nat.le_of_ble_eq_true rfl) (fun _ => rfl) rfl (fun t9 => ?_)
  refine XE_putf (hs2 := fun w10 => [w10]) (n := 51) xf_X7_80 rfl rfl rfl rfl (Nat.le_of_ble_eq_true rfl) (fun _ => rfl) dX7_carryAll_48 rfl (fun w10 => ?_)
  refine XE_aload_n (n := 52) dX7_carryAll_51 rfl rfl rfl ?_
  refine XE_aload_n (n := 53) dX7_carryAll_52 rfl rfl rfl ?_
  refine XE_aload_n (n := 54) dX7_carryAll_53 rfl rfl rfl ?_
  refine XE_getf (v := w10 0 12) (n := 57) xf_X7_94 rfl rfl rfl dX7_carryAll_54 rfl ?_
  refine XE_callVi (ni := 1) (As := [.int (w10 0 12)]) (st2 := fun t11 => [.int t11.1, .ref 0]) (n := 60) (b := 0) xc_X7_215 (fun l t ht => met_X7_carry l w10 (w10 0 12) t ht) rfl rfl rfl rfl dX7_carryAll_57 (Nat.le_of_ble_eq_true rfl) ⟨Nat.zero_le _, Nat.zero_le _⟩ (Nat.le_of_ble_eq_true rfl) (Nat.le_of_ble_eq_true rfl) (fun _ => rfl) rfl (fun t11 => ?_)
  refine XE_putf (hs2 := fun w12 => [w12]) (n := 63) xf_X7_94 rfl rfl rfl rfl (Nat.le_of_ble_eq_true rfl) (fun _ => rfl) dX7_carryAll_60 rfl (fun w12 => ?_)
  refine XE_aload_n (n := 64) dX7_carryAll_63 rfl rfl rfl ?_
  refine XE_aload_n (n := 65) dX7_carryAll_64 rfl rfl rfl ?_
  refine XE_aload_n (n := 66) dX7_carryAll_65 rfl rfl rfl ?_
  refine XE_getf (v := w12 0 13) (n := 69) xf_X7_114 rfl rfl rfl dX7_carryAll_66 rfl ?_
  refine XE_callVi (ni := 1) (As := [.int (w12 0 13)]) (st2 := fun t13 => [.int t13.1, .ref 0]) (n := 72) (b := 0) xc_X7_215 (fun l t ht => met_X7_carry l w12 (w12 0 13) t ht) rfl rfl rfl rfl dX7_carryAll_69 (Nat.le_of_ble_eq_true rfl) ⟨Nat.zero_le _, Nat.zero_le _⟩ (Nat.le_of_ble_eq_true rfl) (Nat.le_of_ble_eq_true rfl) (fun _ => rfl) rfl (fun t13 => ?_)
  refine XE_putf (hs2 := fun w14 => [w14]) (n := 75) xf_X7_114 rfl rfl rfl rfl (Nat.le_of_ble_eq_true rfl) (fun _ => rfl) dX7_carryAll_72 rfl (fun w14 => ?_)
  refine XE_aload_n (n := 76) dX7_carryAll_75 rfl rfl rfl ?_
  refine XE_getr (b := 9) (n := 79) xf_X7_34 rfl rfl dX7_carryAll_76 rfl ?_
  refine XE_iconst (v := 0) (n := 80) dX7_carryAll_79 rfl (by decide) ?_
  refine XE_aload_n (n := 81) dX7_carryAll_80 rfl rfl rfl ?_
  refine XE_aload_n (n := 82) dX7_carryAll_81 rfl rfl rfl ?_
  refine XE_getr (b := 9) (n := 85) xf_X7_34 rfl rfl dX7_carryAll_82 rfl ?_
  refine XE_iconst (v := 0) (n := 86) dX7_carryAll_85 rfl (by decide) ?_
  refine XE_ialdc (row := w14 9) (j := 0) (n := 87) rfl rfl rfl rfl dX7_carryAll_86 rfl ?_
  refine XE_callVi (ni := 1) (As := [.int (w14 9 0)]) (st2 := fun t15 => [.int t15.1, .int 0, .ref 9]) (n := 90) (b := 0) xc_X7_215 (fun l t ht => met_X7_carry l w14 (w14 9 0) t ht) rfl rfl rfl rfl dX7_carryAll_87 (Nat.le_of_ble_eq_true rfl) ⟨Nat.zero_le _, Nat.zero_le _⟩ (Nat.le_of_ble_eq_true rfl) (Nat.le_of_ble_eq_true rfl) (fun _ => rfl) rfl (fun t15 => ?_)
  refine XE_iastj (j := 0) (hs2 := fun w16 => [w16]) (n := 91) rfl rfl rfl (Nat.le_of_ble_eq_true rfl) (fun _ => rfl) rfl rfl dX7_carryAll_90 rfl (fun w16 => ?_)
  refine XE_aload_n (n := 92) dX7_carryAll_91 rfl rfl rfl ?_
  refine XE_getr (b := 9) (n := 95) xf_X7_34 rfl rfl dX7_carryAll_92 rfl ?_
  refine XE_iconst (v := 1) (n := 96) dX7_carryAll_95 rfl (by decide) ?_
  refine XE_aload_n (n := 97) dX7_carryAll_96 rfl rfl rfl ?_
  refine XE_aload_n (n := 98) dX7_carryAll_97 rfl rfl rfl ?_
  refine XE_getr (b := 9) (n := 101) xf_X7_34 rfl rfl dX7_carryAll_98 rfl ?_
  refine XE_iconst (v := 1) (n := 102) dX7_carryAll_101 rfl (by decide) ?_
  refine XE_ialdc (row := w16 9) (j := 1) (n := 103) rfl rfl rfl rfl dX7_carryAll_102 rfl ?_
  refine XE_callVi (ni := 1) (As := [.int (w16 9 1)]) (st2 := fun t17 => [.int t17.1, .int 1, .ref 9]) (n := 106) (b := 0) xc_X7_215 (fun l t ht => met_X7_carry l w16 (w16 9 1) t ht) rfl rfl rfl rfl dX7_carryAll_103 (Nat.le_of_ble_eq_true rfl) ⟨Nat.zero_le _, Nat.zero_le _⟩ (Nat.le_of_ble_eq_true rfl) (Nat.le_of_ble_eq_true rfl) (fun _ => rfl) rfl (fun t17 => ?_)
  refine XE_iastj (j := 1) (hs2 := fun w18 => [w18]) (n := 107) rfl rfl rfl (Nat.le_of_ble_eq_true rfl) (fun _ => rfl) rfl rfl dX7_carryAll_106 rfl (fun w18 => ?_)
  refine XE_iconst (v := 0) (n := 108) dX7_carryAll_107 rfl (by decide) ?_
  refine XE_istore_n (i := 3) (n := 109) dX7_carryAll_108 rfl rfl (Nat.le_of_ble_eq_true rfl) rfl ?_
  refine XE_ls (x_sub_ok (ls' := [(0, some (.ref 0)), (3, some (.int 0))]) ⟨rfl, rfl, trivial⟩) ?_
  refine XE_reg (J := 249) (lsJ := fun t39 => []) (stJ := fun t39 => []) (hsJ := fun t39 => [t39]) (fun t39 => ?_) (fun hJ40 => f_X7_carryAll_16_L109_x B hJ40 6000 (0 : Int32) w18)
  exact XE_vreturn rfl dX7_carryAll_249 rfl (Nat.le_refl _) (Nat.le_refl _)
theorem met_X7_carryAll_16 (l : Launch) (m0 : Mem) (a2 : Int32) (t : Mem) (ht : f_X7_carryAll_16 m0 a2 = some t) : XMet l yX7_carryAll cX7_carryAll 4 none 2 0 0 [.ref 0, .ref 16, .int a2] SH_M [m0] SH_M (none, [t]) := XMet.of (by decide +kernel) (fun _ => Nat.le_of_ble_eq_true rfl) (fun B => xe_X7_carryAll_16 B m0 a2) (by rw [ht]; rfl)
/-! X7_image: EveryTwentyMinutesModel.image()I in world M at (0,) -/
abbrev M_X7_image : XM := (RX7, cX7_image, 1, (some .int), "image", 3, 0, 0)
def f_X7_image (m0 : Mem) : Option (Int32 × Mem) :=
  lt (xs m0 0 14 0) fun w1 =>
  lt (xs w1 0 26 1) fun w2 =>
  (f_X7_carryAll_16 w2 1).bind fun t3 =>
  some ((t3 0 9), t3)
set_option maxRecDepth 100000 in
theorem xe_X7_image (B : XB) (m0 : Mem) : XE B M_X7_image (XQm B 0 0 SH_M) 0 [(0, some (.ref 0))] [] (0, 0) SH_M [m0] (fun t => some (some (.int t.1), [t.2])) (f_X7_image m0) := by
  unfold f_X7_image
  refine XE_aload_n (n := 1) dX7_image_0 rfl rfl rfl ?_
  refine XE_iconst (v := 0) (n := 2) dX7_image_1 rfl (by decide) ?_
  refine XE_putf (hs2 := fun w1 => [w1]) (n := 5) xf_X7_76 rfl rfl rfl rfl (Nat.le_of_ble_eq_true rfl) (fun _ => rfl) dX7_image_2 rfl (fun w1 => ?_)
  refine XE_aload_n (n := 6) dX7_image_5 rfl rfl rfl ?_
  refine XE_iconst (v := 1) (n := 7) dX7_image_6 rfl (by decide) ?_
  refine XE_putz (hs2 := fun w2 => [w2]) (n := 10) xf_X7_222 rfl rfl rfl rfl (Nat.le_of_ble_eq_true rfl) (fun _ => rfl) rfl dX7_image_7 rfl (fun w2 => ?_)
  refine XE_aload_n (n := 11) dX7_image_10 rfl rfl rfl ?_
  refine XE_aload_n (n := 12) dX7_image_11 rfl rfl rfl ?_
  refine XE_getr (b := 16) (n := 15) xf_X7_55 rfl rfl dX7_image_12 rfl ?_
  refine XE_iconst (v := 1) (n := 16) dX7_image_15 rfl (by decide) ?_
  refine XE_callVi (ni := 2) (As := [.ref 16, .int 1]) (st2 := fun t3 => []) (n := 19) (b := 0) xc_X7_218 (fun l t ht => met_X7_carryAll_16 l w2 1 t ht) rfl rfl rfl rfl dX7_image_16 (Nat.le_of_ble_eq_true rfl) ⟨Nat.zero_le _, Nat.zero_le _⟩ (Nat.le_of_ble_eq_true rfl) (Nat.le_of_ble_eq_true rfl) (fun _ => rfl) rfl (fun t3 => ?_)
  refine XE_aload_n (n := 20) dX7_image_19 rfl rfl rfl ?_
  refine XE_getf (v := t3 0 9) (n := 23) xf_X7_100 rfl rfl rfl dX7_image_20 rfl ?_
  exact XE_ireturn rfl dX7_image_23 rfl (Nat.le_refl _) (Nat.le_refl _)
theorem met_X7_image (l : Launch) (m0 : Mem) (t : Int32 × Mem) (ht : f_X7_image m0 = some t) : XMet l yX7_image cX7_image 1 (some .int) 3 0 0 [.ref 0] SH_M [m0] SH_M (some (.int t.1), [t.2]) := XMet.of (by decide +kernel) (fun _ => Nat.le_of_ble_eq_true rfl) (fun B => xe_X7_image B m0) (by rw [ht]; rfl)
/-! X7_restore: EveryTwentyMinutesModel.restore()I in world M at (0,) -/
abbrev M_X7_restore : XM := (RX7, cX7_restore, 1, (some .int), "restore", 3, 0, 0)
def f_X7_restore (m0 : Mem) : Option (Int32 × Mem) :=
  lt (xs m0 0 14 0) fun w1 =>
  if (w1 0 26) = 0 then
    (f_X7_refuse w1 (-3)).bind fun t4 =>
    some (t4.1, t4.2)
  else
    (f_X7_carryAll_16 w1 0).bind fun t2 =>
    lt (xs t2 0 32 0) fun w3 =>
    some ((w3 0 9), w3)
set_option maxRecDepth 100000 in
theorem xe_X7_restore (B : XB) (m0 : Mem) : XE B M_X7_restore (XQm B 0 0 SH_M) 0 [(0, some (.ref 0))] [] (0, 0) SH_M [m0] (fun t => some (some (.int t.1), [t.2])) (f_X7_restore m0) := by
  unfold f_X7_restore
  refine XE_aload_n (n := 1) dX7_restore_0 rfl rfl rfl ?_
  refine XE_iconst (v := 0) (n := 2) dX7_restore_1 rfl (by decide) ?_
  refine XE_putf (hs2 := fun w1 => [w1]) (n := 5) xf_X7_76 rfl rfl rfl rfl (Nat.le_of_ble_eq_true rfl) (fun _ => rfl) dX7_restore_2 rfl (fun w1 => ?_)
  refine XE_aload_n (n := 6) dX7_restore_5 rfl rfl rfl ?_
  refine XE_getf (v := w1 0 26) (n := 9) xf_X7_222 rfl rfl rfl dX7_restore_6 rfl ?_
  refine XE_if_ne (t := 19) (n := 12) dX7_restore_9 rfl rfl (fun h5 => ?_) (fun h5 => ?_)
  · refine XE_aload_n (n := 13) dX7_restore_12 rfl rfl rfl ?_
    refine XE_bipush (v := (-3)) (n := 15) dX7_restore_13 rfl (by decide) ?_
    refine XE_callVi (ni := 1) (As := [.int (-3)]) (st2 := fun t4 => [.int t4.1]) (n := 18) (b := 0) xc_X7_138 (fun l t ht => met_X7_refuse l w1 (-3) t ht) rfl rfl rfl rfl dX7_restore_15 (Nat.le_of_ble_eq_true rfl) ⟨Nat.zero_le _, Nat.zero_le _⟩ (Nat.le_of_ble_eq_true rfl) (Nat.le_of_ble_eq_true rfl) (fun _ => rfl) rfl (fun t4 => ?_)
    exact XE_ireturn rfl dX7_restore_18 rfl (Nat.le_refl _) (Nat.le_refl _)
  · refine XE_aload_n (n := 20) dX7_restore_19 rfl rfl rfl ?_
    refine XE_aload_n (n := 21) dX7_restore_20 rfl rfl rfl ?_
    refine XE_getr (b := 16) (n := 24) xf_X7_55 rfl rfl dX7_restore_21 rfl ?_
    refine XE_iconst (v := 0) (n := 25) dX7_restore_24 rfl (by decide) ?_
    refine XE_callVi (ni := 2) (As := [.ref 16, .int 0]) (st2 := fun t2 => []) (n := 28) (b := 0) xc_X7_218 (fun l t ht => met_X7_carryAll_16 l w1 0 t ht) rfl rfl rfl rfl dX7_restore_25 (Nat.le_of_ble_eq_true rfl) ⟨Nat.zero_le _, Nat.zero_le _⟩ (Nat.le_of_ble_eq_true rfl) (Nat.le_of_ble_eq_true rfl) (fun _ => rfl) rfl (fun t2 => ?_)
    refine XE_aload_n (n := 29) dX7_restore_28 rfl rfl rfl ?_
    refine XE_iconst (v := 0) (n := 30) dX7_restore_29 rfl (by decide) ?_
    refine XE_putf (hs2 := fun w3 => [w3]) (n := 33) xf_X7_203 rfl rfl rfl rfl (Nat.le_of_ble_eq_true rfl) (fun _ => rfl) dX7_restore_30 rfl (fun w3 => ?_)
    refine XE_aload_n (n := 34) dX7_restore_33 rfl rfl rfl ?_
    refine XE_getf (v := w3 0 9) (n := 37) xf_X7_100 rfl rfl rfl dX7_restore_34 rfl ?_
    exact XE_ireturn rfl dX7_restore_37 rfl (Nat.le_refl _) (Nat.le_refl _)
theorem met_X7_restore (l : Launch) (m0 : Mem) (t : Int32 × Mem) (ht : f_X7_restore m0 = some t) : XMet l yX7_restore cX7_restore 1 (some .int) 3 0 0 [.ref 0] SH_M [m0] SH_M (some (.int t.1), [t.2]) := XMet.of (by decide +kernel) (fun _ => Nat.le_of_ble_eq_true rfl) (fun B => xe_X7_restore B m0) (by rw [ht]; rfl)
/-! X7_carryAll_18: EveryTwentyMinutesModel.carryAll([IZ)V in world M at (0, 18) -/
abbrev M_X7_carryAll_18 : XM := (RX7, cX7_carryAll, 4, none, "carryAll", 2, 0, 0)
def f_X7_carryAll_18_L109 : Nat → Int32 → Mem → Option (Mem)
  | 0, _, _ => none
  | n + 1, v19, w20 =>
    if 7 ≤ v19 then
      some (w20)
    else
      ck (inb v19 7) <|
      (f_X7_carry w20 (w20 1 (ix v19))).bind fun t21 =>
      ck (inb v19 7) <|
      lt (xs t21.2 1 (ix v19) t21.1) fun w22 =>
      ck (inb v19 7) <|
      (f_X7_carry w22 (w22 2 (ix v19))).bind fun t23 =>
      ck (inb v19 7) <|
      lt (xs t23.2 2 (ix v19) t23.1) fun w24 =>
      ck (inb v19 7) <|
      (f_X7_carry w24 (w24 3 (ix v19))).bind fun t25 =>
      ck (inb v19 7) <|
      lt (xs t25.2 3 (ix v19) t25.1) fun w26 =>
      ck (inb v19 7) <|
      (f_X7_carry w26 (w26 4 (ix v19))).bind fun t27 =>
      ck (inb v19 7) <|
      lt (xs t27.2 4 (ix v19) t27.1) fun w28 =>
      ck (inb v19 7) <|
      (f_X7_carry w28 (w28 5 (ix v19))).bind fun t29 =>
      ck (inb v19 7) <|
      lt (xs t29.2 5 (ix v19) t29.1) fun w30 =>
      ck (inb v19 7) <|
      (f_X7_carry w30 (w30 6 (ix v19))).bind fun t31 =>
      ck (inb v19 7) <|
      lt (xs t31.2 6 (ix v19) t31.1) fun w32 =>
      ck (inb v19 7) <|
      (f_X7_carry w32 (w32 7 (ix v19))).bind fun t33 =>
      ck (inb v19 7) <|
      lt (xs t33.2 7 (ix v19) t33.1) fun w34 =>
      ck (inb v19 7) <|
      (f_X7_carry w34 (w34 8 (ix v19))).bind fun t35 =>
      ck (inb v19 7) <|
      lt (xs t35.2 8 (ix v19) t35.1) fun w36 =>
      lt (v19 + 1) fun v37 =>
      (f_X7_carryAll_18_L109 n) v37 w36
def f_X7_carryAll_18 (m0 : Mem) (a2 : Int32) : Option (Mem) :=
  lt (xs m0 0 29 18) fun w1 =>
  ck (isb a2) <|
  lt (xs w1 0 28 a2) fun w2 =>
  lt (xs w2 0 27 0) fun w4 =>
  (f_X7_carry w4 (w4 0 0)).bind fun t5 =>
  lt (xs t5.2 0 0 t5.1) fun w6 =>
  (f_X7_carry w6 (w6 0 9)).bind fun t7 =>
  lt (xs t7.2 0 9 t7.1) fun w8 =>
  (f_X7_carry w8 (w8 0 10)).bind fun t9 =>
  lt (xs t9.2 0 10 t9.1) fun w10 =>
  (f_X7_carry w10 (w10 0 12)).bind fun t11 =>
  lt (xs t11.2 0 12 t11.1) fun w12 =>
  (f_X7_carry w12 (w12 0 13)).bind fun t13 =>
  lt (xs t13.2 0 13 t13.1) fun w14 =>
  (f_X7_carry w14 (w14 9 0)).bind fun t15 =>
  lt (xs t15.2 9 0 t15.1) fun w16 =>
  (f_X7_carry w16 (w16 9 1)).bind fun t17 =>
  lt (xs t17.2 9 1 t17.1) fun w18 =>
  (f_X7_carryAll_18_L109 6000 (0 : Int32) w18).bind fun t39 =>
  some t39
set_option maxRecDepth 100000 in
theorem f_X7_carryAll_18_L109_x {α R : Type} (B : XB) {Q : R → State → Prop} {k : α → Option R} {r : (Mem) → Option α} (hE : ∀ t0 : (Mem), XE B M_X7_carryAll_18 Q 249 [] [] (0, 0) SH_M [t0] (fun t => (r t).bind k) (some t0)) : ∀ (n : Nat) (v19 : Int32) (w20 : Mem), XE B M_X7_carryAll_18 Q 109 [(0, some (.ref 0)), (3, some (.int v19))] [] (0, 0) SH_M [w20] (fun t => (r t).bind k) (f_X7_carryAll_18_L109 n v19 w20) := by
  intro n
  induction n with
  | zero => intros; exact XE_none
  | succ n ih =>
    intro v19 w20
    rw [f_X7_carryAll_18_L109]
    refine XE_iload_n (n := 110) dX7_carryAll_109 rfl rfl rfl ?_
    refine XE_bipush (v := 7) (n := 112) dX7_carryAll_110 rfl (by decide) ?_
    refine XE_icmp_ge (t := 249) (n := 115) dX7_carryAll_112 rfl rfl (fun h38 => ?_) (fun h38 => ?_)
    · refine XE_ls (x_sub_ok (ls' := []) trivial) ?_
      exact hE (w20)
    · refine XE_aload_n (n := 116) dX7_carryAll_115 rfl rfl rfl ?_
      refine XE_getr (b := 1) (n := 119) xf_X7_7 rfl rfl dX7_carryAll_116 rfl ?_
      refine XE_iload_n (n := 120) dX7_carryAll_119 rfl rfl rfl ?_
      refine XE_aload_n (n := 121) dX7_carryAll_120 rfl rfl rfl ?_
      refine XE_aload_n (n := 122) dX7_carryAll_121 rfl rfl rfl ?_
      refine XE_getr (b := 1) (n := 125) xf_X7_7 rfl rfl dX7_carryAll_122 rfl ?_
      refine XE_iload_n (n := 126) dX7_carryAll_125 rfl rfl rfl ?_
      refine XE_iald (row := w20 1) (n := 127) rfl rfl dX7_carryAll_126 rfl ?_
      refine XE_callVi (ni := 1) (As := [.int (w20 1 (ix v19))]) (st2 := fun t21 => [.int t21.1, .int v19, .ref 1]) (n := 130) (b := 0) xc_X7_215 (fun l t ht => met_X7_carry l w20 (w20 1 (ix v19)) t ht) rfl rfl rfl rfl dX7_carryAll_127 (Nat.le_of_ble_eq_true rfl) ⟨Nat.zero_le _, Nat.zero_le _⟩ (Nat.le_of_ble_eq_true rfl) (Nat.le_of_ble_eq_true rfl) (fun _ => rfl) rfl (fun t21 => ?_)
      refine XE_iast (hs2 := fun w22 => [w22]) (n := 131) rfl rfl rfl (Nat.le_of_ble_eq_true rfl) (fun _ => rfl) dX7_carryAll_130 rfl (fun w22 => ?_)
      refine XE_aload_n (n := 132) dX7_carryAll_131 rfl rfl rfl ?_
      refine XE_getr (b := 2) (n := 135) xf_X7_13 rfl rfl dX7_carryAll_132 rfl ?_
      refine XE_iload_n (n := 136) dX7_carryAll_135 rfl rfl rfl ?_
      refine XE_aload_n (n := 137) dX7_carryAll_136 rfl rfl rfl ?_
      refine XE_aload_n (n := 138) dX7_carryAll_137 rfl rfl rfl ?_
      refine XE_getr (b := 2) (n := 141) xf_X7_13 rfl rfl dX7_carryAll_138 rfl ?_
      refine XE_iload_n (n := 142) dX7_carryAll_141 rfl rfl rfl ?_
      refine XE_iald (row := w22 2) (n := 143) rfl rfl dX7_carryAll_142 rfl ?_
      refine XE_callVi (ni := 1) (As := [.int (w22 2 (ix v19))]) (st2 := fun t23 => [.int t23.1, .int v19, .ref 2]) (n := 146) (b := 0) xc_X7_215 (fun l t ht => met_X7_carry l w22 (w22 2 (ix v19)) t ht) rfl rfl rfl rfl dX7_carryAll_143 (Nat.le_of_ble_eq_true rfl) ⟨Nat.zero_le _, Nat.zero_le _⟩ (Nat.le_of_ble_eq_true rfl) (Nat.le_of_ble_eq_true rfl) (fun _ => rfl) rfl (fun t23 => ?_)
      refine XE_iast (hs2 := fun w24 => [w24]) (n := 147) rfl rfl rfl (Nat.le_of_ble_eq_true rfl) (fun _ => rfl) dX7_carryAll_146 rfl (fun w24 => ?_)
      refine XE_aload_n (n := 148) dX7_carryAll_147 rfl rfl rfl ?_
      refine XE_getr (b := 3) (n := 151) xf_X7_16 rfl rfl dX7_carryAll_148 rfl ?_
      refine XE_iload_n (n := 152) dX7_carryAll_151 rfl rfl rfl ?_
      refine XE_aload_n (n := 153) dX7_carryAll_152 rfl rfl rfl ?_
      refine XE_aload_n (n := 154) dX7_carryAll_153 rfl rfl rfl ?_
      refine XE_getr (b := 3) (n := 157) xf_X7_16 rfl rfl dX7_carryAll_154 rfl ?_
      refine XE_iload_n (n := 158) dX7_carryAll_157 rfl rfl rfl ?_
      refine XE_iald (row := w24 3) (n := 159) rfl rfl dX7_carryAll_158 rfl ?_
      refine XE_callVi (ni := 1) (As := [.int (w24 3 (ix v19))]) (st2 := fun t25 => [.int t25.1, .int v19, .ref 3]) (n := 162) (b := 0) xc_X7_215 (fun l t ht => met_X7_carry l w24 (w24 3 (ix v19)) t ht) rfl rfl rfl rfl dX7_carryAll_159 (Nat.le_of_ble_eq_true rfl) ⟨Nat.zero_le _, Nat.zero_le _⟩ (Nat.le_of_ble_eq_true rfl) (Nat.le_of_ble_eq_true rfl) (fun _ => rfl) rfl (fun t25 => ?_)
      refine XE_iast (hs2 := fun w26 => [w26]) (n := 163) rfl rfl rfl (Nat.le_of_ble_eq_true rfl) (fun _ => rfl) dX7_carryAll_162 rfl (fun w26 => ?_)
      refine XE_aload_n (n := 164) dX7_carryAll_163 rfl rfl rfl ?_
      refine XE_getr (b := 4) (n := 167) xf_X7_19 rfl rfl dX7_carryAll_164 rfl ?_
      refine XE_iload_n (n := 168) dX7_carryAll_167 rfl rfl rfl ?_
      refine XE_aload_n (n := 169) dX7_carryAll_168 rfl rfl rfl ?_
      refine XE_aload_n (n := 170) dX7_carryAll_169 rfl rfl rfl ?_
      refine XE_getr (b := 4) (n := 173) xf_X7_19 rfl rfl dX7_carryAll_170 rfl ?_
      refine XE_iload_n (n := 174) dX7_carryAll_173 rfl rfl rfl ?_
      refine XE_iald (row := w26 4) (n := 175) rfl rfl dX7_carryAll_174 rfl ?_
      refine XE_callVi (ni := 1) (As := [.int (w26 4 (ix v19))]) (st2 := fun t27 => [.int t27.1, .int v19, .ref 4]) (n := 178) (b := 0) xc_X7_215 (fun l t ht => met_X7_carry l w26 (w26 4 (ix v19)) t ht) rfl rfl rfl rfl dX7_carryAll_175 (Nat.le_of_ble_eq_true rfl) ⟨Nat.zero_le _, Nat.zero_le _⟩ (Nat.le_of_ble_eq_true rfl) (Nat.le_of_ble_eq_true rfl) (fun _ => rfl) rfl (fun t27 => ?_)
      refine XE_iast (hs2 := fun w28 => [w28]) (n := 179) rfl rfl rfl (Nat.le_of_ble_eq_true rfl) (fun _ => rfl) dX7_carryAll_178 rfl (fun w28 => ?_)
      refine XE_aload_n (n := 180) dX7_carryAll_179 rfl rfl rfl ?_
      refine XE_getr (b := 5) (n := 183) xf_X7_22 rfl rfl dX7_carryAll_180 rfl ?_
      refine XE_iload_n (n := 184) dX7_carryAll_183 rfl rfl rfl ?_
      refine XE_aload_n (n := 185) dX7_carryAll_184 rfl rfl rfl ?_
      refine XE_aload_n (n := 186) dX7_carryAll_185 rfl rfl rfl ?_
      refine XE_getr (b := 5) (n := 189) xf_X7_22 rfl rfl dX7_carryAll_186 rfl ?_
      refine XE_iload_n (n := 190) dX7_carryAll_189 rfl rfl rfl ?_
      refine XE_iald (row := w28 5) (n := 191) rfl rfl dX7_carryAll_190 rfl ?_
      refine XE_callVi (ni := 1) (As := [.int (w28 5 (ix v19))]) (st2 := fun t29 => [.int t29.1, .int v19, .ref 5]) (n := 194) (b := 0) xc_X7_215 (fun l t ht => met_X7_carry l w28 (w28 5 (ix v19)) t ht) rfl rfl rfl rfl dX7_carryAll_191 (Nat.le_of_ble_eq_true rfl) ⟨Nat.zero_le _, Nat.zero_le _⟩ (Nat.le_of_ble_eq_true rfl) (Nat.le_of_ble_eq_true rfl) (fun _ => rfl) rfl (fun t29 => ?_)
      refine XE_iast (hs2 := fun w30 => [w30]) (n := 195) rfl rfl rfl (Nat.le_of_ble_eq_true rfl) (fun _ => rfl) dX7_carryAll_194 rfl (fun w30 => ?_)
      refine XE_aload_n (n := 196) dX7_carryAll_195 rfl rfl rfl ?_
      refine XE_getr (b := 6) (n := 199) xf_X7_25 rfl rfl dX7_carryAll_196 rfl ?_
      refine XE_iload_n (n := 200) dX7_carryAll_199 rfl rfl rfl ?_
      refine XE_aload_n (n := 201) dX7_carryAll_200 rfl rfl rfl ?_
      refine XE_aload_n (n := 202) dX7_carryAll_201 rfl rfl rfl ?_
      refine XE_getr (b := 6) (n := 205) xf_X7_25 rfl rfl dX7_carryAll_202 rfl ?_
      refine XE_iload_n (n := 206) dX7_carryAll_205 rfl rfl rfl ?_
      refine XE_iald (row := w30 6) (n := 207) rfl rfl dX7_carryAll_206 rfl ?_
      refine XE_callVi (ni := 1) (As := [.int (w30 6 (ix v19))]) (st2 := fun t31 => [.int t31.1, .int v19, .ref 6]) (n := 210) (b := 0) xc_X7_215 (fun l t ht => met_X7_carry l w30 (w30 6 (ix v19)) t ht) rfl rfl rfl rfl dX7_carryAll_207 (Nat.le_of_ble_eq_true rfl) ⟨Nat.zero_le _, Nat.zero_le _⟩ (Nat.le_of_ble_eq_true rfl) (Nat.le_of_ble_eq_true rfl) (fun _ => rfl) rfl (fun t31 => ?_)
      refine XE_iast (hs2 := fun w32 => [w32]) (n := 211) rfl rfl rfl (Nat.le_of_ble_eq_true rfl) (fun _ => rfl) dX7_carryAll_210 rfl (fun w32 => ?_)
      refine XE_aload_n (n := 212) dX7_carryAll_211 rfl rfl rfl ?_
      refine XE_getr (b := 7) (n := 215) xf_X7_28 rfl rfl dX7_carryAll_212 rfl ?_
      refine XE_iload_n (n := 216) dX7_carryAll_215 rfl rfl rfl ?_
      refine XE_aload_n (n := 217) dX7_carryAll_216 rfl rfl rfl ?_
      refine XE_aload_n (n := 218) dX7_carryAll_217 rfl rfl rfl ?_
      refine XE_getr (b := 7) (n := 221) xf_X7_28 rfl rfl dX7_carryAll_218 rfl ?_
      refine XE_iload_n (n := 222) dX7_carryAll_221 rfl rfl rfl ?_
      refine XE_iald (row := w32 7) (n := 223) rfl rfl dX7_carryAll_222 rfl ?_
      refine XE_callVi (ni := 1) (As := [.int (w32 7 (ix v19))]) (st2 := fun t33 => [.int t33.1, .int v19, .ref 7]) (n := 226) (b := 0) xc_X7_215 (fun l t ht => met_X7_carry l w32 (w32 7 (ix v19)) t ht) rfl rfl rfl rfl dX7_carryAll_223 (Nat.le_of_ble_eq_true rfl) ⟨Nat.zero_le _, Nat.zero_le _⟩ (Nat.le_of_ble_eq_true rfl) (Nat.le_of_ble_eq_true rfl) (fun _ => rfl) rfl (fun t33 => ?_)
      refine XE_iast (hs2 := fun w34 => [w34]) (n := 227) rfl rfl rfl (Nat.le_of_ble_eq_true rfl) (fun _ => rfl) dX7_carryAll_226 rfl (fun w34 => ?_)
      refine XE_aload_n (n := 228) dX7_carryAll_227 rfl rfl rfl ?_
      refine XE_getr (b := 8) (n := 231) xf_X7_31 rfl rfl dX7_carryAll_228 rfl ?_
      refine XE_iload_n (n := 232) dX7_carryAll_231 rfl rfl rfl ?_
      refine XE_aload_n (n := 233) dX7_carryAll_232 rfl rfl rfl ?_
      refine XE_aload_n (n := 234) dX7_carryAll_233 rfl rfl rfl ?_
      refine XE_getr (b := 8) (n := 237) xf_X7_31 rfl rfl dX7_carryAll_234 rfl ?_
      refine XE_iload_n (n := 238) dX7_carryAll_237 rfl rfl rfl ?_
      refine XE_iald (row := w34 8) (n := 239) rfl rfl dX7_carryAll_238 rfl ?_
      refine XE_callVi (ni := 1) (As := [.int (w34 8 (ix v19))]) (st2 := fun t35 => [.int t35.1, .int v19, .ref 8]) (n := 242) (b := 0) xc_X7_215 (fun l t ht => met_X7_carry l w34 (w34 8 (ix v19)) t ht) rfl rfl rfl rfl dX7_carryAll_239 (Nat.le_of_ble_eq_true rfl) ⟨Nat.zero_le _, Nat.zero_le _⟩ (Nat.le_of_ble_eq_true rfl) (Nat.le_of_ble_eq_true rfl) (fun _ => rfl) rfl (fun t35 => ?_)
      refine XE_iast (hs2 := fun w36 => [w36]) (n := 243) rfl rfl rfl (Nat.le_of_ble_eq_true rfl) (fun _ => rfl) dX7_carryAll_242 rfl (fun w36 => ?_)
      refine XE_iincl (n := 246) dX7_carryAll_243 rfl rfl (by decide) (Nat.le_of_ble_eq_true rfl) rfl (fun v37 => ?_)
      refine XE_goto (n := 109) dX7_carryAll_246 rfl ?_
      refine XE_ls (x_sub_ok (ls' := [(0, some (.ref 0)), (3, some (.int v37))]) ⟨rfl, rfl, trivial⟩) ?_
      exact ih v37 w36
set_option maxRecDepth 100000 in
theorem xe_X7_carryAll_18 (B : XB) (m0 : Mem) (a2 : Int32) : XE B M_X7_carryAll_18 (XQm B 0 0 SH_M) 0 [(0, some (.ref 0)), (1, some (.ref 18)), (2, some (.int a2))] [] (0, 0) SH_M [m0] (fun t => some (none, [t])) (f_X7_carryAll_18 m0 a2) := by
  unfold f_X7_carryAll_18
  refine XE_aload_n (n := 1) dX7_carryAll_0 rfl rfl rfl ?_
  refine XE_aload_n (n := 2) dX7_carryAll_1 rfl rfl rfl ?_
  refine XE_putd (v := 18) (b := 18) (hs2 := fun w1 => [w1]) (n := 5) xf_X7_209 rfl rfl rfl rfl (Nat.le_of_ble_eq_true rfl) (fun _ => rfl) (by decide) (by decide) (Or.inl ⟨_, rfl⟩) dX7_carryAll_2 rfl (fun w1 => ?_)
  refine XE_aload_n (n := 6) dX7_carryAll_5 rfl rfl rfl ?_
  refine XE_iload_n (n := 7) dX7_carryAll_6 rfl rfl rfl ?_
  refine XE_ck (fun h3 => ?_)
  refine XE_putz (hs2 := fun w2 => [w2]) (n := 10) xf_X7_206 rfl rfl rfl rfl (Nat.le_of_ble_eq_true rfl) (fun _ => rfl) h3 dX7_carryAll_7 rfl (fun w2 => ?_)
  refine XE_aload_n (n := 11) dX7_carryAll_10 rfl rfl rfl ?_
  refine XE_iconst (v := 0) (n := 12) dX7_carryAll_11 rfl (by decide) ?_
  refine XE_putf (hs2 := fun w4 => [w4]) (n := 15) xf_X7_212 rfl rfl rfl rfl (Nat.le_of_ble_eq_true rfl) (fun _ => rfl) dX7_carryAll_12 rfl (fun w4 => ?_)
  refine XE_aload_n (n := 16) dX7_carryAll_15 rfl rfl rfl ?_
  refine XE_aload_n (n := 17) dX7_carryAll_16 rfl rfl rfl ?_
  refine XE_aload_n (n := 18) dX7_carryAll_17 rfl rfl rfl ?_
  refine XE_getf (v := w4 0 0) (n := 21) xf_X7_83 rfl rfl rfl dX7_carryAll_18 rfl ?_
  refine XE_callVi (ni := 1) (As := [.int (w4 0 0)]) (st2 := fun t5 => [.int t5.1, .ref 0]) (n := 24) (b := 0) xc_X7_215 (fun l t ht => met_X7_carry l w4 (w4 0 0) t ht) rfl rfl rfl rfl dX7_carryAll_21 (Nat.le_of_ble_eq_true rfl) ⟨Nat.zero_le _, Nat.zero_le _⟩ (Nat.le_of_ble_eq_true rfl) (Nat.le_of_ble_eq_true rfl) (fun _ => rfl) rfl (fun t5 => ?_)
  refine XE_putf (hs2 := fun w6 => [w6]) (n := 27) xf_X7_83 rfl rfl rfl rfl (Nat.le_of_ble_eq_true rfl) (fun _ => rfl) dX7_carryAll_24 rfl (fun w6 => ?_)
  refine XE_aload_n (n := 28) dX7_carryAll_27 rfl rfl rfl ?_
  refine XE_aload_n (n := 29) dX7_carryAll_28 rfl rfl rfl ?_
  refine XE_aload_n (n := 30) dX7_carryAll_29 rfl rfl rfl ?_
  refine XE_getf (v := w6 0 9) (n := 33) xf_X7_100 rfl rfl rfl dX7_carryAll_30 rfl ?_
  refine XE_callVi (ni := 1) (As := [.int (w6 0 9)]) (st2 := fun t7 => [.int t7.1, .ref 0]) (n := 36) (b := 0) xc_X7_215 (fun l t ht => met_X7_carry l w6 (w6 0 9) t ht) rfl rfl rfl rfl dX7_carryAll_33 (Nat.le_of_ble_eq_true rfl) ⟨Nat.zero_le _, Nat.zero_le _⟩ (Nat.le_of_ble_eq_true rfl) (Nat.le_of_ble_eq_true rfl) (fun _ => rfl) rfl (fun t7 => ?_)
  refine XE_putf (hs2 := fun w8 => [w8]) (n := 39) xf_X7_100 rfl rfl rfl rfl (Nat.le_of_ble_eq_true rfl) (fun _ => rfl) dX7_carryAll_36 rfl (fun w8 => ?_)
  refine XE_aload_n (n := 40) dX7_carryAll_39 rfl rfl rfl ?_
  refine XE_aload_n (n := 41) dX7_carryAll_40 rfl rfl rfl ?_
  refine XE_aload_n (n := 42) dX7_carryAll_41 rfl rfl rfl ?_
  refine XE_getf (v := w8 0 10) (n := 45) xf_X7_80 rfl rfl rfl dX7_carryAll_42 rfl ?_
  refine XE_callVi (ni := 1) (As := [.int (w8 0 10)]) (st2 := fun t9 => [.int t9.1, .ref 0]) (n := 48) (b := 0) xc_X7_215 (fun l t ht => met_X7_carry l w8 (w8 0 10) t ht) rfl rfl rfl rfl dX7_carryAll_45 (Nat.le_of_ble_eq_true rfl) ⟨Nat.zero_le _, Nat.zero_le _⟩ (Nat.le_of_ble_eq_true rfl) (Nat.le_of_ble_eq_true rfl) (fun _ => rfl) rfl (fun t9 => ?_)
  refine XE_putf (hs2 := fun w10 => [w10]) (n := 51) xf_X7_80 rfl rfl rfl rfl (Nat.le_of_ble_eq_true rfl) (fun _ => rfl) dX7_carryAll_48 rfl (fun w10 => ?_)
  refine XE_aload_n (n := 52) dX7_carryAll_51 rfl rfl rfl ?_
  refine XE_aload_n (n := 53) dX7_carryAll_52 rfl rfl rfl ?_
  refine XE_aload_n (n := 54) dX7_carryAll_53 rfl rfl rfl ?_
  refine XE_getf (v := w10 0 12) (n := 57) xf_X7_94 rfl rfl rfl dX7_carryAll_54 rfl ?_
  refine XE_callVi (ni := 1) (As := [.int (w10 0 12)]) (st2 := fun t11 => [.int t11.1, .ref 0]) (n := 60) (b := 0) xc_X7_215 (fun l t ht => met_X7_carry l w10 (w10 0 12) t ht) rfl rfl rfl rfl dX7_carryAll_57 (Nat.le_of_ble_eq_true rfl) ⟨Nat.zero_le _, Nat.zero_le _⟩ (Nat.le_of_ble_eq_true rfl) (Nat.le_of_ble_eq_true rfl) (fun _ => rfl) rfl (fun t11 => ?_)
  refine XE_putf (hs2 := fun w12 => [w12]) (n := 63) xf_X7_94 rfl rfl rfl rfl (Nat.le_of_ble_eq_true rfl) (fun _ => rfl) dX7_carryAll_60 rfl (fun w12 => ?_)
  refine XE_aload_n (n := 64) dX7_carryAll_63 rfl rfl rfl ?_
  refine XE_aload_n (n := 65) dX7_carryAll_64 rfl rfl rfl ?_
  refine XE_aload_n (n := 66) dX7_carryAll_65 rfl rfl rfl ?_
  refine XE_getf (v := w12 0 13) (n := 69) xf_X7_114 rfl rfl rfl dX7_carryAll_66 rfl ?_
  refine XE_callVi (ni := 1) (As := [.int (w12 0 13)]) (st2 := fun t13 => [.int t13.1, .ref 0]) (n := 72) (b := 0) xc_X7_215 (fun l t ht => met_X7_carry l w12 (w12 0 13) t ht) rfl rfl rfl rfl dX7_carryAll_69 (Nat.le_of_ble_eq_true rfl) ⟨Nat.zero_le _, Nat.zero_le _⟩ (Nat.le_of_ble_eq_true rfl) (Nat.le_of_ble_eq_true rfl) (fun _ => rfl) rfl (fun t13 => ?_)
  refine XE_putf (hs2 := fun w14 => [w14]) (n := 75) xf_X7_114 rfl rfl rfl rfl (Nat.le_of_ble_eq_true rfl) (fun _ => rfl) dX7_carryAll_72 rfl (fun w14 => ?_)
  refine XE_aload_n (n := 76) dX7_carryAll_75 rfl rfl rfl ?_
  refine XE_getr (b := 9) (n := 79) xf_X7_34 rfl rfl dX7_carryAll_76 rfl ?_
  refine XE_iconst (v := 0) (n := 80) dX7_carryAll_79 rfl (by decide) ?_
  refine XE_aload_n (n := 81) dX7_carryAll_80 rfl rfl rfl ?_
  refine XE_aload_n (n := 82) dX7_carryAll_81 rfl rfl rfl ?_
  refine XE_getr (b := 9) (n := 85) xf_X7_34 rfl rfl dX7_carryAll_82 rfl ?_
  refine XE_iconst (v := 0) (n := 86) dX7_carryAll_85 rfl (by decide) ?_
  refine XE_ialdc (row := w14 9) (j := 0) (n := 87) rfl rfl rfl rfl dX7_carryAll_86 rfl ?_
  refine XE_callVi (ni := 1) (As := [.int (w14 9 0)]) (st2 := fun t15 => [.int t15.1, .int 0, .ref 9]) (n := 90) (b := 0) xc_X7_215 (fun l t ht => met_X7_carry l w14 (w14 9 0) t ht) rfl rfl rfl rfl dX7_carryAll_87 (Nat.le_of_ble_eq_true rfl) ⟨Nat.zero_le _, Nat.zero_le _⟩ (Nat.le_of_ble_eq_true rfl) (Nat.le_of_ble_eq_true rfl) (fun _ => rfl) rfl (fun t15 => ?_)
  refine XE_iastj (j := 0) (hs2 := fun w16 => [w16]) (n := 91) rfl rfl rfl (Nat.le_of_ble_eq_true rfl) (fun _ => rfl) rfl rfl dX7_carryAll_90 rfl (fun w16 => ?_)
  refine XE_aload_n (n := 92) dX7_carryAll_91 rfl rfl rfl ?_
  refine XE_getr (b := 9) (n := 95) xf_X7_34 rfl rfl dX7_carryAll_92 rfl ?_
  refine XE_iconst (v := 1) (n := 96) dX7_carryAll_95 rfl (by decide) ?_
  refine XE_aload_n (n := 97) dX7_carryAll_96 rfl rfl rfl ?_
  refine XE_aload_n (n := 98) dX7_carryAll_97 rfl rfl rfl ?_
  refine XE_getr (b := 9) (n := 101) xf_X7_34 rfl rfl dX7_carryAll_98 rfl ?_
  refine XE_iconst (v := 1) (n := 102) dX7_carryAll_101 rfl (by decide) ?_
  refine XE_ialdc (row := w16 9) (j := 1) (n := 103) rfl rfl rfl rfl dX7_carryAll_102 rfl ?_
  refine XE_callVi (ni := 1) (As := [.int (w16 9 1)]) (st2 := fun t17 => [.int t17.1, .int 1, .ref 9]) (n := 106) (b := 0) xc_X7_215 (fun l t ht => met_X7_carry l w16 (w16 9 1) t ht) rfl rfl rfl rfl dX7_carryAll_103 (Nat.le_of_ble_eq_true rfl) ⟨Nat.zero_le _, Nat.zero_le _⟩ (Nat.le_of_ble_eq_true rfl) (Nat.le_of_ble_eq_true rfl) (fun _ => rfl) rfl (fun t17 => ?_)
  refine XE_iastj (j := 1) (hs2 := fun w18 => [w18]) (n := 107) rfl rfl rfl (Nat.le_of_ble_eq_true rfl) (fun _ => rfl) rfl rfl dX7_carryAll_106 rfl (fun w18 => ?_)
  refine XE_iconst (v := 0) (n := 108) dX7_carryAll_107 rfl (by decide) ?_
  refine XE_istore_n (i := 3) (n := 109) dX7_carryAll_108 rfl rfl (Nat.le_of_ble_eq_true rfl) rfl ?_
  refine XE_ls (x_sub_ok (ls' := [(0, some (.ref 0)), (3, some (.int 0))]) ⟨rfl, rfl, trivial⟩) ?_
  refine XE_reg (J := 249) (lsJ := fun t39 => []) (stJ := fun t39 => []) (hsJ := fun t39 => [t39]) (fun t39 => ?_) (fun hJ40 => f_X7_carryAll_18_L109_x B hJ40 6000 (0 : Int32) w18)
  exact XE_vreturn rfl dX7_carryAll_249 rfl (Nat.le_refl _) (Nat.le_refl _)
theorem met_X7_carryAll_18 (l : Launch) (m0 : Mem) (a2 : Int32) (t : Mem) (ht : f_X7_carryAll_18 m0 a2 = some t) : XMet l yX7_carryAll cX7_carryAll 4 none 2 0 0 [.ref 0, .ref 18, .int a2] SH_M [m0] SH_M (none, [t]) := XMet.of (by decide +kernel) (fun _ => Nat.le_of_ble_eq_true rfl) (fun B => xe_X7_carryAll_18 B m0 a2) (by rw [ht]; rfl)
/-! X7_keepTurn: EveryTwentyMinutesModel.keepTurn()V in world M at (0,) -/
abbrev M_X7_keepTurn : XM := (RX7, cX7_keepTurn, 2, none, "keepTurn", 3, 0, 0)
def f_X7_keepTurn_L12 : Nat → Int32 → Mem → Option (Mem)
  | 0, _, _ => none
  | n + 1, v12, w13 =>
    if 504 ≤ v12 then
      some (w13)
    else
      ck (inb v12 504) <|
      ck (inb (v12 - 63) 504) <|
      lt (xs w13 17 (ix (v12 - 63)) (w13 17 (ix v12))) fun w14 =>
      lt (v12 + 1) fun v15 =>
      (f_X7_keepTurn_L12 n) v15 w14
def f_X7_keepTurn_L61 : Nat → Int32 → Mem → Option (Mem)
  | 0, _, _ => none
  | n + 1, v23, w24 =>
    if 63 ≤ v23 then
      some (w24)
    else
      ck (inb v23 63) <|
      ck (inb ((63 * (w24 0 32)) + v23) 504) <|
      lt (xs w24 17 (ix ((63 * (w24 0 32)) + v23)) (w24 18 (ix v23))) fun w25 =>
      lt (v23 + 1) fun v26 =>
      (f_X7_keepTurn_L61 n) v26 w25
def f_X7_keepTurn (m0 : Mem) : Option (Mem) :=
  (if (m0 0 32) = 8 then
     (f_X7_keepTurn_L12 6000 (63 : Int32) m0).bind fun t17 =>
     lt (xs t17 0 32 ((t17 0 32) - 1)) fun w18 =>
     some (w18)
   else
     some (m0)).bind fun t21 =>
  (f_X7_carryAll_18 t21 1).bind fun t22 =>
  (f_X7_keepTurn_L61 6000 (0 : Int32) t22).bind fun t28 =>
  lt (xs t28 0 32 ((t28 0 32) + 1)) fun w29 =>
  some w29
set_option maxRecDepth 100000 in
theorem f_X7_keepTurn_L12_x {α R : Type} (B : XB) {Q : R → State → Prop} {k : α → Option R} {r : (Mem) → Option α} (hE : ∀ t0 : (Mem), XE B M_X7_keepTurn Q 40 [(0, some (.ref 0))] [] (0, 0) SH_M [t0] (fun t => (r t).bind k) (some t0)) : ∀ (n : Nat) (v12 : Int32) (w13 : Mem), XE B M_X7_keepTurn Q 12 [(0, some (.ref 0)), (1, some (.int v12))] [] (0, 0) SH_M [w13] (fun t => (r t).bind k) (f_X7_keepTurn_L12 n v12 w13) := by
  intro n
  induction n with
  | zero => intros; exact XE_none
  | succ n ih =>
    intro v12 w13
    rw [f_X7_keepTurn_L12]
    refine XE_iload_n (n := 13) dX7_keepTurn_12 rfl rfl rfl ?_
    refine XE_sipush (v := 504) (n := 16) dX7_keepTurn_13 rfl (by decide) ?_
    refine XE_icmp_ge (t := 40) (n := 19) dX7_keepTurn_16 rfl rfl (fun h16 => ?_) (fun h16 => ?_)
    · refine XE_ls (x_sub_ok (ls' := [(0, some (.ref 0))]) ⟨rfl, trivial⟩) ?_
      exact hE (w13)
    · refine XE_aload_n (n := 20) dX7_keepTurn_19 rfl rfl rfl ?_
      refine XE_getr (b := 17) (n := 23) xf_X7_58 rfl rfl dX7_keepTurn_20 rfl ?_
      refine XE_iload_n (n := 24) dX7_keepTurn_23 rfl rfl rfl ?_
      refine XE_bipush (v := 63) (n := 26) dX7_keepTurn_24 rfl (by decide) ?_
      refine XE_isub (n := 27) dX7_keepTurn_26 rfl ?_
      refine XE_aload_n (n := 28) dX7_keepTurn_27 rfl rfl rfl ?_
      refine XE_getr (b := 17) (n := 31) xf_X7_58 rfl rfl dX7_keepTurn_28 rfl ?_
      refine XE_iload_n (n := 32) dX7_keepTurn_31 rfl rfl rfl ?_
      refine XE_iald (row := w13 17) (n := 33) rfl rfl dX7_keepTurn_32 rfl ?_
      refine XE_iast (hs2 := fun w14 => [w14]) (n := 34) rfl rfl rfl (Nat.le_of_ble_eq_true rfl) (fun _ => rfl) dX7_keepTurn_33 rfl (fun w14 => ?_)
      refine XE_iincl (n := 37) dX7_keepTurn_34 rfl rfl (by decide) (Nat.le_of_ble_eq_true rfl) rfl (fun v15 => ?_)
      refine XE_goto (n := 12) dX7_keepTurn_37 rfl ?_
      refine XE_ls (x_sub_ok (ls' := [(0, some (.ref 0)), (1, some (.int v15))]) ⟨rfl, rfl, trivial⟩) ?_
      exact ih v15 w14
set_option maxRecDepth 100000 in
theorem f_X7_keepTurn_L61_x {α R : Type} (B : XB) {Q : R → State → Prop} {k : α → Option R} {r : (Mem) → Option α} (hE : ∀ t0 : (Mem), XE B M_X7_keepTurn Q 93 [(0, some (.ref 0))] [] (0, 0) SH_M [t0] (fun t => (r t).bind k) (some t0)) : ∀ (n : Nat) (v23 : Int32) (w24 : Mem), XE B M_X7_keepTurn Q 61 [(0, some (.ref 0)), (1, some (.int v23))] [] (0, 0) SH_M [w24] (fun t => (r t).bind k) (f_X7_keepTurn_L61 n v23 w24) := by
  intro n
  induction n with
  | zero => intros; exact XE_none
  | succ n ih =>
    intro v23 w24
    rw [f_X7_keepTurn_L61]
    refine XE_iload_n (n := 62) dX7_keepTurn_61 rfl rfl rfl ?_
    refine XE_bipush (v := 63) (n := 64) dX7_keepTurn_62 rfl (by decide) ?_
    refine XE_icmp_ge (t := 93) (n := 67) dX7_keepTurn_64 rfl rfl (fun h27 => ?_) (fun h27 => ?_)
    · refine XE_ls (x_sub_ok (ls' := [(0, some (.ref 0))]) ⟨rfl, trivial⟩) ?_
      exact hE (w24)
    · refine XE_aload_n (n := 68) dX7_keepTurn_67 rfl rfl rfl ?_
      refine XE_getr (b := 17) (n := 71) xf_X7_58 rfl rfl dX7_keepTurn_68 rfl ?_
      refine XE_bipush (v := 63) (n := 73) dX7_keepTurn_71 rfl (by decide) ?_
      refine XE_aload_n (n := 74) dX7_keepTurn_73 rfl rfl rfl ?_
      refine XE_getf (v := w24 0 32) (n := 77) xf_X7_203 rfl rfl rfl dX7_keepTurn_74 rfl ?_
      refine XE_imul (n := 78) dX7_keepTurn_77 rfl ?_
      refine XE_iload_n (n := 79) dX7_keepTurn_78 rfl rfl rfl ?_
      refine XE_iadd (n := 80) dX7_keepTurn_79 rfl ?_
      refine XE_aload_n (n := 81) dX7_keepTurn_80 rfl rfl rfl ?_
      refine XE_getr (b := 18) (n := 84) xf_X7_61 rfl rfl dX7_keepTurn_81 rfl ?_
      refine XE_iload_n (n := 85) dX7_keepTurn_84 rfl rfl rfl ?_
      refine XE_iald (row := w24 18) (n := 86) rfl rfl dX7_keepTurn_85 rfl ?_
      refine XE_iast (hs2 := fun w25 => [w25]) (n := 87) rfl rfl rfl (Nat.le_of_ble_eq_true rfl) (fun _ => rfl) dX7_keepTurn_86 rfl (fun w25 => ?_)
      refine XE_iincl (n := 90) dX7_keepTurn_87 rfl rfl (by decide) (Nat.le_of_ble_eq_true rfl) rfl (fun v26 => ?_)
      refine XE_goto (n := 61) dX7_keepTurn_90 rfl ?_
      refine XE_ls (x_sub_ok (ls' := [(0, some (.ref 0)), (1, some (.int v26))]) ⟨rfl, rfl, trivial⟩) ?_
      exact ih v26 w25
set_option maxRecDepth 100000 in
theorem xe_X7_keepTurn (B : XB) (m0 : Mem) : XE B M_X7_keepTurn (XQm B 0 0 SH_M) 0 [(0, some (.ref 0))] [] (0, 0) SH_M [m0] (fun t => some (none, [t])) (f_X7_keepTurn m0) := by
  unfold f_X7_keepTurn
  refine XE_aload_n (n := 1) dX7_keepTurn_0 rfl rfl rfl ?_
  refine XE_getf (v := m0 0 32) (n := 4) xf_X7_203 rfl rfl rfl dX7_keepTurn_1 rfl ?_
  refine XE_bipush (v := 8) (n := 6) dX7_keepTurn_4 rfl (by decide) ?_
  refine XE_reg (J := 50) (lsJ := fun t21 => [(0, some (.ref 0))]) (stJ := fun t21 => []) (hsJ := fun t21 => [t21]) (fun t21 => ?_) (fun hJ11 => ?_)
  · refine XE_aload_n (n := 51) dX7_keepTurn_50 rfl rfl rfl ?_
    refine XE_aload_n (n := 52) dX7_keepTurn_51 rfl rfl rfl ?_
    refine XE_getr (b := 18) (n := 55) xf_X7_61 rfl rfl dX7_keepTurn_52 rfl ?_
    refine XE_iconst (v := 1) (n := 56) dX7_keepTurn_55 rfl (by decide) ?_
    refine XE_callVi (ni := 2) (As := [.ref 18, .int 1]) (st2 := fun t22 => []) (n := 59) (b := 0) xc_X7_218 (fun l t ht => met_X7_carryAll_18 l t21 1 t ht) rfl rfl rfl rfl dX7_keepTurn_56 (Nat.le_of_ble_eq_true rfl) ⟨Nat.zero_le _, Nat.zero_le _⟩ (Nat.le_of_ble_eq_true rfl) (Nat.le_of_ble_eq_true rfl) (fun _ => rfl) rfl (fun t22 => ?_)
    refine XE_iconst (v := 0) (n := 60) dX7_keepTurn_59 rfl (by decide) ?_
    refine XE_istore_n (i := 1) (n := 61) dX7_keepTurn_60 rfl rfl (Nat.le_of_ble_eq_true rfl) rfl ?_
    refine XE_ls (x_sub_ok (ls' := [(0, some (.ref 0)), (1, some (.int 0))]) ⟨rfl, rfl, trivial⟩) ?_
    refine XE_reg (J := 93) (lsJ := fun t28 => [(0, some (.ref 0))]) (stJ := fun t28 => []) (hsJ := fun t28 => [t28]) (fun t28 => ?_) (fun hJ30 => f_X7_keepTurn_L61_x B hJ30 6000 (0 : Int32) t22)
    refine XE_aload_n (n := 94) dX7_keepTurn_93 rfl rfl rfl ?_
    refine XE_dup (n := 95) dX7_keepTurn_94 rfl rfl ?_
    refine XE_getf (v := t28 0 32) (n := 98) xf_X7_203 rfl rfl rfl dX7_keepTurn_95 rfl ?_
    refine XE_iconst (v := 1) (n := 99) dX7_keepTurn_98 rfl (by decide) ?_
    refine XE_iadd (n := 100) dX7_keepTurn_99 rfl ?_
    refine XE_putf (hs2 := fun w29 => [w29]) (n := 103) xf_X7_203 rfl rfl rfl rfl (Nat.le_of_ble_eq_true rfl) (fun _ => rfl) dX7_keepTurn_100 rfl (fun w29 => ?_)
    exact XE_vreturn rfl dX7_keepTurn_103 rfl (Nat.le_refl _) (Nat.le_refl _)
  · refine XE_icmp_ne (t := 50) (n := 9) dX7_keepTurn_6 rfl rfl (fun h20 => ?_) (fun h20 => ?_)
    · refine XE_bipush (v := 63) (n := 11) dX7_keepTurn_9 rfl (by decide) ?_
      refine XE_istore_n (i := 1) (n := 12) dX7_keepTurn_11 rfl rfl (Nat.le_of_ble_eq_true rfl) rfl ?_
      refine XE_ls (x_sub_ok (ls' := [(0, some (.ref 0)), (1, some (.int 63))]) ⟨rfl, rfl, trivial⟩) ?_
      refine XE_reg (J := 40) (lsJ := fun t17 => [(0, some (.ref 0))]) (stJ := fun t17 => []) (hsJ := fun t17 => [t17]) (fun t17 => ?_) (fun hJ19 => f_X7_keepTurn_L12_x B hJ19 6000 (63 : Int32) m0)
      refine XE_aload_n (n := 41) dX7_keepTurn_40 rfl rfl rfl ?_
      refine XE_dup (n := 42) dX7_keepTurn_41 rfl rfl ?_
      refine XE_getf (v := t17 0 32) (n := 45) xf_X7_203 rfl rfl rfl dX7_keepTurn_42 rfl ?_
      refine XE_iconst (v := 1) (n := 46) dX7_keepTurn_45 rfl (by decide) ?_
      refine XE_isub (n := 47) dX7_keepTurn_46 rfl ?_
      refine XE_putf (hs2 := fun w18 => [w18]) (n := 50) xf_X7_203 rfl rfl rfl rfl (Nat.le_of_ble_eq_true rfl) (fun _ => rfl) dX7_keepTurn_47 rfl (fun w18 => ?_)
      refine XE_ls (x_sub_ok (ls' := [(0, some (.ref 0))]) ⟨rfl, trivial⟩) ?_
      exact hJ11 (w18)
    · refine XE_ls (x_sub_ok (ls' := [(0, some (.ref 0))]) ⟨rfl, trivial⟩) ?_
      exact hJ11 (m0)
theorem met_X7_keepTurn (l : Launch) (m0 : Mem) (t : Mem) (ht : f_X7_keepTurn m0 = some t) : XMet l yX7_keepTurn cX7_keepTurn 2 none 3 0 0 [.ref 0] SH_M [m0] SH_M (none, [t]) := XMet.of (by decide +kernel) (fun _ => Nat.le_of_ble_eq_true rfl) (fun B => xe_X7_keepTurn B m0) (by rw [ht]; rfl)
/-! X7_back: EveryTwentyMinutesModel.back()I in world M at (0,) -/
abbrev M_X7_back : XM := (RX7, cX7_back, 2, (some .int), "back", 3, 0, 0)
def f_X7_back_L31 : Nat → Int32 → Mem → Option (Mem)
  | 0, _, _ => none
  | n + 1, v3, w4 =>
    if 63 ≤ v3 then
      some (w4)
    else
      ck (inb ((63 * (w4 0 32)) + v3) 504) <|
      ck (inb v3 63) <|
      lt (xs w4 18 (ix v3) (w4 17 (ix ((63 * (w4 0 32)) + v3)))) fun w5 =>
      lt (v3 + 1) fun v6 =>
      (f_X7_back_L31 n) v6 w5
def f_X7_back (m0 : Mem) : Option (Int32 × Mem) :=
  lt (xs m0 0 14 0) fun w1 =>
  if (w1 0 32) = 0 then
    (f_X7_refuse w1 (-3)).bind fun t11 =>
    some (t11.1, t11.2)
  else
    lt (xs w1 0 32 ((w1 0 32) - 1)) fun w2 =>
    (f_X7_back_L31 6000 (0 : Int32) w2).bind fun t8 =>
    (f_X7_carryAll_18 t8 0).bind fun t9 =>
    some ((t9 0 32), t9)
set_option maxRecDepth 100000 in
theorem f_X7_back_L31_x {α R : Type} (B : XB) {Q : R → State → Prop} {k : α → Option R} {r : (Mem) → Option α} (hE : ∀ t0 : (Mem), XE B M_X7_back Q 63 [(0, some (.ref 0))] [] (0, 0) SH_M [t0] (fun t => (r t).bind k) (some t0)) : ∀ (n : Nat) (v3 : Int32) (w4 : Mem), XE B M_X7_back Q 31 [(0, some (.ref 0)), (1, some (.int v3))] [] (0, 0) SH_M [w4] (fun t => (r t).bind k) (f_X7_back_L31 n v3 w4) := by
  intro n
  induction n with
  | zero => intros; exact XE_none
  | succ n ih =>
    intro v3 w4
    rw [f_X7_back_L31]
    refine XE_iload_n (n := 32) dX7_back_31 rfl rfl rfl ?_
    refine XE_bipush (v := 63) (n := 34) dX7_back_32 rfl (by decide) ?_
    refine XE_icmp_ge (t := 63) (n := 37) dX7_back_34 rfl rfl (fun h7 => ?_) (fun h7 => ?_)
    · refine XE_ls (x_sub_ok (ls' := [(0, some (.ref 0))]) ⟨rfl, trivial⟩) ?_
      exact hE (w4)
    · refine XE_aload_n (n := 38) dX7_back_37 rfl rfl rfl ?_
      refine XE_getr (b := 18) (n := 41) xf_X7_61 rfl rfl dX7_back_38 rfl ?_
      refine XE_iload_n (n := 42) dX7_back_41 rfl rfl rfl ?_
      refine XE_aload_n (n := 43) dX7_back_42 rfl rfl rfl ?_
      refine XE_getr (b := 17) (n := 46) xf_X7_58 rfl rfl dX7_back_43 rfl ?_
      refine XE_bipush (v := 63) (n := 48) dX7_back_46 rfl (by decide) ?_
      refine XE_aload_n (n := 49) dX7_back_48 rfl rfl rfl ?_
      refine XE_getf (v := w4 0 32) (n := 52) xf_X7_203 rfl rfl rfl dX7_back_49 rfl ?_
      refine XE_imul (n := 53) dX7_back_52 rfl ?_
      refine XE_iload_n (n := 54) dX7_back_53 rfl rfl rfl ?_
      refine XE_iadd (n := 55) dX7_back_54 rfl ?_
      refine XE_iald (row := w4 17) (n := 56) rfl rfl dX7_back_55 rfl ?_
      refine XE_iast (hs2 := fun w5 => [w5]) (n := 57) rfl rfl rfl (Nat.le_of_ble_eq_true rfl) (fun _ => rfl) dX7_back_56 rfl (fun w5 => ?_)
      refine XE_iincl (n := 60) dX7_back_57 rfl rfl (by decide) (Nat.le_of_ble_eq_true rfl) rfl (fun v6 => ?_)
      refine XE_goto (n := 31) dX7_back_60 rfl ?_
      refine XE_ls (x_sub_ok (ls' := [(0, some (.ref 0)), (1, some (.int v6))]) ⟨rfl, rfl, trivial⟩) ?_
      exact ih v6 w5
set_option maxRecDepth 100000 in
theorem xe_X7_back (B : XB) (m0 : Mem) : XE B M_X7_back (XQm B 0 0 SH_M) 0 [(0, some (.ref 0))] [] (0, 0) SH_M [m0] (fun t => some (some (.int t.1), [t.2])) (f_X7_back m0) := by
  unfold f_X7_back
  refine XE_aload_n (n := 1) dX7_back_0 rfl rfl rfl ?_
  refine XE_iconst (v := 0) (n := 2) dX7_back_1 rfl (by decide) ?_
  refine XE_putf (hs2 := fun w1 => [w1]) (n := 5) xf_X7_76 rfl rfl rfl rfl (Nat.le_of_ble_eq_true rfl) (fun _ => rfl) dX7_back_2 rfl (fun w1 => ?_)
  refine XE_aload_n (n := 6) dX7_back_5 rfl rfl rfl ?_
  refine XE_getf (v := w1 0 32) (n := 9) xf_X7_203 rfl rfl rfl dX7_back_6 rfl ?_
  refine XE_if_ne (t := 19) (n := 12) dX7_back_9 rfl rfl (fun h12 => ?_) (fun h12 => ?_)
  · refine XE_aload_n (n := 13) dX7_back_12 rfl rfl rfl ?_
    refine XE_bipush (v := (-3)) (n := 15) dX7_back_13 rfl (by decide) ?_
    refine XE_callVi (ni := 1) (As := [.int (-3)]) (st2 := fun t11 => [.int t11.1]) (n := 18) (b := 0) xc_X7_138 (fun l t ht => met_X7_refuse l w1 (-3) t ht) rfl rfl rfl rfl dX7_back_15 (Nat.le_of_ble_eq_true rfl) ⟨Nat.zero_le _, Nat.zero_le _⟩ (Nat.le_of_ble_eq_true rfl) (Nat.le_of_ble_eq_true rfl) (fun _ => rfl) rfl (fun t11 => ?_)
    exact XE_ireturn rfl dX7_back_18 rfl (Nat.le_refl _) (Nat.le_refl _)
  · refine XE_aload_n (n := 20) dX7_back_19 rfl rfl rfl ?_
    refine XE_dup (n := 21) dX7_back_20 rfl rfl ?_
    refine XE_getf (v := w1 0 32) (n := 24) xf_X7_203 rfl rfl rfl dX7_back_21 rfl ?_
    refine XE_iconst (v := 1) (n := 25) dX7_back_24 rfl (by decide) ?_
    refine XE_isub (n := 26) dX7_back_25 rfl ?_
    refine XE_putf (hs2 := fun w2 => [w2]) (n := 29) xf_X7_203 rfl rfl rfl rfl (Nat.le_of_ble_eq_true rfl) (fun _ => rfl) dX7_back_26 rfl (fun w2 => ?_)
    refine XE_iconst (v := 0) (n := 30) dX7_back_29 rfl (by decide) ?_
    refine XE_istore_n (i := 1) (n := 31) dX7_back_30 rfl rfl (Nat.le_of_ble_eq_true rfl) rfl ?_
    refine XE_ls (x_sub_ok (ls' := [(0, some (.ref 0)), (1, some (.int 0))]) ⟨rfl, rfl, trivial⟩) ?_
    refine XE_reg (J := 63) (lsJ := fun t8 => [(0, some (.ref 0))]) (stJ := fun t8 => []) (hsJ := fun t8 => [t8]) (fun t8 => ?_) (fun hJ10 => f_X7_back_L31_x B hJ10 6000 (0 : Int32) w2)
    refine XE_aload_n (n := 64) dX7_back_63 rfl rfl rfl ?_
    refine XE_aload_n (n := 65) dX7_back_64 rfl rfl rfl ?_
    refine XE_getr (b := 18) (n := 68) xf_X7_61 rfl rfl dX7_back_65 rfl ?_
    refine XE_iconst (v := 0) (n := 69) dX7_back_68 rfl (by decide) ?_
    refine XE_callVi (ni := 2) (As := [.ref 18, .int 0]) (st2 := fun t9 => []) (n := 72) (b := 0) xc_X7_218 (fun l t ht => met_X7_carryAll_18 l t8 0 t ht) rfl rfl rfl rfl dX7_back_69 (Nat.le_of_ble_eq_true rfl) ⟨Nat.zero_le _, Nat.zero_le _⟩ (Nat.le_of_ble_eq_true rfl) (Nat.le_of_ble_eq_true rfl) (fun _ => rfl) rfl (fun t9 => ?_)
    refine XE_aload_n (n := 73) dX7_back_72 rfl rfl rfl ?_
    refine XE_getf (v := t9 0 32) (n := 76) xf_X7_203 rfl rfl rfl dX7_back_73 rfl ?_
    exact XE_ireturn rfl dX7_back_76 rfl (Nat.le_refl _) (Nat.le_refl _)
theorem met_X7_back (l : Launch) (m0 : Mem) (t : Int32 × Mem) (ht : f_X7_back m0 = some t) : XMet l yX7_back cX7_back 2 (some .int) 3 0 0 [.ref 0] SH_M [m0] SH_M (some (.int t.1), [t.2]) := XMet.of (by decide +kernel) (fun _ => Nat.le_of_ble_eq_true rfl) (fun B => xe_X7_back B m0) (by rw [ht]; rfl)
/-! X7_coupleOf: EveryTwentyMinutesModel.coupleOf(II)I in world M at (0,) -/
abbrev M_X7_coupleOf : XM := (RX7, cX7_coupleOf, 3, (some .int), "coupleOf", 3, 0, 0)
def f_X7_coupleOf_J40 (v9 : Int32) (w10 : Mem) : Option (Int32 × Mem) :=
  (f_X7_refuse w10 v9).bind fun t11 =>
  some (t11.1, t11.2)
def f_X7_coupleOf_J25 (v3 : Int32) (w4 : Mem) : Option (Int32 × Mem) :=
  (f_X7_isCouple w4 v3).bind fun t5 =>
  lt (if t5 = 0 then
      (((-1) : Int32))
    else
      (((-2) : Int32))) fun t8 =>
  f_X7_coupleOf_J40 t8 w4
def f_X7_coupleOf (m0 : Mem) (a1 : Int32) (a2 : Int32) : Option (Int32 × Mem) :=
  lt (xs m0 0 14 0) fun w1 =>
  (f_X7_isCouple w1 a1).bind fun t2 =>
  if t2 = 0 then
    f_X7_coupleOf_J25 a1 w1
  else
    (f_X7_in ((a2 : Int32).toInt64) 0 7).bind fun t12 =>
    if t12 = 0 then
      f_X7_coupleOf_J25 a1 w1
    else
      if a2 = 0 then
        ck (inb a1 7) <|
        some ((w1 1 (ix a1)), w1)
      else
        if a2 = 1 then
          ck (inb a1 7) <|
          some ((w1 2 (ix a1)), w1)
        else
          if a2 = 2 then
            ck (inb a1 7) <|
            some ((w1 3 (ix a1)), w1)
          else
            if a2 = 3 then
              ck (inb a1 7) <|
              some ((w1 4 (ix a1)), w1)
            else
              if a2 = 4 then
                ck (inb a1 7) <|
                ck (inb a1 7) <|
                (f_X7_lastsBy (w1 1 (ix a1)) (w1 2 (ix a1))).bind fun t18 =>
                some (t18, w1)
              else
                if a2 = 5 then
                  (f_X7_readyOf w1 a1).bind fun t20 =>
                  some (t20, w1)
                else
                  if a2 = 6 then
                    (f_X7_guestsOf w1 a1).bind fun t22 =>
                    some (t22, w1)
                  else
                    (f_X7_posesOf w1 a1).bind fun t23 =>
                    some (t23, w1)
set_option maxRecDepth 100000 in
theorem f_X7_coupleOf_J40_x (B : XB) (v9 : Int32) (w10 : Mem) : XE B M_X7_coupleOf (XQm B 0 0 SH_M) 40 [] [.int v9, .ref 0] (0, 0) SH_M [w10] (fun t => some (some (.int t.1), [t.2])) (f_X7_coupleOf_J40 v9 w10) := by
  unfold f_X7_coupleOf_J40
  refine XE_callVi (ni := 1) (As := [.int v9]) (st2 := fun t11 => [.int t11.1]) (n := 43) (b := 0) xc_X7_138 (fun l t ht => met_X7_refuse l w10 v9 t ht) rfl rfl rfl rfl dX7_coupleOf_40 (Nat.le_of_ble_eq_true rfl) ⟨Nat.zero_le _, Nat.zero_le _⟩ (Nat.le_of_ble_eq_true rfl) (Nat.le_of_ble_eq_true rfl) (fun _ => rfl) rfl (fun t11 => ?_)
  exact XE_ireturn rfl dX7_coupleOf_43 rfl (Nat.le_refl _) (Nat.le_refl _)
set_option maxRecDepth 100000 in
theorem f_X7_coupleOf_J25_x (B : XB) (v3 : Int32) (w4 : Mem) : XE B M_X7_coupleOf (XQm B 0 0 SH_M) 25 [(0, some (.ref 0)), (1, some (.int v3))] [] (0, 0) SH_M [w4] (fun t => some (some (.int t.1), [t.2])) (f_X7_coupleOf_J25 v3 w4) := by
  unfold f_X7_coupleOf_J25
  refine XE_aload_n (n := 26) dX7_coupleOf_25 rfl rfl rfl ?_
  refine XE_aload_n (n := 27) dX7_coupleOf_26 rfl rfl rfl ?_
  refine XE_iload_n (n := 28) dX7_coupleOf_27 rfl rfl rfl ?_
  refine XE_callVi (ni := 1) (As := [.int v3]) (st2 := fun t5 => [.int t5, .ref 0]) (n := 31) (b := 0) xc_X7_177 (fun l t ht => met_X7_isCouple l w4 v3 t ht) rfl rfl rfl rfl dX7_coupleOf_28 (Nat.le_of_ble_eq_true rfl) ⟨Nat.zero_le _, Nat.zero_le _⟩ (Nat.le_of_ble_eq_true rfl) (Nat.le_of_ble_eq_true rfl) (fun _ => rfl) rfl (fun t5 => ?_)
  refine XE_regv (J := 40) (lsJ := fun t8 => []) (stJ := fun t8 => [.int t8, .ref 0]) (hsJ := fun t8 => [w4]) (fun t8 => ?_) (fun hJ6 => ?_)
  · refine XE_ls (x_sub_ok (ls' := []) trivial) ?_
    exact f_X7_coupleOf_J40_x B t8 w4
  · refine XE_ltif ?_
    refine XE_if_eq (t := 39) (n := 34) dX7_coupleOf_31 rfl rfl (fun h7 => ?_) (fun h7 => ?_)
    · refine XE_iconst (v := (-1)) (n := 40) dX7_coupleOf_39 rfl (by decide) ?_
      refine XE_ls (x_sub_ok (ls' := []) trivial) ?_
      exact hJ6 (((-1) : Int32))
    · refine XE_bipush (v := (-2)) (n := 36) dX7_coupleOf_34 rfl (by decide) ?_
      refine XE_goto (n := 40) dX7_coupleOf_36 rfl ?_
      refine XE_ls (x_sub_ok (ls' := []) trivial) ?_
      exact hJ6 (((-2) : Int32))
set_option maxRecDepth 100000 in
theorem xe_X7_coupleOf (B : XB) (m0 : Mem) (a1 : Int32) (a2 : Int32) : XE B M_X7_coupleOf (XQm B 0 0 SH_M) 0 [(0, some (.ref 0)), (1, some (.int a1)), (2, some (.int a2))] [] (0, 0) SH_M [m0] (fun t => some (some (.int t.1), [t.2])) (f_X7_coupleOf m0 a1 a2) := by
  unfold f_X7_coupleOf
  refine XE_aload_n (n := 1) dX7_coupleOf_0 rfl rfl rfl ?_
  refine XE_iconst (v := 0) (n := 2) dX7_coupleOf_1 rfl (by decide) ?_
  refine XE_putf (hs2 := fun w1 => [w1]) (n := 5) xf_X7_76 rfl rfl rfl rfl (Nat.le_of_ble_eq_true rfl) (fun _ => rfl) dX7_coupleOf_2 rfl (fun w1 => ?_)
  refine XE_aload_n (n := 6) dX7_coupleOf_5 rfl rfl rfl ?_
  refine XE_iload_n (n := 7) dX7_coupleOf_6 rfl rfl rfl ?_
  refine XE_callVi (ni := 1) (As := [.int a1]) (st2 := fun t2 => [.int t2]) (n := 10) (b := 0) xc_X7_177 (fun l t ht => met_X7_isCouple l w1 a1 t ht) rfl rfl rfl rfl dX7_coupleOf_7 (Nat.le_of_ble_eq_true rfl) ⟨Nat.zero_le _, Nat.zero_le _⟩ (Nat.le_of_ble_eq_true rfl) (Nat.le_of_ble_eq_true rfl) (fun _ => rfl) rfl (fun t2 => ?_)
  refine XE_if_eq (t := 25) (n := 13) dX7_coupleOf_10 rfl rfl (fun h25 => ?_) (fun h25 => ?_)
  · refine XE_ls (x_sub_ok (ls' := [(0, some (.ref 0)), (1, some (.int a1))]) ⟨rfl, rfl, trivial⟩) ?_
    exact f_X7_coupleOf_J25_x B a1 w1
  · refine XE_iload_n (n := 14) dX7_coupleOf_13 rfl rfl rfl ?_
    refine XE_i2l (n := 15) dX7_coupleOf_14 rfl ?_
    refine XE_lconst (v := 0) (n := 16) dX7_coupleOf_15 rfl (by decide) ?_
    refine XE_ldc2 (n := 19) dX7_coupleOf_16 rfl xk_X7_168 ?_
    refine XE_callS (ni := 3) (As := [.long ((a2 : Int32).toInt64), .long 0, .long 7]) (π := []) (co := [0]) (cv := [w1]) (nn := 1) (hs2 := fun t12 => [w1]) (st2 := fun t12 => [.int t12]) (n := 22) xc_X7_86 (fun l t ht => met_X7_in l ((a2 : Int32).toInt64) 0 7 t ht) rfl rfl rfl dX7_coupleOf_19 (Nat.le_of_ble_eq_true rfl) ⟨Nat.zero_le _, Nat.zero_le _⟩ (Nat.le_of_ble_eq_true rfl) (Nat.le_of_ble_eq_true rfl) ok_40 rfl rfl rfl (fun _ => rfl) (fun _ => rfl) (fun _ => rfl) rfl (fun _ => rfl) rfl (fun t12 => ?_)
    refine XE_if_ne (t := 44) (n := 25) dX7_coupleOf_22 rfl rfl (fun h24 => ?_) (fun h24 => ?_)
    · refine XE_ls (x_sub_ok (ls' := [(0, some (.ref 0)), (1, some (.int a1))]) ⟨rfl, rfl, trivial⟩) ?_
      exact f_X7_coupleOf_J25_x B a1 w1
    · refine XE_iload_n (n := 45) dX7_coupleOf_44 rfl rfl rfl ?_
      refine XE_tsw (c := 0) (t := 88) (off := 43) dX7_coupleOf_45 (by decide) (by decide) rfl rfl ?_ (fun h13 => ?_)
      · refine XE_aload_n (n := 89) dX7_coupleOf_88 rfl rfl rfl ?_
        refine XE_getr (b := 1) (n := 92) xf_X7_7 rfl rfl dX7_coupleOf_89 rfl ?_
        refine XE_iload_n (n := 93) dX7_coupleOf_92 rfl rfl rfl ?_
        refine XE_iald (row := w1 1) (n := 94) rfl rfl dX7_coupleOf_93 rfl ?_
        exact XE_ireturn rfl dX7_coupleOf_94 rfl (Nat.le_refl _) (Nat.le_refl _)
      refine XE_tsw (c := 1) (t := 95) (off := 50) dX7_coupleOf_45 (by decide) (by decide) rfl rfl ?_ (fun h14 => ?_)
      · refine XE_aload_n (n := 96) dX7_coupleOf_95 rfl rfl rfl ?_
        refine XE_getr (b := 2) (n := 99) xf_X7_13 rfl rfl dX7_coupleOf_96 rfl ?_
        refine XE_iload_n (n := 100) dX7_coupleOf_99 rfl rfl rfl ?_
        refine XE_iald (row := w1 2) (n := 101) rfl rfl dX7_coupleOf_100 rfl ?_
        exact XE_ireturn rfl dX7_coupleOf_101 rfl (Nat.le_refl _) (Nat.le_refl _)
      refine XE_tsw (c := 2) (t := 102) (off := 57) dX7_coupleOf_45 (by decide) (by decide) rfl rfl ?_ (fun h15 => ?_)
      · refine XE_aload_n (n := 103) dX7_coupleOf_102 rfl rfl rfl ?_
        refine XE_getr (b := 3) (n := 106) xf_X7_16 rfl rfl dX7_coupleOf_103 rfl ?_
        refine XE_iload_n (n := 107) dX7_coupleOf_106 rfl rfl rfl ?_
        refine XE_iald (row := w1 3) (n := 108) rfl rfl dX7_coupleOf_107 rfl ?_
        exact XE_ireturn rfl dX7_coupleOf_108 rfl (Nat.le_refl _) (Nat.le_refl _)
      refine XE_tsw (c := 3) (t := 109) (off := 64) dX7_coupleOf_45 (by decide) (by decide) rfl rfl ?_ (fun h16 => ?_)
      · refine XE_aload_n (n := 110) dX7_coupleOf_109 rfl rfl rfl ?_
        refine XE_getr (b := 4) (n := 113) xf_X7_19 rfl rfl dX7_coupleOf_110 rfl ?_
        refine XE_iload_n (n := 114) dX7_coupleOf_113 rfl rfl rfl ?_
        refine XE_iald (row := w1 4) (n := 115) rfl rfl dX7_coupleOf_114 rfl ?_
        exact XE_ireturn rfl dX7_coupleOf_115 rfl (Nat.le_refl _) (Nat.le_refl _)
      refine XE_tsw (c := 4) (t := 116) (off := 71) dX7_coupleOf_45 (by decide) (by decide) rfl rfl ?_ (fun h17 => ?_)
      · refine XE_aload_n (n := 117) dX7_coupleOf_116 rfl rfl rfl ?_
        refine XE_getr (b := 1) (n := 120) xf_X7_7 rfl rfl dX7_coupleOf_117 rfl ?_
        refine XE_iload_n (n := 121) dX7_coupleOf_120 rfl rfl rfl ?_
        refine XE_iald (row := w1 1) (n := 122) rfl rfl dX7_coupleOf_121 rfl ?_
        refine XE_aload_n (n := 123) dX7_coupleOf_122 rfl rfl rfl ?_
        refine XE_getr (b := 2) (n := 126) xf_X7_13 rfl rfl dX7_coupleOf_123 rfl ?_
        refine XE_iload_n (n := 127) dX7_coupleOf_126 rfl rfl rfl ?_
        refine XE_iald (row := w1 2) (n := 128) rfl rfl dX7_coupleOf_127 rfl ?_
        refine XE_callS (ni := 2) (As := [.int (w1 1 (ix a1)), .int (w1 2 (ix a1))]) (π := []) (co := [0]) (cv := [w1]) (nn := 1) (hs2 := fun t18 => [w1]) (st2 := fun t18 => [.int t18]) (n := 131) xc_X7_111 (fun l t ht => met_X7_lastsBy l (w1 1 (ix a1)) (w1 2 (ix a1)) t ht) rfl rfl rfl dX7_coupleOf_128 (Nat.le_of_ble_eq_true rfl) ⟨Nat.zero_le _, Nat.zero_le _⟩ (Nat.le_of_ble_eq_true rfl) (Nat.le_of_ble_eq_true rfl) ok_40 rfl rfl rfl (fun _ => rfl) (fun _ => rfl) (fun _ => rfl) rfl (fun _ => rfl) rfl (fun t18 => ?_)
        exact XE_ireturn rfl dX7_coupleOf_131 rfl (Nat.le_refl _) (Nat.le_refl _)
      refine XE_tsw (c := 5) (t := 132) (off := 87) dX7_coupleOf_45 (by decide) (by decide) rfl rfl ?_ (fun h19 => ?_)
      · refine XE_aload_n (n := 133) dX7_coupleOf_132 rfl rfl rfl ?_
        refine XE_iload_n (n := 134) dX7_coupleOf_133 rfl rfl rfl ?_
        refine XE_callVi (ni := 1) (As := [.int a1]) (st2 := fun t20 => [.int t20]) (n := 137) (b := 0) xc_X7_107 (fun l t ht => met_X7_readyOf l w1 a1 t ht) rfl rfl rfl rfl dX7_coupleOf_134 (Nat.le_of_ble_eq_true rfl) ⟨Nat.zero_le _, Nat.zero_le _⟩ (Nat.le_of_ble_eq_true rfl) (Nat.le_of_ble_eq_true rfl) (fun _ => rfl) rfl (fun t20 => ?_)
        exact XE_ireturn rfl dX7_coupleOf_137 rfl (Nat.le_refl _) (Nat.le_refl _)
      refine XE_tsw (c := 6) (t := 138) (off := 93) dX7_coupleOf_45 (by decide) (by decide) rfl rfl ?_ (fun h21 => ?_)
      · refine XE_aload_n (n := 139) dX7_coupleOf_138 rfl rfl rfl ?_
        refine XE_iload_n (n := 140) dX7_coupleOf_139 rfl rfl rfl ?_
        refine XE_callVi (ni := 1) (As := [.int a1]) (st2 := fun t22 => [.int t22]) (n := 143) (b := 0) xc_X7_225 (fun l t ht => met_X7_guestsOf l w1 a1 t ht) rfl rfl rfl rfl dX7_coupleOf_140 (Nat.le_of_ble_eq_true rfl) ⟨Nat.zero_le _, Nat.zero_le _⟩ (Nat.le_of_ble_eq_true rfl) (Nat.le_of_ble_eq_true rfl) (fun _ => rfl) rfl (fun t22 => ?_)
        exact XE_ireturn rfl dX7_coupleOf_143 rfl (Nat.le_refl _) (Nat.le_refl _)
      refine XE_tswd (t := 144) dX7_coupleOf_45 (by have q0 := x_ne h13 (z := 0) (by decide); have q1 := x_ne h14 (z := 1) (by decide); have q2 := x_ne h15 (z := 2) (by decide); have q3 := x_ne h16 (z := 3) (by decide); have q4 := x_ne h17 (z := 4) (by decide); have q5 := x_ne h19 (z := 5) (by decide); have q6 := x_ne h21 (z := 6) (by decide); omega) rfl ?_
      refine XE_aload_n (n := 145) dX7_coupleOf_144 rfl rfl rfl ?_
      refine XE_iload_n (n := 146) dX7_coupleOf_145 rfl rfl rfl ?_
      refine XE_callVi (ni := 1) (As := [.int a1]) (st2 := fun t23 => [.int t23]) (n := 149) (b := 0) xc_X7_228 (fun l t ht => met_X7_posesOf l w1 a1 t ht) rfl rfl rfl rfl dX7_coupleOf_146 (Nat.le_of_ble_eq_true rfl) ⟨Nat.zero_le _, Nat.zero_le _⟩ (Nat.le_of_ble_eq_true rfl) (Nat.le_of_ble_eq_true rfl) (fun _ => rfl) rfl (fun t23 => ?_)
      exact XE_ireturn rfl dX7_coupleOf_149 rfl (Nat.le_refl _) (Nat.le_refl _)
theorem met_X7_coupleOf (l : Launch) (m0 : Mem) (a1 : Int32) (a2 : Int32) (t : Int32 × Mem) (ht : f_X7_coupleOf m0 a1 a2 = some t) : XMet l yX7_coupleOf cX7_coupleOf 3 (some .int) 3 0 0 [.ref 0, .int a1, .int a2] SH_M [m0] SH_M (some (.int t.1), [t.2]) := XMet.of (by decide +kernel) (fun _ => Nat.le_of_ble_eq_true rfl) (fun B => xe_X7_coupleOf B m0 a1 a2) (by rw [ht]; rfl)
/-! X7_order: EveryTwentyMinutesModel.order(I)I in world M at (0,) -/
abbrev M_X7_order : XM := (RX7, cX7_order, 2, (some .int), "order", 2, 0, 0)
def f_X7_order (m0 : Mem) (a1 : Int32) : Option (Int32 × Mem) :=
  lt (xs m0 0 14 0) fun w1 =>
  if 0 ≤ a1 then
    if (w1 0 9) ≤ a1 then
      some (((-9) : Int32), w1)
    else
      ck (inb a1 7) <|
      some ((w1 8 (ix a1)), w1)
  else
    (f_X7_refuse w1 (-4)).bind fun t3 =>
    some (t3.1, t3.2)
set_option maxRecDepth 100000 in
theorem xe_X7_order (B : XB) (m0 : Mem) (a1 : Int32) : XE B M_X7_order (XQm B 0 0 SH_M) 0 [(0, some (.ref 0)), (1, some (.int a1))] [] (0, 0) SH_M [m0] (fun t => some (some (.int t.1), [t.2])) (f_X7_order m0 a1) := by
  unfold f_X7_order
  refine XE_aload_n (n := 1) dX7_order_0 rfl rfl rfl ?_
  refine XE_iconst (v := 0) (n := 2) dX7_order_1 rfl (by decide) ?_
  refine XE_putf (hs2 := fun w1 => [w1]) (n := 5) xf_X7_76 rfl rfl rfl rfl (Nat.le_of_ble_eq_true rfl) (fun _ => rfl) dX7_order_2 rfl (fun w1 => ?_)
  refine XE_iload_n (n := 6) dX7_order_5 rfl rfl rfl ?_
  refine XE_if_ge (t := 18) (n := 9) dX7_order_6 rfl rfl (fun h4 => ?_) (fun h4 => ?_)
  · refine XE_iload_n (n := 19) dX7_order_18 rfl rfl rfl ?_
    refine XE_aload_n (n := 20) dX7_order_19 rfl rfl rfl ?_
    refine XE_getf (v := w1 0 9) (n := 23) xf_X7_100 rfl rfl rfl dX7_order_20 rfl ?_
    refine XE_icmp_ge (t := 35) (n := 26) dX7_order_23 rfl rfl (fun h2 => ?_) (fun h2 => ?_)
    · refine XE_bipush (v := (-9)) (n := 37) dX7_order_35 rfl (by decide) ?_
      exact XE_ireturn rfl dX7_order_37 rfl (Nat.le_refl _) (Nat.le_refl _)
    · refine XE_aload_n (n := 27) dX7_order_26 rfl rfl rfl ?_
      refine XE_getr (b := 8) (n := 30) xf_X7_31 rfl rfl dX7_order_27 rfl ?_
      refine XE_iload_n (n := 31) dX7_order_30 rfl rfl rfl ?_
      refine XE_iald (row := w1 8) (n := 32) rfl rfl dX7_order_31 rfl ?_
      refine XE_goto (n := 37) dX7_order_32 rfl ?_
      exact XE_ireturn rfl dX7_order_37 rfl (Nat.le_refl _) (Nat.le_refl _)
  · refine XE_aload_n (n := 10) dX7_order_9 rfl rfl rfl ?_
    refine XE_bipush (v := (-4)) (n := 12) dX7_order_10 rfl (by decide) ?_
    refine XE_callVi (ni := 1) (As := [.int (-4)]) (st2 := fun t3 => [.int t3.1]) (n := 15) (b := 0) xc_X7_138 (fun l t ht => met_X7_refuse l w1 (-4) t ht) rfl rfl rfl rfl dX7_order_12 (Nat.le_of_ble_eq_true rfl) ⟨Nat.zero_le _, Nat.zero_le _⟩ (Nat.le_of_ble_eq_true rfl) (Nat.le_of_ble_eq_true rfl) (fun _ => rfl) rfl (fun t3 => ?_)
    refine XE_goto (n := 37) dX7_order_15 rfl ?_
    exact XE_ireturn rfl dX7_order_37 rfl (Nat.le_refl _) (Nat.le_refl _)
theorem met_X7_order (l : Launch) (m0 : Mem) (a1 : Int32) (t : Int32 × Mem) (ht : f_X7_order m0 a1 = some t) : XMet l yX7_order cX7_order 2 (some .int) 2 0 0 [.ref 0, .int a1] SH_M [m0] SH_M (some (.int t.1), [t.2]) := XMet.of (by decide +kernel) (fun _ => Nat.le_of_ble_eq_true rfl) (fun B => xe_X7_order B m0 a1) (by rw [ht]; rfl)
