/-! X7_free: EveryTwentyMinutesModel.free(I)I in world M at (0,) -/
abbrev M_X7_free : XM := (RX7, cX7_free, 2, (some .int), "free", 2, 0, 0)
def f_X7_free (m0 : Mem) (a1 : Int32) : Option (Int32 × Mem) :=
  lt (xs m0 0 14 0) fun w1 =>
  (f_X7_in ((a1 : Int32).toInt64) 0 ((((w1 0 10) - 1) : Int32).toInt64)).bind fun t2 =>
  if t2 = 0 then
    (f_X7_refuse w1 (-2)).bind fun t3 =>
    some (t3.1, t3.2)
  else
    ck (inb a1 2) <|
    some ((w1 9 (ix a1)), w1)
set_option maxRecDepth 100000 in
theorem xe_X7_free (B : XB) (m0 : Mem) (a1 : Int32) : XE B M_X7_free (XQm B 0 0 SH_M) 0 [(0, some (.ref 0)), (1, some (.int a1))] [] (0, 0) SH_M [m0] (fun t => some (some (.int t.1), [t.2])) (f_X7_free m0 a1) := by
  unfold f_X7_free
  refine XE_aload_n (n := 1) dX7_free_0 rfl rfl rfl ?_
  refine XE_iconst (v := 0) (n := 2) dX7_free_1 rfl (by decide) ?_
  refine XE_putf (hs2 := fun w1 => [w1]) (n := 5) xf_X7_76 rfl rfl rfl rfl (Nat.le_of_ble_eq_true rfl) (fun _ => rfl) dX7_free_2 rfl (fun w1 => ?_)
  refine XE_iload_n (n := 6) dX7_free_5 rfl rfl rfl ?_
  refine XE_i2l (n := 7) dX7_free_6 rfl ?_
  refine XE_lconst (v := 0) (n := 8) dX7_free_7 rfl (by decide) ?_
  refine XE_aload_n (n := 9) dX7_free_8 rfl rfl rfl ?_
  refine XE_getf (v := w1 0 10) (n := 12) xf_X7_80 rfl rfl rfl dX7_free_9 rfl ?_
  refine XE_iconst (v := 1) (n := 13) dX7_free_12 rfl (by decide) ?_
  refine XE_isub (n := 14) dX7_free_13 rfl ?_
  refine XE_i2l (n := 15) dX7_free_14 rfl ?_
  refine XE_callS (ni := 3) (As := [.long ((a1 : Int32).toInt64), .long 0, .long ((((w1 0 10) - 1) : Int32).toInt64)]) (π := []) (co := [0]) (cv := [w1]) (nn := 1) (hs2 := fun t2 => [w1]) (st2 := fun t2 => [.int t2]) (n := 18) xc_X7_86 (fun l t ht => met_X7_in l ((a1 : Int32).toInt64) 0 ((((w1 0 10) - 1) : Int32).toInt64) t ht) rfl rfl rfl dX7_free_15 (Nat.le_of_ble_eq_true rfl) ⟨Nat.zero_le _, Nat.zero_le _⟩ (Nat.le_of_ble_eq_true rfl) (Nat.le_of_ble_eq_true rfl) ok_40 rfl rfl rfl (fun _ => rfl) (fun _ => rfl) (fun _ => rfl) rfl (fun _ => rfl) rfl (fun t2 => ?_)
  refine XE_if_eq (t := 30) (n := 21) dX7_free_18 rfl rfl (fun h4 => ?_) (fun h4 => ?_)
  · refine XE_aload_n (n := 31) dX7_free_30 rfl rfl rfl ?_
    refine XE_bipush (v := (-2)) (n := 33) dX7_free_31 rfl (by decide) ?_
    refine XE_callVi (ni := 1) (As := [.int (-2)]) (st2 := fun t3 => [.int t3.1]) (n := 36) (b := 0) xc_X7_138 (fun l t ht => met_X7_refuse l w1 (-2) t ht) rfl rfl rfl rfl dX7_free_33 (Nat.le_of_ble_eq_true rfl) ⟨Nat.zero_le _, Nat.zero_le _⟩ (Nat.le_of_ble_eq_true rfl) (Nat.le_of_ble_eq_true rfl) (fun _ => rfl) rfl (fun t3 => ?_)
    exact XE_ireturn rfl dX7_free_36 rfl (Nat.le_refl _) (Nat.le_refl _)
  · refine XE_aload_n (n := 22) dX7_free_21 rfl rfl rfl ?_
    refine XE_getr (b := 9) (n := 25) xf_X7_34 rfl rfl dX7_free_22 rfl ?_
    refine XE_iload_n (n := 26) dX7_free_25 rfl rfl rfl ?_
    refine XE_iald (row := w1 9) (n := 27) rfl rfl dX7_free_26 rfl ?_
    refine XE_goto (n := 36) dX7_free_27 rfl ?_
    exact XE_ireturn rfl dX7_free_36 rfl (Nat.le_refl _) (Nat.le_refl _)
theorem met_X7_free (l : Launch) (m0 : Mem) (a1 : Int32) (t : Int32 × Mem) (ht : f_X7_free m0 a1 = some t) : XMet l yX7_free cX7_free 2 (some .int) 2 0 0 [.ref 0, .int a1] SH_M [m0] SH_M (some (.int t.1), [t.2]) := XMet.of (by decide +kernel) (fun _ => Nat.le_of_ble_eq_true rfl) (fun B => xe_X7_free B m0 a1) (by rw [ht]; rfl)
/-! X7_couple: EveryTwentyMinutesModel.couple(III)I in world M at (0,) -/
abbrev M_X7_couple : XM := (RX7, cX7_couple, 5, (some .int), "couple", 2, 0, 0)
def f_X7_couple (m0 : Mem) (a1 : Int32) (a2 : Int32) (a3 : Int32) : Option (Int32 × Mem) :=
  lt (xs m0 0 14 0) fun w1 =>
  (f_X7_in ((a1 : Int32).toInt64) 0 5).bind fun t2 =>
  lt (if t2 = 0 then
      (((-2) : Int32))
    else
      if a2 < 0 then
        (((-4) : Int32))
      else
        if 0 ≤ a3 then
          if 9 < a2 then
            (((-6) : Int32))
          else
            if 240 < a3 then
              (((-6) : Int32))
            else
              if (w1 0 0) = 7 then
                (((-6) : Int32))
              else
                ((0 : Int32))
        else
          (((-4) : Int32))) fun t10 =>
  if 0 ≤ t10 then
    (f_X7_coupleComes w1 a1 a2 a3).bind fun t11 =>
    lt (xs t11.2 0 32 0) fun w12 =>
    some (((w12 0 0) - 1), w12)
  else
    (f_X7_refuse w1 t10).bind fun t13 =>
    some (t13.1, t13.2)
set_option maxRecDepth 100000 in
theorem xe_X7_couple (B : XB) (m0 : Mem) (a1 : Int32) (a2 : Int32) (a3 : Int32) : XE B M_X7_couple (XQm B 0 0 SH_M) 0 [(0, some (.ref 0)), (1, some (.int a1)), (2, some (.int a2)), (3, some (.int a3))] [] (0, 0) SH_M [m0] (fun t => some (some (.int t.1), [t.2])) (f_X7_couple m0 a1 a2 a3) := by
  unfold f_X7_couple
  refine XE_aload_n (n := 1) dX7_couple_0 rfl rfl rfl ?_
  refine XE_iconst (v := 0) (n := 2) dX7_couple_1 rfl (by decide) ?_
  refine XE_putf (hs2 := fun w1 => [w1]) (n := 5) xf_X7_76 rfl rfl rfl rfl (Nat.le_of_ble_eq_true rfl) (fun _ => rfl) dX7_couple_2 rfl (fun w1 => ?_)
  refine XE_iconst (v := 0) (n := 6) dX7_couple_5 rfl (by decide) ?_
  refine XE_istore (i := 4) (n := 8) dX7_couple_6 rfl (Nat.le_of_ble_eq_true rfl) rfl ?_
  refine XE_iload_n (n := 9) dX7_couple_8 rfl rfl rfl ?_
  refine XE_i2l (n := 10) dX7_couple_9 rfl ?_
  refine XE_lconst (v := 0) (n := 11) dX7_couple_10 rfl (by decide) ?_
  refine XE_ldc2 (n := 14) dX7_couple_11 rfl xk_X7_231 ?_
  refine XE_callS (ni := 3) (As := [.long ((a1 : Int32).toInt64), .long 0, .long 5]) (π := []) (co := [0]) (cv := [w1]) (nn := 1) (hs2 := fun t2 => [w1]) (st2 := fun t2 => [.int t2]) (n := 17) xc_X7_86 (fun l t ht => met_X7_in l ((a1 : Int32).toInt64) 0 5 t ht) rfl rfl rfl dX7_couple_14 (Nat.le_of_ble_eq_true rfl) ⟨Nat.zero_le _, Nat.zero_le _⟩ (Nat.le_of_ble_eq_true rfl) (Nat.le_of_ble_eq_true rfl) ok_40 rfl rfl rfl (fun _ => rfl) (fun _ => rfl) (fun _ => rfl) rfl (fun _ => rfl) rfl (fun t2 => ?_)
  refine XE_regv (J := 68) (lsJ := fun t10 => [(0, some (.ref 0)), (1, some (.int a1)), (2, some (.int a2)), (3, some (.int a3)), (4, some (.int t10))]) (stJ := fun t10 => []) (hsJ := fun t10 => [w1]) (fun t10 => ?_) (fun hJ3 => ?_)
  · refine XE_iload (n := 70) dX7_couple_68 rfl rfl ?_
    refine XE_if_ge (t := 80) (n := 73) dX7_couple_70 rfl rfl (fun h14 => ?_) (fun h14 => ?_)
    · refine XE_aload_n (n := 81) dX7_couple_80 rfl rfl rfl ?_
      refine XE_iload_n (n := 82) dX7_couple_81 rfl rfl rfl ?_
      refine XE_iload_n (n := 83) dX7_couple_82 rfl rfl rfl ?_
      refine XE_iload_n (n := 84) dX7_couple_83 rfl rfl rfl ?_
      refine XE_callVi (ni := 3) (As := [.int a1, .int a2, .int a3]) (st2 := fun t11 => [.int t11.1]) (n := 87) (b := 0) xc_X7_170 (fun l t ht => met_X7_coupleComes l w1 a1 a2 a3 t ht) rfl rfl rfl rfl dX7_couple_84 (Nat.le_of_ble_eq_true rfl) ⟨Nat.zero_le _, Nat.zero_le _⟩ (Nat.le_of_ble_eq_true rfl) (Nat.le_of_ble_eq_true rfl) (fun _ => rfl) rfl (fun t11 => ?_)
      refine XE_pop (n := 88) dX7_couple_87 rfl rfl ?_
      refine XE_aload_n (n := 89) dX7_couple_88 rfl rfl rfl ?_
      refine XE_iconst (v := 0) (n := 90) dX7_couple_89 rfl (by decide) ?_
      refine XE_putf (hs2 := fun w12 => [w12]) (n := 93) xf_X7_203 rfl rfl rfl rfl (Nat.le_of_ble_eq_true rfl) (fun _ => rfl) dX7_couple_90 rfl (fun w12 => ?_)
      refine XE_aload_n (n := 94) dX7_couple_93 rfl rfl rfl ?_
      refine XE_getf (v := w12 0 0) (n := 97) xf_X7_83 rfl rfl rfl dX7_couple_94 rfl ?_
      refine XE_iconst (v := 1) (n := 98) dX7_couple_97 rfl (by decide) ?_
      refine XE_isub (n := 99) dX7_couple_98 rfl ?_
      exact XE_ireturn rfl dX7_couple_99 rfl (Nat.le_refl _) (Nat.le_refl _)
    · refine XE_aload_n (n := 74) dX7_couple_73 rfl rfl rfl ?_
      refine XE_iload (n := 76) dX7_couple_74 rfl rfl ?_
      refine XE_callVi (ni := 1) (As := [.int t10]) (st2 := fun t13 => [.int t13.1]) (n := 79) (b := 0) xc_X7_138 (fun l t ht => met_X7_refuse l w1 t10 t ht) rfl rfl rfl rfl dX7_couple_76 (Nat.le_of_ble_eq_true rfl) ⟨Nat.zero_le _, Nat.zero_le _⟩ (Nat.le_of_ble_eq_true rfl) (Nat.le_of_ble_eq_true rfl) (fun _ => rfl) rfl (fun t13 => ?_)
      exact XE_ireturn rfl dX7_couple_79 rfl (Nat.le_refl _) (Nat.le_refl _)
  · refine XE_ltif ?_
    refine XE_if_ne (t := 27) (n := 20) dX7_couple_17 rfl rfl (fun h9 => ?_) (fun h9 => ?_)
    · refine XE_bipush (v := (-2)) (n := 22) dX7_couple_20 rfl (by decide) ?_
      refine XE_istore (i := 4) (n := 24) dX7_couple_22 rfl (Nat.le_of_ble_eq_true rfl) rfl ?_
      refine XE_goto (n := 68) dX7_couple_24 rfl ?_
      refine XE_ls (x_sub_ok (ls' := [(0, some (.ref 0)), (1, some (.int a1)), (2, some (.int a2)), (3, some (.int a3)), (4, some (.int (-2)))]) ⟨rfl, rfl, rfl, rfl, rfl, trivial⟩) ?_
      exact hJ3 (((-2) : Int32))
    · refine XE_iload_n (n := 28) dX7_couple_27 rfl rfl rfl ?_
      refine XE_ltif ?_
      refine XE_if_lt (t := 35) (n := 31) dX7_couple_28 rfl rfl (fun h8 => ?_) (fun h8 => ?_)
      · refine XE_bipush (v := (-4)) (n := 37) dX7_couple_35 rfl (by decide) ?_
        refine XE_istore (i := 4) (n := 39) dX7_couple_37 rfl (Nat.le_of_ble_eq_true rfl) rfl ?_
        refine XE_goto (n := 68) dX7_couple_39 rfl ?_
        refine XE_ls (x_sub_ok (ls' := [(0, some (.ref 0)), (1, some (.int a1)), (2, some (.int a2)), (3, some (.int a3)), (4, some (.int (-4)))]) ⟨rfl, rfl, rfl, rfl, rfl, trivial⟩) ?_
        exact hJ3 (((-4) : Int32))
      · refine XE_iload_n (n := 32) dX7_couple_31 rfl rfl rfl ?_
        refine XE_ltif ?_
        refine XE_if_ge (t := 42) (n := 35) dX7_couple_32 rfl rfl (fun h7 => ?_) (fun h7 => ?_)
        · refine XE_iload_n (n := 43) dX7_couple_42 rfl rfl rfl ?_
          refine XE_bipush (v := 9) (n := 45) dX7_couple_43 rfl (by decide) ?_
          refine XE_ltif ?_
          refine XE_icmp_gt (t := 64) (n := 48) dX7_couple_45 rfl rfl (fun h6 => ?_) (fun h6 => ?_)
          · refine XE_bipush (v := (-6)) (n := 66) dX7_couple_64 rfl (by decide) ?_
            refine XE_istore (i := 4) (n := 68) dX7_couple_66 rfl (Nat.le_of_ble_eq_true rfl) rfl ?_
            refine XE_ls (x_sub_ok (ls' := [(0, some (.ref 0)), (1, some (.int a1)), (2, some (.int a2)), (3, some (.int a3)), (4, some (.int (-6)))]) ⟨rfl, rfl, rfl, rfl, rfl, trivial⟩) ?_
            exact hJ3 (((-6) : Int32))
          · refine XE_iload_n (n := 49) dX7_couple_48 rfl rfl rfl ?_
            refine XE_sipush (v := 240) (n := 52) dX7_couple_49 rfl (by decide) ?_
            refine XE_ltif ?_
            refine XE_icmp_gt (t := 64) (n := 55) dX7_couple_52 rfl rfl (fun h5 => ?_) (fun h5 => ?_)
            · refine XE_bipush (v := (-6)) (n := 66) dX7_couple_64 rfl (by decide) ?_
              refine XE_istore (i := 4) (n := 68) dX7_couple_66 rfl (Nat.le_of_ble_eq_true rfl) rfl ?_
              refine XE_ls (x_sub_ok (ls' := [(0, some (.ref 0)), (1, some (.int a1)), (2, some (.int a2)), (3, some (.int a3)), (4, some (.int (-6)))]) ⟨rfl, rfl, rfl, rfl, rfl, trivial⟩) ?_
              exact hJ3 (((-6) : Int32))
            · refine XE_aload_n (n := 56) dX7_couple_55 rfl rfl rfl ?_
              refine XE_getf (v := w1 0 0) (n := 59) xf_X7_83 rfl rfl rfl dX7_couple_56 rfl ?_
              refine XE_bipush (v := 7) (n := 61) dX7_couple_59 rfl (by decide) ?_
              refine XE_ltif ?_
              refine XE_icmp_ne (t := 68) (n := 64) dX7_couple_61 rfl rfl (fun h4 => ?_) (fun h4 => ?_)
              · refine XE_bipush (v := (-6)) (n := 66) dX7_couple_64 rfl (by decide) ?_
                refine XE_istore (i := 4) (n := 68) dX7_couple_66 rfl (Nat.le_of_ble_eq_true rfl) rfl ?_
                refine XE_ls (x_sub_ok (ls' := [(0, some (.ref 0)), (1, some (.int a1)), (2, some (.int a2)), (3, some (.int a3)), (4, some (.int (-6)))]) ⟨rfl, rfl, rfl, rfl, rfl, trivial⟩) ?_
                exact hJ3 (((-6) : Int32))
              · refine XE_ls (x_sub_ok (ls' := [(0, some (.ref 0)), (1, some (.int a1)), (2, some (.int a2)), (3, some (.int a3)), (4, some (.int 0))]) ⟨rfl, rfl, rfl, rfl, rfl, trivial⟩) ?_
                exact hJ3 ((0 : Int32))
        · refine XE_bipush (v := (-4)) (n := 37) dX7_couple_35 rfl (by decide) ?_
          refine XE_istore (i := 4) (n := 39) dX7_couple_37 rfl (Nat.le_of_ble_eq_true rfl) rfl ?_
          refine XE_goto (n := 68) dX7_couple_39 rfl ?_
          refine XE_ls (x_sub_ok (ls' := [(0, some (.ref 0)), (1, some (.int a1)), (2, some (.int a2)), (3, some (.int a3)), (4, some (.int (-4)))]) ⟨rfl, rfl, rfl, rfl, rfl, trivial⟩) ?_
          exact hJ3 (((-4) : Int32))
theorem met_X7_couple (l : Launch) (m0 : Mem) (a1 : Int32) (a2 : Int32) (a3 : Int32) (t : Int32 × Mem) (ht : f_X7_couple m0 a1 a2 a3 = some t) : XMet l yX7_couple cX7_couple 5 (some .int) 2 0 0 [.ref 0, .int a1, .int a2, .int a3] SH_M [m0] SH_M (some (.int t.1), [t.2]) := XMet.of (by decide +kernel) (fun _ => Nat.le_of_ble_eq_true rfl) (fun B => xe_X7_couple B m0 a1 a2 a3) (by rw [ht]; rfl)
/-! X7_rooms: EveryTwentyMinutesModel.rooms(I)I in world M at (0,) -/
abbrev M_X7_rooms : XM := (RX7, cX7_rooms, 3, (some .int), "rooms", 2, 0, 0)
def f_X7_rooms (m0 : Mem) (a1 : Int32) : Option (Int32 × Mem) :=
  lt (xs m0 0 14 0) fun w1 =>
  (f_X7_wrongNumber a1 1 2).bind fun t2 =>
  if 0 ≤ t2 then
    lt (w1 0 10) fun v3 =>
    (f_X7_roomsBecome w1 a1).bind fun t4 =>
    lt (xs t4 0 32 0) fun w5 =>
    some (v3, w5)
  else
    (f_X7_wrongNumber a1 1 2).bind fun t6 =>
    (f_X7_refuse w1 t6).bind fun t7 =>
    some (t7.1, t7.2)
set_option maxRecDepth 100000 in
theorem xe_X7_rooms (B : XB) (m0 : Mem) (a1 : Int32) : XE B M_X7_rooms (XQm B 0 0 SH_M) 0 [(0, some (.ref 0)), (1, some (.int a1))] [] (0, 0) SH_M [m0] (fun t => some (some (.int t.1), [t.2])) (f_X7_rooms m0 a1) := by
  unfold f_X7_rooms
  refine XE_aload_n (n := 1) dX7_rooms_0 rfl rfl rfl ?_
  refine XE_iconst (v := 0) (n := 2) dX7_rooms_1 rfl (by decide) ?_
  refine XE_putf (hs2 := fun w1 => [w1]) (n := 5) xf_X7_76 rfl rfl rfl rfl (Nat.le_of_ble_eq_true rfl) (fun _ => rfl) dX7_rooms_2 rfl (fun w1 => ?_)
  refine XE_iload_n (n := 6) dX7_rooms_5 rfl rfl rfl ?_
  refine XE_iconst (v := 1) (n := 7) dX7_rooms_6 rfl (by decide) ?_
  refine XE_iconst (v := 2) (n := 8) dX7_rooms_7 rfl (by decide) ?_
  refine XE_callS (ni := 3) (As := [.int a1, .int 1, .int 2]) (π := []) (co := [0]) (cv := [w1]) (nn := 1) (hs2 := fun t2 => [w1]) (st2 := fun t2 => [.int t2]) (n := 11) xc_X7_233 (fun l t ht => met_X7_wrongNumber l a1 1 2 t ht) rfl rfl rfl dX7_rooms_8 (Nat.le_of_ble_eq_true rfl) ⟨Nat.zero_le _, Nat.zero_le _⟩ (Nat.le_of_ble_eq_true rfl) (Nat.le_of_ble_eq_true rfl) ok_40 rfl rfl rfl (fun _ => rfl) (fun _ => rfl) (fun _ => rfl) rfl (fun _ => rfl) rfl (fun t2 => ?_)
  refine XE_if_ge (t := 25) (n := 14) dX7_rooms_11 rfl rfl (fun h8 => ?_) (fun h8 => ?_)
  · refine XE_aload_n (n := 26) dX7_rooms_25 rfl rfl rfl ?_
    refine XE_getf (v := w1 0 10) (n := 29) xf_X7_80 rfl rfl rfl dX7_rooms_26 rfl ?_
    refine XE_topi (fun v3 => ?_)
    refine XE_istore_n (i := 2) (n := 30) dX7_rooms_29 rfl rfl (Nat.le_of_ble_eq_true rfl) rfl ?_
    refine XE_aload_n (n := 31) dX7_rooms_30 rfl rfl rfl ?_
    refine XE_iload_n (n := 32) dX7_rooms_31 rfl rfl rfl ?_
    refine XE_callVi (ni := 1) (As := [.int a1]) (st2 := fun t4 => []) (n := 35) (b := 0) xc_X7_174 (fun l t ht => met_X7_roomsBecome l w1 a1 t ht) rfl rfl rfl rfl dX7_rooms_32 (Nat.le_of_ble_eq_true rfl) ⟨Nat.zero_le _, Nat.zero_le _⟩ (Nat.le_of_ble_eq_true rfl) (Nat.le_of_ble_eq_true rfl) (fun _ => rfl) rfl (fun t4 => ?_)
    refine XE_aload_n (n := 36) dX7_rooms_35 rfl rfl rfl ?_
    refine XE_iconst (v := 0) (n := 37) dX7_rooms_36 rfl (by decide) ?_
    refine XE_putf (hs2 := fun w5 => [w5]) (n := 40) xf_X7_203 rfl rfl rfl rfl (Nat.le_of_ble_eq_true rfl) (fun _ => rfl) dX7_rooms_37 rfl (fun w5 => ?_)
    refine XE_iload_n (n := 41) dX7_rooms_40 rfl rfl rfl ?_
    exact XE_ireturn rfl dX7_rooms_41 rfl (Nat.le_refl _) (Nat.le_refl _)
  · refine XE_aload_n (n := 15) dX7_rooms_14 rfl rfl rfl ?_
    refine XE_iload_n (n := 16) dX7_rooms_15 rfl rfl rfl ?_
    refine XE_iconst (v := 1) (n := 17) dX7_rooms_16 rfl (by decide) ?_
    refine XE_iconst (v := 2) (n := 18) dX7_rooms_17 rfl (by decide) ?_
    refine XE_callS (ni := 3) (As := [.int a1, .int 1, .int 2]) (π := []) (co := [0]) (cv := [w1]) (nn := 1) (hs2 := fun t6 => [w1]) (st2 := fun t6 => [.int t6, .ref 0]) (n := 21) xc_X7_233 (fun l t ht => met_X7_wrongNumber l a1 1 2 t ht) rfl rfl rfl dX7_rooms_18 (Nat.le_of_ble_eq_true rfl) ⟨Nat.zero_le _, Nat.zero_le _⟩ (Nat.le_of_ble_eq_true rfl) (Nat.le_of_ble_eq_true rfl) ok_40 rfl rfl rfl (fun _ => rfl) (fun _ => rfl) (fun _ => rfl) rfl (fun _ => rfl) rfl (fun t6 => ?_)
    refine XE_callVi (ni := 1) (As := [.int t6]) (st2 := fun t7 => [.int t7.1]) (n := 24) (b := 0) xc_X7_138 (fun l t ht => met_X7_refuse l w1 t6 t ht) rfl rfl rfl rfl dX7_rooms_21 (Nat.le_of_ble_eq_true rfl) ⟨Nat.zero_le _, Nat.zero_le _⟩ (Nat.le_of_ble_eq_true rfl) (Nat.le_of_ble_eq_true rfl) (fun _ => rfl) rfl (fun t7 => ?_)
    exact XE_ireturn rfl dX7_rooms_24 rfl (Nat.le_refl _) (Nat.le_refl _)
theorem met_X7_rooms (l : Launch) (m0 : Mem) (a1 : Int32) (t : Int32 × Mem) (ht : f_X7_rooms m0 a1 = some t) : XMet l yX7_rooms cX7_rooms 3 (some .int) 2 0 0 [.ref 0, .int a1] SH_M [m0] SH_M (some (.int t.1), [t.2]) := XMet.of (by decide +kernel) (fun _ => Nat.le_of_ble_eq_true rfl) (fun B => xe_X7_rooms B m0 a1) (by rw [ht]; rfl)
/-! X7_weds: EveryTwentyMinutesModel.weds(I)I in world M at (0,) -/
abbrev M_X7_weds : XM := (RX7, cX7_weds, 4, (some .int), "weds", 5, 0, 0)
def f_X7_weds (m0 : Mem) (a1 : Int32) : Option (Int32 × Mem) :=
  lt (xs m0 0 14 0) fun w1 =>
  (f_X7_wrongNumber a1 1 7).bind fun t2 =>
  lt (if t2 = 0 then
      if a1 ≤ (w1 0 9) then
        (t2)
      else
        (((-3) : Int32))
    else
      (t2)) fun t6 =>
  if 0 ≤ t6 then
    (f_X7_keepTurn w1).bind fun t7 =>
    ck (inb (a1 - 1) 7) <|
    lt (t7 8 (ix (a1 - 1))) fun v8 =>
    (f_X7_wedsCome t7 a1).bind fun t9 =>
    ck (inb v8 7) <|
    some ((t9.2 6 (ix v8)), t9.2)
  else
    (f_X7_refuse w1 t6).bind fun t10 =>
    some (t10.1, t10.2)
set_option maxRecDepth 100000 in
theorem xe_X7_weds (B : XB) (m0 : Mem) (a1 : Int32) : XE B M_X7_weds (XQm B 0 0 SH_M) 0 [(0, some (.ref 0)), (1, some (.int a1))] [] (0, 0) SH_M [m0] (fun t => some (some (.int t.1), [t.2])) (f_X7_weds m0 a1) := by
  unfold f_X7_weds
  refine XE_aload_n (n := 1) dX7_weds_0 rfl rfl rfl ?_
  refine XE_iconst (v := 0) (n := 2) dX7_weds_1 rfl (by decide) ?_
  refine XE_putf (hs2 := fun w1 => [w1]) (n := 5) xf_X7_76 rfl rfl rfl rfl (Nat.le_of_ble_eq_true rfl) (fun _ => rfl) dX7_weds_2 rfl (fun w1 => ?_)
  refine XE_iload_n (n := 6) dX7_weds_5 rfl rfl rfl ?_
  refine XE_iconst (v := 1) (n := 7) dX7_weds_6 rfl (by decide) ?_
  refine XE_bipush (v := 7) (n := 9) dX7_weds_7 rfl (by decide) ?_
  refine XE_callS (ni := 3) (As := [.int a1, .int 1, .int 7]) (π := []) (co := [0]) (cv := [w1]) (nn := 1) (hs2 := fun t2 => [w1]) (st2 := fun t2 => [.int t2]) (n := 12) xc_X7_233 (fun l t ht => met_X7_wrongNumber l a1 1 7 t ht) rfl rfl rfl dX7_weds_9 (Nat.le_of_ble_eq_true rfl) ⟨Nat.zero_le _, Nat.zero_le _⟩ (Nat.le_of_ble_eq_true rfl) (Nat.le_of_ble_eq_true rfl) ok_40 rfl rfl rfl (fun _ => rfl) (fun _ => rfl) (fun _ => rfl) rfl (fun _ => rfl) rfl (fun t2 => ?_)
  refine XE_istore_n (i := 2) (n := 13) dX7_weds_12 rfl rfl (Nat.le_of_ble_eq_true rfl) rfl ?_
  refine XE_iload_n (n := 14) dX7_weds_13 rfl rfl rfl ?_
  refine XE_regv (J := 31) (lsJ := fun t6 => [(0, some (.ref 0)), (1, some (.int a1))]) (stJ := fun t6 => [.int t6]) (hsJ := fun t6 => [w1]) (fun t6 => ?_) (fun hJ3 => ?_)
  · refine XE_istore_n (i := 2) (n := 32) dX7_weds_31 rfl rfl (Nat.le_of_ble_eq_true rfl) rfl ?_
    refine XE_iload_n (n := 33) dX7_weds_32 rfl rfl rfl ?_
    refine XE_if_ge (t := 42) (n := 36) dX7_weds_33 rfl rfl (fun h11 => ?_) (fun h11 => ?_)
    · refine XE_aload_n (n := 43) dX7_weds_42 rfl rfl rfl ?_
      refine XE_callVi (ni := 0) (As := []) (st2 := fun t7 => []) (n := 46) (b := 0) xc_X7_237 (fun l t ht => met_X7_keepTurn l w1 t ht) rfl rfl rfl rfl dX7_weds_43 (Nat.le_of_ble_eq_true rfl) ⟨Nat.zero_le _, Nat.zero_le _⟩ (Nat.le_of_ble_eq_true rfl) (Nat.le_of_ble_eq_true rfl) (fun _ => rfl) rfl (fun t7 => ?_)
      refine XE_aload_n (n := 47) dX7_weds_46 rfl rfl rfl ?_
      refine XE_getr (b := 8) (n := 50) xf_X7_31 rfl rfl dX7_weds_47 rfl ?_
      refine XE_iload_n (n := 51) dX7_weds_50 rfl rfl rfl ?_
      refine XE_iconst (v := 1) (n := 52) dX7_weds_51 rfl (by decide) ?_
      refine XE_isub (n := 53) dX7_weds_52 rfl ?_
      refine XE_iald (row := t7 8) (n := 54) rfl rfl dX7_weds_53 rfl ?_
      refine XE_topi (fun v8 => ?_)
      refine XE_istore_n (i := 3) (n := 55) dX7_weds_54 rfl rfl (Nat.le_of_ble_eq_true rfl) rfl ?_
      refine XE_aload_n (n := 56) dX7_weds_55 rfl rfl rfl ?_
      refine XE_iload_n (n := 57) dX7_weds_56 rfl rfl rfl ?_
      refine XE_callVi (ni := 1) (As := [.int a1]) (st2 := fun t9 => [.int t9.1]) (n := 60) (b := 0) xc_X7_183 (fun l t ht => met_X7_wedsCome l t7 a1 t ht) rfl rfl rfl rfl dX7_weds_57 (Nat.le_of_ble_eq_true rfl) ⟨Nat.zero_le _, Nat.zero_le _⟩ (Nat.le_of_ble_eq_true rfl) (Nat.le_of_ble_eq_true rfl) (fun _ => rfl) rfl (fun t9 => ?_)
      refine XE_pop (n := 61) dX7_weds_60 rfl rfl ?_
      refine XE_aload_n (n := 62) dX7_weds_61 rfl rfl rfl ?_
      refine XE_getr (b := 6) (n := 65) xf_X7_25 rfl rfl dX7_weds_62 rfl ?_
      refine XE_iload_n (n := 66) dX7_weds_65 rfl rfl rfl ?_
      refine XE_iald (row := t9.2 6) (n := 67) rfl rfl dX7_weds_66 rfl ?_
      exact XE_ireturn rfl dX7_weds_67 rfl (Nat.le_refl _) (Nat.le_refl _)
    · refine XE_aload_n (n := 37) dX7_weds_36 rfl rfl rfl ?_
      refine XE_iload_n (n := 38) dX7_weds_37 rfl rfl rfl ?_
      refine XE_callVi (ni := 1) (As := [.int t6]) (st2 := fun t10 => [.int t10.1]) (n := 41) (b := 0) xc_X7_138 (fun l t ht => met_X7_refuse l w1 t6 t ht) rfl rfl rfl rfl dX7_weds_38 (Nat.le_of_ble_eq_true rfl) ⟨Nat.zero_le _, Nat.zero_le _⟩ (Nat.le_of_ble_eq_true rfl) (Nat.le_of_ble_eq_true rfl) (fun _ => rfl) rfl (fun t10 => ?_)
      exact XE_ireturn rfl dX7_weds_41 rfl (Nat.le_refl _) (Nat.le_refl _)
  · refine XE_ltif ?_
    refine XE_if_ne (t := 30) (n := 17) dX7_weds_14 rfl rfl (fun h5 => ?_) (fun h5 => ?_)
    · refine XE_iload_n (n := 18) dX7_weds_17 rfl rfl rfl ?_
      refine XE_aload_n (n := 19) dX7_weds_18 rfl rfl rfl ?_
      refine XE_getf (v := w1 0 9) (n := 22) xf_X7_100 rfl rfl rfl dX7_weds_19 rfl ?_
      refine XE_ltif ?_
      refine XE_icmp_le (t := 30) (n := 25) dX7_weds_22 rfl rfl (fun h4 => ?_) (fun h4 => ?_)
      · refine XE_iload_n (n := 31) dX7_weds_30 rfl rfl rfl ?_
        refine XE_ls (x_sub_ok (ls' := [(0, some (.ref 0)), (1, some (.int a1))]) ⟨rfl, rfl, trivial⟩) ?_
        exact hJ3 (t2)
      · refine XE_bipush (v := (-3)) (n := 27) dX7_weds_25 rfl (by decide) ?_
        refine XE_goto (n := 31) dX7_weds_27 rfl ?_
        refine XE_ls (x_sub_ok (ls' := [(0, some (.ref 0)), (1, some (.int a1))]) ⟨rfl, rfl, trivial⟩) ?_
        exact hJ3 (((-3) : Int32))
    · refine XE_iload_n (n := 31) dX7_weds_30 rfl rfl rfl ?_
      refine XE_ls (x_sub_ok (ls' := [(0, some (.ref 0)), (1, some (.int a1))]) ⟨rfl, rfl, trivial⟩) ?_
      exact hJ3 (t2)
theorem met_X7_weds (l : Launch) (m0 : Mem) (a1 : Int32) (t : Int32 × Mem) (ht : f_X7_weds m0 a1 = some t) : XMet l yX7_weds cX7_weds 4 (some .int) 5 0 0 [.ref 0, .int a1] SH_M [m0] SH_M (some (.int t.1), [t.2]) := XMet.of (by decide +kernel) (fun _ => Nat.le_of_ble_eq_true rfl) (fun B => xe_X7_weds B m0 a1) (by rw [ht]; rfl)
/-! X7_pulls: EveryTwentyMinutesModel.pulls(I)I in world M at (0,) -/
abbrev M_X7_pulls : XM := (RX7, cX7_pulls, 4, (some .int), "pulls", 4, 0, 0)
def f_X7_pulls (m0 : Mem) (a1 : Int32) : Option (Int32 × Mem) :=
  lt (xs m0 0 14 0) fun w1 =>
  (f_X7_isCouple w1 a1).bind fun t2 =>
  (if t2 = 0 then
     some (((-1) : Int32))
   else
     ck (inb a1 7) <|
     if (w1 4 (ix a1)) = 1 then
       some (((-3) : Int32))
     else
       some ((0 : Int32))).bind fun t9 =>
  if 0 ≤ t9 then
    (f_X7_keepTurn w1).bind fun t10 =>
    (f_X7_placeOf t10 a1).bind fun t11 =>
    (f_X7_putFirst t10 a1).bind fun t12 =>
    some (t11, t12)
  else
    (f_X7_refuse w1 t9).bind fun t13 =>
    some (t13.1, t13.2)
set_option maxRecDepth 100000 in
theorem xe_X7_pulls (B : XB) (m0 : Mem) (a1 : Int32) : XE B M_X7_pulls (XQm B 0 0 SH_M) 0 [(0, some (.ref 0)), (1, some (.int a1))] [] (0, 0) SH_M [m0] (fun t => some (some (.int t.1), [t.2])) (f_X7_pulls m0 a1) := by
  unfold f_X7_pulls
  refine XE_aload_n (n := 1) dX7_pulls_0 rfl rfl rfl ?_
  refine XE_iconst (v := 0) (n := 2) dX7_pulls_1 rfl (by decide) ?_
  refine XE_putf (hs2 := fun w1 => [w1]) (n := 5) xf_X7_76 rfl rfl rfl rfl (Nat.le_of_ble_eq_true rfl) (fun _ => rfl) dX7_pulls_2 rfl (fun w1 => ?_)
  refine XE_aload_n (n := 6) dX7_pulls_5 rfl rfl rfl ?_
  refine XE_iload_n (n := 7) dX7_pulls_6 rfl rfl rfl ?_
  refine XE_callVi (ni := 1) (As := [.int a1]) (st2 := fun t2 => [.int t2]) (n := 10) (b := 0) xc_X7_177 (fun l t ht => met_X7_isCouple l w1 a1 t ht) rfl rfl rfl rfl dX7_pulls_7 (Nat.le_of_ble_eq_true rfl) ⟨Nat.zero_le _, Nat.zero_le _⟩ (Nat.le_of_ble_eq_true rfl) (Nat.le_of_ble_eq_true rfl) (fun _ => rfl) rfl (fun t2 => ?_)
  refine XE_reg (J := 33) (lsJ := fun t9 => [(0, some (.ref 0)), (1, some (.int a1))]) (stJ := fun t9 => [.int t9]) (hsJ := fun t9 => [w1]) (fun t9 => ?_) (fun hJ6 => ?_)
  · refine XE_istore_n (i := 2) (n := 34) dX7_pulls_33 rfl rfl (Nat.le_of_ble_eq_true rfl) rfl ?_
    refine XE_iload_n (n := 35) dX7_pulls_34 rfl rfl rfl ?_
    refine XE_if_ge (t := 44) (n := 38) dX7_pulls_35 rfl rfl (fun h14 => ?_) (fun h14 => ?_)
    · refine XE_aload_n (n := 45) dX7_pulls_44 rfl rfl rfl ?_
      refine XE_callVi (ni := 0) (As := []) (st2 := fun t10 => []) (n := 48) (b := 0) xc_X7_237 (fun l t ht => met_X7_keepTurn l w1 t ht) rfl rfl rfl rfl dX7_pulls_45 (Nat.le_of_ble_eq_true rfl) ⟨Nat.zero_le _, Nat.zero_le _⟩ (Nat.le_of_ble_eq_true rfl) (Nat.le_of_ble_eq_true rfl) (fun _ => rfl) rfl (fun t10 => ?_)
      refine XE_aload_n (n := 49) dX7_pulls_48 rfl rfl rfl ?_
      refine XE_iload_n (n := 50) dX7_pulls_49 rfl rfl rfl ?_
      refine XE_callVi (ni := 1) (As := [.int a1]) (st2 := fun t11 => [.int t11]) (n := 53) (b := 0) xc_X7_135 (fun l t ht => met_X7_placeOf l t10 a1 t ht) rfl rfl rfl rfl dX7_pulls_50 (Nat.le_of_ble_eq_true rfl) ⟨Nat.zero_le _, Nat.zero_le _⟩ (Nat.le_of_ble_eq_true rfl) (Nat.le_of_ble_eq_true rfl) (fun _ => rfl) rfl (fun t11 => ?_)
      refine XE_istore_n (i := 3) (n := 54) dX7_pulls_53 rfl rfl (Nat.le_of_ble_eq_true rfl) rfl ?_
      refine XE_aload_n (n := 55) dX7_pulls_54 rfl rfl rfl ?_
      refine XE_iload_n (n := 56) dX7_pulls_55 rfl rfl rfl ?_
      refine XE_callVi (ni := 1) (As := [.int a1]) (st2 := fun t12 => []) (n := 59) (b := 0) xc_X7_180 (fun l t ht => met_X7_putFirst l t10 a1 t ht) rfl rfl rfl rfl dX7_pulls_56 (Nat.le_of_ble_eq_true rfl) ⟨Nat.zero_le _, Nat.zero_le _⟩ (Nat.le_of_ble_eq_true rfl) (Nat.le_of_ble_eq_true rfl) (fun _ => rfl) rfl (fun t12 => ?_)
      refine XE_iload_n (n := 60) dX7_pulls_59 rfl rfl rfl ?_
      exact XE_ireturn rfl dX7_pulls_60 rfl (Nat.le_refl _) (Nat.le_refl _)
    · refine XE_aload_n (n := 39) dX7_pulls_38 rfl rfl rfl ?_
      refine XE_iload_n (n := 40) dX7_pulls_39 rfl rfl rfl ?_
      refine XE_callVi (ni := 1) (As := [.int t9]) (st2 := fun t13 => [.int t13.1]) (n := 43) (b := 0) xc_X7_138 (fun l t ht => met_X7_refuse l w1 t9 t ht) rfl rfl rfl rfl dX7_pulls_40 (Nat.le_of_ble_eq_true rfl) ⟨Nat.zero_le _, Nat.zero_le _⟩ (Nat.le_of_ble_eq_true rfl) (Nat.le_of_ble_eq_true rfl) (fun _ => rfl) rfl (fun t13 => ?_)
      exact XE_ireturn rfl dX7_pulls_43 rfl (Nat.le_refl _) (Nat.le_refl _)
  · refine XE_if_ne (t := 17) (n := 13) dX7_pulls_10 rfl rfl (fun h8 => ?_) (fun h8 => ?_)
    · refine XE_iconst (v := (-1)) (n := 14) dX7_pulls_13 rfl (by decide) ?_
      refine XE_goto (n := 33) dX7_pulls_14 rfl ?_
      refine XE_ls (x_sub_ok (ls' := [(0, some (.ref 0)), (1, some (.int a1))]) ⟨rfl, rfl, trivial⟩) ?_
      exact hJ6 (((-1) : Int32))
    · refine XE_aload_n (n := 18) dX7_pulls_17 rfl rfl rfl ?_
      refine XE_getr (b := 4) (n := 21) xf_X7_19 rfl rfl dX7_pulls_18 rfl ?_
      refine XE_iload_n (n := 22) dX7_pulls_21 rfl rfl rfl ?_
      refine XE_iald (row := w1 4) (n := 23) rfl rfl dX7_pulls_22 rfl ?_
      refine XE_iconst (v := 1) (n := 24) dX7_pulls_23 rfl (by decide) ?_
      refine XE_icmp_ne (t := 32) (n := 27) dX7_pulls_24 rfl rfl (fun h7 => ?_) (fun h7 => ?_)
      · refine XE_bipush (v := (-3)) (n := 29) dX7_pulls_27 rfl (by decide) ?_
        refine XE_goto (n := 33) dX7_pulls_29 rfl ?_
        refine XE_ls (x_sub_ok (ls' := [(0, some (.ref 0)), (1, some (.int a1))]) ⟨rfl, rfl, trivial⟩) ?_
        exact hJ6 (((-3) : Int32))
      · refine XE_iconst (v := 0) (n := 33) dX7_pulls_32 rfl (by decide) ?_
        refine XE_ls (x_sub_ok (ls' := [(0, some (.ref 0)), (1, some (.int a1))]) ⟨rfl, rfl, trivial⟩) ?_
        exact hJ6 ((0 : Int32))
theorem met_X7_pulls (l : Launch) (m0 : Mem) (a1 : Int32) (t : Int32 × Mem) (ht : f_X7_pulls m0 a1 = some t) : XMet l yX7_pulls cX7_pulls 4 (some .int) 4 0 0 [.ref 0, .int a1] SH_M [m0] SH_M (some (.int t.1), [t.2]) := XMet.of (by decide +kernel) (fun _ => Nat.le_of_ble_eq_true rfl) (fun B => xe_X7_pulls B m0 a1) (by rw [ht]; rfl)
/-! X7_slack: EveryTwentyMinutesModel.slack(I)I in world M at (0,) -/
abbrev M_X7_slack : XM := (RX7, cX7_slack, 3, (some .int), "slack", 4, 0, 0)
def f_X7_slack (m0 : Mem) (a1 : Int32) : Option (Int32 × Mem) :=
  lt (xs m0 0 14 0) fun w1 =>
  (f_X7_wrongNumber a1 0 9).bind fun t2 =>
  if 0 ≤ t2 then
    (f_X7_keepTurn w1).bind fun t3 =>
    lt (t3 0 13) fun v4 =>
    lt (xs t3 0 13 a1) fun w5 =>
    some (v4, w5)
  else
    (f_X7_wrongNumber a1 0 9).bind fun t6 =>
    (f_X7_refuse w1 t6).bind fun t7 =>
    some (t7.1, t7.2)
set_option maxRecDepth 100000 in
theorem xe_X7_slack (B : XB) (m0 : Mem) (a1 : Int32) : XE B M_X7_slack (XQm B 0 0 SH_M) 0 [(0, some (.ref 0)), (1, some (.int a1))] [] (0, 0) SH_M [m0] (fun t => some (some (.int t.1), [t.2])) (f_X7_slack m0 a1) := by
  unfold f_X7_slack
  refine XE_aload_n (n := 1) dX7_slack_0 rfl rfl rfl ?_
  refine XE_iconst (v := 0) (n := 2) dX7_slack_1 rfl (by decide) ?_
  refine XE_putf (hs2 := fun w1 => [w1]) (n := 5) xf_X7_76 rfl rfl rfl rfl (Nat.le_of_ble_eq_true rfl) (fun _ => rfl) dX7_slack_2 rfl (fun w1 => ?_)
  refine XE_iload_n (n := 6) dX7_slack_5 rfl rfl rfl ?_
  refine XE_iconst (v := 0) (n := 7) dX7_slack_6 rfl (by decide) ?_
  refine XE_bipush (v := 9) (n := 9) dX7_slack_7 rfl (by decide) ?_
  refine XE_callS (ni := 3) (As := [.int a1, .int 0, .int 9]) (π := []) (co := [0]) (cv := [w1]) (nn := 1) (hs2 := fun t2 => [w1]) (st2 := fun t2 => [.int t2]) (n := 12) xc_X7_233 (fun l t ht => met_X7_wrongNumber l a1 0 9 t ht) rfl rfl rfl dX7_slack_9 (Nat.le_of_ble_eq_true rfl) ⟨Nat.zero_le _, Nat.zero_le _⟩ (Nat.le_of_ble_eq_true rfl) (Nat.le_of_ble_eq_true rfl) ok_40 rfl rfl rfl (fun _ => rfl) (fun _ => rfl) (fun _ => rfl) rfl (fun _ => rfl) rfl (fun t2 => ?_)
  refine XE_if_ge (t := 27) (n := 15) dX7_slack_12 rfl rfl (fun h8 => ?_) (fun h8 => ?_)
  · refine XE_aload_n (n := 28) dX7_slack_27 rfl rfl rfl ?_
    refine XE_callVi (ni := 0) (As := []) (st2 := fun t3 => []) (n := 31) (b := 0) xc_X7_237 (fun l t ht => met_X7_keepTurn l w1 t ht) rfl rfl rfl rfl dX7_slack_28 (Nat.le_of_ble_eq_true rfl) ⟨Nat.zero_le _, Nat.zero_le _⟩ (Nat.le_of_ble_eq_true rfl) (Nat.le_of_ble_eq_true rfl) (fun _ => rfl) rfl (fun t3 => ?_)
    refine XE_aload_n (n := 32) dX7_slack_31 rfl rfl rfl ?_
    refine XE_getf (v := t3 0 13) (n := 35) xf_X7_114 rfl rfl rfl dX7_slack_32 rfl ?_
    refine XE_topi (fun v4 => ?_)
    refine XE_istore_n (i := 2) (n := 36) dX7_slack_35 rfl rfl (Nat.le_of_ble_eq_true rfl) rfl ?_
    refine XE_aload_n (n := 37) dX7_slack_36 rfl rfl rfl ?_
    refine XE_iload_n (n := 38) dX7_slack_37 rfl rfl rfl ?_
    refine XE_putf (hs2 := fun w5 => [w5]) (n := 41) xf_X7_114 rfl rfl rfl rfl (Nat.le_of_ble_eq_true rfl) (fun _ => rfl) dX7_slack_38 rfl (fun w5 => ?_)
    refine XE_iload_n (n := 42) dX7_slack_41 rfl rfl rfl ?_
    exact XE_ireturn rfl dX7_slack_42 rfl (Nat.le_refl _) (Nat.le_refl _)
  · refine XE_aload_n (n := 16) dX7_slack_15 rfl rfl rfl ?_
    refine XE_iload_n (n := 17) dX7_slack_16 rfl rfl rfl ?_
    refine XE_iconst (v := 0) (n := 18) dX7_slack_17 rfl (by decide) ?_
    refine XE_bipush (v := 9) (n := 20) dX7_slack_18 rfl (by decide) ?_
    refine XE_callS (ni := 3) (As := [.int a1, .int 0, .int 9]) (π := []) (co := [0]) (cv := [w1]) (nn := 1) (hs2 := fun t6 => [w1]) (st2 := fun t6 => [.int t6, .ref 0]) (n := 23) xc_X7_233 (fun l t ht => met_X7_wrongNumber l a1 0 9 t ht) rfl rfl rfl dX7_slack_20 (Nat.le_of_ble_eq_true rfl) ⟨Nat.zero_le _, Nat.zero_le _⟩ (Nat.le_of_ble_eq_true rfl) (Nat.le_of_ble_eq_true rfl) ok_40 rfl rfl rfl (fun _ => rfl) (fun _ => rfl) (fun _ => rfl) rfl (fun _ => rfl) rfl (fun t6 => ?_)
    refine XE_callVi (ni := 1) (As := [.int t6]) (st2 := fun t7 => [.int t7.1]) (n := 26) (b := 0) xc_X7_138 (fun l t ht => met_X7_refuse l w1 t6 t ht) rfl rfl rfl rfl dX7_slack_23 (Nat.le_of_ble_eq_true rfl) ⟨Nat.zero_le _, Nat.zero_le _⟩ (Nat.le_of_ble_eq_true rfl) (Nat.le_of_ble_eq_true rfl) (fun _ => rfl) rfl (fun t7 => ?_)
    exact XE_ireturn rfl dX7_slack_26 rfl (Nat.le_refl _) (Nat.le_refl _)
theorem met_X7_slack (l : Launch) (m0 : Mem) (a1 : Int32) (t : Int32 × Mem) (ht : f_X7_slack m0 a1 = some t) : XMet l yX7_slack cX7_slack 3 (some .int) 4 0 0 [.ref 0, .int a1] SH_M [m0] SH_M (some (.int t.1), [t.2]) := XMet.of (by decide +kernel) (fun _ => Nat.le_of_ble_eq_true rfl) (fun B => xe_X7_slack B m0 a1) (by rw [ht]; rfl)
/-! X7_rests: EveryTwentyMinutesModel.rests(I)I in world M at (0,) -/
abbrev M_X7_rests : XM := (RX7, cX7_rests, 3, (some .int), "rests", 4, 0, 0)
def f_X7_rests (m0 : Mem) (a1 : Int32) : Option (Int32 × Mem) :=
  lt (xs m0 0 14 0) fun w1 =>
  (f_X7_wrongNumber a1 1 30).bind fun t2 =>
  if 0 ≤ t2 then
    (f_X7_keepTurn w1).bind fun t3 =>
    lt (t3 0 12) fun v4 =>
    (f_X7_restFor t3 a1).bind fun t5 =>
    some (v4, t5)
  else
    (f_X7_wrongNumber a1 1 30).bind fun t6 =>
    (f_X7_refuse w1 t6).bind fun t7 =>
    some (t7.1, t7.2)
set_option maxRecDepth 100000 in
theorem xe_X7_rests (B : XB) (m0 : Mem) (a1 : Int32) : XE B M_X7_rests (XQm B 0 0 SH_M) 0 [(0, some (.ref 0)), (1, some (.int a1))] [] (0, 0) SH_M [m0] (fun t => some (some (.int t.1), [t.2])) (f_X7_rests m0 a1) := by
  unfold f_X7_rests
  refine XE_aload_n (n := 1) dX7_rests_0 rfl rfl rfl ?_
  refine XE_iconst (v := 0) (n := 2) dX7_rests_1 rfl (by decide) ?_
  refine XE_putf (hs2 := fun w1 => [w1]) (n := 5) xf_X7_76 rfl rfl rfl rfl (Nat.le_of_ble_eq_true rfl) (fun _ => rfl) dX7_rests_2 rfl (fun w1 => ?_)
  refine XE_iload_n (n := 6) dX7_rests_5 rfl rfl rfl ?_
  refine XE_iconst (v := 1) (n := 7) dX7_rests_6 rfl (by decide) ?_
  refine XE_bipush (v := 30) (n := 9) dX7_rests_7 rfl (by decide) ?_
  refine XE_callS (ni := 3) (As := [.int a1, .int 1, .int 30]) (π := []) (co := [0]) (cv := [w1]) (nn := 1) (hs2 := fun t2 => [w1]) (st2 := fun t2 => [.int t2]) (n := 12) xc_X7_233 (fun l t ht => met_X7_wrongNumber l a1 1 30 t ht) rfl rfl rfl dX7_rests_9 (Nat.le_of_ble_eq_true rfl) ⟨Nat.zero_le _, Nat.zero_le _⟩ (Nat.le_of_ble_eq_true rfl) (Nat.le_of_ble_eq_true rfl) ok_40 rfl rfl rfl (fun _ => rfl) (fun _ => rfl) (fun _ => rfl) rfl (fun _ => rfl) rfl (fun t2 => ?_)
  refine XE_if_ge (t := 27) (n := 15) dX7_rests_12 rfl rfl (fun h8 => ?_) (fun h8 => ?_)
  · refine XE_aload_n (n := 28) dX7_rests_27 rfl rfl rfl ?_
    refine XE_callVi (ni := 0) (As := []) (st2 := fun t3 => []) (n := 31) (b := 0) xc_X7_237 (fun l t ht => met_X7_keepTurn l w1 t ht) rfl rfl rfl rfl dX7_rests_28 (Nat.le_of_ble_eq_true rfl) ⟨Nat.zero_le _, Nat.zero_le _⟩ (Nat.le_of_ble_eq_true rfl) (Nat.le_of_ble_eq_true rfl) (fun _ => rfl) rfl (fun t3 => ?_)
    refine XE_aload_n (n := 32) dX7_rests_31 rfl rfl rfl ?_
    refine XE_getf (v := t3 0 12) (n := 35) xf_X7_94 rfl rfl rfl dX7_rests_32 rfl ?_
    refine XE_topi (fun v4 => ?_)
    refine XE_istore_n (i := 2) (n := 36) dX7_rests_35 rfl rfl (Nat.le_of_ble_eq_true rfl) rfl ?_
    refine XE_aload_n (n := 37) dX7_rests_36 rfl rfl rfl ?_
    refine XE_iload_n (n := 38) dX7_rests_37 rfl rfl rfl ?_
    refine XE_callVi (ni := 1) (As := [.int a1]) (st2 := fun t5 => []) (n := 41) (b := 0) xc_X7_188 (fun l t ht => met_X7_restFor l t3 a1 t ht) rfl rfl rfl rfl dX7_rests_38 (Nat.le_of_ble_eq_true rfl) ⟨Nat.zero_le _, Nat.zero_le _⟩ (Nat.le_of_ble_eq_true rfl) (Nat.le_of_ble_eq_true rfl) (fun _ => rfl) rfl (fun t5 => ?_)
    refine XE_iload_n (n := 42) dX7_rests_41 rfl rfl rfl ?_
    exact XE_ireturn rfl dX7_rests_42 rfl (Nat.le_refl _) (Nat.le_refl _)
  · refine XE_aload_n (n := 16) dX7_rests_15 rfl rfl rfl ?_
    refine XE_iload_n (n := 17) dX7_rests_16 rfl rfl rfl ?_
    refine XE_iconst (v := 1) (n := 18) dX7_rests_17 rfl (by decide) ?_
    refine XE_bipush (v := 30) (n := 20) dX7_rests_18 rfl (by decide) ?_
    refine XE_callS (ni := 3) (As := [.int a1, .int 1, .int 30]) (π := []) (co := [0]) (cv := [w1]) (nn := 1) (hs2 := fun t6 => [w1]) (st2 := fun t6 => [.int t6, .ref 0]) (n := 23) xc_X7_233 (fun l t ht => met_X7_wrongNumber l a1 1 30 t ht) rfl rfl rfl dX7_rests_20 (Nat.le_of_ble_eq_true rfl) ⟨Nat.zero_le _, Nat.zero_le _⟩ (Nat.le_of_ble_eq_true rfl) (Nat.le_of_ble_eq_true rfl) ok_40 rfl rfl rfl (fun _ => rfl) (fun _ => rfl) (fun _ => rfl) rfl (fun _ => rfl) rfl (fun t6 => ?_)
    refine XE_callVi (ni := 1) (As := [.int t6]) (st2 := fun t7 => [.int t7.1]) (n := 26) (b := 0) xc_X7_138 (fun l t ht => met_X7_refuse l w1 t6 t ht) rfl rfl rfl rfl dX7_rests_23 (Nat.le_of_ble_eq_true rfl) ⟨Nat.zero_le _, Nat.zero_le _⟩ (Nat.le_of_ble_eq_true rfl) (Nat.le_of_ble_eq_true rfl) (fun _ => rfl) rfl (fun t7 => ?_)
    exact XE_ireturn rfl dX7_rests_26 rfl (Nat.le_refl _) (Nat.le_refl _)
theorem met_X7_rests (l : Launch) (m0 : Mem) (a1 : Int32) (t : Int32 × Mem) (ht : f_X7_rests m0 a1 = some t) : XMet l yX7_rests cX7_rests 3 (some .int) 4 0 0 [.ref 0, .int a1] SH_M [m0] SH_M (some (.int t.1), [t.2]) := XMet.of (by decide +kernel) (fun _ => Nat.le_of_ble_eq_true rfl) (fun B => xe_X7_rests B m0 a1) (by rw [ht]; rfl)
/-! X7_when: EveryTwentyMinutesModel.when(II)I in world M at (0,) -/
abbrev M_X7_when : XM := (RX7, cX7_when, 5, (some .int), "when", 5, 0, 0)
def f_X7_when (m0 : Mem) (a1 : Int32) (a2 : Int32) : Option (Int32 × Mem) :=
  lt (xs m0 0 14 0) fun w1 =>
  (f_X7_isCouple w1 a1).bind fun t2 =>
  lt (if t2 = 0 then
      (((-1) : Int32))
    else
      ((0 : Int32))) fun t5 =>
  (f_X7_wrongBit t5 a2 3).bind fun t6 =>
  if 0 ≤ t6 then
    (f_X7_think w1).bind fun t7 =>
    (f_X7_wedAll t7).bind fun t8 =>
    (if a2 = 0 then
       ck (inb a1 7) <|
       some ((t8 5 (ix a1)))
     else
       if a2 = 1 then
         ck (inb a1 7) <|
         some ((t8 6 (ix a1)))
       else
         if a2 = 2 then
           ck (inb a1 7) <|
           some ((t8 7 (ix a1)))
         else
           (f_X7_lateOf t8 a1).bind fun t15 =>
           some (t15)).bind fun t19 =>
    (f_X7_again t8).bind fun t20 =>
    some (t19, t20)
  else
    (f_X7_refuse w1 t6).bind fun t21 =>
    some (t21.1, t21.2)
set_option maxRecDepth 100000 in
theorem xe_X7_when (B : XB) (m0 : Mem) (a1 : Int32) (a2 : Int32) : XE B M_X7_when (XQm B 0 0 SH_M) 0 [(0, some (.ref 0)), (1, some (.int a1)), (2, some (.int a2))] [] (0, 0) SH_M [m0] (fun t => some (some (.int t.1), [t.2])) (f_X7_when m0 a1 a2) := by
  unfold f_X7_when
  refine XE_aload_n (n := 1) dX7_when_0 rfl rfl rfl ?_
  refine XE_iconst (v := 0) (n := 2) dX7_when_1 rfl (by decide) ?_
  refine XE_putf (hs2 := fun w1 => [w1]) (n := 5) xf_X7_76 rfl rfl rfl rfl (Nat.le_of_ble_eq_true rfl) (fun _ => rfl) dX7_when_2 rfl (fun w1 => ?_)
  refine XE_aload_n (n := 6) dX7_when_5 rfl rfl rfl ?_
  refine XE_iload_n (n := 7) dX7_when_6 rfl rfl rfl ?_
  refine XE_callVi (ni := 1) (As := [.int a1]) (st2 := fun t2 => [.int t2]) (n := 10) (b := 0) xc_X7_177 (fun l t ht => met_X7_isCouple l w1 a1 t ht) rfl rfl rfl rfl dX7_when_7 (Nat.le_of_ble_eq_true rfl) ⟨Nat.zero_le _, Nat.zero_le _⟩ (Nat.le_of_ble_eq_true rfl) (Nat.le_of_ble_eq_true rfl) (fun _ => rfl) rfl (fun t2 => ?_)
  refine XE_regv (J := 18) (lsJ := fun t5 => [(0, some (.ref 0)), (1, some (.int a1)), (2, some (.int a2))]) (stJ := fun t5 => [.int t5]) (hsJ := fun t5 => [w1]) (fun t5 => ?_) (fun hJ3 => ?_)
  · refine XE_iload_n (n := 19) dX7_when_18 rfl rfl rfl ?_
    refine XE_iconst (v := 3) (n := 20) dX7_when_19 rfl (by decide) ?_
    refine XE_callS (ni := 3) (As := [.int t5, .int a2, .int 3]) (π := []) (co := [0]) (cv := [w1]) (nn := 1) (hs2 := fun t6 => [w1]) (st2 := fun t6 => [.int t6]) (n := 23) xc_X7_240 (fun l t ht => met_X7_wrongBit l t5 a2 3 t ht) rfl rfl rfl dX7_when_20 (Nat.le_of_ble_eq_true rfl) ⟨Nat.zero_le _, Nat.zero_le _⟩ (Nat.le_of_ble_eq_true rfl) (Nat.le_of_ble_eq_true rfl) ok_40 rfl rfl rfl (fun _ => rfl) (fun _ => rfl) (fun _ => rfl) rfl (fun _ => rfl) rfl (fun t6 => ?_)
    refine XE_istore_n (i := 3) (n := 24) dX7_when_23 rfl rfl (Nat.le_of_ble_eq_true rfl) rfl ?_
    refine XE_iload_n (n := 25) dX7_when_24 rfl rfl rfl ?_
    refine XE_if_ge (t := 34) (n := 28) dX7_when_25 rfl rfl (fun h22 => ?_) (fun h22 => ?_)
    · refine XE_aload_n (n := 35) dX7_when_34 rfl rfl rfl ?_
      refine XE_callVi (ni := 0) (As := []) (st2 := fun t7 => []) (n := 38) (b := 0) xc_X7_194 (fun l t ht => met_X7_think l w1 t ht) rfl rfl rfl rfl dX7_when_35 (Nat.le_of_ble_eq_true rfl) ⟨Nat.zero_le _, Nat.zero_le _⟩ (Nat.le_of_ble_eq_true rfl) (Nat.le_of_ble_eq_true rfl) (fun _ => rfl) rfl (fun t7 => ?_)
      refine XE_aload_n (n := 39) dX7_when_38 rfl rfl rfl ?_
      refine XE_callVi (ni := 0) (As := []) (st2 := fun t8 => []) (n := 42) (b := 0) xc_X7_243 (fun l t ht => met_X7_wedAll l t7 t ht) rfl rfl rfl rfl dX7_when_39 (Nat.le_of_ble_eq_true rfl) ⟨Nat.zero_le _, Nat.zero_le _⟩ (Nat.le_of_ble_eq_true rfl) (Nat.le_of_ble_eq_true rfl) (fun _ => rfl) rfl (fun t8 => ?_)
      refine XE_iload_n (n := 43) dX7_when_42 rfl rfl rfl ?_
      refine XE_reg (J := 88) (lsJ := fun t19 => [(0, some (.ref 0))]) (stJ := fun t19 => [.int t19]) (hsJ := fun t19 => [t8]) (fun t19 => ?_) (fun hJ14 => ?_)
      · refine XE_istore (i := 4) (n := 90) dX7_when_88 rfl (Nat.le_of_ble_eq_true rfl) rfl ?_
        refine XE_aload_n (n := 91) dX7_when_90 rfl rfl rfl ?_
        refine XE_callVi (ni := 0) (As := []) (st2 := fun t20 => []) (n := 94) (b := 0) xc_X7_200 (fun l t ht => met_X7_again l t8 t ht) rfl rfl rfl rfl dX7_when_91 (Nat.le_of_ble_eq_true rfl) ⟨Nat.zero_le _, Nat.zero_le _⟩ (Nat.le_of_ble_eq_true rfl) (Nat.le_of_ble_eq_true rfl) (fun _ => rfl) rfl (fun t20 => ?_)
        refine XE_iload (n := 96) dX7_when_94 rfl rfl ?_
        exact XE_ireturn rfl dX7_when_96 rfl (Nat.le_refl _) (Nat.le_refl _)
      · refine XE_if_ne (t := 55) (n := 46) dX7_when_43 rfl rfl (fun h18 => ?_) (fun h18 => ?_)
        · refine XE_aload_n (n := 47) dX7_when_46 rfl rfl rfl ?_
          refine XE_getr (b := 5) (n := 50) xf_X7_22 rfl rfl dX7_when_47 rfl ?_
          refine XE_iload_n (n := 51) dX7_when_50 rfl rfl rfl ?_
          refine XE_iald (row := t8 5) (n := 52) rfl rfl dX7_when_51 rfl ?_
          refine XE_goto (n := 88) dX7_when_52 rfl ?_
          refine XE_ls (x_sub_ok (ls' := [(0, some (.ref 0))]) ⟨rfl, trivial⟩) ?_
          exact hJ14 ((t8 5 (ix a1)))
        · refine XE_iload_n (n := 56) dX7_when_55 rfl rfl rfl ?_
          refine XE_iconst (v := 1) (n := 57) dX7_when_56 rfl (by decide) ?_
          refine XE_icmp_ne (t := 69) (n := 60) dX7_when_57 rfl rfl (fun h17 => ?_) (fun h17 => ?_)
          · refine XE_aload_n (n := 61) dX7_when_60 rfl rfl rfl ?_
            refine XE_getr (b := 6) (n := 64) xf_X7_25 rfl rfl dX7_when_61 rfl ?_
            refine XE_iload_n (n := 65) dX7_when_64 rfl rfl rfl ?_
            refine XE_iald (row := t8 6) (n := 66) rfl rfl dX7_when_65 rfl ?_
            refine XE_goto (n := 88) dX7_when_66 rfl ?_
            refine XE_ls (x_sub_ok (ls' := [(0, some (.ref 0))]) ⟨rfl, trivial⟩) ?_
            exact hJ14 ((t8 6 (ix a1)))
          · refine XE_iload_n (n := 70) dX7_when_69 rfl rfl rfl ?_
            refine XE_iconst (v := 2) (n := 71) dX7_when_70 rfl (by decide) ?_
            refine XE_icmp_ne (t := 83) (n := 74) dX7_when_71 rfl rfl (fun h16 => ?_) (fun h16 => ?_)
            · refine XE_aload_n (n := 75) dX7_when_74 rfl rfl rfl ?_
              refine XE_getr (b := 7) (n := 78) xf_X7_28 rfl rfl dX7_when_75 rfl ?_
              refine XE_iload_n (n := 79) dX7_when_78 rfl rfl rfl ?_
              refine XE_iald (row := t8 7) (n := 80) rfl rfl dX7_when_79 rfl ?_
              refine XE_goto (n := 88) dX7_when_80 rfl ?_
              refine XE_ls (x_sub_ok (ls' := [(0, some (.ref 0))]) ⟨rfl, trivial⟩) ?_
              exact hJ14 ((t8 7 (ix a1)))
            · refine XE_aload_n (n := 84) dX7_when_83 rfl rfl rfl ?_
              refine XE_iload_n (n := 85) dX7_when_84 rfl rfl rfl ?_
              refine XE_callVi (ni := 1) (As := [.int a1]) (st2 := fun t15 => [.int t15]) (n := 88) (b := 0) xc_X7_121 (fun l t ht => met_X7_lateOf l t8 a1 t ht) rfl rfl rfl rfl dX7_when_85 (Nat.le_of_ble_eq_true rfl) ⟨Nat.zero_le _, Nat.zero_le _⟩ (Nat.le_of_ble_eq_true rfl) (Nat.le_of_ble_eq_true rfl) (fun _ => rfl) rfl (fun t15 => ?_)
              refine XE_ls (x_sub_ok (ls' := [(0, some (.ref 0))]) ⟨rfl, trivial⟩) ?_
              exact hJ14 (t15)
    · refine XE_aload_n (n := 29) dX7_when_28 rfl rfl rfl ?_
      refine XE_iload_n (n := 30) dX7_when_29 rfl rfl rfl ?_
      refine XE_callVi (ni := 1) (As := [.int t6]) (st2 := fun t21 => [.int t21.1]) (n := 33) (b := 0) xc_X7_138 (fun l t ht => met_X7_refuse l w1 t6 t ht) rfl rfl rfl rfl dX7_when_30 (Nat.le_of_ble_eq_true rfl) ⟨Nat.zero_le _, Nat.zero_le _⟩ (Nat.le_of_ble_eq_true rfl) (Nat.le_of_ble_eq_true rfl) (fun _ => rfl) rfl (fun t21 => ?_)
      exact XE_ireturn rfl dX7_when_33 rfl (Nat.le_refl _) (Nat.le_refl _)
  · refine XE_ltif ?_
    refine XE_if_eq (t := 17) (n := 13) dX7_when_10 rfl rfl (fun h4 => ?_) (fun h4 => ?_)
    · refine XE_iconst (v := (-1)) (n := 18) dX7_when_17 rfl (by decide) ?_
      refine XE_ls (x_sub_ok (ls' := [(0, some (.ref 0)), (1, some (.int a1)), (2, some (.int a2))]) ⟨rfl, rfl, rfl, trivial⟩) ?_
      exact hJ3 (((-1) : Int32))
    · refine XE_iconst (v := 0) (n := 14) dX7_when_13 rfl (by decide) ?_
      refine XE_goto (n := 18) dX7_when_14 rfl ?_
      refine XE_ls (x_sub_ok (ls' := [(0, some (.ref 0)), (1, some (.int a1)), (2, some (.int a2))]) ⟨rfl, rfl, rfl, trivial⟩) ?_
      exact hJ3 ((0 : Int32))
theorem met_X7_when (l : Launch) (m0 : Mem) (a1 : Int32) (a2 : Int32) (t : Int32 × Mem) (ht : f_X7_when m0 a1 a2 = some t) : XMet l yX7_when cX7_when 5 (some .int) 5 0 0 [.ref 0, .int a1, .int a2] SH_M [m0] SH_M (some (.int t.1), [t.2]) := XMet.of (by decide +kernel) (fun _ => Nat.le_of_ble_eq_true rfl) (fun B => xe_X7_when B m0 a1 a2) (by rw [ht]; rfl)
/-! X7_waits: EveryTwentyMinutesModel.waits(I)I in world M at (0,) -/
abbrev M_X7_waits : XM := (RX7, cX7_waits, 3, (some .int), "waits", 5, 0, 0)
def f_X7_waits (m0 : Mem) (a1 : Int32) : Option (Int32 × Mem) :=
  lt (xs m0 0 14 0) fun w1 =>
  (f_X7_isCouple w1 a1).bind fun t2 =>
  if t2 = 0 then
    (f_X7_refuse w1 (-1)).bind fun t8 =>
    some ((1000000000 - t8.1), t8.2)
  else
    (f_X7_think w1).bind fun t3 =>
    (f_X7_wedAll t3).bind fun t4 =>
    ck (inb a1 7) <|
    (f_X7_readyOf t4 a1).bind fun t5 =>
    lt ((t4 5 (ix a1)) - t5) fun v6 =>
    (f_X7_again t4).bind fun t7 =>
    some (v6, t7)
set_option maxRecDepth 100000 in
theorem xe_X7_waits (B : XB) (m0 : Mem) (a1 : Int32) : XE B M_X7_waits (XQm B 0 0 SH_M) 0 [(0, some (.ref 0)), (1, some (.int a1))] [] (0, 0) SH_M [m0] (fun t => some (some (.int t.1), [t.2])) (f_X7_waits m0 a1) := by
  unfold f_X7_waits
  refine XE_aload_n (n := 1) dX7_waits_0 rfl rfl rfl ?_
  refine XE_iconst (v := 0) (n := 2) dX7_waits_1 rfl (by decide) ?_
  refine XE_putf (hs2 := fun w1 => [w1]) (n := 5) xf_X7_76 rfl rfl rfl rfl (Nat.le_of_ble_eq_true rfl) (fun _ => rfl) dX7_waits_2 rfl (fun w1 => ?_)
  refine XE_aload_n (n := 6) dX7_waits_5 rfl rfl rfl ?_
  refine XE_iload_n (n := 7) dX7_waits_6 rfl rfl rfl ?_
  refine XE_callVi (ni := 1) (As := [.int a1]) (st2 := fun t2 => [.int t2]) (n := 10) (b := 0) xc_X7_177 (fun l t ht => met_X7_isCouple l w1 a1 t ht) rfl rfl rfl rfl dX7_waits_7 (Nat.le_of_ble_eq_true rfl) ⟨Nat.zero_le _, Nat.zero_le _⟩ (Nat.le_of_ble_eq_true rfl) (Nat.le_of_ble_eq_true rfl) (fun _ => rfl) rfl (fun t2 => ?_)
  refine XE_if_ne (t := 22) (n := 13) dX7_waits_10 rfl rfl (fun h9 => ?_) (fun h9 => ?_)
  · refine XE_ldc (n := 15) dX7_waits_13 rfl xk_X7_246 ?_
    refine XE_aload_n (n := 16) dX7_waits_15 rfl rfl rfl ?_
    refine XE_iconst (v := (-1)) (n := 17) dX7_waits_16 rfl (by decide) ?_
    refine XE_callVi (ni := 1) (As := [.int (-1)]) (st2 := fun t8 => [.int t8.1, .int 1000000000]) (n := 20) (b := 0) xc_X7_138 (fun l t ht => met_X7_refuse l w1 (-1) t ht) rfl rfl rfl rfl dX7_waits_17 (Nat.le_of_ble_eq_true rfl) ⟨Nat.zero_le _, Nat.zero_le _⟩ (Nat.le_of_ble_eq_true rfl) (Nat.le_of_ble_eq_true rfl) (fun _ => rfl) rfl (fun t8 => ?_)
    refine XE_isub (n := 21) dX7_waits_20 rfl ?_
    exact XE_ireturn rfl dX7_waits_21 rfl (Nat.le_refl _) (Nat.le_refl _)
  · refine XE_aload_n (n := 23) dX7_waits_22 rfl rfl rfl ?_
    refine XE_callVi (ni := 0) (As := []) (st2 := fun t3 => []) (n := 26) (b := 0) xc_X7_194 (fun l t ht => met_X7_think l w1 t ht) rfl rfl rfl rfl dX7_waits_23 (Nat.le_of_ble_eq_true rfl) ⟨Nat.zero_le _, Nat.zero_le _⟩ (Nat.le_of_ble_eq_true rfl) (Nat.le_of_ble_eq_true rfl) (fun _ => rfl) rfl (fun t3 => ?_)
    refine XE_aload_n (n := 27) dX7_waits_26 rfl rfl rfl ?_
    refine XE_callVi (ni := 0) (As := []) (st2 := fun t4 => []) (n := 30) (b := 0) xc_X7_243 (fun l t ht => met_X7_wedAll l t3 t ht) rfl rfl rfl rfl dX7_waits_27 (Nat.le_of_ble_eq_true rfl) ⟨Nat.zero_le _, Nat.zero_le _⟩ (Nat.le_of_ble_eq_true rfl) (Nat.le_of_ble_eq_true rfl) (fun _ => rfl) rfl (fun t4 => ?_)
    refine XE_aload_n (n := 31) dX7_waits_30 rfl rfl rfl ?_
    refine XE_getr (b := 5) (n := 34) xf_X7_22 rfl rfl dX7_waits_31 rfl ?_
    refine XE_iload_n (n := 35) dX7_waits_34 rfl rfl rfl ?_
    refine XE_iald (row := t4 5) (n := 36) rfl rfl dX7_waits_35 rfl ?_
    refine XE_aload_n (n := 37) dX7_waits_36 rfl rfl rfl ?_
    refine XE_iload_n (n := 38) dX7_waits_37 rfl rfl rfl ?_
    refine XE_callVi (ni := 1) (As := [.int a1]) (st2 := fun t5 => [.int t5, .int (t4 5 (ix a1))]) (n := 41) (b := 0) xc_X7_107 (fun l t ht => met_X7_readyOf l t4 a1 t ht) rfl rfl rfl rfl dX7_waits_38 (Nat.le_of_ble_eq_true rfl) ⟨Nat.zero_le _, Nat.zero_le _⟩ (Nat.le_of_ble_eq_true rfl) (Nat.le_of_ble_eq_true rfl) (fun _ => rfl) rfl (fun t5 => ?_)
    refine XE_isub (n := 42) dX7_waits_41 rfl ?_
    refine XE_topi (fun v6 => ?_)
    refine XE_istore_n (i := 2) (n := 43) dX7_waits_42 rfl rfl (Nat.le_of_ble_eq_true rfl) rfl ?_
    refine XE_aload_n (n := 44) dX7_waits_43 rfl rfl rfl ?_
    refine XE_callVi (ni := 0) (As := []) (st2 := fun t7 => []) (n := 47) (b := 0) xc_X7_200 (fun l t ht => met_X7_again l t4 t ht) rfl rfl rfl rfl dX7_waits_44 (Nat.le_of_ble_eq_true rfl) ⟨Nat.zero_le _, Nat.zero_le _⟩ (Nat.le_of_ble_eq_true rfl) (Nat.le_of_ble_eq_true rfl) (fun _ => rfl) rfl (fun t7 => ?_)
    refine XE_iload_n (n := 48) dX7_waits_47 rfl rfl rfl ?_
    exact XE_ireturn rfl dX7_waits_48 rfl (Nat.le_refl _) (Nat.le_refl _)
theorem met_X7_waits (l : Launch) (m0 : Mem) (a1 : Int32) (t : Int32 × Mem) (ht : f_X7_waits m0 a1 = some t) : XMet l yX7_waits cX7_waits 3 (some .int) 5 0 0 [.ref 0, .int a1] SH_M [m0] SH_M (some (.int t.1), [t.2]) := XMet.of (by decide +kernel) (fun _ => Nat.le_of_ble_eq_true rfl) (fun B => xe_X7_waits B m0 a1) (by rw [ht]; rfl)
/-! X7_all: EveryTwentyMinutesModel.all(I)I in world M at (0,) -/
abbrev M_X7_all : XM := (RX7, cX7_all, 3, (some .int), "all", 5, 0, 0)
def f_X7_all (m0 : Mem) (a1 : Int32) : Option (Int32 × Mem) :=
  lt (xs m0 0 14 0) fun w1 =>
  (f_X7_in ((a1 : Int32).toInt64) 0 1).bind fun t2 =>
  if t2 = 0 then
    (f_X7_refuse w1 (-2)).bind fun t15 =>
    some (t15.1, t15.2)
  else
    (f_X7_think w1).bind fun t3 =>
    (f_X7_wedAll t3).bind fun t4 =>
    (if a1 = 0 then
       (f_X7_allLate t4).bind fun t11 =>
       some (t11)
     else
       (f_X7_lastEnd t4).bind fun t10 =>
       some (t10)).bind fun t13 =>
    (f_X7_again t4).bind fun t14 =>
    some (t13, t14)
set_option maxRecDepth 100000 in
theorem xe_X7_all (B : XB) (m0 : Mem) (a1 : Int32) : XE B M_X7_all (XQm B 0 0 SH_M) 0 [(0, some (.ref 0)), (1, some (.int a1))] [] (0, 0) SH_M [m0] (fun t => some (some (.int t.1), [t.2])) (f_X7_all m0 a1) := by
  unfold f_X7_all
  refine XE_aload_n (n := 1) dX7_all_0 rfl rfl rfl ?_
  refine XE_iconst (v := 0) (n := 2) dX7_all_1 rfl (by decide) ?_
  refine XE_putf (hs2 := fun w1 => [w1]) (n := 5) xf_X7_76 rfl rfl rfl rfl (Nat.le_of_ble_eq_true rfl) (fun _ => rfl) dX7_all_2 rfl (fun w1 => ?_)
  refine XE_iload_n (n := 6) dX7_all_5 rfl rfl rfl ?_
  refine XE_i2l (n := 7) dX7_all_6 rfl ?_
  refine XE_lconst (v := 0) (n := 8) dX7_all_7 rfl (by decide) ?_
  refine XE_lconst (v := 1) (n := 9) dX7_all_8 rfl (by decide) ?_
  refine XE_callS (ni := 3) (As := [.long ((a1 : Int32).toInt64), .long 0, .long 1]) (π := []) (co := [0]) (cv := [w1]) (nn := 1) (hs2 := fun t2 => [w1]) (st2 := fun t2 => [.int t2]) (n := 12) xc_X7_86 (fun l t ht => met_X7_in l ((a1 : Int32).toInt64) 0 1 t ht) rfl rfl rfl dX7_all_9 (Nat.le_of_ble_eq_true rfl) ⟨Nat.zero_le _, Nat.zero_le _⟩ (Nat.le_of_ble_eq_true rfl) (Nat.le_of_ble_eq_true rfl) ok_40 rfl rfl rfl (fun _ => rfl) (fun _ => rfl) (fun _ => rfl) rfl (fun _ => rfl) rfl (fun t2 => ?_)
  refine XE_if_ne (t := 22) (n := 15) dX7_all_12 rfl rfl (fun h16 => ?_) (fun h16 => ?_)
  · refine XE_aload_n (n := 16) dX7_all_15 rfl rfl rfl ?_
    refine XE_bipush (v := (-2)) (n := 18) dX7_all_16 rfl (by decide) ?_
    refine XE_callVi (ni := 1) (As := [.int (-2)]) (st2 := fun t15 => [.int t15.1]) (n := 21) (b := 0) xc_X7_138 (fun l t ht => met_X7_refuse l w1 (-2) t ht) rfl rfl rfl rfl dX7_all_18 (Nat.le_of_ble_eq_true rfl) ⟨Nat.zero_le _, Nat.zero_le _⟩ (Nat.le_of_ble_eq_true rfl) (Nat.le_of_ble_eq_true rfl) (fun _ => rfl) rfl (fun t15 => ?_)
    exact XE_ireturn rfl dX7_all_21 rfl (Nat.le_refl _) (Nat.le_refl _)
  · refine XE_aload_n (n := 23) dX7_all_22 rfl rfl rfl ?_
    refine XE_callVi (ni := 0) (As := []) (st2 := fun t3 => []) (n := 26) (b := 0) xc_X7_194 (fun l t ht => met_X7_think l w1 t ht) rfl rfl rfl rfl dX7_all_23 (Nat.le_of_ble_eq_true rfl) ⟨Nat.zero_le _, Nat.zero_le _⟩ (Nat.le_of_ble_eq_true rfl) (Nat.le_of_ble_eq_true rfl) (fun _ => rfl) rfl (fun t3 => ?_)
    refine XE_aload_n (n := 27) dX7_all_26 rfl rfl rfl ?_
    refine XE_callVi (ni := 0) (As := []) (st2 := fun t4 => []) (n := 30) (b := 0) xc_X7_243 (fun l t ht => met_X7_wedAll l t3 t ht) rfl rfl rfl rfl dX7_all_27 (Nat.le_of_ble_eq_true rfl) ⟨Nat.zero_le _, Nat.zero_le _⟩ (Nat.le_of_ble_eq_true rfl) (Nat.le_of_ble_eq_true rfl) (fun _ => rfl) rfl (fun t4 => ?_)
    refine XE_iload_n (n := 31) dX7_all_30 rfl rfl rfl ?_
    refine XE_reg (J := 45) (lsJ := fun t13 => [(0, some (.ref 0))]) (stJ := fun t13 => [.int t13]) (hsJ := fun t13 => [t4]) (fun t13 => ?_) (fun hJ9 => ?_)
    · refine XE_istore_n (i := 2) (n := 46) dX7_all_45 rfl rfl (Nat.le_of_ble_eq_true rfl) rfl ?_
      refine XE_aload_n (n := 47) dX7_all_46 rfl rfl rfl ?_
      refine XE_callVi (ni := 0) (As := []) (st2 := fun t14 => []) (n := 50) (b := 0) xc_X7_200 (fun l t ht => met_X7_again l t4 t ht) rfl rfl rfl rfl dX7_all_47 (Nat.le_of_ble_eq_true rfl) ⟨Nat.zero_le _, Nat.zero_le _⟩ (Nat.le_of_ble_eq_true rfl) (Nat.le_of_ble_eq_true rfl) (fun _ => rfl) rfl (fun t14 => ?_)
      refine XE_iload_n (n := 51) dX7_all_50 rfl rfl rfl ?_
      exact XE_ireturn rfl dX7_all_51 rfl (Nat.le_refl _) (Nat.le_refl _)
    · refine XE_if_ne (t := 41) (n := 34) dX7_all_31 rfl rfl (fun h12 => ?_) (fun h12 => ?_)
      · refine XE_aload_n (n := 35) dX7_all_34 rfl rfl rfl ?_
        refine XE_callVi (ni := 0) (As := []) (st2 := fun t11 => [.int t11]) (n := 38) (b := 0) xc_X7_247 (fun l t ht => met_X7_allLate l t4 t ht) rfl rfl rfl rfl dX7_all_35 (Nat.le_of_ble_eq_true rfl) ⟨Nat.zero_le _, Nat.zero_le _⟩ (Nat.le_of_ble_eq_true rfl) (Nat.le_of_ble_eq_true rfl) (fun _ => rfl) rfl (fun t11 => ?_)
        refine XE_goto (n := 45) dX7_all_38 rfl ?_
        refine XE_ls (x_sub_ok (ls' := [(0, some (.ref 0))]) ⟨rfl, trivial⟩) ?_
        exact hJ9 (t11)
      · refine XE_aload_n (n := 42) dX7_all_41 rfl rfl rfl ?_
        refine XE_callVi (ni := 0) (As := []) (st2 := fun t10 => [.int t10]) (n := 45) (b := 0) xc_X7_250 (fun l t ht => met_X7_lastEnd l t4 t ht) rfl rfl rfl rfl dX7_all_42 (Nat.le_of_ble_eq_true rfl) ⟨Nat.zero_le _, Nat.zero_le _⟩ (Nat.le_of_ble_eq_true rfl) (Nat.le_of_ble_eq_true rfl) (fun _ => rfl) rfl (fun t10 => ?_)
        refine XE_ls (x_sub_ok (ls' := [(0, some (.ref 0))]) ⟨rfl, trivial⟩) ?_
        exact hJ9 (t10)
theorem met_X7_all (l : Launch) (m0 : Mem) (a1 : Int32) (t : Int32 × Mem) (ht : f_X7_all m0 a1 = some t) : XMet l yX7_all cX7_all 3 (some .int) 5 0 0 [.ref 0, .int a1] SH_M [m0] SH_M (some (.int t.1), [t.2]) := XMet.of (by decide +kernel) (fun _ => Nat.le_of_ble_eq_true rfl) (fun B => xe_X7_all B m0 a1) (by rw [ht]; rfl)
/-! X7_firstMet: EveryTwentyMinutesModel.firstMet()I in world M at (0,) -/
abbrev M_X7_firstMet : XM := (RX7, cX7_firstMet, 3, (some .int), "firstMet", 4, 0, 0)
def f_X7_firstMet_L14 (K2 : Int32 → Option (Int32)) (m0 : Mem) (v1 : Int32) : Nat → Int32 → Option (Int32)
  | 0, _ => none
  | n + 1, v3 =>
    if (m0 0 0) ≤ v3 then
      lt (v1 + 1) fun v4 =>
      K2 v4
    else
      (f_X7_meet m0 v1 v3).bind fun t5 =>
      if t5 = 0 then
        lt (v3 + 1) fun v6 =>
        (f_X7_firstMet_L14 K2 m0 v1 n) v6
      else
        some ((10 * v1) + v3)
def f_X7_firstMet_L2 (m0 : Mem) : Nat → Int32 → Option (Int32)
  | 0, _ => none
  | n + 1, v1 =>
    if (m0 0 0) ≤ v1 then
      some ((-9) : Int32)
    else
      lt (v1 + 1) fun v2 =>
      f_X7_firstMet_L14 (f_X7_firstMet_L2 m0 n) m0 v1 6000 v2
def f_X7_firstMet (m0 : Mem) : Option (Int32) :=
  f_X7_firstMet_L2 m0 6000 (0 : Int32)
set_option maxRecDepth 100000 in
theorem f_X7_firstMet_L14_x (B : XB) (K2 : Int32 → Option (Int32)) (m0 : Mem) (v1 : Int32) (hK2 : ∀ (v1 : Int32), XE B M_X7_firstMet (XQm B 0 0 SH_M) 2 [(0, some (.ref 0)), (1, some (.int v1))] [] (0, 0) SH_M [m0] (fun t => some (some (.int t), [m0])) (K2 v1)) : ∀ (n : Nat) (v3 : Int32), XE B M_X7_firstMet (XQm B 0 0 SH_M) 14 [(0, some (.ref 0)), (1, some (.int v1)), (2, some (.int v3))] [] (0, 0) SH_M [m0] (fun t => some (some (.int t), [m0])) (f_X7_firstMet_L14 K2 m0 v1 n v3) := by
  intro n
  induction n with
  | zero => intros; exact XE_none
  | succ n ih =>
    intro v3
    rw [f_X7_firstMet_L14]
    refine XE_iload_n (n := 15) dX7_firstMet_14 rfl rfl rfl ?_
    refine XE_aload_n (n := 16) dX7_firstMet_15 rfl rfl rfl ?_
    refine XE_getf (v := m0 0 0) (n := 19) xf_X7_83 rfl rfl rfl dX7_firstMet_16 rfl ?_
    refine XE_icmp_ge (t := 44) (n := 22) dX7_firstMet_19 rfl rfl (fun h8 => ?_) (fun h8 => ?_)
    · refine XE_iincl (n := 47) dX7_firstMet_44 rfl rfl (by decide) (Nat.le_of_ble_eq_true rfl) rfl (fun v4 => ?_)
      refine XE_goto (n := 2) dX7_firstMet_47 rfl ?_
      refine XE_ls (x_sub_ok (ls' := [(0, some (.ref 0)), (1, some (.int v4))]) ⟨rfl, rfl, trivial⟩) ?_
      exact hK2 v4
    · refine XE_aload_n (n := 23) dX7_firstMet_22 rfl rfl rfl ?_
      refine XE_iload_n (n := 24) dX7_firstMet_23 rfl rfl rfl ?_
      refine XE_iload_n (n := 25) dX7_firstMet_24 rfl rfl rfl ?_
      refine XE_callVi (ni := 2) (As := [.int v1, .int v3]) (st2 := fun t5 => [.int t5]) (n := 28) (b := 0) xc_X7_132 (fun l t ht => met_X7_meet l m0 v1 v3 t ht) rfl rfl rfl rfl dX7_firstMet_25 (Nat.le_of_ble_eq_true rfl) ⟨Nat.zero_le _, Nat.zero_le _⟩ (Nat.le_of_ble_eq_true rfl) (Nat.le_of_ble_eq_true rfl) (fun _ => rfl) rfl (fun t5 => ?_)
      refine XE_if_eq (t := 38) (n := 31) dX7_firstMet_28 rfl rfl (fun h7 => ?_) (fun h7 => ?_)
      · refine XE_iincl (n := 41) dX7_firstMet_38 rfl rfl (by decide) (Nat.le_of_ble_eq_true rfl) rfl (fun v6 => ?_)
        refine XE_goto (n := 14) dX7_firstMet_41 rfl ?_
        refine XE_ls (x_sub_ok (ls' := [(0, some (.ref 0)), (1, some (.int v1)), (2, some (.int v6))]) ⟨rfl, rfl, rfl, trivial⟩) ?_
        exact ih v6
      · refine XE_bipush (v := 10) (n := 33) dX7_firstMet_31 rfl (by decide) ?_
        refine XE_iload_n (n := 34) dX7_firstMet_33 rfl rfl rfl ?_
        refine XE_imul (n := 35) dX7_firstMet_34 rfl ?_
        refine XE_iload_n (n := 36) dX7_firstMet_35 rfl rfl rfl ?_
        refine XE_iadd (n := 37) dX7_firstMet_36 rfl ?_
        exact XE_ireturn rfl dX7_firstMet_37 rfl (Nat.le_refl _) (Nat.le_refl _)
set_option maxRecDepth 100000 in
theorem f_X7_firstMet_L2_x (B : XB) (m0 : Mem) : ∀ (n : Nat) (v1 : Int32), XE B M_X7_firstMet (XQm B 0 0 SH_M) 2 [(0, some (.ref 0)), (1, some (.int v1))] [] (0, 0) SH_M [m0] (fun t => some (some (.int t), [m0])) (f_X7_firstMet_L2 m0 n v1) := by
  intro n
  induction n with
  | zero => intros; exact XE_none
  | succ n ih =>
    intro v1
    rw [f_X7_firstMet_L2]
    refine XE_iload_n (n := 3) dX7_firstMet_2 rfl rfl rfl ?_
    refine XE_aload_n (n := 4) dX7_firstMet_3 rfl rfl rfl ?_
    refine XE_getf (v := m0 0 0) (n := 7) xf_X7_83 rfl rfl rfl dX7_firstMet_4 rfl ?_
    refine XE_icmp_ge (t := 50) (n := 10) dX7_firstMet_7 rfl rfl (fun h9 => ?_) (fun h9 => ?_)
    · refine XE_bipush (v := (-9)) (n := 52) dX7_firstMet_50 rfl (by decide) ?_
      exact XE_ireturn rfl dX7_firstMet_52 rfl (Nat.le_refl _) (Nat.le_refl _)
    · refine XE_iload_n (n := 11) dX7_firstMet_10 rfl rfl rfl ?_
      refine XE_iconst (v := 1) (n := 12) dX7_firstMet_11 rfl (by decide) ?_
      refine XE_iadd (n := 13) dX7_firstMet_12 rfl ?_
      refine XE_topi (fun v2 => ?_)
      refine XE_istore_n (i := 2) (n := 14) dX7_firstMet_13 rfl rfl (Nat.le_of_ble_eq_true rfl) rfl ?_
      refine XE_ls (x_sub_ok (ls' := [(0, some (.ref 0)), (1, some (.int v1)), (2, some (.int v2))]) ⟨rfl, rfl, rfl, trivial⟩) ?_
      exact f_X7_firstMet_L14_x B _ m0 v1 ih 6000 v2
set_option maxRecDepth 100000 in
theorem xe_X7_firstMet (B : XB) (m0 : Mem) : XE B M_X7_firstMet (XQm B 0 0 SH_M) 0 [(0, some (.ref 0))] [] (0, 0) SH_M [m0] (fun t => some (some (.int t), [m0])) (f_X7_firstMet m0) := by
  unfold f_X7_firstMet
  refine XE_iconst (v := 0) (n := 1) dX7_firstMet_0 rfl (by decide) ?_
  refine XE_istore_n (i := 1) (n := 2) dX7_firstMet_1 rfl rfl (Nat.le_of_ble_eq_true rfl) rfl ?_
  refine XE_ls (x_sub_ok (ls' := [(0, some (.ref 0)), (1, some (.int 0))]) ⟨rfl, rfl, trivial⟩) ?_
  exact f_X7_firstMet_L2_x B m0 6000 (0 : Int32)
theorem met_X7_firstMet (l : Launch) (m0 : Mem) (t : Int32) (ht : f_X7_firstMet m0 = some t) : XMet l yX7_firstMet cX7_firstMet 3 (some .int) 4 0 0 [.ref 0] SH_M [m0] SH_M (some (.int t), [m0]) := XMet.of (by decide +kernel) (fun _ => Nat.le_of_ble_eq_true rfl) (fun B => xe_X7_firstMet B m0) (by rw [ht]; rfl)
/-! X7_strayedOne: EveryTwentyMinutesModel.strayedOne()I in world M at (0,) -/
abbrev M_X7_strayedOne : XM := (RX7, cX7_strayedOne, 6, (some .int), "strayedOne", 4, 0, 0)
def f_X7_strayedOne_L21 (m0 : Mem) (v3 : Int32) : Nat → Int32 → Int32 → Option (Int32)
  | 0, _, _ => none
  | n + 1, v4, v5 =>
    if (m0 0 0) ≤ v5 then
      some (v4)
    else
      (f_X7_meet m0 v3 v5).bind fun t6 =>
      if t6 = 0 then
        lt (v4 + 0) fun v7 =>
        lt (v5 + 1) fun v8 =>
        (f_X7_strayedOne_L21 m0 v3 n) v7 v8
      else
        lt (v4 + 1) fun v9 =>
        lt (v5 + 1) fun v10 =>
        (f_X7_strayedOne_L21 m0 v3 n) v9 v10
def f_X7_strayedOne_L7 (m0 : Mem) : Nat → Int32 → Int32 → Int32 → Option (Int32)
  | 0, _, _, _ => none
  | n + 1, v1, v2, v3 =>
    if (m0 0 0) ≤ v3 then
      some (v1)
    else
      (f_X7_strayedOne_L21 m0 v3 6000 (0 : Int32) (0 : Int32)).bind fun t13 =>
      lt (if t13 ≤ v2 then
          (v1)
        else
          (v3)) fun t16 =>
      (f_X7_most v2 t13).bind fun t17 =>
      lt (v3 + 1) fun v18 =>
      (f_X7_strayedOne_L7 m0 n) t16 t17 v18
def f_X7_strayedOne (m0 : Mem) : Option (Int32) :=
  (f_X7_strayedOne_L7 m0 6000 ((-9) : Int32) (0 : Int32) (0 : Int32)).bind fun t21 =>
  some t21
set_option maxRecDepth 100000 in
theorem f_X7_strayedOne_L21_x {α R : Type} (B : XB) {Q : R → State → Prop} {k : α → Option R} {r : (Int32) → Option α} (m0 : Mem) (v1 : Int32) (v2 : Int32) (v3 : Int32) (hE : ∀ t0 : (Int32), XE B M_X7_strayedOne Q 56 [(0, some (.ref 0)), (1, some (.int v1)), (2, some (.int v2)), (3, some (.int v3)), (4, some (.int t0))] [] (0, 0) SH_M [m0] (fun t => (r t).bind k) (some t0)) : ∀ (n : Nat) (v4 : Int32) (v5 : Int32), XE B M_X7_strayedOne Q 21 [(0, some (.ref 0)), (1, some (.int v1)), (2, some (.int v2)), (3, some (.int v3)), (4, some (.int v4)), (5, some (.int v5))] [] (0, 0) SH_M [m0] (fun t => (r t).bind k) (f_X7_strayedOne_L21 m0 v3 n v4 v5) := by
  intro n
  induction n with
  | zero => intros; exact XE_none
  | succ n ih =>
    intro v4 v5
    rw [f_X7_strayedOne_L21]
    refine XE_iload (n := 23) dX7_strayedOne_21 rfl rfl ?_
    refine XE_aload_n (n := 24) dX7_strayedOne_23 rfl rfl rfl ?_
    refine XE_getf (v := m0 0 0) (n := 27) xf_X7_83 rfl rfl rfl dX7_strayedOne_24 rfl ?_
    refine XE_icmp_ge (t := 56) (n := 30) dX7_strayedOne_27 rfl rfl (fun h12 => ?_) (fun h12 => ?_)
    · refine XE_ls (x_sub_ok (ls' := [(0, some (.ref 0)), (1, some (.int v1)), (2, some (.int v2)), (3, some (.int v3)), (4, some (.int v4))]) ⟨rfl, rfl, rfl, rfl, rfl, trivial⟩) ?_
      exact hE (v4)
    · refine XE_iload (n := 32) dX7_strayedOne_30 rfl rfl ?_
      refine XE_aload_n (n := 33) dX7_strayedOne_32 rfl rfl rfl ?_
      refine XE_iload_n (n := 34) dX7_strayedOne_33 rfl rfl rfl ?_
      refine XE_iload (n := 36) dX7_strayedOne_34 rfl rfl ?_
      refine XE_callVi (ni := 2) (As := [.int v3, .int v5]) (st2 := fun t6 => [.int t6, .int v4]) (n := 39) (b := 0) xc_X7_132 (fun l t ht => met_X7_meet l m0 v3 v5 t ht) rfl rfl rfl rfl dX7_strayedOne_36 (Nat.le_of_ble_eq_true rfl) ⟨Nat.zero_le _, Nat.zero_le _⟩ (Nat.le_of_ble_eq_true rfl) (Nat.le_of_ble_eq_true rfl) (fun _ => rfl) rfl (fun t6 => ?_)
      refine XE_if_eq (t := 46) (n := 42) dX7_strayedOne_39 rfl rfl (fun h11 => ?_) (fun h11 => ?_)
      · refine XE_iconst (v := 0) (n := 47) dX7_strayedOne_46 rfl (by decide) ?_
        refine XE_iadd (n := 48) dX7_strayedOne_47 rfl ?_
        refine XE_topi (fun v7 => ?_)
        refine XE_istore (i := 4) (n := 50) dX7_strayedOne_48 rfl (Nat.le_of_ble_eq_true rfl) rfl ?_
        refine XE_iincl (n := 53) dX7_strayedOne_50 rfl rfl (by decide) (Nat.le_of_ble_eq_true rfl) rfl (fun v8 => ?_)
        refine XE_goto (n := 21) dX7_strayedOne_53 rfl ?_
        refine XE_ls (x_sub_ok (ls' := [(0, some (.ref 0)), (1, some (.int v1)), (2, some (.int v2)), (3, some (.int v3)), (4, some (.int v7)), (5, some (.int v8))]) ⟨rfl, rfl, rfl, rfl, rfl, rfl, trivial⟩) ?_
        exact ih v7 v8
      · refine XE_iconst (v := 1) (n := 43) dX7_strayedOne_42 rfl (by decide) ?_
        refine XE_goto (n := 47) dX7_strayedOne_43 rfl ?_
        refine XE_iadd (n := 48) dX7_strayedOne_47 rfl ?_
        refine XE_topi (fun v9 => ?_)
        refine XE_istore (i := 4) (n := 50) dX7_strayedOne_48 rfl (Nat.le_of_ble_eq_true rfl) rfl ?_
        refine XE_iincl (n := 53) dX7_strayedOne_50 rfl rfl (by decide) (Nat.le_of_ble_eq_true rfl) rfl (fun v10 => ?_)
        refine XE_goto (n := 21) dX7_strayedOne_53 rfl ?_
        refine XE_ls (x_sub_ok (ls' := [(0, some (.ref 0)), (1, some (.int v1)), (2, some (.int v2)), (3, some (.int v3)), (4, some (.int v9)), (5, some (.int v10))]) ⟨rfl, rfl, rfl, rfl, rfl, rfl, trivial⟩) ?_
        exact ih v9 v10
set_option maxRecDepth 100000 in
theorem f_X7_strayedOne_L7_x {α R : Type} (B : XB) {Q : R → State → Prop} {k : α → Option R} {r : (Int32) → Option α} (m0 : Mem) (hE : ∀ t0 : (Int32), XE B M_X7_strayedOne Q 81 [(1, some (.int t0))] [] (0, 0) SH_M [m0] (fun t => (r t).bind k) (some t0)) : ∀ (n : Nat) (v1 : Int32) (v2 : Int32) (v3 : Int32), XE B M_X7_strayedOne Q 7 [(0, some (.ref 0)), (1, some (.int v1)), (2, some (.int v2)), (3, some (.int v3))] [] (0, 0) SH_M [m0] (fun t => (r t).bind k) (f_X7_strayedOne_L7 m0 n v1 v2 v3) := by
  intro n
  induction n with
  | zero => intros; exact XE_none
  | succ n ih =>
    intro v1 v2 v3
    rw [f_X7_strayedOne_L7]
    refine XE_iload_n (n := 8) dX7_strayedOne_7 rfl rfl rfl ?_
    refine XE_aload_n (n := 9) dX7_strayedOne_8 rfl rfl rfl ?_
    refine XE_getf (v := m0 0 0) (n := 12) xf_X7_83 rfl rfl rfl dX7_strayedOne_9 rfl ?_
    refine XE_icmp_ge (t := 81) (n := 15) dX7_strayedOne_12 rfl rfl (fun h20 => ?_) (fun h20 => ?_)
    · refine XE_ls (x_sub_ok (ls' := [(1, some (.int v1))]) ⟨rfl, trivial⟩) ?_
      exact hE (v1)
    · refine XE_iconst (v := 0) (n := 16) dX7_strayedOne_15 rfl (by decide) ?_
      refine XE_istore (i := 4) (n := 18) dX7_strayedOne_16 rfl (Nat.le_of_ble_eq_true rfl) rfl ?_
      refine XE_iconst (v := 0) (n := 19) dX7_strayedOne_18 rfl (by decide) ?_
      refine XE_istore (i := 5) (n := 21) dX7_strayedOne_19 rfl (Nat.le_of_ble_eq_true rfl) rfl ?_
      refine XE_ls (x_sub_ok (ls' := [(0, some (.ref 0)), (1, some (.int v1)), (2, some (.int v2)), (3, some (.int v3)), (4, some (.int 0)), (5, some (.int 0))]) ⟨rfl, rfl, rfl, rfl, rfl, rfl, trivial⟩) ?_
      refine XE_reg (J := 56) (lsJ := fun t13 => [(0, some (.ref 0)), (1, some (.int v1)), (2, some (.int v2)), (3, some (.int v3)), (4, some (.int t13))]) (stJ := fun t13 => []) (hsJ := fun t13 => [m0]) (fun t13 => ?_) (fun hJ19 => f_X7_strayedOne_L21_x B m0 v1 v2 v3 hJ19 6000 (0 : Int32) (0 : Int32))
      refine XE_iload (n := 58) dX7_strayedOne_56 rfl rfl ?_
      refine XE_iload_n (n := 59) dX7_strayedOne_58 rfl rfl rfl ?_
      refine XE_regv (J := 67) (lsJ := fun t16 => [(0, some (.ref 0)), (2, some (.int v2)), (3, some (.int v3)), (4, some (.int t13))]) (stJ := fun t16 => [.int t16]) (hsJ := fun t16 => [m0]) (fun t16 => ?_) (fun hJ14 => ?_)
      · refine XE_istore_n (i := 1) (n := 68) dX7_strayedOne_67 rfl rfl (Nat.le_of_ble_eq_true rfl) rfl ?_
        refine XE_iload_n (n := 69) dX7_strayedOne_68 rfl rfl rfl ?_
        refine XE_iload (n := 71) dX7_strayedOne_69 rfl rfl ?_
        refine XE_callS (ni := 2) (As := [.int v2, .int t13]) (π := []) (co := [0]) (cv := [m0]) (nn := 1) (hs2 := fun t17 => [m0]) (st2 := fun t17 => [.int t17]) (n := 74) xc_X7_90 (fun l t ht => met_X7_most l v2 t13 t ht) rfl rfl rfl dX7_strayedOne_71 (Nat.le_of_ble_eq_true rfl) ⟨Nat.zero_le _, Nat.zero_le _⟩ (Nat.le_of_ble_eq_true rfl) (Nat.le_of_ble_eq_true rfl) ok_40 rfl rfl rfl (fun _ => rfl) (fun _ => rfl) (fun _ => rfl) rfl (fun _ => rfl) rfl (fun t17 => ?_)
        refine XE_istore_n (i := 2) (n := 75) dX7_strayedOne_74 rfl rfl (Nat.le_of_ble_eq_true rfl) rfl ?_
        refine XE_iincl (n := 78) dX7_strayedOne_75 rfl rfl (by decide) (Nat.le_of_ble_eq_true rfl) rfl (fun v18 => ?_)
        refine XE_goto (n := 7) dX7_strayedOne_78 rfl ?_
        refine XE_ls (x_sub_ok (ls' := [(0, some (.ref 0)), (1, some (.int t16)), (2, some (.int t17)), (3, some (.int v18))]) ⟨rfl, rfl, rfl, rfl, trivial⟩) ?_
        exact ih t16 t17 v18
      · refine XE_ltif ?_
        refine XE_icmp_le (t := 66) (n := 62) dX7_strayedOne_59 rfl rfl (fun h15 => ?_) (fun h15 => ?_)
        · refine XE_iload_n (n := 67) dX7_strayedOne_66 rfl rfl rfl ?_
          refine XE_ls (x_sub_ok (ls' := [(0, some (.ref 0)), (2, some (.int v2)), (3, some (.int v3)), (4, some (.int t13))]) ⟨rfl, rfl, rfl, rfl, trivial⟩) ?_
          exact hJ14 (v1)
        · refine XE_iload_n (n := 63) dX7_strayedOne_62 rfl rfl rfl ?_
          refine XE_goto (n := 67) dX7_strayedOne_63 rfl ?_
          refine XE_ls (x_sub_ok (ls' := [(0, some (.ref 0)), (2, some (.int v2)), (3, some (.int v3)), (4, some (.int t13))]) ⟨rfl, rfl, rfl, rfl, trivial⟩) ?_
          exact hJ14 (v3)
set_option maxRecDepth 100000 in
theorem xe_X7_strayedOne (B : XB) (m0 : Mem) : XE B M_X7_strayedOne (XQm B 0 0 SH_M) 0 [(0, some (.ref 0))] [] (0, 0) SH_M [m0] (fun t => some (some (.int t), [m0])) (f_X7_strayedOne m0) := by
  unfold f_X7_strayedOne
  refine XE_bipush (v := (-9)) (n := 2) dX7_strayedOne_0 rfl (by decide) ?_
  refine XE_istore_n (i := 1) (n := 3) dX7_strayedOne_2 rfl rfl (Nat.le_of_ble_eq_true rfl) rfl ?_
  refine XE_iconst (v := 0) (n := 4) dX7_strayedOne_3 rfl (by decide) ?_
  refine XE_istore_n (i := 2) (n := 5) dX7_strayedOne_4 rfl rfl (Nat.le_of_ble_eq_true rfl) rfl ?_
  refine XE_iconst (v := 0) (n := 6) dX7_strayedOne_5 rfl (by decide) ?_
  refine XE_istore_n (i := 3) (n := 7) dX7_strayedOne_6 rfl rfl (Nat.le_of_ble_eq_true rfl) rfl ?_
  refine XE_ls (x_sub_ok (ls' := [(0, some (.ref 0)), (1, some (.int (-9))), (2, some (.int 0)), (3, some (.int 0))]) ⟨rfl, rfl, rfl, rfl, trivial⟩) ?_
  refine XE_reg (J := 81) (lsJ := fun t21 => [(1, some (.int t21))]) (stJ := fun t21 => []) (hsJ := fun t21 => [m0]) (fun t21 => ?_) (fun hJ22 => f_X7_strayedOne_L7_x B m0 hJ22 6000 ((-9) : Int32) (0 : Int32) (0 : Int32))
  refine XE_iload_n (n := 82) dX7_strayedOne_81 rfl rfl rfl ?_
  exact XE_ireturn rfl dX7_strayedOne_82 rfl (Nat.le_refl _) (Nat.le_refl _)
theorem met_X7_strayedOne (l : Launch) (m0 : Mem) (t : Int32) (ht : f_X7_strayedOne m0 = some t) : XMet l yX7_strayedOne cX7_strayedOne 6 (some .int) 4 0 0 [.ref 0] SH_M [m0] SH_M (some (.int t), [m0]) := XMet.of (by decide +kernel) (fun _ => Nat.le_of_ble_eq_true rfl) (fun B => xe_X7_strayedOne B m0) (by rw [ht]; rfl)
/-! X7_met: EveryTwentyMinutesModel.met(I)I in world M at (0,) -/
abbrev M_X7_met : XM := (RX7, cX7_met, 3, (some .int), "met", 5, 0, 0)
def f_X7_met (m0 : Mem) (a1 : Int32) : Option (Int32 × Mem) :=
  lt (xs m0 0 14 0) fun w1 =>
  (f_X7_in ((a1 : Int32).toInt64) 0 2).bind fun t2 =>
  if t2 = 0 then
    (f_X7_refuse w1 (-2)).bind fun t19 =>
    some (t19.1, t19.2)
  else
    (f_X7_think w1).bind fun t3 =>
    (f_X7_wedAll t3).bind fun t4 =>
    (if a1 = 0 then
       (f_X7_meetMany t4).bind fun t15 =>
       some (t15)
     else
       if a1 = 1 then
         (f_X7_firstMet t4).bind fun t13 =>
         some (t13)
       else
         (f_X7_strayedOne t4).bind fun t12 =>
         some (t12)).bind fun t17 =>
    (f_X7_again t4).bind fun t18 =>
    some (t17, t18)
set_option maxRecDepth 100000 in
theorem xe_X7_met (B : XB) (m0 : Mem) (a1 : Int32) : XE B M_X7_met (XQm B 0 0 SH_M) 0 [(0, some (.ref 0)), (1, some (.int a1))] [] (0, 0) SH_M [m0] (fun t => some (some (.int t.1), [t.2])) (f_X7_met m0 a1) := by
  unfold f_X7_met
  refine XE_aload_n (n := 1) dX7_met_0 rfl rfl rfl ?_
  refine XE_iconst (v := 0) (n := 2) dX7_met_1 rfl (by decide) ?_
  refine XE_putf (hs2 := fun w1 => [w1]) (n := 5) xf_X7_76 rfl rfl rfl rfl (Nat.le_of_ble_eq_true rfl) (fun _ => rfl) dX7_met_2 rfl (fun w1 => ?_)
  refine XE_iload_n (n := 6) dX7_met_5 rfl rfl rfl ?_
  refine XE_i2l (n := 7) dX7_met_6 rfl ?_
  refine XE_lconst (v := 0) (n := 8) dX7_met_7 rfl (by decide) ?_
  refine XE_ldc2 (n := 11) dX7_met_8 rfl xk_X7_126 ?_
  refine XE_callS (ni := 3) (As := [.long ((a1 : Int32).toInt64), .long 0, .long 2]) (π := []) (co := [0]) (cv := [w1]) (nn := 1) (hs2 := fun t2 => [w1]) (st2 := fun t2 => [.int t2]) (n := 14) xc_X7_86 (fun l t ht => met_X7_in l ((a1 : Int32).toInt64) 0 2 t ht) rfl rfl rfl dX7_met_11 (Nat.le_of_ble_eq_true rfl) ⟨Nat.zero_le _, Nat.zero_le _⟩ (Nat.le_of_ble_eq_true rfl) (Nat.le_of_ble_eq_true rfl) ok_40 rfl rfl rfl (fun _ => rfl) (fun _ => rfl) (fun _ => rfl) rfl (fun _ => rfl) rfl (fun t2 => ?_)
  refine XE_if_ne (t := 24) (n := 17) dX7_met_14 rfl rfl (fun h20 => ?_) (fun h20 => ?_)
  · refine XE_aload_n (n := 18) dX7_met_17 rfl rfl rfl ?_
    refine XE_bipush (v := (-2)) (n := 20) dX7_met_18 rfl (by decide) ?_
    refine XE_callVi (ni := 1) (As := [.int (-2)]) (st2 := fun t19 => [.int t19.1]) (n := 23) (b := 0) xc_X7_138 (fun l t ht => met_X7_refuse l w1 (-2) t ht) rfl rfl rfl rfl dX7_met_20 (Nat.le_of_ble_eq_true rfl) ⟨Nat.zero_le _, Nat.zero_le _⟩ (Nat.le_of_ble_eq_true rfl) (Nat.le_of_ble_eq_true rfl) (fun _ => rfl) rfl (fun t19 => ?_)
    exact XE_ireturn rfl dX7_met_23 rfl (Nat.le_refl _) (Nat.le_refl _)
  · refine XE_aload_n (n := 25) dX7_met_24 rfl rfl rfl ?_
    refine XE_callVi (ni := 0) (As := []) (st2 := fun t3 => []) (n := 28) (b := 0) xc_X7_194 (fun l t ht => met_X7_think l w1 t ht) rfl rfl rfl rfl dX7_met_25 (Nat.le_of_ble_eq_true rfl) ⟨Nat.zero_le _, Nat.zero_le _⟩ (Nat.le_of_ble_eq_true rfl) (Nat.le_of_ble_eq_true rfl) (fun _ => rfl) rfl (fun t3 => ?_)
    refine XE_aload_n (n := 29) dX7_met_28 rfl rfl rfl ?_
    refine XE_callVi (ni := 0) (As := []) (st2 := fun t4 => []) (n := 32) (b := 0) xc_X7_243 (fun l t ht => met_X7_wedAll l t3 t ht) rfl rfl rfl rfl dX7_met_29 (Nat.le_of_ble_eq_true rfl) ⟨Nat.zero_le _, Nat.zero_le _⟩ (Nat.le_of_ble_eq_true rfl) (Nat.le_of_ble_eq_true rfl) (fun _ => rfl) rfl (fun t4 => ?_)
    refine XE_iload_n (n := 33) dX7_met_32 rfl rfl rfl ?_
    refine XE_reg (J := 59) (lsJ := fun t17 => [(0, some (.ref 0))]) (stJ := fun t17 => [.int t17]) (hsJ := fun t17 => [t4]) (fun t17 => ?_) (fun hJ11 => ?_)
    · refine XE_istore_n (i := 2) (n := 60) dX7_met_59 rfl rfl (Nat.le_of_ble_eq_true rfl) rfl ?_
      refine XE_aload_n (n := 61) dX7_met_60 rfl rfl rfl ?_
      refine XE_callVi (ni := 0) (As := []) (st2 := fun t18 => []) (n := 64) (b := 0) xc_X7_200 (fun l t ht => met_X7_again l t4 t ht) rfl rfl rfl rfl dX7_met_61 (Nat.le_of_ble_eq_true rfl) ⟨Nat.zero_le _, Nat.zero_le _⟩ (Nat.le_of_ble_eq_true rfl) (Nat.le_of_ble_eq_true rfl) (fun _ => rfl) rfl (fun t18 => ?_)
      refine XE_iload_n (n := 65) dX7_met_64 rfl rfl rfl ?_
      exact XE_ireturn rfl dX7_met_65 rfl (Nat.le_refl _) (Nat.le_refl _)
    · refine XE_if_ne (t := 43) (n := 36) dX7_met_33 rfl rfl (fun h16 => ?_) (fun h16 => ?_)
      · refine XE_aload_n (n := 37) dX7_met_36 rfl rfl rfl ?_
        refine XE_callVi (ni := 0) (As := []) (st2 := fun t15 => [.int t15]) (n := 40) (b := 0) xc_X7_253 (fun l t ht => met_X7_meetMany l t4 t ht) rfl rfl rfl rfl dX7_met_37 (Nat.le_of_ble_eq_true rfl) ⟨Nat.zero_le _, Nat.zero_le _⟩ (Nat.le_of_ble_eq_true rfl) (Nat.le_of_ble_eq_true rfl) (fun _ => rfl) rfl (fun t15 => ?_)
        refine XE_goto (n := 59) dX7_met_40 rfl ?_
        refine XE_ls (x_sub_ok (ls' := [(0, some (.ref 0))]) ⟨rfl, trivial⟩) ?_
        exact hJ11 (t15)
      · refine XE_iload_n (n := 44) dX7_met_43 rfl rfl rfl ?_
        refine XE_iconst (v := 1) (n := 45) dX7_met_44 rfl (by decide) ?_
        refine XE_icmp_ne (t := 55) (n := 48) dX7_met_45 rfl rfl (fun h14 => ?_) (fun h14 => ?_)
        · refine XE_aload_n (n := 49) dX7_met_48 rfl rfl rfl ?_
          refine XE_callVi (ni := 0) (As := []) (st2 := fun t13 => [.int t13]) (n := 52) (b := 0) xc_X7_256 (fun l t ht => met_X7_firstMet l t4 t ht) rfl rfl rfl rfl dX7_met_49 (Nat.le_of_ble_eq_true rfl) ⟨Nat.zero_le _, Nat.zero_le _⟩ (Nat.le_of_ble_eq_true rfl) (Nat.le_of_ble_eq_true rfl) (fun _ => rfl) rfl (fun t13 => ?_)
          refine XE_goto (n := 59) dX7_met_52 rfl ?_
          refine XE_ls (x_sub_ok (ls' := [(0, some (.ref 0))]) ⟨rfl, trivial⟩) ?_
          exact hJ11 (t13)
        · refine XE_aload_n (n := 56) dX7_met_55 rfl rfl rfl ?_
          refine XE_callVi (ni := 0) (As := []) (st2 := fun t12 => [.int t12]) (n := 59) (b := 0) xc_X7_259 (fun l t ht => met_X7_strayedOne l t4 t ht) rfl rfl rfl rfl dX7_met_56 (Nat.le_of_ble_eq_true rfl) ⟨Nat.zero_le _, Nat.zero_le _⟩ (Nat.le_of_ble_eq_true rfl) (Nat.le_of_ble_eq_true rfl) (fun _ => rfl) rfl (fun t12 => ?_)
          refine XE_ls (x_sub_ok (ls' := [(0, some (.ref 0))]) ⟨rfl, trivial⟩) ?_
          exact hJ11 (t12)
theorem met_X7_met (l : Launch) (m0 : Mem) (a1 : Int32) (t : Int32 × Mem) (ht : f_X7_met m0 a1 = some t) : XMet l yX7_met cX7_met 3 (some .int) 5 0 0 [.ref 0, .int a1] SH_M [m0] SH_M (some (.int t.1), [t.2]) := XMet.of (by decide +kernel) (fun _ => Nat.le_of_ble_eq_true rfl) (fun B => xe_X7_met B m0 a1) (by rw [ht]; rfl)
/-! X7_laySorted: EveryTwentyMinutesModel.laySorted()V in world M at (0,) -/
abbrev M_X7_laySorted : XM := (RX7, cX7_laySorted, 3, none, "laySorted", 1, 0, 0)
def f_X7_laySorted_L4 : Nat → Int32 → Int32 → Mem → Option (Mem)
  | 0, _, _, _ => none
  | n + 1, v1, v2, w3 =>
    if (w3 0 0) ≤ v2 then
      some (w3)
    else
      ck (inb v2 7) <|
      if (w3 4 (ix v2)) = 0 then
        ck (inb v1 7) <|
        lt (xs w3 19 (ix v1) v2) fun w5 =>
        lt (v1 + 1) fun v6 =>
        lt (v2 + 1) fun v7 =>
        (f_X7_laySorted_L4 n) v6 v7 w5
      else
        lt (v2 + 1) fun v4 =>
        (f_X7_laySorted_L4 n) v1 v4 w3
def f_X7_laySorted (m0 : Mem) : Option (Mem) :=
  (f_X7_laySorted_L4 6000 (0 : Int32) (0 : Int32) m0).bind fun t10 =>
  some t10
set_option maxRecDepth 100000 in
theorem f_X7_laySorted_L4_x {α R : Type} (B : XB) {Q : R → State → Prop} {k : α → Option R} {r : (Mem) → Option α} (hE : ∀ t0 : (Mem), XE B M_X7_laySorted Q 37 [] [] (0, 0) SH_M [t0] (fun t => (r t).bind k) (some t0)) : ∀ (n : Nat) (v1 : Int32) (v2 : Int32) (w3 : Mem), XE B M_X7_laySorted Q 4 [(0, some (.ref 0)), (1, some (.int v1)), (2, some (.int v2))] [] (0, 0) SH_M [w3] (fun t => (r t).bind k) (f_X7_laySorted_L4 n v1 v2 w3) := by
  intro n
  induction n with
  | zero => intros; exact XE_none
  | succ n ih =>
    intro v1 v2 w3
    rw [f_X7_laySorted_L4]
    refine XE_iload_n (n := 5) dX7_laySorted_4 rfl rfl rfl ?_
    refine XE_aload_n (n := 6) dX7_laySorted_5 rfl rfl rfl ?_
    refine XE_getf (v := w3 0 0) (n := 9) xf_X7_83 rfl rfl rfl dX7_laySorted_6 rfl ?_
    refine XE_icmp_ge (t := 37) (n := 12) dX7_laySorted_9 rfl rfl (fun h9 => ?_) (fun h9 => ?_)
    · refine XE_ls (x_sub_ok (ls' := []) trivial) ?_
      exact hE (w3)
    · refine XE_aload_n (n := 13) dX7_laySorted_12 rfl rfl rfl ?_
      refine XE_getr (b := 4) (n := 16) xf_X7_19 rfl rfl dX7_laySorted_13 rfl ?_
      refine XE_iload_n (n := 17) dX7_laySorted_16 rfl rfl rfl ?_
      refine XE_iald (row := w3 4) (n := 18) rfl rfl dX7_laySorted_17 rfl ?_
      refine XE_if_ne (t := 31) (n := 21) dX7_laySorted_18 rfl rfl (fun h8 => ?_) (fun h8 => ?_)
      · refine XE_aload_n (n := 22) dX7_laySorted_21 rfl rfl rfl ?_
        refine XE_getr (b := 19) (n := 25) xf_X7_64 rfl rfl dX7_laySorted_22 rfl ?_
        refine XE_iload_n (n := 26) dX7_laySorted_25 rfl rfl rfl ?_
        refine XE_iload_n (n := 27) dX7_laySorted_26 rfl rfl rfl ?_
        refine XE_iast (hs2 := fun w5 => [w5]) (n := 28) rfl rfl rfl (Nat.le_of_ble_eq_true rfl) (fun _ => rfl) dX7_laySorted_27 rfl (fun w5 => ?_)
        refine XE_iincl (n := 31) dX7_laySorted_28 rfl rfl (by decide) (Nat.le_of_ble_eq_true rfl) rfl (fun v6 => ?_)
        refine XE_iincl (n := 34) dX7_laySorted_31 rfl rfl (by decide) (Nat.le_of_ble_eq_true rfl) rfl (fun v7 => ?_)
        refine XE_goto (n := 4) dX7_laySorted_34 rfl ?_
        refine XE_ls (x_sub_ok (ls' := [(0, some (.ref 0)), (1, some (.int v6)), (2, some (.int v7))]) ⟨rfl, rfl, rfl, trivial⟩) ?_
        exact ih v6 v7 w5
      · refine XE_iincl (n := 34) dX7_laySorted_31 rfl rfl (by decide) (Nat.le_of_ble_eq_true rfl) rfl (fun v4 => ?_)
        refine XE_goto (n := 4) dX7_laySorted_34 rfl ?_
        refine XE_ls (x_sub_ok (ls' := [(0, some (.ref 0)), (1, some (.int v1)), (2, some (.int v4))]) ⟨rfl, rfl, rfl, trivial⟩) ?_
        exact ih v1 v4 w3
set_option maxRecDepth 100000 in
theorem xe_X7_laySorted (B : XB) (m0 : Mem) : XE B M_X7_laySorted (XQm B 0 0 SH_M) 0 [(0, some (.ref 0))] [] (0, 0) SH_M [m0] (fun t => some (none, [t])) (f_X7_laySorted m0) := by
  unfold f_X7_laySorted
  refine XE_iconst (v := 0) (n := 1) dX7_laySorted_0 rfl (by decide) ?_
  refine XE_istore_n (i := 1) (n := 2) dX7_laySorted_1 rfl rfl (Nat.le_of_ble_eq_true rfl) rfl ?_
  refine XE_iconst (v := 0) (n := 3) dX7_laySorted_2 rfl (by decide) ?_
  refine XE_istore_n (i := 2) (n := 4) dX7_laySorted_3 rfl rfl (Nat.le_of_ble_eq_true rfl) rfl ?_
  refine XE_ls (x_sub_ok (ls' := [(0, some (.ref 0)), (1, some (.int 0)), (2, some (.int 0))]) ⟨rfl, rfl, rfl, trivial⟩) ?_
  refine XE_reg (J := 37) (lsJ := fun t10 => []) (stJ := fun t10 => []) (hsJ := fun t10 => [t10]) (fun t10 => ?_) (fun hJ11 => f_X7_laySorted_L4_x B hJ11 6000 (0 : Int32) (0 : Int32) m0)
  exact XE_vreturn rfl dX7_laySorted_37 rfl (Nat.le_refl _) (Nat.le_refl _)
theorem met_X7_laySorted (l : Launch) (m0 : Mem) (t : Mem) (ht : f_X7_laySorted m0 = some t) : XMet l yX7_laySorted cX7_laySorted 3 none 1 0 0 [.ref 0] SH_M [m0] SH_M (none, [t]) := XMet.of (by decide +kernel) (fun _ => Nat.le_of_ble_eq_true rfl) (fun B => xe_X7_laySorted B m0) (by rw [ht]; rfl)
/-! X7_ordersOf: EveryTwentyMinutesModel.ordersOf(I)I in world 0 at () -/
abbrev M_X7_ordersOf : XM := (RX7, cX7_ordersOf, 3, (some .int), "ordersOf", 1, 0, 0)
def f_X7_ordersOf_L4 (a0 : Int32) : Nat → Int32 → Int32 → Option (Int32)
  | 0, _, _ => none
  | n + 1, v1, v2 =>
    if a0 < v2 then
      some (v1)
    else
      lt (v1 * v2) fun v3 =>
      lt (v2 + 1) fun v4 =>
      (f_X7_ordersOf_L4 a0 n) v3 v4
def f_X7_ordersOf (a0 : Int32) : Option (Int32) :=
  (f_X7_ordersOf_L4 a0 6000 (1 : Int32) (2 : Int32)).bind fun t6 =>
  some t6
set_option maxRecDepth 100000 in
theorem f_X7_ordersOf_L4_x {α R : Type} (B : XB) {Q : R → State → Prop} {k : α → Option R} {r : (Int32) → Option α} (a0 : Int32) (hE : ∀ t0 : (Int32), XE B M_X7_ordersOf Q 19 [(1, some (.int t0))] [] (0, 0) SH_0 [] (fun t => (r t).bind k) (some t0)) : ∀ (n : Nat) (v1 : Int32) (v2 : Int32), XE B M_X7_ordersOf Q 4 [(0, some (.int a0)), (1, some (.int v1)), (2, some (.int v2))] [] (0, 0) SH_0 [] (fun t => (r t).bind k) (f_X7_ordersOf_L4 a0 n v1 v2) := by
  intro n
  induction n with
  | zero => intros; exact XE_none
  | succ n ih =>
    intro v1 v2
    rw [f_X7_ordersOf_L4]
    refine XE_iload_n (n := 5) dX7_ordersOf_4 rfl rfl rfl ?_
    refine XE_iload_n (n := 6) dX7_ordersOf_5 rfl rfl rfl ?_
    refine XE_icmp_gt (t := 19) (n := 9) dX7_ordersOf_6 rfl rfl (fun h5 => ?_) (fun h5 => ?_)
    · refine XE_ls (x_sub_ok (ls' := [(1, some (.int v1))]) ⟨rfl, trivial⟩) ?_
      exact hE (v1)
    · refine XE_iload_n (n := 10) dX7_ordersOf_9 rfl rfl rfl ?_
      refine XE_iload_n (n := 11) dX7_ordersOf_10 rfl rfl rfl ?_
      refine XE_imul (n := 12) dX7_ordersOf_11 rfl ?_
      refine XE_topi (fun v3 => ?_)
      refine XE_istore_n (i := 1) (n := 13) dX7_ordersOf_12 rfl rfl (Nat.le_of_ble_eq_true rfl) rfl ?_
      refine XE_iincl (n := 16) dX7_ordersOf_13 rfl rfl (by decide) (Nat.le_of_ble_eq_true rfl) rfl (fun v4 => ?_)
      refine XE_goto (n := 4) dX7_ordersOf_16 rfl ?_
      refine XE_ls (x_sub_ok (ls' := [(0, some (.int a0)), (1, some (.int v3)), (2, some (.int v4))]) ⟨rfl, rfl, rfl, trivial⟩) ?_
      exact ih v3 v4
set_option maxRecDepth 100000 in
theorem xe_X7_ordersOf (B : XB) (a0 : Int32) : XE B M_X7_ordersOf (XQm B 0 0 SH_0) 0 [(0, some (.int a0))] [] (0, 0) SH_0 [] (fun t => some (some (.int t), [])) (f_X7_ordersOf a0) := by
  unfold f_X7_ordersOf
  refine XE_iconst (v := 1) (n := 1) dX7_ordersOf_0 rfl (by decide) ?_
  refine XE_istore_n (i := 1) (n := 2) dX7_ordersOf_1 rfl rfl (Nat.le_of_ble_eq_true rfl) rfl ?_
  refine XE_iconst (v := 2) (n := 3) dX7_ordersOf_2 rfl (by decide) ?_
  refine XE_istore_n (i := 2) (n := 4) dX7_ordersOf_3 rfl rfl (Nat.le_of_ble_eq_true rfl) rfl ?_
  refine XE_ls (x_sub_ok (ls' := [(0, some (.int a0)), (1, some (.int 1)), (2, some (.int 2))]) ⟨rfl, rfl, rfl, trivial⟩) ?_
  refine XE_reg (J := 19) (lsJ := fun t6 => [(1, some (.int t6))]) (stJ := fun t6 => []) (hsJ := fun t6 => []) (fun t6 => ?_) (fun hJ7 => f_X7_ordersOf_L4_x B a0 hJ7 6000 (1 : Int32) (2 : Int32))
  refine XE_iload_n (n := 20) dX7_ordersOf_19 rfl rfl rfl ?_
  exact XE_ireturn rfl dX7_ordersOf_20 rfl (Nat.le_refl _) (Nat.le_refl _)
theorem met_X7_ordersOf (l : Launch) (a0 : Int32) (t : Int32) (ht : f_X7_ordersOf a0 = some t) : XMet l yX7_ordersOf cX7_ordersOf 3 (some .int) 1 0 0 [.int a0] SH_0 [] SH_0 (some (.int t), []) := XMet.of (by decide +kernel) (fun _ => Nat.le_of_ble_eq_true rfl) (fun B => xe_X7_ordersOf B a0) (by rw [ht]; rfl)
/-! X7_layOrder: EveryTwentyMinutesModel.layOrder(I)V in world M at (0,) -/
abbrev M_X7_layOrder : XM := (RX7, cX7_layOrder, 8, none, "layOrder", 2, 0, 0)
def f_X7_layOrder_L44 (v2 : Int32) : Nat → Int32 → Int32 → Option (Int32)
  | 0, _, _ => none
  | n + 1, v8, v9 =>
    (f_X7_hasBit v2 v9).bind fun t10 =>
    if t10 = 0 then
      if v8 ≤ 0 then
        some (v9)
      else
        (f_X7_hasBit v2 v9).bind fun t17 =>
        if t17 = 0 then
          lt (v8 - 1) fun v18 =>
          lt (v9 + 1) fun v19 =>
          (f_X7_layOrder_L44 v2 n) v18 v19
        else
          lt (v8 - 0) fun v20 =>
          lt (v9 + 1) fun v21 =>
          (f_X7_layOrder_L44 v2 n) v20 v21
    else
      (f_X7_hasBit v2 v9).bind fun t11 =>
      if t11 = 0 then
        lt (v8 - 1) fun v12 =>
        lt (v9 + 1) fun v13 =>
        (f_X7_layOrder_L44 v2 n) v12 v13
      else
        lt (v8 - 0) fun v14 =>
        lt (v9 + 1) fun v15 =>
        (f_X7_layOrder_L44 v2 n) v14 v15
def f_X7_layOrder_L7 : Nat → Int32 → Int32 → Int32 → Mem → Option (Mem)
  | 0, _, _, _, _ => none
  | n + 1, v1, v2, v3, w4 =>
    if (w4 0 9) ≤ v3 then
      some (w4)
    else
      (f_X7_ordersOf (((w4 0 9) - 1) - v3)).bind fun t5 =>
      ck (!decide (t5 = 0)) <|
      lt (v1 / t5) fun v6 =>
      ck (!decide (t5 = 0)) <|
      lt (v1 - v1 / t5 * t5) fun v7 =>
      (f_X7_layOrder_L44 v2 6000 v6 (0 : Int32)).bind fun t25 =>
      ck (inb t25 7) <|
      ck (inb v3 7) <|
      lt (xs w4 8 (ix v3) (w4 19 (ix t25))) fun w26 =>
      lt (v2 ||| (1 <<< (t25 &&& 31))) fun v27 =>
      lt (v3 + 1) fun v28 =>
      (f_X7_layOrder_L7 n) v7 v27 v28 w26
def f_X7_layOrder (m0 : Mem) (a1 : Int32) : Option (Mem) :=
  (f_X7_layOrder_L7 6000 a1 (0 : Int32) (0 : Int32) m0).bind fun t31 =>
  some t31
set_option maxRecDepth 100000 in
theorem f_X7_layOrder_L44_x {α R : Type} (B : XB) {Q : R → State → Prop} {k : α → Option R} {r : (Int32) → Option α} (v2 : Int32) (v3 : Int32) (v7 : Int32) (w4 : Mem) (hE : ∀ t0 : (Int32), XE B M_X7_layOrder Q 83 [(0, some (.ref 0)), (2, some (.int v7)), (3, some (.int v2)), (4, some (.int v3)), (7, some (.int t0))] [] (0, 0) SH_M [w4] (fun t => (r t).bind k) (some t0)) : ∀ (n : Nat) (v8 : Int32) (v9 : Int32), XE B M_X7_layOrder Q 44 [(0, some (.ref 0)), (2, some (.int v7)), (3, some (.int v2)), (4, some (.int v3)), (6, some (.int v8)), (7, some (.int v9))] [] (0, 0) SH_M [w4] (fun t => (r t).bind k) (f_X7_layOrder_L44 v2 n v8 v9) := by
  intro n
  induction n with
  | zero => intros; exact XE_none
  | succ n ih =>
    intro v8 v9
    rw [f_X7_layOrder_L44]
    refine XE_iload_n (n := 45) dX7_layOrder_44 rfl rfl rfl ?_
    refine XE_iload (n := 47) dX7_layOrder_45 rfl rfl ?_
    refine XE_callS (ni := 2) (As := [.int v2, .int v9]) (π := []) (co := [0]) (cv := [w4]) (nn := 1) (hs2 := fun t10 => [w4]) (st2 := fun t10 => [.int t10]) (n := 50) xc_X7_265 (fun l t ht => met_X7_hasBit l v2 v9 t ht) rfl rfl rfl dX7_layOrder_47 (Nat.le_of_ble_eq_true rfl) ⟨Nat.zero_le _, Nat.zero_le _⟩ (Nat.le_of_ble_eq_true rfl) (Nat.le_of_ble_eq_true rfl) ok_40 rfl rfl rfl (fun _ => rfl) (fun _ => rfl) (fun _ => rfl) rfl (fun _ => rfl) rfl (fun t10 => ?_)
    refine XE_if_ne (t := 58) (n := 53) dX7_layOrder_50 rfl rfl (fun h24 => ?_) (fun h24 => ?_)
    · refine XE_iload (n := 55) dX7_layOrder_53 rfl rfl ?_
      refine XE_if_le (t := 83) (n := 58) dX7_layOrder_55 rfl rfl (fun h23 => ?_) (fun h23 => ?_)
      · refine XE_ls (x_sub_ok (ls' := [(0, some (.ref 0)), (2, some (.int v7)), (3, some (.int v2)), (4, some (.int v3)), (7, some (.int v9))]) ⟨rfl, rfl, rfl, rfl, rfl, trivial⟩) ?_
        exact hE (v9)
      · refine XE_iload (n := 60) dX7_layOrder_58 rfl rfl ?_
        refine XE_iload_n (n := 61) dX7_layOrder_60 rfl rfl rfl ?_
        refine XE_iload (n := 63) dX7_layOrder_61 rfl rfl ?_
        refine XE_callS (ni := 2) (As := [.int v2, .int v9]) (π := []) (co := [0]) (cv := [w4]) (nn := 1) (hs2 := fun t17 => [w4]) (st2 := fun t17 => [.int t17, .int v8]) (n := 66) xc_X7_265 (fun l t ht => met_X7_hasBit l v2 v9 t ht) rfl rfl rfl dX7_layOrder_63 (Nat.le_of_ble_eq_true rfl) ⟨Nat.zero_le _, Nat.zero_le _⟩ (Nat.le_of_ble_eq_true rfl) (Nat.le_of_ble_eq_true rfl) ok_40 rfl rfl rfl (fun _ => rfl) (fun _ => rfl) (fun _ => rfl) rfl (fun _ => rfl) rfl (fun t17 => ?_)
        refine XE_if_eq (t := 73) (n := 69) dX7_layOrder_66 rfl rfl (fun h22 => ?_) (fun h22 => ?_)
        · refine XE_iconst (v := 1) (n := 74) dX7_layOrder_73 rfl (by decide) ?_
          refine XE_isub (n := 75) dX7_layOrder_74 rfl ?_
          refine XE_topi (fun v18 => ?_)
          refine XE_istore (i := 6) (n := 77) dX7_layOrder_75 rfl (Nat.le_of_ble_eq_true rfl) rfl ?_
          refine XE_iincl (n := 80) dX7_layOrder_77 rfl rfl (by decide) (Nat.le_of_ble_eq_true rfl) rfl (fun v19 => ?_)
          refine XE_goto (n := 44) dX7_layOrder_80 rfl ?_
          refine XE_ls (x_sub_ok (ls' := [(0, some (.ref 0)), (2, some (.int v7)), (3, some (.int v2)), (4, some (.int v3)), (6, some (.int v18)), (7, some (.int v19))]) ⟨rfl, rfl, rfl, rfl, rfl, rfl, trivial⟩) ?_
          exact ih v18 v19
        · refine XE_iconst (v := 0) (n := 70) dX7_layOrder_69 rfl (by decide) ?_
          refine XE_goto (n := 74) dX7_layOrder_70 rfl ?_
          refine XE_isub (n := 75) dX7_layOrder_74 rfl ?_
          refine XE_topi (fun v20 => ?_)
          refine XE_istore (i := 6) (n := 77) dX7_layOrder_75 rfl (Nat.le_of_ble_eq_true rfl) rfl ?_
          refine XE_iincl (n := 80) dX7_layOrder_77 rfl rfl (by decide) (Nat.le_of_ble_eq_true rfl) rfl (fun v21 => ?_)
          refine XE_goto (n := 44) dX7_layOrder_80 rfl ?_
          refine XE_ls (x_sub_ok (ls' := [(0, some (.ref 0)), (2, some (.int v7)), (3, some (.int v2)), (4, some (.int v3)), (6, some (.int v20)), (7, some (.int v21))]) ⟨rfl, rfl, rfl, rfl, rfl, rfl, trivial⟩) ?_
          exact ih v20 v21
    · refine XE_iload (n := 60) dX7_layOrder_58 rfl rfl ?_
      refine XE_iload_n (n := 61) dX7_layOrder_60 rfl rfl rfl ?_
      refine XE_iload (n := 63) dX7_layOrder_61 rfl rfl ?_
      refine XE_callS (ni := 2) (As := [.int v2, .int v9]) (π := []) (co := [0]) (cv := [w4]) (nn := 1) (hs2 := fun t11 => [w4]) (st2 := fun t11 => [.int t11, .int v8]) (n := 66) xc_X7_265 (fun l t ht => met_X7_hasBit l v2 v9 t ht) rfl rfl rfl dX7_layOrder_63 (Nat.le_of_ble_eq_true rfl) ⟨Nat.zero_le _, Nat.zero_le _⟩ (Nat.le_of_ble_eq_true rfl) (Nat.le_of_ble_eq_true rfl) ok_40 rfl rfl rfl (fun _ => rfl) (fun _ => rfl) (fun _ => rfl) rfl (fun _ => rfl) rfl (fun t11 => ?_)
      refine XE_if_eq (t := 73) (n := 69) dX7_layOrder_66 rfl rfl (fun h16 => ?_) (fun h16 => ?_)
      · refine XE_iconst (v := 1) (n := 74) dX7_layOrder_73 rfl (by decide) ?_
        refine XE_isub (n := 75) dX7_layOrder_74 rfl ?_
        refine XE_topi (fun v12 => ?_)
        refine XE_istore (i := 6) (n := 77) dX7_layOrder_75 rfl (Nat.le_of_ble_eq_true rfl) rfl ?_
        refine XE_iincl (n := 80) dX7_layOrder_77 rfl rfl (by decide) (Nat.le_of_ble_eq_true rfl) rfl (fun v13 => ?_)
        refine XE_goto (n := 44) dX7_layOrder_80 rfl ?_
        refine XE_ls (x_sub_ok (ls' := [(0, some (.ref 0)), (2, some (.int v7)), (3, some (.int v2)), (4, some (.int v3)), (6, some (.int v12)), (7, some (.int v13))]) ⟨rfl, rfl, rfl, rfl, rfl, rfl, trivial⟩) ?_
        exact ih v12 v13
      · refine XE_iconst (v := 0) (n := 70) dX7_layOrder_69 rfl (by decide) ?_
        refine XE_goto (n := 74) dX7_layOrder_70 rfl ?_
        refine XE_isub (n := 75) dX7_layOrder_74 rfl ?_
        refine XE_topi (fun v14 => ?_)
        refine XE_istore (i := 6) (n := 77) dX7_layOrder_75 rfl (Nat.le_of_ble_eq_true rfl) rfl ?_
        refine XE_iincl (n := 80) dX7_layOrder_77 rfl rfl (by decide) (Nat.le_of_ble_eq_true rfl) rfl (fun v15 => ?_)
        refine XE_goto (n := 44) dX7_layOrder_80 rfl ?_
        refine XE_ls (x_sub_ok (ls' := [(0, some (.ref 0)), (2, some (.int v7)), (3, some (.int v2)), (4, some (.int v3)), (6, some (.int v14)), (7, some (.int v15))]) ⟨rfl, rfl, rfl, rfl, rfl, rfl, trivial⟩) ?_
        exact ih v14 v15
set_option maxRecDepth 100000 in
theorem f_X7_layOrder_L7_x {α R : Type} (B : XB) {Q : R → State → Prop} {k : α → Option R} {r : (Mem) → Option α} (hE : ∀ t0 : (Mem), XE B M_X7_layOrder Q 110 [] [] (0, 0) SH_M [t0] (fun t => (r t).bind k) (some t0)) : ∀ (n : Nat) (v1 : Int32) (v2 : Int32) (v3 : Int32) (w4 : Mem), XE B M_X7_layOrder Q 7 [(0, some (.ref 0)), (2, some (.int v1)), (3, some (.int v2)), (4, some (.int v3))] [] (0, 0) SH_M [w4] (fun t => (r t).bind k) (f_X7_layOrder_L7 n v1 v2 v3 w4) := by
  intro n
  induction n with
  | zero => intros; exact XE_none
  | succ n ih =>
    intro v1 v2 v3 w4
    rw [f_X7_layOrder_L7]
    refine XE_iload (n := 9) dX7_layOrder_7 rfl rfl ?_
    refine XE_aload_n (n := 10) dX7_layOrder_9 rfl rfl rfl ?_
    refine XE_getf (v := w4 0 9) (n := 13) xf_X7_100 rfl rfl rfl dX7_layOrder_10 rfl ?_
    refine XE_icmp_ge (t := 110) (n := 16) dX7_layOrder_13 rfl rfl (fun h30 => ?_) (fun h30 => ?_)
    · refine XE_ls (x_sub_ok (ls' := []) trivial) ?_
      exact hE (w4)
    · refine XE_aload_n (n := 17) dX7_layOrder_16 rfl rfl rfl ?_
      refine XE_getf (v := w4 0 9) (n := 20) xf_X7_100 rfl rfl rfl dX7_layOrder_17 rfl ?_
      refine XE_iconst (v := 1) (n := 21) dX7_layOrder_20 rfl (by decide) ?_
      refine XE_isub (n := 22) dX7_layOrder_21 rfl ?_
      refine XE_iload (n := 24) dX7_layOrder_22 rfl rfl ?_
      refine XE_isub (n := 25) dX7_layOrder_24 rfl ?_
      refine XE_callS (ni := 1) (As := [.int (((w4 0 9) - 1) - v3)]) (π := []) (co := [0]) (cv := [w4]) (nn := 1) (hs2 := fun t5 => [w4]) (st2 := fun t5 => [.int t5]) (n := 28) xc_X7_262 (fun l t ht => met_X7_ordersOf l (((w4 0 9) - 1) - v3) t ht) rfl rfl rfl dX7_layOrder_25 (Nat.le_of_ble_eq_true rfl) ⟨Nat.zero_le _, Nat.zero_le _⟩ (Nat.le_of_ble_eq_true rfl) (Nat.le_of_ble_eq_true rfl) ok_40 rfl rfl rfl (fun _ => rfl) (fun _ => rfl) (fun _ => rfl) rfl (fun _ => rfl) rfl (fun t5 => ?_)
      refine XE_istore (i := 5) (n := 30) dX7_layOrder_28 rfl (Nat.le_of_ble_eq_true rfl) rfl ?_
      refine XE_iload_n (n := 31) dX7_layOrder_30 rfl rfl rfl ?_
      refine XE_iload (n := 33) dX7_layOrder_31 rfl rfl ?_
      refine XE_idiv_ck (n := 34) dX7_layOrder_33 rfl ?_
      refine XE_topi (fun v6 => ?_)
      refine XE_istore (i := 6) (n := 36) dX7_layOrder_34 rfl (Nat.le_of_ble_eq_true rfl) rfl ?_
      refine XE_iload_n (n := 37) dX7_layOrder_36 rfl rfl rfl ?_
      refine XE_iload (n := 39) dX7_layOrder_37 rfl rfl ?_
      refine XE_irem_ck (n := 40) dX7_layOrder_39 rfl ?_
      refine XE_topi (fun v7 => ?_)
      refine XE_istore_n (i := 2) (n := 41) dX7_layOrder_40 rfl rfl (Nat.le_of_ble_eq_true rfl) rfl ?_
      refine XE_iconst (v := 0) (n := 42) dX7_layOrder_41 rfl (by decide) ?_
      refine XE_istore (i := 7) (n := 44) dX7_layOrder_42 rfl (Nat.le_of_ble_eq_true rfl) rfl ?_
      refine XE_ls (x_sub_ok (ls' := [(0, some (.ref 0)), (2, some (.int v7)), (3, some (.int v2)), (4, some (.int v3)), (6, some (.int v6)), (7, some (.int 0))]) ⟨rfl, rfl, rfl, rfl, rfl, rfl, trivial⟩) ?_
      refine XE_reg (J := 83) (lsJ := fun t25 => [(0, some (.ref 0)), (2, some (.int v7)), (3, some (.int v2)), (4, some (.int v3)), (7, some (.int t25))]) (stJ := fun t25 => []) (hsJ := fun t25 => [w4]) (fun t25 => ?_) (fun hJ29 => f_X7_layOrder_L44_x B v2 v3 v7 w4 hJ29 6000 v6 (0 : Int32))
      refine XE_aload_n (n := 84) dX7_layOrder_83 rfl rfl rfl ?_
      refine XE_getr (b := 8) (n := 87) xf_X7_31 rfl rfl dX7_layOrder_84 rfl ?_
      refine XE_iload (n := 89) dX7_layOrder_87 rfl rfl ?_
      refine XE_aload_n (n := 90) dX7_layOrder_89 rfl rfl rfl ?_
      refine XE_getr (b := 19) (n := 93) xf_X7_64 rfl rfl dX7_layOrder_90 rfl ?_
      refine XE_iload (n := 95) dX7_layOrder_93 rfl rfl ?_
      refine XE_iald (row := w4 19) (n := 96) rfl rfl dX7_layOrder_95 rfl ?_
      refine XE_iast (hs2 := fun w26 => [w26]) (n := 97) rfl rfl rfl (Nat.le_of_ble_eq_true rfl) (fun _ => rfl) dX7_layOrder_96 rfl (fun w26 => ?_)
      refine XE_iload_n (n := 98) dX7_layOrder_97 rfl rfl rfl ?_
      refine XE_iconst (v := 1) (n := 99) dX7_layOrder_98 rfl (by decide) ?_
      refine XE_iload (n := 101) dX7_layOrder_99 rfl rfl ?_
      refine XE_ishl (n := 102) dX7_layOrder_101 rfl ?_
      refine XE_ior (n := 103) dX7_layOrder_102 rfl ?_
      refine XE_topi (fun v27 => ?_)
      refine XE_istore_n (i := 3) (n := 104) dX7_layOrder_103 rfl rfl (Nat.le_of_ble_eq_true rfl) rfl ?_
      refine XE_iincl (n := 107) dX7_layOrder_104 rfl rfl (by decide) (Nat.le_of_ble_eq_true rfl) rfl (fun v28 => ?_)
      refine XE_goto (n := 7) dX7_layOrder_107 rfl ?_
      refine XE_ls (x_sub_ok (ls' := [(0, some (.ref 0)), (2, some (.int v7)), (3, some (.int v27)), (4, some (.int v28))]) ⟨rfl, rfl, rfl, rfl, trivial⟩) ?_
      exact ih v7 v27 v28 w26
set_option maxRecDepth 100000 in
theorem xe_X7_layOrder (B : XB) (m0 : Mem) (a1 : Int32) : XE B M_X7_layOrder (XQm B 0 0 SH_M) 0 [(0, some (.ref 0)), (1, some (.int a1))] [] (0, 0) SH_M [m0] (fun t => some (none, [t])) (f_X7_layOrder m0 a1) := by
  unfold f_X7_layOrder
  refine XE_iload_n (n := 1) dX7_layOrder_0 rfl rfl rfl ?_
  refine XE_istore_n (i := 2) (n := 2) dX7_layOrder_1 rfl rfl (Nat.le_of_ble_eq_true rfl) rfl ?_
  refine XE_iconst (v := 0) (n := 3) dX7_layOrder_2 rfl (by decide) ?_
  refine XE_istore_n (i := 3) (n := 4) dX7_layOrder_3 rfl rfl (Nat.le_of_ble_eq_true rfl) rfl ?_
  refine XE_iconst (v := 0) (n := 5) dX7_layOrder_4 rfl (by decide) ?_
  refine XE_istore (i := 4) (n := 7) dX7_layOrder_5 rfl (Nat.le_of_ble_eq_true rfl) rfl ?_
  refine XE_ls (x_sub_ok (ls' := [(0, some (.ref 0)), (2, some (.int a1)), (3, some (.int 0)), (4, some (.int 0))]) ⟨rfl, rfl, rfl, rfl, trivial⟩) ?_
  refine XE_reg (J := 110) (lsJ := fun t31 => []) (stJ := fun t31 => []) (hsJ := fun t31 => [t31]) (fun t31 => ?_) (fun hJ32 => f_X7_layOrder_L7_x B hJ32 6000 a1 (0 : Int32) (0 : Int32) m0)
  exact XE_vreturn rfl dX7_layOrder_110 rfl (Nat.le_refl _) (Nat.le_refl _)
theorem met_X7_layOrder (l : Launch) (m0 : Mem) (a1 : Int32) (t : Mem) (ht : f_X7_layOrder m0 a1 = some t) : XMet l yX7_layOrder cX7_layOrder 8 none 2 0 0 [.ref 0, .int a1] SH_M [m0] SH_M (none, [t]) := XMet.of (by decide +kernel) (fun _ => Nat.le_of_ble_eq_true rfl) (fun B => xe_X7_layOrder B m0 a1) (by rw [ht]; rfl)
/-! X7_lateNow: EveryTwentyMinutesModel.lateNow()I in world M at (0,) -/
abbrev M_X7_lateNow : XM := (RX7, cX7_lateNow, 1, (some .int), "lateNow", 5, 0, 0)
def f_X7_lateNow (m0 : Mem) : Option (Int32 × Mem) :=
  (f_X7_wedAll m0).bind fun t1 =>
  (f_X7_allLate t1).bind fun t2 =>
  some (t2, t1)
set_option maxRecDepth 100000 in
theorem xe_X7_lateNow (B : XB) (m0 : Mem) : XE B M_X7_lateNow (XQm B 0 0 SH_M) 0 [(0, some (.ref 0))] [] (0, 0) SH_M [m0] (fun t => some (some (.int t.1), [t.2])) (f_X7_lateNow m0) := by
  unfold f_X7_lateNow
  refine XE_aload_n (n := 1) dX7_lateNow_0 rfl rfl rfl ?_
  refine XE_callVi (ni := 0) (As := []) (st2 := fun t1 => []) (n := 4) (b := 0) xc_X7_243 (fun l t ht => met_X7_wedAll l m0 t ht) rfl rfl rfl rfl dX7_lateNow_1 (Nat.le_of_ble_eq_true rfl) ⟨Nat.zero_le _, Nat.zero_le _⟩ (Nat.le_of_ble_eq_true rfl) (Nat.le_of_ble_eq_true rfl) (fun _ => rfl) rfl (fun t1 => ?_)
  refine XE_aload_n (n := 5) dX7_lateNow_4 rfl rfl rfl ?_
  refine XE_callVi (ni := 0) (As := []) (st2 := fun t2 => [.int t2]) (n := 8) (b := 0) xc_X7_247 (fun l t ht => met_X7_allLate l t1 t ht) rfl rfl rfl rfl dX7_lateNow_5 (Nat.le_of_ble_eq_true rfl) ⟨Nat.zero_le _, Nat.zero_le _⟩ (Nat.le_of_ble_eq_true rfl) (Nat.le_of_ble_eq_true rfl) (fun _ => rfl) rfl (fun t2 => ?_)
  exact XE_ireturn rfl dX7_lateNow_8 rfl (Nat.le_refl _) (Nat.le_refl _)
theorem met_X7_lateNow (l : Launch) (m0 : Mem) (t : Int32 × Mem) (ht : f_X7_lateNow m0 = some t) : XMet l yX7_lateNow cX7_lateNow 1 (some .int) 5 0 0 [.ref 0] SH_M [m0] SH_M (some (.int t.1), [t.2]) := XMet.of (by decide +kernel) (fun _ => Nat.le_of_ble_eq_true rfl) (fun B => xe_X7_lateNow B m0) (by rw [ht]; rfl)
/-! X7_best: EveryTwentyMinutesModel.best(I)I in world M at (0,) -/
abbrev M_X7_best : XM := (RX7, cX7_best, 8, (some .int), "best", 6, 0, 0)
def f_X7_best_L47 (t3 : (Int32)) : Nat → Int32 → Int32 → Int32 → Mem → Option (Int32 × Int32 × Mem)
  | 0, _, _, _, _ => none
  | n + 1, v6, v7, v8, w9 =>
    if t3 ≤ v8 then
      some (v6, v7, w9)
    else
      (f_X7_layOrder w9 v8).bind fun t10 =>
      (f_X7_lateNow t10).bind fun t11 =>
      lt t11.1 fun v12 =>
      (f_X7_again t11.2).bind fun t13 =>
      lt (if v7 < 0 then
          (v8)
        else
          if v7 ≤ v12 then
            (v6)
          else
            (v8)) fun t17 =>
      if v7 < 0 then
        lt (v8 + 1) fun v18 =>
        (f_X7_best_L47 t3 n) t17 v12 v18 t13
      else
        if v7 ≤ v12 then
          lt (v8 + 1) fun v19 =>
          (f_X7_best_L47 t3 n) t17 v7 v19 t13
        else
          lt (v8 + 1) fun v20 =>
          (f_X7_best_L47 t3 n) t17 v12 v20 t13
def f_X7_best (m0 : Mem) (a1 : Int32) : Option (Int32 × Mem) :=
  lt (xs m0 0 14 0) fun w1 =>
  if (-1) ≤ a1 then
    (f_X7_laySorted w1).bind fun t2 =>
    (f_X7_ordersOf (t2 0 9)).bind fun t3 =>
    lt (t2 0 9) fun v4 =>
    (f_X7_think t2).bind fun t5 =>
    (f_X7_best_L47 t3 6000 (0 : Int32) ((-1) : Int32) (0 : Int32) t5).bind fun t24 =>
    (f_X7_layOrder t24.2.2 t24.1).bind fun t25 =>
    (if 0 ≤ a1 then
       if v4 ≤ a1 then
         some (((-9) : Int32))
       else
         ck (inb a1 7) <|
         some ((t25 8 (ix a1)))
     else
       some (t24.2.1)).bind fun t32 =>
    (f_X7_again t25).bind fun t33 =>
    some (t32, t33)
  else
    (f_X7_refuse w1 (-4)).bind fun t35 =>
    some (t35.1, t35.2)
set_option maxRecDepth 100000 in
theorem f_X7_best_L47_x {α R : Type} (B : XB) {Q : R → State → Prop} {k : α → Option R} {r : (Int32 × Int32 × Mem) → Option α} (a1 : Int32) (t3 : (Int32)) (v4 : Int32) (hE : ∀ t0 : (Int32 × Int32 × Mem), XE B M_X7_best Q 117 [(0, some (.ref 0)), (1, some (.int a1)), (3, some (.int v4)), (4, some (.int t0.1)), (5, some (.int t0.2.1))] [] (0, 0) SH_M [t0.2.2] (fun t => (r t).bind k) (some t0)) : ∀ (n : Nat) (v6 : Int32) (v7 : Int32) (v8 : Int32) (w9 : Mem), XE B M_X7_best Q 47 [(0, some (.ref 0)), (1, some (.int a1)), (2, some (.int t3)), (3, some (.int v4)), (4, some (.int v6)), (5, some (.int v7)), (6, some (.int v8))] [] (0, 0) SH_M [w9] (fun t => (r t).bind k) (f_X7_best_L47 t3 n v6 v7 v8 w9) := by
  intro n
  induction n with
  | zero => intros; exact XE_none
  | succ n ih =>
    intro v6 v7 v8 w9
    rw [f_X7_best_L47]
    refine XE_iload (n := 49) dX7_best_47 rfl rfl ?_
    refine XE_iload_n (n := 50) dX7_best_49 rfl rfl rfl ?_
    refine XE_icmp_ge (t := 117) (n := 53) dX7_best_50 rfl rfl (fun h23 => ?_) (fun h23 => ?_)
    · refine XE_ls (x_sub_ok (ls' := [(0, some (.ref 0)), (1, some (.int a1)), (3, some (.int v4)), (4, some (.int v6)), (5, some (.int v7))]) ⟨rfl, rfl, rfl, rfl, rfl, trivial⟩) ?_
      exact hE (v6, v7, w9)
    · refine XE_aload_n (n := 54) dX7_best_53 rfl rfl rfl ?_
      refine XE_iload (n := 56) dX7_best_54 rfl rfl ?_
      refine XE_callVi (ni := 1) (As := [.int v8]) (st2 := fun t10 => []) (n := 59) (b := 0) xc_X7_271 (fun l t ht => met_X7_layOrder l w9 v8 t ht) rfl rfl rfl rfl dX7_best_56 (Nat.le_of_ble_eq_true rfl) ⟨Nat.zero_le _, Nat.zero_le _⟩ (Nat.le_of_ble_eq_true rfl) (Nat.le_of_ble_eq_true rfl) (fun _ => rfl) rfl (fun t10 => ?_)
      refine XE_aload_n (n := 60) dX7_best_59 rfl rfl rfl ?_
      refine XE_callVi (ni := 0) (As := []) (st2 := fun t11 => [.int t11.1]) (n := 63) (b := 0) xc_X7_274 (fun l t ht => met_X7_lateNow l t10 t ht) rfl rfl rfl rfl dX7_best_60 (Nat.le_of_ble_eq_true rfl) ⟨Nat.zero_le _, Nat.zero_le _⟩ (Nat.le_of_ble_eq_true rfl) (Nat.le_of_ble_eq_true rfl) (fun _ => rfl) rfl (fun t11 => ?_)
      refine XE_topi (fun v12 => ?_)
      refine XE_istore (i := 7) (n := 65) dX7_best_63 rfl (Nat.le_of_ble_eq_true rfl) rfl ?_
      refine XE_aload_n (n := 66) dX7_best_65 rfl rfl rfl ?_
      refine XE_callVi (ni := 0) (As := []) (st2 := fun t13 => []) (n := 69) (b := 0) xc_X7_200 (fun l t ht => met_X7_again l t11.2 t ht) rfl rfl rfl rfl dX7_best_66 (Nat.le_of_ble_eq_true rfl) ⟨Nat.zero_le _, Nat.zero_le _⟩ (Nat.le_of_ble_eq_true rfl) (Nat.le_of_ble_eq_true rfl) (fun _ => rfl) rfl (fun t13 => ?_)
      refine XE_iload (n := 71) dX7_best_69 rfl rfl ?_
      refine XE_regv (J := 88) (lsJ := fun t17 => [(0, some (.ref 0)), (1, some (.int a1)), (2, some (.int t3)), (3, some (.int v4)), (5, some (.int v7)), (6, some (.int v8)), (7, some (.int v12))]) (stJ := fun t17 => [.int t17]) (hsJ := fun t17 => [t13]) (fun t17 => ?_) (fun hJ14 => ?_)
      · refine XE_istore (i := 4) (n := 90) dX7_best_88 rfl (Nat.le_of_ble_eq_true rfl) rfl ?_
        refine XE_iload (n := 92) dX7_best_90 rfl rfl ?_
        refine XE_if_lt (t := 102) (n := 95) dX7_best_92 rfl rfl (fun h22 => ?_) (fun h22 => ?_)
        · refine XE_iload (n := 104) dX7_best_102 rfl rfl ?_
          refine XE_goto (n := 109) dX7_best_104 rfl ?_
          refine XE_istore (i := 5) (n := 111) dX7_best_109 rfl (Nat.le_of_ble_eq_true rfl) rfl ?_
          refine XE_iincl (n := 114) dX7_best_111 rfl rfl (by decide) (Nat.le_of_ble_eq_true rfl) rfl (fun v18 => ?_)
          refine XE_goto (n := 47) dX7_best_114 rfl ?_
          refine XE_ls (x_sub_ok (ls' := [(0, some (.ref 0)), (1, some (.int a1)), (2, some (.int t3)), (3, some (.int v4)), (4, some (.int t17)), (5, some (.int v12)), (6, some (.int v18))]) ⟨rfl, rfl, rfl, rfl, rfl, rfl, rfl, trivial⟩) ?_
          exact ih t17 v12 v18 t13
        · refine XE_iload (n := 97) dX7_best_95 rfl rfl ?_
          refine XE_iload (n := 99) dX7_best_97 rfl rfl ?_
          refine XE_icmp_ge (t := 107) (n := 102) dX7_best_99 rfl rfl (fun h21 => ?_) (fun h21 => ?_)
          · refine XE_iload (n := 109) dX7_best_107 rfl rfl ?_
            refine XE_istore (i := 5) (n := 111) dX7_best_109 rfl (Nat.le_of_ble_eq_true rfl) rfl ?_
            refine XE_iincl (n := 114) dX7_best_111 rfl rfl (by decide) (Nat.le_of_ble_eq_true rfl) rfl (fun v19 => ?_)
            refine XE_goto (n := 47) dX7_best_114 rfl ?_
            refine XE_ls (x_sub_ok (ls' := [(0, some (.ref 0)), (1, some (.int a1)), (2, some (.int t3)), (3, some (.int v4)), (4, some (.int t17)), (5, some (.int v7)), (6, some (.int v19))]) ⟨rfl, rfl, rfl, rfl, rfl, rfl, rfl, trivial⟩) ?_
            exact ih t17 v7 v19 t13
          · refine XE_iload (n := 104) dX7_best_102 rfl rfl ?_
            refine XE_goto (n := 109) dX7_best_104 rfl ?_
            refine XE_istore (i := 5) (n := 111) dX7_best_109 rfl (Nat.le_of_ble_eq_true rfl) rfl ?_
            refine XE_iincl (n := 114) dX7_best_111 rfl rfl (by decide) (Nat.le_of_ble_eq_true rfl) rfl (fun v20 => ?_)
            refine XE_goto (n := 47) dX7_best_114 rfl ?_
            refine XE_ls (x_sub_ok (ls' := [(0, some (.ref 0)), (1, some (.int a1)), (2, some (.int t3)), (3, some (.int v4)), (4, some (.int t17)), (5, some (.int v12)), (6, some (.int v20))]) ⟨rfl, rfl, rfl, rfl, rfl, rfl, rfl, trivial⟩) ?_
            exact ih t17 v12 v20 t13
      · refine XE_ltif ?_
        refine XE_if_lt (t := 81) (n := 74) dX7_best_71 rfl rfl (fun h16 => ?_) (fun h16 => ?_)
        · refine XE_iload (n := 83) dX7_best_81 rfl rfl ?_
          refine XE_goto (n := 88) dX7_best_83 rfl ?_
          refine XE_ls (x_sub_ok (ls' := [(0, some (.ref 0)), (1, some (.int a1)), (2, some (.int t3)), (3, some (.int v4)), (5, some (.int v7)), (6, some (.int v8)), (7, some (.int v12))]) ⟨rfl, rfl, rfl, rfl, rfl, rfl, rfl, trivial⟩) ?_
          exact hJ14 (v8)
        · refine XE_iload (n := 76) dX7_best_74 rfl rfl ?_
          refine XE_iload (n := 78) dX7_best_76 rfl rfl ?_
          refine XE_ltif ?_
          refine XE_icmp_ge (t := 86) (n := 81) dX7_best_78 rfl rfl (fun h15 => ?_) (fun h15 => ?_)
          · refine XE_iload (n := 88) dX7_best_86 rfl rfl ?_
            refine XE_ls (x_sub_ok (ls' := [(0, some (.ref 0)), (1, some (.int a1)), (2, some (.int t3)), (3, some (.int v4)), (5, some (.int v7)), (6, some (.int v8)), (7, some (.int v12))]) ⟨rfl, rfl, rfl, rfl, rfl, rfl, rfl, trivial⟩) ?_
            exact hJ14 (v6)
          · refine XE_iload (n := 83) dX7_best_81 rfl rfl ?_
            refine XE_goto (n := 88) dX7_best_83 rfl ?_
            refine XE_ls (x_sub_ok (ls' := [(0, some (.ref 0)), (1, some (.int a1)), (2, some (.int t3)), (3, some (.int v4)), (5, some (.int v7)), (6, some (.int v8)), (7, some (.int v12))]) ⟨rfl, rfl, rfl, rfl, rfl, rfl, rfl, trivial⟩) ?_
            exact hJ14 (v8)
set_option maxRecDepth 100000 in
theorem xe_X7_best (B : XB) (m0 : Mem) (a1 : Int32) : XE B M_X7_best (XQm B 0 0 SH_M) 0 [(0, some (.ref 0)), (1, some (.int a1))] [] (0, 0) SH_M [m0] (fun t => some (some (.int t.1), [t.2])) (f_X7_best m0 a1) := by
  unfold f_X7_best
  refine XE_aload_n (n := 1) dX7_best_0 rfl rfl rfl ?_
  refine XE_iconst (v := 0) (n := 2) dX7_best_1 rfl (by decide) ?_
  refine XE_putf (hs2 := fun w1 => [w1]) (n := 5) xf_X7_76 rfl rfl rfl rfl (Nat.le_of_ble_eq_true rfl) (fun _ => rfl) dX7_best_2 rfl (fun w1 => ?_)
  refine XE_iload_n (n := 6) dX7_best_5 rfl rfl rfl ?_
  refine XE_iconst (v := (-1)) (n := 7) dX7_best_6 rfl (by decide) ?_
  refine XE_icmp_ge (t := 17) (n := 10) dX7_best_7 rfl rfl (fun h36 => ?_) (fun h36 => ?_)
  · refine XE_aload_n (n := 18) dX7_best_17 rfl rfl rfl ?_
    refine XE_callVi (ni := 0) (As := []) (st2 := fun t2 => []) (n := 21) (b := 0) xc_X7_268 (fun l t ht => met_X7_laySorted l w1 t ht) rfl rfl rfl rfl dX7_best_18 (Nat.le_of_ble_eq_true rfl) ⟨Nat.zero_le _, Nat.zero_le _⟩ (Nat.le_of_ble_eq_true rfl) (Nat.le_of_ble_eq_true rfl) (fun _ => rfl) rfl (fun t2 => ?_)
    refine XE_aload_n (n := 22) dX7_best_21 rfl rfl rfl ?_
    refine XE_getf (v := t2 0 9) (n := 25) xf_X7_100 rfl rfl rfl dX7_best_22 rfl ?_
    refine XE_callS (ni := 1) (As := [.int (t2 0 9)]) (π := []) (co := [0]) (cv := [t2]) (nn := 1) (hs2 := fun t3 => [t2]) (st2 := fun t3 => [.int t3]) (n := 28) xc_X7_262 (fun l t ht => met_X7_ordersOf l (t2 0 9) t ht) rfl rfl rfl dX7_best_25 (Nat.le_of_ble_eq_true rfl) ⟨Nat.zero_le _, Nat.zero_le _⟩ (Nat.le_of_ble_eq_true rfl) (Nat.le_of_ble_eq_true rfl) ok_40 rfl rfl rfl (fun _ => rfl) (fun _ => rfl) (fun _ => rfl) rfl (fun _ => rfl) rfl (fun t3 => ?_)
    refine XE_istore_n (i := 2) (n := 29) dX7_best_28 rfl rfl (Nat.le_of_ble_eq_true rfl) rfl ?_
    refine XE_aload_n (n := 30) dX7_best_29 rfl rfl rfl ?_
    refine XE_getf (v := t2 0 9) (n := 33) xf_X7_100 rfl rfl rfl dX7_best_30 rfl ?_
    refine XE_topi (fun v4 => ?_)
    refine XE_istore_n (i := 3) (n := 34) dX7_best_33 rfl rfl (Nat.le_of_ble_eq_true rfl) rfl ?_
    refine XE_iconst (v := 0) (n := 35) dX7_best_34 rfl (by decide) ?_
    refine XE_istore (i := 4) (n := 37) dX7_best_35 rfl (Nat.le_of_ble_eq_true rfl) rfl ?_
    refine XE_iconst (v := (-1)) (n := 38) dX7_best_37 rfl (by decide) ?_
    refine XE_istore (i := 5) (n := 40) dX7_best_38 rfl (Nat.le_of_ble_eq_true rfl) rfl ?_
    refine XE_aload_n (n := 41) dX7_best_40 rfl rfl rfl ?_
    refine XE_callVi (ni := 0) (As := []) (st2 := fun t5 => []) (n := 44) (b := 0) xc_X7_194 (fun l t ht => met_X7_think l t2 t ht) rfl rfl rfl rfl dX7_best_41 (Nat.le_of_ble_eq_true rfl) ⟨Nat.zero_le _, Nat.zero_le _⟩ (Nat.le_of_ble_eq_true rfl) (Nat.le_of_ble_eq_true rfl) (fun _ => rfl) rfl (fun t5 => ?_)
    refine XE_iconst (v := 0) (n := 45) dX7_best_44 rfl (by decide) ?_
    refine XE_istore (i := 6) (n := 47) dX7_best_45 rfl (Nat.le_of_ble_eq_true rfl) rfl ?_
    refine XE_ls (x_sub_ok (ls' := [(0, some (.ref 0)), (1, some (.int a1)), (2, some (.int t3)), (3, some (.int v4)), (4, some (.int 0)), (5, some (.int (-1))), (6, some (.int 0))]) ⟨rfl, rfl, rfl, rfl, rfl, rfl, rfl, trivial⟩) ?_
    refine XE_reg (J := 117) (lsJ := fun t24 => [(0, some (.ref 0)), (1, some (.int a1)), (3, some (.int v4)), (4, some (.int t24.1)), (5, some (.int t24.2.1))]) (stJ := fun t24 => []) (hsJ := fun t24 => [t24.2.2]) (fun t24 => ?_) (fun hJ34 => f_X7_best_L47_x B a1 t3 v4 hJ34 6000 (0 : Int32) ((-1) : Int32) (0 : Int32) t5)
    refine XE_aload_n (n := 118) dX7_best_117 rfl rfl rfl ?_
    refine XE_iload (n := 120) dX7_best_118 rfl rfl ?_
    refine XE_callVi (ni := 1) (As := [.int t24.1]) (st2 := fun t25 => []) (n := 123) (b := 0) xc_X7_271 (fun l t ht => met_X7_layOrder l t24.2.2 t24.1 t ht) rfl rfl rfl rfl dX7_best_120 (Nat.le_of_ble_eq_true rfl) ⟨Nat.zero_le _, Nat.zero_le _⟩ (Nat.le_of_ble_eq_true rfl) (Nat.le_of_ble_eq_true rfl) (fun _ => rfl) rfl (fun t25 => ?_)
    refine XE_iload_n (n := 124) dX7_best_123 rfl rfl rfl ?_
    refine XE_reg (J := 148) (lsJ := fun t32 => [(0, some (.ref 0))]) (stJ := fun t32 => [.int t32]) (hsJ := fun t32 => [t25]) (fun t32 => ?_) (fun hJ29 => ?_)
    · refine XE_istore (i := 6) (n := 150) dX7_best_148 rfl (Nat.le_of_ble_eq_true rfl) rfl ?_
      refine XE_aload_n (n := 151) dX7_best_150 rfl rfl rfl ?_
      refine XE_callVi (ni := 0) (As := []) (st2 := fun t33 => []) (n := 154) (b := 0) xc_X7_200 (fun l t ht => met_X7_again l t25 t ht) rfl rfl rfl rfl dX7_best_151 (Nat.le_of_ble_eq_true rfl) ⟨Nat.zero_le _, Nat.zero_le _⟩ (Nat.le_of_ble_eq_true rfl) (Nat.le_of_ble_eq_true rfl) (fun _ => rfl) rfl (fun t33 => ?_)
      refine XE_iload (n := 156) dX7_best_154 rfl rfl ?_
      exact XE_ireturn rfl dX7_best_156 rfl (Nat.le_refl _) (Nat.le_refl _)
    · refine XE_if_ge (t := 132) (n := 127) dX7_best_124 rfl rfl (fun h31 => ?_) (fun h31 => ?_)
      · refine XE_iload_n (n := 133) dX7_best_132 rfl rfl rfl ?_
        refine XE_iload_n (n := 134) dX7_best_133 rfl rfl rfl ?_
        refine XE_icmp_ge (t := 146) (n := 137) dX7_best_134 rfl rfl (fun h30 => ?_) (fun h30 => ?_)
        · refine XE_bipush (v := (-9)) (n := 148) dX7_best_146 rfl (by decide) ?_
          refine XE_ls (x_sub_ok (ls' := [(0, some (.ref 0))]) ⟨rfl, trivial⟩) ?_
          exact hJ29 (((-9) : Int32))
        · refine XE_aload_n (n := 138) dX7_best_137 rfl rfl rfl ?_
          refine XE_getr (b := 8) (n := 141) xf_X7_31 rfl rfl dX7_best_138 rfl ?_
          refine XE_iload_n (n := 142) dX7_best_141 rfl rfl rfl ?_
          refine XE_iald (row := t25 8) (n := 143) rfl rfl dX7_best_142 rfl ?_
          refine XE_goto (n := 148) dX7_best_143 rfl ?_
          refine XE_ls (x_sub_ok (ls' := [(0, some (.ref 0))]) ⟨rfl, trivial⟩) ?_
          exact hJ29 ((t25 8 (ix a1)))
      · refine XE_iload (n := 129) dX7_best_127 rfl rfl ?_
        refine XE_goto (n := 148) dX7_best_129 rfl ?_
        refine XE_ls (x_sub_ok (ls' := [(0, some (.ref 0))]) ⟨rfl, trivial⟩) ?_
        exact hJ29 (t24.2.1)
  · refine XE_aload_n (n := 11) dX7_best_10 rfl rfl rfl ?_
    refine XE_bipush (v := (-4)) (n := 13) dX7_best_11 rfl (by decide) ?_
    refine XE_callVi (ni := 1) (As := [.int (-4)]) (st2 := fun t35 => [.int t35.1]) (n := 16) (b := 0) xc_X7_138 (fun l t ht => met_X7_refuse l w1 (-4) t ht) rfl rfl rfl rfl dX7_best_13 (Nat.le_of_ble_eq_true rfl) ⟨Nat.zero_le _, Nat.zero_le _⟩ (Nat.le_of_ble_eq_true rfl) (Nat.le_of_ble_eq_true rfl) (fun _ => rfl) rfl (fun t35 => ?_)
    exact XE_ireturn rfl dX7_best_16 rfl (Nat.le_refl _) (Nat.le_refl _)
theorem met_X7_best (l : Launch) (m0 : Mem) (a1 : Int32) (t : Int32 × Mem) (ht : f_X7_best m0 a1 = some t) : XMet l yX7_best cX7_best 8 (some .int) 6 0 0 [.ref 0, .int a1] SH_M [m0] SH_M (some (.int t.1), [t.2]) := XMet.of (by decide +kernel) (fun _ => Nat.le_of_ble_eq_true rfl) (fun B => xe_X7_best B m0 a1) (by rw [ht]; rfl)
/-! X7_pull: EveryTwentyMinutesModel.pull()I in world M at (0,) -/
abbrev M_X7_pull : XM := (RX7, cX7_pull, 5, (some .int), "pull", 6, 0, 0)
def f_X7_pull_L23 : Nat → Int32 → Int32 → Int32 → Mem → Option (Int32 × Mem)
  | 0, _, _, _, _ => none
  | n + 1, v6, v7, v8, w9 =>
    if (w9 0 0) ≤ v8 then
      some (v6, w9)
    else
      ck (inb v8 7) <|
      if (w9 4 (ix v8)) = 0 then
        (f_X7_putFirst w9 v8).bind fun t11 =>
        (f_X7_lateNow t11).bind fun t12 =>
        lt t12.1 fun v13 =>
        (f_X7_again t12.2).bind fun t14 =>
        lt (if v7 ≤ v13 then
            (v6)
          else
            (v8)) fun t17 =>
        (f_X7_least v7 v13).bind fun t18 =>
        lt (v8 + 1) fun v19 =>
        (f_X7_pull_L23 n) t17 t18 v19 t14
      else
        lt (v8 + 1) fun v10 =>
        (f_X7_pull_L23 n) v6 v7 v10 w9
def f_X7_pull (m0 : Mem) : Option (Int32 × Mem) :=
  lt (xs m0 0 14 0) fun w1 =>
  (f_X7_think w1).bind fun t2 =>
  (f_X7_lateNow t2).bind fun t3 =>
  lt t3.1 fun v4 =>
  (f_X7_again t3.2).bind fun t5 =>
  (f_X7_pull_L23 6000 ((-9) : Int32) v4 (0 : Int32) t5).bind fun t22 =>
  some (t22.1, t22.2)
set_option maxRecDepth 100000 in
theorem f_X7_pull_L23_x {α R : Type} (B : XB) {Q : R → State → Prop} {k : α → Option R} {r : (Int32 × Mem) → Option α} (hE : ∀ t0 : (Int32 × Mem), XE B M_X7_pull Q 80 [(1, some (.int t0.1))] [] (0, 0) SH_M [t0.2] (fun t => (r t).bind k) (some t0)) : ∀ (n : Nat) (v6 : Int32) (v7 : Int32) (v8 : Int32) (w9 : Mem), XE B M_X7_pull Q 23 [(0, some (.ref 0)), (1, some (.int v6)), (2, some (.int v7)), (3, some (.int v8))] [] (0, 0) SH_M [w9] (fun t => (r t).bind k) (f_X7_pull_L23 n v6 v7 v8 w9) := by
  intro n
  induction n with
  | zero => intros; exact XE_none
  | succ n ih =>
    intro v6 v7 v8 w9
    rw [f_X7_pull_L23]
    refine XE_iload_n (n := 24) dX7_pull_23 rfl rfl rfl ?_
    refine XE_aload_n (n := 25) dX7_pull_24 rfl rfl rfl ?_
    refine XE_getf (v := w9 0 0) (n := 28) xf_X7_83 rfl rfl rfl dX7_pull_25 rfl ?_
    refine XE_icmp_ge (t := 80) (n := 31) dX7_pull_28 rfl rfl (fun h21 => ?_) (fun h21 => ?_)
    · refine XE_ls (x_sub_ok (ls' := [(1, some (.int v6))]) ⟨rfl, trivial⟩) ?_
      exact hE (v6, w9)
    · refine XE_aload_n (n := 32) dX7_pull_31 rfl rfl rfl ?_
      refine XE_getr (b := 4) (n := 35) xf_X7_19 rfl rfl dX7_pull_32 rfl ?_
      refine XE_iload_n (n := 36) dX7_pull_35 rfl rfl rfl ?_
      refine XE_iald (row := w9 4) (n := 37) rfl rfl dX7_pull_36 rfl ?_
      refine XE_if_ne (t := 74) (n := 40) dX7_pull_37 rfl rfl (fun h20 => ?_) (fun h20 => ?_)
      · refine XE_aload_n (n := 41) dX7_pull_40 rfl rfl rfl ?_
        refine XE_iload_n (n := 42) dX7_pull_41 rfl rfl rfl ?_
        refine XE_callVi (ni := 1) (As := [.int v8]) (st2 := fun t11 => []) (n := 45) (b := 0) xc_X7_180 (fun l t ht => met_X7_putFirst l w9 v8 t ht) rfl rfl rfl rfl dX7_pull_42 (Nat.le_of_ble_eq_true rfl) ⟨Nat.zero_le _, Nat.zero_le _⟩ (Nat.le_of_ble_eq_true rfl) (Nat.le_of_ble_eq_true rfl) (fun _ => rfl) rfl (fun t11 => ?_)
        refine XE_aload_n (n := 46) dX7_pull_45 rfl rfl rfl ?_
        refine XE_callVi (ni := 0) (As := []) (st2 := fun t12 => [.int t12.1]) (n := 49) (b := 0) xc_X7_274 (fun l t ht => met_X7_lateNow l t11 t ht) rfl rfl rfl rfl dX7_pull_46 (Nat.le_of_ble_eq_true rfl) ⟨Nat.zero_le _, Nat.zero_le _⟩ (Nat.le_of_ble_eq_true rfl) (Nat.le_of_ble_eq_true rfl) (fun _ => rfl) rfl (fun t12 => ?_)
        refine XE_topi (fun v13 => ?_)
        refine XE_istore (i := 4) (n := 51) dX7_pull_49 rfl (Nat.le_of_ble_eq_true rfl) rfl ?_
        refine XE_aload_n (n := 52) dX7_pull_51 rfl rfl rfl ?_
        refine XE_callVi (ni := 0) (As := []) (st2 := fun t14 => []) (n := 55) (b := 0) xc_X7_200 (fun l t ht => met_X7_again l t12.2 t ht) rfl rfl rfl rfl dX7_pull_52 (Nat.le_of_ble_eq_true rfl) ⟨Nat.zero_le _, Nat.zero_le _⟩ (Nat.le_of_ble_eq_true rfl) (Nat.le_of_ble_eq_true rfl) (fun _ => rfl) rfl (fun t14 => ?_)
        refine XE_iload (n := 57) dX7_pull_55 rfl rfl ?_
        refine XE_iload_n (n := 58) dX7_pull_57 rfl rfl rfl ?_
        refine XE_regv (J := 66) (lsJ := fun t17 => [(0, some (.ref 0)), (2, some (.int v7)), (3, some (.int v8)), (4, some (.int v13))]) (stJ := fun t17 => [.int t17]) (hsJ := fun t17 => [t14]) (fun t17 => ?_) (fun hJ15 => ?_)
        · refine XE_istore_n (i := 1) (n := 67) dX7_pull_66 rfl rfl (Nat.le_of_ble_eq_true rfl) rfl ?_
          refine XE_iload_n (n := 68) dX7_pull_67 rfl rfl rfl ?_
          refine XE_iload (n := 70) dX7_pull_68 rfl rfl ?_
          refine XE_callS (ni := 2) (As := [.int v7, .int v13]) (π := []) (co := [0]) (cv := [t14]) (nn := 1) (hs2 := fun t18 => [t14]) (st2 := fun t18 => [.int t18]) (n := 73) xc_X7_97 (fun l t ht => met_X7_least l v7 v13 t ht) rfl rfl rfl dX7_pull_70 (Nat.le_of_ble_eq_true rfl) ⟨Nat.zero_le _, Nat.zero_le _⟩ (Nat.le_of_ble_eq_true rfl) (Nat.le_of_ble_eq_true rfl) ok_40 rfl rfl rfl (fun _ => rfl) (fun _ => rfl) (fun _ => rfl) rfl (fun _ => rfl) rfl (fun t18 => ?_)
          refine XE_istore_n (i := 2) (n := 74) dX7_pull_73 rfl rfl (Nat.le_of_ble_eq_true rfl) rfl ?_
          refine XE_iincl (n := 77) dX7_pull_74 rfl rfl (by decide) (Nat.le_of_ble_eq_true rfl) rfl (fun v19 => ?_)
          refine XE_goto (n := 23) dX7_pull_77 rfl ?_
          refine XE_ls (x_sub_ok (ls' := [(0, some (.ref 0)), (1, some (.int t17)), (2, some (.int t18)), (3, some (.int v19))]) ⟨rfl, rfl, rfl, rfl, trivial⟩) ?_
          exact ih t17 t18 v19 t14
        · refine XE_ltif ?_
          refine XE_icmp_ge (t := 65) (n := 61) dX7_pull_58 rfl rfl (fun h16 => ?_) (fun h16 => ?_)
          · refine XE_iload_n (n := 66) dX7_pull_65 rfl rfl rfl ?_
            refine XE_ls (x_sub_ok (ls' := [(0, some (.ref 0)), (2, some (.int v7)), (3, some (.int v8)), (4, some (.int v13))]) ⟨rfl, rfl, rfl, rfl, trivial⟩) ?_
            exact hJ15 (v6)
          · refine XE_iload_n (n := 62) dX7_pull_61 rfl rfl rfl ?_
            refine XE_goto (n := 66) dX7_pull_62 rfl ?_
            refine XE_ls (x_sub_ok (ls' := [(0, some (.ref 0)), (2, some (.int v7)), (3, some (.int v8)), (4, some (.int v13))]) ⟨rfl, rfl, rfl, rfl, trivial⟩) ?_
            exact hJ15 (v8)
      · refine XE_iincl (n := 77) dX7_pull_74 rfl rfl (by decide) (Nat.le_of_ble_eq_true rfl) rfl (fun v10 => ?_)
        refine XE_goto (n := 23) dX7_pull_77 rfl ?_
        refine XE_ls (x_sub_ok (ls' := [(0, some (.ref 0)), (1, some (.int v6)), (2, some (.int v7)), (3, some (.int v10))]) ⟨rfl, rfl, rfl, rfl, trivial⟩) ?_
        exact ih v6 v7 v10 w9
set_option maxRecDepth 100000 in
theorem xe_X7_pull (B : XB) (m0 : Mem) : XE B M_X7_pull (XQm B 0 0 SH_M) 0 [(0, some (.ref 0))] [] (0, 0) SH_M [m0] (fun t => some (some (.int t.1), [t.2])) (f_X7_pull m0) := by
  unfold f_X7_pull
  refine XE_aload_n (n := 1) dX7_pull_0 rfl rfl rfl ?_
  refine XE_iconst (v := 0) (n := 2) dX7_pull_1 rfl (by decide) ?_
  refine XE_putf (hs2 := fun w1 => [w1]) (n := 5) xf_X7_76 rfl rfl rfl rfl (Nat.le_of_ble_eq_true rfl) (fun _ => rfl) dX7_pull_2 rfl (fun w1 => ?_)
  refine XE_bipush (v := (-9)) (n := 7) dX7_pull_5 rfl (by decide) ?_
  refine XE_istore_n (i := 1) (n := 8) dX7_pull_7 rfl rfl (Nat.le_of_ble_eq_true rfl) rfl ?_
  refine XE_aload_n (n := 9) dX7_pull_8 rfl rfl rfl ?_
  refine XE_callVi (ni := 0) (As := []) (st2 := fun t2 => []) (n := 12) (b := 0) xc_X7_194 (fun l t ht => met_X7_think l w1 t ht) rfl rfl rfl rfl dX7_pull_9 (Nat.le_of_ble_eq_true rfl) ⟨Nat.zero_le _, Nat.zero_le _⟩ (Nat.le_of_ble_eq_true rfl) (Nat.le_of_ble_eq_true rfl) (fun _ => rfl) rfl (fun t2 => ?_)
  refine XE_aload_n (n := 13) dX7_pull_12 rfl rfl rfl ?_
  refine XE_callVi (ni := 0) (As := []) (st2 := fun t3 => [.int t3.1]) (n := 16) (b := 0) xc_X7_274 (fun l t ht => met_X7_lateNow l t2 t ht) rfl rfl rfl rfl dX7_pull_13 (Nat.le_of_ble_eq_true rfl) ⟨Nat.zero_le _, Nat.zero_le _⟩ (Nat.le_of_ble_eq_true rfl) (Nat.le_of_ble_eq_true rfl) (fun _ => rfl) rfl (fun t3 => ?_)
  refine XE_topi (fun v4 => ?_)
  refine XE_istore_n (i := 2) (n := 17) dX7_pull_16 rfl rfl (Nat.le_of_ble_eq_true rfl) rfl ?_
  refine XE_aload_n (n := 18) dX7_pull_17 rfl rfl rfl ?_
  refine XE_callVi (ni := 0) (As := []) (st2 := fun t5 => []) (n := 21) (b := 0) xc_X7_200 (fun l t ht => met_X7_again l t3.2 t ht) rfl rfl rfl rfl dX7_pull_18 (Nat.le_of_ble_eq_true rfl) ⟨Nat.zero_le _, Nat.zero_le _⟩ (Nat.le_of_ble_eq_true rfl) (Nat.le_of_ble_eq_true rfl) (fun _ => rfl) rfl (fun t5 => ?_)
  refine XE_iconst (v := 0) (n := 22) dX7_pull_21 rfl (by decide) ?_
  refine XE_istore_n (i := 3) (n := 23) dX7_pull_22 rfl rfl (Nat.le_of_ble_eq_true rfl) rfl ?_
  refine XE_ls (x_sub_ok (ls' := [(0, some (.ref 0)), (1, some (.int (-9))), (2, some (.int v4)), (3, some (.int 0))]) ⟨rfl, rfl, rfl, rfl, trivial⟩) ?_
  refine XE_reg (J := 80) (lsJ := fun t22 => [(1, some (.int t22.1))]) (stJ := fun t22 => []) (hsJ := fun t22 => [t22.2]) (fun t22 => ?_) (fun hJ23 => f_X7_pull_L23_x B hJ23 6000 ((-9) : Int32) v4 (0 : Int32) t5)
  refine XE_iload_n (n := 81) dX7_pull_80 rfl rfl rfl ?_
  exact XE_ireturn rfl dX7_pull_81 rfl (Nat.le_refl _) (Nat.le_refl _)
theorem met_X7_pull (l : Launch) (m0 : Mem) (t : Int32 × Mem) (ht : f_X7_pull m0 = some t) : XMet l yX7_pull cX7_pull 5 (some .int) 6 0 0 [.ref 0] SH_M [m0] SH_M (some (.int t.1), [t.2]) := XMet.of (by decide +kernel) (fun _ => Nat.le_of_ble_eq_true rfl) (fun B => xe_X7_pull B m0) (by rw [ht]; rfl)
/-! X7_bestSlack: EveryTwentyMinutesModel.bestSlack(I)I in world M at (0,) -/
abbrev M_X7_bestSlack : XM := (RX7, cX7_bestSlack, 6, (some .int), "bestSlack", 6, 0, 0)
def f_X7_bestSlack_L33 : Nat → Int32 → Int32 → Int32 → Mem → Option (Int32 × Int32 × Mem)
  | 0, _, _, _, _ => none
  | n + 1, v4, v5, v6, w7 =>
    if 9 < v6 then
      some (v4, v5, w7)
    else
      lt (xs w7 0 13 v6) fun w8 =>
      (f_X7_lateNow w8).bind fun t9 =>
      (f_X7_meetMany t9.2).bind fun t10 =>
      lt (t9.1 + (5 * t10)) fun v11 =>
      (f_X7_again t9.2).bind fun t12 =>
      lt (if v5 < 0 then
          (v6)
        else
          if v5 ≤ v11 then
            (v4)
          else
            (v6)) fun t16 =>
      if v5 < 0 then
        lt (v6 + 1) fun v17 =>
        (f_X7_bestSlack_L33 n) t16 v11 v17 t12
      else
        if v5 ≤ v11 then
          lt (v6 + 1) fun v18 =>
          (f_X7_bestSlack_L33 n) t16 v5 v18 t12
        else
          lt (v6 + 1) fun v19 =>
          (f_X7_bestSlack_L33 n) t16 v11 v19 t12
def f_X7_bestSlack (m0 : Mem) (a1 : Int32) : Option (Int32 × Mem) :=
  lt (xs m0 0 14 0) fun w1 =>
  (f_X7_in ((a1 : Int32).toInt64) 0 1).bind fun t2 =>
  if t2 = 0 then
    (f_X7_refuse w1 (-2)).bind fun t26 =>
    some (t26.1, t26.2)
  else
    (f_X7_think w1).bind fun t3 =>
    (f_X7_bestSlack_L33 6000 (0 : Int32) ((-1) : Int32) (0 : Int32) t3).bind fun t23 =>
    if a1 = 0 then
      some (t23.1, t23.2.2)
    else
      some (t23.2.1, t23.2.2)
set_option maxRecDepth 100000 in
theorem f_X7_bestSlack_L33_x {α R : Type} (B : XB) {Q : R → State → Prop} {k : α → Option R} {r : (Int32 × Int32 × Mem) → Option α} (a1 : Int32) (hE : ∀ t0 : (Int32 × Int32 × Mem), XE B M_X7_bestSlack Q 103 [(1, some (.int a1)), (2, some (.int t0.1)), (3, some (.int t0.2.1))] [] (0, 0) SH_M [t0.2.2] (fun t => (r t).bind k) (some t0)) : ∀ (n : Nat) (v4 : Int32) (v5 : Int32) (v6 : Int32) (w7 : Mem), XE B M_X7_bestSlack Q 33 [(0, some (.ref 0)), (1, some (.int a1)), (2, some (.int v4)), (3, some (.int v5)), (4, some (.int v6))] [] (0, 0) SH_M [w7] (fun t => (r t).bind k) (f_X7_bestSlack_L33 n v4 v5 v6 w7) := by
  intro n
  induction n with
  | zero => intros; exact XE_none
  | succ n ih =>
    intro v4 v5 v6 w7
    rw [f_X7_bestSlack_L33]
    refine XE_iload (n := 35) dX7_bestSlack_33 rfl rfl ?_
    refine XE_bipush (v := 9) (n := 37) dX7_bestSlack_35 rfl (by decide) ?_
    refine XE_icmp_gt (t := 103) (n := 40) dX7_bestSlack_37 rfl rfl (fun h22 => ?_) (fun h22 => ?_)
    · refine XE_ls (x_sub_ok (ls' := [(1, some (.int a1)), (2, some (.int v4)), (3, some (.int v5))]) ⟨rfl, rfl, rfl, trivial⟩) ?_
      exact hE (v4, v5, w7)
    · refine XE_aload_n (n := 41) dX7_bestSlack_40 rfl rfl rfl ?_
      refine XE_iload (n := 43) dX7_bestSlack_41 rfl rfl ?_
      refine XE_putf (hs2 := fun w8 => [w8]) (n := 46) xf_X7_114 rfl rfl rfl rfl (Nat.le_of_ble_eq_true rfl) (fun _ => rfl) dX7_bestSlack_43 rfl (fun w8 => ?_)
      refine XE_aload_n (n := 47) dX7_bestSlack_46 rfl rfl rfl ?_
      refine XE_callVi (ni := 0) (As := []) (st2 := fun t9 => [.int t9.1]) (n := 50) (b := 0) xc_X7_274 (fun l t ht => met_X7_lateNow l w8 t ht) rfl rfl rfl rfl dX7_bestSlack_47 (Nat.le_of_ble_eq_true rfl) ⟨Nat.zero_le _, Nat.zero_le _⟩ (Nat.le_of_ble_eq_true rfl) (Nat.le_of_ble_eq_true rfl) (fun _ => rfl) rfl (fun t9 => ?_)
      refine XE_iconst (v := 5) (n := 51) dX7_bestSlack_50 rfl (by decide) ?_
      refine XE_aload_n (n := 52) dX7_bestSlack_51 rfl rfl rfl ?_
      refine XE_callVi (ni := 0) (As := []) (st2 := fun t10 => [.int t10, .int 5, .int t9.1]) (n := 55) (b := 0) xc_X7_253 (fun l t ht => met_X7_meetMany l t9.2 t ht) rfl rfl rfl rfl dX7_bestSlack_52 (Nat.le_of_ble_eq_true rfl) ⟨Nat.zero_le _, Nat.zero_le _⟩ (Nat.le_of_ble_eq_true rfl) (Nat.le_of_ble_eq_true rfl) (fun _ => rfl) rfl (fun t10 => ?_)
      refine XE_imul (n := 56) dX7_bestSlack_55 rfl ?_
      refine XE_iadd (n := 57) dX7_bestSlack_56 rfl ?_
      refine XE_topi (fun v11 => ?_)
      refine XE_istore (i := 5) (n := 59) dX7_bestSlack_57 rfl (Nat.le_of_ble_eq_true rfl) rfl ?_
      refine XE_aload_n (n := 60) dX7_bestSlack_59 rfl rfl rfl ?_
      refine XE_callVi (ni := 0) (As := []) (st2 := fun t12 => []) (n := 63) (b := 0) xc_X7_200 (fun l t ht => met_X7_again l t9.2 t ht) rfl rfl rfl rfl dX7_bestSlack_60 (Nat.le_of_ble_eq_true rfl) ⟨Nat.zero_le _, Nat.zero_le _⟩ (Nat.le_of_ble_eq_true rfl) (Nat.le_of_ble_eq_true rfl) (fun _ => rfl) rfl (fun t12 => ?_)
      refine XE_iload_n (n := 64) dX7_bestSlack_63 rfl rfl rfl ?_
      refine XE_regv (J := 79) (lsJ := fun t16 => [(0, some (.ref 0)), (1, some (.int a1)), (3, some (.int v5)), (4, some (.int v6)), (5, some (.int v11))]) (stJ := fun t16 => [.int t16]) (hsJ := fun t16 => [t12]) (fun t16 => ?_) (fun hJ13 => ?_)
      · refine XE_istore_n (i := 2) (n := 80) dX7_bestSlack_79 rfl rfl (Nat.le_of_ble_eq_true rfl) rfl ?_
        refine XE_iload_n (n := 81) dX7_bestSlack_80 rfl rfl rfl ?_
        refine XE_if_lt (t := 90) (n := 84) dX7_bestSlack_81 rfl rfl (fun h21 => ?_) (fun h21 => ?_)
        · refine XE_iload (n := 92) dX7_bestSlack_90 rfl rfl ?_
          refine XE_goto (n := 96) dX7_bestSlack_92 rfl ?_
          refine XE_istore_n (i := 3) (n := 97) dX7_bestSlack_96 rfl rfl (Nat.le_of_ble_eq_true rfl) rfl ?_
          refine XE_iincl (n := 100) dX7_bestSlack_97 rfl rfl (by decide) (Nat.le_of_ble_eq_true rfl) rfl (fun v17 => ?_)
          refine XE_goto (n := 33) dX7_bestSlack_100 rfl ?_
          refine XE_ls (x_sub_ok (ls' := [(0, some (.ref 0)), (1, some (.int a1)), (2, some (.int t16)), (3, some (.int v11)), (4, some (.int v17))]) ⟨rfl, rfl, rfl, rfl, rfl, trivial⟩) ?_
          exact ih t16 v11 v17 t12
        · refine XE_iload (n := 86) dX7_bestSlack_84 rfl rfl ?_
          refine XE_iload_n (n := 87) dX7_bestSlack_86 rfl rfl rfl ?_
          refine XE_icmp_ge (t := 95) (n := 90) dX7_bestSlack_87 rfl rfl (fun h20 => ?_) (fun h20 => ?_)
          · refine XE_iload_n (n := 96) dX7_bestSlack_95 rfl rfl rfl ?_
            refine XE_istore_n (i := 3) (n := 97) dX7_bestSlack_96 rfl rfl (Nat.le_of_ble_eq_true rfl) rfl ?_
            refine XE_iincl (n := 100) dX7_bestSlack_97 rfl rfl (by decide) (Nat.le_of_ble_eq_true rfl) rfl (fun v18 => ?_)
            refine XE_goto (n := 33) dX7_bestSlack_100 rfl ?_
            refine XE_ls (x_sub_ok (ls' := [(0, some (.ref 0)), (1, some (.int a1)), (2, some (.int t16)), (3, some (.int v5)), (4, some (.int v18))]) ⟨rfl, rfl, rfl, rfl, rfl, trivial⟩) ?_
            exact ih t16 v5 v18 t12
          · refine XE_iload (n := 92) dX7_bestSlack_90 rfl rfl ?_
            refine XE_goto (n := 96) dX7_bestSlack_92 rfl ?_
            refine XE_istore_n (i := 3) (n := 97) dX7_bestSlack_96 rfl rfl (Nat.le_of_ble_eq_true rfl) rfl ?_
            refine XE_iincl (n := 100) dX7_bestSlack_97 rfl rfl (by decide) (Nat.le_of_ble_eq_true rfl) rfl (fun v19 => ?_)
            refine XE_goto (n := 33) dX7_bestSlack_100 rfl ?_
            refine XE_ls (x_sub_ok (ls' := [(0, some (.ref 0)), (1, some (.int a1)), (2, some (.int t16)), (3, some (.int v11)), (4, some (.int v19))]) ⟨rfl, rfl, rfl, rfl, rfl, trivial⟩) ?_
            exact ih t16 v11 v19 t12
      · refine XE_ltif ?_
        refine XE_if_lt (t := 73) (n := 67) dX7_bestSlack_64 rfl rfl (fun h15 => ?_) (fun h15 => ?_)
        · refine XE_iload (n := 75) dX7_bestSlack_73 rfl rfl ?_
          refine XE_goto (n := 79) dX7_bestSlack_75 rfl ?_
          refine XE_ls (x_sub_ok (ls' := [(0, some (.ref 0)), (1, some (.int a1)), (3, some (.int v5)), (4, some (.int v6)), (5, some (.int v11))]) ⟨rfl, rfl, rfl, rfl, rfl, trivial⟩) ?_
          exact hJ13 (v6)
        · refine XE_iload (n := 69) dX7_bestSlack_67 rfl rfl ?_
          refine XE_iload_n (n := 70) dX7_bestSlack_69 rfl rfl rfl ?_
          refine XE_ltif ?_
          refine XE_icmp_ge (t := 78) (n := 73) dX7_bestSlack_70 rfl rfl (fun h14 => ?_) (fun h14 => ?_)
          · refine XE_iload_n (n := 79) dX7_bestSlack_78 rfl rfl rfl ?_
            refine XE_ls (x_sub_ok (ls' := [(0, some (.ref 0)), (1, some (.int a1)), (3, some (.int v5)), (4, some (.int v6)), (5, some (.int v11))]) ⟨rfl, rfl, rfl, rfl, rfl, trivial⟩) ?_
            exact hJ13 (v4)
          · refine XE_iload (n := 75) dX7_bestSlack_73 rfl rfl ?_
            refine XE_goto (n := 79) dX7_bestSlack_75 rfl ?_
            refine XE_ls (x_sub_ok (ls' := [(0, some (.ref 0)), (1, some (.int a1)), (3, some (.int v5)), (4, some (.int v6)), (5, some (.int v11))]) ⟨rfl, rfl, rfl, rfl, rfl, trivial⟩) ?_
            exact hJ13 (v6)
set_option maxRecDepth 100000 in
theorem xe_X7_bestSlack (B : XB) (m0 : Mem) (a1 : Int32) : XE B M_X7_bestSlack (XQm B 0 0 SH_M) 0 [(0, some (.ref 0)), (1, some (.int a1))] [] (0, 0) SH_M [m0] (fun t => some (some (.int t.1), [t.2])) (f_X7_bestSlack m0 a1) := by
  unfold f_X7_bestSlack
  refine XE_aload_n (n := 1) dX7_bestSlack_0 rfl rfl rfl ?_
  refine XE_iconst (v := 0) (n := 2) dX7_bestSlack_1 rfl (by decide) ?_
  refine XE_putf (hs2 := fun w1 => [w1]) (n := 5) xf_X7_76 rfl rfl rfl rfl (Nat.le_of_ble_eq_true rfl) (fun _ => rfl) dX7_bestSlack_2 rfl (fun w1 => ?_)
  refine XE_iload_n (n := 6) dX7_bestSlack_5 rfl rfl rfl ?_
  refine XE_i2l (n := 7) dX7_bestSlack_6 rfl ?_
  refine XE_lconst (v := 0) (n := 8) dX7_bestSlack_7 rfl (by decide) ?_
  refine XE_lconst (v := 1) (n := 9) dX7_bestSlack_8 rfl (by decide) ?_
  refine XE_callS (ni := 3) (As := [.long ((a1 : Int32).toInt64), .long 0, .long 1]) (π := []) (co := [0]) (cv := [w1]) (nn := 1) (hs2 := fun t2 => [w1]) (st2 := fun t2 => [.int t2]) (n := 12) xc_X7_86 (fun l t ht => met_X7_in l ((a1 : Int32).toInt64) 0 1 t ht) rfl rfl rfl dX7_bestSlack_9 (Nat.le_of_ble_eq_true rfl) ⟨Nat.zero_le _, Nat.zero_le _⟩ (Nat.le_of_ble_eq_true rfl) (Nat.le_of_ble_eq_true rfl) ok_40 rfl rfl rfl (fun _ => rfl) (fun _ => rfl) (fun _ => rfl) rfl (fun _ => rfl) rfl (fun t2 => ?_)
  refine XE_if_ne (t := 22) (n := 15) dX7_bestSlack_12 rfl rfl (fun h27 => ?_) (fun h27 => ?_)
  · refine XE_aload_n (n := 16) dX7_bestSlack_15 rfl rfl rfl ?_
    refine XE_bipush (v := (-2)) (n := 18) dX7_bestSlack_16 rfl (by decide) ?_
    refine XE_callVi (ni := 1) (As := [.int (-2)]) (st2 := fun t26 => [.int t26.1]) (n := 21) (b := 0) xc_X7_138 (fun l t ht => met_X7_refuse l w1 (-2) t ht) rfl rfl rfl rfl dX7_bestSlack_18 (Nat.le_of_ble_eq_true rfl) ⟨Nat.zero_le _, Nat.zero_le _⟩ (Nat.le_of_ble_eq_true rfl) (Nat.le_of_ble_eq_true rfl) (fun _ => rfl) rfl (fun t26 => ?_)
    exact XE_ireturn rfl dX7_bestSlack_21 rfl (Nat.le_refl _) (Nat.le_refl _)
  · refine XE_iconst (v := 0) (n := 23) dX7_bestSlack_22 rfl (by decide) ?_
    refine XE_istore_n (i := 2) (n := 24) dX7_bestSlack_23 rfl rfl (Nat.le_of_ble_eq_true rfl) rfl ?_
    refine XE_iconst (v := (-1)) (n := 25) dX7_bestSlack_24 rfl (by decide) ?_
    refine XE_istore_n (i := 3) (n := 26) dX7_bestSlack_25 rfl rfl (Nat.le_of_ble_eq_true rfl) rfl ?_
    refine XE_aload_n (n := 27) dX7_bestSlack_26 rfl rfl rfl ?_
    refine XE_callVi (ni := 0) (As := []) (st2 := fun t3 => []) (n := 30) (b := 0) xc_X7_194 (fun l t ht => met_X7_think l w1 t ht) rfl rfl rfl rfl dX7_bestSlack_27 (Nat.le_of_ble_eq_true rfl) ⟨Nat.zero_le _, Nat.zero_le _⟩ (Nat.le_of_ble_eq_true rfl) (Nat.le_of_ble_eq_true rfl) (fun _ => rfl) rfl (fun t3 => ?_)
    refine XE_iconst (v := 0) (n := 31) dX7_bestSlack_30 rfl (by decide) ?_
    refine XE_istore (i := 4) (n := 33) dX7_bestSlack_31 rfl (Nat.le_of_ble_eq_true rfl) rfl ?_
    refine XE_ls (x_sub_ok (ls' := [(0, some (.ref 0)), (1, some (.int a1)), (2, some (.int 0)), (3, some (.int (-1))), (4, some (.int 0))]) ⟨rfl, rfl, rfl, rfl, rfl, trivial⟩) ?_
    refine XE_reg (J := 103) (lsJ := fun t23 => [(1, some (.int a1)), (2, some (.int t23.1)), (3, some (.int t23.2.1))]) (stJ := fun t23 => []) (hsJ := fun t23 => [t23.2.2]) (fun t23 => ?_) (fun hJ25 => f_X7_bestSlack_L33_x B a1 hJ25 6000 (0 : Int32) ((-1) : Int32) (0 : Int32) t3)
    refine XE_iload_n (n := 104) dX7_bestSlack_103 rfl rfl rfl ?_
    refine XE_if_ne (t := 111) (n := 107) dX7_bestSlack_104 rfl rfl (fun h24 => ?_) (fun h24 => ?_)
    · refine XE_iload_n (n := 108) dX7_bestSlack_107 rfl rfl rfl ?_
      refine XE_goto (n := 112) dX7_bestSlack_108 rfl ?_
      exact XE_ireturn rfl dX7_bestSlack_112 rfl (Nat.le_refl _) (Nat.le_refl _)
    · refine XE_iload_n (n := 112) dX7_bestSlack_111 rfl rfl rfl ?_
      exact XE_ireturn rfl dX7_bestSlack_112 rfl (Nat.le_refl _) (Nat.le_refl _)
theorem met_X7_bestSlack (l : Launch) (m0 : Mem) (a1 : Int32) (t : Int32 × Mem) (ht : f_X7_bestSlack m0 a1 = some t) : XMet l yX7_bestSlack cX7_bestSlack 6 (some .int) 6 0 0 [.ref 0, .int a1] SH_M [m0] SH_M (some (.int t.1), [t.2]) := XMet.of (by decide +kernel) (fun _ => Nat.le_of_ble_eq_true rfl) (fun B => xe_X7_bestSlack B m0 a1) (by rw [ht]; rfl)
