/-! X6_saved: EveryTwentyMinutes.saved()I in world X at (0,) -/
abbrev M_X6_saved : XM := (RX6, cX6_saved, 3, (some .int), "saved", 6, 0, 0)
def f_X6_saved (m0 : Mem) (m1 : Mem) (m2 : Mem) : Option (Int32 × Mem × Mem) :=
  if (m1 0 0) = 0 then
    (f_X6_refused m0 (-3)).bind fun t6 =>
    some ((1000000000 - t6.1), t6.2, m2)
  else
    (f_X6_inMind m0 m1 m2).bind fun t1 =>
    (f_X2_allLate t1).bind fun t2 =>
    (f_X6_asNow m0 m1 t1).bind fun t3 =>
    (f_X2_openRooms t3 2).bind fun t4 =>
    (f_X6_lateBy t4).bind fun t5 =>
    some ((t2 - t5.1), m0, t5.2)
set_option maxRecDepth 100000 in
theorem xe_X6_saved (B : XB) (m0 : Mem) (m1 : Mem) (m2 : Mem) (m3 : Mem) (m4 : Mem) (m5 : Mem) (m6 : Mem) (m7 : Mem) (m8 : Mem) (m9 : Mem) (m10 : Mem) (m11 : Mem) (m12 : Mem) (m13 : Mem) (m14 : Mem) (m15 : Mem) (m16 : Mem) : XE B M_X6_saved (XQm B 0 0 SH_X) 0 [(0, some (.ref 0))] [] (0, 0) SH_X [m0, m1, m2, m3, m4, m5, m6, m7, m8, m9, m10, m11, m12, m13, m14, m15, m16] (fun t => some (some (.int t.1), [t.2.1, m1, t.2.2, m3, m4, m5, m6, m7, m8, m9, m10, m11, m12, m13, m14, m15, m16])) (f_X6_saved m0 m1 m2) := by
  unfold f_X6_saved
  refine XE_aload_n (n := 1) dX6_saved_0 rfl rfl rfl ?_
  refine XE_getr (b := 64) (n := 4) xf_X6_10 rfl rfl dX6_saved_1 rfl ?_
  refine XE_getf (v := m1 0 0) (n := 7) xf_X6_148 rfl rfl rfl dX6_saved_4 rfl ?_
  refine XE_if_ne (t := 20) (n := 10) dX6_saved_7 rfl rfl (fun h7 => ?_) (fun h7 => ?_)
  · refine XE_ldc (n := 12) dX6_saved_10 rfl xk_X6_196 ?_
    refine XE_aload_n (n := 13) dX6_saved_12 rfl rfl rfl ?_
    refine XE_bipush (v := (-3)) (n := 15) dX6_saved_13 rfl (by decide) ?_
    refine XE_callVi (ni := 1) (As := [.int (-3)]) (st2 := fun t6 => [.int t6.1, .int 1000000000]) (n := 18) (b := 0) xc_X6_65 (fun l t ht => met_X6_refused l m0 m1 m2 m3 m4 m5 m6 m7 m8 m9 m10 m11 m12 m13 m14 m15 m16 (-3) t ht) rfl rfl rfl rfl dX6_saved_15 (Nat.le_of_ble_eq_true rfl) ⟨Nat.zero_le _, Nat.zero_le _⟩ (Nat.le_of_ble_eq_true rfl) (Nat.le_of_ble_eq_true rfl) (fun _ => rfl) rfl (fun t6 => ?_)
    refine XE_isub (n := 19) dX6_saved_18 rfl ?_
    exact XE_ireturn rfl dX6_saved_19 rfl (Nat.le_refl _) (Nat.le_refl _)
  · refine XE_aload_n (n := 21) dX6_saved_20 rfl rfl rfl ?_
    refine XE_callVi (ni := 0) (As := []) (st2 := fun t1 => [.ref 128]) (n := 24) (b := 0) xc_X6_184 (fun l t ht => met_X6_inMind l m0 m1 m2 m3 m4 m5 m6 m7 m8 m9 m10 m11 m12 m13 m14 m15 m16 t ht) rfl rfl rfl rfl dX6_saved_21 (Nat.le_of_ble_eq_true rfl) ⟨Nat.zero_le _, Nat.zero_le _⟩ (Nat.le_of_ble_eq_true rfl) (Nat.le_of_ble_eq_true rfl) (fun _ => rfl) rfl (fun t1 => ?_)
    refine XE_callV (ni := 0) (As := []) (π := [2]) (co := [0, 1, 3, 4, 5, 6, 7, 8, 9, 10, 11, 12, 13, 14, 15, 16]) (cv := [m0, m1, m3, m4, m5, m6, m7, m8, m9, m10, m11, m12, m13, m14, m15, m16]) (nn := 17) (hs2 := fun t2 => [m0, m1, t1, m3, m4, m5, m6, m7, m8, m9, m10, m11, m12, m13, m14, m15, m16]) (st2 := fun t2 => [.int t2]) (n := 27) (b := 128) xc_X6_200 (fun l t ht => met_X2_allLate l t1 t ht) rfl rfl rfl rfl rfl dX6_saved_24 (Nat.le_of_ble_eq_true rfl) ⟨Nat.zero_le _, Nat.zero_le _⟩ (Nat.le_of_ble_eq_true rfl) (Nat.le_of_ble_eq_true rfl) ok_35 rfl rfl rfl (fun _ => rfl) (fun _ => rfl) (fun _ => rfl) rfl (fun _ => rfl) rfl (fun t2 => ?_)
    refine XE_istore_n (i := 1) (n := 28) dX6_saved_27 rfl rfl (Nat.le_of_ble_eq_true rfl) rfl ?_
    refine XE_aload_n (n := 29) dX6_saved_28 rfl rfl rfl ?_
    refine XE_callVi (ni := 0) (As := []) (st2 := fun t3 => [.ref 128]) (n := 32) (b := 0) xc_X6_80 (fun l t ht => met_X6_asNow l m0 m1 t1 m3 m4 m5 m6 m7 m8 m9 m10 m11 m12 m13 m14 m15 m16 t ht) rfl rfl rfl rfl dX6_saved_29 (Nat.le_of_ble_eq_true rfl) ⟨Nat.zero_le _, Nat.zero_le _⟩ (Nat.le_of_ble_eq_true rfl) (Nat.le_of_ble_eq_true rfl) (fun _ => rfl) rfl (fun t3 => ?_)
    refine XE_astore_n (i := 2) (n := 33) dX6_saved_32 rfl rfl (Nat.le_of_ble_eq_true rfl) rfl ?_
    refine XE_aload_n (n := 34) dX6_saved_33 rfl rfl rfl ?_
    refine XE_iconst (v := 2) (n := 35) dX6_saved_34 rfl (by decide) ?_
    refine XE_callV (ni := 1) (As := [.int 2]) (π := [2]) (co := [0, 1, 3, 4, 5, 6, 7, 8, 9, 10, 11, 12, 13, 14, 15, 16]) (cv := [m0, m1, m3, m4, m5, m6, m7, m8, m9, m10, m11, m12, m13, m14, m15, m16]) (nn := 17) (hs2 := fun t4 => [m0, m1, t4, m3, m4, m5, m6, m7, m8, m9, m10, m11, m12, m13, m14, m15, m16]) (st2 := fun t4 => []) (n := 38) (b := 128) xc_X6_151 (fun l t ht => met_X2_openRooms l t3 2 t ht) rfl rfl rfl rfl rfl dX6_saved_35 (Nat.le_of_ble_eq_true rfl) ⟨Nat.zero_le _, Nat.zero_le _⟩ (Nat.le_of_ble_eq_true rfl) (Nat.le_of_ble_eq_true rfl) ok_35 rfl rfl rfl (fun _ => rfl) (fun _ => rfl) (fun _ => rfl) rfl (fun _ => rfl) rfl (fun t4 => ?_)
    refine XE_iload_n (n := 39) dX6_saved_38 rfl rfl rfl ?_
    refine XE_aload_n (n := 40) dX6_saved_39 rfl rfl rfl ?_
    refine XE_callS (ni := 1) (As := [.ref 128]) (π := [2]) (co := [0, 1, 3, 4, 5, 6, 7, 8, 9, 10, 11, 12, 13, 14, 15, 16]) (cv := [m0, m1, m3, m4, m5, m6, m7, m8, m9, m10, m11, m12, m13, m14, m15, m16]) (nn := 17) (hs2 := fun t5 => [m0, m1, t5.2, m3, m4, m5, m6, m7, m8, m9, m10, m11, m12, m13, m14, m15, m16]) (st2 := fun t5 => [.int t5.1, .int t2]) (n := 43) xc_X6_223 (fun l t ht => met_X6_lateBy l t4 t ht) rfl rfl rfl dX6_saved_40 (Nat.le_of_ble_eq_true rfl) ⟨Nat.zero_le _, Nat.zero_le _⟩ (Nat.le_of_ble_eq_true rfl) (Nat.le_of_ble_eq_true rfl) ok_35 rfl rfl rfl (fun _ => rfl) (fun _ => rfl) (fun _ => rfl) rfl (fun _ => rfl) rfl (fun t5 => ?_)
    refine XE_isub (n := 44) dX6_saved_43 rfl ?_
    exact XE_ireturn rfl dX6_saved_44 rfl (Nat.le_refl _) (Nat.le_refl _)
theorem met_X6_saved (l : Launch) (m0 : Mem) (m1 : Mem) (m2 : Mem) (m3 : Mem) (m4 : Mem) (m5 : Mem) (m6 : Mem) (m7 : Mem) (m8 : Mem) (m9 : Mem) (m10 : Mem) (m11 : Mem) (m12 : Mem) (m13 : Mem) (m14 : Mem) (m15 : Mem) (m16 : Mem) (t : Int32 × Mem × Mem) (ht : f_X6_saved m0 m1 m2 = some t) : XMet l yX6_saved cX6_saved 3 (some .int) 6 0 0 [.ref 0] SH_X [m0, m1, m2, m3, m4, m5, m6, m7, m8, m9, m10, m11, m12, m13, m14, m15, m16] SH_X (some (.int t.1), [t.2.1, m1, t.2.2, m3, m4, m5, m6, m7, m8, m9, m10, m11, m12, m13, m14, m15, m16]) := XMet.of (by decide +kernel) (fun _ => Nat.le_of_ble_eq_true rfl) (fun B => xe_X6_saved B m0 m1 m2 m3 m4 m5 m6 m7 m8 m9 m10 m11 m12 m13 m14 m15 m16) (by rw [ht]; rfl)
/-! X6_can: EveryTwentyMinutes.can(III)I in world X at (0,) -/
abbrev M_X6_can : XM := (RX6, cX6_can, 7, (some .int), "can", 5, 0, 0)
def f_X6_can_J12 (m0 : Mem) (m2 : Mem) : Option (Int32 × Mem × Mem) :=
  (f_X6_refused m0 (-4)).bind fun t1 =>
  some (t1.1, t1.2, m2)
def f_X6_can_J39 (m0 : Mem) (m2 : Mem) : Option (Int32 × Mem × Mem) :=
  (f_X6_refused m0 (-6)).bind fun t2 =>
  some (t2.1, t2.2, m2)
def f_X6_can_L64 (a1 : Int32) (a2 : Int32) (a3 : Int32) (m0 : Mem) (m1 : Mem) : Nat → Int32 → Int32 → Mem → Option (Int32 × Mem)
  | 0, _, _, _ => none
  | n + 1, v4, v5, w6 =>
    if 6 ≤ v5 then
      some (v4, w6)
    else
      (f_X6_asNow m0 m1 w6).bind fun t7 =>
      (f_X2_add t7 v5 a1 a2).bind fun t8 =>
      (f_X2_wedAll t8).bind fun t9 =>
      ck (inb (m1 0 0) 7) <|
      if a3 < (t9 5 (ix (m1 0 0))) then
        lt (v5 + 1) fun v10 =>
        (f_X6_can_L64 a1 a2 a3 m0 m1 n) v4 v10 t9
      else
        lt (v4 ||| (1 <<< (v5 &&& 31))) fun v11 =>
        lt (v5 + 1) fun v12 =>
        (f_X6_can_L64 a1 a2 a3 m0 m1 n) v11 v12 t9
def f_X6_can (m0 : Mem) (m1 : Mem) (m2 : Mem) (a1 : Int32) (a2 : Int32) (a3 : Int32) : Option (Int32 × Mem × Mem) :=
  if a1 < 0 then
    f_X6_can_J12 m0 m2
  else
    if a2 < 0 then
      f_X6_can_J12 m0 m2
    else
      if 0 ≤ a3 then
        if 9 < a1 then
          f_X6_can_J39 m0 m2
        else
          if 240 < a2 then
            f_X6_can_J39 m0 m2
          else
            if a3 ≤ 999 then
              (f_X2_isFull m1).bind fun t3 =>
              if t3 = 0 then
                (f_X6_can_L64 a1 a2 a3 m0 m1 6000 (0 : Int32) (0 : Int32) m2).bind fun t15 =>
                some (t15.1, m0, t15.2)
              else
                some ((0 : Int32), m0, m2)
            else
              f_X6_can_J39 m0 m2
      else
        f_X6_can_J12 m0 m2
set_option maxRecDepth 100000 in
theorem f_X6_can_J12_x (B : XB) (m0 : Mem) (m1 : Mem) (m2 : Mem) (m3 : Mem) (m4 : Mem) (m5 : Mem) (m6 : Mem) (m7 : Mem) (m8 : Mem) (m9 : Mem) (m10 : Mem) (m11 : Mem) (m12 : Mem) (m13 : Mem) (m14 : Mem) (m15 : Mem) (m16 : Mem) : XE B M_X6_can (XQm B 0 0 SH_X) 12 [(0, some (.ref 0))] [] (0, 0) SH_X [m0, m1, m2, m3, m4, m5, m6, m7, m8, m9, m10, m11, m12, m13, m14, m15, m16] (fun t => some (some (.int t.1), [t.2.1, m1, t.2.2, m3, m4, m5, m6, m7, m8, m9, m10, m11, m12, m13, m14, m15, m16])) (f_X6_can_J12 m0 m2) := by
  unfold f_X6_can_J12
  refine XE_aload_n (n := 13) dX6_can_12 rfl rfl rfl ?_
  refine XE_bipush (v := (-4)) (n := 15) dX6_can_13 rfl (by decide) ?_
  refine XE_callVi (ni := 1) (As := [.int (-4)]) (st2 := fun t1 => [.int t1.1]) (n := 18) (b := 0) xc_X6_65 (fun l t ht => met_X6_refused l m0 m1 m2 m3 m4 m5 m6 m7 m8 m9 m10 m11 m12 m13 m14 m15 m16 (-4) t ht) rfl rfl rfl rfl dX6_can_15 (Nat.le_of_ble_eq_true rfl) ⟨Nat.zero_le _, Nat.zero_le _⟩ (Nat.le_of_ble_eq_true rfl) (Nat.le_of_ble_eq_true rfl) (fun _ => rfl) rfl (fun t1 => ?_)
  exact XE_ireturn rfl dX6_can_18 rfl (Nat.le_refl _) (Nat.le_refl _)
set_option maxRecDepth 100000 in
theorem f_X6_can_J39_x (B : XB) (m0 : Mem) (m1 : Mem) (m2 : Mem) (m3 : Mem) (m4 : Mem) (m5 : Mem) (m6 : Mem) (m7 : Mem) (m8 : Mem) (m9 : Mem) (m10 : Mem) (m11 : Mem) (m12 : Mem) (m13 : Mem) (m14 : Mem) (m15 : Mem) (m16 : Mem) : XE B M_X6_can (XQm B 0 0 SH_X) 39 [(0, some (.ref 0))] [] (0, 0) SH_X [m0, m1, m2, m3, m4, m5, m6, m7, m8, m9, m10, m11, m12, m13, m14, m15, m16] (fun t => some (some (.int t.1), [t.2.1, m1, t.2.2, m3, m4, m5, m6, m7, m8, m9, m10, m11, m12, m13, m14, m15, m16])) (f_X6_can_J39 m0 m2) := by
  unfold f_X6_can_J39
  refine XE_aload_n (n := 40) dX6_can_39 rfl rfl rfl ?_
  refine XE_bipush (v := (-6)) (n := 42) dX6_can_40 rfl (by decide) ?_
  refine XE_callVi (ni := 1) (As := [.int (-6)]) (st2 := fun t2 => [.int t2.1]) (n := 45) (b := 0) xc_X6_65 (fun l t ht => met_X6_refused l m0 m1 m2 m3 m4 m5 m6 m7 m8 m9 m10 m11 m12 m13 m14 m15 m16 (-6) t ht) rfl rfl rfl rfl dX6_can_42 (Nat.le_of_ble_eq_true rfl) ⟨Nat.zero_le _, Nat.zero_le _⟩ (Nat.le_of_ble_eq_true rfl) (Nat.le_of_ble_eq_true rfl) (fun _ => rfl) rfl (fun t2 => ?_)
  exact XE_ireturn rfl dX6_can_45 rfl (Nat.le_refl _) (Nat.le_refl _)
set_option maxRecDepth 100000 in
theorem f_X6_can_L64_x {α R : Type} (B : XB) {Q : R → State → Prop} {k : α → Option R} {r : (Int32 × Mem) → Option α} (a1 : Int32) (a2 : Int32) (a3 : Int32) (m0 : Mem) (m1 : Mem) (m3 : Mem) (m4 : Mem) (m5 : Mem) (m6 : Mem) (m7 : Mem) (m8 : Mem) (m9 : Mem) (m10 : Mem) (m11 : Mem) (m12 : Mem) (m13 : Mem) (m14 : Mem) (m15 : Mem) (m16 : Mem) (hE : ∀ t0 : (Int32 × Mem), XE B M_X6_can Q 123 [(4, some (.int t0.1))] [] (0, 0) SH_X [m0, m1, t0.2, m3, m4, m5, m6, m7, m8, m9, m10, m11, m12, m13, m14, m15, m16] (fun t => (r t).bind k) (some t0)) : ∀ (n : Nat) (v4 : Int32) (v5 : Int32) (w6 : Mem), XE B M_X6_can Q 64 [(0, some (.ref 0)), (1, some (.int a1)), (2, some (.int a2)), (3, some (.int a3)), (4, some (.int v4)), (5, some (.int v5))] [] (0, 0) SH_X [m0, m1, w6, m3, m4, m5, m6, m7, m8, m9, m10, m11, m12, m13, m14, m15, m16] (fun t => (r t).bind k) (f_X6_can_L64 a1 a2 a3 m0 m1 n v4 v5 w6) := by
  intro n
  induction n with
  | zero => intros; exact XE_none
  | succ n ih =>
    intro v4 v5 w6
    rw [f_X6_can_L64]
    refine XE_iload (n := 66) dX6_can_64 rfl rfl ?_
    refine XE_bipush (v := 6) (n := 68) dX6_can_66 rfl (by decide) ?_
    refine XE_icmp_ge (t := 123) (n := 71) dX6_can_68 rfl rfl (fun h14 => ?_) (fun h14 => ?_)
    · refine XE_ls (x_sub_ok (ls' := [(4, some (.int v4))]) ⟨rfl, trivial⟩) ?_
      exact hE (v4, w6)
    · refine XE_aload_n (n := 72) dX6_can_71 rfl rfl rfl ?_
      refine XE_callVi (ni := 0) (As := []) (st2 := fun t7 => [.ref 128]) (n := 75) (b := 0) xc_X6_80 (fun l t ht => met_X6_asNow l m0 m1 w6 m3 m4 m5 m6 m7 m8 m9 m10 m11 m12 m13 m14 m15 m16 t ht) rfl rfl rfl rfl dX6_can_72 (Nat.le_of_ble_eq_true rfl) ⟨Nat.zero_le _, Nat.zero_le _⟩ (Nat.le_of_ble_eq_true rfl) (Nat.le_of_ble_eq_true rfl) (fun _ => rfl) rfl (fun t7 => ?_)
      refine XE_astore (i := 6) (n := 77) dX6_can_75 rfl (Nat.le_of_ble_eq_true rfl) rfl ?_
      refine XE_aload (n := 79) dX6_can_77 rfl rfl ?_
      refine XE_iload (n := 81) dX6_can_79 rfl rfl ?_
      refine XE_iload_n (n := 82) dX6_can_81 rfl rfl rfl ?_
      refine XE_iload_n (n := 83) dX6_can_82 rfl rfl rfl ?_
      refine XE_callV (ni := 3) (As := [.int v5, .int a1, .int a2]) (π := [2]) (co := [0, 1, 3, 4, 5, 6, 7, 8, 9, 10, 11, 12, 13, 14, 15, 16]) (cv := [m0, m1, m3, m4, m5, m6, m7, m8, m9, m10, m11, m12, m13, m14, m15, m16]) (nn := 17) (hs2 := fun t8 => [m0, m1, t8, m3, m4, m5, m6, m7, m8, m9, m10, m11, m12, m13, m14, m15, m16]) (st2 := fun t8 => []) (n := 86) (b := 128) xc_X6_144 (fun l t ht => met_X2_add l t7 v5 a1 a2 t ht) rfl rfl rfl rfl rfl dX6_can_83 (Nat.le_of_ble_eq_true rfl) ⟨Nat.zero_le _, Nat.zero_le _⟩ (Nat.le_of_ble_eq_true rfl) (Nat.le_of_ble_eq_true rfl) ok_35 rfl rfl rfl (fun _ => rfl) (fun _ => rfl) (fun _ => rfl) rfl (fun _ => rfl) rfl (fun t8 => ?_)
      refine XE_aload (n := 88) dX6_can_86 rfl rfl ?_
      refine XE_callV (ni := 0) (As := []) (π := [2]) (co := [0, 1, 3, 4, 5, 6, 7, 8, 9, 10, 11, 12, 13, 14, 15, 16]) (cv := [m0, m1, m3, m4, m5, m6, m7, m8, m9, m10, m11, m12, m13, m14, m15, m16]) (nn := 17) (hs2 := fun t9 => [m0, m1, t9, m3, m4, m5, m6, m7, m8, m9, m10, m11, m12, m13, m14, m15, m16]) (st2 := fun t9 => []) (n := 91) (b := 128) xc_X6_226 (fun l t ht => met_X2_wedAll l t8 t ht) rfl rfl rfl rfl rfl dX6_can_88 (Nat.le_of_ble_eq_true rfl) ⟨Nat.zero_le _, Nat.zero_le _⟩ (Nat.le_of_ble_eq_true rfl) (Nat.le_of_ble_eq_true rfl) ok_35 rfl rfl rfl (fun _ => rfl) (fun _ => rfl) (fun _ => rfl) rfl (fun _ => rfl) rfl (fun t9 => ?_)
      refine XE_aload (n := 93) dX6_can_91 rfl rfl ?_
      refine XE_getr (b := 133) (n := 96) xf_X6_161 rfl rfl dX6_can_93 rfl ?_
      refine XE_aload_n (n := 97) dX6_can_96 rfl rfl rfl ?_
      refine XE_getr (b := 64) (n := 100) xf_X6_10 rfl rfl dX6_can_97 rfl ?_
      refine XE_getf (v := m1 0 0) (n := 103) xf_X6_148 rfl rfl rfl dX6_can_100 rfl ?_
      refine XE_iald (row := t9 5) (n := 104) rfl rfl dX6_can_103 rfl ?_
      refine XE_iload_n (n := 105) dX6_can_104 rfl rfl rfl ?_
      refine XE_icmp_gt (t := 117) (n := 108) dX6_can_105 rfl rfl (fun h13 => ?_) (fun h13 => ?_)
      · refine XE_iincl (n := 120) dX6_can_117 rfl rfl (by decide) (Nat.le_of_ble_eq_true rfl) rfl (fun v10 => ?_)
        refine XE_goto (n := 64) dX6_can_120 rfl ?_
        refine XE_ls (x_sub_ok (ls' := [(0, some (.ref 0)), (1, some (.int a1)), (2, some (.int a2)), (3, some (.int a3)), (4, some (.int v4)), (5, some (.int v10))]) ⟨rfl, rfl, rfl, rfl, rfl, rfl, trivial⟩) ?_
        exact ih v4 v10 t9
      · refine XE_iload (n := 110) dX6_can_108 rfl rfl ?_
        refine XE_iconst (v := 1) (n := 111) dX6_can_110 rfl (by decide) ?_
        refine XE_iload (n := 113) dX6_can_111 rfl rfl ?_
        refine XE_ishl (n := 114) dX6_can_113 rfl ?_
        refine XE_ior (n := 115) dX6_can_114 rfl ?_
        refine XE_topi (fun v11 => ?_)
        refine XE_istore (i := 4) (n := 117) dX6_can_115 rfl (Nat.le_of_ble_eq_true rfl) rfl ?_
        refine XE_iincl (n := 120) dX6_can_117 rfl rfl (by decide) (Nat.le_of_ble_eq_true rfl) rfl (fun v12 => ?_)
        refine XE_goto (n := 64) dX6_can_120 rfl ?_
        refine XE_ls (x_sub_ok (ls' := [(0, some (.ref 0)), (1, some (.int a1)), (2, some (.int a2)), (3, some (.int a3)), (4, some (.int v11)), (5, some (.int v12))]) ⟨rfl, rfl, rfl, rfl, rfl, rfl, trivial⟩) ?_
        exact ih v11 v12 t9
set_option maxRecDepth 100000 in
theorem xe_X6_can (B : XB) (m0 : Mem) (m1 : Mem) (m2 : Mem) (m3 : Mem) (m4 : Mem) (m5 : Mem) (m6 : Mem) (m7 : Mem) (m8 : Mem) (m9 : Mem) (m10 : Mem) (m11 : Mem) (m12 : Mem) (m13 : Mem) (m14 : Mem) (m15 : Mem) (m16 : Mem) (a1 : Int32) (a2 : Int32) (a3 : Int32) : XE B M_X6_can (XQm B 0 0 SH_X) 0 [(0, some (.ref 0)), (1, some (.int a1)), (2, some (.int a2)), (3, some (.int a3))] [] (0, 0) SH_X [m0, m1, m2, m3, m4, m5, m6, m7, m8, m9, m10, m11, m12, m13, m14, m15, m16] (fun t => some (some (.int t.1), [t.2.1, m1, t.2.2, m3, m4, m5, m6, m7, m8, m9, m10, m11, m12, m13, m14, m15, m16])) (f_X6_can m0 m1 m2 a1 a2 a3) := by
  unfold f_X6_can
  refine XE_iload_n (n := 1) dX6_can_0 rfl rfl rfl ?_
  refine XE_if_lt (t := 12) (n := 4) dX6_can_1 rfl rfl (fun h23 => ?_) (fun h23 => ?_)
  · refine XE_ls (x_sub_ok (ls' := [(0, some (.ref 0))]) ⟨rfl, trivial⟩) ?_
    exact f_X6_can_J12_x B m0 m1 m2 m3 m4 m5 m6 m7 m8 m9 m10 m11 m12 m13 m14 m15 m16
  · refine XE_iload_n (n := 5) dX6_can_4 rfl rfl rfl ?_
    refine XE_if_lt (t := 12) (n := 8) dX6_can_5 rfl rfl (fun h22 => ?_) (fun h22 => ?_)
    · refine XE_ls (x_sub_ok (ls' := [(0, some (.ref 0))]) ⟨rfl, trivial⟩) ?_
      exact f_X6_can_J12_x B m0 m1 m2 m3 m4 m5 m6 m7 m8 m9 m10 m11 m12 m13 m14 m15 m16
    · refine XE_iload_n (n := 9) dX6_can_8 rfl rfl rfl ?_
      refine XE_if_ge (t := 19) (n := 12) dX6_can_9 rfl rfl (fun h21 => ?_) (fun h21 => ?_)
      · refine XE_iload_n (n := 20) dX6_can_19 rfl rfl rfl ?_
        refine XE_bipush (v := 9) (n := 22) dX6_can_20 rfl (by decide) ?_
        refine XE_icmp_gt (t := 39) (n := 25) dX6_can_22 rfl rfl (fun h20 => ?_) (fun h20 => ?_)
        · refine XE_ls (x_sub_ok (ls' := [(0, some (.ref 0))]) ⟨rfl, trivial⟩) ?_
          exact f_X6_can_J39_x B m0 m1 m2 m3 m4 m5 m6 m7 m8 m9 m10 m11 m12 m13 m14 m15 m16
        · refine XE_iload_n (n := 26) dX6_can_25 rfl rfl rfl ?_
          refine XE_sipush (v := 240) (n := 29) dX6_can_26 rfl (by decide) ?_
          refine XE_icmp_gt (t := 39) (n := 32) dX6_can_29 rfl rfl (fun h19 => ?_) (fun h19 => ?_)
          · refine XE_ls (x_sub_ok (ls' := [(0, some (.ref 0))]) ⟨rfl, trivial⟩) ?_
            exact f_X6_can_J39_x B m0 m1 m2 m3 m4 m5 m6 m7 m8 m9 m10 m11 m12 m13 m14 m15 m16
          · refine XE_iload_n (n := 33) dX6_can_32 rfl rfl rfl ?_
            refine XE_sipush (v := 999) (n := 36) dX6_can_33 rfl (by decide) ?_
            refine XE_icmp_le (t := 46) (n := 39) dX6_can_36 rfl rfl (fun h18 => ?_) (fun h18 => ?_)
            · refine XE_aload_n (n := 47) dX6_can_46 rfl rfl rfl ?_
              refine XE_getr (b := 64) (n := 50) xf_X6_10 rfl rfl dX6_can_47 rfl ?_
              refine XE_callV (ni := 0) (As := []) (π := [1]) (co := [0, 2, 3, 4, 5, 6, 7, 8, 9, 10, 11, 12, 13, 14, 15, 16]) (cv := [m0, m2, m3, m4, m5, m6, m7, m8, m9, m10, m11, m12, m13, m14, m15, m16]) (nn := 17) (hs2 := fun t3 => [m0, m1, m2, m3, m4, m5, m6, m7, m8, m9, m10, m11, m12, m13, m14, m15, m16]) (st2 := fun t3 => [.int t3]) (n := 53) (b := 64) xc_X6_140 (fun l t ht => met_X2_isFull l m1 t ht) rfl rfl rfl rfl rfl dX6_can_50 (Nat.le_of_ble_eq_true rfl) ⟨Nat.zero_le _, Nat.zero_le _⟩ (Nat.le_of_ble_eq_true rfl) (Nat.le_of_ble_eq_true rfl) ok_32 rfl rfl rfl (fun _ => rfl) (fun _ => rfl) (fun _ => rfl) rfl (fun _ => rfl) rfl (fun t3 => ?_)
              refine XE_if_eq (t := 58) (n := 56) dX6_can_53 rfl rfl (fun h17 => ?_) (fun h17 => ?_)
              · refine XE_iconst (v := 0) (n := 59) dX6_can_58 rfl (by decide) ?_
                refine XE_istore (i := 4) (n := 61) dX6_can_59 rfl (Nat.le_of_ble_eq_true rfl) rfl ?_
                refine XE_iconst (v := 0) (n := 62) dX6_can_61 rfl (by decide) ?_
                refine XE_istore (i := 5) (n := 64) dX6_can_62 rfl (Nat.le_of_ble_eq_true rfl) rfl ?_
                refine XE_ls (x_sub_ok (ls' := [(0, some (.ref 0)), (1, some (.int a1)), (2, some (.int a2)), (3, some (.int a3)), (4, some (.int 0)), (5, some (.int 0))]) ⟨rfl, rfl, rfl, rfl, rfl, rfl, trivial⟩) ?_
                refine XE_reg (J := 123) (lsJ := fun t15 => [(4, some (.int t15.1))]) (stJ := fun t15 => []) (hsJ := fun t15 => [m0, m1, t15.2, m3, m4, m5, m6, m7, m8, m9, m10, m11, m12, m13, m14, m15, m16]) (fun t15 => ?_) (fun hJ16 => f_X6_can_L64_x B a1 a2 a3 m0 m1 m3 m4 m5 m6 m7 m8 m9 m10 m11 m12 m13 m14 m15 m16 hJ16 6000 (0 : Int32) (0 : Int32) m2)
                refine XE_iload (n := 125) dX6_can_123 rfl rfl ?_
                exact XE_ireturn rfl dX6_can_125 rfl (Nat.le_refl _) (Nat.le_refl _)
              · refine XE_iconst (v := 0) (n := 57) dX6_can_56 rfl (by decide) ?_
                exact XE_ireturn rfl dX6_can_57 rfl (Nat.le_refl _) (Nat.le_refl _)
            · refine XE_ls (x_sub_ok (ls' := [(0, some (.ref 0))]) ⟨rfl, trivial⟩) ?_
              exact f_X6_can_J39_x B m0 m1 m2 m3 m4 m5 m6 m7 m8 m9 m10 m11 m12 m13 m14 m15 m16
      · refine XE_ls (x_sub_ok (ls' := [(0, some (.ref 0))]) ⟨rfl, trivial⟩) ?_
        exact f_X6_can_J12_x B m0 m1 m2 m3 m4 m5 m6 m7 m8 m9 m10 m11 m12 m13 m14 m15 m16
theorem met_X6_can (l : Launch) (m0 : Mem) (m1 : Mem) (m2 : Mem) (m3 : Mem) (m4 : Mem) (m5 : Mem) (m6 : Mem) (m7 : Mem) (m8 : Mem) (m9 : Mem) (m10 : Mem) (m11 : Mem) (m12 : Mem) (m13 : Mem) (m14 : Mem) (m15 : Mem) (m16 : Mem) (a1 : Int32) (a2 : Int32) (a3 : Int32) (t : Int32 × Mem × Mem) (ht : f_X6_can m0 m1 m2 a1 a2 a3 = some t) : XMet l yX6_can cX6_can 7 (some .int) 5 0 0 [.ref 0, .int a1, .int a2, .int a3] SH_X [m0, m1, m2, m3, m4, m5, m6, m7, m8, m9, m10, m11, m12, m13, m14, m15, m16] SH_X (some (.int t.1), [t.2.1, m1, t.2.2, m3, m4, m5, m6, m7, m8, m9, m10, m11, m12, m13, m14, m15, m16]) := XMet.of (by decide +kernel) (fun _ => Nat.le_of_ble_eq_true rfl) (fun B => xe_X6_can B m0 m1 m2 m3 m4 m5 m6 m7 m8 m9 m10 m11 m12 m13 m14 m15 m16 a1 a2 a3) (by rw [ht]; rfl)
set_option maxRecDepth 100000 in
theorem ok_37 : x_okc [16, 2] SH_FH SH_X = true := by decide +kernel
/-! X6_fountain: EveryTwentyMinutes.fountain(I)I in world X at (0,) -/
abbrev M_X6_fountain : XM := (RX6, cX6_fountain, 2, (some .int), "fountain", 6, 0, 0)
def f_X6_fountain (m0 : Mem) (m1 : Mem) (m2 : Mem) (m16 : Mem) (a1 : Int32) : Option (Int32 × Mem × Mem × Mem) :=
  (f_X2_has m1 a1).bind fun t1 =>
  if t1 = 0 then
    (f_X6_refused m0 (-1)).bind fun t4 =>
    some (t4.1, t4.2, m2, m16)
  else
    (f_X6_inMind m0 m1 m2).bind fun t2 =>
    (f_X1_take m16 t2).bind fun t3 =>
    ck (inb a1 7) <|
    some ((t3 1 (ix a1)), m0, t2, t3)
set_option maxRecDepth 100000 in
theorem xe_X6_fountain (B : XB) (m0 : Mem) (m1 : Mem) (m2 : Mem) (m3 : Mem) (m4 : Mem) (m5 : Mem) (m6 : Mem) (m7 : Mem) (m8 : Mem) (m9 : Mem) (m10 : Mem) (m11 : Mem) (m12 : Mem) (m13 : Mem) (m14 : Mem) (m15 : Mem) (m16 : Mem) (a1 : Int32) : XE B M_X6_fountain (XQm B 0 0 SH_X) 0 [(0, some (.ref 0)), (1, some (.int a1))] [] (0, 0) SH_X [m0, m1, m2, m3, m4, m5, m6, m7, m8, m9, m10, m11, m12, m13, m14, m15, m16] (fun t => some (some (.int t.1), [t.2.1, m1, t.2.2.1, m3, m4, m5, m6, m7, m8, m9, m10, m11, m12, m13, m14, m15, t.2.2.2])) (f_X6_fountain m0 m1 m2 m16 a1) := by
  unfold f_X6_fountain
  refine XE_aload_n (n := 1) dX6_fountain_0 rfl rfl rfl ?_
  refine XE_getr (b := 64) (n := 4) xf_X6_10 rfl rfl dX6_fountain_1 rfl ?_
  refine XE_iload_n (n := 5) dX6_fountain_4 rfl rfl rfl ?_
  refine XE_callV (ni := 1) (As := [.int a1]) (π := [1]) (co := [0, 2, 3, 4, 5, 6, 7, 8, 9, 10, 11, 12, 13, 14, 15, 16]) (cv := [m0, m2, m3, m4, m5, m6, m7, m8, m9, m10, m11, m12, m13, m14, m15, m16]) (nn := 17) (hs2 := fun t1 => [m0, m1, m2, m3, m4, m5, m6, m7, m8, m9, m10, m11, m12, m13, m14, m15, m16]) (st2 := fun t1 => [.int t1]) (n := 8) (b := 64) xc_X6_95 (fun l t ht => met_X2_has l m1 a1 t ht) rfl rfl rfl rfl rfl dX6_fountain_5 (Nat.le_of_ble_eq_true rfl) ⟨Nat.zero_le _, Nat.zero_le _⟩ (Nat.le_of_ble_eq_true rfl) (Nat.le_of_ble_eq_true rfl) ok_32 rfl rfl rfl (fun _ => rfl) (fun _ => rfl) (fun _ => rfl) rfl (fun _ => rfl) rfl (fun t1 => ?_)
  refine XE_if_ne (t := 17) (n := 11) dX6_fountain_8 rfl rfl (fun h5 => ?_) (fun h5 => ?_)
  · refine XE_aload_n (n := 12) dX6_fountain_11 rfl rfl rfl ?_
    refine XE_iconst (v := (-1)) (n := 13) dX6_fountain_12 rfl (by decide) ?_
    refine XE_callVi (ni := 1) (As := [.int (-1)]) (st2 := fun t4 => [.int t4.1]) (n := 16) (b := 0) xc_X6_65 (fun l t ht => met_X6_refused l m0 m1 m2 m3 m4 m5 m6 m7 m8 m9 m10 m11 m12 m13 m14 m15 m16 (-1) t ht) rfl rfl rfl rfl dX6_fountain_13 (Nat.le_of_ble_eq_true rfl) ⟨Nat.zero_le _, Nat.zero_le _⟩ (Nat.le_of_ble_eq_true rfl) (Nat.le_of_ble_eq_true rfl) (fun _ => rfl) rfl (fun t4 => ?_)
    exact XE_ireturn rfl dX6_fountain_16 rfl (Nat.le_refl _) (Nat.le_refl _)
  · refine XE_aload_n (n := 18) dX6_fountain_17 rfl rfl rfl ?_
    refine XE_getr (b := 1024) (n := 21) xf_X6_50 rfl rfl dX6_fountain_18 rfl ?_
    refine XE_aload_n (n := 22) dX6_fountain_21 rfl rfl rfl ?_
    refine XE_callVi (ni := 0) (As := []) (st2 := fun t2 => [.ref 128, .ref 1024]) (n := 25) (b := 0) xc_X6_184 (fun l t ht => met_X6_inMind l m0 m1 m2 m3 m4 m5 m6 m7 m8 m9 m10 m11 m12 m13 m14 m15 m16 t ht) rfl rfl rfl rfl dX6_fountain_22 (Nat.le_of_ble_eq_true rfl) ⟨Nat.zero_le _, Nat.zero_le _⟩ (Nat.le_of_ble_eq_true rfl) (Nat.le_of_ble_eq_true rfl) (fun _ => rfl) rfl (fun t2 => ?_)
    refine XE_callV (ni := 1) (As := [.ref 128]) (π := [16, 2]) (co := [0, 1, 3, 4, 5, 6, 7, 8, 9, 10, 11, 12, 13, 14, 15]) (cv := [m0, m1, m3, m4, m5, m6, m7, m8, m9, m10, m11, m12, m13, m14, m15]) (nn := 17) (hs2 := fun t3 => [m0, m1, t2, m3, m4, m5, m6, m7, m8, m9, m10, m11, m12, m13, m14, m15, t3]) (st2 := fun t3 => []) (n := 28) (b := 1024) xc_X6_229 (fun l t ht => met_X1_take l m16 t2 t ht) rfl rfl rfl rfl rfl dX6_fountain_25 (Nat.le_of_ble_eq_true rfl) ⟨Nat.zero_le _, Nat.zero_le _⟩ (Nat.le_of_ble_eq_true rfl) (Nat.le_of_ble_eq_true rfl) ok_37 rfl rfl rfl (fun _ => rfl) (fun _ => rfl) (fun _ => rfl) rfl (fun _ => rfl) rfl (fun t3 => ?_)
    refine XE_aload_n (n := 29) dX6_fountain_28 rfl rfl rfl ?_
    refine XE_getr (b := 1024) (n := 32) xf_X6_50 rfl rfl dX6_fountain_29 rfl ?_
    refine XE_getr (b := 1025) (n := 35) xf_X6_231 rfl rfl dX6_fountain_32 rfl ?_
    refine XE_iload_n (n := 36) dX6_fountain_35 rfl rfl rfl ?_
    refine XE_iald (row := t3 1) (n := 37) rfl rfl dX6_fountain_36 rfl ?_
    exact XE_ireturn rfl dX6_fountain_37 rfl (Nat.le_refl _) (Nat.le_refl _)
theorem met_X6_fountain (l : Launch) (m0 : Mem) (m1 : Mem) (m2 : Mem) (m3 : Mem) (m4 : Mem) (m5 : Mem) (m6 : Mem) (m7 : Mem) (m8 : Mem) (m9 : Mem) (m10 : Mem) (m11 : Mem) (m12 : Mem) (m13 : Mem) (m14 : Mem) (m15 : Mem) (m16 : Mem) (a1 : Int32) (t : Int32 × Mem × Mem × Mem) (ht : f_X6_fountain m0 m1 m2 m16 a1 = some t) : XMet l yX6_fountain cX6_fountain 2 (some .int) 6 0 0 [.ref 0, .int a1] SH_X [m0, m1, m2, m3, m4, m5, m6, m7, m8, m9, m10, m11, m12, m13, m14, m15, m16] SH_X (some (.int t.1), [t.2.1, m1, t.2.2.1, m3, m4, m5, m6, m7, m8, m9, m10, m11, m12, m13, m14, m15, t.2.2.2]) := XMet.of (by decide +kernel) (fun _ => Nat.le_of_ble_eq_true rfl) (fun B => xe_X6_fountain B m0 m1 m2 m3 m4 m5 m6 m7 m8 m9 m10 m11 m12 m13 m14 m15 m16 a1) (by rw [ht]; rfl)
/-! X6_fountains: EveryTwentyMinutes.fountains(I)I in world X at (0,) -/
abbrev M_X6_fountains : XM := (RX6, cX6_fountains, 2, (some .int), "fountains", 6, 0, 0)
def f_X6_fountains_J16 (m0 : Mem) (m1 : Mem) (m2 : Mem) (m16 : Mem) (v1 : Int32) : Option (Int32 × Mem × Mem × Mem) :=
  (f_X6_inMind m0 m1 m2).bind fun t2 =>
  (f_X1_take m16 t2).bind fun t3 =>
  if v1 = 0 then
    some ((t3 0 1), m0, t2, t3)
  else
    some ((t3 0 2), m0, t2, t3)
def f_X6_fountains (m0 : Mem) (m1 : Mem) (m2 : Mem) (m16 : Mem) (a1 : Int32) : Option (Int32 × Mem × Mem × Mem) :=
  if a1 = 0 then
    f_X6_fountains_J16 m0 m1 m2 m16 a1
  else
    if a1 = 1 then
      f_X6_fountains_J16 m0 m1 m2 m16 a1
    else
      (f_X6_refused m0 (-2)).bind fun t5 =>
      some (t5.1, t5.2, m2, m16)
set_option maxRecDepth 100000 in
theorem f_X6_fountains_J16_x (B : XB) (m0 : Mem) (m1 : Mem) (m2 : Mem) (m3 : Mem) (m4 : Mem) (m5 : Mem) (m6 : Mem) (m7 : Mem) (m8 : Mem) (m9 : Mem) (m10 : Mem) (m11 : Mem) (m12 : Mem) (m13 : Mem) (m14 : Mem) (m15 : Mem) (m16 : Mem) (v1 : Int32) : XE B M_X6_fountains (XQm B 0 0 SH_X) 16 [(0, some (.ref 0)), (1, some (.int v1))] [] (0, 0) SH_X [m0, m1, m2, m3, m4, m5, m6, m7, m8, m9, m10, m11, m12, m13, m14, m15, m16] (fun t => some (some (.int t.1), [t.2.1, m1, t.2.2.1, m3, m4, m5, m6, m7, m8, m9, m10, m11, m12, m13, m14, m15, t.2.2.2])) (f_X6_fountains_J16 m0 m1 m2 m16 v1) := by
  unfold f_X6_fountains_J16
  refine XE_aload_n (n := 17) dX6_fountains_16 rfl rfl rfl ?_
  refine XE_getr (b := 1024) (n := 20) xf_X6_50 rfl rfl dX6_fountains_17 rfl ?_
  refine XE_aload_n (n := 21) dX6_fountains_20 rfl rfl rfl ?_
  refine XE_callVi (ni := 0) (As := []) (st2 := fun t2 => [.ref 128, .ref 1024]) (n := 24) (b := 0) xc_X6_184 (fun l t ht => met_X6_inMind l m0 m1 m2 m3 m4 m5 m6 m7 m8 m9 m10 m11 m12 m13 m14 m15 m16 t ht) rfl rfl rfl rfl dX6_fountains_21 (Nat.le_of_ble_eq_true rfl) ⟨Nat.zero_le _, Nat.zero_le _⟩ (Nat.le_of_ble_eq_true rfl) (Nat.le_of_ble_eq_true rfl) (fun _ => rfl) rfl (fun t2 => ?_)
  refine XE_callV (ni := 1) (As := [.ref 128]) (π := [16, 2]) (co := [0, 1, 3, 4, 5, 6, 7, 8, 9, 10, 11, 12, 13, 14, 15]) (cv := [m0, m1, m3, m4, m5, m6, m7, m8, m9, m10, m11, m12, m13, m14, m15]) (nn := 17) (hs2 := fun t3 => [m0, m1, t2, m3, m4, m5, m6, m7, m8, m9, m10, m11, m12, m13, m14, m15, t3]) (st2 := fun t3 => []) (n := 27) (b := 1024) xc_X6_229 (fun l t ht => met_X1_take l m16 t2 t ht) rfl rfl rfl rfl rfl dX6_fountains_24 (Nat.le_of_ble_eq_true rfl) ⟨Nat.zero_le _, Nat.zero_le _⟩ (Nat.le_of_ble_eq_true rfl) (Nat.le_of_ble_eq_true rfl) ok_37 rfl rfl rfl (fun _ => rfl) (fun _ => rfl) (fun _ => rfl) rfl (fun _ => rfl) rfl (fun t3 => ?_)
  refine XE_iload_n (n := 28) dX6_fountains_27 rfl rfl rfl ?_
  refine XE_if_ne (t := 41) (n := 31) dX6_fountains_28 rfl rfl (fun h4 => ?_) (fun h4 => ?_)
  · refine XE_aload_n (n := 32) dX6_fountains_31 rfl rfl rfl ?_
    refine XE_getr (b := 1024) (n := 35) xf_X6_50 rfl rfl dX6_fountains_32 rfl ?_
    refine XE_getf (v := t3 0 1) (n := 38) xf_X6_232 rfl rfl rfl dX6_fountains_35 rfl ?_
    refine XE_goto (n := 48) dX6_fountains_38 rfl ?_
    exact XE_ireturn rfl dX6_fountains_48 rfl (Nat.le_refl _) (Nat.le_refl _)
  · refine XE_aload_n (n := 42) dX6_fountains_41 rfl rfl rfl ?_
    refine XE_getr (b := 1024) (n := 45) xf_X6_50 rfl rfl dX6_fountains_42 rfl ?_
    refine XE_getf (v := t3 0 2) (n := 48) xf_X6_235 rfl rfl rfl dX6_fountains_45 rfl ?_
    exact XE_ireturn rfl dX6_fountains_48 rfl (Nat.le_refl _) (Nat.le_refl _)
set_option maxRecDepth 100000 in
theorem xe_X6_fountains (B : XB) (m0 : Mem) (m1 : Mem) (m2 : Mem) (m3 : Mem) (m4 : Mem) (m5 : Mem) (m6 : Mem) (m7 : Mem) (m8 : Mem) (m9 : Mem) (m10 : Mem) (m11 : Mem) (m12 : Mem) (m13 : Mem) (m14 : Mem) (m15 : Mem) (m16 : Mem) (a1 : Int32) : XE B M_X6_fountains (XQm B 0 0 SH_X) 0 [(0, some (.ref 0)), (1, some (.int a1))] [] (0, 0) SH_X [m0, m1, m2, m3, m4, m5, m6, m7, m8, m9, m10, m11, m12, m13, m14, m15, m16] (fun t => some (some (.int t.1), [t.2.1, m1, t.2.2.1, m3, m4, m5, m6, m7, m8, m9, m10, m11, m12, m13, m14, m15, t.2.2.2])) (f_X6_fountains m0 m1 m2 m16 a1) := by
  unfold f_X6_fountains
  refine XE_iload_n (n := 1) dX6_fountains_0 rfl rfl rfl ?_
  refine XE_if_eq (t := 16) (n := 4) dX6_fountains_1 rfl rfl (fun h7 => ?_) (fun h7 => ?_)
  · refine XE_ls (x_sub_ok (ls' := [(0, some (.ref 0)), (1, some (.int a1))]) ⟨rfl, rfl, trivial⟩) ?_
    exact f_X6_fountains_J16_x B m0 m1 m2 m3 m4 m5 m6 m7 m8 m9 m10 m11 m12 m13 m14 m15 m16 a1
  · refine XE_iload_n (n := 5) dX6_fountains_4 rfl rfl rfl ?_
    refine XE_iconst (v := 1) (n := 6) dX6_fountains_5 rfl (by decide) ?_
    refine XE_icmp_eq (t := 16) (n := 9) dX6_fountains_6 rfl rfl (fun h6 => ?_) (fun h6 => ?_)
    · refine XE_ls (x_sub_ok (ls' := [(0, some (.ref 0)), (1, some (.int a1))]) ⟨rfl, rfl, trivial⟩) ?_
      exact f_X6_fountains_J16_x B m0 m1 m2 m3 m4 m5 m6 m7 m8 m9 m10 m11 m12 m13 m14 m15 m16 a1
    · refine XE_aload_n (n := 10) dX6_fountains_9 rfl rfl rfl ?_
      refine XE_bipush (v := (-2)) (n := 12) dX6_fountains_10 rfl (by decide) ?_
      refine XE_callVi (ni := 1) (As := [.int (-2)]) (st2 := fun t5 => [.int t5.1]) (n := 15) (b := 0) xc_X6_65 (fun l t ht => met_X6_refused l m0 m1 m2 m3 m4 m5 m6 m7 m8 m9 m10 m11 m12 m13 m14 m15 m16 (-2) t ht) rfl rfl rfl rfl dX6_fountains_12 (Nat.le_of_ble_eq_true rfl) ⟨Nat.zero_le _, Nat.zero_le _⟩ (Nat.le_of_ble_eq_true rfl) (Nat.le_of_ble_eq_true rfl) (fun _ => rfl) rfl (fun t5 => ?_)
      exact XE_ireturn rfl dX6_fountains_15 rfl (Nat.le_refl _) (Nat.le_refl _)
theorem met_X6_fountains (l : Launch) (m0 : Mem) (m1 : Mem) (m2 : Mem) (m3 : Mem) (m4 : Mem) (m5 : Mem) (m6 : Mem) (m7 : Mem) (m8 : Mem) (m9 : Mem) (m10 : Mem) (m11 : Mem) (m12 : Mem) (m13 : Mem) (m14 : Mem) (m15 : Mem) (m16 : Mem) (a1 : Int32) (t : Int32 × Mem × Mem × Mem) (ht : f_X6_fountains m0 m1 m2 m16 a1 = some t) : XMet l yX6_fountains cX6_fountains 2 (some .int) 6 0 0 [.ref 0, .int a1] SH_X [m0, m1, m2, m3, m4, m5, m6, m7, m8, m9, m10, m11, m12, m13, m14, m15, m16] SH_X (some (.int t.1), [t.2.1, m1, t.2.2.1, m3, m4, m5, m6, m7, m8, m9, m10, m11, m12, m13, m14, m15, t.2.2.2]) := XMet.of (by decide +kernel) (fun _ => Nat.le_of_ble_eq_true rfl) (fun B => xe_X6_fountains B m0 m1 m2 m3 m4 m5 m6 m7 m8 m9 m10 m11 m12 m13 m14 m15 m16 a1) (by rw [ht]; rfl)
/-! X6_inside: EveryTwentyMinutes.inside(I)I in world X at (0,) -/
abbrev M_X6_inside : XM := (RX6, cX6_inside, 2, (some .int), "inside", 6, 0, 0)
def f_X6_inside (m0 : Mem) (m1 : Mem) (m2 : Mem) (a1 : Int32) : Option (Int32 × Mem × Mem) :=
  if 0 ≤ a1 then
    if a1 ≤ 999 then
      (f_X6_inMind m0 m1 m2).bind fun t1 =>
      (f_X2_guestsAt t1 a1).bind fun t2 =>
      some (t2, m0, t1)
    else
      (f_X6_refused m0 (-6)).bind fun t3 =>
      some (t3.1, t3.2, m2)
  else
    (f_X6_refused m0 (-4)).bind fun t5 =>
    some (t5.1, t5.2, m2)
set_option maxRecDepth 100000 in
theorem xe_X6_inside (B : XB) (m0 : Mem) (m1 : Mem) (m2 : Mem) (m3 : Mem) (m4 : Mem) (m5 : Mem) (m6 : Mem) (m7 : Mem) (m8 : Mem) (m9 : Mem) (m10 : Mem) (m11 : Mem) (m12 : Mem) (m13 : Mem) (m14 : Mem) (m15 : Mem) (m16 : Mem) (a1 : Int32) : XE B M_X6_inside (XQm B 0 0 SH_X) 0 [(0, some (.ref 0)), (1, some (.int a1))] [] (0, 0) SH_X [m0, m1, m2, m3, m4, m5, m6, m7, m8, m9, m10, m11, m12, m13, m14, m15, m16] (fun t => some (some (.int t.1), [t.2.1, m1, t.2.2, m3, m4, m5, m6, m7, m8, m9, m10, m11, m12, m13, m14, m15, m16])) (f_X6_inside m0 m1 m2 a1) := by
  unfold f_X6_inside
  refine XE_iload_n (n := 1) dX6_inside_0 rfl rfl rfl ?_
  refine XE_if_ge (t := 11) (n := 4) dX6_inside_1 rfl rfl (fun h6 => ?_) (fun h6 => ?_)
  · refine XE_iload_n (n := 12) dX6_inside_11 rfl rfl rfl ?_
    refine XE_sipush (v := 999) (n := 15) dX6_inside_12 rfl (by decide) ?_
    refine XE_icmp_le (t := 25) (n := 18) dX6_inside_15 rfl rfl (fun h4 => ?_) (fun h4 => ?_)
    · refine XE_aload_n (n := 26) dX6_inside_25 rfl rfl rfl ?_
      refine XE_callVi (ni := 0) (As := []) (st2 := fun t1 => [.ref 128]) (n := 29) (b := 0) xc_X6_184 (fun l t ht => met_X6_inMind l m0 m1 m2 m3 m4 m5 m6 m7 m8 m9 m10 m11 m12 m13 m14 m15 m16 t ht) rfl rfl rfl rfl dX6_inside_26 (Nat.le_of_ble_eq_true rfl) ⟨Nat.zero_le _, Nat.zero_le _⟩ (Nat.le_of_ble_eq_true rfl) (Nat.le_of_ble_eq_true rfl) (fun _ => rfl) rfl (fun t1 => ?_)
      refine XE_iload_n (n := 30) dX6_inside_29 rfl rfl rfl ?_
      refine XE_callV (ni := 1) (As := [.int a1]) (π := [2]) (co := [0, 1, 3, 4, 5, 6, 7, 8, 9, 10, 11, 12, 13, 14, 15, 16]) (cv := [m0, m1, m3, m4, m5, m6, m7, m8, m9, m10, m11, m12, m13, m14, m15, m16]) (nn := 17) (hs2 := fun t2 => [m0, m1, t1, m3, m4, m5, m6, m7, m8, m9, m10, m11, m12, m13, m14, m15, m16]) (st2 := fun t2 => [.int t2]) (n := 33) (b := 128) xc_X6_238 (fun l t ht => met_X2_guestsAt l t1 a1 t ht) rfl rfl rfl rfl rfl dX6_inside_30 (Nat.le_of_ble_eq_true rfl) ⟨Nat.zero_le _, Nat.zero_le _⟩ (Nat.le_of_ble_eq_true rfl) (Nat.le_of_ble_eq_true rfl) ok_35 rfl rfl rfl (fun _ => rfl) (fun _ => rfl) (fun _ => rfl) rfl (fun _ => rfl) rfl (fun t2 => ?_)
      exact XE_ireturn rfl dX6_inside_33 rfl (Nat.le_refl _) (Nat.le_refl _)
    · refine XE_aload_n (n := 19) dX6_inside_18 rfl rfl rfl ?_
      refine XE_bipush (v := (-6)) (n := 21) dX6_inside_19 rfl (by decide) ?_
      refine XE_callVi (ni := 1) (As := [.int (-6)]) (st2 := fun t3 => [.int t3.1]) (n := 24) (b := 0) xc_X6_65 (fun l t ht => met_X6_refused l m0 m1 m2 m3 m4 m5 m6 m7 m8 m9 m10 m11 m12 m13 m14 m15 m16 (-6) t ht) rfl rfl rfl rfl dX6_inside_21 (Nat.le_of_ble_eq_true rfl) ⟨Nat.zero_le _, Nat.zero_le _⟩ (Nat.le_of_ble_eq_true rfl) (Nat.le_of_ble_eq_true rfl) (fun _ => rfl) rfl (fun t3 => ?_)
      exact XE_ireturn rfl dX6_inside_24 rfl (Nat.le_refl _) (Nat.le_refl _)
  · refine XE_aload_n (n := 5) dX6_inside_4 rfl rfl rfl ?_
    refine XE_bipush (v := (-4)) (n := 7) dX6_inside_5 rfl (by decide) ?_
    refine XE_callVi (ni := 1) (As := [.int (-4)]) (st2 := fun t5 => [.int t5.1]) (n := 10) (b := 0) xc_X6_65 (fun l t ht => met_X6_refused l m0 m1 m2 m3 m4 m5 m6 m7 m8 m9 m10 m11 m12 m13 m14 m15 m16 (-4) t ht) rfl rfl rfl rfl dX6_inside_7 (Nat.le_of_ble_eq_true rfl) ⟨Nat.zero_le _, Nat.zero_le _⟩ (Nat.le_of_ble_eq_true rfl) (Nat.le_of_ble_eq_true rfl) (fun _ => rfl) rfl (fun t5 => ?_)
    exact XE_ireturn rfl dX6_inside_10 rfl (Nat.le_refl _) (Nat.le_refl _)
theorem met_X6_inside (l : Launch) (m0 : Mem) (m1 : Mem) (m2 : Mem) (m3 : Mem) (m4 : Mem) (m5 : Mem) (m6 : Mem) (m7 : Mem) (m8 : Mem) (m9 : Mem) (m10 : Mem) (m11 : Mem) (m12 : Mem) (m13 : Mem) (m14 : Mem) (m15 : Mem) (m16 : Mem) (a1 : Int32) (t : Int32 × Mem × Mem) (ht : f_X6_inside m0 m1 m2 a1 = some t) : XMet l yX6_inside cX6_inside 2 (some .int) 6 0 0 [.ref 0, .int a1] SH_X [m0, m1, m2, m3, m4, m5, m6, m7, m8, m9, m10, m11, m12, m13, m14, m15, m16] SH_X (some (.int t.1), [t.2.1, m1, t.2.2, m3, m4, m5, m6, m7, m8, m9, m10, m11, m12, m13, m14, m15, m16]) := XMet.of (by decide +kernel) (fun _ => Nat.le_of_ble_eq_true rfl) (fun B => xe_X6_inside B m0 m1 m2 m3 m4 m5 m6 m7 m8 m9 m10 m11 m12 m13 m14 m15 m16 a1) (by rw [ht]; rfl)
/-! X6_crowded: EveryTwentyMinutes.crowded()I in world X at (0,) -/
abbrev M_X6_crowded : XM := (RX6, cX6_crowded, 6, (some .int), "crowded", 6, 0, 0)
def f_X6_crowded_L12 (t1 : (Mem)) : Nat → Int32 → Int32 → Int32 → Option (Int32)
  | 0, _, _, _ => none
  | n + 1, v2, v3, v4 =>
    if 999 < v4 then
      some (v3)
    else
      (f_X2_guestsAt t1 v4).bind fun t5 =>
      if t5 ≤ v2 then
        lt (v4 + 1) fun v6 =>
        (f_X6_crowded_L12 t1 n) v2 v3 v6
      else
        lt (v4 + 1) fun v7 =>
        (f_X6_crowded_L12 t1 n) t5 v4 v7
def f_X6_crowded (m0 : Mem) (m1 : Mem) (m2 : Mem) : Option (Int32 × Mem) :=
  (f_X6_inMind m0 m1 m2).bind fun t1 =>
  (f_X6_crowded_L12 t1 6000 (0 : Int32) (0 : Int32) (0 : Int32)).bind fun t10 =>
  some (t10, t1)
set_option maxRecDepth 100000 in
theorem f_X6_crowded_L12_x {α R : Type} (B : XB) {Q : R → State → Prop} {k : α → Option R} {r : (Int32) → Option α} (m0 : Mem) (m1 : Mem) (m3 : Mem) (m4 : Mem) (m5 : Mem) (m6 : Mem) (m7 : Mem) (m8 : Mem) (m9 : Mem) (m10 : Mem) (m11 : Mem) (m12 : Mem) (m13 : Mem) (m14 : Mem) (m15 : Mem) (m16 : Mem) (t1 : (Mem)) (hE : ∀ t0 : (Int32), XE B M_X6_crowded Q 46 [(3, some (.int t0))] [] (0, 0) SH_X [m0, m1, t1, m3, m4, m5, m6, m7, m8, m9, m10, m11, m12, m13, m14, m15, m16] (fun t => (r t).bind k) (some t0)) : ∀ (n : Nat) (v2 : Int32) (v3 : Int32) (v4 : Int32), XE B M_X6_crowded Q 12 [(1, some (.ref 128)), (2, some (.int v2)), (3, some (.int v3)), (4, some (.int v4))] [] (0, 0) SH_X [m0, m1, t1, m3, m4, m5, m6, m7, m8, m9, m10, m11, m12, m13, m14, m15, m16] (fun t => (r t).bind k) (f_X6_crowded_L12 t1 n v2 v3 v4) := by
  intro n
  induction n with
  | zero => intros; exact XE_none
  | succ n ih =>
    intro v2 v3 v4
    rw [f_X6_crowded_L12]
    refine XE_iload (n := 14) dX6_crowded_12 rfl rfl ?_
    refine XE_sipush (v := 999) (n := 17) dX6_crowded_14 rfl (by decide) ?_
    refine XE_icmp_gt (t := 46) (n := 20) dX6_crowded_17 rfl rfl (fun h9 => ?_) (fun h9 => ?_)
    · refine XE_ls (x_sub_ok (ls' := [(3, some (.int v3))]) ⟨rfl, trivial⟩) ?_
      exact hE (v3)
    · refine XE_aload_n (n := 21) dX6_crowded_20 rfl rfl rfl ?_
      refine XE_iload (n := 23) dX6_crowded_21 rfl rfl ?_
      refine XE_callV (ni := 1) (As := [.int v4]) (π := [2]) (co := [0, 1, 3, 4, 5, 6, 7, 8, 9, 10, 11, 12, 13, 14, 15, 16]) (cv := [m0, m1, m3, m4, m5, m6, m7, m8, m9, m10, m11, m12, m13, m14, m15, m16]) (nn := 17) (hs2 := fun t5 => [m0, m1, t1, m3, m4, m5, m6, m7, m8, m9, m10, m11, m12, m13, m14, m15, m16]) (st2 := fun t5 => [.int t5]) (n := 26) (b := 128) xc_X6_238 (fun l t ht => met_X2_guestsAt l t1 v4 t ht) rfl rfl rfl rfl rfl dX6_crowded_23 (Nat.le_of_ble_eq_true rfl) ⟨Nat.zero_le _, Nat.zero_le _⟩ (Nat.le_of_ble_eq_true rfl) (Nat.le_of_ble_eq_true rfl) ok_35 rfl rfl rfl (fun _ => rfl) (fun _ => rfl) (fun _ => rfl) rfl (fun _ => rfl) rfl (fun t5 => ?_)
      refine XE_istore (i := 5) (n := 28) dX6_crowded_26 rfl (Nat.le_of_ble_eq_true rfl) rfl ?_
      refine XE_iload (n := 30) dX6_crowded_28 rfl rfl ?_
      refine XE_iload_n (n := 31) dX6_crowded_30 rfl rfl rfl ?_
      refine XE_icmp_le (t := 40) (n := 34) dX6_crowded_31 rfl rfl (fun h8 => ?_) (fun h8 => ?_)
      · refine XE_iincl (n := 43) dX6_crowded_40 rfl rfl (by decide) (Nat.le_of_ble_eq_true rfl) rfl (fun v6 => ?_)
        refine XE_goto (n := 12) dX6_crowded_43 rfl ?_
        refine XE_ls (x_sub_ok (ls' := [(1, some (.ref 128)), (2, some (.int v2)), (3, some (.int v3)), (4, some (.int v6))]) ⟨rfl, rfl, rfl, rfl, trivial⟩) ?_
        exact ih v2 v3 v6
      · refine XE_iload (n := 36) dX6_crowded_34 rfl rfl ?_
        refine XE_istore_n (i := 2) (n := 37) dX6_crowded_36 rfl rfl (Nat.le_of_ble_eq_true rfl) rfl ?_
        refine XE_iload (n := 39) dX6_crowded_37 rfl rfl ?_
        refine XE_istore_n (i := 3) (n := 40) dX6_crowded_39 rfl rfl (Nat.le_of_ble_eq_true rfl) rfl ?_
        refine XE_iincl (n := 43) dX6_crowded_40 rfl rfl (by decide) (Nat.le_of_ble_eq_true rfl) rfl (fun v7 => ?_)
        refine XE_goto (n := 12) dX6_crowded_43 rfl ?_
        refine XE_ls (x_sub_ok (ls' := [(1, some (.ref 128)), (2, some (.int t5)), (3, some (.int v4)), (4, some (.int v7))]) ⟨rfl, rfl, rfl, rfl, trivial⟩) ?_
        exact ih t5 v4 v7
set_option maxRecDepth 100000 in
theorem xe_X6_crowded (B : XB) (m0 : Mem) (m1 : Mem) (m2 : Mem) (m3 : Mem) (m4 : Mem) (m5 : Mem) (m6 : Mem) (m7 : Mem) (m8 : Mem) (m9 : Mem) (m10 : Mem) (m11 : Mem) (m12 : Mem) (m13 : Mem) (m14 : Mem) (m15 : Mem) (m16 : Mem) : XE B M_X6_crowded (XQm B 0 0 SH_X) 0 [(0, some (.ref 0))] [] (0, 0) SH_X [m0, m1, m2, m3, m4, m5, m6, m7, m8, m9, m10, m11, m12, m13, m14, m15, m16] (fun t => some (some (.int t.1), [m0, m1, t.2, m3, m4, m5, m6, m7, m8, m9, m10, m11, m12, m13, m14, m15, m16])) (f_X6_crowded m0 m1 m2) := by
  unfold f_X6_crowded
  refine XE_aload_n (n := 1) dX6_crowded_0 rfl rfl rfl ?_
  refine XE_callVi (ni := 0) (As := []) (st2 := fun t1 => [.ref 128]) (n := 4) (b := 0) xc_X6_184 (fun l t ht => met_X6_inMind l m0 m1 m2 m3 m4 m5 m6 m7 m8 m9 m10 m11 m12 m13 m14 m15 m16 t ht) rfl rfl rfl rfl dX6_crowded_1 (Nat.le_of_ble_eq_true rfl) ⟨Nat.zero_le _, Nat.zero_le _⟩ (Nat.le_of_ble_eq_true rfl) (Nat.le_of_ble_eq_true rfl) (fun _ => rfl) rfl (fun t1 => ?_)
  refine XE_astore_n (i := 1) (n := 5) dX6_crowded_4 rfl rfl (Nat.le_of_ble_eq_true rfl) rfl ?_
  refine XE_iconst (v := 0) (n := 6) dX6_crowded_5 rfl (by decide) ?_
  refine XE_istore_n (i := 2) (n := 7) dX6_crowded_6 rfl rfl (Nat.le_of_ble_eq_true rfl) rfl ?_
  refine XE_iconst (v := 0) (n := 8) dX6_crowded_7 rfl (by decide) ?_
  refine XE_istore_n (i := 3) (n := 9) dX6_crowded_8 rfl rfl (Nat.le_of_ble_eq_true rfl) rfl ?_
  refine XE_iconst (v := 0) (n := 10) dX6_crowded_9 rfl (by decide) ?_
  refine XE_istore (i := 4) (n := 12) dX6_crowded_10 rfl (Nat.le_of_ble_eq_true rfl) rfl ?_
  refine XE_ls (x_sub_ok (ls' := [(1, some (.ref 128)), (2, some (.int 0)), (3, some (.int 0)), (4, some (.int 0))]) ⟨rfl, rfl, rfl, rfl, trivial⟩) ?_
  refine XE_reg (J := 46) (lsJ := fun t10 => [(3, some (.int t10))]) (stJ := fun t10 => []) (hsJ := fun t10 => [m0, m1, t1, m3, m4, m5, m6, m7, m8, m9, m10, m11, m12, m13, m14, m15, m16]) (fun t10 => ?_) (fun hJ11 => f_X6_crowded_L12_x B m0 m1 m3 m4 m5 m6 m7 m8 m9 m10 m11 m12 m13 m14 m15 m16 t1 hJ11 6000 (0 : Int32) (0 : Int32) (0 : Int32))
  refine XE_iload_n (n := 47) dX6_crowded_46 rfl rfl rfl ?_
  exact XE_ireturn rfl dX6_crowded_47 rfl (Nat.le_refl _) (Nat.le_refl _)
theorem met_X6_crowded (l : Launch) (m0 : Mem) (m1 : Mem) (m2 : Mem) (m3 : Mem) (m4 : Mem) (m5 : Mem) (m6 : Mem) (m7 : Mem) (m8 : Mem) (m9 : Mem) (m10 : Mem) (m11 : Mem) (m12 : Mem) (m13 : Mem) (m14 : Mem) (m15 : Mem) (m16 : Mem) (t : Int32 × Mem) (ht : f_X6_crowded m0 m1 m2 = some t) : XMet l yX6_crowded cX6_crowded 6 (some .int) 6 0 0 [.ref 0] SH_X [m0, m1, m2, m3, m4, m5, m6, m7, m8, m9, m10, m11, m12, m13, m14, m15, m16] SH_X (some (.int t.1), [m0, m1, t.2, m3, m4, m5, m6, m7, m8, m9, m10, m11, m12, m13, m14, m15, m16]) := XMet.of (by decide +kernel) (fun _ => Nat.le_of_ble_eq_true rfl) (fun B => xe_X6_crowded B m0 m1 m2 m3 m4 m5 m6 m7 m8 m9 m10 m11 m12 m13 m14 m15 m16) (by rw [ht]; rfl)
/-! X6_price: EveryTwentyMinutes.price(I)I in world X at (0,) -/
abbrev M_X6_price : XM := (RX6, cX6_price, 4, (some .int), "price", 2, 0, 0)
def f_X6_price_L30 (a1 : Int32) (m1 : Mem) : Nat → Int32 → Int32 → Option (Int32)
  | 0, _, _ => none
  | n + 1, v1, v2 =>
    if (m1 0 0) ≤ v2 then
      some (v1)
    else
      ck (inb v2 7) <|
      if 20 ≤ (iabs ((m1 3 (ix v2)) - a1)) then
        lt (v2 + 1) fun v3 =>
        (f_X6_price_L30 a1 m1 n) v1 v3
      else
        lt (v1 + 10) fun v4 =>
        lt (v2 + 1) fun v5 =>
        (f_X6_price_L30 a1 m1 n) v4 v5
def f_X6_price (m0 : Mem) (m1 : Mem) (a1 : Int32) : Option (Int32 × Mem) :=
  if 0 ≤ a1 then
    if a1 ≤ 999 then
      (f_X6_price_L30 a1 m1 6000 (20 : Int32) (0 : Int32)).bind fun t8 =>
      some (t8, m0)
    else
      (f_X6_refused m0 (-6)).bind fun t10 =>
      some (t10.1, t10.2)
  else
    (f_X6_refused m0 (-4)).bind fun t12 =>
    some (t12.1, t12.2)
set_option maxRecDepth 100000 in
theorem f_X6_price_L30_x {α R : Type} (B : XB) {Q : R → State → Prop} {k : α → Option R} {r : (Int32) → Option α} (a1 : Int32) (m0 : Mem) (m1 : Mem) (m2 : Mem) (m3 : Mem) (m4 : Mem) (m5 : Mem) (m6 : Mem) (m7 : Mem) (m8 : Mem) (m9 : Mem) (m10 : Mem) (m11 : Mem) (m12 : Mem) (m13 : Mem) (m14 : Mem) (m15 : Mem) (m16 : Mem) (hE : ∀ t0 : (Int32), XE B M_X6_price Q 69 [(2, some (.int t0))] [] (0, 0) SH_X [m0, m1, m2, m3, m4, m5, m6, m7, m8, m9, m10, m11, m12, m13, m14, m15, m16] (fun t => (r t).bind k) (some t0)) : ∀ (n : Nat) (v1 : Int32) (v2 : Int32), XE B M_X6_price Q 30 [(0, some (.ref 0)), (1, some (.int a1)), (2, some (.int v1)), (3, some (.int v2))] [] (0, 0) SH_X [m0, m1, m2, m3, m4, m5, m6, m7, m8, m9, m10, m11, m12, m13, m14, m15, m16] (fun t => (r t).bind k) (f_X6_price_L30 a1 m1 n v1 v2) := by
  intro n
  induction n with
  | zero => intros; exact XE_none
  | succ n ih =>
    intro v1 v2
    rw [f_X6_price_L30]
    refine XE_iload_n (n := 31) dX6_price_30 rfl rfl rfl ?_
    refine XE_aload_n (n := 32) dX6_price_31 rfl rfl rfl ?_
    refine XE_getr (b := 64) (n := 35) xf_X6_10 rfl rfl dX6_price_32 rfl ?_
    refine XE_getf (v := m1 0 0) (n := 38) xf_X6_148 rfl rfl rfl dX6_price_35 rfl ?_
    refine XE_icmp_ge (t := 69) (n := 41) dX6_price_38 rfl rfl (fun h7 => ?_) (fun h7 => ?_)
    · refine XE_ls (x_sub_ok (ls' := [(2, some (.int v1))]) ⟨rfl, trivial⟩) ?_
      exact hE (v1)
    · refine XE_aload_n (n := 42) dX6_price_41 rfl rfl rfl ?_
      refine XE_getr (b := 64) (n := 45) xf_X6_10 rfl rfl dX6_price_42 rfl ?_
      refine XE_getr (b := 67) (n := 48) xf_X6_104 rfl rfl dX6_price_45 rfl ?_
      refine XE_iload_n (n := 49) dX6_price_48 rfl rfl rfl ?_
      refine XE_iald (row := m1 3) (n := 50) rfl rfl dX6_price_49 rfl ?_
      refine XE_iload_n (n := 51) dX6_price_50 rfl rfl rfl ?_
      refine XE_isub (n := 52) dX6_price_51 rfl ?_
      refine XE_mabs (n := 55) xp_X6_241 rfl (Nat.le_of_ble_eq_true rfl) (Nat.le_of_ble_eq_true rfl) dX6_price_52 rfl ?_
      refine XE_bipush (v := 20) (n := 57) dX6_price_55 rfl (by decide) ?_
      refine XE_icmp_ge (t := 63) (n := 60) dX6_price_57 rfl rfl (fun h6 => ?_) (fun h6 => ?_)
      · refine XE_iincl (n := 66) dX6_price_63 rfl rfl (by decide) (Nat.le_of_ble_eq_true rfl) rfl (fun v3 => ?_)
        refine XE_goto (n := 30) dX6_price_66 rfl ?_
        refine XE_ls (x_sub_ok (ls' := [(0, some (.ref 0)), (1, some (.int a1)), (2, some (.int v1)), (3, some (.int v3))]) ⟨rfl, rfl, rfl, rfl, trivial⟩) ?_
        exact ih v1 v3
      · refine XE_iincl (n := 63) dX6_price_60 rfl rfl (by decide) (Nat.le_of_ble_eq_true rfl) rfl (fun v4 => ?_)
        refine XE_iincl (n := 66) dX6_price_63 rfl rfl (by decide) (Nat.le_of_ble_eq_true rfl) rfl (fun v5 => ?_)
        refine XE_goto (n := 30) dX6_price_66 rfl ?_
        refine XE_ls (x_sub_ok (ls' := [(0, some (.ref 0)), (1, some (.int a1)), (2, some (.int v4)), (3, some (.int v5))]) ⟨rfl, rfl, rfl, rfl, trivial⟩) ?_
        exact ih v4 v5
set_option maxRecDepth 100000 in
theorem xe_X6_price (B : XB) (m0 : Mem) (m1 : Mem) (m2 : Mem) (m3 : Mem) (m4 : Mem) (m5 : Mem) (m6 : Mem) (m7 : Mem) (m8 : Mem) (m9 : Mem) (m10 : Mem) (m11 : Mem) (m12 : Mem) (m13 : Mem) (m14 : Mem) (m15 : Mem) (m16 : Mem) (a1 : Int32) : XE B M_X6_price (XQm B 0 0 SH_X) 0 [(0, some (.ref 0)), (1, some (.int a1))] [] (0, 0) SH_X [m0, m1, m2, m3, m4, m5, m6, m7, m8, m9, m10, m11, m12, m13, m14, m15, m16] (fun t => some (some (.int t.1), [t.2, m1, m2, m3, m4, m5, m6, m7, m8, m9, m10, m11, m12, m13, m14, m15, m16])) (f_X6_price m0 m1 a1) := by
  unfold f_X6_price
  refine XE_iload_n (n := 1) dX6_price_0 rfl rfl rfl ?_
  refine XE_if_ge (t := 11) (n := 4) dX6_price_1 rfl rfl (fun h13 => ?_) (fun h13 => ?_)
  · refine XE_iload_n (n := 12) dX6_price_11 rfl rfl rfl ?_
    refine XE_sipush (v := 999) (n := 15) dX6_price_12 rfl (by decide) ?_
    refine XE_icmp_le (t := 25) (n := 18) dX6_price_15 rfl rfl (fun h11 => ?_) (fun h11 => ?_)
    · refine XE_bipush (v := 20) (n := 27) dX6_price_25 rfl (by decide) ?_
      refine XE_istore_n (i := 2) (n := 28) dX6_price_27 rfl rfl (Nat.le_of_ble_eq_true rfl) rfl ?_
      refine XE_iconst (v := 0) (n := 29) dX6_price_28 rfl (by decide) ?_
      refine XE_istore_n (i := 3) (n := 30) dX6_price_29 rfl rfl (Nat.le_of_ble_eq_true rfl) rfl ?_
      refine XE_ls (x_sub_ok (ls' := [(0, some (.ref 0)), (1, some (.int a1)), (2, some (.int 20)), (3, some (.int 0))]) ⟨rfl, rfl, rfl, rfl, trivial⟩) ?_
      refine XE_reg (J := 69) (lsJ := fun t8 => [(2, some (.int t8))]) (stJ := fun t8 => []) (hsJ := fun t8 => [m0, m1, m2, m3, m4, m5, m6, m7, m8, m9, m10, m11, m12, m13, m14, m15, m16]) (fun t8 => ?_) (fun hJ9 => f_X6_price_L30_x B a1 m0 m1 m2 m3 m4 m5 m6 m7 m8 m9 m10 m11 m12 m13 m14 m15 m16 hJ9 6000 (20 : Int32) (0 : Int32))
      refine XE_iload_n (n := 70) dX6_price_69 rfl rfl rfl ?_
      exact XE_ireturn rfl dX6_price_70 rfl (Nat.le_refl _) (Nat.le_refl _)
    · refine XE_aload_n (n := 19) dX6_price_18 rfl rfl rfl ?_
      refine XE_bipush (v := (-6)) (n := 21) dX6_price_19 rfl (by decide) ?_
      refine XE_callVi (ni := 1) (As := [.int (-6)]) (st2 := fun t10 => [.int t10.1]) (n := 24) (b := 0) xc_X6_65 (fun l t ht => met_X6_refused l m0 m1 m2 m3 m4 m5 m6 m7 m8 m9 m10 m11 m12 m13 m14 m15 m16 (-6) t ht) rfl rfl rfl rfl dX6_price_21 (Nat.le_of_ble_eq_true rfl) ⟨Nat.zero_le _, Nat.zero_le _⟩ (Nat.le_of_ble_eq_true rfl) (Nat.le_of_ble_eq_true rfl) (fun _ => rfl) rfl (fun t10 => ?_)
      exact XE_ireturn rfl dX6_price_24 rfl (Nat.le_refl _) (Nat.le_refl _)
  · refine XE_aload_n (n := 5) dX6_price_4 rfl rfl rfl ?_
    refine XE_bipush (v := (-4)) (n := 7) dX6_price_5 rfl (by decide) ?_
    refine XE_callVi (ni := 1) (As := [.int (-4)]) (st2 := fun t12 => [.int t12.1]) (n := 10) (b := 0) xc_X6_65 (fun l t ht => met_X6_refused l m0 m1 m2 m3 m4 m5 m6 m7 m8 m9 m10 m11 m12 m13 m14 m15 m16 (-4) t ht) rfl rfl rfl rfl dX6_price_7 (Nat.le_of_ble_eq_true rfl) ⟨Nat.zero_le _, Nat.zero_le _⟩ (Nat.le_of_ble_eq_true rfl) (Nat.le_of_ble_eq_true rfl) (fun _ => rfl) rfl (fun t12 => ?_)
    exact XE_ireturn rfl dX6_price_10 rfl (Nat.le_refl _) (Nat.le_refl _)
theorem met_X6_price (l : Launch) (m0 : Mem) (m1 : Mem) (m2 : Mem) (m3 : Mem) (m4 : Mem) (m5 : Mem) (m6 : Mem) (m7 : Mem) (m8 : Mem) (m9 : Mem) (m10 : Mem) (m11 : Mem) (m12 : Mem) (m13 : Mem) (m14 : Mem) (m15 : Mem) (m16 : Mem) (a1 : Int32) (t : Int32 × Mem) (ht : f_X6_price m0 m1 a1 = some t) : XMet l yX6_price cX6_price 4 (some .int) 2 0 0 [.ref 0, .int a1] SH_X [m0, m1, m2, m3, m4, m5, m6, m7, m8, m9, m10, m11, m12, m13, m14, m15, m16] SH_X (some (.int t.1), [t.2, m1, m2, m3, m4, m5, m6, m7, m8, m9, m10, m11, m12, m13, m14, m15, m16]) := XMet.of (by decide +kernel) (fun _ => Nat.le_of_ble_eq_true rfl) (fun B => xe_X6_price B m0 m1 m2 m3 m4 m5 m6 m7 m8 m9 m10 m11 m12 m13 m14 m15 m16 a1) (by rw [ht]; rfl)
/-! J6_bitCount_0f7a4: java/lang/Integer.bitCount(I)I in world 0 at () -/
abbrev M_J6_bitCount_0f7a4 : XM := (RJ6, cJ6_bitCount_0f7a4, 1, (some .int), "bitCount", 1, 0, 0)
def f_J6_bitCount_0f7a4 (a0 : Int32) : Option (Int32) :=
  lt (a0 - ((((a0 : Int32).toUInt32 >>> ((1 : Int32).toUInt32 &&& Int32.toUInt32 31)).toInt32) &&& 1431655765)) fun v1 =>
  lt ((v1 &&& 858993459) + ((((v1 : Int32).toUInt32 >>> ((2 : Int32).toUInt32 &&& Int32.toUInt32 31)).toInt32) &&& 858993459)) fun v2 =>
  lt ((v2 + (((v2 : Int32).toUInt32 >>> ((4 : Int32).toUInt32 &&& Int32.toUInt32 31)).toInt32)) &&& 252645135) fun v3 =>
  lt (v3 + (((v3 : Int32).toUInt32 >>> ((8 : Int32).toUInt32 &&& Int32.toUInt32 31)).toInt32)) fun v4 =>
  lt (v4 + (((v4 : Int32).toUInt32 >>> ((16 : Int32).toUInt32 &&& Int32.toUInt32 31)).toInt32)) fun v5 =>
  some (v5 &&& 63)
set_option maxRecDepth 100000 in
theorem xe_J6_bitCount_0f7a4 (B : XB) (a0 : Int32) : XE B M_J6_bitCount_0f7a4 (XQm B 0 0 SH_0) 0 [(0, some (.int a0))] [] (0, 0) SH_0 [] (fun t => some (some (.int t), [])) (f_J6_bitCount_0f7a4 a0) := by
  unfold f_J6_bitCount_0f7a4
  refine XE_iload_n (n := 1) dJ6_bitCount_0f7a4_0 rfl rfl rfl ?_
  refine XE_iload_n (n := 2) dJ6_bitCount_0f7a4_1 rfl rfl rfl ?_
  refine XE_iconst (v := 1) (n := 3) dJ6_bitCount_0f7a4_2 rfl (by decide) ?_
  refine XE_iushr (n := 4) dJ6_bitCount_0f7a4_3 rfl rfl ?_
  refine XE_ldc_w (n := 7) dJ6_bitCount_0f7a4_4 rfl xk_J6_265 ?_
  refine XE_iand (n := 8) dJ6_bitCount_0f7a4_7 rfl ?_
  refine XE_isub (n := 9) dJ6_bitCount_0f7a4_8 rfl ?_
  refine XE_topi (fun v1 => ?_)
  refine XE_istore_n (i := 0) (n := 10) dJ6_bitCount_0f7a4_9 rfl rfl (Nat.le_of_ble_eq_true rfl) rfl ?_
  refine XE_iload_n (n := 11) dJ6_bitCount_0f7a4_10 rfl rfl rfl ?_
  refine XE_ldc_w (n := 14) dJ6_bitCount_0f7a4_11 rfl xk_J6_266 ?_
  refine XE_iand (n := 15) dJ6_bitCount_0f7a4_14 rfl ?_
  refine XE_iload_n (n := 16) dJ6_bitCount_0f7a4_15 rfl rfl rfl ?_
  refine XE_iconst (v := 2) (n := 17) dJ6_bitCount_0f7a4_16 rfl (by decide) ?_
  refine XE_iushr (n := 18) dJ6_bitCount_0f7a4_17 rfl rfl ?_
  refine XE_ldc_w (n := 21) dJ6_bitCount_0f7a4_18 rfl xk_J6_266 ?_
  refine XE_iand (n := 22) dJ6_bitCount_0f7a4_21 rfl ?_
  refine XE_iadd (n := 23) dJ6_bitCount_0f7a4_22 rfl ?_
  refine XE_topi (fun v2 => ?_)
  refine XE_istore_n (i := 0) (n := 24) dJ6_bitCount_0f7a4_23 rfl rfl (Nat.le_of_ble_eq_true rfl) rfl ?_
  refine XE_iload_n (n := 25) dJ6_bitCount_0f7a4_24 rfl rfl rfl ?_
  refine XE_iload_n (n := 26) dJ6_bitCount_0f7a4_25 rfl rfl rfl ?_
  refine XE_iconst (v := 4) (n := 27) dJ6_bitCount_0f7a4_26 rfl (by decide) ?_
  refine XE_iushr (n := 28) dJ6_bitCount_0f7a4_27 rfl rfl ?_
  refine XE_iadd (n := 29) dJ6_bitCount_0f7a4_28 rfl ?_
  refine XE_ldc_w (n := 32) dJ6_bitCount_0f7a4_29 rfl xk_J6_267 ?_
  refine XE_iand (n := 33) dJ6_bitCount_0f7a4_32 rfl ?_
  refine XE_topi (fun v3 => ?_)
  refine XE_istore_n (i := 0) (n := 34) dJ6_bitCount_0f7a4_33 rfl rfl (Nat.le_of_ble_eq_true rfl) rfl ?_
  refine XE_iload_n (n := 35) dJ6_bitCount_0f7a4_34 rfl rfl rfl ?_
  refine XE_iload_n (n := 36) dJ6_bitCount_0f7a4_35 rfl rfl rfl ?_
  refine XE_bipush (v := 8) (n := 38) dJ6_bitCount_0f7a4_36 rfl (by decide) ?_
  refine XE_iushr (n := 39) dJ6_bitCount_0f7a4_38 rfl rfl ?_
  refine XE_iadd (n := 40) dJ6_bitCount_0f7a4_39 rfl ?_
  refine XE_topi (fun v4 => ?_)
  refine XE_istore_n (i := 0) (n := 41) dJ6_bitCount_0f7a4_40 rfl rfl (Nat.le_of_ble_eq_true rfl) rfl ?_
  refine XE_iload_n (n := 42) dJ6_bitCount_0f7a4_41 rfl rfl rfl ?_
  refine XE_iload_n (n := 43) dJ6_bitCount_0f7a4_42 rfl rfl rfl ?_
  refine XE_bipush (v := 16) (n := 45) dJ6_bitCount_0f7a4_43 rfl (by decide) ?_
  refine XE_iushr (n := 46) dJ6_bitCount_0f7a4_45 rfl rfl ?_
  refine XE_iadd (n := 47) dJ6_bitCount_0f7a4_46 rfl ?_
  refine XE_topi (fun v5 => ?_)
  refine XE_istore_n (i := 0) (n := 48) dJ6_bitCount_0f7a4_47 rfl rfl (Nat.le_of_ble_eq_true rfl) rfl ?_
  refine XE_iload_n (n := 49) dJ6_bitCount_0f7a4_48 rfl rfl rfl ?_
  refine XE_bipush (v := 63) (n := 51) dJ6_bitCount_0f7a4_49 rfl (by decide) ?_
  refine XE_iand (n := 52) dJ6_bitCount_0f7a4_51 rfl ?_
  exact XE_ireturn rfl dJ6_bitCount_0f7a4_52 rfl (Nat.le_refl _) (Nat.le_refl _)
theorem met_J6_bitCount_0f7a4 (l : Launch) (a0 : Int32) (t : Int32) (ht : f_J6_bitCount_0f7a4 a0 = some t) : XMet l yJ6_bitCount_0f7a4 cJ6_bitCount_0f7a4 1 (some .int) 1 0 0 [.int a0] SH_0 [] SH_0 (some (.int t), []) := XMet.of (by decide +kernel) (fun _ => Nat.le_of_ble_eq_true rfl) (fun B => xe_J6_bitCount_0f7a4 B a0) (by rw [ht]; rfl)
/-! X6_power: EveryTwentyMinutes.power(II)J in world 0 at () -/
abbrev M_X6_power : XM := (RX6, cX6_power, 5, (some .long), "power", 1, 0, 0)
def f_X6_power_L5 (a0 : Int32) (a1 : Int32) : Nat → Int64 → Int32 → Option (Int64)
  | 0, _, _ => none
  | n + 1, v1, v2 =>
    if a1 ≤ v2 then
      some (v1)
    else
      lt (v1 * ((a0 : Int32).toInt64)) fun v3 =>
      lt (v2 + 1) fun v4 =>
      (f_X6_power_L5 a0 a1 n) v3 v4
def f_X6_power (a0 : Int32) (a1 : Int32) : Option (Int64) :=
  (f_X6_power_L5 a0 a1 6000 (1 : Int64) (0 : Int32)).bind fun t6 =>
  some t6
set_option maxRecDepth 100000 in
theorem f_X6_power_L5_x {α R : Type} (B : XB) {Q : R → State → Prop} {k : α → Option R} {r : (Int64) → Option α} (a0 : Int32) (a1 : Int32) (hE : ∀ t0 : (Int64), XE B M_X6_power Q 22 [(2, some (.long t0))] [] (0, 0) SH_0 [] (fun t => (r t).bind k) (some t0)) : ∀ (n : Nat) (v1 : Int64) (v2 : Int32), XE B M_X6_power Q 5 [(0, some (.int a0)), (1, some (.int a1)), (2, some (.long v1)), (4, some (.int v2))] [] (0, 0) SH_0 [] (fun t => (r t).bind k) (f_X6_power_L5 a0 a1 n v1 v2) := by
  intro n
  induction n with
  | zero => intros; exact XE_none
  | succ n ih =>
    intro v1 v2
    rw [f_X6_power_L5]
    refine XE_iload (n := 7) dX6_power_5 rfl rfl ?_
    refine XE_iload_n (n := 8) dX6_power_7 rfl rfl rfl ?_
    refine XE_icmp_ge (t := 22) (n := 11) dX6_power_8 rfl rfl (fun h5 => ?_) (fun h5 => ?_)
    · refine XE_ls (x_sub_ok (ls' := [(2, some (.long v1))]) ⟨rfl, trivial⟩) ?_
      exact hE (v1)
    · refine XE_lload_n (n := 12) dX6_power_11 rfl rfl rfl ?_
      refine XE_iload_n (n := 13) dX6_power_12 rfl rfl rfl ?_
      refine XE_i2l (n := 14) dX6_power_13 rfl ?_
      refine XE_lmul (n := 15) dX6_power_14 rfl ?_
      refine XE_topl (fun v3 => ?_)
      refine XE_lstore_n (i := 2) (n := 16) dX6_power_15 rfl rfl (Nat.le_of_ble_eq_true rfl) rfl ?_
      refine XE_iincl (n := 19) dX6_power_16 rfl rfl (by decide) (Nat.le_of_ble_eq_true rfl) rfl (fun v4 => ?_)
      refine XE_goto (n := 5) dX6_power_19 rfl ?_
      refine XE_ls (x_sub_ok (ls' := [(0, some (.int a0)), (1, some (.int a1)), (2, some (.long v3)), (4, some (.int v4))]) ⟨rfl, rfl, rfl, rfl, trivial⟩) ?_
      exact ih v3 v4
set_option maxRecDepth 100000 in
theorem xe_X6_power (B : XB) (a0 : Int32) (a1 : Int32) : XE B M_X6_power (XQm B 0 0 SH_0) 0 [(0, some (.int a0)), (1, some (.int a1))] [] (0, 0) SH_0 [] (fun t => some (some (.long t), [])) (f_X6_power a0 a1) := by
  unfold f_X6_power
  refine XE_lconst (v := 1) (n := 1) dX6_power_0 rfl (by decide) ?_
  refine XE_lstore_n (i := 2) (n := 2) dX6_power_1 rfl rfl (Nat.le_of_ble_eq_true rfl) rfl ?_
  refine XE_iconst (v := 0) (n := 3) dX6_power_2 rfl (by decide) ?_
  refine XE_istore (i := 4) (n := 5) dX6_power_3 rfl (Nat.le_of_ble_eq_true rfl) rfl ?_
  refine XE_ls (x_sub_ok (ls' := [(0, some (.int a0)), (1, some (.int a1)), (2, some (.long 1)), (4, some (.int 0))]) ⟨rfl, rfl, rfl, rfl, trivial⟩) ?_
  refine XE_reg (J := 22) (lsJ := fun t6 => [(2, some (.long t6))]) (stJ := fun t6 => []) (hsJ := fun t6 => []) (fun t6 => ?_) (fun hJ7 => f_X6_power_L5_x B a0 a1 hJ7 6000 (1 : Int64) (0 : Int32))
  refine XE_lload_n (n := 23) dX6_power_22 rfl rfl rfl ?_
  exact XE_lreturn rfl dX6_power_23 rfl (Nat.le_refl _) (Nat.le_refl _)
theorem met_X6_power (l : Launch) (a0 : Int32) (a1 : Int32) (t : Int64) (ht : f_X6_power a0 a1 = some t) : XMet l yX6_power cX6_power 5 (some .long) 1 0 0 [.int a0, .int a1] SH_0 [] SH_0 (some (.long t), []) := XMet.of (by decide +kernel) (fun _ => Nat.le_of_ble_eq_true rfl) (fun B => xe_X6_power B a0 a1) (by rw [ht]; rfl)
/-! X6_lowest: EveryTwentyMinutes.lowest(JJI)J in world 0 at () -/
abbrev M_X6_lowest : XM := (RX6, cX6_lowest, 12, (some .long), "lowest", 1, 0, 0)
def f_X6_lowest_L9 : Nat → Int64 → Int64 → Int32 → Option (Int64)
  | 0, _, _, _ => none
  | n + 1, v1, v2, v3 =>
    if 100 ≤ v3 then
      some (v1)
    else
      if (lg_cmp v2 0) ≤ 0 then
        some (v1)
      else
        ck (!decide (v2 = 0)) <|
        lt (v1 - v1 / v2 * v2) fun v4 =>
        lt (v3 + 1) fun v5 =>
        (f_X6_lowest_L9 n) v2 v4 v5
def f_X6_lowest (a0 : Int64) (a2 : Int64) (a4 : Int32) : Option (Int64) :=
  (f_X6_lowest_L9 6000 a0 a2 (0 : Int32)).bind fun t8 =>
  lt (lmax t8 1) fun v9 =>
  if a4 = 0 then
    ck (!decide (v9 = 0)) <|
    some (a0 / v9)
  else
    ck (!decide (v9 = 0)) <|
    some (a2 / v9)
set_option maxRecDepth 100000 in
theorem f_X6_lowest_L9_x {α R : Type} (B : XB) {Q : R → State → Prop} {k : α → Option R} {r : (Int64) → Option α} (a0 : Int64) (a2 : Int64) (a4 : Int32) (hE : ∀ t0 : (Int64), XE B M_X6_lowest Q 44 [(0, some (.long a0)), (2, some (.long a2)), (4, some (.int a4)), (5, some (.long t0))] [] (0, 0) SH_0 [] (fun t => (r t).bind k) (some t0)) : ∀ (n : Nat) (v1 : Int64) (v2 : Int64) (v3 : Int32), XE B M_X6_lowest Q 9 [(0, some (.long a0)), (2, some (.long a2)), (4, some (.int a4)), (5, some (.long v1)), (7, some (.long v2)), (9, some (.int v3))] [] (0, 0) SH_0 [] (fun t => (r t).bind k) (f_X6_lowest_L9 n v1 v2 v3) := by
  intro n
  induction n with
  | zero => intros; exact XE_none
  | succ n ih =>
    intro v1 v2 v3
    rw [f_X6_lowest_L9]
    refine XE_iload (n := 11) dX6_lowest_9 rfl rfl ?_
    refine XE_bipush (v := 100) (n := 13) dX6_lowest_11 rfl (by decide) ?_
    refine XE_icmp_ge (t := 44) (n := 16) dX6_lowest_13 rfl rfl (fun h7 => ?_) (fun h7 => ?_)
    · refine XE_ls (x_sub_ok (ls' := [(0, some (.long a0)), (2, some (.long a2)), (4, some (.int a4)), (5, some (.long v1))]) ⟨rfl, rfl, rfl, rfl, trivial⟩) ?_
      exact hE (v1)
    · refine XE_lload (n := 18) dX6_lowest_16 rfl rfl ?_
      refine XE_lconst (v := 0) (n := 19) dX6_lowest_18 rfl (by decide) ?_
      refine XE_lcmp (n := 20) dX6_lowest_19 rfl ?_
      refine XE_if_le (t := 44) (n := 23) dX6_lowest_20 rfl rfl (fun h6 => ?_) (fun h6 => ?_)
      · refine XE_ls (x_sub_ok (ls' := [(0, some (.long a0)), (2, some (.long a2)), (4, some (.int a4)), (5, some (.long v1))]) ⟨rfl, rfl, rfl, rfl, trivial⟩) ?_
        exact hE (v1)
      · refine XE_lload (n := 25) dX6_lowest_23 rfl rfl ?_
        refine XE_lload (n := 27) dX6_lowest_25 rfl rfl ?_
        refine XE_lrem (n := 28) dX6_lowest_27 rfl ?_
        refine XE_topl (fun v4 => ?_)
        refine XE_lstore (i := 10) (n := 30) dX6_lowest_28 rfl (Nat.le_of_ble_eq_true rfl) rfl ?_
        refine XE_lload (n := 32) dX6_lowest_30 rfl rfl ?_
        refine XE_lstore (i := 5) (n := 34) dX6_lowest_32 rfl (Nat.le_of_ble_eq_true rfl) rfl ?_
        refine XE_lload (n := 36) dX6_lowest_34 rfl rfl ?_
        refine XE_lstore (i := 7) (n := 38) dX6_lowest_36 rfl (Nat.le_of_ble_eq_true rfl) rfl ?_
        refine XE_iincl (n := 41) dX6_lowest_38 rfl rfl (by decide) (Nat.le_of_ble_eq_true rfl) rfl (fun v5 => ?_)
        refine XE_goto (n := 9) dX6_lowest_41 rfl ?_
        refine XE_ls (x_sub_ok (ls' := [(0, some (.long a0)), (2, some (.long a2)), (4, some (.int a4)), (5, some (.long v2)), (7, some (.long v4)), (9, some (.int v5))]) ⟨rfl, rfl, rfl, rfl, rfl, rfl, trivial⟩) ?_
        exact ih v2 v4 v5
set_option maxRecDepth 100000 in
theorem xe_X6_lowest (B : XB) (a0 : Int64) (a2 : Int64) (a4 : Int32) : XE B M_X6_lowest (XQm B 0 0 SH_0) 0 [(0, some (.long a0)), (2, some (.long a2)), (4, some (.int a4))] [] (0, 0) SH_0 [] (fun t => some (some (.long t), [])) (f_X6_lowest a0 a2 a4) := by
  unfold f_X6_lowest
  refine XE_lload_n (n := 1) dX6_lowest_0 rfl rfl rfl ?_
  refine XE_lstore (i := 5) (n := 3) dX6_lowest_1 rfl (Nat.le_of_ble_eq_true rfl) rfl ?_
  refine XE_lload_n (n := 4) dX6_lowest_3 rfl rfl rfl ?_
  refine XE_lstore (i := 7) (n := 6) dX6_lowest_4 rfl (Nat.le_of_ble_eq_true rfl) rfl ?_
  refine XE_iconst (v := 0) (n := 7) dX6_lowest_6 rfl (by decide) ?_
  refine XE_istore (i := 9) (n := 9) dX6_lowest_7 rfl (Nat.le_of_ble_eq_true rfl) rfl ?_
  refine XE_ls (x_sub_ok (ls' := [(0, some (.long a0)), (2, some (.long a2)), (4, some (.int a4)), (5, some (.long a0)), (7, some (.long a2)), (9, some (.int 0))]) ⟨rfl, rfl, rfl, rfl, rfl, rfl, trivial⟩) ?_
  refine XE_reg (J := 44) (lsJ := fun t8 => [(0, some (.long a0)), (2, some (.long a2)), (4, some (.int a4)), (5, some (.long t8))]) (stJ := fun t8 => []) (hsJ := fun t8 => []) (fun t8 => ?_) (fun hJ11 => f_X6_lowest_L9_x B a0 a2 a4 hJ11 6000 a0 a2 (0 : Int32))
  refine XE_lload (n := 46) dX6_lowest_44 rfl rfl ?_
  refine XE_lconst (v := 1) (n := 47) dX6_lowest_46 rfl (by decide) ?_
  refine XE_lmax (n := 50) xp_X6_316 rfl (Nat.le_of_ble_eq_true rfl) (Nat.le_of_ble_eq_true rfl) dX6_lowest_47 rfl ?_
  refine XE_topl (fun v9 => ?_)
  refine XE_lstore (i := 9) (n := 52) dX6_lowest_50 rfl (Nat.le_of_ble_eq_true rfl) rfl ?_
  refine XE_iload (n := 54) dX6_lowest_52 rfl rfl ?_
  refine XE_if_ne (t := 61) (n := 57) dX6_lowest_54 rfl rfl (fun h10 => ?_) (fun h10 => ?_)
  · refine XE_lload_n (n := 58) dX6_lowest_57 rfl rfl rfl ?_
    refine XE_goto (n := 62) dX6_lowest_58 rfl ?_
    refine XE_lload (n := 64) dX6_lowest_62 rfl rfl ?_
    refine XE_ldiv (n := 65) dX6_lowest_64 rfl ?_
    exact XE_lreturn rfl dX6_lowest_65 rfl (Nat.le_refl _) (Nat.le_refl _)
  · refine XE_lload_n (n := 62) dX6_lowest_61 rfl rfl rfl ?_
    refine XE_lload (n := 64) dX6_lowest_62 rfl rfl ?_
    refine XE_ldiv (n := 65) dX6_lowest_64 rfl ?_
    exact XE_lreturn rfl dX6_lowest_65 rfl (Nat.le_refl _) (Nat.le_refl _)
theorem met_X6_lowest (l : Launch) (a0 : Int64) (a2 : Int64) (a4 : Int32) (t : Int64) (ht : f_X6_lowest a0 a2 a4 = some t) : XMet l yX6_lowest cX6_lowest 12 (some .long) 1 0 0 [.long a0, .long a2, .int a4] SH_0 [] SH_0 (some (.long t), []) := XMet.of (by decide +kernel) (fun _ => Nat.le_of_ble_eq_true rfl) (fun B => xe_X6_lowest B a0 a2 a4) (by rw [ht]; rfl)
/-! X6_odds: EveryTwentyMinutes.odds(IIII)J in world X at (0,) -/
abbrev M_X6_odds : XM := (RX6, cX6_odds, 11, (some .long), "odds", 5, 0, 0)
def f_X6_odds_J13 (m0 : Mem) (m2 : Mem) : Option (Int64 × Mem × Mem) :=
  (f_X6_refused m0 (-4)).bind fun t1 =>
  some ((4000000000000000000 - ((t1.1 : Int32).toInt64)), t1.2, m2)
def f_X6_odds_J44 (m0 : Mem) (m2 : Mem) : Option (Int64 × Mem × Mem) :=
  (f_X6_refused m0 (-6)).bind fun t2 =>
  some ((4000000000000000000 - ((t2.1 : Int32).toInt64)), t2.2, m2)
def f_X6_odds_L116 (v11 : Int32) (v15 : Int32) : Nat → Int32 → Mem → Option (Mem)
  | 0, _, _ => none
  | n + 1, v18, w19 =>
    if v11 ≤ v18 then
      some (w19)
    else
      lt (if ((v15 >>> (v18 &&& 31)) &&& 1) = 1 then
          ((5 : Int32))
        else
          ((0 : Int32))) fun t22 =>
      (f_X2_wedFirst w19 t22).bind fun t23 =>
      lt (v18 + 1) fun v24 =>
      (f_X6_odds_L116 v11 v15 n) v24 t23
def f_X6_odds_L98 (m0 : Mem) (m1 : Mem) (v8 : Int32) (v9 : Int32) (v11 : Int32) : Nat → Int64 → Int32 → Mem → Option (Int64 × Mem)
  | 0, _, _, _ => none
  | n + 1, v14, v15, w16 =>
    if (1 <<< (v11 &&& 31)) ≤ v15 then
      some (v14, w16)
    else
      (f_X6_asNow m0 m1 w16).bind fun t17 =>
      (f_X6_odds_L116 v11 v15 6000 (0 : Int32) t17).bind fun t26 =>
      (f_X2_wedAll t26).bind fun t27 =>
      (f_X2_last t27).bind fun t28 =>
      if v9 < t28 then
        lt (v15 + 1) fun v29 =>
        (f_X6_odds_L98 m0 m1 v8 v9 v11 n) v14 v29 t27
      else
        (f_J6_bitCount_0f7a4 v15).bind fun t30 =>
        (f_X6_power (v8 - 1) (v11 - t30)).bind fun t31 =>
        lt (v14 + t31) fun v32 =>
        lt (v15 + 1) fun v33 =>
        (f_X6_odds_L98 m0 m1 v8 v9 v11 n) v32 v33 t27
def f_X6_odds_J98 (m0 : Mem) (m1 : Mem) (m2 : Mem) (v8 : Int32) (v9 : Int32) (v10 : Int32) (v11 : Int32) (v12 : Int64) (v13 : Int32) : Option (Int64 × Mem × Mem) :=
  (f_X6_odds_L98 m0 m1 v8 v9 v11 6000 v12 v13 m2).bind fun t37 =>
  (f_X6_power v8 v11).bind fun t38 =>
  (f_X6_lowest t37.1 t38 v10).bind fun t39 =>
  some (t39, m0, t37.2)
def f_X6_odds_J79 (m0 : Mem) (m1 : Mem) (m2 : Mem) (v3 : Int32) (v4 : Int32) (v5 : Int32) (v6 : Int32) : Option (Int64 × Mem × Mem) :=
  lt (imin v3 (m1 0 8)) fun v7 =>
  f_X6_odds_J98 m0 m1 m2 v4 v5 v6 v7 (0 : Int64) (0 : Int32)
def f_X6_odds (m0 : Mem) (m1 : Mem) (m2 : Mem) (a1 : Int32) (a2 : Int32) (a3 : Int32) (a4 : Int32) : Option (Int64 × Mem × Mem) :=
  if a1 < 0 then
    f_X6_odds_J13 m0 m2
  else
    if a3 < 0 then
      f_X6_odds_J13 m0 m2
    else
      if 2 ≤ a2 then
        if 7 < a1 then
          f_X6_odds_J44 m0 m2
        else
          if 20 < a2 then
            f_X6_odds_J44 m0 m2
          else
            if a3 ≤ 999 then
              if a4 = 0 then
                f_X6_odds_J79 m0 m1 m2 a1 a2 a3 a4
              else
                if a4 = 1 then
                  f_X6_odds_J79 m0 m1 m2 a1 a2 a3 a4
                else
                  (f_X6_refused m0 (-2)).bind fun t41 =>
                  some ((4000000000000000000 - ((t41.1 : Int32).toInt64)), t41.2, m2)
            else
              f_X6_odds_J44 m0 m2
      else
        f_X6_odds_J13 m0 m2
set_option maxRecDepth 100000 in
theorem f_X6_odds_J13_x (B : XB) (m0 : Mem) (m1 : Mem) (m2 : Mem) (m3 : Mem) (m4 : Mem) (m5 : Mem) (m6 : Mem) (m7 : Mem) (m8 : Mem) (m9 : Mem) (m10 : Mem) (m11 : Mem) (m12 : Mem) (m13 : Mem) (m14 : Mem) (m15 : Mem) (m16 : Mem) : XE B M_X6_odds (XQm B 0 0 SH_X) 13 [(0, some (.ref 0))] [] (0, 0) SH_X [m0, m1, m2, m3, m4, m5, m6, m7, m8, m9, m10, m11, m12, m13, m14, m15, m16] (fun t => some (some (.long t.1), [t.2.1, m1, t.2.2, m3, m4, m5, m6, m7, m8, m9, m10, m11, m12, m13, m14, m15, m16])) (f_X6_odds_J13 m0 m2) := by
  unfold f_X6_odds_J13
  refine XE_ldc2 (n := 16) dX6_odds_13 rfl xk_X6_246 ?_
  refine XE_aload_n (n := 17) dX6_odds_16 rfl rfl rfl ?_
  refine XE_bipush (v := (-4)) (n := 19) dX6_odds_17 rfl (by decide) ?_
  refine XE_callVi (ni := 1) (As := [.int (-4)]) (st2 := fun t1 => [.int t1.1, .long 4000000000000000000]) (n := 22) (b := 0) xc_X6_65 (fun l t ht => met_X6_refused l m0 m1 m2 m3 m4 m5 m6 m7 m8 m9 m10 m11 m12 m13 m14 m15 m16 (-4) t ht) rfl rfl rfl rfl dX6_odds_19 (Nat.le_of_ble_eq_true rfl) ⟨Nat.zero_le _, Nat.zero_le _⟩ (Nat.le_of_ble_eq_true rfl) (Nat.le_of_ble_eq_true rfl) (fun _ => rfl) rfl (fun t1 => ?_)
  refine XE_i2l (n := 23) dX6_odds_22 rfl ?_
  refine XE_lsub (n := 24) dX6_odds_23 rfl ?_
  exact XE_lreturn rfl dX6_odds_24 rfl (Nat.le_refl _) (Nat.le_refl _)
set_option maxRecDepth 100000 in
theorem f_X6_odds_J44_x (B : XB) (m0 : Mem) (m1 : Mem) (m2 : Mem) (m3 : Mem) (m4 : Mem) (m5 : Mem) (m6 : Mem) (m7 : Mem) (m8 : Mem) (m9 : Mem) (m10 : Mem) (m11 : Mem) (m12 : Mem) (m13 : Mem) (m14 : Mem) (m15 : Mem) (m16 : Mem) : XE B M_X6_odds (XQm B 0 0 SH_X) 44 [(0, some (.ref 0))] [] (0, 0) SH_X [m0, m1, m2, m3, m4, m5, m6, m7, m8, m9, m10, m11, m12, m13, m14, m15, m16] (fun t => some (some (.long t.1), [t.2.1, m1, t.2.2, m3, m4, m5, m6, m7, m8, m9, m10, m11, m12, m13, m14, m15, m16])) (f_X6_odds_J44 m0 m2) := by
  unfold f_X6_odds_J44
  refine XE_ldc2 (n := 47) dX6_odds_44 rfl xk_X6_246 ?_
  refine XE_aload_n (n := 48) dX6_odds_47 rfl rfl rfl ?_
  refine XE_bipush (v := (-6)) (n := 50) dX6_odds_48 rfl (by decide) ?_
  refine XE_callVi (ni := 1) (As := [.int (-6)]) (st2 := fun t2 => [.int t2.1, .long 4000000000000000000]) (n := 53) (b := 0) xc_X6_65 (fun l t ht => met_X6_refused l m0 m1 m2 m3 m4 m5 m6 m7 m8 m9 m10 m11 m12 m13 m14 m15 m16 (-6) t ht) rfl rfl rfl rfl dX6_odds_50 (Nat.le_of_ble_eq_true rfl) ⟨Nat.zero_le _, Nat.zero_le _⟩ (Nat.le_of_ble_eq_true rfl) (Nat.le_of_ble_eq_true rfl) (fun _ => rfl) rfl (fun t2 => ?_)
  refine XE_i2l (n := 54) dX6_odds_53 rfl ?_
  refine XE_lsub (n := 55) dX6_odds_54 rfl ?_
  exact XE_lreturn rfl dX6_odds_55 rfl (Nat.le_refl _) (Nat.le_refl _)
set_option maxRecDepth 100000 in
theorem f_X6_odds_L116_x {α R : Type} (B : XB) {Q : R → State → Prop} {k : α → Option R} {r : (Mem) → Option α} (m0 : Mem) (m1 : Mem) (m3 : Mem) (m4 : Mem) (m5 : Mem) (m6 : Mem) (m7 : Mem) (m8 : Mem) (m9 : Mem) (m10 : Mem) (m11 : Mem) (m12 : Mem) (m13 : Mem) (m14 : Mem) (m15 : Mem) (m16 : Mem) (v8 : Int32) (v9 : Int32) (v10 : Int32) (v11 : Int32) (v14 : Int64) (v15 : Int32) (hE : ∀ t0 : (Mem), XE B M_X6_odds Q 150 [(0, some (.ref 0)), (2, some (.int v8)), (3, some (.int v9)), (4, some (.int v10)), (5, some (.int v11)), (6, some (.long v14)), (8, some (.int v15)), (9, some (.ref 128))] [] (0, 0) SH_X [m0, m1, t0, m3, m4, m5, m6, m7, m8, m9, m10, m11, m12, m13, m14, m15, m16] (fun t => (r t).bind k) (some t0)) : ∀ (n : Nat) (v18 : Int32) (w19 : Mem), XE B M_X6_odds Q 116 [(0, some (.ref 0)), (2, some (.int v8)), (3, some (.int v9)), (4, some (.int v10)), (5, some (.int v11)), (6, some (.long v14)), (8, some (.int v15)), (9, some (.ref 128)), (10, some (.int v18))] [] (0, 0) SH_X [m0, m1, w19, m3, m4, m5, m6, m7, m8, m9, m10, m11, m12, m13, m14, m15, m16] (fun t => (r t).bind k) (f_X6_odds_L116 v11 v15 n v18 w19) := by
  intro n
  induction n with
  | zero => intros; exact XE_none
  | succ n ih =>
    intro v18 w19
    rw [f_X6_odds_L116]
    refine XE_iload (n := 118) dX6_odds_116 rfl rfl ?_
    refine XE_iload (n := 120) dX6_odds_118 rfl rfl ?_
    refine XE_icmp_ge (t := 150) (n := 123) dX6_odds_120 rfl rfl (fun h25 => ?_) (fun h25 => ?_)
    · refine XE_ls (x_sub_ok (ls' := [(0, some (.ref 0)), (2, some (.int v8)), (3, some (.int v9)), (4, some (.int v10)), (5, some (.int v11)), (6, some (.long v14)), (8, some (.int v15)), (9, some (.ref 128))]) ⟨rfl, rfl, rfl, rfl, rfl, rfl, rfl, rfl, trivial⟩) ?_
      exact hE (w19)
    · refine XE_aload (n := 125) dX6_odds_123 rfl rfl ?_
      refine XE_iload (n := 127) dX6_odds_125 rfl rfl ?_
      refine XE_iload (n := 129) dX6_odds_127 rfl rfl ?_
      refine XE_ishr (n := 130) dX6_odds_129 rfl ?_
      refine XE_iconst (v := 1) (n := 131) dX6_odds_130 rfl (by decide) ?_
      refine XE_iand (n := 132) dX6_odds_131 rfl ?_
      refine XE_iconst (v := 1) (n := 133) dX6_odds_132 rfl (by decide) ?_
      refine XE_regv (J := 141) (lsJ := fun t22 => [(0, some (.ref 0)), (2, some (.int v8)), (3, some (.int v9)), (4, some (.int v10)), (5, some (.int v11)), (6, some (.long v14)), (8, some (.int v15)), (9, some (.ref 128)), (10, some (.int v18))]) (stJ := fun t22 => [.int t22, .ref 128]) (hsJ := fun t22 => [m0, m1, w19, m3, m4, m5, m6, m7, m8, m9, m10, m11, m12, m13, m14, m15, m16]) (fun t22 => ?_) (fun hJ20 => ?_)
      · refine XE_callV (ni := 1) (As := [.int t22]) (π := [2]) (co := [0, 1, 3, 4, 5, 6, 7, 8, 9, 10, 11, 12, 13, 14, 15, 16]) (cv := [m0, m1, m3, m4, m5, m6, m7, m8, m9, m10, m11, m12, m13, m14, m15, m16]) (nn := 17) (hs2 := fun t23 => [m0, m1, t23, m3, m4, m5, m6, m7, m8, m9, m10, m11, m12, m13, m14, m15, m16]) (st2 := fun t23 => []) (n := 144) (b := 128) xc_X6_251 (fun l t ht => met_X2_wedFirst l w19 t22 t ht) rfl rfl rfl rfl rfl dX6_odds_141 (Nat.le_of_ble_eq_true rfl) ⟨Nat.zero_le _, Nat.zero_le _⟩ (Nat.le_of_ble_eq_true rfl) (Nat.le_of_ble_eq_true rfl) ok_35 rfl rfl rfl (fun _ => rfl) (fun _ => rfl) (fun _ => rfl) rfl (fun _ => rfl) rfl (fun t23 => ?_)
        refine XE_iincl (n := 147) dX6_odds_144 rfl rfl (by decide) (Nat.le_of_ble_eq_true rfl) rfl (fun v24 => ?_)
        refine XE_goto (n := 116) dX6_odds_147 rfl ?_
        refine XE_ls (x_sub_ok (ls' := [(0, some (.ref 0)), (2, some (.int v8)), (3, some (.int v9)), (4, some (.int v10)), (5, some (.int v11)), (6, some (.long v14)), (8, some (.int v15)), (9, some (.ref 128)), (10, some (.int v24))]) ⟨rfl, rfl, rfl, rfl, rfl, rfl, rfl, rfl, rfl, trivial⟩) ?_
        exact ih v24 t23
      · refine XE_ltif ?_
        refine XE_icmp_ne (t := 140) (n := 136) dX6_odds_133 rfl rfl (fun h21 => ?_) (fun h21 => ?_)
        · refine XE_iconst (v := 5) (n := 137) dX6_odds_136 rfl (by decide) ?_
          refine XE_goto (n := 141) dX6_odds_137 rfl ?_
          refine XE_ls (x_sub_ok (ls' := [(0, some (.ref 0)), (2, some (.int v8)), (3, some (.int v9)), (4, some (.int v10)), (5, some (.int v11)), (6, some (.long v14)), (8, some (.int v15)), (9, some (.ref 128)), (10, some (.int v18))]) ⟨rfl, rfl, rfl, rfl, rfl, rfl, rfl, rfl, rfl, trivial⟩) ?_
          exact hJ20 ((5 : Int32))
        · refine XE_iconst (v := 0) (n := 141) dX6_odds_140 rfl (by decide) ?_
          refine XE_ls (x_sub_ok (ls' := [(0, some (.ref 0)), (2, some (.int v8)), (3, some (.int v9)), (4, some (.int v10)), (5, some (.int v11)), (6, some (.long v14)), (8, some (.int v15)), (9, some (.ref 128)), (10, some (.int v18))]) ⟨rfl, rfl, rfl, rfl, rfl, rfl, rfl, rfl, rfl, trivial⟩) ?_
          exact hJ20 ((0 : Int32))
set_option maxRecDepth 100000 in
theorem f_X6_odds_L98_x {α R : Type} (B : XB) {Q : R → State → Prop} {k : α → Option R} {r : (Int64 × Mem) → Option α} (m0 : Mem) (m1 : Mem) (m3 : Mem) (m4 : Mem) (m5 : Mem) (m6 : Mem) (m7 : Mem) (m8 : Mem) (m9 : Mem) (m10 : Mem) (m11 : Mem) (m12 : Mem) (m13 : Mem) (m14 : Mem) (m15 : Mem) (m16 : Mem) (v8 : Int32) (v9 : Int32) (v10 : Int32) (v11 : Int32) (hE : ∀ t0 : (Int64 × Mem), XE B M_X6_odds Q 189 [(2, some (.int v8)), (4, some (.int v10)), (5, some (.int v11)), (6, some (.long t0.1))] [] (0, 0) SH_X [m0, m1, t0.2, m3, m4, m5, m6, m7, m8, m9, m10, m11, m12, m13, m14, m15, m16] (fun t => (r t).bind k) (some t0)) : ∀ (n : Nat) (v14 : Int64) (v15 : Int32) (w16 : Mem), XE B M_X6_odds Q 98 [(0, some (.ref 0)), (2, some (.int v8)), (3, some (.int v9)), (4, some (.int v10)), (5, some (.int v11)), (6, some (.long v14)), (8, some (.int v15))] [] (0, 0) SH_X [m0, m1, w16, m3, m4, m5, m6, m7, m8, m9, m10, m11, m12, m13, m14, m15, m16] (fun t => (r t).bind k) (f_X6_odds_L98 m0 m1 v8 v9 v11 n v14 v15 w16) := by
  intro n
  induction n with
  | zero => intros; exact XE_none
  | succ n ih =>
    intro v14 v15 w16
    rw [f_X6_odds_L98]
    refine XE_iload (n := 100) dX6_odds_98 rfl rfl ?_
    refine XE_iconst (v := 1) (n := 101) dX6_odds_100 rfl (by decide) ?_
    refine XE_iload (n := 103) dX6_odds_101 rfl rfl ?_
    refine XE_ishl (n := 104) dX6_odds_103 rfl ?_
    refine XE_icmp_ge (t := 189) (n := 107) dX6_odds_104 rfl rfl (fun h36 => ?_) (fun h36 => ?_)
    · refine XE_ls (x_sub_ok (ls' := [(2, some (.int v8)), (4, some (.int v10)), (5, some (.int v11)), (6, some (.long v14))]) ⟨rfl, rfl, rfl, rfl, trivial⟩) ?_
      exact hE (v14, w16)
    · refine XE_aload_n (n := 108) dX6_odds_107 rfl rfl rfl ?_
      refine XE_callVi (ni := 0) (As := []) (st2 := fun t17 => [.ref 128]) (n := 111) (b := 0) xc_X6_80 (fun l t ht => met_X6_asNow l m0 m1 w16 m3 m4 m5 m6 m7 m8 m9 m10 m11 m12 m13 m14 m15 m16 t ht) rfl rfl rfl rfl dX6_odds_108 (Nat.le_of_ble_eq_true rfl) ⟨Nat.zero_le _, Nat.zero_le _⟩ (Nat.le_of_ble_eq_true rfl) (Nat.le_of_ble_eq_true rfl) (fun _ => rfl) rfl (fun t17 => ?_)
      refine XE_astore (i := 9) (n := 113) dX6_odds_111 rfl (Nat.le_of_ble_eq_true rfl) rfl ?_
      refine XE_iconst (v := 0) (n := 114) dX6_odds_113 rfl (by decide) ?_
      refine XE_istore (i := 10) (n := 116) dX6_odds_114 rfl (Nat.le_of_ble_eq_true rfl) rfl ?_
      refine XE_ls (x_sub_ok (ls' := [(0, some (.ref 0)), (2, some (.int v8)), (3, some (.int v9)), (4, some (.int v10)), (5, some (.int v11)), (6, some (.long v14)), (8, some (.int v15)), (9, some (.ref 128)), (10, some (.int 0))]) ⟨rfl, rfl, rfl, rfl, rfl, rfl, rfl, rfl, rfl, trivial⟩) ?_
      refine XE_reg (J := 150) (lsJ := fun t26 => [(0, some (.ref 0)), (2, some (.int v8)), (3, some (.int v9)), (4, some (.int v10)), (5, some (.int v11)), (6, some (.long v14)), (8, some (.int v15)), (9, some (.ref 128))]) (stJ := fun t26 => []) (hsJ := fun t26 => [m0, m1, t26, m3, m4, m5, m6, m7, m8, m9, m10, m11, m12, m13, m14, m15, m16]) (fun t26 => ?_) (fun hJ35 => f_X6_odds_L116_x B m0 m1 m3 m4 m5 m6 m7 m8 m9 m10 m11 m12 m13 m14 m15 m16 v8 v9 v10 v11 v14 v15 hJ35 6000 (0 : Int32) t17)
      refine XE_aload (n := 152) dX6_odds_150 rfl rfl ?_
      refine XE_callV (ni := 0) (As := []) (π := [2]) (co := [0, 1, 3, 4, 5, 6, 7, 8, 9, 10, 11, 12, 13, 14, 15, 16]) (cv := [m0, m1, m3, m4, m5, m6, m7, m8, m9, m10, m11, m12, m13, m14, m15, m16]) (nn := 17) (hs2 := fun t27 => [m0, m1, t27, m3, m4, m5, m6, m7, m8, m9, m10, m11, m12, m13, m14, m15, m16]) (st2 := fun t27 => []) (n := 155) (b := 128) xc_X6_226 (fun l t ht => met_X2_wedAll l t26 t ht) rfl rfl rfl rfl rfl dX6_odds_152 (Nat.le_of_ble_eq_true rfl) ⟨Nat.zero_le _, Nat.zero_le _⟩ (Nat.le_of_ble_eq_true rfl) (Nat.le_of_ble_eq_true rfl) ok_35 rfl rfl rfl (fun _ => rfl) (fun _ => rfl) (fun _ => rfl) rfl (fun _ => rfl) rfl (fun t27 => ?_)
      refine XE_aload (n := 157) dX6_odds_155 rfl rfl ?_
      refine XE_callV (ni := 0) (As := []) (π := [2]) (co := [0, 1, 3, 4, 5, 6, 7, 8, 9, 10, 11, 12, 13, 14, 15, 16]) (cv := [m0, m1, m3, m4, m5, m6, m7, m8, m9, m10, m11, m12, m13, m14, m15, m16]) (nn := 17) (hs2 := fun t28 => [m0, m1, t27, m3, m4, m5, m6, m7, m8, m9, m10, m11, m12, m13, m14, m15, m16]) (st2 := fun t28 => [.int t28]) (n := 160) (b := 128) xc_X6_203 (fun l t ht => met_X2_last l t27 t ht) rfl rfl rfl rfl rfl dX6_odds_157 (Nat.le_of_ble_eq_true rfl) ⟨Nat.zero_le _, Nat.zero_le _⟩ (Nat.le_of_ble_eq_true rfl) (Nat.le_of_ble_eq_true rfl) ok_35 rfl rfl rfl (fun _ => rfl) (fun _ => rfl) (fun _ => rfl) rfl (fun _ => rfl) rfl (fun t28 => ?_)
      refine XE_iload_n (n := 161) dX6_odds_160 rfl rfl rfl ?_
      refine XE_icmp_gt (t := 183) (n := 164) dX6_odds_161 rfl rfl (fun h34 => ?_) (fun h34 => ?_)
      · refine XE_iincl (n := 186) dX6_odds_183 rfl rfl (by decide) (Nat.le_of_ble_eq_true rfl) rfl (fun v29 => ?_)
        refine XE_goto (n := 98) dX6_odds_186 rfl ?_
        refine XE_ls (x_sub_ok (ls' := [(0, some (.ref 0)), (2, some (.int v8)), (3, some (.int v9)), (4, some (.int v10)), (5, some (.int v11)), (6, some (.long v14)), (8, some (.int v29))]) ⟨rfl, rfl, rfl, rfl, rfl, rfl, rfl, trivial⟩) ?_
        exact ih v14 v29 t27
      · refine XE_lload (n := 166) dX6_odds_164 rfl rfl ?_
        refine XE_iload_n (n := 167) dX6_odds_166 rfl rfl rfl ?_
        refine XE_iconst (v := 1) (n := 168) dX6_odds_167 rfl (by decide) ?_
        refine XE_isub (n := 169) dX6_odds_168 rfl ?_
        refine XE_iload (n := 171) dX6_odds_169 rfl rfl ?_
        refine XE_iload (n := 173) dX6_odds_171 rfl rfl ?_
        refine XE_callS (ni := 1) (As := [.int v15]) (π := []) (co := [0, 1, 2, 3, 4, 5, 6, 7, 8, 9, 10, 11, 12, 13, 14, 15, 16]) (cv := [m0, m1, t27, m3, m4, m5, m6, m7, m8, m9, m10, m11, m12, m13, m14, m15, m16]) (nn := 17) (hs2 := fun t30 => [m0, m1, t27, m3, m4, m5, m6, m7, m8, m9, m10, m11, m12, m13, m14, m15, m16]) (st2 := fun t30 => [.int t30, .int v11, .int (v8 - 1), .long v14]) (n := 176) xc_X6_254 (fun l t ht => met_J6_bitCount_0f7a4 l v15 t ht) rfl rfl rfl dX6_odds_173 (Nat.le_of_ble_eq_true rfl) ⟨Nat.zero_le _, Nat.zero_le _⟩ (Nat.le_of_ble_eq_true rfl) (Nat.le_of_ble_eq_true rfl) ok_33 rfl rfl rfl (fun _ => rfl) (fun _ => rfl) (fun _ => rfl) rfl (fun _ => rfl) rfl (fun t30 => ?_)
        refine XE_isub (n := 177) dX6_odds_176 rfl ?_
        refine XE_callS (ni := 2) (As := [.int (v8 - 1), .int (v11 - t30)]) (π := []) (co := [0, 1, 2, 3, 4, 5, 6, 7, 8, 9, 10, 11, 12, 13, 14, 15, 16]) (cv := [m0, m1, t27, m3, m4, m5, m6, m7, m8, m9, m10, m11, m12, m13, m14, m15, m16]) (nn := 17) (hs2 := fun t31 => [m0, m1, t27, m3, m4, m5, m6, m7, m8, m9, m10, m11, m12, m13, m14, m15, m16]) (st2 := fun t31 => [.long t31, .long v14]) (n := 180) xc_X6_259 (fun l t ht => met_X6_power l (v8 - 1) (v11 - t30) t ht) rfl rfl rfl dX6_odds_177 (Nat.le_of_ble_eq_true rfl) ⟨Nat.zero_le _, Nat.zero_le _⟩ (Nat.le_of_ble_eq_true rfl) (Nat.le_of_ble_eq_true rfl) ok_33 rfl rfl rfl (fun _ => rfl) (fun _ => rfl) (fun _ => rfl) rfl (fun _ => rfl) rfl (fun t31 => ?_)
        refine XE_ladd (n := 181) dX6_odds_180 rfl ?_
        refine XE_topl (fun v32 => ?_)
        refine XE_lstore (i := 6) (n := 183) dX6_odds_181 rfl (Nat.le_of_ble_eq_true rfl) rfl ?_
        refine XE_iincl (n := 186) dX6_odds_183 rfl rfl (by decide) (Nat.le_of_ble_eq_true rfl) rfl (fun v33 => ?_)
        refine XE_goto (n := 98) dX6_odds_186 rfl ?_
        refine XE_ls (x_sub_ok (ls' := [(0, some (.ref 0)), (2, some (.int v8)), (3, some (.int v9)), (4, some (.int v10)), (5, some (.int v11)), (6, some (.long v32)), (8, some (.int v33))]) ⟨rfl, rfl, rfl, rfl, rfl, rfl, rfl, trivial⟩) ?_
        exact ih v32 v33 t27
set_option maxRecDepth 100000 in
theorem f_X6_odds_J98_x (B : XB) (m0 : Mem) (m1 : Mem) (m2 : Mem) (m3 : Mem) (m4 : Mem) (m5 : Mem) (m6 : Mem) (m7 : Mem) (m8 : Mem) (m9 : Mem) (m10 : Mem) (m11 : Mem) (m12 : Mem) (m13 : Mem) (m14 : Mem) (m15 : Mem) (m16 : Mem) (v8 : Int32) (v9 : Int32) (v10 : Int32) (v11 : Int32) (v12 : Int64) (v13 : Int32) : XE B M_X6_odds (XQm B 0 0 SH_X) 98 [(0, some (.ref 0)), (2, some (.int v8)), (3, some (.int v9)), (4, some (.int v10)), (5, some (.int v11)), (6, some (.long v12)), (8, some (.int v13))] [] (0, 0) SH_X [m0, m1, m2, m3, m4, m5, m6, m7, m8, m9, m10, m11, m12, m13, m14, m15, m16] (fun t => some (some (.long t.1), [t.2.1, m1, t.2.2, m3, m4, m5, m6, m7, m8, m9, m10, m11, m12, m13, m14, m15, m16])) (f_X6_odds_J98 m0 m1 m2 v8 v9 v10 v11 v12 v13) := by
  unfold f_X6_odds_J98
  refine XE_ls (x_sub_ok (ls' := [(0, some (.ref 0)), (2, some (.int v8)), (3, some (.int v9)), (4, some (.int v10)), (5, some (.int v11)), (6, some (.long v12)), (8, some (.int v13))]) ⟨rfl, rfl, rfl, rfl, rfl, rfl, rfl, trivial⟩) ?_
  refine XE_reg (J := 189) (lsJ := fun t37 => [(2, some (.int v8)), (4, some (.int v10)), (5, some (.int v11)), (6, some (.long t37.1))]) (stJ := fun t37 => []) (hsJ := fun t37 => [m0, m1, t37.2, m3, m4, m5, m6, m7, m8, m9, m10, m11, m12, m13, m14, m15, m16]) (fun t37 => ?_) (fun hJ40 => f_X6_odds_L98_x B m0 m1 m3 m4 m5 m6 m7 m8 m9 m10 m11 m12 m13 m14 m15 m16 v8 v9 v10 v11 hJ40 6000 v12 v13 m2)
  refine XE_lload (n := 191) dX6_odds_189 rfl rfl ?_
  refine XE_iload_n (n := 192) dX6_odds_191 rfl rfl rfl ?_
  refine XE_iload (n := 194) dX6_odds_192 rfl rfl ?_
  refine XE_callS (ni := 2) (As := [.int v8, .int v11]) (π := []) (co := [0, 1, 2, 3, 4, 5, 6, 7, 8, 9, 10, 11, 12, 13, 14, 15, 16]) (cv := [m0, m1, t37.2, m3, m4, m5, m6, m7, m8, m9, m10, m11, m12, m13, m14, m15, m16]) (nn := 17) (hs2 := fun t38 => [m0, m1, t37.2, m3, m4, m5, m6, m7, m8, m9, m10, m11, m12, m13, m14, m15, m16]) (st2 := fun t38 => [.long t38, .long t37.1]) (n := 197) xc_X6_259 (fun l t ht => met_X6_power l v8 v11 t ht) rfl rfl rfl dX6_odds_194 (Nat.le_of_ble_eq_true rfl) ⟨Nat.zero_le _, Nat.zero_le _⟩ (Nat.le_of_ble_eq_true rfl) (Nat.le_of_ble_eq_true rfl) ok_33 rfl rfl rfl (fun _ => rfl) (fun _ => rfl) (fun _ => rfl) rfl (fun _ => rfl) rfl (fun t38 => ?_)
  refine XE_iload (n := 199) dX6_odds_197 rfl rfl ?_
  refine XE_callS (ni := 3) (As := [.long t37.1, .long t38, .int v10]) (π := []) (co := [0, 1, 2, 3, 4, 5, 6, 7, 8, 9, 10, 11, 12, 13, 14, 15, 16]) (cv := [m0, m1, t37.2, m3, m4, m5, m6, m7, m8, m9, m10, m11, m12, m13, m14, m15, m16]) (nn := 17) (hs2 := fun t39 => [m0, m1, t37.2, m3, m4, m5, m6, m7, m8, m9, m10, m11, m12, m13, m14, m15, m16]) (st2 := fun t39 => [.long t39]) (n := 202) xc_X6_263 (fun l t ht => met_X6_lowest l t37.1 t38 v10 t ht) rfl rfl rfl dX6_odds_199 (Nat.le_of_ble_eq_true rfl) ⟨Nat.zero_le _, Nat.zero_le _⟩ (Nat.le_of_ble_eq_true rfl) (Nat.le_of_ble_eq_true rfl) ok_33 rfl rfl rfl (fun _ => rfl) (fun _ => rfl) (fun _ => rfl) rfl (fun _ => rfl) rfl (fun t39 => ?_)
  exact XE_lreturn rfl dX6_odds_202 rfl (Nat.le_refl _) (Nat.le_refl _)
set_option maxRecDepth 100000 in
theorem f_X6_odds_J79_x (B : XB) (m0 : Mem) (m1 : Mem) (m2 : Mem) (m3 : Mem) (m4 : Mem) (m5 : Mem) (m6 : Mem) (m7 : Mem) (m8 : Mem) (m9 : Mem) (m10 : Mem) (m11 : Mem) (m12 : Mem) (m13 : Mem) (m14 : Mem) (m15 : Mem) (m16 : Mem) (v3 : Int32) (v4 : Int32) (v5 : Int32) (v6 : Int32) : XE B M_X6_odds (XQm B 0 0 SH_X) 79 [(0, some (.ref 0)), (1, some (.int v3)), (2, some (.int v4)), (3, some (.int v5)), (4, some (.int v6))] [] (0, 0) SH_X [m0, m1, m2, m3, m4, m5, m6, m7, m8, m9, m10, m11, m12, m13, m14, m15, m16] (fun t => some (some (.long t.1), [t.2.1, m1, t.2.2, m3, m4, m5, m6, m7, m8, m9, m10, m11, m12, m13, m14, m15, m16])) (f_X6_odds_J79 m0 m1 m2 v3 v4 v5 v6) := by
  unfold f_X6_odds_J79
  refine XE_iload_n (n := 80) dX6_odds_79 rfl rfl rfl ?_
  refine XE_aload_n (n := 81) dX6_odds_80 rfl rfl rfl ?_
  refine XE_getr (b := 64) (n := 84) xf_X6_10 rfl rfl dX6_odds_81 rfl ?_
  refine XE_getf (v := m1 0 8) (n := 87) xf_X6_125 rfl rfl rfl dX6_odds_84 rfl ?_
  refine XE_mmin (n := 90) xp_X6_248 rfl (Nat.le_of_ble_eq_true rfl) (Nat.le_of_ble_eq_true rfl) dX6_odds_87 rfl ?_
  refine XE_topi (fun v7 => ?_)
  refine XE_istore (i := 5) (n := 92) dX6_odds_90 rfl (Nat.le_of_ble_eq_true rfl) rfl ?_
  refine XE_lconst (v := 0) (n := 93) dX6_odds_92 rfl (by decide) ?_
  refine XE_lstore (i := 6) (n := 95) dX6_odds_93 rfl (Nat.le_of_ble_eq_true rfl) rfl ?_
  refine XE_iconst (v := 0) (n := 96) dX6_odds_95 rfl (by decide) ?_
  refine XE_istore (i := 8) (n := 98) dX6_odds_96 rfl (Nat.le_of_ble_eq_true rfl) rfl ?_
  refine XE_ls (x_sub_ok (ls' := [(0, some (.ref 0)), (2, some (.int v4)), (3, some (.int v5)), (4, some (.int v6)), (5, some (.int v7)), (6, some (.long 0)), (8, some (.int 0))]) ⟨rfl, rfl, rfl, rfl, rfl, rfl, rfl, trivial⟩) ?_
  exact f_X6_odds_J98_x B m0 m1 m2 m3 m4 m5 m6 m7 m8 m9 m10 m11 m12 m13 m14 m15 m16 v4 v5 v6 v7 (0 : Int64) (0 : Int32)
set_option maxRecDepth 100000 in
theorem xe_X6_odds (B : XB) (m0 : Mem) (m1 : Mem) (m2 : Mem) (m3 : Mem) (m4 : Mem) (m5 : Mem) (m6 : Mem) (m7 : Mem) (m8 : Mem) (m9 : Mem) (m10 : Mem) (m11 : Mem) (m12 : Mem) (m13 : Mem) (m14 : Mem) (m15 : Mem) (m16 : Mem) (a1 : Int32) (a2 : Int32) (a3 : Int32) (a4 : Int32) : XE B M_X6_odds (XQm B 0 0 SH_X) 0 [(0, some (.ref 0)), (1, some (.int a1)), (2, some (.int a2)), (3, some (.int a3)), (4, some (.int a4))] [] (0, 0) SH_X [m0, m1, m2, m3, m4, m5, m6, m7, m8, m9, m10, m11, m12, m13, m14, m15, m16] (fun t => some (some (.long t.1), [t.2.1, m1, t.2.2, m3, m4, m5, m6, m7, m8, m9, m10, m11, m12, m13, m14, m15, m16])) (f_X6_odds m0 m1 m2 a1 a2 a3 a4) := by
  unfold f_X6_odds
  refine XE_iload_n (n := 1) dX6_odds_0 rfl rfl rfl ?_
  refine XE_if_lt (t := 13) (n := 4) dX6_odds_1 rfl rfl (fun h49 => ?_) (fun h49 => ?_)
  · refine XE_ls (x_sub_ok (ls' := [(0, some (.ref 0))]) ⟨rfl, trivial⟩) ?_
    exact f_X6_odds_J13_x B m0 m1 m2 m3 m4 m5 m6 m7 m8 m9 m10 m11 m12 m13 m14 m15 m16
  · refine XE_iload_n (n := 5) dX6_odds_4 rfl rfl rfl ?_
    refine XE_if_lt (t := 13) (n := 8) dX6_odds_5 rfl rfl (fun h48 => ?_) (fun h48 => ?_)
    · refine XE_ls (x_sub_ok (ls' := [(0, some (.ref 0))]) ⟨rfl, trivial⟩) ?_
      exact f_X6_odds_J13_x B m0 m1 m2 m3 m4 m5 m6 m7 m8 m9 m10 m11 m12 m13 m14 m15 m16
    · refine XE_iload_n (n := 9) dX6_odds_8 rfl rfl rfl ?_
      refine XE_iconst (v := 2) (n := 10) dX6_odds_9 rfl (by decide) ?_
      refine XE_icmp_ge (t := 25) (n := 13) dX6_odds_10 rfl rfl (fun h47 => ?_) (fun h47 => ?_)
      · refine XE_iload_n (n := 26) dX6_odds_25 rfl rfl rfl ?_
        refine XE_bipush (v := 7) (n := 28) dX6_odds_26 rfl (by decide) ?_
        refine XE_icmp_gt (t := 44) (n := 31) dX6_odds_28 rfl rfl (fun h46 => ?_) (fun h46 => ?_)
        · refine XE_ls (x_sub_ok (ls' := [(0, some (.ref 0))]) ⟨rfl, trivial⟩) ?_
          exact f_X6_odds_J44_x B m0 m1 m2 m3 m4 m5 m6 m7 m8 m9 m10 m11 m12 m13 m14 m15 m16
        · refine XE_iload_n (n := 32) dX6_odds_31 rfl rfl rfl ?_
          refine XE_bipush (v := 20) (n := 34) dX6_odds_32 rfl (by decide) ?_
          refine XE_icmp_gt (t := 44) (n := 37) dX6_odds_34 rfl rfl (fun h45 => ?_) (fun h45 => ?_)
          · refine XE_ls (x_sub_ok (ls' := [(0, some (.ref 0))]) ⟨rfl, trivial⟩) ?_
            exact f_X6_odds_J44_x B m0 m1 m2 m3 m4 m5 m6 m7 m8 m9 m10 m11 m12 m13 m14 m15 m16
          · refine XE_iload_n (n := 38) dX6_odds_37 rfl rfl rfl ?_
            refine XE_sipush (v := 999) (n := 41) dX6_odds_38 rfl (by decide) ?_
            refine XE_icmp_le (t := 56) (n := 44) dX6_odds_41 rfl rfl (fun h44 => ?_) (fun h44 => ?_)
            · refine XE_iload (n := 58) dX6_odds_56 rfl rfl ?_
              refine XE_if_eq (t := 79) (n := 61) dX6_odds_58 rfl rfl (fun h43 => ?_) (fun h43 => ?_)
              · refine XE_ls (x_sub_ok (ls' := [(0, some (.ref 0)), (1, some (.int a1)), (2, some (.int a2)), (3, some (.int a3)), (4, some (.int a4))]) ⟨rfl, rfl, rfl, rfl, rfl, trivial⟩) ?_
                exact f_X6_odds_J79_x B m0 m1 m2 m3 m4 m5 m6 m7 m8 m9 m10 m11 m12 m13 m14 m15 m16 a1 a2 a3 a4
              · refine XE_iload (n := 63) dX6_odds_61 rfl rfl ?_
                refine XE_iconst (v := 1) (n := 64) dX6_odds_63 rfl (by decide) ?_
                refine XE_icmp_eq (t := 79) (n := 67) dX6_odds_64 rfl rfl (fun h42 => ?_) (fun h42 => ?_)
                · refine XE_ls (x_sub_ok (ls' := [(0, some (.ref 0)), (1, some (.int a1)), (2, some (.int a2)), (3, some (.int a3)), (4, some (.int a4))]) ⟨rfl, rfl, rfl, rfl, rfl, trivial⟩) ?_
                  exact f_X6_odds_J79_x B m0 m1 m2 m3 m4 m5 m6 m7 m8 m9 m10 m11 m12 m13 m14 m15 m16 a1 a2 a3 a4
                · refine XE_ldc2 (n := 70) dX6_odds_67 rfl xk_X6_246 ?_
                  refine XE_aload_n (n := 71) dX6_odds_70 rfl rfl rfl ?_
                  refine XE_bipush (v := (-2)) (n := 73) dX6_odds_71 rfl (by decide) ?_
                  refine XE_callVi (ni := 1) (As := [.int (-2)]) (st2 := fun t41 => [.int t41.1, .long 4000000000000000000]) (n := 76) (b := 0) xc_X6_65 (fun l t ht => met_X6_refused l m0 m1 m2 m3 m4 m5 m6 m7 m8 m9 m10 m11 m12 m13 m14 m15 m16 (-2) t ht) rfl rfl rfl rfl dX6_odds_73 (Nat.le_of_ble_eq_true rfl) ⟨Nat.zero_le _, Nat.zero_le _⟩ (Nat.le_of_ble_eq_true rfl) (Nat.le_of_ble_eq_true rfl) (fun _ => rfl) rfl (fun t41 => ?_)
                  refine XE_i2l (n := 77) dX6_odds_76 rfl ?_
                  refine XE_lsub (n := 78) dX6_odds_77 rfl ?_
                  exact XE_lreturn rfl dX6_odds_78 rfl (Nat.le_refl _) (Nat.le_refl _)
            · refine XE_ls (x_sub_ok (ls' := [(0, some (.ref 0))]) ⟨rfl, trivial⟩) ?_
              exact f_X6_odds_J44_x B m0 m1 m2 m3 m4 m5 m6 m7 m8 m9 m10 m11 m12 m13 m14 m15 m16
      · refine XE_ls (x_sub_ok (ls' := [(0, some (.ref 0))]) ⟨rfl, trivial⟩) ?_
        exact f_X6_odds_J13_x B m0 m1 m2 m3 m4 m5 m6 m7 m8 m9 m10 m11 m12 m13 m14 m15 m16
theorem met_X6_odds (l : Launch) (m0 : Mem) (m1 : Mem) (m2 : Mem) (m3 : Mem) (m4 : Mem) (m5 : Mem) (m6 : Mem) (m7 : Mem) (m8 : Mem) (m9 : Mem) (m10 : Mem) (m11 : Mem) (m12 : Mem) (m13 : Mem) (m14 : Mem) (m15 : Mem) (m16 : Mem) (a1 : Int32) (a2 : Int32) (a3 : Int32) (a4 : Int32) (t : Int64 × Mem × Mem) (ht : f_X6_odds m0 m1 m2 a1 a2 a3 a4 = some t) : XMet l yX6_odds cX6_odds 11 (some .long) 5 0 0 [.ref 0, .int a1, .int a2, .int a3, .int a4] SH_X [m0, m1, m2, m3, m4, m5, m6, m7, m8, m9, m10, m11, m12, m13, m14, m15, m16] SH_X (some (.long t.1), [t.2.1, m1, t.2.2, m3, m4, m5, m6, m7, m8, m9, m10, m11, m12, m13, m14, m15, m16]) := XMet.of (by decide +kernel) (fun _ => Nat.le_of_ble_eq_true rfl) (fun B => xe_X6_odds B m0 m1 m2 m3 m4 m5 m6 m7 m8 m9 m10 m11 m12 m13 m14 m15 m16 a1 a2 a3 a4) (by rw [ht]; rfl)
/-! X6_askedBy: EveryTwentyMinutes.askedBy(IIII)LEveryTwentyMinutes$Hall; in world X at (0,) -/
abbrev M_X6_askedBy : XM := (RX6, cX6_askedBy, 6, (some (.object "EveryTwentyMinutes$Hall")), "askedBy", 5, 0, 0)
def f_X6_askedBy (m0 : Mem) (m1 : Mem) (m2 : Mem) (a1 : Int32) (a2 : Int32) (a3 : Int32) (a4 : Int32) : Option (Mem) :=
  (f_X6_asNow m0 m1 m2).bind fun t1 =>
  (if a4 = 1 then
     (f_X2_putFirst t1 a2).bind fun t6 =>
     some (t6)
   else
     some (t1)).bind fun t8 =>
  (if a3 = 1 then
     (f_X2_putFirst t8 a1).bind fun t13 =>
     some (t13)
   else
     some (t8)).bind fun t15 =>
  (f_X2_wedAll t15).bind fun t16 =>
  some t16
set_option maxRecDepth 100000 in
theorem xe_X6_askedBy (B : XB) (m0 : Mem) (m1 : Mem) (m2 : Mem) (m3 : Mem) (m4 : Mem) (m5 : Mem) (m6 : Mem) (m7 : Mem) (m8 : Mem) (m9 : Mem) (m10 : Mem) (m11 : Mem) (m12 : Mem) (m13 : Mem) (m14 : Mem) (m15 : Mem) (m16 : Mem) (a1 : Int32) (a2 : Int32) (a3 : Int32) (a4 : Int32) : XE B M_X6_askedBy (XQm B 0 0 SH_X) 0 [(0, some (.ref 0)), (1, some (.int a1)), (2, some (.int a2)), (3, some (.int a3)), (4, some (.int a4))] [] (0, 0) SH_X [m0, m1, m2, m3, m4, m5, m6, m7, m8, m9, m10, m11, m12, m13, m14, m15, m16] (fun t => some (some (.ref 128), [m0, m1, t, m3, m4, m5, m6, m7, m8, m9, m10, m11, m12, m13, m14, m15, m16])) (f_X6_askedBy m0 m1 m2 a1 a2 a3 a4) := by
  unfold f_X6_askedBy
  refine XE_aload_n (n := 1) dX6_askedBy_0 rfl rfl rfl ?_
  refine XE_callVi (ni := 0) (As := []) (st2 := fun t1 => [.ref 128]) (n := 4) (b := 0) xc_X6_80 (fun l t ht => met_X6_asNow l m0 m1 m2 m3 m4 m5 m6 m7 m8 m9 m10 m11 m12 m13 m14 m15 m16 t ht) rfl rfl rfl rfl dX6_askedBy_1 (Nat.le_of_ble_eq_true rfl) ⟨Nat.zero_le _, Nat.zero_le _⟩ (Nat.le_of_ble_eq_true rfl) (Nat.le_of_ble_eq_true rfl) (fun _ => rfl) rfl (fun t1 => ?_)
  refine XE_astore (i := 5) (n := 6) dX6_askedBy_4 rfl (Nat.le_of_ble_eq_true rfl) rfl ?_
  refine XE_iload (n := 8) dX6_askedBy_6 rfl rfl ?_
  refine XE_iconst (v := 1) (n := 9) dX6_askedBy_8 rfl (by decide) ?_
  refine XE_reg (J := 18) (lsJ := fun t8 => [(1, some (.int a1)), (3, some (.int a3)), (5, some (.ref 128))]) (stJ := fun t8 => []) (hsJ := fun t8 => [m0, m1, t8, m3, m4, m5, m6, m7, m8, m9, m10, m11, m12, m13, m14, m15, m16]) (fun t8 => ?_) (fun hJ5 => ?_)
  · refine XE_iload_n (n := 19) dX6_askedBy_18 rfl rfl rfl ?_
    refine XE_iconst (v := 1) (n := 20) dX6_askedBy_19 rfl (by decide) ?_
    refine XE_reg (J := 29) (lsJ := fun t15 => [(5, some (.ref 128))]) (stJ := fun t15 => []) (hsJ := fun t15 => [m0, m1, t15, m3, m4, m5, m6, m7, m8, m9, m10, m11, m12, m13, m14, m15, m16]) (fun t15 => ?_) (fun hJ12 => ?_)
    · refine XE_aload (n := 31) dX6_askedBy_29 rfl rfl ?_
      refine XE_callV (ni := 0) (As := []) (π := [2]) (co := [0, 1, 3, 4, 5, 6, 7, 8, 9, 10, 11, 12, 13, 14, 15, 16]) (cv := [m0, m1, m3, m4, m5, m6, m7, m8, m9, m10, m11, m12, m13, m14, m15, m16]) (nn := 17) (hs2 := fun t16 => [m0, m1, t16, m3, m4, m5, m6, m7, m8, m9, m10, m11, m12, m13, m14, m15, m16]) (st2 := fun t16 => []) (n := 34) (b := 128) xc_X6_226 (fun l t ht => met_X2_wedAll l t15 t ht) rfl rfl rfl rfl rfl dX6_askedBy_31 (Nat.le_of_ble_eq_true rfl) ⟨Nat.zero_le _, Nat.zero_le _⟩ (Nat.le_of_ble_eq_true rfl) (Nat.le_of_ble_eq_true rfl) ok_35 rfl rfl rfl (fun _ => rfl) (fun _ => rfl) (fun _ => rfl) rfl (fun _ => rfl) rfl (fun t16 => ?_)
      refine XE_aload (n := 36) dX6_askedBy_34 rfl rfl ?_
      exact XE_areturn (Or.inl ⟨_, rfl⟩) rfl dX6_askedBy_36 rfl (Nat.le_refl _) (Nat.le_refl _)
    · refine XE_icmp_ne (t := 29) (n := 23) dX6_askedBy_20 rfl rfl (fun h14 => ?_) (fun h14 => ?_)
      · refine XE_aload (n := 25) dX6_askedBy_23 rfl rfl ?_
        refine XE_iload_n (n := 26) dX6_askedBy_25 rfl rfl rfl ?_
        refine XE_callV (ni := 1) (As := [.int a1]) (π := [2]) (co := [0, 1, 3, 4, 5, 6, 7, 8, 9, 10, 11, 12, 13, 14, 15, 16]) (cv := [m0, m1, m3, m4, m5, m6, m7, m8, m9, m10, m11, m12, m13, m14, m15, m16]) (nn := 17) (hs2 := fun t13 => [m0, m1, t13, m3, m4, m5, m6, m7, m8, m9, m10, m11, m12, m13, m14, m15, m16]) (st2 := fun t13 => []) (n := 29) (b := 128) xc_X6_167 (fun l t ht => met_X2_putFirst l t8 a1 t ht) rfl rfl rfl rfl rfl dX6_askedBy_26 (Nat.le_of_ble_eq_true rfl) ⟨Nat.zero_le _, Nat.zero_le _⟩ (Nat.le_of_ble_eq_true rfl) (Nat.le_of_ble_eq_true rfl) ok_35 rfl rfl rfl (fun _ => rfl) (fun _ => rfl) (fun _ => rfl) rfl (fun _ => rfl) rfl (fun t13 => ?_)
        refine XE_ls (x_sub_ok (ls' := [(5, some (.ref 128))]) ⟨rfl, trivial⟩) ?_
        exact hJ12 (t13)
      · refine XE_ls (x_sub_ok (ls' := [(5, some (.ref 128))]) ⟨rfl, trivial⟩) ?_
        exact hJ12 (t8)
  · refine XE_icmp_ne (t := 18) (n := 12) dX6_askedBy_9 rfl rfl (fun h7 => ?_) (fun h7 => ?_)
    · refine XE_aload (n := 14) dX6_askedBy_12 rfl rfl ?_
      refine XE_iload_n (n := 15) dX6_askedBy_14 rfl rfl rfl ?_
      refine XE_callV (ni := 1) (As := [.int a2]) (π := [2]) (co := [0, 1, 3, 4, 5, 6, 7, 8, 9, 10, 11, 12, 13, 14, 15, 16]) (cv := [m0, m1, m3, m4, m5, m6, m7, m8, m9, m10, m11, m12, m13, m14, m15, m16]) (nn := 17) (hs2 := fun t6 => [m0, m1, t6, m3, m4, m5, m6, m7, m8, m9, m10, m11, m12, m13, m14, m15, m16]) (st2 := fun t6 => []) (n := 18) (b := 128) xc_X6_167 (fun l t ht => met_X2_putFirst l t1 a2 t ht) rfl rfl rfl rfl rfl dX6_askedBy_15 (Nat.le_of_ble_eq_true rfl) ⟨Nat.zero_le _, Nat.zero_le _⟩ (Nat.le_of_ble_eq_true rfl) (Nat.le_of_ble_eq_true rfl) ok_35 rfl rfl rfl (fun _ => rfl) (fun _ => rfl) (fun _ => rfl) rfl (fun _ => rfl) rfl (fun t6 => ?_)
      refine XE_ls (x_sub_ok (ls' := [(1, some (.int a1)), (3, some (.int a3)), (5, some (.ref 128))]) ⟨rfl, rfl, rfl, trivial⟩) ?_
      exact hJ5 (t6)
    · refine XE_ls (x_sub_ok (ls' := [(1, some (.int a1)), (3, some (.int a3)), (5, some (.ref 128))]) ⟨rfl, rfl, rfl, trivial⟩) ?_
      exact hJ5 (t1)
theorem met_X6_askedBy (l : Launch) (m0 : Mem) (m1 : Mem) (m2 : Mem) (m3 : Mem) (m4 : Mem) (m5 : Mem) (m6 : Mem) (m7 : Mem) (m8 : Mem) (m9 : Mem) (m10 : Mem) (m11 : Mem) (m12 : Mem) (m13 : Mem) (m14 : Mem) (m15 : Mem) (m16 : Mem) (a1 : Int32) (a2 : Int32) (a3 : Int32) (a4 : Int32) (t : Mem) (ht : f_X6_askedBy m0 m1 m2 a1 a2 a3 a4 = some t) : XMet l yX6_askedBy cX6_askedBy 6 (some (.object "EveryTwentyMinutes$Hall")) 5 0 0 [.ref 0, .int a1, .int a2, .int a3, .int a4] SH_X [m0, m1, m2, m3, m4, m5, m6, m7, m8, m9, m10, m11, m12, m13, m14, m15, m16] SH_X (some (.ref 128), [m0, m1, t, m3, m4, m5, m6, m7, m8, m9, m10, m11, m12, m13, m14, m15, m16]) := XMet.of (by decide +kernel) (fun _ => Nat.le_of_ble_eq_true rfl) (fun B => xe_X6_askedBy B m0 m1 m2 m3 m4 m5 m6 m7 m8 m9 m10 m11 m12 m13 m14 m15 m16 a1 a2 a3 a4) (by rw [ht]; rfl)
/-! X6_oneIsContent: EveryTwentyMinutes.oneIsContent(IIII)Z in world X at (0,) -/
abbrev M_X6_oneIsContent : XM := (RX6, cX6_oneIsContent, 7, (some .boolean), "oneIsContent", 6, 0, 0)
def f_X6_oneIsContent (m0 : Mem) (m1 : Mem) (m2 : Mem) (a1 : Int32) (a2 : Int32) (a3 : Int32) (a4 : Int32) : Option (Int32 × Mem) :=
  (f_X6_askedBy m0 m1 m2 a1 a2 a3 a4).bind fun t1 =>
  (f_X2_lateOf t1 a1).bind fun t2 =>
  lt (t2 + (4 * a3)) fun v3 =>
  (f_X6_askedBy m0 m1 t1 a1 a2 (1 - a3) a4).bind fun t4 =>
  (f_X2_lateOf t4 a1).bind fun t5 =>
  lt (t5 + (4 * (1 - a3))) fun v6 =>
  if v6 < v3 then
    some ((0 : Int32), t4)
  else
    some ((1 : Int32), t4)
set_option maxRecDepth 100000 in
theorem xe_X6_oneIsContent (B : XB) (m0 : Mem) (m1 : Mem) (m2 : Mem) (m3 : Mem) (m4 : Mem) (m5 : Mem) (m6 : Mem) (m7 : Mem) (m8 : Mem) (m9 : Mem) (m10 : Mem) (m11 : Mem) (m12 : Mem) (m13 : Mem) (m14 : Mem) (m15 : Mem) (m16 : Mem) (a1 : Int32) (a2 : Int32) (a3 : Int32) (a4 : Int32) : XE B M_X6_oneIsContent (XQm B 0 0 SH_X) 0 [(0, some (.ref 0)), (1, some (.int a1)), (2, some (.int a2)), (3, some (.int a3)), (4, some (.int a4))] [] (0, 0) SH_X [m0, m1, m2, m3, m4, m5, m6, m7, m8, m9, m10, m11, m12, m13, m14, m15, m16] (fun t => some (some (.int t.1), [m0, m1, t.2, m3, m4, m5, m6, m7, m8, m9, m10, m11, m12, m13, m14, m15, m16])) (f_X6_oneIsContent m0 m1 m2 a1 a2 a3 a4) := by
  unfold f_X6_oneIsContent
  refine XE_aload_n (n := 1) dX6_oneIsContent_0 rfl rfl rfl ?_
  refine XE_iload_n (n := 2) dX6_oneIsContent_1 rfl rfl rfl ?_
  refine XE_iload_n (n := 3) dX6_oneIsContent_2 rfl rfl rfl ?_
  refine XE_iload_n (n := 4) dX6_oneIsContent_3 rfl rfl rfl ?_
  refine XE_iload (n := 6) dX6_oneIsContent_4 rfl rfl ?_
  refine XE_callVi (ni := 4) (As := [.int a1, .int a2, .int a3, .int a4]) (st2 := fun t1 => [.ref 128]) (n := 9) (b := 0) xc_X6_309 (fun l t ht => met_X6_askedBy l m0 m1 m2 m3 m4 m5 m6 m7 m8 m9 m10 m11 m12 m13 m14 m15 m16 a1 a2 a3 a4 t ht) rfl rfl rfl rfl dX6_oneIsContent_6 (Nat.le_of_ble_eq_true rfl) ⟨Nat.zero_le _, Nat.zero_le _⟩ (Nat.le_of_ble_eq_true rfl) (Nat.le_of_ble_eq_true rfl) (fun _ => rfl) rfl (fun t1 => ?_)
  refine XE_iload_n (n := 10) dX6_oneIsContent_9 rfl rfl rfl ?_
  refine XE_callV (ni := 1) (As := [.int a1]) (π := [2]) (co := [0, 1, 3, 4, 5, 6, 7, 8, 9, 10, 11, 12, 13, 14, 15, 16]) (cv := [m0, m1, m3, m4, m5, m6, m7, m8, m9, m10, m11, m12, m13, m14, m15, m16]) (nn := 17) (hs2 := fun t2 => [m0, m1, t1, m3, m4, m5, m6, m7, m8, m9, m10, m11, m12, m13, m14, m15, m16]) (st2 := fun t2 => [.int t2]) (n := 13) (b := 128) xc_X6_193 (fun l t ht => met_X2_lateOf l t1 a1 t ht) rfl rfl rfl rfl rfl dX6_oneIsContent_10 (Nat.le_of_ble_eq_true rfl) ⟨Nat.zero_le _, Nat.zero_le _⟩ (Nat.le_of_ble_eq_true rfl) (Nat.le_of_ble_eq_true rfl) ok_35 rfl rfl rfl (fun _ => rfl) (fun _ => rfl) (fun _ => rfl) rfl (fun _ => rfl) rfl (fun t2 => ?_)
  refine XE_iconst (v := 4) (n := 14) dX6_oneIsContent_13 rfl (by decide) ?_
  refine XE_iload_n (n := 15) dX6_oneIsContent_14 rfl rfl rfl ?_
  refine XE_imul (n := 16) dX6_oneIsContent_15 rfl ?_
  refine XE_iadd (n := 17) dX6_oneIsContent_16 rfl ?_
  refine XE_topi (fun v3 => ?_)
  refine XE_istore (i := 5) (n := 19) dX6_oneIsContent_17 rfl (Nat.le_of_ble_eq_true rfl) rfl ?_
  refine XE_aload_n (n := 20) dX6_oneIsContent_19 rfl rfl rfl ?_
  refine XE_iload_n (n := 21) dX6_oneIsContent_20 rfl rfl rfl ?_
  refine XE_iload_n (n := 22) dX6_oneIsContent_21 rfl rfl rfl ?_
  refine XE_iconst (v := 1) (n := 23) dX6_oneIsContent_22 rfl (by decide) ?_
  refine XE_iload_n (n := 24) dX6_oneIsContent_23 rfl rfl rfl ?_
  refine XE_isub (n := 25) dX6_oneIsContent_24 rfl ?_
  refine XE_iload (n := 27) dX6_oneIsContent_25 rfl rfl ?_
  refine XE_callVi (ni := 4) (As := [.int a1, .int a2, .int (1 - a3), .int a4]) (st2 := fun t4 => [.ref 128]) (n := 30) (b := 0) xc_X6_309 (fun l t ht => met_X6_askedBy l m0 m1 t1 m3 m4 m5 m6 m7 m8 m9 m10 m11 m12 m13 m14 m15 m16 a1 a2 (1 - a3) a4 t ht) rfl rfl rfl rfl dX6_oneIsContent_27 (Nat.le_of_ble_eq_true rfl) ⟨Nat.zero_le _, Nat.zero_le _⟩ (Nat.le_of_ble_eq_true rfl) (Nat.le_of_ble_eq_true rfl) (fun _ => rfl) rfl (fun t4 => ?_)
  refine XE_iload_n (n := 31) dX6_oneIsContent_30 rfl rfl rfl ?_
  refine XE_callV (ni := 1) (As := [.int a1]) (π := [2]) (co := [0, 1, 3, 4, 5, 6, 7, 8, 9, 10, 11, 12, 13, 14, 15, 16]) (cv := [m0, m1, m3, m4, m5, m6, m7, m8, m9, m10, m11, m12, m13, m14, m15, m16]) (nn := 17) (hs2 := fun t5 => [m0, m1, t4, m3, m4, m5, m6, m7, m8, m9, m10, m11, m12, m13, m14, m15, m16]) (st2 := fun t5 => [.int t5]) (n := 34) (b := 128) xc_X6_193 (fun l t ht => met_X2_lateOf l t4 a1 t ht) rfl rfl rfl rfl rfl dX6_oneIsContent_31 (Nat.le_of_ble_eq_true rfl) ⟨Nat.zero_le _, Nat.zero_le _⟩ (Nat.le_of_ble_eq_true rfl) (Nat.le_of_ble_eq_true rfl) ok_35 rfl rfl rfl (fun _ => rfl) (fun _ => rfl) (fun _ => rfl) rfl (fun _ => rfl) rfl (fun t5 => ?_)
  refine XE_iconst (v := 4) (n := 35) dX6_oneIsContent_34 rfl (by decide) ?_
  refine XE_iconst (v := 1) (n := 36) dX6_oneIsContent_35 rfl (by decide) ?_
  refine XE_iload_n (n := 37) dX6_oneIsContent_36 rfl rfl rfl ?_
  refine XE_isub (n := 38) dX6_oneIsContent_37 rfl ?_
  refine XE_imul (n := 39) dX6_oneIsContent_38 rfl ?_
  refine XE_iadd (n := 40) dX6_oneIsContent_39 rfl ?_
  refine XE_topi (fun v6 => ?_)
  refine XE_istore (i := 6) (n := 42) dX6_oneIsContent_40 rfl (Nat.le_of_ble_eq_true rfl) rfl ?_
  refine XE_iload (n := 44) dX6_oneIsContent_42 rfl rfl ?_
  refine XE_iload (n := 46) dX6_oneIsContent_44 rfl rfl ?_
  refine XE_icmp_gt (t := 53) (n := 49) dX6_oneIsContent_46 rfl rfl (fun h7 => ?_) (fun h7 => ?_)
  · refine XE_iconst (v := 0) (n := 54) dX6_oneIsContent_53 rfl (by decide) ?_
    exact XE_zreturn rfl rfl dX6_oneIsContent_54 rfl (Nat.le_refl _) (Nat.le_refl _)
  · refine XE_iconst (v := 1) (n := 50) dX6_oneIsContent_49 rfl (by decide) ?_
    refine XE_goto (n := 54) dX6_oneIsContent_50 rfl ?_
    exact XE_zreturn rfl rfl dX6_oneIsContent_54 rfl (Nat.le_refl _) (Nat.le_refl _)
theorem met_X6_oneIsContent (l : Launch) (m0 : Mem) (m1 : Mem) (m2 : Mem) (m3 : Mem) (m4 : Mem) (m5 : Mem) (m6 : Mem) (m7 : Mem) (m8 : Mem) (m9 : Mem) (m10 : Mem) (m11 : Mem) (m12 : Mem) (m13 : Mem) (m14 : Mem) (m15 : Mem) (m16 : Mem) (a1 : Int32) (a2 : Int32) (a3 : Int32) (a4 : Int32) (t : Int32 × Mem) (ht : f_X6_oneIsContent m0 m1 m2 a1 a2 a3 a4 = some t) : XMet l yX6_oneIsContent cX6_oneIsContent 7 (some .boolean) 6 0 0 [.ref 0, .int a1, .int a2, .int a3, .int a4] SH_X [m0, m1, m2, m3, m4, m5, m6, m7, m8, m9, m10, m11, m12, m13, m14, m15, m16] SH_X (some (.int t.1), [m0, m1, t.2, m3, m4, m5, m6, m7, m8, m9, m10, m11, m12, m13, m14, m15, m16]) := XMet.of (by decide +kernel) (fun _ => Nat.le_of_ble_eq_true rfl) (fun B => xe_X6_oneIsContent B m0 m1 m2 m3 m4 m5 m6 m7 m8 m9 m10 m11 m12 m13 m14 m15 m16 a1 a2 a3 a4) (by rw [ht]; rfl)
/-! X6_otherIsContent: EveryTwentyMinutes.otherIsContent(IIII)Z in world X at (0,) -/
abbrev M_X6_otherIsContent : XM := (RX6, cX6_otherIsContent, 7, (some .boolean), "otherIsContent", 6, 0, 0)
def f_X6_otherIsContent (m0 : Mem) (m1 : Mem) (m2 : Mem) (a1 : Int32) (a2 : Int32) (a3 : Int32) (a4 : Int32) : Option (Int32 × Mem) :=
  (f_X6_askedBy m0 m1 m2 a1 a2 a3 a4).bind fun t1 =>
  (f_X2_lateOf t1 a2).bind fun t2 =>
  lt (t2 + (4 * a4)) fun v3 =>
  (f_X6_askedBy m0 m1 t1 a1 a2 a3 (1 - a4)).bind fun t4 =>
  (f_X2_lateOf t4 a2).bind fun t5 =>
  lt (t5 + (4 * (1 - a4))) fun v6 =>
  if v6 < v3 then
    some ((0 : Int32), t4)
  else
    some ((1 : Int32), t4)
set_option maxRecDepth 100000 in
theorem xe_X6_otherIsContent (B : XB) (m0 : Mem) (m1 : Mem) (m2 : Mem) (m3 : Mem) (m4 : Mem) (m5 : Mem) (m6 : Mem) (m7 : Mem) (m8 : Mem) (m9 : Mem) (m10 : Mem) (m11 : Mem) (m12 : Mem) (m13 : Mem) (m14 : Mem) (m15 : Mem) (m16 : Mem) (a1 : Int32) (a2 : Int32) (a3 : Int32) (a4 : Int32) : XE B M_X6_otherIsContent (XQm B 0 0 SH_X) 0 [(0, some (.ref 0)), (1, some (.int a1)), (2, some (.int a2)), (3, some (.int a3)), (4, some (.int a4))] [] (0, 0) SH_X [m0, m1, m2, m3, m4, m5, m6, m7, m8, m9, m10, m11, m12, m13, m14, m15, m16] (fun t => some (some (.int t.1), [m0, m1, t.2, m3, m4, m5, m6, m7, m8, m9, m10, m11, m12, m13, m14, m15, m16])) (f_X6_otherIsContent m0 m1 m2 a1 a2 a3 a4) := by
  unfold f_X6_otherIsContent
  refine XE_aload_n (n := 1) dX6_otherIsContent_0 rfl rfl rfl ?_
  refine XE_iload_n (n := 2) dX6_otherIsContent_1 rfl rfl rfl ?_
  refine XE_iload_n (n := 3) dX6_otherIsContent_2 rfl rfl rfl ?_
  refine XE_iload_n (n := 4) dX6_otherIsContent_3 rfl rfl rfl ?_
  refine XE_iload (n := 6) dX6_otherIsContent_4 rfl rfl ?_
  refine XE_callVi (ni := 4) (As := [.int a1, .int a2, .int a3, .int a4]) (st2 := fun t1 => [.ref 128]) (n := 9) (b := 0) xc_X6_309 (fun l t ht => met_X6_askedBy l m0 m1 m2 m3 m4 m5 m6 m7 m8 m9 m10 m11 m12 m13 m14 m15 m16 a1 a2 a3 a4 t ht) rfl rfl rfl rfl dX6_otherIsContent_6 (Nat.le_of_ble_eq_true rfl) ⟨Nat.zero_le _, Nat.zero_le _⟩ (Nat.le_of_ble_eq_true rfl) (Nat.le_of_ble_eq_true rfl) (fun _ => rfl) rfl (fun t1 => ?_)
  refine XE_iload_n (n := 10) dX6_otherIsContent_9 rfl rfl rfl ?_
  refine XE_callV (ni := 1) (As := [.int a2]) (π := [2]) (co := [0, 1, 3, 4, 5, 6, 7, 8, 9, 10, 11, 12, 13, 14, 15, 16]) (cv := [m0, m1, m3, m4, m5, m6, m7, m8, m9, m10, m11, m12, m13, m14, m15, m16]) (nn := 17) (hs2 := fun t2 => [m0, m1, t1, m3, m4, m5, m6, m7, m8, m9, m10, m11, m12, m13, m14, m15, m16]) (st2 := fun t2 => [.int t2]) (n := 13) (b := 128) xc_X6_193 (fun l t ht => met_X2_lateOf l t1 a2 t ht) rfl rfl rfl rfl rfl dX6_otherIsContent_10 (Nat.le_of_ble_eq_true rfl) ⟨Nat.zero_le _, Nat.zero_le _⟩ (Nat.le_of_ble_eq_true rfl) (Nat.le_of_ble_eq_true rfl) ok_35 rfl rfl rfl (fun _ => rfl) (fun _ => rfl) (fun _ => rfl) rfl (fun _ => rfl) rfl (fun t2 => ?_)
  refine XE_iconst (v := 4) (n := 14) dX6_otherIsContent_13 rfl (by decide) ?_
  refine XE_iload (n := 16) dX6_otherIsContent_14 rfl rfl ?_
  refine XE_imul (n := 17) dX6_otherIsContent_16 rfl ?_
  refine XE_iadd (n := 18) dX6_otherIsContent_17 rfl ?_
  refine XE_topi (fun v3 => ?_)
  refine XE_istore (i := 5) (n := 20) dX6_otherIsContent_18 rfl (Nat.le_of_ble_eq_true rfl) rfl ?_
  refine XE_aload_n (n := 21) dX6_otherIsContent_20 rfl rfl rfl ?_
  refine XE_iload_n (n := 22) dX6_otherIsContent_21 rfl rfl rfl ?_
  refine XE_iload_n (n := 23) dX6_otherIsContent_22 rfl rfl rfl ?_
  refine XE_iload_n (n := 24) dX6_otherIsContent_23 rfl rfl rfl ?_
  refine XE_iconst (v := 1) (n := 25) dX6_otherIsContent_24 rfl (by decide) ?_
  refine XE_iload (n := 27) dX6_otherIsContent_25 rfl rfl ?_
  refine XE_isub (n := 28) dX6_otherIsContent_27 rfl ?_
  refine XE_callVi (ni := 4) (As := [.int a1, .int a2, .int a3, .int (1 - a4)]) (st2 := fun t4 => [.ref 128]) (n := 31) (b := 0) xc_X6_309 (fun l t ht => met_X6_askedBy l m0 m1 t1 m3 m4 m5 m6 m7 m8 m9 m10 m11 m12 m13 m14 m15 m16 a1 a2 a3 (1 - a4) t ht) rfl rfl rfl rfl dX6_otherIsContent_28 (Nat.le_of_ble_eq_true rfl) ⟨Nat.zero_le _, Nat.zero_le _⟩ (Nat.le_of_ble_eq_true rfl) (Nat.le_of_ble_eq_true rfl) (fun _ => rfl) rfl (fun t4 => ?_)
  refine XE_iload_n (n := 32) dX6_otherIsContent_31 rfl rfl rfl ?_
  refine XE_callV (ni := 1) (As := [.int a2]) (π := [2]) (co := [0, 1, 3, 4, 5, 6, 7, 8, 9, 10, 11, 12, 13, 14, 15, 16]) (cv := [m0, m1, m3, m4, m5, m6, m7, m8, m9, m10, m11, m12, m13, m14, m15, m16]) (nn := 17) (hs2 := fun t5 => [m0, m1, t4, m3, m4, m5, m6, m7, m8, m9, m10, m11, m12, m13, m14, m15, m16]) (st2 := fun t5 => [.int t5]) (n := 35) (b := 128) xc_X6_193 (fun l t ht => met_X2_lateOf l t4 a2 t ht) rfl rfl rfl rfl rfl dX6_otherIsContent_32 (Nat.le_of_ble_eq_true rfl) ⟨Nat.zero_le _, Nat.zero_le _⟩ (Nat.le_of_ble_eq_true rfl) (Nat.le_of_ble_eq_true rfl) ok_35 rfl rfl rfl (fun _ => rfl) (fun _ => rfl) (fun _ => rfl) rfl (fun _ => rfl) rfl (fun t5 => ?_)
  refine XE_iconst (v := 4) (n := 36) dX6_otherIsContent_35 rfl (by decide) ?_
  refine XE_iconst (v := 1) (n := 37) dX6_otherIsContent_36 rfl (by decide) ?_
  refine XE_iload (n := 39) dX6_otherIsContent_37 rfl rfl ?_
  refine XE_isub (n := 40) dX6_otherIsContent_39 rfl ?_
  refine XE_imul (n := 41) dX6_otherIsContent_40 rfl ?_
  refine XE_iadd (n := 42) dX6_otherIsContent_41 rfl ?_
  refine XE_topi (fun v6 => ?_)
  refine XE_istore (i := 6) (n := 44) dX6_otherIsContent_42 rfl (Nat.le_of_ble_eq_true rfl) rfl ?_
  refine XE_iload (n := 46) dX6_otherIsContent_44 rfl rfl ?_
  refine XE_iload (n := 48) dX6_otherIsContent_46 rfl rfl ?_
  refine XE_icmp_gt (t := 55) (n := 51) dX6_otherIsContent_48 rfl rfl (fun h7 => ?_) (fun h7 => ?_)
  · refine XE_iconst (v := 0) (n := 56) dX6_otherIsContent_55 rfl (by decide) ?_
    exact XE_zreturn rfl rfl dX6_otherIsContent_56 rfl (Nat.le_refl _) (Nat.le_refl _)
  · refine XE_iconst (v := 1) (n := 52) dX6_otherIsContent_51 rfl (by decide) ?_
    refine XE_goto (n := 56) dX6_otherIsContent_52 rfl ?_
    exact XE_zreturn rfl rfl dX6_otherIsContent_56 rfl (Nat.le_refl _) (Nat.le_refl _)
theorem met_X6_otherIsContent (l : Launch) (m0 : Mem) (m1 : Mem) (m2 : Mem) (m3 : Mem) (m4 : Mem) (m5 : Mem) (m6 : Mem) (m7 : Mem) (m8 : Mem) (m9 : Mem) (m10 : Mem) (m11 : Mem) (m12 : Mem) (m13 : Mem) (m14 : Mem) (m15 : Mem) (m16 : Mem) (a1 : Int32) (a2 : Int32) (a3 : Int32) (a4 : Int32) (t : Int32 × Mem) (ht : f_X6_otherIsContent m0 m1 m2 a1 a2 a3 a4 = some t) : XMet l yX6_otherIsContent cX6_otherIsContent 7 (some .boolean) 6 0 0 [.ref 0, .int a1, .int a2, .int a3, .int a4] SH_X [m0, m1, m2, m3, m4, m5, m6, m7, m8, m9, m10, m11, m12, m13, m14, m15, m16] SH_X (some (.int t.1), [m0, m1, t.2, m3, m4, m5, m6, m7, m8, m9, m10, m11, m12, m13, m14, m15, m16]) := XMet.of (by decide +kernel) (fun _ => Nat.le_of_ble_eq_true rfl) (fun B => xe_X6_otherIsContent B m0 m1 m2 m3 m4 m5 m6 m7 m8 m9 m10 m11 m12 m13 m14 m15 m16 a1 a2 a3 a4) (by rw [ht]; rfl)
/-! X6_two: EveryTwentyMinutes.two(II)I in world X at (0,) -/
abbrev M_X6_two : XM := (RX6, cX6_two, 5, (some .int), "two", 7, 0, 0)
def f_X6_two_J27 (m0 : Mem) (m2 : Mem) : Option (Int32 × Mem × Mem) :=
  (f_X6_refused m0 (-1)).bind fun t2 =>
  some (t2.1, t2.2, m2)
def f_X6_two_J55 (m0 : Mem) (m2 : Mem) : Option (Int32 × Mem × Mem) :=
  (f_X6_refused m0 (-3)).bind fun t5 =>
  some (t5.1, t5.2, m2)
def f_X6_two_L72 (K64 : Int32 → Mem → Option (Int32 × Mem × Mem)) (a1 : Int32) (a2 : Int32) (m0 : Mem) (m1 : Mem) (v7 : Int32) : Nat → Int32 → Mem → Option (Int32 × Mem × Mem)
  | 0, _, _ => none
  | n + 1, v9, w10 =>
    if 1 < v9 then
      lt (v7 + 1) fun v11 =>
      K64 v11 w10
    else
      (f_X6_oneIsContent m0 m1 w10 a1 a2 v7 v9).bind fun t12 =>
      if t12.1 = 0 then
        lt (v9 + 1) fun v13 =>
        (f_X6_two_L72 K64 a1 a2 m0 m1 v7 n) v13 t12.2
      else
        (f_X6_otherIsContent m0 m1 t12.2 a1 a2 v7 v9).bind fun t14 =>
        if t14.1 = 0 then
          lt (v9 + 1) fun v15 =>
          (f_X6_two_L72 K64 a1 a2 m0 m1 v7 n) v15 t14.2
        else
          some (((10 * v7) + v9), m0, t14.2)
def f_X6_two_L64 (a1 : Int32) (a2 : Int32) (m0 : Mem) (m1 : Mem) : Nat → Int32 → Mem → Option (Int32 × Mem × Mem)
  | 0, _, _ => none
  | n + 1, v7, w8 =>
    if 1 < v7 then
      some (((-9) : Int32), m0, w8)
    else
      f_X6_two_L72 (f_X6_two_L64 a1 a2 m0 m1 n) a1 a2 m0 m1 v7 6000 (0 : Int32) w8
def f_X6_two (m0 : Mem) (m1 : Mem) (m2 : Mem) (a1 : Int32) (a2 : Int32) : Option (Int32 × Mem × Mem) :=
  (f_X2_has m1 a1).bind fun t1 =>
  if t1 = 0 then
    f_X6_two_J27 m0 m2
  else
    (f_X2_has m1 a2).bind fun t3 =>
    if t3 = 0 then
      f_X6_two_J27 m0 m2
    else
      if a1 = a2 then
        f_X6_two_J27 m0 m2
      else
        (f_X2_isWed m1 a1).bind fun t4 =>
        if t4 = 0 then
          (f_X2_isWed m1 a2).bind fun t6 =>
          if t6 = 0 then
            f_X6_two_L64 a1 a2 m0 m1 6000 (0 : Int32) m2
          else
            f_X6_two_J55 m0 m2
        else
          f_X6_two_J55 m0 m2
set_option maxRecDepth 100000 in
theorem f_X6_two_J27_x (B : XB) (m0 : Mem) (m1 : Mem) (m2 : Mem) (m3 : Mem) (m4 : Mem) (m5 : Mem) (m6 : Mem) (m7 : Mem) (m8 : Mem) (m9 : Mem) (m10 : Mem) (m11 : Mem) (m12 : Mem) (m13 : Mem) (m14 : Mem) (m15 : Mem) (m16 : Mem) : XE B M_X6_two (XQm B 0 0 SH_X) 27 [(0, some (.ref 0))] [] (0, 0) SH_X [m0, m1, m2, m3, m4, m5, m6, m7, m8, m9, m10, m11, m12, m13, m14, m15, m16] (fun t => some (some (.int t.1), [t.2.1, m1, t.2.2, m3, m4, m5, m6, m7, m8, m9, m10, m11, m12, m13, m14, m15, m16])) (f_X6_two_J27 m0 m2) := by
  unfold f_X6_two_J27
  refine XE_aload_n (n := 28) dX6_two_27 rfl rfl rfl ?_
  refine XE_iconst (v := (-1)) (n := 29) dX6_two_28 rfl (by decide) ?_
  refine XE_callVi (ni := 1) (As := [.int (-1)]) (st2 := fun t2 => [.int t2.1]) (n := 32) (b := 0) xc_X6_65 (fun l t ht => met_X6_refused l m0 m1 m2 m3 m4 m5 m6 m7 m8 m9 m10 m11 m12 m13 m14 m15 m16 (-1) t ht) rfl rfl rfl rfl dX6_two_29 (Nat.le_of_ble_eq_true rfl) ⟨Nat.zero_le _, Nat.zero_le _⟩ (Nat.le_of_ble_eq_true rfl) (Nat.le_of_ble_eq_true rfl) (fun _ => rfl) rfl (fun t2 => ?_)
  exact XE_ireturn rfl dX6_two_32 rfl (Nat.le_refl _) (Nat.le_refl _)
set_option maxRecDepth 100000 in
theorem f_X6_two_J55_x (B : XB) (m0 : Mem) (m1 : Mem) (m2 : Mem) (m3 : Mem) (m4 : Mem) (m5 : Mem) (m6 : Mem) (m7 : Mem) (m8 : Mem) (m9 : Mem) (m10 : Mem) (m11 : Mem) (m12 : Mem) (m13 : Mem) (m14 : Mem) (m15 : Mem) (m16 : Mem) : XE B M_X6_two (XQm B 0 0 SH_X) 55 [(0, some (.ref 0))] [] (0, 0) SH_X [m0, m1, m2, m3, m4, m5, m6, m7, m8, m9, m10, m11, m12, m13, m14, m15, m16] (fun t => some (some (.int t.1), [t.2.1, m1, t.2.2, m3, m4, m5, m6, m7, m8, m9, m10, m11, m12, m13, m14, m15, m16])) (f_X6_two_J55 m0 m2) := by
  unfold f_X6_two_J55
  refine XE_aload_n (n := 56) dX6_two_55 rfl rfl rfl ?_
  refine XE_bipush (v := (-3)) (n := 58) dX6_two_56 rfl (by decide) ?_
  refine XE_callVi (ni := 1) (As := [.int (-3)]) (st2 := fun t5 => [.int t5.1]) (n := 61) (b := 0) xc_X6_65 (fun l t ht => met_X6_refused l m0 m1 m2 m3 m4 m5 m6 m7 m8 m9 m10 m11 m12 m13 m14 m15 m16 (-3) t ht) rfl rfl rfl rfl dX6_two_58 (Nat.le_of_ble_eq_true rfl) ⟨Nat.zero_le _, Nat.zero_le _⟩ (Nat.le_of_ble_eq_true rfl) (Nat.le_of_ble_eq_true rfl) (fun _ => rfl) rfl (fun t5 => ?_)
  exact XE_ireturn rfl dX6_two_61 rfl (Nat.le_refl _) (Nat.le_refl _)
set_option maxRecDepth 100000 in
theorem f_X6_two_L72_x (B : XB) (K64 : Int32 → Mem → Option (Int32 × Mem × Mem)) (a1 : Int32) (a2 : Int32) (m0 : Mem) (m1 : Mem) (m3 : Mem) (m4 : Mem) (m5 : Mem) (m6 : Mem) (m7 : Mem) (m8 : Mem) (m9 : Mem) (m10 : Mem) (m11 : Mem) (m12 : Mem) (m13 : Mem) (m14 : Mem) (m15 : Mem) (m16 : Mem) (v7 : Int32) (hK64 : ∀ (v7 : Int32) (w8 : Mem), XE B M_X6_two (XQm B 0 0 SH_X) 64 [(0, some (.ref 0)), (1, some (.int a1)), (2, some (.int a2)), (3, some (.int v7))] [] (0, 0) SH_X [m0, m1, w8, m3, m4, m5, m6, m7, m8, m9, m10, m11, m12, m13, m14, m15, m16] (fun t => some (some (.int t.1), [t.2.1, m1, t.2.2, m3, m4, m5, m6, m7, m8, m9, m10, m11, m12, m13, m14, m15, m16])) (K64 v7 w8)) : ∀ (n : Nat) (v9 : Int32) (w10 : Mem), XE B M_X6_two (XQm B 0 0 SH_X) 72 [(0, some (.ref 0)), (1, some (.int a1)), (2, some (.int a2)), (3, some (.int v7)), (4, some (.int v9))] [] (0, 0) SH_X [m0, m1, w10, m3, m4, m5, m6, m7, m8, m9, m10, m11, m12, m13, m14, m15, m16] (fun t => some (some (.int t.1), [t.2.1, m1, t.2.2, m3, m4, m5, m6, m7, m8, m9, m10, m11, m12, m13, m14, m15, m16])) (f_X6_two_L72 K64 a1 a2 m0 m1 v7 n v9 w10) := by
  intro n
  induction n with
  | zero => intros; exact XE_none
  | succ n ih =>
    intro v9 w10
    rw [f_X6_two_L72]
    refine XE_iload (n := 74) dX6_two_72 rfl rfl ?_
    refine XE_iconst (v := 1) (n := 75) dX6_two_74 rfl (by decide) ?_
    refine XE_icmp_gt (t := 116) (n := 78) dX6_two_75 rfl rfl (fun h18 => ?_) (fun h18 => ?_)
    · refine XE_iincl (n := 119) dX6_two_116 rfl rfl (by decide) (Nat.le_of_ble_eq_true rfl) rfl (fun v11 => ?_)
      refine XE_goto (n := 64) dX6_two_119 rfl ?_
      refine XE_ls (x_sub_ok (ls' := [(0, some (.ref 0)), (1, some (.int a1)), (2, some (.int a2)), (3, some (.int v11))]) ⟨rfl, rfl, rfl, rfl, trivial⟩) ?_
      exact hK64 v11 w10
    · refine XE_aload_n (n := 79) dX6_two_78 rfl rfl rfl ?_
      refine XE_iload_n (n := 80) dX6_two_79 rfl rfl rfl ?_
      refine XE_iload_n (n := 81) dX6_two_80 rfl rfl rfl ?_
      refine XE_iload_n (n := 82) dX6_two_81 rfl rfl rfl ?_
      refine XE_iload (n := 84) dX6_two_82 rfl rfl ?_
      refine XE_callVi (ni := 4) (As := [.int a1, .int a2, .int v7, .int v9]) (st2 := fun t12 => [.int t12.1]) (n := 87) (b := 0) xc_X6_267 (fun l t ht => met_X6_oneIsContent l m0 m1 w10 m3 m4 m5 m6 m7 m8 m9 m10 m11 m12 m13 m14 m15 m16 a1 a2 v7 v9 t ht) rfl rfl rfl rfl dX6_two_84 (Nat.le_of_ble_eq_true rfl) ⟨Nat.zero_le _, Nat.zero_le _⟩ (Nat.le_of_ble_eq_true rfl) (Nat.le_of_ble_eq_true rfl) (fun _ => rfl) rfl (fun t12 => ?_)
      refine XE_if_eq (t := 110) (n := 90) dX6_two_87 rfl rfl (fun h17 => ?_) (fun h17 => ?_)
      · refine XE_iincl (n := 113) dX6_two_110 rfl rfl (by decide) (Nat.le_of_ble_eq_true rfl) rfl (fun v13 => ?_)
        refine XE_goto (n := 72) dX6_two_113 rfl ?_
        refine XE_ls (x_sub_ok (ls' := [(0, some (.ref 0)), (1, some (.int a1)), (2, some (.int a2)), (3, some (.int v7)), (4, some (.int v13))]) ⟨rfl, rfl, rfl, rfl, rfl, trivial⟩) ?_
        exact ih v13 t12.2
      · refine XE_aload_n (n := 91) dX6_two_90 rfl rfl rfl ?_
        refine XE_iload_n (n := 92) dX6_two_91 rfl rfl rfl ?_
        refine XE_iload_n (n := 93) dX6_two_92 rfl rfl rfl ?_
        refine XE_iload_n (n := 94) dX6_two_93 rfl rfl rfl ?_
        refine XE_iload (n := 96) dX6_two_94 rfl rfl ?_
        refine XE_callVi (ni := 4) (As := [.int a1, .int a2, .int v7, .int v9]) (st2 := fun t14 => [.int t14.1]) (n := 99) (b := 0) xc_X6_271 (fun l t ht => met_X6_otherIsContent l m0 m1 t12.2 m3 m4 m5 m6 m7 m8 m9 m10 m11 m12 m13 m14 m15 m16 a1 a2 v7 v9 t ht) rfl rfl rfl rfl dX6_two_96 (Nat.le_of_ble_eq_true rfl) ⟨Nat.zero_le _, Nat.zero_le _⟩ (Nat.le_of_ble_eq_true rfl) (Nat.le_of_ble_eq_true rfl) (fun _ => rfl) rfl (fun t14 => ?_)
        refine XE_if_eq (t := 110) (n := 102) dX6_two_99 rfl rfl (fun h16 => ?_) (fun h16 => ?_)
        · refine XE_iincl (n := 113) dX6_two_110 rfl rfl (by decide) (Nat.le_of_ble_eq_true rfl) rfl (fun v15 => ?_)
          refine XE_goto (n := 72) dX6_two_113 rfl ?_
          refine XE_ls (x_sub_ok (ls' := [(0, some (.ref 0)), (1, some (.int a1)), (2, some (.int a2)), (3, some (.int v7)), (4, some (.int v15))]) ⟨rfl, rfl, rfl, rfl, rfl, trivial⟩) ?_
          exact ih v15 t14.2
        · refine XE_bipush (v := 10) (n := 104) dX6_two_102 rfl (by decide) ?_
          refine XE_iload_n (n := 105) dX6_two_104 rfl rfl rfl ?_
          refine XE_imul (n := 106) dX6_two_105 rfl ?_
          refine XE_iload (n := 108) dX6_two_106 rfl rfl ?_
          refine XE_iadd (n := 109) dX6_two_108 rfl ?_
          exact XE_ireturn rfl dX6_two_109 rfl (Nat.le_refl _) (Nat.le_refl _)
set_option maxRecDepth 100000 in
theorem f_X6_two_L64_x (B : XB) (a1 : Int32) (a2 : Int32) (m0 : Mem) (m1 : Mem) (m3 : Mem) (m4 : Mem) (m5 : Mem) (m6 : Mem) (m7 : Mem) (m8 : Mem) (m9 : Mem) (m10 : Mem) (m11 : Mem) (m12 : Mem) (m13 : Mem) (m14 : Mem) (m15 : Mem) (m16 : Mem) : ∀ (n : Nat) (v7 : Int32) (w8 : Mem), XE B M_X6_two (XQm B 0 0 SH_X) 64 [(0, some (.ref 0)), (1, some (.int a1)), (2, some (.int a2)), (3, some (.int v7))] [] (0, 0) SH_X [m0, m1, w8, m3, m4, m5, m6, m7, m8, m9, m10, m11, m12, m13, m14, m15, m16] (fun t => some (some (.int t.1), [t.2.1, m1, t.2.2, m3, m4, m5, m6, m7, m8, m9, m10, m11, m12, m13, m14, m15, m16])) (f_X6_two_L64 a1 a2 m0 m1 n v7 w8) := by
  intro n
  induction n with
  | zero => intros; exact XE_none
  | succ n ih =>
    intro v7 w8
    rw [f_X6_two_L64]
    refine XE_iload_n (n := 65) dX6_two_64 rfl rfl rfl ?_
    refine XE_iconst (v := 1) (n := 66) dX6_two_65 rfl (by decide) ?_
    refine XE_icmp_gt (t := 122) (n := 69) dX6_two_66 rfl rfl (fun h19 => ?_) (fun h19 => ?_)
    · refine XE_bipush (v := (-9)) (n := 124) dX6_two_122 rfl (by decide) ?_
      exact XE_ireturn rfl dX6_two_124 rfl (Nat.le_refl _) (Nat.le_refl _)
    · refine XE_iconst (v := 0) (n := 70) dX6_two_69 rfl (by decide) ?_
      refine XE_istore (i := 4) (n := 72) dX6_two_70 rfl (Nat.le_of_ble_eq_true rfl) rfl ?_
      refine XE_ls (x_sub_ok (ls' := [(0, some (.ref 0)), (1, some (.int a1)), (2, some (.int a2)), (3, some (.int v7)), (4, some (.int 0))]) ⟨rfl, rfl, rfl, rfl, rfl, trivial⟩) ?_
      exact f_X6_two_L72_x B _ a1 a2 m0 m1 m3 m4 m5 m6 m7 m8 m9 m10 m11 m12 m13 m14 m15 m16 v7 ih 6000 (0 : Int32) w8
set_option maxRecDepth 100000 in
theorem xe_X6_two (B : XB) (m0 : Mem) (m1 : Mem) (m2 : Mem) (m3 : Mem) (m4 : Mem) (m5 : Mem) (m6 : Mem) (m7 : Mem) (m8 : Mem) (m9 : Mem) (m10 : Mem) (m11 : Mem) (m12 : Mem) (m13 : Mem) (m14 : Mem) (m15 : Mem) (m16 : Mem) (a1 : Int32) (a2 : Int32) : XE B M_X6_two (XQm B 0 0 SH_X) 0 [(0, some (.ref 0)), (1, some (.int a1)), (2, some (.int a2))] [] (0, 0) SH_X [m0, m1, m2, m3, m4, m5, m6, m7, m8, m9, m10, m11, m12, m13, m14, m15, m16] (fun t => some (some (.int t.1), [t.2.1, m1, t.2.2, m3, m4, m5, m6, m7, m8, m9, m10, m11, m12, m13, m14, m15, m16])) (f_X6_two m0 m1 m2 a1 a2) := by
  unfold f_X6_two
  refine XE_aload_n (n := 1) dX6_two_0 rfl rfl rfl ?_
  refine XE_getr (b := 64) (n := 4) xf_X6_10 rfl rfl dX6_two_1 rfl ?_
  refine XE_iload_n (n := 5) dX6_two_4 rfl rfl rfl ?_
  refine XE_callV (ni := 1) (As := [.int a1]) (π := [1]) (co := [0, 2, 3, 4, 5, 6, 7, 8, 9, 10, 11, 12, 13, 14, 15, 16]) (cv := [m0, m2, m3, m4, m5, m6, m7, m8, m9, m10, m11, m12, m13, m14, m15, m16]) (nn := 17) (hs2 := fun t1 => [m0, m1, m2, m3, m4, m5, m6, m7, m8, m9, m10, m11, m12, m13, m14, m15, m16]) (st2 := fun t1 => [.int t1]) (n := 8) (b := 64) xc_X6_95 (fun l t ht => met_X2_has l m1 a1 t ht) rfl rfl rfl rfl rfl dX6_two_5 (Nat.le_of_ble_eq_true rfl) ⟨Nat.zero_le _, Nat.zero_le _⟩ (Nat.le_of_ble_eq_true rfl) (Nat.le_of_ble_eq_true rfl) ok_32 rfl rfl rfl (fun _ => rfl) (fun _ => rfl) (fun _ => rfl) rfl (fun _ => rfl) rfl (fun t1 => ?_)
  refine XE_if_eq (t := 27) (n := 11) dX6_two_8 rfl rfl (fun h24 => ?_) (fun h24 => ?_)
  · refine XE_ls (x_sub_ok (ls' := [(0, some (.ref 0))]) ⟨rfl, trivial⟩) ?_
    exact f_X6_two_J27_x B m0 m1 m2 m3 m4 m5 m6 m7 m8 m9 m10 m11 m12 m13 m14 m15 m16
  · refine XE_aload_n (n := 12) dX6_two_11 rfl rfl rfl ?_
    refine XE_getr (b := 64) (n := 15) xf_X6_10 rfl rfl dX6_two_12 rfl ?_
    refine XE_iload_n (n := 16) dX6_two_15 rfl rfl rfl ?_
    refine XE_callV (ni := 1) (As := [.int a2]) (π := [1]) (co := [0, 2, 3, 4, 5, 6, 7, 8, 9, 10, 11, 12, 13, 14, 15, 16]) (cv := [m0, m2, m3, m4, m5, m6, m7, m8, m9, m10, m11, m12, m13, m14, m15, m16]) (nn := 17) (hs2 := fun t3 => [m0, m1, m2, m3, m4, m5, m6, m7, m8, m9, m10, m11, m12, m13, m14, m15, m16]) (st2 := fun t3 => [.int t3]) (n := 19) (b := 64) xc_X6_95 (fun l t ht => met_X2_has l m1 a2 t ht) rfl rfl rfl rfl rfl dX6_two_16 (Nat.le_of_ble_eq_true rfl) ⟨Nat.zero_le _, Nat.zero_le _⟩ (Nat.le_of_ble_eq_true rfl) (Nat.le_of_ble_eq_true rfl) ok_32 rfl rfl rfl (fun _ => rfl) (fun _ => rfl) (fun _ => rfl) rfl (fun _ => rfl) rfl (fun t3 => ?_)
    refine XE_if_eq (t := 27) (n := 22) dX6_two_19 rfl rfl (fun h23 => ?_) (fun h23 => ?_)
    · refine XE_ls (x_sub_ok (ls' := [(0, some (.ref 0))]) ⟨rfl, trivial⟩) ?_
      exact f_X6_two_J27_x B m0 m1 m2 m3 m4 m5 m6 m7 m8 m9 m10 m11 m12 m13 m14 m15 m16
    · refine XE_iload_n (n := 23) dX6_two_22 rfl rfl rfl ?_
      refine XE_iload_n (n := 24) dX6_two_23 rfl rfl rfl ?_
      refine XE_icmp_ne (t := 33) (n := 27) dX6_two_24 rfl rfl (fun h22 => ?_) (fun h22 => ?_)
      · refine XE_ls (x_sub_ok (ls' := [(0, some (.ref 0))]) ⟨rfl, trivial⟩) ?_
        exact f_X6_two_J27_x B m0 m1 m2 m3 m4 m5 m6 m7 m8 m9 m10 m11 m12 m13 m14 m15 m16
      · refine XE_aload_n (n := 34) dX6_two_33 rfl rfl rfl ?_
        refine XE_getr (b := 64) (n := 37) xf_X6_10 rfl rfl dX6_two_34 rfl ?_
        refine XE_iload_n (n := 38) dX6_two_37 rfl rfl rfl ?_
        refine XE_callV (ni := 1) (As := [.int a1]) (π := [1]) (co := [0, 2, 3, 4, 5, 6, 7, 8, 9, 10, 11, 12, 13, 14, 15, 16]) (cv := [m0, m2, m3, m4, m5, m6, m7, m8, m9, m10, m11, m12, m13, m14, m15, m16]) (nn := 17) (hs2 := fun t4 => [m0, m1, m2, m3, m4, m5, m6, m7, m8, m9, m10, m11, m12, m13, m14, m15, m16]) (st2 := fun t4 => [.int t4]) (n := 41) (b := 64) xc_X6_107 (fun l t ht => met_X2_isWed l m1 a1 t ht) rfl rfl rfl rfl rfl dX6_two_38 (Nat.le_of_ble_eq_true rfl) ⟨Nat.zero_le _, Nat.zero_le _⟩ (Nat.le_of_ble_eq_true rfl) (Nat.le_of_ble_eq_true rfl) ok_32 rfl rfl rfl (fun _ => rfl) (fun _ => rfl) (fun _ => rfl) rfl (fun _ => rfl) rfl (fun t4 => ?_)
        refine XE_if_ne (t := 55) (n := 44) dX6_two_41 rfl rfl (fun h21 => ?_) (fun h21 => ?_)
        · refine XE_aload_n (n := 45) dX6_two_44 rfl rfl rfl ?_
          refine XE_getr (b := 64) (n := 48) xf_X6_10 rfl rfl dX6_two_45 rfl ?_
          refine XE_iload_n (n := 49) dX6_two_48 rfl rfl rfl ?_
          refine XE_callV (ni := 1) (As := [.int a2]) (π := [1]) (co := [0, 2, 3, 4, 5, 6, 7, 8, 9, 10, 11, 12, 13, 14, 15, 16]) (cv := [m0, m2, m3, m4, m5, m6, m7, m8, m9, m10, m11, m12, m13, m14, m15, m16]) (nn := 17) (hs2 := fun t6 => [m0, m1, m2, m3, m4, m5, m6, m7, m8, m9, m10, m11, m12, m13, m14, m15, m16]) (st2 := fun t6 => [.int t6]) (n := 52) (b := 64) xc_X6_107 (fun l t ht => met_X2_isWed l m1 a2 t ht) rfl rfl rfl rfl rfl dX6_two_49 (Nat.le_of_ble_eq_true rfl) ⟨Nat.zero_le _, Nat.zero_le _⟩ (Nat.le_of_ble_eq_true rfl) (Nat.le_of_ble_eq_true rfl) ok_32 rfl rfl rfl (fun _ => rfl) (fun _ => rfl) (fun _ => rfl) rfl (fun _ => rfl) rfl (fun t6 => ?_)
          refine XE_if_eq (t := 62) (n := 55) dX6_two_52 rfl rfl (fun h20 => ?_) (fun h20 => ?_)
          · refine XE_iconst (v := 0) (n := 63) dX6_two_62 rfl (by decide) ?_
            refine XE_istore_n (i := 3) (n := 64) dX6_two_63 rfl rfl (Nat.le_of_ble_eq_true rfl) rfl ?_
            refine XE_ls (x_sub_ok (ls' := [(0, some (.ref 0)), (1, some (.int a1)), (2, some (.int a2)), (3, some (.int 0))]) ⟨rfl, rfl, rfl, rfl, trivial⟩) ?_
            exact f_X6_two_L64_x B a1 a2 m0 m1 m3 m4 m5 m6 m7 m8 m9 m10 m11 m12 m13 m14 m15 m16 6000 (0 : Int32) m2
          · refine XE_ls (x_sub_ok (ls' := [(0, some (.ref 0))]) ⟨rfl, trivial⟩) ?_
            exact f_X6_two_J55_x B m0 m1 m2 m3 m4 m5 m6 m7 m8 m9 m10 m11 m12 m13 m14 m15 m16
        · refine XE_ls (x_sub_ok (ls' := [(0, some (.ref 0))]) ⟨rfl, trivial⟩) ?_
          exact f_X6_two_J55_x B m0 m1 m2 m3 m4 m5 m6 m7 m8 m9 m10 m11 m12 m13 m14 m15 m16
theorem met_X6_two (l : Launch) (m0 : Mem) (m1 : Mem) (m2 : Mem) (m3 : Mem) (m4 : Mem) (m5 : Mem) (m6 : Mem) (m7 : Mem) (m8 : Mem) (m9 : Mem) (m10 : Mem) (m11 : Mem) (m12 : Mem) (m13 : Mem) (m14 : Mem) (m15 : Mem) (m16 : Mem) (a1 : Int32) (a2 : Int32) (t : Int32 × Mem × Mem) (ht : f_X6_two m0 m1 m2 a1 a2 = some t) : XMet l yX6_two cX6_two 5 (some .int) 7 0 0 [.ref 0, .int a1, .int a2] SH_X [m0, m1, m2, m3, m4, m5, m6, m7, m8, m9, m10, m11, m12, m13, m14, m15, m16] SH_X (some (.int t.1), [t.2.1, m1, t.2.2, m3, m4, m5, m6, m7, m8, m9, m10, m11, m12, m13, m14, m15, m16]) := XMet.of (by decide +kernel) (fun _ => Nat.le_of_ble_eq_true rfl) (fun B => xe_X6_two B m0 m1 m2 m3 m4 m5 m6 m7 m8 m9 m10 m11 m12 m13 m14 m15 m16 a1 a2) (by rw [ht]; rfl)
/-! X6_endsAsTold: EveryTwentyMinutes.endsAsTold(LEveryTwentyMinutes$Hall;)Z in world X at (0, 128) -/
abbrev M_X6_endsAsTold : XM := (RX6, cX6_endsAsTold, 3, (some .boolean), "endsAsTold", 5, 0, 0)
def f_X6_endsAsTold_L6 (m0 : Mem) (t1 : (Mem)) : Nat → Int32 → Option (Int32 × Mem)
  | 0, _ => none
  | n + 1, v2 =>
    if (m0 0 9) ≤ v2 then
      some ((1 : Int32), t1)
    else
      (f_X2_has t1 v2).bind fun t3 =>
      if t3 = 0 then
        some ((0 : Int32), t1)
      else
        ck (inb v2 7) <|
        ck (inb v2 12) <|
        if (t1 5 (ix v2)) = (m0 1 (ix v2)) then
          lt (v2 + 1) fun v4 =>
          (f_X6_endsAsTold_L6 m0 t1 n) v4
        else
          some ((0 : Int32), t1)
def f_X6_endsAsTold (m0 : Mem) (m2 : Mem) : Option (Int32 × Mem) :=
  (f_X2_wedAll m2).bind fun t1 =>
  f_X6_endsAsTold_L6 m0 t1 6000 (0 : Int32)
set_option maxRecDepth 100000 in
theorem f_X6_endsAsTold_L6_x (B : XB) (m0 : Mem) (m1 : Mem) (m3 : Mem) (m4 : Mem) (m5 : Mem) (m6 : Mem) (m7 : Mem) (m8 : Mem) (m9 : Mem) (m10 : Mem) (m11 : Mem) (m12 : Mem) (m13 : Mem) (m14 : Mem) (m15 : Mem) (m16 : Mem) (t1 : (Mem)) : ∀ (n : Nat) (v2 : Int32), XE B M_X6_endsAsTold (XQm B 0 0 SH_X) 6 [(0, some (.ref 0)), (1, some (.ref 128)), (2, some (.int v2))] [] (0, 0) SH_X [m0, m1, t1, m3, m4, m5, m6, m7, m8, m9, m10, m11, m12, m13, m14, m15, m16] (fun t => some (some (.int t.1), [m0, m1, t.2, m3, m4, m5, m6, m7, m8, m9, m10, m11, m12, m13, m14, m15, m16])) (f_X6_endsAsTold_L6 m0 t1 n v2) := by
  intro n
  induction n with
  | zero => intros; exact XE_none
  | succ n ih =>
    intro v2
    rw [f_X6_endsAsTold_L6]
    refine XE_iload_n (n := 7) dX6_endsAsTold_6 rfl rfl rfl ?_
    refine XE_aload_n (n := 8) dX6_endsAsTold_7 rfl rfl rfl ?_
    refine XE_getf (v := m0 0 9) (n := 11) xf_X6_58 rfl rfl rfl dX6_endsAsTold_8 rfl ?_
    refine XE_icmp_ge (t := 45) (n := 14) dX6_endsAsTold_11 rfl rfl (fun h7 => ?_) (fun h7 => ?_)
    · refine XE_iconst (v := 1) (n := 46) dX6_endsAsTold_45 rfl (by decide) ?_
      exact XE_zreturn rfl rfl dX6_endsAsTold_46 rfl (Nat.le_refl _) (Nat.le_refl _)
    · refine XE_aload_n (n := 15) dX6_endsAsTold_14 rfl rfl rfl ?_
      refine XE_iload_n (n := 16) dX6_endsAsTold_15 rfl rfl rfl ?_
      refine XE_callV (ni := 1) (As := [.int v2]) (π := [2]) (co := [0, 1, 3, 4, 5, 6, 7, 8, 9, 10, 11, 12, 13, 14, 15, 16]) (cv := [m0, m1, m3, m4, m5, m6, m7, m8, m9, m10, m11, m12, m13, m14, m15, m16]) (nn := 17) (hs2 := fun t3 => [m0, m1, t1, m3, m4, m5, m6, m7, m8, m9, m10, m11, m12, m13, m14, m15, m16]) (st2 := fun t3 => [.int t3]) (n := 19) (b := 128) xc_X6_95 (fun l t ht => met_X2_has l t1 v2 t ht) rfl rfl rfl rfl rfl dX6_endsAsTold_16 (Nat.le_of_ble_eq_true rfl) ⟨Nat.zero_le _, Nat.zero_le _⟩ (Nat.le_of_ble_eq_true rfl) (Nat.le_of_ble_eq_true rfl) ok_35 rfl rfl rfl (fun _ => rfl) (fun _ => rfl) (fun _ => rfl) rfl (fun _ => rfl) rfl (fun t3 => ?_)
      refine XE_if_eq (t := 37) (n := 22) dX6_endsAsTold_19 rfl rfl (fun h6 => ?_) (fun h6 => ?_)
      · refine XE_iconst (v := 0) (n := 38) dX6_endsAsTold_37 rfl (by decide) ?_
        exact XE_zreturn rfl rfl dX6_endsAsTold_38 rfl (Nat.le_refl _) (Nat.le_refl _)
      · refine XE_aload_n (n := 23) dX6_endsAsTold_22 rfl rfl rfl ?_
        refine XE_getr (b := 133) (n := 26) xf_X6_161 rfl rfl dX6_endsAsTold_23 rfl ?_
        refine XE_iload_n (n := 27) dX6_endsAsTold_26 rfl rfl rfl ?_
        refine XE_iald (row := t1 5) (n := 28) rfl rfl dX6_endsAsTold_27 rfl ?_
        refine XE_aload_n (n := 29) dX6_endsAsTold_28 rfl rfl rfl ?_
        refine XE_getr (b := 1) (n := 32) xf_X6_54 rfl rfl dX6_endsAsTold_29 rfl ?_
        refine XE_iload_n (n := 33) dX6_endsAsTold_32 rfl rfl rfl ?_
        refine XE_iald (row := m0 1) (n := 34) rfl rfl dX6_endsAsTold_33 rfl ?_
        refine XE_icmp_eq (t := 39) (n := 37) dX6_endsAsTold_34 rfl rfl (fun h5 => ?_) (fun h5 => ?_)
        · refine XE_iincl (n := 42) dX6_endsAsTold_39 rfl rfl (by decide) (Nat.le_of_ble_eq_true rfl) rfl (fun v4 => ?_)
          refine XE_goto (n := 6) dX6_endsAsTold_42 rfl ?_
          refine XE_ls (x_sub_ok (ls' := [(0, some (.ref 0)), (1, some (.ref 128)), (2, some (.int v4))]) ⟨rfl, rfl, rfl, trivial⟩) ?_
          exact ih v4
        · refine XE_iconst (v := 0) (n := 38) dX6_endsAsTold_37 rfl (by decide) ?_
          exact XE_zreturn rfl rfl dX6_endsAsTold_38 rfl (Nat.le_refl _) (Nat.le_refl _)
set_option maxRecDepth 100000 in
theorem xe_X6_endsAsTold (B : XB) (m0 : Mem) (m1 : Mem) (m2 : Mem) (m3 : Mem) (m4 : Mem) (m5 : Mem) (m6 : Mem) (m7 : Mem) (m8 : Mem) (m9 : Mem) (m10 : Mem) (m11 : Mem) (m12 : Mem) (m13 : Mem) (m14 : Mem) (m15 : Mem) (m16 : Mem) : XE B M_X6_endsAsTold (XQm B 0 0 SH_X) 0 [(0, some (.ref 0)), (1, some (.ref 128))] [] (0, 0) SH_X [m0, m1, m2, m3, m4, m5, m6, m7, m8, m9, m10, m11, m12, m13, m14, m15, m16] (fun t => some (some (.int t.1), [m0, m1, t.2, m3, m4, m5, m6, m7, m8, m9, m10, m11, m12, m13, m14, m15, m16])) (f_X6_endsAsTold m0 m2) := by
  unfold f_X6_endsAsTold
  refine XE_aload_n (n := 1) dX6_endsAsTold_0 rfl rfl rfl ?_
  refine XE_callV (ni := 0) (As := []) (π := [2]) (co := [0, 1, 3, 4, 5, 6, 7, 8, 9, 10, 11, 12, 13, 14, 15, 16]) (cv := [m0, m1, m3, m4, m5, m6, m7, m8, m9, m10, m11, m12, m13, m14, m15, m16]) (nn := 17) (hs2 := fun t1 => [m0, m1, t1, m3, m4, m5, m6, m7, m8, m9, m10, m11, m12, m13, m14, m15, m16]) (st2 := fun t1 => []) (n := 4) (b := 128) xc_X6_226 (fun l t ht => met_X2_wedAll l m2 t ht) rfl rfl rfl rfl rfl dX6_endsAsTold_1 (Nat.le_of_ble_eq_true rfl) ⟨Nat.zero_le _, Nat.zero_le _⟩ (Nat.le_of_ble_eq_true rfl) (Nat.le_of_ble_eq_true rfl) ok_35 rfl rfl rfl (fun _ => rfl) (fun _ => rfl) (fun _ => rfl) rfl (fun _ => rfl) rfl (fun t1 => ?_)
  refine XE_iconst (v := 0) (n := 5) dX6_endsAsTold_4 rfl (by decide) ?_
  refine XE_istore_n (i := 2) (n := 6) dX6_endsAsTold_5 rfl rfl (Nat.le_of_ble_eq_true rfl) rfl ?_
  refine XE_ls (x_sub_ok (ls' := [(0, some (.ref 0)), (1, some (.ref 128)), (2, some (.int 0))]) ⟨rfl, rfl, rfl, trivial⟩) ?_
  exact f_X6_endsAsTold_L6_x B m0 m1 m3 m4 m5 m6 m7 m8 m9 m10 m11 m12 m13 m14 m15 m16 t1 6000 (0 : Int32)
theorem met_X6_endsAsTold (l : Launch) (m0 : Mem) (m1 : Mem) (m2 : Mem) (m3 : Mem) (m4 : Mem) (m5 : Mem) (m6 : Mem) (m7 : Mem) (m8 : Mem) (m9 : Mem) (m10 : Mem) (m11 : Mem) (m12 : Mem) (m13 : Mem) (m14 : Mem) (m15 : Mem) (m16 : Mem) (t : Int32 × Mem) (ht : f_X6_endsAsTold m0 m2 = some t) : XMet l yX6_endsAsTold cX6_endsAsTold 3 (some .boolean) 5 0 0 [.ref 0, .ref 128] SH_X [m0, m1, m2, m3, m4, m5, m6, m7, m8, m9, m10, m11, m12, m13, m14, m15, m16] SH_X (some (.int t.1), [m0, m1, t.2, m3, m4, m5, m6, m7, m8, m9, m10, m11, m12, m13, m14, m15, m16]) := XMet.of (by decide +kernel) (fun _ => Nat.le_of_ble_eq_true rfl) (fun B => xe_X6_endsAsTold B m0 m1 m2 m3 m4 m5 m6 m7 m8 m9 m10 m11 m12 m13 m14 m15 m16) (by rw [ht]; rfl)
/-! X6_kindsTold: EveryTwentyMinutes.kindsTold(I)I in world X at (0,) -/
abbrev M_X6_kindsTold : XM := (RX6, cX6_kindsTold, 5, (some .int), "kindsTold", 6, 0, 0)
def f_X6_kindsTold_L4 (a1 : Int32) (m0 : Mem) (m1 : Mem) : Nat → Int32 → Int32 → Mem → Option (Int32 × Mem)
  | 0, _, _, _ => none
  | n + 1, v1, v2, w3 =>
    if 6 ≤ v2 then
      some (v1, w3)
    else
      (f_X6_asNow m0 m1 w3).bind fun t4 =>
      ck (inb a1 7) <|
      lt (xs t4 1 (ix a1) v2) fun w5 =>
      (f_X6_endsAsTold m0 w5).bind fun t6 =>
      if t6.1 = 0 then
        lt (v2 + 1) fun v7 =>
        (f_X6_kindsTold_L4 a1 m0 m1 n) v1 v7 t6.2
      else
        lt (v1 ||| (1 <<< (v2 &&& 31))) fun v8 =>
        lt (v2 + 1) fun v9 =>
        (f_X6_kindsTold_L4 a1 m0 m1 n) v8 v9 t6.2
def f_X6_kindsTold (m0 : Mem) (m1 : Mem) (m2 : Mem) (a1 : Int32) : Option (Int32 × Mem) :=
  (f_X6_kindsTold_L4 a1 m0 m1 6000 (0 : Int32) (0 : Int32) m2).bind fun t12 =>
  some (t12.1, t12.2)
set_option maxRecDepth 100000 in
theorem f_X6_kindsTold_L4_x {α R : Type} (B : XB) {Q : R → State → Prop} {k : α → Option R} {r : (Int32 × Mem) → Option α} (a1 : Int32) (m0 : Mem) (m1 : Mem) (m3 : Mem) (m4 : Mem) (m5 : Mem) (m6 : Mem) (m7 : Mem) (m8 : Mem) (m9 : Mem) (m10 : Mem) (m11 : Mem) (m12 : Mem) (m13 : Mem) (m14 : Mem) (m15 : Mem) (m16 : Mem) (hE : ∀ t0 : (Int32 × Mem), XE B M_X6_kindsTold Q 45 [(2, some (.int t0.1))] [] (0, 0) SH_X [m0, m1, t0.2, m3, m4, m5, m6, m7, m8, m9, m10, m11, m12, m13, m14, m15, m16] (fun t => (r t).bind k) (some t0)) : ∀ (n : Nat) (v1 : Int32) (v2 : Int32) (w3 : Mem), XE B M_X6_kindsTold Q 4 [(0, some (.ref 0)), (1, some (.int a1)), (2, some (.int v1)), (3, some (.int v2))] [] (0, 0) SH_X [m0, m1, w3, m3, m4, m5, m6, m7, m8, m9, m10, m11, m12, m13, m14, m15, m16] (fun t => (r t).bind k) (f_X6_kindsTold_L4 a1 m0 m1 n v1 v2 w3) := by
  intro n
  induction n with
  | zero => intros; exact XE_none
  | succ n ih =>
    intro v1 v2 w3
    rw [f_X6_kindsTold_L4]
    refine XE_iload_n (n := 5) dX6_kindsTold_4 rfl rfl rfl ?_
    refine XE_bipush (v := 6) (n := 7) dX6_kindsTold_5 rfl (by decide) ?_
    refine XE_icmp_ge (t := 45) (n := 10) dX6_kindsTold_7 rfl rfl (fun h11 => ?_) (fun h11 => ?_)
    · refine XE_ls (x_sub_ok (ls' := [(2, some (.int v1))]) ⟨rfl, trivial⟩) ?_
      exact hE (v1, w3)
    · refine XE_aload_n (n := 11) dX6_kindsTold_10 rfl rfl rfl ?_
      refine XE_callVi (ni := 0) (As := []) (st2 := fun t4 => [.ref 128]) (n := 14) (b := 0) xc_X6_80 (fun l t ht => met_X6_asNow l m0 m1 w3 m3 m4 m5 m6 m7 m8 m9 m10 m11 m12 m13 m14 m15 m16 t ht) rfl rfl rfl rfl dX6_kindsTold_11 (Nat.le_of_ble_eq_true rfl) ⟨Nat.zero_le _, Nat.zero_le _⟩ (Nat.le_of_ble_eq_true rfl) (Nat.le_of_ble_eq_true rfl) (fun _ => rfl) rfl (fun t4 => ?_)
      refine XE_astore (i := 4) (n := 16) dX6_kindsTold_14 rfl (Nat.le_of_ble_eq_true rfl) rfl ?_
      refine XE_aload (n := 18) dX6_kindsTold_16 rfl rfl ?_
      refine XE_getr (b := 129) (n := 21) xf_X6_98 rfl rfl dX6_kindsTold_18 rfl ?_
      refine XE_iload_n (n := 22) dX6_kindsTold_21 rfl rfl rfl ?_
      refine XE_iload_n (n := 23) dX6_kindsTold_22 rfl rfl rfl ?_
      refine XE_iast (hs2 := fun w5 => [m0, m1, w5, m3, m4, m5, m6, m7, m8, m9, m10, m11, m12, m13, m14, m15, m16]) (n := 24) rfl rfl rfl (Nat.le_of_ble_eq_true rfl) (fun _ => rfl) dX6_kindsTold_23 rfl (fun w5 => ?_)
      refine XE_aload_n (n := 25) dX6_kindsTold_24 rfl rfl rfl ?_
      refine XE_aload (n := 27) dX6_kindsTold_25 rfl rfl ?_
      refine XE_callVi (ni := 1) (As := [.ref 128]) (st2 := fun t6 => [.int t6.1]) (n := 30) (b := 0) xc_X6_313 (fun l t ht => met_X6_endsAsTold l m0 m1 w5 m3 m4 m5 m6 m7 m8 m9 m10 m11 m12 m13 m14 m15 m16 t ht) rfl rfl rfl rfl dX6_kindsTold_27 (Nat.le_of_ble_eq_true rfl) ⟨Nat.zero_le _, Nat.zero_le _⟩ (Nat.le_of_ble_eq_true rfl) (Nat.le_of_ble_eq_true rfl) (fun _ => rfl) rfl (fun t6 => ?_)
      refine XE_if_eq (t := 39) (n := 33) dX6_kindsTold_30 rfl rfl (fun h10 => ?_) (fun h10 => ?_)
      · refine XE_iincl (n := 42) dX6_kindsTold_39 rfl rfl (by decide) (Nat.le_of_ble_eq_true rfl) rfl (fun v7 => ?_)
        refine XE_goto (n := 4) dX6_kindsTold_42 rfl ?_
        refine XE_ls (x_sub_ok (ls' := [(0, some (.ref 0)), (1, some (.int a1)), (2, some (.int v1)), (3, some (.int v7))]) ⟨rfl, rfl, rfl, rfl, trivial⟩) ?_
        exact ih v1 v7 t6.2
      · refine XE_iload_n (n := 34) dX6_kindsTold_33 rfl rfl rfl ?_
        refine XE_iconst (v := 1) (n := 35) dX6_kindsTold_34 rfl (by decide) ?_
        refine XE_iload_n (n := 36) dX6_kindsTold_35 rfl rfl rfl ?_
        refine XE_ishl (n := 37) dX6_kindsTold_36 rfl ?_
        refine XE_ior (n := 38) dX6_kindsTold_37 rfl ?_
        refine XE_topi (fun v8 => ?_)
        refine XE_istore_n (i := 2) (n := 39) dX6_kindsTold_38 rfl rfl (Nat.le_of_ble_eq_true rfl) rfl ?_
        refine XE_iincl (n := 42) dX6_kindsTold_39 rfl rfl (by decide) (Nat.le_of_ble_eq_true rfl) rfl (fun v9 => ?_)
        refine XE_goto (n := 4) dX6_kindsTold_42 rfl ?_
        refine XE_ls (x_sub_ok (ls' := [(0, some (.ref 0)), (1, some (.int a1)), (2, some (.int v8)), (3, some (.int v9))]) ⟨rfl, rfl, rfl, rfl, trivial⟩) ?_
        exact ih v8 v9 t6.2
set_option maxRecDepth 100000 in
theorem xe_X6_kindsTold (B : XB) (m0 : Mem) (m1 : Mem) (m2 : Mem) (m3 : Mem) (m4 : Mem) (m5 : Mem) (m6 : Mem) (m7 : Mem) (m8 : Mem) (m9 : Mem) (m10 : Mem) (m11 : Mem) (m12 : Mem) (m13 : Mem) (m14 : Mem) (m15 : Mem) (m16 : Mem) (a1 : Int32) : XE B M_X6_kindsTold (XQm B 0 0 SH_X) 0 [(0, some (.ref 0)), (1, some (.int a1))] [] (0, 0) SH_X [m0, m1, m2, m3, m4, m5, m6, m7, m8, m9, m10, m11, m12, m13, m14, m15, m16] (fun t => some (some (.int t.1), [m0, m1, t.2, m3, m4, m5, m6, m7, m8, m9, m10, m11, m12, m13, m14, m15, m16])) (f_X6_kindsTold m0 m1 m2 a1) := by
  unfold f_X6_kindsTold
  refine XE_iconst (v := 0) (n := 1) dX6_kindsTold_0 rfl (by decide) ?_
  refine XE_istore_n (i := 2) (n := 2) dX6_kindsTold_1 rfl rfl (Nat.le_of_ble_eq_true rfl) rfl ?_
  refine XE_iconst (v := 0) (n := 3) dX6_kindsTold_2 rfl (by decide) ?_
  refine XE_istore_n (i := 3) (n := 4) dX6_kindsTold_3 rfl rfl (Nat.le_of_ble_eq_true rfl) rfl ?_
  refine XE_ls (x_sub_ok (ls' := [(0, some (.ref 0)), (1, some (.int a1)), (2, some (.int 0)), (3, some (.int 0))]) ⟨rfl, rfl, rfl, rfl, trivial⟩) ?_
  refine XE_reg (J := 45) (lsJ := fun t12 => [(2, some (.int t12.1))]) (stJ := fun t12 => []) (hsJ := fun t12 => [m0, m1, t12.2, m3, m4, m5, m6, m7, m8, m9, m10, m11, m12, m13, m14, m15, m16]) (fun t12 => ?_) (fun hJ13 => f_X6_kindsTold_L4_x B a1 m0 m1 m3 m4 m5 m6 m7 m8 m9 m10 m11 m12 m13 m14 m15 m16 hJ13 6000 (0 : Int32) (0 : Int32) m2)
  refine XE_iload_n (n := 46) dX6_kindsTold_45 rfl rfl rfl ?_
  exact XE_ireturn rfl dX6_kindsTold_46 rfl (Nat.le_refl _) (Nat.le_refl _)
theorem met_X6_kindsTold (l : Launch) (m0 : Mem) (m1 : Mem) (m2 : Mem) (m3 : Mem) (m4 : Mem) (m5 : Mem) (m6 : Mem) (m7 : Mem) (m8 : Mem) (m9 : Mem) (m10 : Mem) (m11 : Mem) (m12 : Mem) (m13 : Mem) (m14 : Mem) (m15 : Mem) (m16 : Mem) (a1 : Int32) (t : Int32 × Mem) (ht : f_X6_kindsTold m0 m1 m2 a1 = some t) : XMet l yX6_kindsTold cX6_kindsTold 5 (some .int) 6 0 0 [.ref 0, .int a1] SH_X [m0, m1, m2, m3, m4, m5, m6, m7, m8, m9, m10, m11, m12, m13, m14, m15, m16] SH_X (some (.int t.1), [m0, m1, t.2, m3, m4, m5, m6, m7, m8, m9, m10, m11, m12, m13, m14, m15, m16]) := XMet.of (by decide +kernel) (fun _ => Nat.le_of_ble_eq_true rfl) (fun B => xe_X6_kindsTold B m0 m1 m2 m3 m4 m5 m6 m7 m8 m9 m10 m11 m12 m13 m14 m15 m16 a1) (by rw [ht]; rfl)
/-! X6_figuresTold: EveryTwentyMinutes.figuresTold(I)I in world X at (0,) -/
abbrev M_X6_figuresTold : XM := (RX6, cX6_figuresTold, 5, (some .int), "figuresTold", 6, 0, 0)
def f_X6_figuresTold_L4 (a1 : Int32) (m0 : Mem) (m1 : Mem) : Nat → Int32 → Int32 → Mem → Option (Int32 × Mem)
  | 0, _, _, _ => none
  | n + 1, v1, v2, w3 =>
    if 9 < v2 then
      some (v1, w3)
    else
      (f_X6_asNow m0 m1 w3).bind fun t4 =>
      ck (inb a1 7) <|
      lt (xs t4 2 (ix a1) v2) fun w5 =>
      (f_X6_endsAsTold m0 w5).bind fun t6 =>
      if t6.1 = 0 then
        lt (v2 + 1) fun v7 =>
        (f_X6_figuresTold_L4 a1 m0 m1 n) v1 v7 t6.2
      else
        lt (v1 ||| (1 <<< (v2 &&& 31))) fun v8 =>
        lt (v2 + 1) fun v9 =>
        (f_X6_figuresTold_L4 a1 m0 m1 n) v8 v9 t6.2
def f_X6_figuresTold (m0 : Mem) (m1 : Mem) (m2 : Mem) (a1 : Int32) : Option (Int32 × Mem) :=
  (f_X6_figuresTold_L4 a1 m0 m1 6000 (0 : Int32) (0 : Int32) m2).bind fun t12 =>
  some (t12.1, t12.2)
set_option maxRecDepth 100000 in
theorem f_X6_figuresTold_L4_x {α R : Type} (B : XB) {Q : R → State → Prop} {k : α → Option R} {r : (Int32 × Mem) → Option α} (a1 : Int32) (m0 : Mem) (m1 : Mem) (m3 : Mem) (m4 : Mem) (m5 : Mem) (m6 : Mem) (m7 : Mem) (m8 : Mem) (m9 : Mem) (m10 : Mem) (m11 : Mem) (m12 : Mem) (m13 : Mem) (m14 : Mem) (m15 : Mem) (m16 : Mem) (hE : ∀ t0 : (Int32 × Mem), XE B M_X6_figuresTold Q 45 [(2, some (.int t0.1))] [] (0, 0) SH_X [m0, m1, t0.2, m3, m4, m5, m6, m7, m8, m9, m10, m11, m12, m13, m14, m15, m16] (fun t => (r t).bind k) (some t0)) : ∀ (n : Nat) (v1 : Int32) (v2 : Int32) (w3 : Mem), XE B M_X6_figuresTold Q 4 [(0, some (.ref 0)), (1, some (.int a1)), (2, some (.int v1)), (3, some (.int v2))] [] (0, 0) SH_X [m0, m1, w3, m3, m4, m5, m6, m7, m8, m9, m10, m11, m12, m13, m14, m15, m16] (fun t => (r t).bind k) (f_X6_figuresTold_L4 a1 m0 m1 n v1 v2 w3) := by
  intro n
  induction n with
  | zero => intros; exact XE_none
  | succ n ih =>
    intro v1 v2 w3
    rw [f_X6_figuresTold_L4]
    refine XE_iload_n (n := 5) dX6_figuresTold_4 rfl rfl rfl ?_
    refine XE_bipush (v := 9) (n := 7) dX6_figuresTold_5 rfl (by decide) ?_
    refine XE_icmp_gt (t := 45) (n := 10) dX6_figuresTold_7 rfl rfl (fun h11 => ?_) (fun h11 => ?_)
    · refine XE_ls (x_sub_ok (ls' := [(2, some (.int v1))]) ⟨rfl, trivial⟩) ?_
      exact hE (v1, w3)
    · refine XE_aload_n (n := 11) dX6_figuresTold_10 rfl rfl rfl ?_
      refine XE_callVi (ni := 0) (As := []) (st2 := fun t4 => [.ref 128]) (n := 14) (b := 0) xc_X6_80 (fun l t ht => met_X6_asNow l m0 m1 w3 m3 m4 m5 m6 m7 m8 m9 m10 m11 m12 m13 m14 m15 m16 t ht) rfl rfl rfl rfl dX6_figuresTold_11 (Nat.le_of_ble_eq_true rfl) ⟨Nat.zero_le _, Nat.zero_le _⟩ (Nat.le_of_ble_eq_true rfl) (Nat.le_of_ble_eq_true rfl) (fun _ => rfl) rfl (fun t4 => ?_)
      refine XE_astore (i := 4) (n := 16) dX6_figuresTold_14 rfl (Nat.le_of_ble_eq_true rfl) rfl ?_
      refine XE_aload (n := 18) dX6_figuresTold_16 rfl rfl ?_
      refine XE_getr (b := 130) (n := 21) xf_X6_101 rfl rfl dX6_figuresTold_18 rfl ?_
      refine XE_iload_n (n := 22) dX6_figuresTold_21 rfl rfl rfl ?_
      refine XE_iload_n (n := 23) dX6_figuresTold_22 rfl rfl rfl ?_
      refine XE_iast (hs2 := fun w5 => [m0, m1, w5, m3, m4, m5, m6, m7, m8, m9, m10, m11, m12, m13, m14, m15, m16]) (n := 24) rfl rfl rfl (Nat.le_of_ble_eq_true rfl) (fun _ => rfl) dX6_figuresTold_23 rfl (fun w5 => ?_)
      refine XE_aload_n (n := 25) dX6_figuresTold_24 rfl rfl rfl ?_
      refine XE_aload (n := 27) dX6_figuresTold_25 rfl rfl ?_
      refine XE_callVi (ni := 1) (As := [.ref 128]) (st2 := fun t6 => [.int t6.1]) (n := 30) (b := 0) xc_X6_313 (fun l t ht => met_X6_endsAsTold l m0 m1 w5 m3 m4 m5 m6 m7 m8 m9 m10 m11 m12 m13 m14 m15 m16 t ht) rfl rfl rfl rfl dX6_figuresTold_27 (Nat.le_of_ble_eq_true rfl) ⟨Nat.zero_le _, Nat.zero_le _⟩ (Nat.le_of_ble_eq_true rfl) (Nat.le_of_ble_eq_true rfl) (fun _ => rfl) rfl (fun t6 => ?_)
      refine XE_if_eq (t := 39) (n := 33) dX6_figuresTold_30 rfl rfl (fun h10 => ?_) (fun h10 => ?_)
      · refine XE_iincl (n := 42) dX6_figuresTold_39 rfl rfl (by decide) (Nat.le_of_ble_eq_true rfl) rfl (fun v7 => ?_)
        refine XE_goto (n := 4) dX6_figuresTold_42 rfl ?_
        refine XE_ls (x_sub_ok (ls' := [(0, some (.ref 0)), (1, some (.int a1)), (2, some (.int v1)), (3, some (.int v7))]) ⟨rfl, rfl, rfl, rfl, trivial⟩) ?_
        exact ih v1 v7 t6.2
      · refine XE_iload_n (n := 34) dX6_figuresTold_33 rfl rfl rfl ?_
        refine XE_iconst (v := 1) (n := 35) dX6_figuresTold_34 rfl (by decide) ?_
        refine XE_iload_n (n := 36) dX6_figuresTold_35 rfl rfl rfl ?_
        refine XE_ishl (n := 37) dX6_figuresTold_36 rfl ?_
        refine XE_ior (n := 38) dX6_figuresTold_37 rfl ?_
        refine XE_topi (fun v8 => ?_)
        refine XE_istore_n (i := 2) (n := 39) dX6_figuresTold_38 rfl rfl (Nat.le_of_ble_eq_true rfl) rfl ?_
        refine XE_iincl (n := 42) dX6_figuresTold_39 rfl rfl (by decide) (Nat.le_of_ble_eq_true rfl) rfl (fun v9 => ?_)
        refine XE_goto (n := 4) dX6_figuresTold_42 rfl ?_
        refine XE_ls (x_sub_ok (ls' := [(0, some (.ref 0)), (1, some (.int a1)), (2, some (.int v8)), (3, some (.int v9))]) ⟨rfl, rfl, rfl, rfl, trivial⟩) ?_
        exact ih v8 v9 t6.2
set_option maxRecDepth 100000 in
theorem xe_X6_figuresTold (B : XB) (m0 : Mem) (m1 : Mem) (m2 : Mem) (m3 : Mem) (m4 : Mem) (m5 : Mem) (m6 : Mem) (m7 : Mem) (m8 : Mem) (m9 : Mem) (m10 : Mem) (m11 : Mem) (m12 : Mem) (m13 : Mem) (m14 : Mem) (m15 : Mem) (m16 : Mem) (a1 : Int32) : XE B M_X6_figuresTold (XQm B 0 0 SH_X) 0 [(0, some (.ref 0)), (1, some (.int a1))] [] (0, 0) SH_X [m0, m1, m2, m3, m4, m5, m6, m7, m8, m9, m10, m11, m12, m13, m14, m15, m16] (fun t => some (some (.int t.1), [m0, m1, t.2, m3, m4, m5, m6, m7, m8, m9, m10, m11, m12, m13, m14, m15, m16])) (f_X6_figuresTold m0 m1 m2 a1) := by
  unfold f_X6_figuresTold
  refine XE_iconst (v := 0) (n := 1) dX6_figuresTold_0 rfl (by decide) ?_
  refine XE_istore_n (i := 2) (n := 2) dX6_figuresTold_1 rfl rfl (Nat.le_of_ble_eq_true rfl) rfl ?_
  refine XE_iconst (v := 0) (n := 3) dX6_figuresTold_2 rfl (by decide) ?_
  refine XE_istore_n (i := 3) (n := 4) dX6_figuresTold_3 rfl rfl (Nat.le_of_ble_eq_true rfl) rfl ?_
  refine XE_ls (x_sub_ok (ls' := [(0, some (.ref 0)), (1, some (.int a1)), (2, some (.int 0)), (3, some (.int 0))]) ⟨rfl, rfl, rfl, rfl, trivial⟩) ?_
  refine XE_reg (J := 45) (lsJ := fun t12 => [(2, some (.int t12.1))]) (stJ := fun t12 => []) (hsJ := fun t12 => [m0, m1, t12.2, m3, m4, m5, m6, m7, m8, m9, m10, m11, m12, m13, m14, m15, m16]) (fun t12 => ?_) (fun hJ13 => f_X6_figuresTold_L4_x B a1 m0 m1 m3 m4 m5 m6 m7 m8 m9 m10 m11 m12 m13 m14 m15 m16 hJ13 6000 (0 : Int32) (0 : Int32) m2)
  refine XE_iload_n (n := 46) dX6_figuresTold_45 rfl rfl rfl ?_
  exact XE_ireturn rfl dX6_figuresTold_46 rfl (Nat.le_refl _) (Nat.le_refl _)
theorem met_X6_figuresTold (l : Launch) (m0 : Mem) (m1 : Mem) (m2 : Mem) (m3 : Mem) (m4 : Mem) (m5 : Mem) (m6 : Mem) (m7 : Mem) (m8 : Mem) (m9 : Mem) (m10 : Mem) (m11 : Mem) (m12 : Mem) (m13 : Mem) (m14 : Mem) (m15 : Mem) (m16 : Mem) (a1 : Int32) (t : Int32 × Mem) (ht : f_X6_figuresTold m0 m1 m2 a1 = some t) : XMet l yX6_figuresTold cX6_figuresTold 5 (some .int) 6 0 0 [.ref 0, .int a1] SH_X [m0, m1, m2, m3, m4, m5, m6, m7, m8, m9, m10, m11, m12, m13, m14, m15, m16] SH_X (some (.int t.1), [m0, m1, t.2, m3, m4, m5, m6, m7, m8, m9, m10, m11, m12, m13, m14, m15, m16]) := XMet.of (by decide +kernel) (fun _ => Nat.le_of_ble_eq_true rfl) (fun B => xe_X6_figuresTold B m0 m1 m2 m3 m4 m5 m6 m7 m8 m9 m10 m11 m12 m13 m14 m15 m16 a1) (by rw [ht]; rfl)
/-! X6_minutesTold: EveryTwentyMinutes.minutesTold(IZ)I in world X at (0,) -/
abbrev M_X6_minutesTold : XM := (RX6, cX6_minutesTold, 6, (some .int), "minutesTold", 6, 0, 0)
def f_X6_minutesTold_L5 (a1 : Int32) (a2 : Int32) (m0 : Mem) (m1 : Mem) : Nat → Int32 → Int32 → Mem → Option (Int32 × Mem)
  | 0, _, _, _ => none
  | n + 1, v1, v2, w3 =>
    if 240 < v2 then
      if a2 = 0 then
        some (v1, w3)
      else
        some (((-9) : Int32), w3)
    else
      (f_X6_asNow m0 m1 w3).bind fun t5 =>
      ck (inb a1 7) <|
      lt (xs t5 3 (ix a1) v2) fun w6 =>
      (f_X6_endsAsTold m0 w6).bind fun t7 =>
      if t7.1 = 0 then
        lt (v2 + 1) fun v8 =>
        (f_X6_minutesTold_L5 a1 a2 m0 m1 n) v1 v8 t7.2
      else
        if a2 = 0 then
          lt (v1 + 1) fun v9 =>
          lt (v2 + 1) fun v10 =>
          (f_X6_minutesTold_L5 a1 a2 m0 m1 n) v9 v10 t7.2
        else
          some (v2, t7.2)
def f_X6_minutesTold (m0 : Mem) (m1 : Mem) (m2 : Mem) (a1 : Int32) (a2 : Int32) : Option (Int32 × Mem) :=
  f_X6_minutesTold_L5 a1 a2 m0 m1 6000 (0 : Int32) (0 : Int32) m2
set_option maxRecDepth 100000 in
theorem f_X6_minutesTold_L5_x (B : XB) (a1 : Int32) (a2 : Int32) (m0 : Mem) (m1 : Mem) (m3 : Mem) (m4 : Mem) (m5 : Mem) (m6 : Mem) (m7 : Mem) (m8 : Mem) (m9 : Mem) (m10 : Mem) (m11 : Mem) (m12 : Mem) (m13 : Mem) (m14 : Mem) (m15 : Mem) (m16 : Mem) : ∀ (n : Nat) (v1 : Int32) (v2 : Int32) (w3 : Mem), XE B M_X6_minutesTold (XQm B 0 0 SH_X) 5 [(0, some (.ref 0)), (1, some (.int a1)), (2, some (.int a2)), (3, some (.int v1)), (4, some (.int v2))] [] (0, 0) SH_X [m0, m1, w3, m3, m4, m5, m6, m7, m8, m9, m10, m11, m12, m13, m14, m15, m16] (fun t => some (some (.int t.1), [m0, m1, t.2, m3, m4, m5, m6, m7, m8, m9, m10, m11, m12, m13, m14, m15, m16])) (f_X6_minutesTold_L5 a1 a2 m0 m1 n v1 v2 w3) := by
  intro n
  induction n with
  | zero => intros; exact XE_none
  | succ n ih =>
    intro v1 v2 w3
    rw [f_X6_minutesTold_L5]
    refine XE_iload (n := 7) dX6_minutesTold_5 rfl rfl ?_
    refine XE_sipush (v := 240) (n := 10) dX6_minutesTold_7 rfl (by decide) ?_
    refine XE_icmp_gt (t := 53) (n := 13) dX6_minutesTold_10 rfl rfl (fun h13 => ?_) (fun h13 => ?_)
    · refine XE_iload_n (n := 54) dX6_minutesTold_53 rfl rfl rfl ?_
      refine XE_if_eq (t := 62) (n := 57) dX6_minutesTold_54 rfl rfl (fun h4 => ?_) (fun h4 => ?_)
      · refine XE_iload_n (n := 63) dX6_minutesTold_62 rfl rfl rfl ?_
        exact XE_ireturn rfl dX6_minutesTold_63 rfl (Nat.le_refl _) (Nat.le_refl _)
      · refine XE_bipush (v := (-9)) (n := 59) dX6_minutesTold_57 rfl (by decide) ?_
        refine XE_goto (n := 63) dX6_minutesTold_59 rfl ?_
        exact XE_ireturn rfl dX6_minutesTold_63 rfl (Nat.le_refl _) (Nat.le_refl _)
    · refine XE_aload_n (n := 14) dX6_minutesTold_13 rfl rfl rfl ?_
      refine XE_callVi (ni := 0) (As := []) (st2 := fun t5 => [.ref 128]) (n := 17) (b := 0) xc_X6_80 (fun l t ht => met_X6_asNow l m0 m1 w3 m3 m4 m5 m6 m7 m8 m9 m10 m11 m12 m13 m14 m15 m16 t ht) rfl rfl rfl rfl dX6_minutesTold_14 (Nat.le_of_ble_eq_true rfl) ⟨Nat.zero_le _, Nat.zero_le _⟩ (Nat.le_of_ble_eq_true rfl) (Nat.le_of_ble_eq_true rfl) (fun _ => rfl) rfl (fun t5 => ?_)
      refine XE_astore (i := 5) (n := 19) dX6_minutesTold_17 rfl (Nat.le_of_ble_eq_true rfl) rfl ?_
      refine XE_aload (n := 21) dX6_minutesTold_19 rfl rfl ?_
      refine XE_getr (b := 131) (n := 24) xf_X6_104 rfl rfl dX6_minutesTold_21 rfl ?_
      refine XE_iload_n (n := 25) dX6_minutesTold_24 rfl rfl rfl ?_
      refine XE_iload (n := 27) dX6_minutesTold_25 rfl rfl ?_
      refine XE_iast (hs2 := fun w6 => [m0, m1, w6, m3, m4, m5, m6, m7, m8, m9, m10, m11, m12, m13, m14, m15, m16]) (n := 28) rfl rfl rfl (Nat.le_of_ble_eq_true rfl) (fun _ => rfl) dX6_minutesTold_27 rfl (fun w6 => ?_)
      refine XE_aload_n (n := 29) dX6_minutesTold_28 rfl rfl rfl ?_
      refine XE_aload (n := 31) dX6_minutesTold_29 rfl rfl ?_
      refine XE_callVi (ni := 1) (As := [.ref 128]) (st2 := fun t7 => [.int t7.1]) (n := 34) (b := 0) xc_X6_313 (fun l t ht => met_X6_endsAsTold l m0 m1 w6 m3 m4 m5 m6 m7 m8 m9 m10 m11 m12 m13 m14 m15 m16 t ht) rfl rfl rfl rfl dX6_minutesTold_31 (Nat.le_of_ble_eq_true rfl) ⟨Nat.zero_le _, Nat.zero_le _⟩ (Nat.le_of_ble_eq_true rfl) (Nat.le_of_ble_eq_true rfl) (fun _ => rfl) rfl (fun t7 => ?_)
      refine XE_if_eq (t := 47) (n := 37) dX6_minutesTold_34 rfl rfl (fun h12 => ?_) (fun h12 => ?_)
      · refine XE_iincl (n := 50) dX6_minutesTold_47 rfl rfl (by decide) (Nat.le_of_ble_eq_true rfl) rfl (fun v8 => ?_)
        refine XE_goto (n := 5) dX6_minutesTold_50 rfl ?_
        refine XE_ls (x_sub_ok (ls' := [(0, some (.ref 0)), (1, some (.int a1)), (2, some (.int a2)), (3, some (.int v1)), (4, some (.int v8))]) ⟨rfl, rfl, rfl, rfl, rfl, trivial⟩) ?_
        exact ih v1 v8 t7.2
      · refine XE_iload_n (n := 38) dX6_minutesTold_37 rfl rfl rfl ?_
        refine XE_if_eq (t := 44) (n := 41) dX6_minutesTold_38 rfl rfl (fun h11 => ?_) (fun h11 => ?_)
        · refine XE_iincl (n := 47) dX6_minutesTold_44 rfl rfl (by decide) (Nat.le_of_ble_eq_true rfl) rfl (fun v9 => ?_)
          refine XE_iincl (n := 50) dX6_minutesTold_47 rfl rfl (by decide) (Nat.le_of_ble_eq_true rfl) rfl (fun v10 => ?_)
          refine XE_goto (n := 5) dX6_minutesTold_50 rfl ?_
          refine XE_ls (x_sub_ok (ls' := [(0, some (.ref 0)), (1, some (.int a1)), (2, some (.int a2)), (3, some (.int v9)), (4, some (.int v10))]) ⟨rfl, rfl, rfl, rfl, rfl, trivial⟩) ?_
          exact ih v9 v10 t7.2
        · refine XE_iload (n := 43) dX6_minutesTold_41 rfl rfl ?_
          exact XE_ireturn rfl dX6_minutesTold_43 rfl (Nat.le_refl _) (Nat.le_refl _)
set_option maxRecDepth 100000 in
theorem xe_X6_minutesTold (B : XB) (m0 : Mem) (m1 : Mem) (m2 : Mem) (m3 : Mem) (m4 : Mem) (m5 : Mem) (m6 : Mem) (m7 : Mem) (m8 : Mem) (m9 : Mem) (m10 : Mem) (m11 : Mem) (m12 : Mem) (m13 : Mem) (m14 : Mem) (m15 : Mem) (m16 : Mem) (a1 : Int32) (a2 : Int32) : XE B M_X6_minutesTold (XQm B 0 0 SH_X) 0 [(0, some (.ref 0)), (1, some (.int a1)), (2, some (.int a2))] [] (0, 0) SH_X [m0, m1, m2, m3, m4, m5, m6, m7, m8, m9, m10, m11, m12, m13, m14, m15, m16] (fun t => some (some (.int t.1), [m0, m1, t.2, m3, m4, m5, m6, m7, m8, m9, m10, m11, m12, m13, m14, m15, m16])) (f_X6_minutesTold m0 m1 m2 a1 a2) := by
  unfold f_X6_minutesTold
  refine XE_iconst (v := 0) (n := 1) dX6_minutesTold_0 rfl (by decide) ?_
  refine XE_istore_n (i := 3) (n := 2) dX6_minutesTold_1 rfl rfl (Nat.le_of_ble_eq_true rfl) rfl ?_
  refine XE_iconst (v := 0) (n := 3) dX6_minutesTold_2 rfl (by decide) ?_
  refine XE_istore (i := 4) (n := 5) dX6_minutesTold_3 rfl (Nat.le_of_ble_eq_true rfl) rfl ?_
  refine XE_ls (x_sub_ok (ls' := [(0, some (.ref 0)), (1, some (.int a1)), (2, some (.int a2)), (3, some (.int 0)), (4, some (.int 0))]) ⟨rfl, rfl, rfl, rfl, rfl, trivial⟩) ?_
  exact f_X6_minutesTold_L5_x B a1 a2 m0 m1 m3 m4 m5 m6 m7 m8 m9 m10 m11 m12 m13 m14 m15 m16 6000 (0 : Int32) (0 : Int32) m2
theorem met_X6_minutesTold (l : Launch) (m0 : Mem) (m1 : Mem) (m2 : Mem) (m3 : Mem) (m4 : Mem) (m5 : Mem) (m6 : Mem) (m7 : Mem) (m8 : Mem) (m9 : Mem) (m10 : Mem) (m11 : Mem) (m12 : Mem) (m13 : Mem) (m14 : Mem) (m15 : Mem) (m16 : Mem) (a1 : Int32) (a2 : Int32) (t : Int32 × Mem) (ht : f_X6_minutesTold m0 m1 m2 a1 a2 = some t) : XMet l yX6_minutesTold cX6_minutesTold 6 (some .int) 6 0 0 [.ref 0, .int a1, .int a2] SH_X [m0, m1, m2, m3, m4, m5, m6, m7, m8, m9, m10, m11, m12, m13, m14, m15, m16] SH_X (some (.int t.1), [m0, m1, t.2, m3, m4, m5, m6, m7, m8, m9, m10, m11, m12, m13, m14, m15, m16]) := XMet.of (by decide +kernel) (fun _ => Nat.le_of_ble_eq_true rfl) (fun B => xe_X6_minutesTold B m0 m1 m2 m3 m4 m5 m6 m7 m8 m9 m10 m11 m12 m13 m14 m15 m16 a1 a2) (by rw [ht]; rfl)
/-! X6_whatWas: EveryTwentyMinutes.whatWas(II)I in world X at (0,) -/
abbrev M_X6_whatWas : XM := (RX6, cX6_whatWas, 3, (some .int), "whatWas", 7, 0, 0)
def f_X6_whatWas (m0 : Mem) (m1 : Mem) (m2 : Mem) (a1 : Int32) (a2 : Int32) : Option (Int32 × Mem × Mem) :=
  (f_X2_has m1 a1).bind fun t1 =>
  if t1 = 0 then
    (f_X6_refused m0 (-1)).bind fun t11 =>
    some (t11.1, t11.2, m2)
  else
    if a2 = 0 then
      (f_X6_kindsTold m0 m1 m2 a1).bind fun t3 =>
      some (t3.1, m0, t3.2)
    else
      if a2 = 1 then
        (f_X6_figuresTold m0 m1 m2 a1).bind fun t5 =>
        some (t5.1, m0, t5.2)
      else
        if a2 = 2 then
          (f_X6_minutesTold m0 m1 m2 a1 0).bind fun t7 =>
          some (t7.1, m0, t7.2)
        else
          if a2 = 3 then
            (f_X6_minutesTold m0 m1 m2 a1 1).bind fun t9 =>
            some (t9.1, m0, t9.2)
          else
            (f_X6_refused m0 (-2)).bind fun t10 =>
            some (t10.1, t10.2, m2)
set_option maxRecDepth 100000 in
theorem xe_X6_whatWas (B : XB) (m0 : Mem) (m1 : Mem) (m2 : Mem) (m3 : Mem) (m4 : Mem) (m5 : Mem) (m6 : Mem) (m7 : Mem) (m8 : Mem) (m9 : Mem) (m10 : Mem) (m11 : Mem) (m12 : Mem) (m13 : Mem) (m14 : Mem) (m15 : Mem) (m16 : Mem) (a1 : Int32) (a2 : Int32) : XE B M_X6_whatWas (XQm B 0 0 SH_X) 0 [(0, some (.ref 0)), (1, some (.int a1)), (2, some (.int a2))] [] (0, 0) SH_X [m0, m1, m2, m3, m4, m5, m6, m7, m8, m9, m10, m11, m12, m13, m14, m15, m16] (fun t => some (some (.int t.1), [t.2.1, m1, t.2.2, m3, m4, m5, m6, m7, m8, m9, m10, m11, m12, m13, m14, m15, m16])) (f_X6_whatWas m0 m1 m2 a1 a2) := by
  unfold f_X6_whatWas
  refine XE_aload_n (n := 1) dX6_whatWas_0 rfl rfl rfl ?_
  refine XE_getr (b := 64) (n := 4) xf_X6_10 rfl rfl dX6_whatWas_1 rfl ?_
  refine XE_iload_n (n := 5) dX6_whatWas_4 rfl rfl rfl ?_
  refine XE_callV (ni := 1) (As := [.int a1]) (π := [1]) (co := [0, 2, 3, 4, 5, 6, 7, 8, 9, 10, 11, 12, 13, 14, 15, 16]) (cv := [m0, m2, m3, m4, m5, m6, m7, m8, m9, m10, m11, m12, m13, m14, m15, m16]) (nn := 17) (hs2 := fun t1 => [m0, m1, m2, m3, m4, m5, m6, m7, m8, m9, m10, m11, m12, m13, m14, m15, m16]) (st2 := fun t1 => [.int t1]) (n := 8) (b := 64) xc_X6_95 (fun l t ht => met_X2_has l m1 a1 t ht) rfl rfl rfl rfl rfl dX6_whatWas_5 (Nat.le_of_ble_eq_true rfl) ⟨Nat.zero_le _, Nat.zero_le _⟩ (Nat.le_of_ble_eq_true rfl) (Nat.le_of_ble_eq_true rfl) ok_32 rfl rfl rfl (fun _ => rfl) (fun _ => rfl) (fun _ => rfl) rfl (fun _ => rfl) rfl (fun t1 => ?_)
  refine XE_if_ne (t := 17) (n := 11) dX6_whatWas_8 rfl rfl (fun h12 => ?_) (fun h12 => ?_)
  · refine XE_aload_n (n := 12) dX6_whatWas_11 rfl rfl rfl ?_
    refine XE_iconst (v := (-1)) (n := 13) dX6_whatWas_12 rfl (by decide) ?_
    refine XE_callVi (ni := 1) (As := [.int (-1)]) (st2 := fun t11 => [.int t11.1]) (n := 16) (b := 0) xc_X6_65 (fun l t ht => met_X6_refused l m0 m1 m2 m3 m4 m5 m6 m7 m8 m9 m10 m11 m12 m13 m14 m15 m16 (-1) t ht) rfl rfl rfl rfl dX6_whatWas_13 (Nat.le_of_ble_eq_true rfl) ⟨Nat.zero_le _, Nat.zero_le _⟩ (Nat.le_of_ble_eq_true rfl) (Nat.le_of_ble_eq_true rfl) (fun _ => rfl) rfl (fun t11 => ?_)
    exact XE_ireturn rfl dX6_whatWas_16 rfl (Nat.le_refl _) (Nat.le_refl _)
  · refine XE_iload_n (n := 18) dX6_whatWas_17 rfl rfl rfl ?_
    refine XE_tsw (c := 0) (t := 48) (off := 30) dX6_whatWas_18 (by decide) (by decide) rfl rfl ?_ (fun h2 => ?_)
    · refine XE_aload_n (n := 49) dX6_whatWas_48 rfl rfl rfl ?_
      refine XE_iload_n (n := 50) dX6_whatWas_49 rfl rfl rfl ?_
      refine XE_callVi (ni := 1) (As := [.int a1]) (st2 := fun t3 => [.int t3.1]) (n := 53) (b := 0) xc_X6_274 (fun l t ht => met_X6_kindsTold l m0 m1 m2 m3 m4 m5 m6 m7 m8 m9 m10 m11 m12 m13 m14 m15 m16 a1 t ht) rfl rfl rfl rfl dX6_whatWas_50 (Nat.le_of_ble_eq_true rfl) ⟨Nat.zero_le _, Nat.zero_le _⟩ (Nat.le_of_ble_eq_true rfl) (Nat.le_of_ble_eq_true rfl) (fun _ => rfl) rfl (fun t3 => ?_)
      exact XE_ireturn rfl dX6_whatWas_53 rfl (Nat.le_refl _) (Nat.le_refl _)
    refine XE_tsw (c := 1) (t := 54) (off := 36) dX6_whatWas_18 (by decide) (by decide) rfl rfl ?_ (fun h4 => ?_)
    · refine XE_aload_n (n := 55) dX6_whatWas_54 rfl rfl rfl ?_
      refine XE_iload_n (n := 56) dX6_whatWas_55 rfl rfl rfl ?_
      refine XE_callVi (ni := 1) (As := [.int a1]) (st2 := fun t5 => [.int t5.1]) (n := 59) (b := 0) xc_X6_277 (fun l t ht => met_X6_figuresTold l m0 m1 m2 m3 m4 m5 m6 m7 m8 m9 m10 m11 m12 m13 m14 m15 m16 a1 t ht) rfl rfl rfl rfl dX6_whatWas_56 (Nat.le_of_ble_eq_true rfl) ⟨Nat.zero_le _, Nat.zero_le _⟩ (Nat.le_of_ble_eq_true rfl) (Nat.le_of_ble_eq_true rfl) (fun _ => rfl) rfl (fun t5 => ?_)
      exact XE_ireturn rfl dX6_whatWas_59 rfl (Nat.le_refl _) (Nat.le_refl _)
    refine XE_tsw (c := 2) (t := 60) (off := 42) dX6_whatWas_18 (by decide) (by decide) rfl rfl ?_ (fun h6 => ?_)
    · refine XE_aload_n (n := 61) dX6_whatWas_60 rfl rfl rfl ?_
      refine XE_iload_n (n := 62) dX6_whatWas_61 rfl rfl rfl ?_
      refine XE_iconst (v := 0) (n := 63) dX6_whatWas_62 rfl (by decide) ?_
      refine XE_callVi (ni := 2) (As := [.int a1, .int 0]) (st2 := fun t7 => [.int t7.1]) (n := 66) (b := 0) xc_X6_280 (fun l t ht => met_X6_minutesTold l m0 m1 m2 m3 m4 m5 m6 m7 m8 m9 m10 m11 m12 m13 m14 m15 m16 a1 0 t ht) rfl rfl rfl rfl dX6_whatWas_63 (Nat.le_of_ble_eq_true rfl) ⟨Nat.zero_le _, Nat.zero_le _⟩ (Nat.le_of_ble_eq_true rfl) (Nat.le_of_ble_eq_true rfl) (fun _ => rfl) rfl (fun t7 => ?_)
      exact XE_ireturn rfl dX6_whatWas_66 rfl (Nat.le_refl _) (Nat.le_refl _)
    refine XE_tsw (c := 3) (t := 67) (off := 49) dX6_whatWas_18 (by decide) (by decide) rfl rfl ?_ (fun h8 => ?_)
    · refine XE_aload_n (n := 68) dX6_whatWas_67 rfl rfl rfl ?_
      refine XE_iload_n (n := 69) dX6_whatWas_68 rfl rfl rfl ?_
      refine XE_iconst (v := 1) (n := 70) dX6_whatWas_69 rfl (by decide) ?_
      refine XE_callVi (ni := 2) (As := [.int a1, .int 1]) (st2 := fun t9 => [.int t9.1]) (n := 73) (b := 0) xc_X6_280 (fun l t ht => met_X6_minutesTold l m0 m1 m2 m3 m4 m5 m6 m7 m8 m9 m10 m11 m12 m13 m14 m15 m16 a1 1 t ht) rfl rfl rfl rfl dX6_whatWas_70 (Nat.le_of_ble_eq_true rfl) ⟨Nat.zero_le _, Nat.zero_le _⟩ (Nat.le_of_ble_eq_true rfl) (Nat.le_of_ble_eq_true rfl) (fun _ => rfl) rfl (fun t9 => ?_)
      exact XE_ireturn rfl dX6_whatWas_73 rfl (Nat.le_refl _) (Nat.le_refl _)
    refine XE_tswd (t := 74) dX6_whatWas_18 (by have q0 := x_ne h2 (z := 0) (by decide); have q1 := x_ne h4 (z := 1) (by decide); have q2 := x_ne h6 (z := 2) (by decide); have q3 := x_ne h8 (z := 3) (by decide); omega) rfl ?_
    refine XE_aload_n (n := 75) dX6_whatWas_74 rfl rfl rfl ?_
    refine XE_bipush (v := (-2)) (n := 77) dX6_whatWas_75 rfl (by decide) ?_
    refine XE_callVi (ni := 1) (As := [.int (-2)]) (st2 := fun t10 => [.int t10.1]) (n := 80) (b := 0) xc_X6_65 (fun l t ht => met_X6_refused l m0 m1 m2 m3 m4 m5 m6 m7 m8 m9 m10 m11 m12 m13 m14 m15 m16 (-2) t ht) rfl rfl rfl rfl dX6_whatWas_77 (Nat.le_of_ble_eq_true rfl) ⟨Nat.zero_le _, Nat.zero_le _⟩ (Nat.le_of_ble_eq_true rfl) (Nat.le_of_ble_eq_true rfl) (fun _ => rfl) rfl (fun t10 => ?_)
    exact XE_ireturn rfl dX6_whatWas_80 rfl (Nat.le_refl _) (Nat.le_refl _)
theorem met_X6_whatWas (l : Launch) (m0 : Mem) (m1 : Mem) (m2 : Mem) (m3 : Mem) (m4 : Mem) (m5 : Mem) (m6 : Mem) (m7 : Mem) (m8 : Mem) (m9 : Mem) (m10 : Mem) (m11 : Mem) (m12 : Mem) (m13 : Mem) (m14 : Mem) (m15 : Mem) (m16 : Mem) (a1 : Int32) (a2 : Int32) (t : Int32 × Mem × Mem) (ht : f_X6_whatWas m0 m1 m2 a1 a2 = some t) : XMet l yX6_whatWas cX6_whatWas 3 (some .int) 7 0 0 [.ref 0, .int a1, .int a2] SH_X [m0, m1, m2, m3, m4, m5, m6, m7, m8, m9, m10, m11, m12, m13, m14, m15, m16] SH_X (some (.int t.1), [t.2.1, m1, t.2.2, m3, m4, m5, m6, m7, m8, m9, m10, m11, m12, m13, m14, m15, m16]) := XMet.of (by decide +kernel) (fun _ => Nat.le_of_ble_eq_true rfl) (fun B => xe_X6_whatWas B m0 m1 m2 m3 m4 m5 m6 m7 m8 m9 m10 m11 m12 m13 m14 m15 m16 a1 a2) (by rw [ht]; rfl)
