/-! X7_rest: EveryTwentyMinutesModel.rest()I in world M at (0,) -/
abbrev M_X7_rest : XM := (RX7, cX7_rest, 6, (some .int), "rest", 6, 0, 0)
def f_X7_rest_L38 (v2 : Int32) (v9 : Int32) : Nat → Int32 → Mem → Option (Mem)
  | 0, _, _ => none
  | n + 1, v11, w12 =>
    if v2 ≤ v11 then
      some (w12)
    else
      (if v11 = v9 then
         (f_X7_restFor w12 10).bind fun t17 =>
         some (t17)
       else
         some (w12)).bind fun t19 =>
      (f_X7_wedOne t19 0).bind fun t20 =>
      lt (v11 + 1) fun v21 =>
      (f_X7_rest_L38 v2 v9 n) v21 t20
def f_X7_rest_L29 (v2 : Int32) : Nat → Int32 → Int32 → Int32 → Mem → Option (Int32 × Mem)
  | 0, _, _, _, _ => none
  | n + 1, v7, v8, v9, w10 =>
    if v2 < v9 then
      some (v7, w10)
    else
      (f_X7_rest_L38 v2 v9 6000 (0 : Int32) w10).bind fun t23 =>
      (f_X7_allLate t23).bind fun t24 =>
      (f_X7_again t23).bind fun t25 =>
      lt (if v8 ≤ t24 then
          (v7)
        else
          (v9)) fun t28 =>
      (f_X7_least v8 t24).bind fun t29 =>
      lt (v9 + 1) fun v30 =>
      (f_X7_rest_L29 v2 n) t28 t29 v30 t25
def f_X7_rest (m0 : Mem) : Option (Int32 × Mem) :=
  lt (xs m0 0 14 0) fun w1 =>
  lt (w1 0 9) fun v2 =>
  (f_X7_think w1).bind fun t3 =>
  (f_X7_lateNow t3).bind fun t4 =>
  lt t4.1 fun v5 =>
  (f_X7_again t4.2).bind fun t6 =>
  (f_X7_rest_L29 v2 6000 ((-9) : Int32) v5 (0 : Int32) t6).bind fun t33 =>
  some (t33.1, t33.2)
set_option maxRecDepth 100000 in
theorem f_X7_rest_L38_x {α R : Type} (B : XB) {Q : R → State → Prop} {k : α → Option R} {r : (Mem) → Option α} (v2 : Int32) (v7 : Int32) (v8 : Int32) (v9 : Int32) (hE : ∀ t0 : (Mem), XE B M_X7_rest Q 68 [(0, some (.ref 0)), (1, some (.int v7)), (2, some (.int v2)), (3, some (.int v8)), (4, some (.int v9))] [] (0, 0) SH_M [t0] (fun t => (r t).bind k) (some t0)) : ∀ (n : Nat) (v11 : Int32) (w12 : Mem), XE B M_X7_rest Q 38 [(0, some (.ref 0)), (1, some (.int v7)), (2, some (.int v2)), (3, some (.int v8)), (4, some (.int v9)), (5, some (.int v11))] [] (0, 0) SH_M [w12] (fun t => (r t).bind k) (f_X7_rest_L38 v2 v9 n v11 w12) := by
  intro n
  induction n with
  | zero => intros; exact XE_none
  | succ n ih =>
    intro v11 w12
    rw [f_X7_rest_L38]
    refine XE_iload (n := 40) dX7_rest_38 rfl rfl ?_
    refine XE_iload_n (n := 41) dX7_rest_40 rfl rfl rfl ?_
    refine XE_icmp_ge (t := 68) (n := 44) dX7_rest_41 rfl rfl (fun h22 => ?_) (fun h22 => ?_)
    · refine XE_ls (x_sub_ok (ls' := [(0, some (.ref 0)), (1, some (.int v7)), (2, some (.int v2)), (3, some (.int v8)), (4, some (.int v9))]) ⟨rfl, rfl, rfl, rfl, rfl, trivial⟩) ?_
      exact hE (w12)
    · refine XE_iload (n := 46) dX7_rest_44 rfl rfl ?_
      refine XE_iload (n := 48) dX7_rest_46 rfl rfl ?_
      refine XE_reg (J := 57) (lsJ := fun t19 => [(0, some (.ref 0)), (1, some (.int v7)), (2, some (.int v2)), (3, some (.int v8)), (4, some (.int v9)), (5, some (.int v11))]) (stJ := fun t19 => []) (hsJ := fun t19 => [t19]) (fun t19 => ?_) (fun hJ16 => ?_)
      · refine XE_aload_n (n := 58) dX7_rest_57 rfl rfl rfl ?_
        refine XE_iconst (v := 0) (n := 59) dX7_rest_58 rfl (by decide) ?_
        refine XE_callVi (ni := 1) (As := [.int 0]) (st2 := fun t20 => []) (n := 62) (b := 0) xc_X7_117 (fun l t ht => met_X7_wedOne l t19 0 t ht) rfl rfl rfl rfl dX7_rest_59 (Nat.le_of_ble_eq_true rfl) ⟨Nat.zero_le _, Nat.zero_le _⟩ (Nat.le_of_ble_eq_true rfl) (Nat.le_of_ble_eq_true rfl) (fun _ => rfl) rfl (fun t20 => ?_)
        refine XE_iincl (n := 65) dX7_rest_62 rfl rfl (by decide) (Nat.le_of_ble_eq_true rfl) rfl (fun v21 => ?_)
        refine XE_goto (n := 38) dX7_rest_65 rfl ?_
        refine XE_ls (x_sub_ok (ls' := [(0, some (.ref 0)), (1, some (.int v7)), (2, some (.int v2)), (3, some (.int v8)), (4, some (.int v9)), (5, some (.int v21))]) ⟨rfl, rfl, rfl, rfl, rfl, rfl, trivial⟩) ?_
        exact ih v21 t20
      · refine XE_icmp_ne (t := 57) (n := 51) dX7_rest_48 rfl rfl (fun h18 => ?_) (fun h18 => ?_)
        · refine XE_aload_n (n := 52) dX7_rest_51 rfl rfl rfl ?_
          refine XE_bipush (v := 10) (n := 54) dX7_rest_52 rfl (by decide) ?_
          refine XE_callVi (ni := 1) (As := [.int 10]) (st2 := fun t17 => []) (n := 57) (b := 0) xc_X7_188 (fun l t ht => met_X7_restFor l w12 10 t ht) rfl rfl rfl rfl dX7_rest_54 (Nat.le_of_ble_eq_true rfl) ⟨Nat.zero_le _, Nat.zero_le _⟩ (Nat.le_of_ble_eq_true rfl) (Nat.le_of_ble_eq_true rfl) (fun _ => rfl) rfl (fun t17 => ?_)
          refine XE_ls (x_sub_ok (ls' := [(0, some (.ref 0)), (1, some (.int v7)), (2, some (.int v2)), (3, some (.int v8)), (4, some (.int v9)), (5, some (.int v11))]) ⟨rfl, rfl, rfl, rfl, rfl, rfl, trivial⟩) ?_
          exact hJ16 (t17)
        · refine XE_ls (x_sub_ok (ls' := [(0, some (.ref 0)), (1, some (.int v7)), (2, some (.int v2)), (3, some (.int v8)), (4, some (.int v9)), (5, some (.int v11))]) ⟨rfl, rfl, rfl, rfl, rfl, rfl, trivial⟩) ?_
          exact hJ16 (w12)
set_option maxRecDepth 100000 in
theorem f_X7_rest_L29_x {α R : Type} (B : XB) {Q : R → State → Prop} {k : α → Option R} {r : (Int32 × Mem) → Option α} (v2 : Int32) (hE : ∀ t0 : (Int32 × Mem), XE B M_X7_rest Q 104 [(1, some (.int t0.1))] [] (0, 0) SH_M [t0.2] (fun t => (r t).bind k) (some t0)) : ∀ (n : Nat) (v7 : Int32) (v8 : Int32) (v9 : Int32) (w10 : Mem), XE B M_X7_rest Q 29 [(0, some (.ref 0)), (1, some (.int v7)), (2, some (.int v2)), (3, some (.int v8)), (4, some (.int v9))] [] (0, 0) SH_M [w10] (fun t => (r t).bind k) (f_X7_rest_L29 v2 n v7 v8 v9 w10) := by
  intro n
  induction n with
  | zero => intros; exact XE_none
  | succ n ih =>
    intro v7 v8 v9 w10
    rw [f_X7_rest_L29]
    refine XE_iload (n := 31) dX7_rest_29 rfl rfl ?_
    refine XE_iload_n (n := 32) dX7_rest_31 rfl rfl rfl ?_
    refine XE_icmp_gt (t := 104) (n := 35) dX7_rest_32 rfl rfl (fun h32 => ?_) (fun h32 => ?_)
    · refine XE_ls (x_sub_ok (ls' := [(1, some (.int v7))]) ⟨rfl, trivial⟩) ?_
      exact hE (v7, w10)
    · refine XE_iconst (v := 0) (n := 36) dX7_rest_35 rfl (by decide) ?_
      refine XE_istore (i := 5) (n := 38) dX7_rest_36 rfl (Nat.le_of_ble_eq_true rfl) rfl ?_
      refine XE_ls (x_sub_ok (ls' := [(0, some (.ref 0)), (1, some (.int v7)), (2, some (.int v2)), (3, some (.int v8)), (4, some (.int v9)), (5, some (.int 0))]) ⟨rfl, rfl, rfl, rfl, rfl, rfl, trivial⟩) ?_
      refine XE_reg (J := 68) (lsJ := fun t23 => [(0, some (.ref 0)), (1, some (.int v7)), (2, some (.int v2)), (3, some (.int v8)), (4, some (.int v9))]) (stJ := fun t23 => []) (hsJ := fun t23 => [t23]) (fun t23 => ?_) (fun hJ31 => f_X7_rest_L38_x B v2 v7 v8 v9 hJ31 6000 (0 : Int32) w10)
      refine XE_aload_n (n := 69) dX7_rest_68 rfl rfl rfl ?_
      refine XE_callVi (ni := 0) (As := []) (st2 := fun t24 => [.int t24]) (n := 72) (b := 0) xc_X7_247 (fun l t ht => met_X7_allLate l t23 t ht) rfl rfl rfl rfl dX7_rest_69 (Nat.le_of_ble_eq_true rfl) ⟨Nat.zero_le _, Nat.zero_le _⟩ (Nat.le_of_ble_eq_true rfl) (Nat.le_of_ble_eq_true rfl) (fun _ => rfl) rfl (fun t24 => ?_)
      refine XE_istore (i := 5) (n := 74) dX7_rest_72 rfl (Nat.le_of_ble_eq_true rfl) rfl ?_
      refine XE_aload_n (n := 75) dX7_rest_74 rfl rfl rfl ?_
      refine XE_callVi (ni := 0) (As := []) (st2 := fun t25 => []) (n := 78) (b := 0) xc_X7_200 (fun l t ht => met_X7_again l t23 t ht) rfl rfl rfl rfl dX7_rest_75 (Nat.le_of_ble_eq_true rfl) ⟨Nat.zero_le _, Nat.zero_le _⟩ (Nat.le_of_ble_eq_true rfl) (Nat.le_of_ble_eq_true rfl) (fun _ => rfl) rfl (fun t25 => ?_)
      refine XE_iload (n := 80) dX7_rest_78 rfl rfl ?_
      refine XE_iload_n (n := 81) dX7_rest_80 rfl rfl rfl ?_
      refine XE_regv (J := 90) (lsJ := fun t28 => [(0, some (.ref 0)), (2, some (.int v2)), (3, some (.int v8)), (4, some (.int v9)), (5, some (.int t24))]) (stJ := fun t28 => [.int t28]) (hsJ := fun t28 => [t25]) (fun t28 => ?_) (fun hJ26 => ?_)
      · refine XE_istore_n (i := 1) (n := 91) dX7_rest_90 rfl rfl (Nat.le_of_ble_eq_true rfl) rfl ?_
        refine XE_iload_n (n := 92) dX7_rest_91 rfl rfl rfl ?_
        refine XE_iload (n := 94) dX7_rest_92 rfl rfl ?_
        refine XE_callS (ni := 2) (As := [.int v8, .int t24]) (π := []) (co := [0]) (cv := [t25]) (nn := 1) (hs2 := fun t29 => [t25]) (st2 := fun t29 => [.int t29]) (n := 97) xc_X7_97 (fun l t ht => met_X7_least l v8 t24 t ht) rfl rfl rfl dX7_rest_94 (Nat.le_of_ble_eq_true rfl) ⟨Nat.zero_le _, Nat.zero_le _⟩ (Nat.le_of_ble_eq_true rfl) (Nat.le_of_ble_eq_true rfl) ok_40 rfl rfl rfl (fun _ => rfl) (fun _ => rfl) (fun _ => rfl) rfl (fun _ => rfl) rfl (fun t29 => ?_)
        refine XE_istore_n (i := 3) (n := 98) dX7_rest_97 rfl rfl (Nat.le_of_ble_eq_true rfl) rfl ?_
        refine XE_iincl (n := 101) dX7_rest_98 rfl rfl (by decide) (Nat.le_of_ble_eq_true rfl) rfl (fun v30 => ?_)
        refine XE_goto (n := 29) dX7_rest_101 rfl ?_
        refine XE_ls (x_sub_ok (ls' := [(0, some (.ref 0)), (1, some (.int t28)), (2, some (.int v2)), (3, some (.int t29)), (4, some (.int v30))]) ⟨rfl, rfl, rfl, rfl, rfl, trivial⟩) ?_
        exact ih t28 t29 v30 t25
      · refine XE_ltif ?_
        refine XE_icmp_ge (t := 89) (n := 84) dX7_rest_81 rfl rfl (fun h27 => ?_) (fun h27 => ?_)
        · refine XE_iload_n (n := 90) dX7_rest_89 rfl rfl rfl ?_
          refine XE_ls (x_sub_ok (ls' := [(0, some (.ref 0)), (2, some (.int v2)), (3, some (.int v8)), (4, some (.int v9)), (5, some (.int t24))]) ⟨rfl, rfl, rfl, rfl, rfl, trivial⟩) ?_
          exact hJ26 (v7)
        · refine XE_iload (n := 86) dX7_rest_84 rfl rfl ?_
          refine XE_goto (n := 90) dX7_rest_86 rfl ?_
          refine XE_ls (x_sub_ok (ls' := [(0, some (.ref 0)), (2, some (.int v2)), (3, some (.int v8)), (4, some (.int v9)), (5, some (.int t24))]) ⟨rfl, rfl, rfl, rfl, rfl, trivial⟩) ?_
          exact hJ26 (v9)
set_option maxRecDepth 100000 in
theorem xe_X7_rest (B : XB) (m0 : Mem) : XE B M_X7_rest (XQm B 0 0 SH_M) 0 [(0, some (.ref 0))] [] (0, 0) SH_M [m0] (fun t => some (some (.int t.1), [t.2])) (f_X7_rest m0) := by
  unfold f_X7_rest
  refine XE_aload_n (n := 1) dX7_rest_0 rfl rfl rfl ?_
  refine XE_iconst (v := 0) (n := 2) dX7_rest_1 rfl (by decide) ?_
  refine XE_putf (hs2 := fun w1 => [w1]) (n := 5) xf_X7_76 rfl rfl rfl rfl (Nat.le_of_ble_eq_true rfl) (fun _ => rfl) dX7_rest_2 rfl (fun w1 => ?_)
  refine XE_bipush (v := (-9)) (n := 7) dX7_rest_5 rfl (by decide) ?_
  refine XE_istore_n (i := 1) (n := 8) dX7_rest_7 rfl rfl (Nat.le_of_ble_eq_true rfl) rfl ?_
  refine XE_aload_n (n := 9) dX7_rest_8 rfl rfl rfl ?_
  refine XE_getf (v := w1 0 9) (n := 12) xf_X7_100 rfl rfl rfl dX7_rest_9 rfl ?_
  refine XE_topi (fun v2 => ?_)
  refine XE_istore_n (i := 2) (n := 13) dX7_rest_12 rfl rfl (Nat.le_of_ble_eq_true rfl) rfl ?_
  refine XE_aload_n (n := 14) dX7_rest_13 rfl rfl rfl ?_
  refine XE_callVi (ni := 0) (As := []) (st2 := fun t3 => []) (n := 17) (b := 0) xc_X7_194 (fun l t ht => met_X7_think l w1 t ht) rfl rfl rfl rfl dX7_rest_14 (Nat.le_of_ble_eq_true rfl) ⟨Nat.zero_le _, Nat.zero_le _⟩ (Nat.le_of_ble_eq_true rfl) (Nat.le_of_ble_eq_true rfl) (fun _ => rfl) rfl (fun t3 => ?_)
  refine XE_aload_n (n := 18) dX7_rest_17 rfl rfl rfl ?_
  refine XE_callVi (ni := 0) (As := []) (st2 := fun t4 => [.int t4.1]) (n := 21) (b := 0) xc_X7_274 (fun l t ht => met_X7_lateNow l t3 t ht) rfl rfl rfl rfl dX7_rest_18 (Nat.le_of_ble_eq_true rfl) ⟨Nat.zero_le _, Nat.zero_le _⟩ (Nat.le_of_ble_eq_true rfl) (Nat.le_of_ble_eq_true rfl) (fun _ => rfl) rfl (fun t4 => ?_)
  refine XE_topi (fun v5 => ?_)
  refine XE_istore_n (i := 3) (n := 22) dX7_rest_21 rfl rfl (Nat.le_of_ble_eq_true rfl) rfl ?_
  refine XE_aload_n (n := 23) dX7_rest_22 rfl rfl rfl ?_
  refine XE_callVi (ni := 0) (As := []) (st2 := fun t6 => []) (n := 26) (b := 0) xc_X7_200 (fun l t ht => met_X7_again l t4.2 t ht) rfl rfl rfl rfl dX7_rest_23 (Nat.le_of_ble_eq_true rfl) ⟨Nat.zero_le _, Nat.zero_le _⟩ (Nat.le_of_ble_eq_true rfl) (Nat.le_of_ble_eq_true rfl) (fun _ => rfl) rfl (fun t6 => ?_)
  refine XE_iconst (v := 0) (n := 27) dX7_rest_26 rfl (by decide) ?_
  refine XE_istore (i := 4) (n := 29) dX7_rest_27 rfl (Nat.le_of_ble_eq_true rfl) rfl ?_
  refine XE_ls (x_sub_ok (ls' := [(0, some (.ref 0)), (1, some (.int (-9))), (2, some (.int v2)), (3, some (.int v5)), (4, some (.int 0))]) ⟨rfl, rfl, rfl, rfl, rfl, trivial⟩) ?_
  refine XE_reg (J := 104) (lsJ := fun t33 => [(1, some (.int t33.1))]) (stJ := fun t33 => []) (hsJ := fun t33 => [t33.2]) (fun t33 => ?_) (fun hJ34 => f_X7_rest_L29_x B v2 hJ34 6000 ((-9) : Int32) v5 (0 : Int32) t6)
  refine XE_iload_n (n := 105) dX7_rest_104 rfl rfl rfl ?_
  exact XE_ireturn rfl dX7_rest_105 rfl (Nat.le_refl _) (Nat.le_refl _)
theorem met_X7_rest (l : Launch) (m0 : Mem) (t : Int32 × Mem) (ht : f_X7_rest m0 = some t) : XMet l yX7_rest cX7_rest 6 (some .int) 6 0 0 [.ref 0] SH_M [m0] SH_M (some (.int t.1), [t.2]) := XMet.of (by decide +kernel) (fun _ => Nat.le_of_ble_eq_true rfl) (fun B => xe_X7_rest B m0) (by rw [ht]; rfl)
/-! X7_saved: EveryTwentyMinutesModel.saved()I in world M at (0,) -/
abbrev M_X7_saved : XM := (RX7, cX7_saved, 3, (some .int), "saved", 6, 0, 0)
def f_X7_saved (m0 : Mem) : Option (Int32 × Mem) :=
  lt (xs m0 0 14 0) fun w1 =>
  if (w1 0 0) = 0 then
    (f_X7_refuse w1 (-3)).bind fun t11 =>
    some ((1000000000 - t11.1), t11.2)
  else
    if (w1 0 10) = 2 then
      some ((0 : Int32), w1)
    else
      (f_X7_think w1).bind fun t2 =>
      (f_X7_lateNow t2).bind fun t3 =>
      lt t3.1 fun v4 =>
      (f_X7_again t3.2).bind fun t5 =>
      (f_X7_roomsBecome t5 2).bind fun t6 =>
      (f_X7_lateNow t6).bind fun t7 =>
      lt t7.1 fun v8 =>
      (f_X7_again t7.2).bind fun t9 =>
      some ((v4 - v8), t9)
set_option maxRecDepth 100000 in
theorem xe_X7_saved (B : XB) (m0 : Mem) : XE B M_X7_saved (XQm B 0 0 SH_M) 0 [(0, some (.ref 0))] [] (0, 0) SH_M [m0] (fun t => some (some (.int t.1), [t.2])) (f_X7_saved m0) := by
  unfold f_X7_saved
  refine XE_aload_n (n := 1) dX7_saved_0 rfl rfl rfl ?_
  refine XE_iconst (v := 0) (n := 2) dX7_saved_1 rfl (by decide) ?_
  refine XE_putf (hs2 := fun w1 => [w1]) (n := 5) xf_X7_76 rfl rfl rfl rfl (Nat.le_of_ble_eq_true rfl) (fun _ => rfl) dX7_saved_2 rfl (fun w1 => ?_)
  refine XE_aload_n (n := 6) dX7_saved_5 rfl rfl rfl ?_
  refine XE_getf (v := w1 0 0) (n := 9) xf_X7_83 rfl rfl rfl dX7_saved_6 rfl ?_
  refine XE_if_ne (t := 22) (n := 12) dX7_saved_9 rfl rfl (fun h12 => ?_) (fun h12 => ?_)
  · refine XE_ldc (n := 14) dX7_saved_12 rfl xk_X7_246 ?_
    refine XE_aload_n (n := 15) dX7_saved_14 rfl rfl rfl ?_
    refine XE_bipush (v := (-3)) (n := 17) dX7_saved_15 rfl (by decide) ?_
    refine XE_callVi (ni := 1) (As := [.int (-3)]) (st2 := fun t11 => [.int t11.1, .int 1000000000]) (n := 20) (b := 0) xc_X7_138 (fun l t ht => met_X7_refuse l w1 (-3) t ht) rfl rfl rfl rfl dX7_saved_17 (Nat.le_of_ble_eq_true rfl) ⟨Nat.zero_le _, Nat.zero_le _⟩ (Nat.le_of_ble_eq_true rfl) (Nat.le_of_ble_eq_true rfl) (fun _ => rfl) rfl (fun t11 => ?_)
    refine XE_isub (n := 21) dX7_saved_20 rfl ?_
    exact XE_ireturn rfl dX7_saved_21 rfl (Nat.le_refl _) (Nat.le_refl _)
  · refine XE_aload_n (n := 23) dX7_saved_22 rfl rfl rfl ?_
    refine XE_getf (v := w1 0 10) (n := 26) xf_X7_80 rfl rfl rfl dX7_saved_23 rfl ?_
    refine XE_iconst (v := 2) (n := 27) dX7_saved_26 rfl (by decide) ?_
    refine XE_icmp_ne (t := 32) (n := 30) dX7_saved_27 rfl rfl (fun h10 => ?_) (fun h10 => ?_)
    · refine XE_iconst (v := 0) (n := 31) dX7_saved_30 rfl (by decide) ?_
      exact XE_ireturn rfl dX7_saved_31 rfl (Nat.le_refl _) (Nat.le_refl _)
    · refine XE_aload_n (n := 33) dX7_saved_32 rfl rfl rfl ?_
      refine XE_callVi (ni := 0) (As := []) (st2 := fun t2 => []) (n := 36) (b := 0) xc_X7_194 (fun l t ht => met_X7_think l w1 t ht) rfl rfl rfl rfl dX7_saved_33 (Nat.le_of_ble_eq_true rfl) ⟨Nat.zero_le _, Nat.zero_le _⟩ (Nat.le_of_ble_eq_true rfl) (Nat.le_of_ble_eq_true rfl) (fun _ => rfl) rfl (fun t2 => ?_)
      refine XE_aload_n (n := 37) dX7_saved_36 rfl rfl rfl ?_
      refine XE_callVi (ni := 0) (As := []) (st2 := fun t3 => [.int t3.1]) (n := 40) (b := 0) xc_X7_274 (fun l t ht => met_X7_lateNow l t2 t ht) rfl rfl rfl rfl dX7_saved_37 (Nat.le_of_ble_eq_true rfl) ⟨Nat.zero_le _, Nat.zero_le _⟩ (Nat.le_of_ble_eq_true rfl) (Nat.le_of_ble_eq_true rfl) (fun _ => rfl) rfl (fun t3 => ?_)
      refine XE_topi (fun v4 => ?_)
      refine XE_istore_n (i := 1) (n := 41) dX7_saved_40 rfl rfl (Nat.le_of_ble_eq_true rfl) rfl ?_
      refine XE_aload_n (n := 42) dX7_saved_41 rfl rfl rfl ?_
      refine XE_callVi (ni := 0) (As := []) (st2 := fun t5 => []) (n := 45) (b := 0) xc_X7_200 (fun l t ht => met_X7_again l t3.2 t ht) rfl rfl rfl rfl dX7_saved_42 (Nat.le_of_ble_eq_true rfl) ⟨Nat.zero_le _, Nat.zero_le _⟩ (Nat.le_of_ble_eq_true rfl) (Nat.le_of_ble_eq_true rfl) (fun _ => rfl) rfl (fun t5 => ?_)
      refine XE_aload_n (n := 46) dX7_saved_45 rfl rfl rfl ?_
      refine XE_iconst (v := 2) (n := 47) dX7_saved_46 rfl (by decide) ?_
      refine XE_callVi (ni := 1) (As := [.int 2]) (st2 := fun t6 => []) (n := 50) (b := 0) xc_X7_174 (fun l t ht => met_X7_roomsBecome l t5 2 t ht) rfl rfl rfl rfl dX7_saved_47 (Nat.le_of_ble_eq_true rfl) ⟨Nat.zero_le _, Nat.zero_le _⟩ (Nat.le_of_ble_eq_true rfl) (Nat.le_of_ble_eq_true rfl) (fun _ => rfl) rfl (fun t6 => ?_)
      refine XE_aload_n (n := 51) dX7_saved_50 rfl rfl rfl ?_
      refine XE_callVi (ni := 0) (As := []) (st2 := fun t7 => [.int t7.1]) (n := 54) (b := 0) xc_X7_274 (fun l t ht => met_X7_lateNow l t6 t ht) rfl rfl rfl rfl dX7_saved_51 (Nat.le_of_ble_eq_true rfl) ⟨Nat.zero_le _, Nat.zero_le _⟩ (Nat.le_of_ble_eq_true rfl) (Nat.le_of_ble_eq_true rfl) (fun _ => rfl) rfl (fun t7 => ?_)
      refine XE_topi (fun v8 => ?_)
      refine XE_istore_n (i := 2) (n := 55) dX7_saved_54 rfl rfl (Nat.le_of_ble_eq_true rfl) rfl ?_
      refine XE_aload_n (n := 56) dX7_saved_55 rfl rfl rfl ?_
      refine XE_callVi (ni := 0) (As := []) (st2 := fun t9 => []) (n := 59) (b := 0) xc_X7_200 (fun l t ht => met_X7_again l t7.2 t ht) rfl rfl rfl rfl dX7_saved_56 (Nat.le_of_ble_eq_true rfl) ⟨Nat.zero_le _, Nat.zero_le _⟩ (Nat.le_of_ble_eq_true rfl) (Nat.le_of_ble_eq_true rfl) (fun _ => rfl) rfl (fun t9 => ?_)
      refine XE_iload_n (n := 60) dX7_saved_59 rfl rfl rfl ?_
      refine XE_iload_n (n := 61) dX7_saved_60 rfl rfl rfl ?_
      refine XE_isub (n := 62) dX7_saved_61 rfl ?_
      exact XE_ireturn rfl dX7_saved_62 rfl (Nat.le_refl _) (Nat.le_refl _)
theorem met_X7_saved (l : Launch) (m0 : Mem) (t : Int32 × Mem) (ht : f_X7_saved m0 = some t) : XMet l yX7_saved cX7_saved 3 (some .int) 6 0 0 [.ref 0] SH_M [m0] SH_M (some (.int t.1), [t.2]) := XMet.of (by decide +kernel) (fun _ => Nat.le_of_ble_eq_true rfl) (fun B => xe_X7_saved B m0) (by rw [ht]; rfl)
/-! X7_can: EveryTwentyMinutesModel.can(III)I in world M at (0,) -/
abbrev M_X7_can : XM := (RX7, cX7_can, 7, (some .int), "can", 5, 0, 0)
def f_X7_can_L73 (a1 : Int32) (a2 : Int32) (a3 : Int32) : Nat → Int32 → Int32 → Mem → Option (Int32 × Mem)
  | 0, _, _, _ => none
  | n + 1, v11, v12, w13 =>
    if 6 ≤ v12 then
      some (v11, w13)
    else
      (f_X7_coupleComes w13 v12 a1 a2).bind fun t14 =>
      (if t14.1 = 0 then
         some (v11, t14.2)
       else
         (f_X7_wedAll t14.2).bind fun t20 =>
         ck (inb ((t20 0 0) - 1) 7) <|
         if a3 < (t20 6 (ix ((t20 0 0) - 1))) then
           lt (v11 ||| 0) fun v21 =>
           some (v21, t20)
         else
           lt (v11 ||| (1 <<< (v12 &&& 31))) fun v22 =>
           some (v22, t20)).bind fun t25 =>
      (f_X7_again t25.2).bind fun t26 =>
      lt (v12 + 1) fun v27 =>
      (f_X7_can_L73 a1 a2 a3 n) t25.1 v27 t26
def f_X7_can (m0 : Mem) (a1 : Int32) (a2 : Int32) (a3 : Int32) : Option (Int32 × Mem) :=
  lt (xs m0 0 14 0) fun w1 =>
  lt (if a1 < 0 then
      (((-4) : Int32))
    else
      if a2 < 0 then
        (((-4) : Int32))
      else
        if 0 ≤ a3 then
          if 9 < a1 then
            (((-6) : Int32))
          else
            if 240 < a2 then
              (((-6) : Int32))
            else
              if a3 ≤ 999 then
                ((0 : Int32))
              else
                (((-6) : Int32))
        else
          (((-4) : Int32))) fun t9 =>
  if 0 ≤ t9 then
    (f_X7_think w1).bind fun t10 =>
    (f_X7_can_L73 a1 a2 a3 6000 (0 : Int32) (0 : Int32) t10).bind fun t29 =>
    some (t29.1, t29.2)
  else
    (f_X7_refuse w1 t9).bind fun t31 =>
    some (t31.1, t31.2)
set_option maxRecDepth 100000 in
theorem f_X7_can_L73_x {α R : Type} (B : XB) {Q : R → State → Prop} {k : α → Option R} {r : (Int32 × Mem) → Option α} (a1 : Int32) (a2 : Int32) (a3 : Int32) (hE : ∀ t0 : (Int32 × Mem), XE B M_X7_can Q 133 [(5, some (.int t0.1))] [] (0, 0) SH_M [t0.2] (fun t => (r t).bind k) (some t0)) : ∀ (n : Nat) (v11 : Int32) (v12 : Int32) (w13 : Mem), XE B M_X7_can Q 73 [(0, some (.ref 0)), (1, some (.int a1)), (2, some (.int a2)), (3, some (.int a3)), (5, some (.int v11)), (6, some (.int v12))] [] (0, 0) SH_M [w13] (fun t => (r t).bind k) (f_X7_can_L73 a1 a2 a3 n v11 v12 w13) := by
  intro n
  induction n with
  | zero => intros; exact XE_none
  | succ n ih =>
    intro v11 v12 w13
    rw [f_X7_can_L73]
    refine XE_iload (n := 75) dX7_can_73 rfl rfl ?_
    refine XE_bipush (v := 6) (n := 77) dX7_can_75 rfl (by decide) ?_
    refine XE_icmp_ge (t := 133) (n := 80) dX7_can_77 rfl rfl (fun h28 => ?_) (fun h28 => ?_)
    · refine XE_ls (x_sub_ok (ls' := [(5, some (.int v11))]) ⟨rfl, trivial⟩) ?_
      exact hE (v11, w13)
    · refine XE_aload_n (n := 81) dX7_can_80 rfl rfl rfl ?_
      refine XE_iload (n := 83) dX7_can_81 rfl rfl ?_
      refine XE_iload_n (n := 84) dX7_can_83 rfl rfl rfl ?_
      refine XE_iload_n (n := 85) dX7_can_84 rfl rfl rfl ?_
      refine XE_callVi (ni := 3) (As := [.int v12, .int a1, .int a2]) (st2 := fun t14 => [.int t14.1]) (n := 88) (b := 0) xc_X7_170 (fun l t ht => met_X7_coupleComes l w13 v12 a1 a2 t ht) rfl rfl rfl rfl dX7_can_85 (Nat.le_of_ble_eq_true rfl) ⟨Nat.zero_le _, Nat.zero_le _⟩ (Nat.le_of_ble_eq_true rfl) (Nat.le_of_ble_eq_true rfl) (fun _ => rfl) rfl (fun t14 => ?_)
      refine XE_reg (J := 123) (lsJ := fun t25 => [(0, some (.ref 0)), (1, some (.int a1)), (2, some (.int a2)), (3, some (.int a3)), (5, some (.int t25.1)), (6, some (.int v12))]) (stJ := fun t25 => []) (hsJ := fun t25 => [t25.2]) (fun t25 => ?_) (fun hJ19 => ?_)
      · refine XE_aload_n (n := 124) dX7_can_123 rfl rfl rfl ?_
        refine XE_callVi (ni := 0) (As := []) (st2 := fun t26 => []) (n := 127) (b := 0) xc_X7_200 (fun l t ht => met_X7_again l t25.2 t ht) rfl rfl rfl rfl dX7_can_124 (Nat.le_of_ble_eq_true rfl) ⟨Nat.zero_le _, Nat.zero_le _⟩ (Nat.le_of_ble_eq_true rfl) (Nat.le_of_ble_eq_true rfl) (fun _ => rfl) rfl (fun t26 => ?_)
        refine XE_iincl (n := 130) dX7_can_127 rfl rfl (by decide) (Nat.le_of_ble_eq_true rfl) rfl (fun v27 => ?_)
        refine XE_goto (n := 73) dX7_can_130 rfl ?_
        refine XE_ls (x_sub_ok (ls' := [(0, some (.ref 0)), (1, some (.int a1)), (2, some (.int a2)), (3, some (.int a3)), (5, some (.int t25.1)), (6, some (.int v27))]) ⟨rfl, rfl, rfl, rfl, rfl, rfl, trivial⟩) ?_
        exact ih t25.1 v27 t26
      · refine XE_if_eq (t := 123) (n := 91) dX7_can_88 rfl rfl (fun h24 => ?_) (fun h24 => ?_)
        · refine XE_ls (x_sub_ok (ls' := [(0, some (.ref 0)), (1, some (.int a1)), (2, some (.int a2)), (3, some (.int a3)), (5, some (.int v11)), (6, some (.int v12))]) ⟨rfl, rfl, rfl, rfl, rfl, rfl, trivial⟩) ?_
          exact hJ19 (v11, t14.2)
        · refine XE_aload_n (n := 92) dX7_can_91 rfl rfl rfl ?_
          refine XE_callVi (ni := 0) (As := []) (st2 := fun t20 => []) (n := 95) (b := 0) xc_X7_243 (fun l t ht => met_X7_wedAll l t14.2 t ht) rfl rfl rfl rfl dX7_can_92 (Nat.le_of_ble_eq_true rfl) ⟨Nat.zero_le _, Nat.zero_le _⟩ (Nat.le_of_ble_eq_true rfl) (Nat.le_of_ble_eq_true rfl) (fun _ => rfl) rfl (fun t20 => ?_)
          refine XE_iload (n := 97) dX7_can_95 rfl rfl ?_
          refine XE_aload_n (n := 98) dX7_can_97 rfl rfl rfl ?_
          refine XE_getr (b := 6) (n := 101) xf_X7_25 rfl rfl dX7_can_98 rfl ?_
          refine XE_aload_n (n := 102) dX7_can_101 rfl rfl rfl ?_
          refine XE_getf (v := t20 0 0) (n := 105) xf_X7_83 rfl rfl rfl dX7_can_102 rfl ?_
          refine XE_iconst (v := 1) (n := 106) dX7_can_105 rfl (by decide) ?_
          refine XE_isub (n := 107) dX7_can_106 rfl ?_
          refine XE_iald (row := t20 6) (n := 108) rfl rfl dX7_can_107 rfl ?_
          refine XE_iload_n (n := 109) dX7_can_108 rfl rfl rfl ?_
          refine XE_icmp_gt (t := 119) (n := 112) dX7_can_109 rfl rfl (fun h23 => ?_) (fun h23 => ?_)
          · refine XE_iconst (v := 0) (n := 120) dX7_can_119 rfl (by decide) ?_
            refine XE_ior (n := 121) dX7_can_120 rfl ?_
            refine XE_topi (fun v21 => ?_)
            refine XE_istore (i := 5) (n := 123) dX7_can_121 rfl (Nat.le_of_ble_eq_true rfl) rfl ?_
            refine XE_ls (x_sub_ok (ls' := [(0, some (.ref 0)), (1, some (.int a1)), (2, some (.int a2)), (3, some (.int a3)), (5, some (.int v21)), (6, some (.int v12))]) ⟨rfl, rfl, rfl, rfl, rfl, rfl, trivial⟩) ?_
            exact hJ19 (v21, t20)
          · refine XE_iconst (v := 1) (n := 113) dX7_can_112 rfl (by decide) ?_
            refine XE_iload (n := 115) dX7_can_113 rfl rfl ?_
            refine XE_ishl (n := 116) dX7_can_115 rfl ?_
            refine XE_goto (n := 120) dX7_can_116 rfl ?_
            refine XE_ior (n := 121) dX7_can_120 rfl ?_
            refine XE_topi (fun v22 => ?_)
            refine XE_istore (i := 5) (n := 123) dX7_can_121 rfl (Nat.le_of_ble_eq_true rfl) rfl ?_
            refine XE_ls (x_sub_ok (ls' := [(0, some (.ref 0)), (1, some (.int a1)), (2, some (.int a2)), (3, some (.int a3)), (5, some (.int v22)), (6, some (.int v12))]) ⟨rfl, rfl, rfl, rfl, rfl, rfl, trivial⟩) ?_
            exact hJ19 (v22, t20)
set_option maxRecDepth 100000 in
theorem xe_X7_can (B : XB) (m0 : Mem) (a1 : Int32) (a2 : Int32) (a3 : Int32) : XE B M_X7_can (XQm B 0 0 SH_M) 0 [(0, some (.ref 0)), (1, some (.int a1)), (2, some (.int a2)), (3, some (.int a3))] [] (0, 0) SH_M [m0] (fun t => some (some (.int t.1), [t.2])) (f_X7_can m0 a1 a2 a3) := by
  unfold f_X7_can
  refine XE_aload_n (n := 1) dX7_can_0 rfl rfl rfl ?_
  refine XE_iconst (v := 0) (n := 2) dX7_can_1 rfl (by decide) ?_
  refine XE_putf (hs2 := fun w1 => [w1]) (n := 5) xf_X7_76 rfl rfl rfl rfl (Nat.le_of_ble_eq_true rfl) (fun _ => rfl) dX7_can_2 rfl (fun w1 => ?_)
  refine XE_iconst (v := 0) (n := 6) dX7_can_5 rfl (by decide) ?_
  refine XE_istore (i := 4) (n := 8) dX7_can_6 rfl (Nat.le_of_ble_eq_true rfl) rfl ?_
  refine XE_iload_n (n := 9) dX7_can_8 rfl rfl rfl ?_
  refine XE_regv (J := 51) (lsJ := fun t9 => [(0, some (.ref 0)), (1, some (.int a1)), (2, some (.int a2)), (3, some (.int a3)), (4, some (.int t9))]) (stJ := fun t9 => []) (hsJ := fun t9 => [w1]) (fun t9 => ?_) (fun hJ2 => ?_)
  · refine XE_iload (n := 53) dX7_can_51 rfl rfl ?_
    refine XE_if_ge (t := 63) (n := 56) dX7_can_53 rfl rfl (fun h32 => ?_) (fun h32 => ?_)
    · refine XE_iconst (v := 0) (n := 64) dX7_can_63 rfl (by decide) ?_
      refine XE_istore (i := 5) (n := 66) dX7_can_64 rfl (Nat.le_of_ble_eq_true rfl) rfl ?_
      refine XE_aload_n (n := 67) dX7_can_66 rfl rfl rfl ?_
      refine XE_callVi (ni := 0) (As := []) (st2 := fun t10 => []) (n := 70) (b := 0) xc_X7_194 (fun l t ht => met_X7_think l w1 t ht) rfl rfl rfl rfl dX7_can_67 (Nat.le_of_ble_eq_true rfl) ⟨Nat.zero_le _, Nat.zero_le _⟩ (Nat.le_of_ble_eq_true rfl) (Nat.le_of_ble_eq_true rfl) (fun _ => rfl) rfl (fun t10 => ?_)
      refine XE_iconst (v := 0) (n := 71) dX7_can_70 rfl (by decide) ?_
      refine XE_istore (i := 6) (n := 73) dX7_can_71 rfl (Nat.le_of_ble_eq_true rfl) rfl ?_
      refine XE_ls (x_sub_ok (ls' := [(0, some (.ref 0)), (1, some (.int a1)), (2, some (.int a2)), (3, some (.int a3)), (5, some (.int 0)), (6, some (.int 0))]) ⟨rfl, rfl, rfl, rfl, rfl, rfl, trivial⟩) ?_
      refine XE_reg (J := 133) (lsJ := fun t29 => [(5, some (.int t29.1))]) (stJ := fun t29 => []) (hsJ := fun t29 => [t29.2]) (fun t29 => ?_) (fun hJ30 => f_X7_can_L73_x B a1 a2 a3 hJ30 6000 (0 : Int32) (0 : Int32) t10)
      refine XE_iload (n := 135) dX7_can_133 rfl rfl ?_
      exact XE_ireturn rfl dX7_can_135 rfl (Nat.le_refl _) (Nat.le_refl _)
    · refine XE_aload_n (n := 57) dX7_can_56 rfl rfl rfl ?_
      refine XE_iload (n := 59) dX7_can_57 rfl rfl ?_
      refine XE_callVi (ni := 1) (As := [.int t9]) (st2 := fun t31 => [.int t31.1]) (n := 62) (b := 0) xc_X7_138 (fun l t ht => met_X7_refuse l w1 t9 t ht) rfl rfl rfl rfl dX7_can_59 (Nat.le_of_ble_eq_true rfl) ⟨Nat.zero_le _, Nat.zero_le _⟩ (Nat.le_of_ble_eq_true rfl) (Nat.le_of_ble_eq_true rfl) (fun _ => rfl) rfl (fun t31 => ?_)
      exact XE_ireturn rfl dX7_can_62 rfl (Nat.le_refl _) (Nat.le_refl _)
  · refine XE_ltif ?_
    refine XE_if_lt (t := 20) (n := 12) dX7_can_9 rfl rfl (fun h8 => ?_) (fun h8 => ?_)
    · refine XE_bipush (v := (-4)) (n := 22) dX7_can_20 rfl (by decide) ?_
      refine XE_istore (i := 4) (n := 24) dX7_can_22 rfl (Nat.le_of_ble_eq_true rfl) rfl ?_
      refine XE_goto (n := 51) dX7_can_24 rfl ?_
      refine XE_ls (x_sub_ok (ls' := [(0, some (.ref 0)), (1, some (.int a1)), (2, some (.int a2)), (3, some (.int a3)), (4, some (.int (-4)))]) ⟨rfl, rfl, rfl, rfl, rfl, trivial⟩) ?_
      exact hJ2 (((-4) : Int32))
    · refine XE_iload_n (n := 13) dX7_can_12 rfl rfl rfl ?_
      refine XE_ltif ?_
      refine XE_if_lt (t := 20) (n := 16) dX7_can_13 rfl rfl (fun h7 => ?_) (fun h7 => ?_)
      · refine XE_bipush (v := (-4)) (n := 22) dX7_can_20 rfl (by decide) ?_
        refine XE_istore (i := 4) (n := 24) dX7_can_22 rfl (Nat.le_of_ble_eq_true rfl) rfl ?_
        refine XE_goto (n := 51) dX7_can_24 rfl ?_
        refine XE_ls (x_sub_ok (ls' := [(0, some (.ref 0)), (1, some (.int a1)), (2, some (.int a2)), (3, some (.int a3)), (4, some (.int (-4)))]) ⟨rfl, rfl, rfl, rfl, rfl, trivial⟩) ?_
        exact hJ2 (((-4) : Int32))
      · refine XE_iload_n (n := 17) dX7_can_16 rfl rfl rfl ?_
        refine XE_ltif ?_
        refine XE_if_ge (t := 27) (n := 20) dX7_can_17 rfl rfl (fun h6 => ?_) (fun h6 => ?_)
        · refine XE_iload_n (n := 28) dX7_can_27 rfl rfl rfl ?_
          refine XE_bipush (v := 9) (n := 30) dX7_can_28 rfl (by decide) ?_
          refine XE_ltif ?_
          refine XE_icmp_gt (t := 47) (n := 33) dX7_can_30 rfl rfl (fun h5 => ?_) (fun h5 => ?_)
          · refine XE_bipush (v := (-6)) (n := 49) dX7_can_47 rfl (by decide) ?_
            refine XE_istore (i := 4) (n := 51) dX7_can_49 rfl (Nat.le_of_ble_eq_true rfl) rfl ?_
            refine XE_ls (x_sub_ok (ls' := [(0, some (.ref 0)), (1, some (.int a1)), (2, some (.int a2)), (3, some (.int a3)), (4, some (.int (-6)))]) ⟨rfl, rfl, rfl, rfl, rfl, trivial⟩) ?_
            exact hJ2 (((-6) : Int32))
          · refine XE_iload_n (n := 34) dX7_can_33 rfl rfl rfl ?_
            refine XE_sipush (v := 240) (n := 37) dX7_can_34 rfl (by decide) ?_
            refine XE_ltif ?_
            refine XE_icmp_gt (t := 47) (n := 40) dX7_can_37 rfl rfl (fun h4 => ?_) (fun h4 => ?_)
            · refine XE_bipush (v := (-6)) (n := 49) dX7_can_47 rfl (by decide) ?_
              refine XE_istore (i := 4) (n := 51) dX7_can_49 rfl (Nat.le_of_ble_eq_true rfl) rfl ?_
              refine XE_ls (x_sub_ok (ls' := [(0, some (.ref 0)), (1, some (.int a1)), (2, some (.int a2)), (3, some (.int a3)), (4, some (.int (-6)))]) ⟨rfl, rfl, rfl, rfl, rfl, trivial⟩) ?_
              exact hJ2 (((-6) : Int32))
            · refine XE_iload_n (n := 41) dX7_can_40 rfl rfl rfl ?_
              refine XE_sipush (v := 999) (n := 44) dX7_can_41 rfl (by decide) ?_
              refine XE_ltif ?_
              refine XE_icmp_le (t := 51) (n := 47) dX7_can_44 rfl rfl (fun h3 => ?_) (fun h3 => ?_)
              · refine XE_ls (x_sub_ok (ls' := [(0, some (.ref 0)), (1, some (.int a1)), (2, some (.int a2)), (3, some (.int a3)), (4, some (.int 0))]) ⟨rfl, rfl, rfl, rfl, rfl, trivial⟩) ?_
                exact hJ2 ((0 : Int32))
              · refine XE_bipush (v := (-6)) (n := 49) dX7_can_47 rfl (by decide) ?_
                refine XE_istore (i := 4) (n := 51) dX7_can_49 rfl (Nat.le_of_ble_eq_true rfl) rfl ?_
                refine XE_ls (x_sub_ok (ls' := [(0, some (.ref 0)), (1, some (.int a1)), (2, some (.int a2)), (3, some (.int a3)), (4, some (.int (-6)))]) ⟨rfl, rfl, rfl, rfl, rfl, trivial⟩) ?_
                exact hJ2 (((-6) : Int32))
        · refine XE_bipush (v := (-4)) (n := 22) dX7_can_20 rfl (by decide) ?_
          refine XE_istore (i := 4) (n := 24) dX7_can_22 rfl (Nat.le_of_ble_eq_true rfl) rfl ?_
          refine XE_goto (n := 51) dX7_can_24 rfl ?_
          refine XE_ls (x_sub_ok (ls' := [(0, some (.ref 0)), (1, some (.int a1)), (2, some (.int a2)), (3, some (.int a3)), (4, some (.int (-4)))]) ⟨rfl, rfl, rfl, rfl, rfl, trivial⟩) ?_
          exact hJ2 (((-4) : Int32))
theorem met_X7_can (l : Launch) (m0 : Mem) (a1 : Int32) (a2 : Int32) (a3 : Int32) (t : Int32 × Mem) (ht : f_X7_can m0 a1 a2 a3 = some t) : XMet l yX7_can cX7_can 7 (some .int) 5 0 0 [.ref 0, .int a1, .int a2, .int a3] SH_M [m0] SH_M (some (.int t.1), [t.2]) := XMet.of (by decide +kernel) (fun _ => Nat.le_of_ble_eq_true rfl) (fun B => xe_X7_can B m0 a1 a2 a3) (by rw [ht]; rfl)
/-! X7_nextPosing: EveryTwentyMinutesModel.nextPosing(I)I in world M at (0,) -/
abbrev M_X7_nextPosing : XM := (RX7, cX7_nextPosing, 5, (some .int), "nextPosing", 2, 0, 0)
def f_X7_nextPosing_L4 (a1 : Int32) (m0 : Mem) : Nat → Int32 → Int32 → Option (Int32)
  | 0, _, _ => none
  | n + 1, v1, v2 =>
    if (m0 0 0) ≤ v2 then
      some (v1)
    else
      (if v1 < 0 then
         some ((1 : Int32))
       else
         ck (inb v2 7) <|
         lt (if 0 ≤ v1 then
             (v1)
           else
             ((0 : Int32))) fun t12 =>
         ck (inb t12 7) <|
         if (m0 6 (ix t12)) ≤ (m0 6 (ix v2)) then
           some ((0 : Int32))
         else
           some ((1 : Int32))).bind fun t15 =>
      (f_X7_hasBit a1 v2).bind fun t16 =>
      if t16 = 0 then
        if t15 = 0 then
          lt (v2 + 1) fun v18 =>
          (f_X7_nextPosing_L4 a1 m0 n) v1 v18
        else
          lt (v2 + 1) fun v19 =>
          (f_X7_nextPosing_L4 a1 m0 n) v2 v19
      else
        lt (v2 + 1) fun v17 =>
        (f_X7_nextPosing_L4 a1 m0 n) v1 v17
def f_X7_nextPosing (m0 : Mem) (a1 : Int32) : Option (Int32) :=
  (f_X7_nextPosing_L4 a1 m0 6000 ((-1) : Int32) (0 : Int32)).bind fun t23 =>
  some t23
set_option maxRecDepth 100000 in
theorem f_X7_nextPosing_L4_x {α R : Type} (B : XB) {Q : R → State → Prop} {k : α → Option R} {r : (Int32) → Option α} (a1 : Int32) (m0 : Mem) (hE : ∀ t0 : (Int32), XE B M_X7_nextPosing Q 71 [(2, some (.int t0))] [] (0, 0) SH_M [m0] (fun t => (r t).bind k) (some t0)) : ∀ (n : Nat) (v1 : Int32) (v2 : Int32), XE B M_X7_nextPosing Q 4 [(0, some (.ref 0)), (1, some (.int a1)), (2, some (.int v1)), (3, some (.int v2))] [] (0, 0) SH_M [m0] (fun t => (r t).bind k) (f_X7_nextPosing_L4 a1 m0 n v1 v2) := by
  intro n
  induction n with
  | zero => intros; exact XE_none
  | succ n ih =>
    intro v1 v2
    rw [f_X7_nextPosing_L4]
    refine XE_iload_n (n := 5) dX7_nextPosing_4 rfl rfl rfl ?_
    refine XE_aload_n (n := 6) dX7_nextPosing_5 rfl rfl rfl ?_
    refine XE_getf (v := m0 0 0) (n := 9) xf_X7_83 rfl rfl rfl dX7_nextPosing_6 rfl ?_
    refine XE_icmp_ge (t := 71) (n := 12) dX7_nextPosing_9 rfl rfl (fun h22 => ?_) (fun h22 => ?_)
    · refine XE_ls (x_sub_ok (ls' := [(2, some (.int v1))]) ⟨rfl, trivial⟩) ?_
      exact hE (v1)
    · refine XE_iload_n (n := 13) dX7_nextPosing_12 rfl rfl rfl ?_
      refine XE_reg (J := 44) (lsJ := fun t15 => [(0, some (.ref 0)), (1, some (.int a1)), (2, some (.int v1)), (3, some (.int v2))]) (stJ := fun t15 => [.int t15]) (hsJ := fun t15 => [m0]) (fun t15 => ?_) (fun hJ9 => ?_)
      · refine XE_istore (i := 4) (n := 46) dX7_nextPosing_44 rfl (Nat.le_of_ble_eq_true rfl) rfl ?_
        refine XE_iload_n (n := 47) dX7_nextPosing_46 rfl rfl rfl ?_
        refine XE_iload_n (n := 48) dX7_nextPosing_47 rfl rfl rfl ?_
        refine XE_callS (ni := 2) (As := [.int a1, .int v2]) (π := []) (co := [0]) (cv := [m0]) (nn := 1) (hs2 := fun t16 => [m0]) (st2 := fun t16 => [.int t16]) (n := 51) xc_X7_265 (fun l t ht => met_X7_hasBit l a1 v2 t ht) rfl rfl rfl dX7_nextPosing_48 (Nat.le_of_ble_eq_true rfl) ⟨Nat.zero_le _, Nat.zero_le _⟩ (Nat.le_of_ble_eq_true rfl) (Nat.le_of_ble_eq_true rfl) ok_40 rfl rfl rfl (fun _ => rfl) (fun _ => rfl) (fun _ => rfl) rfl (fun _ => rfl) rfl (fun t16 => ?_)
        refine XE_if_ne (t := 63) (n := 54) dX7_nextPosing_51 rfl rfl (fun h21 => ?_) (fun h21 => ?_)
        · refine XE_iload (n := 56) dX7_nextPosing_54 rfl rfl ?_
          refine XE_if_eq (t := 63) (n := 59) dX7_nextPosing_56 rfl rfl (fun h20 => ?_) (fun h20 => ?_)
          · refine XE_iload_n (n := 64) dX7_nextPosing_63 rfl rfl rfl ?_
            refine XE_istore_n (i := 2) (n := 65) dX7_nextPosing_64 rfl rfl (Nat.le_of_ble_eq_true rfl) rfl ?_
            refine XE_iincl (n := 68) dX7_nextPosing_65 rfl rfl (by decide) (Nat.le_of_ble_eq_true rfl) rfl (fun v18 => ?_)
            refine XE_goto (n := 4) dX7_nextPosing_68 rfl ?_
            refine XE_ls (x_sub_ok (ls' := [(0, some (.ref 0)), (1, some (.int a1)), (2, some (.int v1)), (3, some (.int v18))]) ⟨rfl, rfl, rfl, rfl, trivial⟩) ?_
            exact ih v1 v18
          · refine XE_iload_n (n := 60) dX7_nextPosing_59 rfl rfl rfl ?_
            refine XE_goto (n := 64) dX7_nextPosing_60 rfl ?_
            refine XE_istore_n (i := 2) (n := 65) dX7_nextPosing_64 rfl rfl (Nat.le_of_ble_eq_true rfl) rfl ?_
            refine XE_iincl (n := 68) dX7_nextPosing_65 rfl rfl (by decide) (Nat.le_of_ble_eq_true rfl) rfl (fun v19 => ?_)
            refine XE_goto (n := 4) dX7_nextPosing_68 rfl ?_
            refine XE_ls (x_sub_ok (ls' := [(0, some (.ref 0)), (1, some (.int a1)), (2, some (.int v2)), (3, some (.int v19))]) ⟨rfl, rfl, rfl, rfl, trivial⟩) ?_
            exact ih v2 v19
        · refine XE_iload_n (n := 64) dX7_nextPosing_63 rfl rfl rfl ?_
          refine XE_istore_n (i := 2) (n := 65) dX7_nextPosing_64 rfl rfl (Nat.le_of_ble_eq_true rfl) rfl ?_
          refine XE_iincl (n := 68) dX7_nextPosing_65 rfl rfl (by decide) (Nat.le_of_ble_eq_true rfl) rfl (fun v17 => ?_)
          refine XE_goto (n := 4) dX7_nextPosing_68 rfl ?_
          refine XE_ls (x_sub_ok (ls' := [(0, some (.ref 0)), (1, some (.int a1)), (2, some (.int v1)), (3, some (.int v17))]) ⟨rfl, rfl, rfl, rfl, trivial⟩) ?_
          exact ih v1 v17
      · refine XE_if_lt (t := 39) (n := 16) dX7_nextPosing_13 rfl rfl (fun h14 => ?_) (fun h14 => ?_)
        · refine XE_iconst (v := 1) (n := 40) dX7_nextPosing_39 rfl (by decide) ?_
          refine XE_goto (n := 44) dX7_nextPosing_40 rfl ?_
          refine XE_ls (x_sub_ok (ls' := [(0, some (.ref 0)), (1, some (.int a1)), (2, some (.int v1)), (3, some (.int v2))]) ⟨rfl, rfl, rfl, rfl, trivial⟩) ?_
          exact hJ9 ((1 : Int32))
        · refine XE_aload_n (n := 17) dX7_nextPosing_16 rfl rfl rfl ?_
          refine XE_getr (b := 6) (n := 20) xf_X7_25 rfl rfl dX7_nextPosing_17 rfl ?_
          refine XE_iload_n (n := 21) dX7_nextPosing_20 rfl rfl rfl ?_
          refine XE_iald (row := m0 6) (n := 22) rfl rfl dX7_nextPosing_21 rfl ?_
          refine XE_aload_n (n := 23) dX7_nextPosing_22 rfl rfl rfl ?_
          refine XE_getr (b := 6) (n := 26) xf_X7_25 rfl rfl dX7_nextPosing_23 rfl ?_
          refine XE_iload_n (n := 27) dX7_nextPosing_26 rfl rfl rfl ?_
          refine XE_regv (J := 35) (lsJ := fun t12 => [(0, some (.ref 0)), (1, some (.int a1)), (2, some (.int v1)), (3, some (.int v2))]) (stJ := fun t12 => [.int t12, .ref 6, .int (m0 6 (ix v2))]) (hsJ := fun t12 => [m0]) (fun t12 => ?_) (fun hJ10 => ?_)
          · refine XE_iald (row := m0 6) (n := 36) rfl rfl dX7_nextPosing_35 rfl ?_
            refine XE_icmp_ge (t := 43) (n := 39) dX7_nextPosing_36 rfl rfl (fun h13 => ?_) (fun h13 => ?_)
            · refine XE_iconst (v := 0) (n := 44) dX7_nextPosing_43 rfl (by decide) ?_
              refine XE_ls (x_sub_ok (ls' := [(0, some (.ref 0)), (1, some (.int a1)), (2, some (.int v1)), (3, some (.int v2))]) ⟨rfl, rfl, rfl, rfl, trivial⟩) ?_
              exact hJ9 ((0 : Int32))
            · refine XE_iconst (v := 1) (n := 40) dX7_nextPosing_39 rfl (by decide) ?_
              refine XE_goto (n := 44) dX7_nextPosing_40 rfl ?_
              refine XE_ls (x_sub_ok (ls' := [(0, some (.ref 0)), (1, some (.int a1)), (2, some (.int v1)), (3, some (.int v2))]) ⟨rfl, rfl, rfl, rfl, trivial⟩) ?_
              exact hJ9 ((1 : Int32))
          · refine XE_ltif ?_
            refine XE_if_ge (t := 34) (n := 30) dX7_nextPosing_27 rfl rfl (fun h11 => ?_) (fun h11 => ?_)
            · refine XE_iload_n (n := 35) dX7_nextPosing_34 rfl rfl rfl ?_
              refine XE_ls (x_sub_ok (ls' := [(0, some (.ref 0)), (1, some (.int a1)), (2, some (.int v1)), (3, some (.int v2))]) ⟨rfl, rfl, rfl, rfl, trivial⟩) ?_
              exact hJ10 (v1)
            · refine XE_iconst (v := 0) (n := 31) dX7_nextPosing_30 rfl (by decide) ?_
              refine XE_goto (n := 35) dX7_nextPosing_31 rfl ?_
              refine XE_ls (x_sub_ok (ls' := [(0, some (.ref 0)), (1, some (.int a1)), (2, some (.int v1)), (3, some (.int v2))]) ⟨rfl, rfl, rfl, rfl, trivial⟩) ?_
              exact hJ10 ((0 : Int32))
set_option maxRecDepth 100000 in
theorem xe_X7_nextPosing (B : XB) (m0 : Mem) (a1 : Int32) : XE B M_X7_nextPosing (XQm B 0 0 SH_M) 0 [(0, some (.ref 0)), (1, some (.int a1))] [] (0, 0) SH_M [m0] (fun t => some (some (.int t), [m0])) (f_X7_nextPosing m0 a1) := by
  unfold f_X7_nextPosing
  refine XE_iconst (v := (-1)) (n := 1) dX7_nextPosing_0 rfl (by decide) ?_
  refine XE_istore_n (i := 2) (n := 2) dX7_nextPosing_1 rfl rfl (Nat.le_of_ble_eq_true rfl) rfl ?_
  refine XE_iconst (v := 0) (n := 3) dX7_nextPosing_2 rfl (by decide) ?_
  refine XE_istore_n (i := 3) (n := 4) dX7_nextPosing_3 rfl rfl (Nat.le_of_ble_eq_true rfl) rfl ?_
  refine XE_ls (x_sub_ok (ls' := [(0, some (.ref 0)), (1, some (.int a1)), (2, some (.int (-1))), (3, some (.int 0))]) ⟨rfl, rfl, rfl, rfl, trivial⟩) ?_
  refine XE_reg (J := 71) (lsJ := fun t23 => [(2, some (.int t23))]) (stJ := fun t23 => []) (hsJ := fun t23 => [m0]) (fun t23 => ?_) (fun hJ24 => f_X7_nextPosing_L4_x B a1 m0 hJ24 6000 ((-1) : Int32) (0 : Int32))
  refine XE_iload_n (n := 72) dX7_nextPosing_71 rfl rfl rfl ?_
  exact XE_ireturn rfl dX7_nextPosing_72 rfl (Nat.le_refl _) (Nat.le_refl _)
theorem met_X7_nextPosing (l : Launch) (m0 : Mem) (a1 : Int32) (t : Int32) (ht : f_X7_nextPosing m0 a1 = some t) : XMet l yX7_nextPosing cX7_nextPosing 5 (some .int) 2 0 0 [.ref 0, .int a1] SH_M [m0] SH_M (some (.int t), [m0]) := XMet.of (by decide +kernel) (fun _ => Nat.le_of_ble_eq_true rfl) (fun B => xe_X7_nextPosing B m0 a1) (by rw [ht]; rfl)
/-! X7_pose: EveryTwentyMinutesModel.pose()I in world M at (0,) -/
abbrev M_X7_pose : XM := (RX7, cX7_pose, 5, (some .int), "pose", 3, 0, 0)
def f_X7_pose_L6 : Nat → Int32 → Int32 → Int32 → Mem → Option (Int32 × Mem)
  | 0, _, _, _, _ => none
  | n + 1, v1, v2, v3, w4 =>
    if (w4 0 0) ≤ v3 then
      some (v1, w4)
    else
      (f_X7_nextPosing w4 v2).bind fun t5 =>
      lt (v2 ||| (1 <<< (t5 &&& 31))) fun v6 =>
      ck (inb t5 7) <|
      (f_X7_most v1 ((w4 6 (ix t5)) + 2)).bind fun t7 =>
      ck (inb t5 7) <|
      lt (xs w4 20 (ix t5) t7) fun w8 =>
      ck (inb t5 7) <|
      (f_X7_posesOf w8 t5).bind fun t9 =>
      lt ((w8 20 (ix t5)) + t9) fun v10 =>
      lt (v3 + 1) fun v11 =>
      (f_X7_pose_L6 n) v10 v6 v11 w8
def f_X7_pose (m0 : Mem) : Option (Int32 × Mem) :=
  (f_X7_pose_L6 6000 (0 : Int32) (0 : Int32) (0 : Int32) m0).bind fun t13 =>
  some (t13.1, t13.2)
set_option maxRecDepth 100000 in
theorem f_X7_pose_L6_x {α R : Type} (B : XB) {Q : R → State → Prop} {k : α → Option R} {r : (Int32 × Mem) → Option α} (hE : ∀ t0 : (Int32 × Mem), XE B M_X7_pose Q 69 [(1, some (.int t0.1))] [] (0, 0) SH_M [t0.2] (fun t => (r t).bind k) (some t0)) : ∀ (n : Nat) (v1 : Int32) (v2 : Int32) (v3 : Int32) (w4 : Mem), XE B M_X7_pose Q 6 [(0, some (.ref 0)), (1, some (.int v1)), (2, some (.int v2)), (3, some (.int v3))] [] (0, 0) SH_M [w4] (fun t => (r t).bind k) (f_X7_pose_L6 n v1 v2 v3 w4) := by
  intro n
  induction n with
  | zero => intros; exact XE_none
  | succ n ih =>
    intro v1 v2 v3 w4
    rw [f_X7_pose_L6]
    refine XE_iload_n (n := 7) dX7_pose_6 rfl rfl rfl ?_
    refine XE_aload_n (n := 8) dX7_pose_7 rfl rfl rfl ?_
    refine XE_getf (v := w4 0 0) (n := 11) xf_X7_83 rfl rfl rfl dX7_pose_8 rfl ?_
    refine XE_icmp_ge (t := 69) (n := 14) dX7_pose_11 rfl rfl (fun h12 => ?_) (fun h12 => ?_)
    · refine XE_ls (x_sub_ok (ls' := [(1, some (.int v1))]) ⟨rfl, trivial⟩) ?_
      exact hE (v1, w4)
    · refine XE_aload_n (n := 15) dX7_pose_14 rfl rfl rfl ?_
      refine XE_iload_n (n := 16) dX7_pose_15 rfl rfl rfl ?_
      refine XE_callVi (ni := 1) (As := [.int v2]) (st2 := fun t5 => [.int t5]) (n := 19) (b := 0) xc_X7_277 (fun l t ht => met_X7_nextPosing l w4 v2 t ht) rfl rfl rfl rfl dX7_pose_16 (Nat.le_of_ble_eq_true rfl) ⟨Nat.zero_le _, Nat.zero_le _⟩ (Nat.le_of_ble_eq_true rfl) (Nat.le_of_ble_eq_true rfl) (fun _ => rfl) rfl (fun t5 => ?_)
      refine XE_istore (i := 4) (n := 21) dX7_pose_19 rfl (Nat.le_of_ble_eq_true rfl) rfl ?_
      refine XE_iload_n (n := 22) dX7_pose_21 rfl rfl rfl ?_
      refine XE_iconst (v := 1) (n := 23) dX7_pose_22 rfl (by decide) ?_
      refine XE_iload (n := 25) dX7_pose_23 rfl rfl ?_
      refine XE_ishl (n := 26) dX7_pose_25 rfl ?_
      refine XE_ior (n := 27) dX7_pose_26 rfl ?_
      refine XE_topi (fun v6 => ?_)
      refine XE_istore_n (i := 2) (n := 28) dX7_pose_27 rfl rfl (Nat.le_of_ble_eq_true rfl) rfl ?_
      refine XE_aload_n (n := 29) dX7_pose_28 rfl rfl rfl ?_
      refine XE_getr (b := 20) (n := 32) xf_X7_67 rfl rfl dX7_pose_29 rfl ?_
      refine XE_iload (n := 34) dX7_pose_32 rfl rfl ?_
      refine XE_iload_n (n := 35) dX7_pose_34 rfl rfl rfl ?_
      refine XE_aload_n (n := 36) dX7_pose_35 rfl rfl rfl ?_
      refine XE_getr (b := 6) (n := 39) xf_X7_25 rfl rfl dX7_pose_36 rfl ?_
      refine XE_iload (n := 41) dX7_pose_39 rfl rfl ?_
      refine XE_iald (row := w4 6) (n := 42) rfl rfl dX7_pose_41 rfl ?_
      refine XE_iconst (v := 2) (n := 43) dX7_pose_42 rfl (by decide) ?_
      refine XE_iadd (n := 44) dX7_pose_43 rfl ?_
      refine XE_callS (ni := 2) (As := [.int v1, .int ((w4 6 (ix t5)) + 2)]) (π := []) (co := [0]) (cv := [w4]) (nn := 1) (hs2 := fun t7 => [w4]) (st2 := fun t7 => [.int t7, .int t5, .ref 20]) (n := 47) xc_X7_90 (fun l t ht => met_X7_most l v1 ((w4 6 (ix t5)) + 2) t ht) rfl rfl rfl dX7_pose_44 (Nat.le_of_ble_eq_true rfl) ⟨Nat.zero_le _, Nat.zero_le _⟩ (Nat.le_of_ble_eq_true rfl) (Nat.le_of_ble_eq_true rfl) ok_40 rfl rfl rfl (fun _ => rfl) (fun _ => rfl) (fun _ => rfl) rfl (fun _ => rfl) rfl (fun t7 => ?_)
      refine XE_iast (hs2 := fun w8 => [w8]) (n := 48) rfl rfl rfl (Nat.le_of_ble_eq_true rfl) (fun _ => rfl) dX7_pose_47 rfl (fun w8 => ?_)
      refine XE_aload_n (n := 49) dX7_pose_48 rfl rfl rfl ?_
      refine XE_getr (b := 20) (n := 52) xf_X7_67 rfl rfl dX7_pose_49 rfl ?_
      refine XE_iload (n := 54) dX7_pose_52 rfl rfl ?_
      refine XE_iald (row := w8 20) (n := 55) rfl rfl dX7_pose_54 rfl ?_
      refine XE_aload_n (n := 56) dX7_pose_55 rfl rfl rfl ?_
      refine XE_iload (n := 58) dX7_pose_56 rfl rfl ?_
      refine XE_callVi (ni := 1) (As := [.int t5]) (st2 := fun t9 => [.int t9, .int (w8 20 (ix t5))]) (n := 61) (b := 0) xc_X7_228 (fun l t ht => met_X7_posesOf l w8 t5 t ht) rfl rfl rfl rfl dX7_pose_58 (Nat.le_of_ble_eq_true rfl) ⟨Nat.zero_le _, Nat.zero_le _⟩ (Nat.le_of_ble_eq_true rfl) (Nat.le_of_ble_eq_true rfl) (fun _ => rfl) rfl (fun t9 => ?_)
      refine XE_iadd (n := 62) dX7_pose_61 rfl ?_
      refine XE_topi (fun v10 => ?_)
      refine XE_istore_n (i := 1) (n := 63) dX7_pose_62 rfl rfl (Nat.le_of_ble_eq_true rfl) rfl ?_
      refine XE_iincl (n := 66) dX7_pose_63 rfl rfl (by decide) (Nat.le_of_ble_eq_true rfl) rfl (fun v11 => ?_)
      refine XE_goto (n := 6) dX7_pose_66 rfl ?_
      refine XE_ls (x_sub_ok (ls' := [(0, some (.ref 0)), (1, some (.int v10)), (2, some (.int v6)), (3, some (.int v11))]) ⟨rfl, rfl, rfl, rfl, trivial⟩) ?_
      exact ih v10 v6 v11 w8
set_option maxRecDepth 100000 in
theorem xe_X7_pose (B : XB) (m0 : Mem) : XE B M_X7_pose (XQm B 0 0 SH_M) 0 [(0, some (.ref 0))] [] (0, 0) SH_M [m0] (fun t => some (some (.int t.1), [t.2])) (f_X7_pose m0) := by
  unfold f_X7_pose
  refine XE_iconst (v := 0) (n := 1) dX7_pose_0 rfl (by decide) ?_
  refine XE_istore_n (i := 1) (n := 2) dX7_pose_1 rfl rfl (Nat.le_of_ble_eq_true rfl) rfl ?_
  refine XE_iconst (v := 0) (n := 3) dX7_pose_2 rfl (by decide) ?_
  refine XE_istore_n (i := 2) (n := 4) dX7_pose_3 rfl rfl (Nat.le_of_ble_eq_true rfl) rfl ?_
  refine XE_iconst (v := 0) (n := 5) dX7_pose_4 rfl (by decide) ?_
  refine XE_istore_n (i := 3) (n := 6) dX7_pose_5 rfl rfl (Nat.le_of_ble_eq_true rfl) rfl ?_
  refine XE_ls (x_sub_ok (ls' := [(0, some (.ref 0)), (1, some (.int 0)), (2, some (.int 0)), (3, some (.int 0))]) ⟨rfl, rfl, rfl, rfl, trivial⟩) ?_
  refine XE_reg (J := 69) (lsJ := fun t13 => [(1, some (.int t13.1))]) (stJ := fun t13 => []) (hsJ := fun t13 => [t13.2]) (fun t13 => ?_) (fun hJ14 => f_X7_pose_L6_x B hJ14 6000 (0 : Int32) (0 : Int32) (0 : Int32) m0)
  refine XE_iload_n (n := 70) dX7_pose_69 rfl rfl rfl ?_
  exact XE_ireturn rfl dX7_pose_70 rfl (Nat.le_refl _) (Nat.le_refl _)
theorem met_X7_pose (l : Launch) (m0 : Mem) (t : Int32 × Mem) (ht : f_X7_pose m0 = some t) : XMet l yX7_pose cX7_pose 5 (some .int) 3 0 0 [.ref 0] SH_M [m0] SH_M (some (.int t.1), [t.2]) := XMet.of (by decide +kernel) (fun _ => Nat.le_of_ble_eq_true rfl) (fun B => xe_X7_pose B m0) (by rw [ht]; rfl)
/-! X7_fountain: EveryTwentyMinutesModel.fountain(I)I in world M at (0,) -/
abbrev M_X7_fountain : XM := (RX7, cX7_fountain, 2, (some .int), "fountain", 5, 0, 0)
def f_X7_fountain (m0 : Mem) (a1 : Int32) : Option (Int32 × Mem) :=
  lt (xs m0 0 14 0) fun w1 =>
  (f_X7_isCouple w1 a1).bind fun t2 =>
  if t2 = 0 then
    (f_X7_refuse w1 (-1)).bind fun t7 =>
    some (t7.1, t7.2)
  else
    (f_X7_think w1).bind fun t3 =>
    (f_X7_wedAll t3).bind fun t4 =>
    (f_X7_pose t4).bind fun t5 =>
    (f_X7_again t5.2).bind fun t6 =>
    ck (inb a1 7) <|
    some ((t6 20 (ix a1)), t6)
set_option maxRecDepth 100000 in
theorem xe_X7_fountain (B : XB) (m0 : Mem) (a1 : Int32) : XE B M_X7_fountain (XQm B 0 0 SH_M) 0 [(0, some (.ref 0)), (1, some (.int a1))] [] (0, 0) SH_M [m0] (fun t => some (some (.int t.1), [t.2])) (f_X7_fountain m0 a1) := by
  unfold f_X7_fountain
  refine XE_aload_n (n := 1) dX7_fountain_0 rfl rfl rfl ?_
  refine XE_iconst (v := 0) (n := 2) dX7_fountain_1 rfl (by decide) ?_
  refine XE_putf (hs2 := fun w1 => [w1]) (n := 5) xf_X7_76 rfl rfl rfl rfl (Nat.le_of_ble_eq_true rfl) (fun _ => rfl) dX7_fountain_2 rfl (fun w1 => ?_)
  refine XE_aload_n (n := 6) dX7_fountain_5 rfl rfl rfl ?_
  refine XE_iload_n (n := 7) dX7_fountain_6 rfl rfl rfl ?_
  refine XE_callVi (ni := 1) (As := [.int a1]) (st2 := fun t2 => [.int t2]) (n := 10) (b := 0) xc_X7_177 (fun l t ht => met_X7_isCouple l w1 a1 t ht) rfl rfl rfl rfl dX7_fountain_7 (Nat.le_of_ble_eq_true rfl) ⟨Nat.zero_le _, Nat.zero_le _⟩ (Nat.le_of_ble_eq_true rfl) (Nat.le_of_ble_eq_true rfl) (fun _ => rfl) rfl (fun t2 => ?_)
  refine XE_if_ne (t := 19) (n := 13) dX7_fountain_10 rfl rfl (fun h8 => ?_) (fun h8 => ?_)
  · refine XE_aload_n (n := 14) dX7_fountain_13 rfl rfl rfl ?_
    refine XE_iconst (v := (-1)) (n := 15) dX7_fountain_14 rfl (by decide) ?_
    refine XE_callVi (ni := 1) (As := [.int (-1)]) (st2 := fun t7 => [.int t7.1]) (n := 18) (b := 0) xc_X7_138 (fun l t ht => met_X7_refuse l w1 (-1) t ht) rfl rfl rfl rfl dX7_fountain_15 (Nat.le_of_ble_eq_true rfl) ⟨Nat.zero_le _, Nat.zero_le _⟩ (Nat.le_of_ble_eq_true rfl) (Nat.le_of_ble_eq_true rfl) (fun _ => rfl) rfl (fun t7 => ?_)
    exact XE_ireturn rfl dX7_fountain_18 rfl (Nat.le_refl _) (Nat.le_refl _)
  · refine XE_aload_n (n := 20) dX7_fountain_19 rfl rfl rfl ?_
    refine XE_callVi (ni := 0) (As := []) (st2 := fun t3 => []) (n := 23) (b := 0) xc_X7_194 (fun l t ht => met_X7_think l w1 t ht) rfl rfl rfl rfl dX7_fountain_20 (Nat.le_of_ble_eq_true rfl) ⟨Nat.zero_le _, Nat.zero_le _⟩ (Nat.le_of_ble_eq_true rfl) (Nat.le_of_ble_eq_true rfl) (fun _ => rfl) rfl (fun t3 => ?_)
    refine XE_aload_n (n := 24) dX7_fountain_23 rfl rfl rfl ?_
    refine XE_callVi (ni := 0) (As := []) (st2 := fun t4 => []) (n := 27) (b := 0) xc_X7_243 (fun l t ht => met_X7_wedAll l t3 t ht) rfl rfl rfl rfl dX7_fountain_24 (Nat.le_of_ble_eq_true rfl) ⟨Nat.zero_le _, Nat.zero_le _⟩ (Nat.le_of_ble_eq_true rfl) (Nat.le_of_ble_eq_true rfl) (fun _ => rfl) rfl (fun t4 => ?_)
    refine XE_aload_n (n := 28) dX7_fountain_27 rfl rfl rfl ?_
    refine XE_callVi (ni := 0) (As := []) (st2 := fun t5 => [.int t5.1]) (n := 31) (b := 0) xc_X7_280 (fun l t ht => met_X7_pose l t4 t ht) rfl rfl rfl rfl dX7_fountain_28 (Nat.le_of_ble_eq_true rfl) ⟨Nat.zero_le _, Nat.zero_le _⟩ (Nat.le_of_ble_eq_true rfl) (Nat.le_of_ble_eq_true rfl) (fun _ => rfl) rfl (fun t5 => ?_)
    refine XE_pop (n := 32) dX7_fountain_31 rfl rfl ?_
    refine XE_aload_n (n := 33) dX7_fountain_32 rfl rfl rfl ?_
    refine XE_callVi (ni := 0) (As := []) (st2 := fun t6 => []) (n := 36) (b := 0) xc_X7_200 (fun l t ht => met_X7_again l t5.2 t ht) rfl rfl rfl rfl dX7_fountain_33 (Nat.le_of_ble_eq_true rfl) ⟨Nat.zero_le _, Nat.zero_le _⟩ (Nat.le_of_ble_eq_true rfl) (Nat.le_of_ble_eq_true rfl) (fun _ => rfl) rfl (fun t6 => ?_)
    refine XE_aload_n (n := 37) dX7_fountain_36 rfl rfl rfl ?_
    refine XE_getr (b := 20) (n := 40) xf_X7_67 rfl rfl dX7_fountain_37 rfl ?_
    refine XE_iload_n (n := 41) dX7_fountain_40 rfl rfl rfl ?_
    refine XE_iald (row := t6 20) (n := 42) rfl rfl dX7_fountain_41 rfl ?_
    exact XE_ireturn rfl dX7_fountain_42 rfl (Nat.le_refl _) (Nat.le_refl _)
theorem met_X7_fountain (l : Launch) (m0 : Mem) (a1 : Int32) (t : Int32 × Mem) (ht : f_X7_fountain m0 a1 = some t) : XMet l yX7_fountain cX7_fountain 2 (some .int) 5 0 0 [.ref 0, .int a1] SH_M [m0] SH_M (some (.int t.1), [t.2]) := XMet.of (by decide +kernel) (fun _ => Nat.le_of_ble_eq_true rfl) (fun B => xe_X7_fountain B m0 a1) (by rw [ht]; rfl)
/-! X7_fountains: EveryTwentyMinutesModel.fountains(I)I in world M at (0,) -/
abbrev M_X7_fountains : XM := (RX7, cX7_fountains, 7, (some .int), "fountains", 5, 0, 0)
def f_X7_fountains_L44 (t5 : (Int32 × Mem)) : Nat → Int32 → Int32 → Int32 → Option (Int32)
  | 0, _, _, _ => none
  | n + 1, v7, v8, v9 =>
    if (t5.2 0 0) ≤ v9 then
      some (v7)
    else
      ck (inb v9 7) <|
      ck (inb v9 7) <|
      lt (((t5.2 20 (ix v9)) - (t5.2 6 (ix v9))) - 2) fun v10 =>
      lt (if v10 ≤ v8 then
          (v7)
        else
          (v9)) fun t13 =>
      (f_X7_most v8 v10).bind fun t14 =>
      lt (v9 + 1) fun v15 =>
      (f_X7_fountains_L44 t5 n) t13 t14 v15
def f_X7_fountains (m0 : Mem) (a1 : Int32) : Option (Int32 × Mem) :=
  lt (xs m0 0 14 0) fun w1 =>
  (f_X7_in ((a1 : Int32).toInt64) 0 1).bind fun t2 =>
  if t2 = 0 then
    (f_X7_refuse w1 (-2)).bind fun t21 =>
    some (t21.1, t21.2)
  else
    (f_X7_think w1).bind fun t3 =>
    (f_X7_wedAll t3).bind fun t4 =>
    (f_X7_pose t4).bind fun t5 =>
    lt t5.1 fun v6 =>
    (f_X7_fountains_L44 t5 6000 ((-9) : Int32) ((-1) : Int32) (0 : Int32)).bind fun t17 =>
    (f_X7_again t5.2).bind fun t18 =>
    if a1 = 0 then
      some (t17, t18)
    else
      some (v6, t18)
set_option maxRecDepth 100000 in
theorem f_X7_fountains_L44_x {α R : Type} (B : XB) {Q : R → State → Prop} {k : α → Option R} {r : (Int32) → Option α} (a1 : Int32) (t5 : (Int32 × Mem)) (v6 : Int32) (hE : ∀ t0 : (Int32), XE B M_X7_fountains Q 101 [(0, some (.ref 0)), (1, some (.int a1)), (2, some (.int v6)), (3, some (.int t0))] [] (0, 0) SH_M [t5.2] (fun t => (r t).bind k) (some t0)) : ∀ (n : Nat) (v7 : Int32) (v8 : Int32) (v9 : Int32), XE B M_X7_fountains Q 44 [(0, some (.ref 0)), (1, some (.int a1)), (2, some (.int v6)), (3, some (.int v7)), (4, some (.int v8)), (5, some (.int v9))] [] (0, 0) SH_M [t5.2] (fun t => (r t).bind k) (f_X7_fountains_L44 t5 n v7 v8 v9) := by
  intro n
  induction n with
  | zero => intros; exact XE_none
  | succ n ih =>
    intro v7 v8 v9
    rw [f_X7_fountains_L44]
    refine XE_iload (n := 46) dX7_fountains_44 rfl rfl ?_
    refine XE_aload_n (n := 47) dX7_fountains_46 rfl rfl rfl ?_
    refine XE_getf (v := t5.2 0 0) (n := 50) xf_X7_83 rfl rfl rfl dX7_fountains_47 rfl ?_
    refine XE_icmp_ge (t := 101) (n := 53) dX7_fountains_50 rfl rfl (fun h16 => ?_) (fun h16 => ?_)
    · refine XE_ls (x_sub_ok (ls' := [(0, some (.ref 0)), (1, some (.int a1)), (2, some (.int v6)), (3, some (.int v7))]) ⟨rfl, rfl, rfl, rfl, trivial⟩) ?_
      exact hE (v7)
    · refine XE_aload_n (n := 54) dX7_fountains_53 rfl rfl rfl ?_
      refine XE_getr (b := 20) (n := 57) xf_X7_67 rfl rfl dX7_fountains_54 rfl ?_
      refine XE_iload (n := 59) dX7_fountains_57 rfl rfl ?_
      refine XE_iald (row := t5.2 20) (n := 60) rfl rfl dX7_fountains_59 rfl ?_
      refine XE_aload_n (n := 61) dX7_fountains_60 rfl rfl rfl ?_
      refine XE_getr (b := 6) (n := 64) xf_X7_25 rfl rfl dX7_fountains_61 rfl ?_
      refine XE_iload (n := 66) dX7_fountains_64 rfl rfl ?_
      refine XE_iald (row := t5.2 6) (n := 67) rfl rfl dX7_fountains_66 rfl ?_
      refine XE_isub (n := 68) dX7_fountains_67 rfl ?_
      refine XE_iconst (v := 2) (n := 69) dX7_fountains_68 rfl (by decide) ?_
      refine XE_isub (n := 70) dX7_fountains_69 rfl ?_
      refine XE_topi (fun v10 => ?_)
      refine XE_istore (i := 6) (n := 72) dX7_fountains_70 rfl (Nat.le_of_ble_eq_true rfl) rfl ?_
      refine XE_iload (n := 74) dX7_fountains_72 rfl rfl ?_
      refine XE_iload (n := 76) dX7_fountains_74 rfl rfl ?_
      refine XE_regv (J := 85) (lsJ := fun t13 => [(0, some (.ref 0)), (1, some (.int a1)), (2, some (.int v6)), (4, some (.int v8)), (5, some (.int v9)), (6, some (.int v10))]) (stJ := fun t13 => [.int t13]) (hsJ := fun t13 => [t5.2]) (fun t13 => ?_) (fun hJ11 => ?_)
      · refine XE_istore_n (i := 3) (n := 86) dX7_fountains_85 rfl rfl (Nat.le_of_ble_eq_true rfl) rfl ?_
        refine XE_iload (n := 88) dX7_fountains_86 rfl rfl ?_
        refine XE_iload (n := 90) dX7_fountains_88 rfl rfl ?_
        refine XE_callS (ni := 2) (As := [.int v8, .int v10]) (π := []) (co := [0]) (cv := [t5.2]) (nn := 1) (hs2 := fun t14 => [t5.2]) (st2 := fun t14 => [.int t14]) (n := 93) xc_X7_90 (fun l t ht => met_X7_most l v8 v10 t ht) rfl rfl rfl dX7_fountains_90 (Nat.le_of_ble_eq_true rfl) ⟨Nat.zero_le _, Nat.zero_le _⟩ (Nat.le_of_ble_eq_true rfl) (Nat.le_of_ble_eq_true rfl) ok_40 rfl rfl rfl (fun _ => rfl) (fun _ => rfl) (fun _ => rfl) rfl (fun _ => rfl) rfl (fun t14 => ?_)
        refine XE_istore (i := 4) (n := 95) dX7_fountains_93 rfl (Nat.le_of_ble_eq_true rfl) rfl ?_
        refine XE_iincl (n := 98) dX7_fountains_95 rfl rfl (by decide) (Nat.le_of_ble_eq_true rfl) rfl (fun v15 => ?_)
        refine XE_goto (n := 44) dX7_fountains_98 rfl ?_
        refine XE_ls (x_sub_ok (ls' := [(0, some (.ref 0)), (1, some (.int a1)), (2, some (.int v6)), (3, some (.int t13)), (4, some (.int t14)), (5, some (.int v15))]) ⟨rfl, rfl, rfl, rfl, rfl, rfl, trivial⟩) ?_
        exact ih t13 t14 v15
      · refine XE_ltif ?_
        refine XE_icmp_le (t := 84) (n := 79) dX7_fountains_76 rfl rfl (fun h12 => ?_) (fun h12 => ?_)
        · refine XE_iload_n (n := 85) dX7_fountains_84 rfl rfl rfl ?_
          refine XE_ls (x_sub_ok (ls' := [(0, some (.ref 0)), (1, some (.int a1)), (2, some (.int v6)), (4, some (.int v8)), (5, some (.int v9)), (6, some (.int v10))]) ⟨rfl, rfl, rfl, rfl, rfl, rfl, trivial⟩) ?_
          exact hJ11 (v7)
        · refine XE_iload (n := 81) dX7_fountains_79 rfl rfl ?_
          refine XE_goto (n := 85) dX7_fountains_81 rfl ?_
          refine XE_ls (x_sub_ok (ls' := [(0, some (.ref 0)), (1, some (.int a1)), (2, some (.int v6)), (4, some (.int v8)), (5, some (.int v9)), (6, some (.int v10))]) ⟨rfl, rfl, rfl, rfl, rfl, rfl, trivial⟩) ?_
          exact hJ11 (v9)
set_option maxRecDepth 100000 in
theorem xe_X7_fountains (B : XB) (m0 : Mem) (a1 : Int32) : XE B M_X7_fountains (XQm B 0 0 SH_M) 0 [(0, some (.ref 0)), (1, some (.int a1))] [] (0, 0) SH_M [m0] (fun t => some (some (.int t.1), [t.2])) (f_X7_fountains m0 a1) := by
  unfold f_X7_fountains
  refine XE_aload_n (n := 1) dX7_fountains_0 rfl rfl rfl ?_
  refine XE_iconst (v := 0) (n := 2) dX7_fountains_1 rfl (by decide) ?_
  refine XE_putf (hs2 := fun w1 => [w1]) (n := 5) xf_X7_76 rfl rfl rfl rfl (Nat.le_of_ble_eq_true rfl) (fun _ => rfl) dX7_fountains_2 rfl (fun w1 => ?_)
  refine XE_iload_n (n := 6) dX7_fountains_5 rfl rfl rfl ?_
  refine XE_i2l (n := 7) dX7_fountains_6 rfl ?_
  refine XE_lconst (v := 0) (n := 8) dX7_fountains_7 rfl (by decide) ?_
  refine XE_lconst (v := 1) (n := 9) dX7_fountains_8 rfl (by decide) ?_
  refine XE_callS (ni := 3) (As := [.long ((a1 : Int32).toInt64), .long 0, .long 1]) (π := []) (co := [0]) (cv := [w1]) (nn := 1) (hs2 := fun t2 => [w1]) (st2 := fun t2 => [.int t2]) (n := 12) xc_X7_86 (fun l t ht => met_X7_in l ((a1 : Int32).toInt64) 0 1 t ht) rfl rfl rfl dX7_fountains_9 (Nat.le_of_ble_eq_true rfl) ⟨Nat.zero_le _, Nat.zero_le _⟩ (Nat.le_of_ble_eq_true rfl) (Nat.le_of_ble_eq_true rfl) ok_40 rfl rfl rfl (fun _ => rfl) (fun _ => rfl) (fun _ => rfl) rfl (fun _ => rfl) rfl (fun t2 => ?_)
  refine XE_if_ne (t := 22) (n := 15) dX7_fountains_12 rfl rfl (fun h22 => ?_) (fun h22 => ?_)
  · refine XE_aload_n (n := 16) dX7_fountains_15 rfl rfl rfl ?_
    refine XE_bipush (v := (-2)) (n := 18) dX7_fountains_16 rfl (by decide) ?_
    refine XE_callVi (ni := 1) (As := [.int (-2)]) (st2 := fun t21 => [.int t21.1]) (n := 21) (b := 0) xc_X7_138 (fun l t ht => met_X7_refuse l w1 (-2) t ht) rfl rfl rfl rfl dX7_fountains_18 (Nat.le_of_ble_eq_true rfl) ⟨Nat.zero_le _, Nat.zero_le _⟩ (Nat.le_of_ble_eq_true rfl) (Nat.le_of_ble_eq_true rfl) (fun _ => rfl) rfl (fun t21 => ?_)
    exact XE_ireturn rfl dX7_fountains_21 rfl (Nat.le_refl _) (Nat.le_refl _)
  · refine XE_aload_n (n := 23) dX7_fountains_22 rfl rfl rfl ?_
    refine XE_callVi (ni := 0) (As := []) (st2 := fun t3 => []) (n := 26) (b := 0) xc_X7_194 (fun l t ht => met_X7_think l w1 t ht) rfl rfl rfl rfl dX7_fountains_23 (Nat.le_of_ble_eq_true rfl) ⟨Nat.zero_le _, Nat.zero_le _⟩ (Nat.le_of_ble_eq_true rfl) (Nat.le_of_ble_eq_true rfl) (fun _ => rfl) rfl (fun t3 => ?_)
    refine XE_aload_n (n := 27) dX7_fountains_26 rfl rfl rfl ?_
    refine XE_callVi (ni := 0) (As := []) (st2 := fun t4 => []) (n := 30) (b := 0) xc_X7_243 (fun l t ht => met_X7_wedAll l t3 t ht) rfl rfl rfl rfl dX7_fountains_27 (Nat.le_of_ble_eq_true rfl) ⟨Nat.zero_le _, Nat.zero_le _⟩ (Nat.le_of_ble_eq_true rfl) (Nat.le_of_ble_eq_true rfl) (fun _ => rfl) rfl (fun t4 => ?_)
    refine XE_aload_n (n := 31) dX7_fountains_30 rfl rfl rfl ?_
    refine XE_callVi (ni := 0) (As := []) (st2 := fun t5 => [.int t5.1]) (n := 34) (b := 0) xc_X7_280 (fun l t ht => met_X7_pose l t4 t ht) rfl rfl rfl rfl dX7_fountains_31 (Nat.le_of_ble_eq_true rfl) ⟨Nat.zero_le _, Nat.zero_le _⟩ (Nat.le_of_ble_eq_true rfl) (Nat.le_of_ble_eq_true rfl) (fun _ => rfl) rfl (fun t5 => ?_)
    refine XE_topi (fun v6 => ?_)
    refine XE_istore_n (i := 2) (n := 35) dX7_fountains_34 rfl rfl (Nat.le_of_ble_eq_true rfl) rfl ?_
    refine XE_bipush (v := (-9)) (n := 37) dX7_fountains_35 rfl (by decide) ?_
    refine XE_istore_n (i := 3) (n := 38) dX7_fountains_37 rfl rfl (Nat.le_of_ble_eq_true rfl) rfl ?_
    refine XE_iconst (v := (-1)) (n := 39) dX7_fountains_38 rfl (by decide) ?_
    refine XE_istore (i := 4) (n := 41) dX7_fountains_39 rfl (Nat.le_of_ble_eq_true rfl) rfl ?_
    refine XE_iconst (v := 0) (n := 42) dX7_fountains_41 rfl (by decide) ?_
    refine XE_istore (i := 5) (n := 44) dX7_fountains_42 rfl (Nat.le_of_ble_eq_true rfl) rfl ?_
    refine XE_ls (x_sub_ok (ls' := [(0, some (.ref 0)), (1, some (.int a1)), (2, some (.int v6)), (3, some (.int (-9))), (4, some (.int (-1))), (5, some (.int 0))]) ⟨rfl, rfl, rfl, rfl, rfl, rfl, trivial⟩) ?_
    refine XE_reg (J := 101) (lsJ := fun t17 => [(0, some (.ref 0)), (1, some (.int a1)), (2, some (.int v6)), (3, some (.int t17))]) (stJ := fun t17 => []) (hsJ := fun t17 => [t5.2]) (fun t17 => ?_) (fun hJ20 => f_X7_fountains_L44_x B a1 t5 v6 hJ20 6000 ((-9) : Int32) ((-1) : Int32) (0 : Int32))
    refine XE_aload_n (n := 102) dX7_fountains_101 rfl rfl rfl ?_
    refine XE_callVi (ni := 0) (As := []) (st2 := fun t18 => []) (n := 105) (b := 0) xc_X7_200 (fun l t ht => met_X7_again l t5.2 t ht) rfl rfl rfl rfl dX7_fountains_102 (Nat.le_of_ble_eq_true rfl) ⟨Nat.zero_le _, Nat.zero_le _⟩ (Nat.le_of_ble_eq_true rfl) (Nat.le_of_ble_eq_true rfl) (fun _ => rfl) rfl (fun t18 => ?_)
    refine XE_iload_n (n := 106) dX7_fountains_105 rfl rfl rfl ?_
    refine XE_if_ne (t := 113) (n := 109) dX7_fountains_106 rfl rfl (fun h19 => ?_) (fun h19 => ?_)
    · refine XE_iload_n (n := 110) dX7_fountains_109 rfl rfl rfl ?_
      refine XE_goto (n := 114) dX7_fountains_110 rfl ?_
      exact XE_ireturn rfl dX7_fountains_114 rfl (Nat.le_refl _) (Nat.le_refl _)
    · refine XE_iload_n (n := 114) dX7_fountains_113 rfl rfl rfl ?_
      exact XE_ireturn rfl dX7_fountains_114 rfl (Nat.le_refl _) (Nat.le_refl _)
theorem met_X7_fountains (l : Launch) (m0 : Mem) (a1 : Int32) (t : Int32 × Mem) (ht : f_X7_fountains m0 a1 = some t) : XMet l yX7_fountains cX7_fountains 7 (some .int) 5 0 0 [.ref 0, .int a1] SH_M [m0] SH_M (some (.int t.1), [t.2]) := XMet.of (by decide +kernel) (fun _ => Nat.le_of_ble_eq_true rfl) (fun B => xe_X7_fountains B m0 a1) (by rw [ht]; rfl)
/-! X7_insideAt: EveryTwentyMinutesModel.insideAt(I)I in world M at (0,) -/
abbrev M_X7_insideAt : XM := (RX7, cX7_insideAt, 4, (some .int), "insideAt", 2, 0, 0)
def f_X7_insideAt_L4 (a1 : Int32) (m0 : Mem) : Nat → Int32 → Int32 → Option (Int32)
  | 0, _, _ => none
  | n + 1, v1, v2 =>
    if (m0 0 0) ≤ v2 then
      some (v1)
    else
      ck (inb v2 7) <|
      if a1 < (m0 5 (ix v2)) then
        lt (v1 + 0) fun v3 =>
        lt (v2 + 1) fun v4 =>
        (f_X7_insideAt_L4 a1 m0 n) v3 v4
      else
        ck (inb v2 7) <|
        if (m0 6 (ix v2)) ≤ a1 then
          lt (v1 + 0) fun v5 =>
          lt (v2 + 1) fun v6 =>
          (f_X7_insideAt_L4 a1 m0 n) v5 v6
        else
          (f_X7_guestsOf m0 v2).bind fun t7 =>
          lt (v1 + t7) fun v8 =>
          lt (v2 + 1) fun v9 =>
          (f_X7_insideAt_L4 a1 m0 n) v8 v9
def f_X7_insideAt (m0 : Mem) (a1 : Int32) : Option (Int32) :=
  (f_X7_insideAt_L4 a1 m0 6000 (0 : Int32) (0 : Int32)).bind fun t13 =>
  some t13
set_option maxRecDepth 100000 in
theorem f_X7_insideAt_L4_x {α R : Type} (B : XB) {Q : R → State → Prop} {k : α → Option R} {r : (Int32) → Option α} (a1 : Int32) (m0 : Mem) (hE : ∀ t0 : (Int32), XE B M_X7_insideAt Q 50 [(2, some (.int t0))] [] (0, 0) SH_M [m0] (fun t => (r t).bind k) (some t0)) : ∀ (n : Nat) (v1 : Int32) (v2 : Int32), XE B M_X7_insideAt Q 4 [(0, some (.ref 0)), (1, some (.int a1)), (2, some (.int v1)), (3, some (.int v2))] [] (0, 0) SH_M [m0] (fun t => (r t).bind k) (f_X7_insideAt_L4 a1 m0 n v1 v2) := by
  intro n
  induction n with
  | zero => intros; exact XE_none
  | succ n ih =>
    intro v1 v2
    rw [f_X7_insideAt_L4]
    refine XE_iload_n (n := 5) dX7_insideAt_4 rfl rfl rfl ?_
    refine XE_aload_n (n := 6) dX7_insideAt_5 rfl rfl rfl ?_
    refine XE_getf (v := m0 0 0) (n := 9) xf_X7_83 rfl rfl rfl dX7_insideAt_6 rfl ?_
    refine XE_icmp_ge (t := 50) (n := 12) dX7_insideAt_9 rfl rfl (fun h12 => ?_) (fun h12 => ?_)
    · refine XE_ls (x_sub_ok (ls' := [(2, some (.int v1))]) ⟨rfl, trivial⟩) ?_
      exact hE (v1)
    · refine XE_iload_n (n := 13) dX7_insideAt_12 rfl rfl rfl ?_
      refine XE_aload_n (n := 14) dX7_insideAt_13 rfl rfl rfl ?_
      refine XE_getr (b := 5) (n := 17) xf_X7_22 rfl rfl dX7_insideAt_14 rfl ?_
      refine XE_iload_n (n := 18) dX7_insideAt_17 rfl rfl rfl ?_
      refine XE_iald (row := m0 5) (n := 19) rfl rfl dX7_insideAt_18 rfl ?_
      refine XE_iload_n (n := 20) dX7_insideAt_19 rfl rfl rfl ?_
      refine XE_icmp_gt (t := 41) (n := 23) dX7_insideAt_20 rfl rfl (fun h11 => ?_) (fun h11 => ?_)
      · refine XE_iconst (v := 0) (n := 42) dX7_insideAt_41 rfl (by decide) ?_
        refine XE_iadd (n := 43) dX7_insideAt_42 rfl ?_
        refine XE_topi (fun v3 => ?_)
        refine XE_istore_n (i := 2) (n := 44) dX7_insideAt_43 rfl rfl (Nat.le_of_ble_eq_true rfl) rfl ?_
        refine XE_iincl (n := 47) dX7_insideAt_44 rfl rfl (by decide) (Nat.le_of_ble_eq_true rfl) rfl (fun v4 => ?_)
        refine XE_goto (n := 4) dX7_insideAt_47 rfl ?_
        refine XE_ls (x_sub_ok (ls' := [(0, some (.ref 0)), (1, some (.int a1)), (2, some (.int v3)), (3, some (.int v4))]) ⟨rfl, rfl, rfl, rfl, trivial⟩) ?_
        exact ih v3 v4
      · refine XE_aload_n (n := 24) dX7_insideAt_23 rfl rfl rfl ?_
        refine XE_getr (b := 6) (n := 27) xf_X7_25 rfl rfl dX7_insideAt_24 rfl ?_
        refine XE_iload_n (n := 28) dX7_insideAt_27 rfl rfl rfl ?_
        refine XE_iald (row := m0 6) (n := 29) rfl rfl dX7_insideAt_28 rfl ?_
        refine XE_iload_n (n := 30) dX7_insideAt_29 rfl rfl rfl ?_
        refine XE_icmp_le (t := 41) (n := 33) dX7_insideAt_30 rfl rfl (fun h10 => ?_) (fun h10 => ?_)
        · refine XE_iconst (v := 0) (n := 42) dX7_insideAt_41 rfl (by decide) ?_
          refine XE_iadd (n := 43) dX7_insideAt_42 rfl ?_
          refine XE_topi (fun v5 => ?_)
          refine XE_istore_n (i := 2) (n := 44) dX7_insideAt_43 rfl rfl (Nat.le_of_ble_eq_true rfl) rfl ?_
          refine XE_iincl (n := 47) dX7_insideAt_44 rfl rfl (by decide) (Nat.le_of_ble_eq_true rfl) rfl (fun v6 => ?_)
          refine XE_goto (n := 4) dX7_insideAt_47 rfl ?_
          refine XE_ls (x_sub_ok (ls' := [(0, some (.ref 0)), (1, some (.int a1)), (2, some (.int v5)), (3, some (.int v6))]) ⟨rfl, rfl, rfl, rfl, trivial⟩) ?_
          exact ih v5 v6
        · refine XE_aload_n (n := 34) dX7_insideAt_33 rfl rfl rfl ?_
          refine XE_iload_n (n := 35) dX7_insideAt_34 rfl rfl rfl ?_
          refine XE_callVi (ni := 1) (As := [.int v2]) (st2 := fun t7 => [.int t7, .int v1]) (n := 38) (b := 0) xc_X7_225 (fun l t ht => met_X7_guestsOf l m0 v2 t ht) rfl rfl rfl rfl dX7_insideAt_35 (Nat.le_of_ble_eq_true rfl) ⟨Nat.zero_le _, Nat.zero_le _⟩ (Nat.le_of_ble_eq_true rfl) (Nat.le_of_ble_eq_true rfl) (fun _ => rfl) rfl (fun t7 => ?_)
          refine XE_goto (n := 42) dX7_insideAt_38 rfl ?_
          refine XE_iadd (n := 43) dX7_insideAt_42 rfl ?_
          refine XE_topi (fun v8 => ?_)
          refine XE_istore_n (i := 2) (n := 44) dX7_insideAt_43 rfl rfl (Nat.le_of_ble_eq_true rfl) rfl ?_
          refine XE_iincl (n := 47) dX7_insideAt_44 rfl rfl (by decide) (Nat.le_of_ble_eq_true rfl) rfl (fun v9 => ?_)
          refine XE_goto (n := 4) dX7_insideAt_47 rfl ?_
          refine XE_ls (x_sub_ok (ls' := [(0, some (.ref 0)), (1, some (.int a1)), (2, some (.int v8)), (3, some (.int v9))]) ⟨rfl, rfl, rfl, rfl, trivial⟩) ?_
          exact ih v8 v9
set_option maxRecDepth 100000 in
theorem xe_X7_insideAt (B : XB) (m0 : Mem) (a1 : Int32) : XE B M_X7_insideAt (XQm B 0 0 SH_M) 0 [(0, some (.ref 0)), (1, some (.int a1))] [] (0, 0) SH_M [m0] (fun t => some (some (.int t), [m0])) (f_X7_insideAt m0 a1) := by
  unfold f_X7_insideAt
  refine XE_iconst (v := 0) (n := 1) dX7_insideAt_0 rfl (by decide) ?_
  refine XE_istore_n (i := 2) (n := 2) dX7_insideAt_1 rfl rfl (Nat.le_of_ble_eq_true rfl) rfl ?_
  refine XE_iconst (v := 0) (n := 3) dX7_insideAt_2 rfl (by decide) ?_
  refine XE_istore_n (i := 3) (n := 4) dX7_insideAt_3 rfl rfl (Nat.le_of_ble_eq_true rfl) rfl ?_
  refine XE_ls (x_sub_ok (ls' := [(0, some (.ref 0)), (1, some (.int a1)), (2, some (.int 0)), (3, some (.int 0))]) ⟨rfl, rfl, rfl, rfl, trivial⟩) ?_
  refine XE_reg (J := 50) (lsJ := fun t13 => [(2, some (.int t13))]) (stJ := fun t13 => []) (hsJ := fun t13 => [m0]) (fun t13 => ?_) (fun hJ14 => f_X7_insideAt_L4_x B a1 m0 hJ14 6000 (0 : Int32) (0 : Int32))
  refine XE_iload_n (n := 51) dX7_insideAt_50 rfl rfl rfl ?_
  exact XE_ireturn rfl dX7_insideAt_51 rfl (Nat.le_refl _) (Nat.le_refl _)
theorem met_X7_insideAt (l : Launch) (m0 : Mem) (a1 : Int32) (t : Int32) (ht : f_X7_insideAt m0 a1 = some t) : XMet l yX7_insideAt cX7_insideAt 4 (some .int) 2 0 0 [.ref 0, .int a1] SH_M [m0] SH_M (some (.int t), [m0]) := XMet.of (by decide +kernel) (fun _ => Nat.le_of_ble_eq_true rfl) (fun B => xe_X7_insideAt B m0 a1) (by rw [ht]; rfl)
/-! X7_inside: EveryTwentyMinutesModel.inside(I)I in world M at (0,) -/
abbrev M_X7_inside : XM := (RX7, cX7_inside, 3, (some .int), "inside", 5, 0, 0)
def f_X7_inside (m0 : Mem) (a1 : Int32) : Option (Int32 × Mem) :=
  lt (xs m0 0 14 0) fun w1 =>
  (f_X7_wrongNumber a1 0 999).bind fun t2 =>
  if 0 ≤ t2 then
    (f_X7_think w1).bind fun t3 =>
    (f_X7_wedAll t3).bind fun t4 =>
    (f_X7_insideAt t4 a1).bind fun t5 =>
    (f_X7_again t4).bind fun t6 =>
    some (t5, t6)
  else
    (f_X7_wrongNumber a1 0 999).bind fun t7 =>
    (f_X7_refuse w1 t7).bind fun t8 =>
    some (t8.1, t8.2)
set_option maxRecDepth 100000 in
theorem xe_X7_inside (B : XB) (m0 : Mem) (a1 : Int32) : XE B M_X7_inside (XQm B 0 0 SH_M) 0 [(0, some (.ref 0)), (1, some (.int a1))] [] (0, 0) SH_M [m0] (fun t => some (some (.int t.1), [t.2])) (f_X7_inside m0 a1) := by
  unfold f_X7_inside
  refine XE_aload_n (n := 1) dX7_inside_0 rfl rfl rfl ?_
  refine XE_iconst (v := 0) (n := 2) dX7_inside_1 rfl (by decide) ?_
  refine XE_putf (hs2 := fun w1 => [w1]) (n := 5) xf_X7_76 rfl rfl rfl rfl (Nat.le_of_ble_eq_true rfl) (fun _ => rfl) dX7_inside_2 rfl (fun w1 => ?_)
  refine XE_iload_n (n := 6) dX7_inside_5 rfl rfl rfl ?_
  refine XE_iconst (v := 0) (n := 7) dX7_inside_6 rfl (by decide) ?_
  refine XE_sipush (v := 999) (n := 10) dX7_inside_7 rfl (by decide) ?_
  refine XE_callS (ni := 3) (As := [.int a1, .int 0, .int 999]) (π := []) (co := [0]) (cv := [w1]) (nn := 1) (hs2 := fun t2 => [w1]) (st2 := fun t2 => [.int t2]) (n := 13) xc_X7_233 (fun l t ht => met_X7_wrongNumber l a1 0 999 t ht) rfl rfl rfl dX7_inside_10 (Nat.le_of_ble_eq_true rfl) ⟨Nat.zero_le _, Nat.zero_le _⟩ (Nat.le_of_ble_eq_true rfl) (Nat.le_of_ble_eq_true rfl) ok_40 rfl rfl rfl (fun _ => rfl) (fun _ => rfl) (fun _ => rfl) rfl (fun _ => rfl) rfl (fun t2 => ?_)
  refine XE_if_ge (t := 29) (n := 16) dX7_inside_13 rfl rfl (fun h9 => ?_) (fun h9 => ?_)
  · refine XE_aload_n (n := 30) dX7_inside_29 rfl rfl rfl ?_
    refine XE_callVi (ni := 0) (As := []) (st2 := fun t3 => []) (n := 33) (b := 0) xc_X7_194 (fun l t ht => met_X7_think l w1 t ht) rfl rfl rfl rfl dX7_inside_30 (Nat.le_of_ble_eq_true rfl) ⟨Nat.zero_le _, Nat.zero_le _⟩ (Nat.le_of_ble_eq_true rfl) (Nat.le_of_ble_eq_true rfl) (fun _ => rfl) rfl (fun t3 => ?_)
    refine XE_aload_n (n := 34) dX7_inside_33 rfl rfl rfl ?_
    refine XE_callVi (ni := 0) (As := []) (st2 := fun t4 => []) (n := 37) (b := 0) xc_X7_243 (fun l t ht => met_X7_wedAll l t3 t ht) rfl rfl rfl rfl dX7_inside_34 (Nat.le_of_ble_eq_true rfl) ⟨Nat.zero_le _, Nat.zero_le _⟩ (Nat.le_of_ble_eq_true rfl) (Nat.le_of_ble_eq_true rfl) (fun _ => rfl) rfl (fun t4 => ?_)
    refine XE_aload_n (n := 38) dX7_inside_37 rfl rfl rfl ?_
    refine XE_iload_n (n := 39) dX7_inside_38 rfl rfl rfl ?_
    refine XE_callVi (ni := 1) (As := [.int a1]) (st2 := fun t5 => [.int t5]) (n := 42) (b := 0) xc_X7_283 (fun l t ht => met_X7_insideAt l t4 a1 t ht) rfl rfl rfl rfl dX7_inside_39 (Nat.le_of_ble_eq_true rfl) ⟨Nat.zero_le _, Nat.zero_le _⟩ (Nat.le_of_ble_eq_true rfl) (Nat.le_of_ble_eq_true rfl) (fun _ => rfl) rfl (fun t5 => ?_)
    refine XE_istore_n (i := 2) (n := 43) dX7_inside_42 rfl rfl (Nat.le_of_ble_eq_true rfl) rfl ?_
    refine XE_aload_n (n := 44) dX7_inside_43 rfl rfl rfl ?_
    refine XE_callVi (ni := 0) (As := []) (st2 := fun t6 => []) (n := 47) (b := 0) xc_X7_200 (fun l t ht => met_X7_again l t4 t ht) rfl rfl rfl rfl dX7_inside_44 (Nat.le_of_ble_eq_true rfl) ⟨Nat.zero_le _, Nat.zero_le _⟩ (Nat.le_of_ble_eq_true rfl) (Nat.le_of_ble_eq_true rfl) (fun _ => rfl) rfl (fun t6 => ?_)
    refine XE_iload_n (n := 48) dX7_inside_47 rfl rfl rfl ?_
    exact XE_ireturn rfl dX7_inside_48 rfl (Nat.le_refl _) (Nat.le_refl _)
  · refine XE_aload_n (n := 17) dX7_inside_16 rfl rfl rfl ?_
    refine XE_iload_n (n := 18) dX7_inside_17 rfl rfl rfl ?_
    refine XE_iconst (v := 0) (n := 19) dX7_inside_18 rfl (by decide) ?_
    refine XE_sipush (v := 999) (n := 22) dX7_inside_19 rfl (by decide) ?_
    refine XE_callS (ni := 3) (As := [.int a1, .int 0, .int 999]) (π := []) (co := [0]) (cv := [w1]) (nn := 1) (hs2 := fun t7 => [w1]) (st2 := fun t7 => [.int t7, .ref 0]) (n := 25) xc_X7_233 (fun l t ht => met_X7_wrongNumber l a1 0 999 t ht) rfl rfl rfl dX7_inside_22 (Nat.le_of_ble_eq_true rfl) ⟨Nat.zero_le _, Nat.zero_le _⟩ (Nat.le_of_ble_eq_true rfl) (Nat.le_of_ble_eq_true rfl) ok_40 rfl rfl rfl (fun _ => rfl) (fun _ => rfl) (fun _ => rfl) rfl (fun _ => rfl) rfl (fun t7 => ?_)
    refine XE_callVi (ni := 1) (As := [.int t7]) (st2 := fun t8 => [.int t8.1]) (n := 28) (b := 0) xc_X7_138 (fun l t ht => met_X7_refuse l w1 t7 t ht) rfl rfl rfl rfl dX7_inside_25 (Nat.le_of_ble_eq_true rfl) ⟨Nat.zero_le _, Nat.zero_le _⟩ (Nat.le_of_ble_eq_true rfl) (Nat.le_of_ble_eq_true rfl) (fun _ => rfl) rfl (fun t8 => ?_)
    exact XE_ireturn rfl dX7_inside_28 rfl (Nat.le_refl _) (Nat.le_refl _)
theorem met_X7_inside (l : Launch) (m0 : Mem) (a1 : Int32) (t : Int32 × Mem) (ht : f_X7_inside m0 a1 = some t) : XMet l yX7_inside cX7_inside 3 (some .int) 5 0 0 [.ref 0, .int a1] SH_M [m0] SH_M (some (.int t.1), [t.2]) := XMet.of (by decide +kernel) (fun _ => Nat.le_of_ble_eq_true rfl) (fun B => xe_X7_inside B m0 a1) (by rw [ht]; rfl)
/-! X7_crowded: EveryTwentyMinutesModel.crowded()I in world M at (0,) -/
abbrev M_X7_crowded : XM := (RX7, cX7_crowded, 5, (some .int), "crowded", 5, 0, 0)
def f_X7_crowded_L19 (t3 : (Mem)) : Nat → Int32 → Int32 → Int32 → Option (Int32)
  | 0, _, _, _ => none
  | n + 1, v4, v5, v6 =>
    if 999 < v6 then
      some (v4)
    else
      (f_X7_insideAt t3 v6).bind fun t7 =>
      lt (if t7 ≤ v5 then
          (v4)
        else
          (v6)) fun t10 =>
      (f_X7_most v5 t7).bind fun t11 =>
      lt (v6 + 1) fun v12 =>
      (f_X7_crowded_L19 t3 n) t10 t11 v12
def f_X7_crowded (m0 : Mem) : Option (Int32 × Mem) :=
  lt (xs m0 0 14 0) fun w1 =>
  (f_X7_think w1).bind fun t2 =>
  (f_X7_wedAll t2).bind fun t3 =>
  (f_X7_crowded_L19 t3 6000 (0 : Int32) (0 : Int32) (0 : Int32)).bind fun t14 =>
  (f_X7_again t3).bind fun t15 =>
  some (t14, t15)
set_option maxRecDepth 100000 in
theorem f_X7_crowded_L19_x {α R : Type} (B : XB) {Q : R → State → Prop} {k : α → Option R} {r : (Int32) → Option α} (t3 : (Mem)) (hE : ∀ t0 : (Int32), XE B M_X7_crowded Q 58 [(0, some (.ref 0)), (1, some (.int t0))] [] (0, 0) SH_M [t3] (fun t => (r t).bind k) (some t0)) : ∀ (n : Nat) (v4 : Int32) (v5 : Int32) (v6 : Int32), XE B M_X7_crowded Q 19 [(0, some (.ref 0)), (1, some (.int v4)), (2, some (.int v5)), (3, some (.int v6))] [] (0, 0) SH_M [t3] (fun t => (r t).bind k) (f_X7_crowded_L19 t3 n v4 v5 v6) := by
  intro n
  induction n with
  | zero => intros; exact XE_none
  | succ n ih =>
    intro v4 v5 v6
    rw [f_X7_crowded_L19]
    refine XE_iload_n (n := 20) dX7_crowded_19 rfl rfl rfl ?_
    refine XE_sipush (v := 999) (n := 23) dX7_crowded_20 rfl (by decide) ?_
    refine XE_icmp_gt (t := 58) (n := 26) dX7_crowded_23 rfl rfl (fun h13 => ?_) (fun h13 => ?_)
    · refine XE_ls (x_sub_ok (ls' := [(0, some (.ref 0)), (1, some (.int v4))]) ⟨rfl, rfl, trivial⟩) ?_
      exact hE (v4)
    · refine XE_aload_n (n := 27) dX7_crowded_26 rfl rfl rfl ?_
      refine XE_iload_n (n := 28) dX7_crowded_27 rfl rfl rfl ?_
      refine XE_callVi (ni := 1) (As := [.int v6]) (st2 := fun t7 => [.int t7]) (n := 31) (b := 0) xc_X7_283 (fun l t ht => met_X7_insideAt l t3 v6 t ht) rfl rfl rfl rfl dX7_crowded_28 (Nat.le_of_ble_eq_true rfl) ⟨Nat.zero_le _, Nat.zero_le _⟩ (Nat.le_of_ble_eq_true rfl) (Nat.le_of_ble_eq_true rfl) (fun _ => rfl) rfl (fun t7 => ?_)
      refine XE_istore (i := 4) (n := 33) dX7_crowded_31 rfl (Nat.le_of_ble_eq_true rfl) rfl ?_
      refine XE_iload (n := 35) dX7_crowded_33 rfl rfl ?_
      refine XE_iload_n (n := 36) dX7_crowded_35 rfl rfl rfl ?_
      refine XE_regv (J := 44) (lsJ := fun t10 => [(0, some (.ref 0)), (2, some (.int v5)), (3, some (.int v6)), (4, some (.int t7))]) (stJ := fun t10 => [.int t10]) (hsJ := fun t10 => [t3]) (fun t10 => ?_) (fun hJ8 => ?_)
      · refine XE_istore_n (i := 1) (n := 45) dX7_crowded_44 rfl rfl (Nat.le_of_ble_eq_true rfl) rfl ?_
        refine XE_iload_n (n := 46) dX7_crowded_45 rfl rfl rfl ?_
        refine XE_iload (n := 48) dX7_crowded_46 rfl rfl ?_
        refine XE_callS (ni := 2) (As := [.int v5, .int t7]) (π := []) (co := [0]) (cv := [t3]) (nn := 1) (hs2 := fun t11 => [t3]) (st2 := fun t11 => [.int t11]) (n := 51) xc_X7_90 (fun l t ht => met_X7_most l v5 t7 t ht) rfl rfl rfl dX7_crowded_48 (Nat.le_of_ble_eq_true rfl) ⟨Nat.zero_le _, Nat.zero_le _⟩ (Nat.le_of_ble_eq_true rfl) (Nat.le_of_ble_eq_true rfl) ok_40 rfl rfl rfl (fun _ => rfl) (fun _ => rfl) (fun _ => rfl) rfl (fun _ => rfl) rfl (fun t11 => ?_)
        refine XE_istore_n (i := 2) (n := 52) dX7_crowded_51 rfl rfl (Nat.le_of_ble_eq_true rfl) rfl ?_
        refine XE_iincl (n := 55) dX7_crowded_52 rfl rfl (by decide) (Nat.le_of_ble_eq_true rfl) rfl (fun v12 => ?_)
        refine XE_goto (n := 19) dX7_crowded_55 rfl ?_
        refine XE_ls (x_sub_ok (ls' := [(0, some (.ref 0)), (1, some (.int t10)), (2, some (.int t11)), (3, some (.int v12))]) ⟨rfl, rfl, rfl, rfl, trivial⟩) ?_
        exact ih t10 t11 v12
      · refine XE_ltif ?_
        refine XE_icmp_le (t := 43) (n := 39) dX7_crowded_36 rfl rfl (fun h9 => ?_) (fun h9 => ?_)
        · refine XE_iload_n (n := 44) dX7_crowded_43 rfl rfl rfl ?_
          refine XE_ls (x_sub_ok (ls' := [(0, some (.ref 0)), (2, some (.int v5)), (3, some (.int v6)), (4, some (.int t7))]) ⟨rfl, rfl, rfl, rfl, trivial⟩) ?_
          exact hJ8 (v4)
        · refine XE_iload_n (n := 40) dX7_crowded_39 rfl rfl rfl ?_
          refine XE_goto (n := 44) dX7_crowded_40 rfl ?_
          refine XE_ls (x_sub_ok (ls' := [(0, some (.ref 0)), (2, some (.int v5)), (3, some (.int v6)), (4, some (.int t7))]) ⟨rfl, rfl, rfl, rfl, trivial⟩) ?_
          exact hJ8 (v6)
set_option maxRecDepth 100000 in
theorem xe_X7_crowded (B : XB) (m0 : Mem) : XE B M_X7_crowded (XQm B 0 0 SH_M) 0 [(0, some (.ref 0))] [] (0, 0) SH_M [m0] (fun t => some (some (.int t.1), [t.2])) (f_X7_crowded m0) := by
  unfold f_X7_crowded
  refine XE_aload_n (n := 1) dX7_crowded_0 rfl rfl rfl ?_
  refine XE_iconst (v := 0) (n := 2) dX7_crowded_1 rfl (by decide) ?_
  refine XE_putf (hs2 := fun w1 => [w1]) (n := 5) xf_X7_76 rfl rfl rfl rfl (Nat.le_of_ble_eq_true rfl) (fun _ => rfl) dX7_crowded_2 rfl (fun w1 => ?_)
  refine XE_iconst (v := 0) (n := 6) dX7_crowded_5 rfl (by decide) ?_
  refine XE_istore_n (i := 1) (n := 7) dX7_crowded_6 rfl rfl (Nat.le_of_ble_eq_true rfl) rfl ?_
  refine XE_iconst (v := 0) (n := 8) dX7_crowded_7 rfl (by decide) ?_
  refine XE_istore_n (i := 2) (n := 9) dX7_crowded_8 rfl rfl (Nat.le_of_ble_eq_true rfl) rfl ?_
  refine XE_aload_n (n := 10) dX7_crowded_9 rfl rfl rfl ?_
  refine XE_callVi (ni := 0) (As := []) (st2 := fun t2 => []) (n := 13) (b := 0) xc_X7_194 (fun l t ht => met_X7_think l w1 t ht) rfl rfl rfl rfl dX7_crowded_10 (Nat.le_of_ble_eq_true rfl) ⟨Nat.zero_le _, Nat.zero_le _⟩ (Nat.le_of_ble_eq_true rfl) (Nat.le_of_ble_eq_true rfl) (fun _ => rfl) rfl (fun t2 => ?_)
  refine XE_aload_n (n := 14) dX7_crowded_13 rfl rfl rfl ?_
  refine XE_callVi (ni := 0) (As := []) (st2 := fun t3 => []) (n := 17) (b := 0) xc_X7_243 (fun l t ht => met_X7_wedAll l t2 t ht) rfl rfl rfl rfl dX7_crowded_14 (Nat.le_of_ble_eq_true rfl) ⟨Nat.zero_le _, Nat.zero_le _⟩ (Nat.le_of_ble_eq_true rfl) (Nat.le_of_ble_eq_true rfl) (fun _ => rfl) rfl (fun t3 => ?_)
  refine XE_iconst (v := 0) (n := 18) dX7_crowded_17 rfl (by decide) ?_
  refine XE_istore_n (i := 3) (n := 19) dX7_crowded_18 rfl rfl (Nat.le_of_ble_eq_true rfl) rfl ?_
  refine XE_ls (x_sub_ok (ls' := [(0, some (.ref 0)), (1, some (.int 0)), (2, some (.int 0)), (3, some (.int 0))]) ⟨rfl, rfl, rfl, rfl, trivial⟩) ?_
  refine XE_reg (J := 58) (lsJ := fun t14 => [(0, some (.ref 0)), (1, some (.int t14))]) (stJ := fun t14 => []) (hsJ := fun t14 => [t3]) (fun t14 => ?_) (fun hJ16 => f_X7_crowded_L19_x B t3 hJ16 6000 (0 : Int32) (0 : Int32) (0 : Int32))
  refine XE_aload_n (n := 59) dX7_crowded_58 rfl rfl rfl ?_
  refine XE_callVi (ni := 0) (As := []) (st2 := fun t15 => []) (n := 62) (b := 0) xc_X7_200 (fun l t ht => met_X7_again l t3 t ht) rfl rfl rfl rfl dX7_crowded_59 (Nat.le_of_ble_eq_true rfl) ⟨Nat.zero_le _, Nat.zero_le _⟩ (Nat.le_of_ble_eq_true rfl) (Nat.le_of_ble_eq_true rfl) (fun _ => rfl) rfl (fun t15 => ?_)
  refine XE_iload_n (n := 63) dX7_crowded_62 rfl rfl rfl ?_
  exact XE_ireturn rfl dX7_crowded_63 rfl (Nat.le_refl _) (Nat.le_refl _)
theorem met_X7_crowded (l : Launch) (m0 : Mem) (t : Int32 × Mem) (ht : f_X7_crowded m0 = some t) : XMet l yX7_crowded cX7_crowded 5 (some .int) 5 0 0 [.ref 0] SH_M [m0] SH_M (some (.int t.1), [t.2]) := XMet.of (by decide +kernel) (fun _ => Nat.le_of_ble_eq_true rfl) (fun B => xe_X7_crowded B m0) (by rw [ht]; rfl)
/-! X7_price: EveryTwentyMinutesModel.price(I)I in world M at (0,) -/
abbrev M_X7_price : XM := (RX7, cX7_price, 4, (some .int), "price", 2, 0, 0)
def f_X7_price_L34 (a1 : Int32) (w1 : Mem) : Nat → Int32 → Int32 → Option (Int32)
  | 0, _, _ => none
  | n + 1, v3, v4 =>
    if (w1 0 0) ≤ v4 then
      some (v3)
    else
      ck (inb v4 7) <|
      (f_X7_in ((((w1 3 (ix v4)) - a1) : Int32).toInt64) (-19) 19).bind fun t5 =>
      if t5 = 0 then
        lt (v3 + 0) fun v6 =>
        lt (v4 + 1) fun v7 =>
        (f_X7_price_L34 a1 w1 n) v6 v7
      else
        lt (v3 + 10) fun v8 =>
        lt (v4 + 1) fun v9 =>
        (f_X7_price_L34 a1 w1 n) v8 v9
def f_X7_price (m0 : Mem) (a1 : Int32) : Option (Int32 × Mem) :=
  lt (xs m0 0 14 0) fun w1 =>
  (f_X7_wrongNumber a1 0 999).bind fun t2 =>
  if 0 ≤ t2 then
    (f_X7_price_L34 a1 w1 6000 (20 : Int32) (0 : Int32)).bind fun t12 =>
    some (t12, w1)
  else
    (f_X7_wrongNumber a1 0 999).bind fun t14 =>
    (f_X7_refuse w1 t14).bind fun t15 =>
    some (t15.1, t15.2)
set_option maxRecDepth 100000 in
theorem f_X7_price_L34_x {α R : Type} (B : XB) {Q : R → State → Prop} {k : α → Option R} {r : (Int32) → Option α} (a1 : Int32) (w1 : Mem) (hE : ∀ t0 : (Int32), XE B M_X7_price Q 78 [(2, some (.int t0))] [] (0, 0) SH_M [w1] (fun t => (r t).bind k) (some t0)) : ∀ (n : Nat) (v3 : Int32) (v4 : Int32), XE B M_X7_price Q 34 [(0, some (.ref 0)), (1, some (.int a1)), (2, some (.int v3)), (3, some (.int v4))] [] (0, 0) SH_M [w1] (fun t => (r t).bind k) (f_X7_price_L34 a1 w1 n v3 v4) := by
  intro n
  induction n with
  | zero => intros; exact XE_none
  | succ n ih =>
    intro v3 v4
    rw [f_X7_price_L34]
    refine XE_iload_n (n := 35) dX7_price_34 rfl rfl rfl ?_
    refine XE_aload_n (n := 36) dX7_price_35 rfl rfl rfl ?_
    refine XE_getf (v := w1 0 0) (n := 39) xf_X7_83 rfl rfl rfl dX7_price_36 rfl ?_
    refine XE_icmp_ge (t := 78) (n := 42) dX7_price_39 rfl rfl (fun h11 => ?_) (fun h11 => ?_)
    · refine XE_ls (x_sub_ok (ls' := [(2, some (.int v3))]) ⟨rfl, trivial⟩) ?_
      exact hE (v3)
    · refine XE_iload_n (n := 43) dX7_price_42 rfl rfl rfl ?_
      refine XE_aload_n (n := 44) dX7_price_43 rfl rfl rfl ?_
      refine XE_getr (b := 3) (n := 47) xf_X7_16 rfl rfl dX7_price_44 rfl ?_
      refine XE_iload_n (n := 48) dX7_price_47 rfl rfl rfl ?_
      refine XE_iald (row := w1 3) (n := 49) rfl rfl dX7_price_48 rfl ?_
      refine XE_iload_n (n := 50) dX7_price_49 rfl rfl rfl ?_
      refine XE_isub (n := 51) dX7_price_50 rfl ?_
      refine XE_i2l (n := 52) dX7_price_51 rfl ?_
      refine XE_ldc2 (n := 55) dX7_price_52 rfl xk_X7_286 ?_
      refine XE_ldc2 (n := 58) dX7_price_55 rfl xk_X7_288 ?_
      refine XE_callS (ni := 3) (As := [.long ((((w1 3 (ix v4)) - a1) : Int32).toInt64), .long (-19), .long 19]) (π := []) (co := [0]) (cv := [w1]) (nn := 1) (hs2 := fun t5 => [w1]) (st2 := fun t5 => [.int t5, .int v3]) (n := 61) xc_X7_86 (fun l t ht => met_X7_in l ((((w1 3 (ix v4)) - a1) : Int32).toInt64) (-19) 19 t ht) rfl rfl rfl dX7_price_58 (Nat.le_of_ble_eq_true rfl) ⟨Nat.zero_le _, Nat.zero_le _⟩ (Nat.le_of_ble_eq_true rfl) (Nat.le_of_ble_eq_true rfl) ok_40 rfl rfl rfl (fun _ => rfl) (fun _ => rfl) (fun _ => rfl) rfl (fun _ => rfl) rfl (fun t5 => ?_)
      refine XE_if_eq (t := 69) (n := 64) dX7_price_61 rfl rfl (fun h10 => ?_) (fun h10 => ?_)
      · refine XE_iconst (v := 0) (n := 70) dX7_price_69 rfl (by decide) ?_
        refine XE_iadd (n := 71) dX7_price_70 rfl ?_
        refine XE_topi (fun v6 => ?_)
        refine XE_istore_n (i := 2) (n := 72) dX7_price_71 rfl rfl (Nat.le_of_ble_eq_true rfl) rfl ?_
        refine XE_iincl (n := 75) dX7_price_72 rfl rfl (by decide) (Nat.le_of_ble_eq_true rfl) rfl (fun v7 => ?_)
        refine XE_goto (n := 34) dX7_price_75 rfl ?_
        refine XE_ls (x_sub_ok (ls' := [(0, some (.ref 0)), (1, some (.int a1)), (2, some (.int v6)), (3, some (.int v7))]) ⟨rfl, rfl, rfl, rfl, trivial⟩) ?_
        exact ih v6 v7
      · refine XE_bipush (v := 10) (n := 66) dX7_price_64 rfl (by decide) ?_
        refine XE_goto (n := 70) dX7_price_66 rfl ?_
        refine XE_iadd (n := 71) dX7_price_70 rfl ?_
        refine XE_topi (fun v8 => ?_)
        refine XE_istore_n (i := 2) (n := 72) dX7_price_71 rfl rfl (Nat.le_of_ble_eq_true rfl) rfl ?_
        refine XE_iincl (n := 75) dX7_price_72 rfl rfl (by decide) (Nat.le_of_ble_eq_true rfl) rfl (fun v9 => ?_)
        refine XE_goto (n := 34) dX7_price_75 rfl ?_
        refine XE_ls (x_sub_ok (ls' := [(0, some (.ref 0)), (1, some (.int a1)), (2, some (.int v8)), (3, some (.int v9))]) ⟨rfl, rfl, rfl, rfl, trivial⟩) ?_
        exact ih v8 v9
set_option maxRecDepth 100000 in
theorem xe_X7_price (B : XB) (m0 : Mem) (a1 : Int32) : XE B M_X7_price (XQm B 0 0 SH_M) 0 [(0, some (.ref 0)), (1, some (.int a1))] [] (0, 0) SH_M [m0] (fun t => some (some (.int t.1), [t.2])) (f_X7_price m0 a1) := by
  unfold f_X7_price
  refine XE_aload_n (n := 1) dX7_price_0 rfl rfl rfl ?_
  refine XE_iconst (v := 0) (n := 2) dX7_price_1 rfl (by decide) ?_
  refine XE_putf (hs2 := fun w1 => [w1]) (n := 5) xf_X7_76 rfl rfl rfl rfl (Nat.le_of_ble_eq_true rfl) (fun _ => rfl) dX7_price_2 rfl (fun w1 => ?_)
  refine XE_iload_n (n := 6) dX7_price_5 rfl rfl rfl ?_
  refine XE_iconst (v := 0) (n := 7) dX7_price_6 rfl (by decide) ?_
  refine XE_sipush (v := 999) (n := 10) dX7_price_7 rfl (by decide) ?_
  refine XE_callS (ni := 3) (As := [.int a1, .int 0, .int 999]) (π := []) (co := [0]) (cv := [w1]) (nn := 1) (hs2 := fun t2 => [w1]) (st2 := fun t2 => [.int t2]) (n := 13) xc_X7_233 (fun l t ht => met_X7_wrongNumber l a1 0 999 t ht) rfl rfl rfl dX7_price_10 (Nat.le_of_ble_eq_true rfl) ⟨Nat.zero_le _, Nat.zero_le _⟩ (Nat.le_of_ble_eq_true rfl) (Nat.le_of_ble_eq_true rfl) ok_40 rfl rfl rfl (fun _ => rfl) (fun _ => rfl) (fun _ => rfl) rfl (fun _ => rfl) rfl (fun t2 => ?_)
  refine XE_if_ge (t := 29) (n := 16) dX7_price_13 rfl rfl (fun h16 => ?_) (fun h16 => ?_)
  · refine XE_bipush (v := 20) (n := 31) dX7_price_29 rfl (by decide) ?_
    refine XE_istore_n (i := 2) (n := 32) dX7_price_31 rfl rfl (Nat.le_of_ble_eq_true rfl) rfl ?_
    refine XE_iconst (v := 0) (n := 33) dX7_price_32 rfl (by decide) ?_
    refine XE_istore_n (i := 3) (n := 34) dX7_price_33 rfl rfl (Nat.le_of_ble_eq_true rfl) rfl ?_
    refine XE_ls (x_sub_ok (ls' := [(0, some (.ref 0)), (1, some (.int a1)), (2, some (.int 20)), (3, some (.int 0))]) ⟨rfl, rfl, rfl, rfl, trivial⟩) ?_
    refine XE_reg (J := 78) (lsJ := fun t12 => [(2, some (.int t12))]) (stJ := fun t12 => []) (hsJ := fun t12 => [w1]) (fun t12 => ?_) (fun hJ13 => f_X7_price_L34_x B a1 w1 hJ13 6000 (20 : Int32) (0 : Int32))
    refine XE_iload_n (n := 79) dX7_price_78 rfl rfl rfl ?_
    exact XE_ireturn rfl dX7_price_79 rfl (Nat.le_refl _) (Nat.le_refl _)
  · refine XE_aload_n (n := 17) dX7_price_16 rfl rfl rfl ?_
    refine XE_iload_n (n := 18) dX7_price_17 rfl rfl rfl ?_
    refine XE_iconst (v := 0) (n := 19) dX7_price_18 rfl (by decide) ?_
    refine XE_sipush (v := 999) (n := 22) dX7_price_19 rfl (by decide) ?_
    refine XE_callS (ni := 3) (As := [.int a1, .int 0, .int 999]) (π := []) (co := [0]) (cv := [w1]) (nn := 1) (hs2 := fun t14 => [w1]) (st2 := fun t14 => [.int t14, .ref 0]) (n := 25) xc_X7_233 (fun l t ht => met_X7_wrongNumber l a1 0 999 t ht) rfl rfl rfl dX7_price_22 (Nat.le_of_ble_eq_true rfl) ⟨Nat.zero_le _, Nat.zero_le _⟩ (Nat.le_of_ble_eq_true rfl) (Nat.le_of_ble_eq_true rfl) ok_40 rfl rfl rfl (fun _ => rfl) (fun _ => rfl) (fun _ => rfl) rfl (fun _ => rfl) rfl (fun t14 => ?_)
    refine XE_callVi (ni := 1) (As := [.int t14]) (st2 := fun t15 => [.int t15.1]) (n := 28) (b := 0) xc_X7_138 (fun l t ht => met_X7_refuse l w1 t14 t ht) rfl rfl rfl rfl dX7_price_25 (Nat.le_of_ble_eq_true rfl) ⟨Nat.zero_le _, Nat.zero_le _⟩ (Nat.le_of_ble_eq_true rfl) (Nat.le_of_ble_eq_true rfl) (fun _ => rfl) rfl (fun t15 => ?_)
    exact XE_ireturn rfl dX7_price_28 rfl (Nat.le_refl _) (Nat.le_refl _)
theorem met_X7_price (l : Launch) (m0 : Mem) (a1 : Int32) (t : Int32 × Mem) (ht : f_X7_price m0 a1 = some t) : XMet l yX7_price cX7_price 4 (some .int) 2 0 0 [.ref 0, .int a1] SH_M [m0] SH_M (some (.int t.1), [t.2]) := XMet.of (by decide +kernel) (fun _ => Nat.le_of_ble_eq_true rfl) (fun B => xe_X7_price B m0 a1) (by rw [ht]; rfl)
/-! X7_divisor: EveryTwentyMinutesModel.divisor(JJ)J in world 0 at () -/
abbrev M_X7_divisor : XM := (RX7, cX7_divisor, 10, (some .long), "divisor", 1, 0, 0)
def f_X7_divisor_L6 : Nat → Int64 → Int64 → Option (Int64)
  | 0, _, _ => none
  | n + 1, v1, v2 =>
    if (lg_cmp v2 0) = 0 then
      some (v1)
    else
      ck (!decide (v2 = 0)) <|
      lt (v1 - v1 / v2 * v2) fun v3 =>
      (f_X7_divisor_L6 n) v2 v3
def f_X7_divisor (a0 : Int64) (a2 : Int64) : Option (Int64) :=
  (f_X7_divisor_L6 6000 a0 a2).bind fun t5 =>
  some t5
set_option maxRecDepth 100000 in
theorem f_X7_divisor_L6_x {α R : Type} (B : XB) {Q : R → State → Prop} {k : α → Option R} {r : (Int64) → Option α} (hE : ∀ t0 : (Int64), XE B M_X7_divisor Q 31 [(4, some (.long t0))] [] (0, 0) SH_0 [] (fun t => (r t).bind k) (some t0)) : ∀ (n : Nat) (v1 : Int64) (v2 : Int64), XE B M_X7_divisor Q 6 [(4, some (.long v1)), (6, some (.long v2))] [] (0, 0) SH_0 [] (fun t => (r t).bind k) (f_X7_divisor_L6 n v1 v2) := by
  intro n
  induction n with
  | zero => intros; exact XE_none
  | succ n ih =>
    intro v1 v2
    rw [f_X7_divisor_L6]
    refine XE_lload (n := 8) dX7_divisor_6 rfl rfl ?_
    refine XE_lconst (v := 0) (n := 9) dX7_divisor_8 rfl (by decide) ?_
    refine XE_lcmp (n := 10) dX7_divisor_9 rfl ?_
    refine XE_if_eq (t := 31) (n := 13) dX7_divisor_10 rfl rfl (fun h4 => ?_) (fun h4 => ?_)
    · refine XE_ls (x_sub_ok (ls' := [(4, some (.long v1))]) ⟨rfl, trivial⟩) ?_
      exact hE (v1)
    · refine XE_lload (n := 15) dX7_divisor_13 rfl rfl ?_
      refine XE_lload (n := 17) dX7_divisor_15 rfl rfl ?_
      refine XE_lrem (n := 18) dX7_divisor_17 rfl ?_
      refine XE_topl (fun v3 => ?_)
      refine XE_lstore (i := 8) (n := 20) dX7_divisor_18 rfl (Nat.le_of_ble_eq_true rfl) rfl ?_
      refine XE_lload (n := 22) dX7_divisor_20 rfl rfl ?_
      refine XE_lstore (i := 4) (n := 24) dX7_divisor_22 rfl (Nat.le_of_ble_eq_true rfl) rfl ?_
      refine XE_lload (n := 26) dX7_divisor_24 rfl rfl ?_
      refine XE_lstore (i := 6) (n := 28) dX7_divisor_26 rfl (Nat.le_of_ble_eq_true rfl) rfl ?_
      refine XE_goto (n := 6) dX7_divisor_28 rfl ?_
      refine XE_ls (x_sub_ok (ls' := [(4, some (.long v2)), (6, some (.long v3))]) ⟨rfl, rfl, trivial⟩) ?_
      exact ih v2 v3
set_option maxRecDepth 100000 in
theorem xe_X7_divisor (B : XB) (a0 : Int64) (a2 : Int64) : XE B M_X7_divisor (XQm B 0 0 SH_0) 0 [(0, some (.long a0)), (2, some (.long a2))] [] (0, 0) SH_0 [] (fun t => some (some (.long t), [])) (f_X7_divisor a0 a2) := by
  unfold f_X7_divisor
  refine XE_lload_n (n := 1) dX7_divisor_0 rfl rfl rfl ?_
  refine XE_lstore (i := 4) (n := 3) dX7_divisor_1 rfl (Nat.le_of_ble_eq_true rfl) rfl ?_
  refine XE_lload_n (n := 4) dX7_divisor_3 rfl rfl rfl ?_
  refine XE_lstore (i := 6) (n := 6) dX7_divisor_4 rfl (Nat.le_of_ble_eq_true rfl) rfl ?_
  refine XE_ls (x_sub_ok (ls' := [(4, some (.long a0)), (6, some (.long a2))]) ⟨rfl, rfl, trivial⟩) ?_
  refine XE_reg (J := 31) (lsJ := fun t5 => [(4, some (.long t5))]) (stJ := fun t5 => []) (hsJ := fun t5 => []) (fun t5 => ?_) (fun hJ6 => f_X7_divisor_L6_x B hJ6 6000 a0 a2)
  refine XE_lload (n := 33) dX7_divisor_31 rfl rfl ?_
  exact XE_lreturn rfl dX7_divisor_33 rfl (Nat.le_refl _) (Nat.le_refl _)
theorem met_X7_divisor (l : Launch) (a0 : Int64) (a2 : Int64) (t : Int64) (ht : f_X7_divisor a0 a2 = some t) : XMet l yX7_divisor cX7_divisor 10 (some .long) 1 0 0 [.long a0, .long a2] SH_0 [] SH_0 (some (.long t), []) := XMet.of (by decide +kernel) (fun _ => Nat.le_of_ble_eq_true rfl) (fun B => xe_X7_divisor B a0 a2) (by rw [ht]; rfl)
/-! X7_partOf: EveryTwentyMinutesModel.partOf(JJI)J in world 0 at () -/
abbrev M_X7_partOf : XM := (RX7, cX7_partOf, 7, (some .long), "partOf", 2, 0, 0)
def f_X7_partOf (a0 : Int64) (a2 : Int64) (a4 : Int32) : Option (Int64) :=
  if (lg_cmp a0 0) = 0 then
    some ((a4 : Int32).toInt64)
  else
    (f_X7_divisor a0 a2).bind fun t1 =>
    if a4 = 0 then
      ck (!decide (t1 = 0)) <|
      some (a0 / t1)
    else
      ck (!decide (t1 = 0)) <|
      some (a2 / t1)
set_option maxRecDepth 100000 in
theorem xe_X7_partOf (B : XB) (a0 : Int64) (a2 : Int64) (a4 : Int32) : XE B M_X7_partOf (XQm B 0 0 SH_0) 0 [(0, some (.long a0)), (2, some (.long a2)), (4, some (.int a4))] [] (0, 0) SH_0 [] (fun t => some (some (.long t), [])) (f_X7_partOf a0 a2 a4) := by
  unfold f_X7_partOf
  refine XE_lload_n (n := 1) dX7_partOf_0 rfl rfl rfl ?_
  refine XE_lconst (v := 0) (n := 2) dX7_partOf_1 rfl (by decide) ?_
  refine XE_lcmp (n := 3) dX7_partOf_2 rfl ?_
  refine XE_if_ne (t := 10) (n := 6) dX7_partOf_3 rfl rfl (fun h3 => ?_) (fun h3 => ?_)
  · refine XE_iload (n := 8) dX7_partOf_6 rfl rfl ?_
    refine XE_i2l (n := 9) dX7_partOf_8 rfl ?_
    exact XE_lreturn rfl dX7_partOf_9 rfl (Nat.le_refl _) (Nat.le_refl _)
  · refine XE_lload_n (n := 11) dX7_partOf_10 rfl rfl rfl ?_
    refine XE_lload_n (n := 12) dX7_partOf_11 rfl rfl rfl ?_
    refine XE_callSi (ni := 2) (As := [.long a0, .long a2]) (st2 := fun t1 => [.long t1]) (n := 15) xc_X7_290 (fun l t ht => met_X7_divisor l a0 a2 t ht) rfl rfl dX7_partOf_12 (Nat.le_of_ble_eq_true rfl) ⟨Nat.zero_le _, Nat.zero_le _⟩ (Nat.le_of_ble_eq_true rfl) (Nat.le_of_ble_eq_true rfl) (fun _ => rfl) rfl (fun t1 => ?_)
    refine XE_lstore (i := 5) (n := 17) dX7_partOf_15 rfl (Nat.le_of_ble_eq_true rfl) rfl ?_
    refine XE_iload (n := 19) dX7_partOf_17 rfl rfl ?_
    refine XE_if_ne (t := 29) (n := 22) dX7_partOf_19 rfl rfl (fun h2 => ?_) (fun h2 => ?_)
    · refine XE_lload_n (n := 23) dX7_partOf_22 rfl rfl rfl ?_
      refine XE_lload (n := 25) dX7_partOf_23 rfl rfl ?_
      refine XE_ldiv (n := 26) dX7_partOf_25 rfl ?_
      refine XE_goto (n := 33) dX7_partOf_26 rfl ?_
      exact XE_lreturn rfl dX7_partOf_33 rfl (Nat.le_refl _) (Nat.le_refl _)
    · refine XE_lload_n (n := 30) dX7_partOf_29 rfl rfl rfl ?_
      refine XE_lload (n := 32) dX7_partOf_30 rfl rfl ?_
      refine XE_ldiv (n := 33) dX7_partOf_32 rfl ?_
      exact XE_lreturn rfl dX7_partOf_33 rfl (Nat.le_refl _) (Nat.le_refl _)
theorem met_X7_partOf (l : Launch) (a0 : Int64) (a2 : Int64) (a4 : Int32) (t : Int64) (ht : f_X7_partOf a0 a2 a4 = some t) : XMet l yX7_partOf cX7_partOf 7 (some .long) 2 0 0 [.long a0, .long a2, .int a4] SH_0 [] SH_0 (some (.long t), []) := XMet.of (by decide +kernel) (fun _ => Nat.le_of_ble_eq_true rfl) (fun B => xe_X7_partOf B a0 a2 a4) (by rw [ht]; rfl)
/-! X7_odds: EveryTwentyMinutesModel.odds(IIII)J in world M at (0,) -/
abbrev M_X7_odds : XM := (RX7, cX7_odds, 16, (some .long), "odds", 4, 0, 0)
def f_X7_odds_L97 (a2 : Int32) (t11 : (Int32)) : Nat → Int64 → Int32 → Option (Int64)
  | 0, _, _ => none
  | n + 1, v12, v13 =>
    if t11 ≤ v13 then
      some (v12)
    else
      lt (v12 * ((a2 : Int32).toInt64)) fun v14 =>
      lt (v13 + 1) fun v15 =>
      (f_X7_odds_L97 a2 t11 n) v14 v15
def f_X7_odds_L139 (a2 : Int32) (t11 : (Int32)) (v20 : Int32) : Nat → Int64 → Int32 → Mem → Option (Int64 × Mem)
  | 0, _, _, _ => none
  | n + 1, v22, v23, w24 =>
    if (w24 0 9) ≤ 0 then
      some (v22, w24)
    else
      (if t11 ≤ v23 then
         some ((0 : Int32))
       else
         (f_X7_hasBit v20 v23).bind fun t30 =>
         if t30 = 0 then
           some ((0 : Int32))
         else
           some ((1 : Int32))).bind fun t33 =>
      lt (if t33 = 0 then
          if v23 < t11 then
            ((((a2 - 1) : Int32).toInt64))
          else
            ((1 : Int64))
        else
          ((1 : Int64))) fun t37 =>
      lt (v22 * t37) fun v38 =>
      lt (if t33 = 0 then
          ((0 : Int32))
        else
          ((5 : Int32))) fun t41 =>
      (f_X7_wedOne w24 t41).bind fun t42 =>
      lt (v23 + 1) fun v43 =>
      (f_X7_odds_L139 a2 t11 v20 n) v38 v43 t42
def f_X7_odds_L124 (a2 : Int32) (a3 : Int32) (t11 : (Int32)) : Nat → Int64 → Int32 → Mem → Option (Int64 × Mem)
  | 0, _, _, _ => none
  | n + 1, v19, v20, w21 =>
    if (1 <<< (t11 &&& 31)) ≤ v20 then
      some (v19, w21)
    else
      (f_X7_odds_L139 a2 t11 v20 6000 (1 : Int64) (0 : Int32) w21).bind fun t45 =>
      (f_X7_lastEnd t45.2).bind fun t46 =>
      lt (if a3 < t46 then
          ((0 : Int64))
        else
          (t45.1)) fun t49 =>
      lt (v19 + t49) fun v50 =>
      (f_X7_again t45.2).bind fun t51 =>
      lt (v20 + 1) fun v52 =>
      (f_X7_odds_L124 a2 a3 t11 n) v50 v52 t51
def f_X7_odds (m0 : Mem) (a1 : Int32) (a2 : Int32) (a3 : Int32) (a4 : Int32) : Option (Int64 × Mem) :=
  lt (xs m0 0 14 0) fun w1 =>
  lt (if a1 < 0 then
      (((-4) : Int32))
    else
      if a3 < 0 then
        (((-4) : Int32))
      else
        if 2 ≤ a2 then
          if 7 < a1 then
            (((-6) : Int32))
          else
            if 20 < a2 then
              (((-6) : Int32))
            else
              if a3 ≤ 999 then
                ((0 : Int32))
              else
                (((-6) : Int32))
        else
          (((-4) : Int32))) fun t9 =>
  (f_X7_wrongBit t9 a4 1).bind fun t10 =>
  if 0 ≤ t10 then
    (f_X7_least a1 (w1 0 9)).bind fun t11 =>
    (f_X7_odds_L97 a2 t11 6000 (1 : Int64) (0 : Int32)).bind fun t17 =>
    (f_X7_think w1).bind fun t18 =>
    (f_X7_odds_L124 a2 a3 t11 6000 (0 : Int64) (0 : Int32) t18).bind fun t55 =>
    (f_X7_partOf t55.1 t17 a4).bind fun t56 =>
    some (t56, t55.2)
  else
    (f_X7_refuse w1 t10).bind fun t59 =>
    some ((4000000000000000000 - ((t59.1 : Int32).toInt64)), t59.2)
set_option maxRecDepth 100000 in
theorem f_X7_odds_L97_x {α R : Type} (B : XB) {Q : R → State → Prop} {k : α → Option R} {r : (Int64) → Option α} (a2 : Int32) (a3 : Int32) (a4 : Int32) (t11 : (Int32)) (w1 : Mem) (hE : ∀ t0 : (Int64), XE B M_X7_odds Q 117 [(0, some (.ref 0)), (2, some (.int a2)), (3, some (.int a3)), (4, some (.int a4)), (6, some (.int t11)), (7, some (.long 0)), (9, some (.long t0))] [] (0, 0) SH_M [w1] (fun t => (r t).bind k) (some t0)) : ∀ (n : Nat) (v12 : Int64) (v13 : Int32), XE B M_X7_odds Q 97 [(0, some (.ref 0)), (2, some (.int a2)), (3, some (.int a3)), (4, some (.int a4)), (6, some (.int t11)), (7, some (.long 0)), (9, some (.long v12)), (11, some (.int v13))] [] (0, 0) SH_M [w1] (fun t => (r t).bind k) (f_X7_odds_L97 a2 t11 n v12 v13) := by
  intro n
  induction n with
  | zero => intros; exact XE_none
  | succ n ih =>
    intro v12 v13
    rw [f_X7_odds_L97]
    refine XE_iload (n := 99) dX7_odds_97 rfl rfl ?_
    refine XE_iload (n := 101) dX7_odds_99 rfl rfl ?_
    refine XE_icmp_ge (t := 117) (n := 104) dX7_odds_101 rfl rfl (fun h16 => ?_) (fun h16 => ?_)
    · refine XE_ls (x_sub_ok (ls' := [(0, some (.ref 0)), (2, some (.int a2)), (3, some (.int a3)), (4, some (.int a4)), (6, some (.int t11)), (7, some (.long 0)), (9, some (.long v12))]) ⟨rfl, rfl, rfl, rfl, rfl, rfl, rfl, trivial⟩) ?_
      exact hE (v12)
    · refine XE_lload (n := 106) dX7_odds_104 rfl rfl ?_
      refine XE_iload_n (n := 107) dX7_odds_106 rfl rfl rfl ?_
      refine XE_i2l (n := 108) dX7_odds_107 rfl ?_
      refine XE_lmul (n := 109) dX7_odds_108 rfl ?_
      refine XE_topl (fun v14 => ?_)
      refine XE_lstore (i := 9) (n := 111) dX7_odds_109 rfl (Nat.le_of_ble_eq_true rfl) rfl ?_
      refine XE_iincl (n := 114) dX7_odds_111 rfl rfl (by decide) (Nat.le_of_ble_eq_true rfl) rfl (fun v15 => ?_)
      refine XE_goto (n := 97) dX7_odds_114 rfl ?_
      refine XE_ls (x_sub_ok (ls' := [(0, some (.ref 0)), (2, some (.int a2)), (3, some (.int a3)), (4, some (.int a4)), (6, some (.int t11)), (7, some (.long 0)), (9, some (.long v14)), (11, some (.int v15))]) ⟨rfl, rfl, rfl, rfl, rfl, rfl, rfl, rfl, trivial⟩) ?_
      exact ih v14 v15
set_option maxRecDepth 100000 in
theorem f_X7_odds_L139_x {α R : Type} (B : XB) {Q : R → State → Prop} {k : α → Option R} {r : (Int64 × Mem) → Option α} (a2 : Int32) (a3 : Int32) (a4 : Int32) (t11 : (Int32)) (t17 : (Int64)) (v19 : Int64) (v20 : Int32) (hE : ∀ t0 : (Int64 × Mem), XE B M_X7_odds Q 215 [(0, some (.ref 0)), (2, some (.int a2)), (3, some (.int a3)), (4, some (.int a4)), (6, some (.int t11)), (7, some (.long v19)), (9, some (.long t17)), (11, some (.int v20)), (12, some (.long t0.1))] [] (0, 0) SH_M [t0.2] (fun t => (r t).bind k) (some t0)) : ∀ (n : Nat) (v22 : Int64) (v23 : Int32) (w24 : Mem), XE B M_X7_odds Q 139 [(0, some (.ref 0)), (2, some (.int a2)), (3, some (.int a3)), (4, some (.int a4)), (6, some (.int t11)), (7, some (.long v19)), (9, some (.long t17)), (11, some (.int v20)), (12, some (.long v22)), (14, some (.int v23))] [] (0, 0) SH_M [w24] (fun t => (r t).bind k) (f_X7_odds_L139 a2 t11 v20 n v22 v23 w24) := by
  intro n
  induction n with
  | zero => intros; exact XE_none
  | succ n ih =>
    intro v22 v23 w24
    rw [f_X7_odds_L139]
    refine XE_aload_n (n := 140) dX7_odds_139 rfl rfl rfl ?_
    refine XE_getf (v := w24 0 9) (n := 143) xf_X7_100 rfl rfl rfl dX7_odds_140 rfl ?_
    refine XE_if_le (t := 215) (n := 146) dX7_odds_143 rfl rfl (fun h44 => ?_) (fun h44 => ?_)
    · refine XE_ls (x_sub_ok (ls' := [(0, some (.ref 0)), (2, some (.int a2)), (3, some (.int a3)), (4, some (.int a4)), (6, some (.int t11)), (7, some (.long v19)), (9, some (.long t17)), (11, some (.int v20)), (12, some (.long v22))]) ⟨rfl, rfl, rfl, rfl, rfl, rfl, rfl, rfl, rfl, trivial⟩) ?_
      exact hE (v22, w24)
    · refine XE_iload (n := 148) dX7_odds_146 rfl rfl ?_
      refine XE_iload (n := 150) dX7_odds_148 rfl rfl ?_
      refine XE_reg (J := 168) (lsJ := fun t33 => [(0, some (.ref 0)), (2, some (.int a2)), (3, some (.int a3)), (4, some (.int a4)), (6, some (.int t11)), (7, some (.long v19)), (9, some (.long t17)), (11, some (.int v20)), (12, some (.long v22)), (14, some (.int v23))]) (stJ := fun t33 => [.int t33]) (hsJ := fun t33 => [w24]) (fun t33 => ?_) (fun hJ29 => ?_)
      · refine XE_istore (i := 15) (n := 170) dX7_odds_168 rfl (Nat.le_of_ble_eq_true rfl) rfl ?_
        refine XE_lload (n := 172) dX7_odds_170 rfl rfl ?_
        refine XE_iload (n := 174) dX7_odds_172 rfl rfl ?_
        refine XE_regv (J := 192) (lsJ := fun t37 => [(0, some (.ref 0)), (2, some (.int a2)), (3, some (.int a3)), (4, some (.int a4)), (6, some (.int t11)), (7, some (.long v19)), (9, some (.long t17)), (11, some (.int v20)), (14, some (.int v23)), (15, some (.int t33))]) (stJ := fun t37 => [.long t37, .long v22]) (hsJ := fun t37 => [w24]) (fun t37 => ?_) (fun hJ34 => ?_)
        · refine XE_lmul (n := 193) dX7_odds_192 rfl ?_
          refine XE_topl (fun v38 => ?_)
          refine XE_lstore (i := 12) (n := 195) dX7_odds_193 rfl (Nat.le_of_ble_eq_true rfl) rfl ?_
          refine XE_aload_n (n := 196) dX7_odds_195 rfl rfl rfl ?_
          refine XE_iload (n := 198) dX7_odds_196 rfl rfl ?_
          refine XE_regv (J := 206) (lsJ := fun t41 => [(0, some (.ref 0)), (2, some (.int a2)), (3, some (.int a3)), (4, some (.int a4)), (6, some (.int t11)), (7, some (.long v19)), (9, some (.long t17)), (11, some (.int v20)), (12, some (.long v38)), (14, some (.int v23))]) (stJ := fun t41 => [.int t41, .ref 0]) (hsJ := fun t41 => [w24]) (fun t41 => ?_) (fun hJ39 => ?_)
          · refine XE_callVi (ni := 1) (As := [.int t41]) (st2 := fun t42 => []) (n := 209) (b := 0) xc_X7_117 (fun l t ht => met_X7_wedOne l w24 t41 t ht) rfl rfl rfl rfl dX7_odds_206 (Nat.le_of_ble_eq_true rfl) ⟨Nat.zero_le _, Nat.zero_le _⟩ (Nat.le_of_ble_eq_true rfl) (Nat.le_of_ble_eq_true rfl) (fun _ => rfl) rfl (fun t42 => ?_)
            refine XE_iincl (n := 212) dX7_odds_209 rfl rfl (by decide) (Nat.le_of_ble_eq_true rfl) rfl (fun v43 => ?_)
            refine XE_goto (n := 139) dX7_odds_212 rfl ?_
            refine XE_ls (x_sub_ok (ls' := [(0, some (.ref 0)), (2, some (.int a2)), (3, some (.int a3)), (4, some (.int a4)), (6, some (.int t11)), (7, some (.long v19)), (9, some (.long t17)), (11, some (.int v20)), (12, some (.long v38)), (14, some (.int v43))]) ⟨rfl, rfl, rfl, rfl, rfl, rfl, rfl, rfl, rfl, rfl, trivial⟩) ?_
            exact ih v38 v43 t42
          · refine XE_ltif ?_
            refine XE_if_eq (t := 205) (n := 201) dX7_odds_198 rfl rfl (fun h40 => ?_) (fun h40 => ?_)
            · refine XE_iconst (v := 0) (n := 206) dX7_odds_205 rfl (by decide) ?_
              refine XE_ls (x_sub_ok (ls' := [(0, some (.ref 0)), (2, some (.int a2)), (3, some (.int a3)), (4, some (.int a4)), (6, some (.int t11)), (7, some (.long v19)), (9, some (.long t17)), (11, some (.int v20)), (12, some (.long v38)), (14, some (.int v23))]) ⟨rfl, rfl, rfl, rfl, rfl, rfl, rfl, rfl, rfl, rfl, trivial⟩) ?_
              exact hJ39 ((0 : Int32))
            · refine XE_iconst (v := 5) (n := 202) dX7_odds_201 rfl (by decide) ?_
              refine XE_goto (n := 206) dX7_odds_202 rfl ?_
              refine XE_ls (x_sub_ok (ls' := [(0, some (.ref 0)), (2, some (.int a2)), (3, some (.int a3)), (4, some (.int a4)), (6, some (.int t11)), (7, some (.long v19)), (9, some (.long t17)), (11, some (.int v20)), (12, some (.long v38)), (14, some (.int v23))]) ⟨rfl, rfl, rfl, rfl, rfl, rfl, rfl, rfl, rfl, rfl, trivial⟩) ?_
              exact hJ39 ((5 : Int32))
        · refine XE_ltif ?_
          refine XE_if_ne (t := 184) (n := 177) dX7_odds_174 rfl rfl (fun h36 => ?_) (fun h36 => ?_)
          · refine XE_iload (n := 179) dX7_odds_177 rfl rfl ?_
            refine XE_iload (n := 181) dX7_odds_179 rfl rfl ?_
            refine XE_ltif ?_
            refine XE_icmp_lt (t := 188) (n := 184) dX7_odds_181 rfl rfl (fun h35 => ?_) (fun h35 => ?_)
            · refine XE_iload_n (n := 189) dX7_odds_188 rfl rfl rfl ?_
              refine XE_iconst (v := 1) (n := 190) dX7_odds_189 rfl (by decide) ?_
              refine XE_isub (n := 191) dX7_odds_190 rfl ?_
              refine XE_i2l (n := 192) dX7_odds_191 rfl ?_
              refine XE_ls (x_sub_ok (ls' := [(0, some (.ref 0)), (2, some (.int a2)), (3, some (.int a3)), (4, some (.int a4)), (6, some (.int t11)), (7, some (.long v19)), (9, some (.long t17)), (11, some (.int v20)), (14, some (.int v23)), (15, some (.int t33))]) ⟨rfl, rfl, rfl, rfl, rfl, rfl, rfl, rfl, rfl, rfl, trivial⟩) ?_
              exact hJ34 ((((a2 - 1) : Int32).toInt64))
            · refine XE_lconst (v := 1) (n := 185) dX7_odds_184 rfl (by decide) ?_
              refine XE_goto (n := 192) dX7_odds_185 rfl ?_
              refine XE_ls (x_sub_ok (ls' := [(0, some (.ref 0)), (2, some (.int a2)), (3, some (.int a3)), (4, some (.int a4)), (6, some (.int t11)), (7, some (.long v19)), (9, some (.long t17)), (11, some (.int v20)), (14, some (.int v23)), (15, some (.int t33))]) ⟨rfl, rfl, rfl, rfl, rfl, rfl, rfl, rfl, rfl, rfl, trivial⟩) ?_
              exact hJ34 ((1 : Int64))
          · refine XE_lconst (v := 1) (n := 185) dX7_odds_184 rfl (by decide) ?_
            refine XE_goto (n := 192) dX7_odds_185 rfl ?_
            refine XE_ls (x_sub_ok (ls' := [(0, some (.ref 0)), (2, some (.int a2)), (3, some (.int a3)), (4, some (.int a4)), (6, some (.int t11)), (7, some (.long v19)), (9, some (.long t17)), (11, some (.int v20)), (14, some (.int v23)), (15, some (.int t33))]) ⟨rfl, rfl, rfl, rfl, rfl, rfl, rfl, rfl, rfl, rfl, trivial⟩) ?_
            exact hJ34 ((1 : Int64))
      · refine XE_icmp_ge (t := 167) (n := 153) dX7_odds_150 rfl rfl (fun h32 => ?_) (fun h32 => ?_)
        · refine XE_iconst (v := 0) (n := 168) dX7_odds_167 rfl (by decide) ?_
          refine XE_ls (x_sub_ok (ls' := [(0, some (.ref 0)), (2, some (.int a2)), (3, some (.int a3)), (4, some (.int a4)), (6, some (.int t11)), (7, some (.long v19)), (9, some (.long t17)), (11, some (.int v20)), (12, some (.long v22)), (14, some (.int v23))]) ⟨rfl, rfl, rfl, rfl, rfl, rfl, rfl, rfl, rfl, rfl, trivial⟩) ?_
          exact hJ29 ((0 : Int32))
        · refine XE_iload (n := 155) dX7_odds_153 rfl rfl ?_
          refine XE_iload (n := 157) dX7_odds_155 rfl rfl ?_
          refine XE_callS (ni := 2) (As := [.int v20, .int v23]) (π := []) (co := [0]) (cv := [w24]) (nn := 1) (hs2 := fun t30 => [w24]) (st2 := fun t30 => [.int t30]) (n := 160) xc_X7_265 (fun l t ht => met_X7_hasBit l v20 v23 t ht) rfl rfl rfl dX7_odds_157 (Nat.le_of_ble_eq_true rfl) ⟨Nat.zero_le _, Nat.zero_le _⟩ (Nat.le_of_ble_eq_true rfl) (Nat.le_of_ble_eq_true rfl) ok_40 rfl rfl rfl (fun _ => rfl) (fun _ => rfl) (fun _ => rfl) rfl (fun _ => rfl) rfl (fun t30 => ?_)
          refine XE_if_eq (t := 167) (n := 163) dX7_odds_160 rfl rfl (fun h31 => ?_) (fun h31 => ?_)
          · refine XE_iconst (v := 0) (n := 168) dX7_odds_167 rfl (by decide) ?_
            refine XE_ls (x_sub_ok (ls' := [(0, some (.ref 0)), (2, some (.int a2)), (3, some (.int a3)), (4, some (.int a4)), (6, some (.int t11)), (7, some (.long v19)), (9, some (.long t17)), (11, some (.int v20)), (12, some (.long v22)), (14, some (.int v23))]) ⟨rfl, rfl, rfl, rfl, rfl, rfl, rfl, rfl, rfl, rfl, trivial⟩) ?_
            exact hJ29 ((0 : Int32))
          · refine XE_iconst (v := 1) (n := 164) dX7_odds_163 rfl (by decide) ?_
            refine XE_goto (n := 168) dX7_odds_164 rfl ?_
            refine XE_ls (x_sub_ok (ls' := [(0, some (.ref 0)), (2, some (.int a2)), (3, some (.int a3)), (4, some (.int a4)), (6, some (.int t11)), (7, some (.long v19)), (9, some (.long t17)), (11, some (.int v20)), (12, some (.long v22)), (14, some (.int v23))]) ⟨rfl, rfl, rfl, rfl, rfl, rfl, rfl, rfl, rfl, rfl, trivial⟩) ?_
            exact hJ29 ((1 : Int32))
set_option maxRecDepth 100000 in
theorem f_X7_odds_L124_x {α R : Type} (B : XB) {Q : R → State → Prop} {k : α → Option R} {r : (Int64 × Mem) → Option α} (a2 : Int32) (a3 : Int32) (a4 : Int32) (t11 : (Int32)) (t17 : (Int64)) (hE : ∀ t0 : (Int64 × Mem), XE B M_X7_odds Q 244 [(4, some (.int a4)), (7, some (.long t0.1)), (9, some (.long t17))] [] (0, 0) SH_M [t0.2] (fun t => (r t).bind k) (some t0)) : ∀ (n : Nat) (v19 : Int64) (v20 : Int32) (w21 : Mem), XE B M_X7_odds Q 124 [(0, some (.ref 0)), (2, some (.int a2)), (3, some (.int a3)), (4, some (.int a4)), (6, some (.int t11)), (7, some (.long v19)), (9, some (.long t17)), (11, some (.int v20))] [] (0, 0) SH_M [w21] (fun t => (r t).bind k) (f_X7_odds_L124 a2 a3 t11 n v19 v20 w21) := by
  intro n
  induction n with
  | zero => intros; exact XE_none
  | succ n ih =>
    intro v19 v20 w21
    rw [f_X7_odds_L124]
    refine XE_iload (n := 126) dX7_odds_124 rfl rfl ?_
    refine XE_iconst (v := 1) (n := 127) dX7_odds_126 rfl (by decide) ?_
    refine XE_iload (n := 129) dX7_odds_127 rfl rfl ?_
    refine XE_ishl (n := 130) dX7_odds_129 rfl ?_
    refine XE_icmp_ge (t := 244) (n := 133) dX7_odds_130 rfl rfl (fun h54 => ?_) (fun h54 => ?_)
    · refine XE_ls (x_sub_ok (ls' := [(4, some (.int a4)), (7, some (.long v19)), (9, some (.long t17))]) ⟨rfl, rfl, rfl, trivial⟩) ?_
      exact hE (v19, w21)
    · refine XE_lconst (v := 1) (n := 134) dX7_odds_133 rfl (by decide) ?_
      refine XE_lstore (i := 12) (n := 136) dX7_odds_134 rfl (Nat.le_of_ble_eq_true rfl) rfl ?_
      refine XE_iconst (v := 0) (n := 137) dX7_odds_136 rfl (by decide) ?_
      refine XE_istore (i := 14) (n := 139) dX7_odds_137 rfl (Nat.le_of_ble_eq_true rfl) rfl ?_
      refine XE_ls (x_sub_ok (ls' := [(0, some (.ref 0)), (2, some (.int a2)), (3, some (.int a3)), (4, some (.int a4)), (6, some (.int t11)), (7, some (.long v19)), (9, some (.long t17)), (11, some (.int v20)), (12, some (.long 1)), (14, some (.int 0))]) ⟨rfl, rfl, rfl, rfl, rfl, rfl, rfl, rfl, rfl, rfl, trivial⟩) ?_
      refine XE_reg (J := 215) (lsJ := fun t45 => [(0, some (.ref 0)), (2, some (.int a2)), (3, some (.int a3)), (4, some (.int a4)), (6, some (.int t11)), (7, some (.long v19)), (9, some (.long t17)), (11, some (.int v20)), (12, some (.long t45.1))]) (stJ := fun t45 => []) (hsJ := fun t45 => [t45.2]) (fun t45 => ?_) (fun hJ53 => f_X7_odds_L139_x B a2 a3 a4 t11 t17 v19 v20 hJ53 6000 (1 : Int64) (0 : Int32) w21)
      refine XE_lload (n := 217) dX7_odds_215 rfl rfl ?_
      refine XE_aload_n (n := 218) dX7_odds_217 rfl rfl rfl ?_
      refine XE_callVi (ni := 0) (As := []) (st2 := fun t46 => [.int t46, .long v19]) (n := 221) (b := 0) xc_X7_250 (fun l t ht => met_X7_lastEnd l t45.2 t ht) rfl rfl rfl rfl dX7_odds_218 (Nat.le_of_ble_eq_true rfl) ⟨Nat.zero_le _, Nat.zero_le _⟩ (Nat.le_of_ble_eq_true rfl) (Nat.le_of_ble_eq_true rfl) (fun _ => rfl) rfl (fun t46 => ?_)
      refine XE_iload_n (n := 222) dX7_odds_221 rfl rfl rfl ?_
      refine XE_regv (J := 231) (lsJ := fun t49 => [(0, some (.ref 0)), (2, some (.int a2)), (3, some (.int a3)), (4, some (.int a4)), (6, some (.int t11)), (9, some (.long t17)), (11, some (.int v20))]) (stJ := fun t49 => [.long t49, .long v19]) (hsJ := fun t49 => [t45.2]) (fun t49 => ?_) (fun hJ47 => ?_)
      · refine XE_ladd (n := 232) dX7_odds_231 rfl ?_
        refine XE_topl (fun v50 => ?_)
        refine XE_lstore (i := 7) (n := 234) dX7_odds_232 rfl (Nat.le_of_ble_eq_true rfl) rfl ?_
        refine XE_aload_n (n := 235) dX7_odds_234 rfl rfl rfl ?_
        refine XE_callVi (ni := 0) (As := []) (st2 := fun t51 => []) (n := 238) (b := 0) xc_X7_200 (fun l t ht => met_X7_again l t45.2 t ht) rfl rfl rfl rfl dX7_odds_235 (Nat.le_of_ble_eq_true rfl) ⟨Nat.zero_le _, Nat.zero_le _⟩ (Nat.le_of_ble_eq_true rfl) (Nat.le_of_ble_eq_true rfl) (fun _ => rfl) rfl (fun t51 => ?_)
        refine XE_iincl (n := 241) dX7_odds_238 rfl rfl (by decide) (Nat.le_of_ble_eq_true rfl) rfl (fun v52 => ?_)
        refine XE_goto (n := 124) dX7_odds_241 rfl ?_
        refine XE_ls (x_sub_ok (ls' := [(0, some (.ref 0)), (2, some (.int a2)), (3, some (.int a3)), (4, some (.int a4)), (6, some (.int t11)), (7, some (.long v50)), (9, some (.long t17)), (11, some (.int v52))]) ⟨rfl, rfl, rfl, rfl, rfl, rfl, rfl, rfl, trivial⟩) ?_
        exact ih v50 v52 t51
      · refine XE_ltif ?_
        refine XE_icmp_gt (t := 230) (n := 225) dX7_odds_222 rfl rfl (fun h48 => ?_) (fun h48 => ?_)
        · refine XE_lconst (v := 0) (n := 231) dX7_odds_230 rfl (by decide) ?_
          refine XE_ls (x_sub_ok (ls' := [(0, some (.ref 0)), (2, some (.int a2)), (3, some (.int a3)), (4, some (.int a4)), (6, some (.int t11)), (9, some (.long t17)), (11, some (.int v20))]) ⟨rfl, rfl, rfl, rfl, rfl, rfl, rfl, trivial⟩) ?_
          exact hJ47 ((0 : Int64))
        · refine XE_lload (n := 227) dX7_odds_225 rfl rfl ?_
          refine XE_goto (n := 231) dX7_odds_227 rfl ?_
          refine XE_ls (x_sub_ok (ls' := [(0, some (.ref 0)), (2, some (.int a2)), (3, some (.int a3)), (4, some (.int a4)), (6, some (.int t11)), (9, some (.long t17)), (11, some (.int v20))]) ⟨rfl, rfl, rfl, rfl, rfl, rfl, rfl, trivial⟩) ?_
          exact hJ47 (t45.1)
set_option maxRecDepth 100000 in
theorem xe_X7_odds (B : XB) (m0 : Mem) (a1 : Int32) (a2 : Int32) (a3 : Int32) (a4 : Int32) : XE B M_X7_odds (XQm B 0 0 SH_M) 0 [(0, some (.ref 0)), (1, some (.int a1)), (2, some (.int a2)), (3, some (.int a3)), (4, some (.int a4))] [] (0, 0) SH_M [m0] (fun t => some (some (.long t.1), [t.2])) (f_X7_odds m0 a1 a2 a3 a4) := by
  unfold f_X7_odds
  refine XE_aload_n (n := 1) dX7_odds_0 rfl rfl rfl ?_
  refine XE_iconst (v := 0) (n := 2) dX7_odds_1 rfl (by decide) ?_
  refine XE_putf (hs2 := fun w1 => [w1]) (n := 5) xf_X7_76 rfl rfl rfl rfl (Nat.le_of_ble_eq_true rfl) (fun _ => rfl) dX7_odds_2 rfl (fun w1 => ?_)
  refine XE_iconst (v := 0) (n := 6) dX7_odds_5 rfl (by decide) ?_
  refine XE_istore (i := 5) (n := 8) dX7_odds_6 rfl (Nat.le_of_ble_eq_true rfl) rfl ?_
  refine XE_iload_n (n := 9) dX7_odds_8 rfl rfl rfl ?_
  refine XE_regv (J := 51) (lsJ := fun t9 => [(0, some (.ref 0)), (1, some (.int a1)), (2, some (.int a2)), (3, some (.int a3)), (4, some (.int a4)), (5, some (.int t9))]) (stJ := fun t9 => []) (hsJ := fun t9 => [w1]) (fun t9 => ?_) (fun hJ2 => ?_)
  · refine XE_iload (n := 53) dX7_odds_51 rfl rfl ?_
    refine XE_iload (n := 55) dX7_odds_53 rfl rfl ?_
    refine XE_iconst (v := 1) (n := 56) dX7_odds_55 rfl (by decide) ?_
    refine XE_callS (ni := 3) (As := [.int t9, .int a4, .int 1]) (π := []) (co := [0]) (cv := [w1]) (nn := 1) (hs2 := fun t10 => [w1]) (st2 := fun t10 => [.int t10]) (n := 59) xc_X7_240 (fun l t ht => met_X7_wrongBit l t9 a4 1 t ht) rfl rfl rfl dX7_odds_56 (Nat.le_of_ble_eq_true rfl) ⟨Nat.zero_le _, Nat.zero_le _⟩ (Nat.le_of_ble_eq_true rfl) (Nat.le_of_ble_eq_true rfl) ok_40 rfl rfl rfl (fun _ => rfl) (fun _ => rfl) (fun _ => rfl) rfl (fun _ => rfl) rfl (fun t10 => ?_)
    refine XE_istore (i := 5) (n := 61) dX7_odds_59 rfl (Nat.le_of_ble_eq_true rfl) rfl ?_
    refine XE_iload (n := 63) dX7_odds_61 rfl rfl ?_
    refine XE_if_ge (t := 78) (n := 66) dX7_odds_63 rfl rfl (fun h60 => ?_) (fun h60 => ?_)
    · refine XE_iload_n (n := 79) dX7_odds_78 rfl rfl rfl ?_
      refine XE_aload_n (n := 80) dX7_odds_79 rfl rfl rfl ?_
      refine XE_getf (v := w1 0 9) (n := 83) xf_X7_100 rfl rfl rfl dX7_odds_80 rfl ?_
      refine XE_callS (ni := 2) (As := [.int a1, .int (w1 0 9)]) (π := []) (co := [0]) (cv := [w1]) (nn := 1) (hs2 := fun t11 => [w1]) (st2 := fun t11 => [.int t11]) (n := 86) xc_X7_97 (fun l t ht => met_X7_least l a1 (w1 0 9) t ht) rfl rfl rfl dX7_odds_83 (Nat.le_of_ble_eq_true rfl) ⟨Nat.zero_le _, Nat.zero_le _⟩ (Nat.le_of_ble_eq_true rfl) (Nat.le_of_ble_eq_true rfl) ok_40 rfl rfl rfl (fun _ => rfl) (fun _ => rfl) (fun _ => rfl) rfl (fun _ => rfl) rfl (fun t11 => ?_)
      refine XE_istore (i := 6) (n := 88) dX7_odds_86 rfl (Nat.le_of_ble_eq_true rfl) rfl ?_
      refine XE_lconst (v := 0) (n := 89) dX7_odds_88 rfl (by decide) ?_
      refine XE_lstore (i := 7) (n := 91) dX7_odds_89 rfl (Nat.le_of_ble_eq_true rfl) rfl ?_
      refine XE_lconst (v := 1) (n := 92) dX7_odds_91 rfl (by decide) ?_
      refine XE_lstore (i := 9) (n := 94) dX7_odds_92 rfl (Nat.le_of_ble_eq_true rfl) rfl ?_
      refine XE_iconst (v := 0) (n := 95) dX7_odds_94 rfl (by decide) ?_
      refine XE_istore (i := 11) (n := 97) dX7_odds_95 rfl (Nat.le_of_ble_eq_true rfl) rfl ?_
      refine XE_ls (x_sub_ok (ls' := [(0, some (.ref 0)), (2, some (.int a2)), (3, some (.int a3)), (4, some (.int a4)), (6, some (.int t11)), (7, some (.long 0)), (9, some (.long 1)), (11, some (.int 0))]) ⟨rfl, rfl, rfl, rfl, rfl, rfl, rfl, rfl, trivial⟩) ?_
      refine XE_reg (J := 117) (lsJ := fun t17 => [(0, some (.ref 0)), (2, some (.int a2)), (3, some (.int a3)), (4, some (.int a4)), (6, some (.int t11)), (7, some (.long 0)), (9, some (.long t17))]) (stJ := fun t17 => []) (hsJ := fun t17 => [w1]) (fun t17 => ?_) (fun hJ58 => f_X7_odds_L97_x B a2 a3 a4 t11 w1 hJ58 6000 (1 : Int64) (0 : Int32))
      refine XE_aload_n (n := 118) dX7_odds_117 rfl rfl rfl ?_
      refine XE_callVi (ni := 0) (As := []) (st2 := fun t18 => []) (n := 121) (b := 0) xc_X7_194 (fun l t ht => met_X7_think l w1 t ht) rfl rfl rfl rfl dX7_odds_118 (Nat.le_of_ble_eq_true rfl) ⟨Nat.zero_le _, Nat.zero_le _⟩ (Nat.le_of_ble_eq_true rfl) (Nat.le_of_ble_eq_true rfl) (fun _ => rfl) rfl (fun t18 => ?_)
      refine XE_iconst (v := 0) (n := 122) dX7_odds_121 rfl (by decide) ?_
      refine XE_istore (i := 11) (n := 124) dX7_odds_122 rfl (Nat.le_of_ble_eq_true rfl) rfl ?_
      refine XE_ls (x_sub_ok (ls' := [(0, some (.ref 0)), (2, some (.int a2)), (3, some (.int a3)), (4, some (.int a4)), (6, some (.int t11)), (7, some (.long 0)), (9, some (.long t17)), (11, some (.int 0))]) ⟨rfl, rfl, rfl, rfl, rfl, rfl, rfl, rfl, trivial⟩) ?_
      refine XE_reg (J := 244) (lsJ := fun t55 => [(4, some (.int a4)), (7, some (.long t55.1)), (9, some (.long t17))]) (stJ := fun t55 => []) (hsJ := fun t55 => [t55.2]) (fun t55 => ?_) (fun hJ57 => f_X7_odds_L124_x B a2 a3 a4 t11 t17 hJ57 6000 (0 : Int64) (0 : Int32) t18)
      refine XE_lload (n := 246) dX7_odds_244 rfl rfl ?_
      refine XE_lload (n := 248) dX7_odds_246 rfl rfl ?_
      refine XE_iload (n := 250) dX7_odds_248 rfl rfl ?_
      refine XE_callS (ni := 3) (As := [.long t55.1, .long t17, .int a4]) (π := []) (co := [0]) (cv := [t55.2]) (nn := 1) (hs2 := fun t56 => [t55.2]) (st2 := fun t56 => [.long t56]) (n := 253) xc_X7_296 (fun l t ht => met_X7_partOf l t55.1 t17 a4 t ht) rfl rfl rfl dX7_odds_250 (Nat.le_of_ble_eq_true rfl) ⟨Nat.zero_le _, Nat.zero_le _⟩ (Nat.le_of_ble_eq_true rfl) (Nat.le_of_ble_eq_true rfl) ok_40 rfl rfl rfl (fun _ => rfl) (fun _ => rfl) (fun _ => rfl) rfl (fun _ => rfl) rfl (fun t56 => ?_)
      exact XE_lreturn rfl dX7_odds_253 rfl (Nat.le_refl _) (Nat.le_refl _)
    · refine XE_ldc2 (n := 69) dX7_odds_66 rfl xk_X7_294 ?_
      refine XE_aload_n (n := 70) dX7_odds_69 rfl rfl rfl ?_
      refine XE_iload (n := 72) dX7_odds_70 rfl rfl ?_
      refine XE_callVi (ni := 1) (As := [.int t10]) (st2 := fun t59 => [.int t59.1, .long 4000000000000000000]) (n := 75) (b := 0) xc_X7_138 (fun l t ht => met_X7_refuse l w1 t10 t ht) rfl rfl rfl rfl dX7_odds_72 (Nat.le_of_ble_eq_true rfl) ⟨Nat.zero_le _, Nat.zero_le _⟩ (Nat.le_of_ble_eq_true rfl) (Nat.le_of_ble_eq_true rfl) (fun _ => rfl) rfl (fun t59 => ?_)
      refine XE_i2l (n := 76) dX7_odds_75 rfl ?_
      refine XE_lsub (n := 77) dX7_odds_76 rfl ?_
      exact XE_lreturn rfl dX7_odds_77 rfl (Nat.le_refl _) (Nat.le_refl _)
  · refine XE_ltif ?_
    refine XE_if_lt (t := 21) (n := 12) dX7_odds_9 rfl rfl (fun h8 => ?_) (fun h8 => ?_)
    · refine XE_bipush (v := (-4)) (n := 23) dX7_odds_21 rfl (by decide) ?_
      refine XE_istore (i := 5) (n := 25) dX7_odds_23 rfl (Nat.le_of_ble_eq_true rfl) rfl ?_
      refine XE_goto (n := 51) dX7_odds_25 rfl ?_
      refine XE_ls (x_sub_ok (ls' := [(0, some (.ref 0)), (1, some (.int a1)), (2, some (.int a2)), (3, some (.int a3)), (4, some (.int a4)), (5, some (.int (-4)))]) ⟨rfl, rfl, rfl, rfl, rfl, rfl, trivial⟩) ?_
      exact hJ2 (((-4) : Int32))
    · refine XE_iload_n (n := 13) dX7_odds_12 rfl rfl rfl ?_
      refine XE_ltif ?_
      refine XE_if_lt (t := 21) (n := 16) dX7_odds_13 rfl rfl (fun h7 => ?_) (fun h7 => ?_)
      · refine XE_bipush (v := (-4)) (n := 23) dX7_odds_21 rfl (by decide) ?_
        refine XE_istore (i := 5) (n := 25) dX7_odds_23 rfl (Nat.le_of_ble_eq_true rfl) rfl ?_
        refine XE_goto (n := 51) dX7_odds_25 rfl ?_
        refine XE_ls (x_sub_ok (ls' := [(0, some (.ref 0)), (1, some (.int a1)), (2, some (.int a2)), (3, some (.int a3)), (4, some (.int a4)), (5, some (.int (-4)))]) ⟨rfl, rfl, rfl, rfl, rfl, rfl, trivial⟩) ?_
        exact hJ2 (((-4) : Int32))
      · refine XE_iload_n (n := 17) dX7_odds_16 rfl rfl rfl ?_
        refine XE_iconst (v := 2) (n := 18) dX7_odds_17 rfl (by decide) ?_
        refine XE_ltif ?_
        refine XE_icmp_ge (t := 28) (n := 21) dX7_odds_18 rfl rfl (fun h6 => ?_) (fun h6 => ?_)
        · refine XE_iload_n (n := 29) dX7_odds_28 rfl rfl rfl ?_
          refine XE_bipush (v := 7) (n := 31) dX7_odds_29 rfl (by decide) ?_
          refine XE_ltif ?_
          refine XE_icmp_gt (t := 47) (n := 34) dX7_odds_31 rfl rfl (fun h5 => ?_) (fun h5 => ?_)
          · refine XE_bipush (v := (-6)) (n := 49) dX7_odds_47 rfl (by decide) ?_
            refine XE_istore (i := 5) (n := 51) dX7_odds_49 rfl (Nat.le_of_ble_eq_true rfl) rfl ?_
            refine XE_ls (x_sub_ok (ls' := [(0, some (.ref 0)), (1, some (.int a1)), (2, some (.int a2)), (3, some (.int a3)), (4, some (.int a4)), (5, some (.int (-6)))]) ⟨rfl, rfl, rfl, rfl, rfl, rfl, trivial⟩) ?_
            exact hJ2 (((-6) : Int32))
          · refine XE_iload_n (n := 35) dX7_odds_34 rfl rfl rfl ?_
            refine XE_bipush (v := 20) (n := 37) dX7_odds_35 rfl (by decide) ?_
            refine XE_ltif ?_
            refine XE_icmp_gt (t := 47) (n := 40) dX7_odds_37 rfl rfl (fun h4 => ?_) (fun h4 => ?_)
            · refine XE_bipush (v := (-6)) (n := 49) dX7_odds_47 rfl (by decide) ?_
              refine XE_istore (i := 5) (n := 51) dX7_odds_49 rfl (Nat.le_of_ble_eq_true rfl) rfl ?_
              refine XE_ls (x_sub_ok (ls' := [(0, some (.ref 0)), (1, some (.int a1)), (2, some (.int a2)), (3, some (.int a3)), (4, some (.int a4)), (5, some (.int (-6)))]) ⟨rfl, rfl, rfl, rfl, rfl, rfl, trivial⟩) ?_
              exact hJ2 (((-6) : Int32))
            · refine XE_iload_n (n := 41) dX7_odds_40 rfl rfl rfl ?_
              refine XE_sipush (v := 999) (n := 44) dX7_odds_41 rfl (by decide) ?_
              refine XE_ltif ?_
              refine XE_icmp_le (t := 51) (n := 47) dX7_odds_44 rfl rfl (fun h3 => ?_) (fun h3 => ?_)
              · refine XE_ls (x_sub_ok (ls' := [(0, some (.ref 0)), (1, some (.int a1)), (2, some (.int a2)), (3, some (.int a3)), (4, some (.int a4)), (5, some (.int 0))]) ⟨rfl, rfl, rfl, rfl, rfl, rfl, trivial⟩) ?_
                exact hJ2 ((0 : Int32))
              · refine XE_bipush (v := (-6)) (n := 49) dX7_odds_47 rfl (by decide) ?_
                refine XE_istore (i := 5) (n := 51) dX7_odds_49 rfl (Nat.le_of_ble_eq_true rfl) rfl ?_
                refine XE_ls (x_sub_ok (ls' := [(0, some (.ref 0)), (1, some (.int a1)), (2, some (.int a2)), (3, some (.int a3)), (4, some (.int a4)), (5, some (.int (-6)))]) ⟨rfl, rfl, rfl, rfl, rfl, rfl, trivial⟩) ?_
                exact hJ2 (((-6) : Int32))
        · refine XE_bipush (v := (-4)) (n := 23) dX7_odds_21 rfl (by decide) ?_
          refine XE_istore (i := 5) (n := 25) dX7_odds_23 rfl (Nat.le_of_ble_eq_true rfl) rfl ?_
          refine XE_goto (n := 51) dX7_odds_25 rfl ?_
          refine XE_ls (x_sub_ok (ls' := [(0, some (.ref 0)), (1, some (.int a1)), (2, some (.int a2)), (3, some (.int a3)), (4, some (.int a4)), (5, some (.int (-4)))]) ⟨rfl, rfl, rfl, rfl, rfl, rfl, trivial⟩) ?_
          exact hJ2 (((-4) : Int32))
theorem met_X7_odds (l : Launch) (m0 : Mem) (a1 : Int32) (a2 : Int32) (a3 : Int32) (a4 : Int32) (t : Int64 × Mem) (ht : f_X7_odds m0 a1 a2 a3 a4 = some t) : XMet l yX7_odds cX7_odds 16 (some .long) 4 0 0 [.ref 0, .int a1, .int a2, .int a3, .int a4] SH_M [m0] SH_M (some (.long t.1), [t.2]) := XMet.of (by decide +kernel) (fun _ => Nat.le_of_ble_eq_true rfl) (fun B => xe_X7_odds B m0 a1 a2 a3 a4) (by rw [ht]; rfl)
/-! X7_two: EveryTwentyMinutesModel.two(II)I in world M at (0,) -/
abbrev M_X7_two : XM := (RX7, cX7_two, 7, (some .int), "two", 5, 0, 0)
def f_X7_two_L80 (a1 : Int32) (a2 : Int32) : Nat → Int32 → Mem → Option (Mem)
  | 0, _, _ => none
  | n + 1, v24, w25 =>
    if 4 ≤ v24 then
      some (w25)
    else
      (if (v24 - v24 / 2 * 2) = 1 then
         (f_X7_putFirst w25 a2).bind fun t30 =>
         some (t30)
       else
         some (w25)).bind fun t32 =>
      (if (v24 / 2) = 1 then
         (f_X7_putFirst t32 a1).bind fun t37 =>
         some (t37)
       else
         some (t32)).bind fun t39 =>
      (f_X7_wedAll t39).bind fun t40 =>
      (f_X7_lateOf t40 a1).bind fun t41 =>
      ck (inb (2 * v24) 8) <|
      lt (xs t40 21 (ix (2 * v24)) (t41 + (4 * (v24 / 2)))) fun w42 =>
      (f_X7_lateOf w42 a2).bind fun t43 =>
      ck (inb ((2 * v24) + 1) 8) <|
      lt (xs w42 21 (ix ((2 * v24) + 1)) (t43 + (4 * (v24 - v24 / 2 * 2)))) fun w44 =>
      (f_X7_again w44).bind fun t45 =>
      lt (v24 + 1) fun v46 =>
      (f_X7_two_L80 a1 a2 n) v46 t45
def f_X7_two_L173 (t48 : (Mem)) : Nat → Int32 → Option (Int32 × Mem)
  | 0, _ => none
  | n + 1, v49 =>
    if 4 ≤ v49 then
      some (((-9) : Int32), t48)
    else
      lt ((2 * (1 - (v49 / 2))) + (v49 - v49 / 2 * 2)) fun v50 =>
      lt (((2 * (v49 / 2)) + 1) - (v49 - v49 / 2 * 2)) fun v51 =>
      ck (inb (2 * v49) 8) <|
      ck (inb (2 * v50) 8) <|
      if (t48 21 (ix (2 * v50))) < (t48 21 (ix (2 * v49))) then
        lt (v49 + 1) fun v52 =>
        (f_X7_two_L173 t48 n) v52
      else
        ck (inb ((2 * v49) + 1) 8) <|
        ck (inb ((2 * v51) + 1) 8) <|
        if (t48 21 (ix ((2 * v51) + 1))) < (t48 21 (ix ((2 * v49) + 1))) then
          lt (v49 + 1) fun v53 =>
          (f_X7_two_L173 t48 n) v53
        else
          some (((10 * (v49 / 2)) + (v49 - v49 / 2 * 2)), t48)
def f_X7_two (m0 : Mem) (a1 : Int32) (a2 : Int32) : Option (Int32 × Mem) :=
  lt (xs m0 0 14 0) fun w1 =>
  (f_X7_isCouple w1 a1).bind fun t2 =>
  (if t2 = 0 then
     some (((-1) : Int32))
   else
     (f_X7_isCouple w1 a2).bind fun t9 =>
     if t9 = 0 then
       some (((-1) : Int32))
     else
       if a1 = a2 then
         some (((-1) : Int32))
       else
         some ((0 : Int32))).bind fun t13 =>
  (if t13 = 0 then
     ck (inb a1 7) <|
     if (w1 4 (ix a1)) = 1 then
       some (((-3) : Int32))
     else
       ck (inb a2 7) <|
       if (w1 4 (ix a2)) = 1 then
         some (((-3) : Int32))
       else
         some (t13)
   else
     some (t13)).bind fun t22 =>
  if 0 ≤ t22 then
    (f_X7_think w1).bind fun t23 =>
    (f_X7_two_L80 a1 a2 6000 (0 : Int32) t23).bind fun t48 =>
    f_X7_two_L173 t48 6000 (0 : Int32)
  else
    (f_X7_refuse w1 t22).bind fun t58 =>
    some (t58.1, t58.2)
set_option maxRecDepth 100000 in
theorem f_X7_two_L80_x {α R : Type} (B : XB) {Q : R → State → Prop} {k : α → Option R} {r : (Mem) → Option α} (a1 : Int32) (a2 : Int32) (hE : ∀ t0 : (Mem), XE B M_X7_two Q 170 [(0, some (.ref 0))] [] (0, 0) SH_M [t0] (fun t => (r t).bind k) (some t0)) : ∀ (n : Nat) (v24 : Int32) (w25 : Mem), XE B M_X7_two Q 80 [(0, some (.ref 0)), (1, some (.int a1)), (2, some (.int a2)), (4, some (.int v24))] [] (0, 0) SH_M [w25] (fun t => (r t).bind k) (f_X7_two_L80 a1 a2 n v24 w25) := by
  intro n
  induction n with
  | zero => intros; exact XE_none
  | succ n ih =>
    intro v24 w25
    rw [f_X7_two_L80]
    refine XE_iload (n := 82) dX7_two_80 rfl rfl ?_
    refine XE_iconst (v := 4) (n := 83) dX7_two_82 rfl (by decide) ?_
    refine XE_icmp_ge (t := 170) (n := 86) dX7_two_83 rfl rfl (fun h47 => ?_) (fun h47 => ?_)
    · refine XE_ls (x_sub_ok (ls' := [(0, some (.ref 0))]) ⟨rfl, trivial⟩) ?_
      exact hE (w25)
    · refine XE_iload (n := 88) dX7_two_86 rfl rfl ?_
      refine XE_iconst (v := 2) (n := 89) dX7_two_88 rfl (by decide) ?_
      refine XE_irem (n := 90) dX7_two_89 rfl (by decide) ?_
      refine XE_iconst (v := 1) (n := 91) dX7_two_90 rfl (by decide) ?_
      refine XE_reg (J := 99) (lsJ := fun t32 => [(0, some (.ref 0)), (1, some (.int a1)), (2, some (.int a2)), (4, some (.int v24))]) (stJ := fun t32 => []) (hsJ := fun t32 => [t32]) (fun t32 => ?_) (fun hJ29 => ?_)
      · refine XE_iload (n := 101) dX7_two_99 rfl rfl ?_
        refine XE_iconst (v := 2) (n := 102) dX7_two_101 rfl (by decide) ?_
        refine XE_idiv (n := 103) dX7_two_102 rfl (by decide) ?_
        refine XE_iconst (v := 1) (n := 104) dX7_two_103 rfl (by decide) ?_
        refine XE_reg (J := 112) (lsJ := fun t39 => [(0, some (.ref 0)), (1, some (.int a1)), (2, some (.int a2)), (4, some (.int v24))]) (stJ := fun t39 => []) (hsJ := fun t39 => [t39]) (fun t39 => ?_) (fun hJ36 => ?_)
        · refine XE_aload_n (n := 113) dX7_two_112 rfl rfl rfl ?_
          refine XE_callVi (ni := 0) (As := []) (st2 := fun t40 => []) (n := 116) (b := 0) xc_X7_243 (fun l t ht => met_X7_wedAll l t39 t ht) rfl rfl rfl rfl dX7_two_113 (Nat.le_of_ble_eq_true rfl) ⟨Nat.zero_le _, Nat.zero_le _⟩ (Nat.le_of_ble_eq_true rfl) (Nat.le_of_ble_eq_true rfl) (fun _ => rfl) rfl (fun t40 => ?_)
          refine XE_aload_n (n := 117) dX7_two_116 rfl rfl rfl ?_
          refine XE_getr (b := 21) (n := 120) xf_X7_70 rfl rfl dX7_two_117 rfl ?_
          refine XE_iconst (v := 2) (n := 121) dX7_two_120 rfl (by decide) ?_
          refine XE_iload (n := 123) dX7_two_121 rfl rfl ?_
          refine XE_imul (n := 124) dX7_two_123 rfl ?_
          refine XE_aload_n (n := 125) dX7_two_124 rfl rfl rfl ?_
          refine XE_iload_n (n := 126) dX7_two_125 rfl rfl rfl ?_
          refine XE_callVi (ni := 1) (As := [.int a1]) (st2 := fun t41 => [.int t41, .int (2 * v24), .ref 21]) (n := 129) (b := 0) xc_X7_121 (fun l t ht => met_X7_lateOf l t40 a1 t ht) rfl rfl rfl rfl dX7_two_126 (Nat.le_of_ble_eq_true rfl) ⟨Nat.zero_le _, Nat.zero_le _⟩ (Nat.le_of_ble_eq_true rfl) (Nat.le_of_ble_eq_true rfl) (fun _ => rfl) rfl (fun t41 => ?_)
          refine XE_iconst (v := 4) (n := 130) dX7_two_129 rfl (by decide) ?_
          refine XE_iload (n := 132) dX7_two_130 rfl rfl ?_
          refine XE_iconst (v := 2) (n := 133) dX7_two_132 rfl (by decide) ?_
          refine XE_idiv (n := 134) dX7_two_133 rfl (by decide) ?_
          refine XE_imul (n := 135) dX7_two_134 rfl ?_
          refine XE_iadd (n := 136) dX7_two_135 rfl ?_
          refine XE_iast (hs2 := fun w42 => [w42]) (n := 137) rfl rfl rfl (Nat.le_of_ble_eq_true rfl) (fun _ => rfl) dX7_two_136 rfl (fun w42 => ?_)
          refine XE_aload_n (n := 138) dX7_two_137 rfl rfl rfl ?_
          refine XE_getr (b := 21) (n := 141) xf_X7_70 rfl rfl dX7_two_138 rfl ?_
          refine XE_iconst (v := 2) (n := 142) dX7_two_141 rfl (by decide) ?_
          refine XE_iload (n := 144) dX7_two_142 rfl rfl ?_
          refine XE_imul (n := 145) dX7_two_144 rfl ?_
          refine XE_iconst (v := 1) (n := 146) dX7_two_145 rfl (by decide) ?_
          refine XE_iadd (n := 147) dX7_two_146 rfl ?_
          refine XE_aload_n (n := 148) dX7_two_147 rfl rfl rfl ?_
          refine XE_iload_n (n := 149) dX7_two_148 rfl rfl rfl ?_
          refine XE_callVi (ni := 1) (As := [.int a2]) (st2 := fun t43 => [.int t43, .int ((2 * v24) + 1), .ref 21]) (n := 152) (b := 0) xc_X7_121 (fun l t ht => met_X7_lateOf l w42 a2 t ht) rfl rfl rfl rfl dX7_two_149 (Nat.le_of_ble_eq_true rfl) ⟨Nat.zero_le _, Nat.zero_le _⟩ (Nat.le_of_ble_eq_true rfl) (Nat.le_of_ble_eq_true rfl) (fun _ => rfl) rfl (fun t43 => ?_)
          refine XE_iconst (v := 4) (n := 153) dX7_two_152 rfl (by decide) ?_
          refine XE_iload (n := 155) dX7_two_153 rfl rfl ?_
          refine XE_iconst (v := 2) (n := 156) dX7_two_155 rfl (by decide) ?_
          refine XE_irem (n := 157) dX7_two_156 rfl (by decide) ?_
          refine XE_imul (n := 158) dX7_two_157 rfl ?_
          refine XE_iadd (n := 159) dX7_two_158 rfl ?_
          refine XE_iast (hs2 := fun w44 => [w44]) (n := 160) rfl rfl rfl (Nat.le_of_ble_eq_true rfl) (fun _ => rfl) dX7_two_159 rfl (fun w44 => ?_)
          refine XE_aload_n (n := 161) dX7_two_160 rfl rfl rfl ?_
          refine XE_callVi (ni := 0) (As := []) (st2 := fun t45 => []) (n := 164) (b := 0) xc_X7_200 (fun l t ht => met_X7_again l w44 t ht) rfl rfl rfl rfl dX7_two_161 (Nat.le_of_ble_eq_true rfl) ⟨Nat.zero_le _, Nat.zero_le _⟩ (Nat.le_of_ble_eq_true rfl) (Nat.le_of_ble_eq_true rfl) (fun _ => rfl) rfl (fun t45 => ?_)
          refine XE_iincl (n := 167) dX7_two_164 rfl rfl (by decide) (Nat.le_of_ble_eq_true rfl) rfl (fun v46 => ?_)
          refine XE_goto (n := 80) dX7_two_167 rfl ?_
          refine XE_ls (x_sub_ok (ls' := [(0, some (.ref 0)), (1, some (.int a1)), (2, some (.int a2)), (4, some (.int v46))]) ⟨rfl, rfl, rfl, rfl, trivial⟩) ?_
          exact ih v46 t45
        · refine XE_icmp_ne (t := 112) (n := 107) dX7_two_104 rfl rfl (fun h38 => ?_) (fun h38 => ?_)
          · refine XE_aload_n (n := 108) dX7_two_107 rfl rfl rfl ?_
            refine XE_iload_n (n := 109) dX7_two_108 rfl rfl rfl ?_
            refine XE_callVi (ni := 1) (As := [.int a1]) (st2 := fun t37 => []) (n := 112) (b := 0) xc_X7_180 (fun l t ht => met_X7_putFirst l t32 a1 t ht) rfl rfl rfl rfl dX7_two_109 (Nat.le_of_ble_eq_true rfl) ⟨Nat.zero_le _, Nat.zero_le _⟩ (Nat.le_of_ble_eq_true rfl) (Nat.le_of_ble_eq_true rfl) (fun _ => rfl) rfl (fun t37 => ?_)
            refine XE_ls (x_sub_ok (ls' := [(0, some (.ref 0)), (1, some (.int a1)), (2, some (.int a2)), (4, some (.int v24))]) ⟨rfl, rfl, rfl, rfl, trivial⟩) ?_
            exact hJ36 (t37)
          · refine XE_ls (x_sub_ok (ls' := [(0, some (.ref 0)), (1, some (.int a1)), (2, some (.int a2)), (4, some (.int v24))]) ⟨rfl, rfl, rfl, rfl, trivial⟩) ?_
            exact hJ36 (t32)
      · refine XE_icmp_ne (t := 99) (n := 94) dX7_two_91 rfl rfl (fun h31 => ?_) (fun h31 => ?_)
        · refine XE_aload_n (n := 95) dX7_two_94 rfl rfl rfl ?_
          refine XE_iload_n (n := 96) dX7_two_95 rfl rfl rfl ?_
          refine XE_callVi (ni := 1) (As := [.int a2]) (st2 := fun t30 => []) (n := 99) (b := 0) xc_X7_180 (fun l t ht => met_X7_putFirst l w25 a2 t ht) rfl rfl rfl rfl dX7_two_96 (Nat.le_of_ble_eq_true rfl) ⟨Nat.zero_le _, Nat.zero_le _⟩ (Nat.le_of_ble_eq_true rfl) (Nat.le_of_ble_eq_true rfl) (fun _ => rfl) rfl (fun t30 => ?_)
          refine XE_ls (x_sub_ok (ls' := [(0, some (.ref 0)), (1, some (.int a1)), (2, some (.int a2)), (4, some (.int v24))]) ⟨rfl, rfl, rfl, rfl, trivial⟩) ?_
          exact hJ29 (t30)
        · refine XE_ls (x_sub_ok (ls' := [(0, some (.ref 0)), (1, some (.int a1)), (2, some (.int a2)), (4, some (.int v24))]) ⟨rfl, rfl, rfl, rfl, trivial⟩) ?_
          exact hJ29 (w25)
set_option maxRecDepth 100000 in
theorem f_X7_two_L173_x (B : XB) (t48 : (Mem)) : ∀ (n : Nat) (v49 : Int32), XE B M_X7_two (XQm B 0 0 SH_M) 173 [(0, some (.ref 0)), (4, some (.int v49))] [] (0, 0) SH_M [t48] (fun t => some (some (.int t.1), [t.2])) (f_X7_two_L173 t48 n v49) := by
  intro n
  induction n with
  | zero => intros; exact XE_none
  | succ n ih =>
    intro v49
    rw [f_X7_two_L173]
    refine XE_iload (n := 175) dX7_two_173 rfl rfl ?_
    refine XE_iconst (v := 4) (n := 176) dX7_two_175 rfl (by decide) ?_
    refine XE_icmp_ge (t := 274) (n := 179) dX7_two_176 rfl rfl (fun h56 => ?_) (fun h56 => ?_)
    · refine XE_bipush (v := (-9)) (n := 276) dX7_two_274 rfl (by decide) ?_
      exact XE_ireturn rfl dX7_two_276 rfl (Nat.le_refl _) (Nat.le_refl _)
    · refine XE_iconst (v := 2) (n := 180) dX7_two_179 rfl (by decide) ?_
      refine XE_iconst (v := 1) (n := 181) dX7_two_180 rfl (by decide) ?_
      refine XE_iload (n := 183) dX7_two_181 rfl rfl ?_
      refine XE_iconst (v := 2) (n := 184) dX7_two_183 rfl (by decide) ?_
      refine XE_idiv (n := 185) dX7_two_184 rfl (by decide) ?_
      refine XE_isub (n := 186) dX7_two_185 rfl ?_
      refine XE_imul (n := 187) dX7_two_186 rfl ?_
      refine XE_iload (n := 189) dX7_two_187 rfl rfl ?_
      refine XE_iconst (v := 2) (n := 190) dX7_two_189 rfl (by decide) ?_
      refine XE_irem (n := 191) dX7_two_190 rfl (by decide) ?_
      refine XE_iadd (n := 192) dX7_two_191 rfl ?_
      refine XE_topi (fun v50 => ?_)
      refine XE_istore (i := 5) (n := 194) dX7_two_192 rfl (Nat.le_of_ble_eq_true rfl) rfl ?_
      refine XE_iconst (v := 2) (n := 195) dX7_two_194 rfl (by decide) ?_
      refine XE_iload (n := 197) dX7_two_195 rfl rfl ?_
      refine XE_iconst (v := 2) (n := 198) dX7_two_197 rfl (by decide) ?_
      refine XE_idiv (n := 199) dX7_two_198 rfl (by decide) ?_
      refine XE_imul (n := 200) dX7_two_199 rfl ?_
      refine XE_iconst (v := 1) (n := 201) dX7_two_200 rfl (by decide) ?_
      refine XE_iadd (n := 202) dX7_two_201 rfl ?_
      refine XE_iload (n := 204) dX7_two_202 rfl rfl ?_
      refine XE_iconst (v := 2) (n := 205) dX7_two_204 rfl (by decide) ?_
      refine XE_irem (n := 206) dX7_two_205 rfl (by decide) ?_
      refine XE_isub (n := 207) dX7_two_206 rfl ?_
      refine XE_topi (fun v51 => ?_)
      refine XE_istore (i := 6) (n := 209) dX7_two_207 rfl (Nat.le_of_ble_eq_true rfl) rfl ?_
      refine XE_aload_n (n := 210) dX7_two_209 rfl rfl rfl ?_
      refine XE_getr (b := 21) (n := 213) xf_X7_70 rfl rfl dX7_two_210 rfl ?_
      refine XE_iconst (v := 2) (n := 214) dX7_two_213 rfl (by decide) ?_
      refine XE_iload (n := 216) dX7_two_214 rfl rfl ?_
      refine XE_imul (n := 217) dX7_two_216 rfl ?_
      refine XE_iald (row := t48 21) (n := 218) rfl rfl dX7_two_217 rfl ?_
      refine XE_aload_n (n := 219) dX7_two_218 rfl rfl rfl ?_
      refine XE_getr (b := 21) (n := 222) xf_X7_70 rfl rfl dX7_two_219 rfl ?_
      refine XE_iconst (v := 2) (n := 223) dX7_two_222 rfl (by decide) ?_
      refine XE_iload (n := 225) dX7_two_223 rfl rfl ?_
      refine XE_imul (n := 226) dX7_two_225 rfl ?_
      refine XE_iald (row := t48 21) (n := 227) rfl rfl dX7_two_226 rfl ?_
      refine XE_icmp_gt (t := 268) (n := 230) dX7_two_227 rfl rfl (fun h55 => ?_) (fun h55 => ?_)
      · refine XE_iincl (n := 271) dX7_two_268 rfl rfl (by decide) (Nat.le_of_ble_eq_true rfl) rfl (fun v52 => ?_)
        refine XE_goto (n := 173) dX7_two_271 rfl ?_
        refine XE_ls (x_sub_ok (ls' := [(0, some (.ref 0)), (4, some (.int v52))]) ⟨rfl, rfl, trivial⟩) ?_
        exact ih v52
      · refine XE_aload_n (n := 231) dX7_two_230 rfl rfl rfl ?_
        refine XE_getr (b := 21) (n := 234) xf_X7_70 rfl rfl dX7_two_231 rfl ?_
        refine XE_iconst (v := 2) (n := 235) dX7_two_234 rfl (by decide) ?_
        refine XE_iload (n := 237) dX7_two_235 rfl rfl ?_
        refine XE_imul (n := 238) dX7_two_237 rfl ?_
        refine XE_iconst (v := 1) (n := 239) dX7_two_238 rfl (by decide) ?_
        refine XE_iadd (n := 240) dX7_two_239 rfl ?_
        refine XE_iald (row := t48 21) (n := 241) rfl rfl dX7_two_240 rfl ?_
        refine XE_aload_n (n := 242) dX7_two_241 rfl rfl rfl ?_
        refine XE_getr (b := 21) (n := 245) xf_X7_70 rfl rfl dX7_two_242 rfl ?_
        refine XE_iconst (v := 2) (n := 246) dX7_two_245 rfl (by decide) ?_
        refine XE_iload (n := 248) dX7_two_246 rfl rfl ?_
        refine XE_imul (n := 249) dX7_two_248 rfl ?_
        refine XE_iconst (v := 1) (n := 250) dX7_two_249 rfl (by decide) ?_
        refine XE_iadd (n := 251) dX7_two_250 rfl ?_
        refine XE_iald (row := t48 21) (n := 252) rfl rfl dX7_two_251 rfl ?_
        refine XE_icmp_gt (t := 268) (n := 255) dX7_two_252 rfl rfl (fun h54 => ?_) (fun h54 => ?_)
        · refine XE_iincl (n := 271) dX7_two_268 rfl rfl (by decide) (Nat.le_of_ble_eq_true rfl) rfl (fun v53 => ?_)
          refine XE_goto (n := 173) dX7_two_271 rfl ?_
          refine XE_ls (x_sub_ok (ls' := [(0, some (.ref 0)), (4, some (.int v53))]) ⟨rfl, rfl, trivial⟩) ?_
          exact ih v53
        · refine XE_bipush (v := 10) (n := 257) dX7_two_255 rfl (by decide) ?_
          refine XE_iload (n := 259) dX7_two_257 rfl rfl ?_
          refine XE_iconst (v := 2) (n := 260) dX7_two_259 rfl (by decide) ?_
          refine XE_idiv (n := 261) dX7_two_260 rfl (by decide) ?_
          refine XE_imul (n := 262) dX7_two_261 rfl ?_
          refine XE_iload (n := 264) dX7_two_262 rfl rfl ?_
          refine XE_iconst (v := 2) (n := 265) dX7_two_264 rfl (by decide) ?_
          refine XE_irem (n := 266) dX7_two_265 rfl (by decide) ?_
          refine XE_iadd (n := 267) dX7_two_266 rfl ?_
          exact XE_ireturn rfl dX7_two_267 rfl (Nat.le_refl _) (Nat.le_refl _)
set_option maxRecDepth 100000 in
theorem xe_X7_two (B : XB) (m0 : Mem) (a1 : Int32) (a2 : Int32) : XE B M_X7_two (XQm B 0 0 SH_M) 0 [(0, some (.ref 0)), (1, some (.int a1)), (2, some (.int a2))] [] (0, 0) SH_M [m0] (fun t => some (some (.int t.1), [t.2])) (f_X7_two m0 a1 a2) := by
  unfold f_X7_two
  refine XE_aload_n (n := 1) dX7_two_0 rfl rfl rfl ?_
  refine XE_iconst (v := 0) (n := 2) dX7_two_1 rfl (by decide) ?_
  refine XE_putf (hs2 := fun w1 => [w1]) (n := 5) xf_X7_76 rfl rfl rfl rfl (Nat.le_of_ble_eq_true rfl) (fun _ => rfl) dX7_two_2 rfl (fun w1 => ?_)
  refine XE_aload_n (n := 6) dX7_two_5 rfl rfl rfl ?_
  refine XE_iload_n (n := 7) dX7_two_6 rfl rfl rfl ?_
  refine XE_callVi (ni := 1) (As := [.int a1]) (st2 := fun t2 => [.int t2]) (n := 10) (b := 0) xc_X7_177 (fun l t ht => met_X7_isCouple l w1 a1 t ht) rfl rfl rfl rfl dX7_two_7 (Nat.le_of_ble_eq_true rfl) ⟨Nat.zero_le _, Nat.zero_le _⟩ (Nat.le_of_ble_eq_true rfl) (Nat.le_of_ble_eq_true rfl) (fun _ => rfl) rfl (fun t2 => ?_)
  refine XE_reg (J := 31) (lsJ := fun t13 => [(0, some (.ref 0)), (1, some (.int a1)), (2, some (.int a2))]) (stJ := fun t13 => [.int t13]) (hsJ := fun t13 => [w1]) (fun t13 => ?_) (fun hJ8 => ?_)
  · refine XE_istore_n (i := 3) (n := 32) dX7_two_31 rfl rfl (Nat.le_of_ble_eq_true rfl) rfl ?_
    refine XE_iload_n (n := 33) dX7_two_32 rfl rfl rfl ?_
    refine XE_reg (J := 62) (lsJ := fun t22 => [(0, some (.ref 0)), (1, some (.int a1)), (2, some (.int a2))]) (stJ := fun t22 => [.int t22]) (hsJ := fun t22 => [w1]) (fun t22 => ?_) (fun hJ18 => ?_)
    · refine XE_istore_n (i := 3) (n := 63) dX7_two_62 rfl rfl (Nat.le_of_ble_eq_true rfl) rfl ?_
      refine XE_iload_n (n := 64) dX7_two_63 rfl rfl rfl ?_
      refine XE_if_ge (t := 73) (n := 67) dX7_two_64 rfl rfl (fun h59 => ?_) (fun h59 => ?_)
      · refine XE_aload_n (n := 74) dX7_two_73 rfl rfl rfl ?_
        refine XE_callVi (ni := 0) (As := []) (st2 := fun t23 => []) (n := 77) (b := 0) xc_X7_194 (fun l t ht => met_X7_think l w1 t ht) rfl rfl rfl rfl dX7_two_74 (Nat.le_of_ble_eq_true rfl) ⟨Nat.zero_le _, Nat.zero_le _⟩ (Nat.le_of_ble_eq_true rfl) (Nat.le_of_ble_eq_true rfl) (fun _ => rfl) rfl (fun t23 => ?_)
        refine XE_iconst (v := 0) (n := 78) dX7_two_77 rfl (by decide) ?_
        refine XE_istore (i := 4) (n := 80) dX7_two_78 rfl (Nat.le_of_ble_eq_true rfl) rfl ?_
        refine XE_ls (x_sub_ok (ls' := [(0, some (.ref 0)), (1, some (.int a1)), (2, some (.int a2)), (4, some (.int 0))]) ⟨rfl, rfl, rfl, rfl, trivial⟩) ?_
        refine XE_reg (J := 170) (lsJ := fun t48 => [(0, some (.ref 0))]) (stJ := fun t48 => []) (hsJ := fun t48 => [t48]) (fun t48 => ?_) (fun hJ57 => f_X7_two_L80_x B a1 a2 hJ57 6000 (0 : Int32) t23)
        refine XE_iconst (v := 0) (n := 171) dX7_two_170 rfl (by decide) ?_
        refine XE_istore (i := 4) (n := 173) dX7_two_171 rfl (Nat.le_of_ble_eq_true rfl) rfl ?_
        refine XE_ls (x_sub_ok (ls' := [(0, some (.ref 0)), (4, some (.int 0))]) ⟨rfl, rfl, trivial⟩) ?_
        exact f_X7_two_L173_x B t48 6000 (0 : Int32)
      · refine XE_aload_n (n := 68) dX7_two_67 rfl rfl rfl ?_
        refine XE_iload_n (n := 69) dX7_two_68 rfl rfl rfl ?_
        refine XE_callVi (ni := 1) (As := [.int t22]) (st2 := fun t58 => [.int t58.1]) (n := 72) (b := 0) xc_X7_138 (fun l t ht => met_X7_refuse l w1 t22 t ht) rfl rfl rfl rfl dX7_two_69 (Nat.le_of_ble_eq_true rfl) ⟨Nat.zero_le _, Nat.zero_le _⟩ (Nat.le_of_ble_eq_true rfl) (Nat.le_of_ble_eq_true rfl) (fun _ => rfl) rfl (fun t58 => ?_)
        exact XE_ireturn rfl dX7_two_72 rfl (Nat.le_refl _) (Nat.le_refl _)
    · refine XE_if_ne (t := 61) (n := 36) dX7_two_33 rfl rfl (fun h21 => ?_) (fun h21 => ?_)
      · refine XE_aload_n (n := 37) dX7_two_36 rfl rfl rfl ?_
        refine XE_getr (b := 4) (n := 40) xf_X7_19 rfl rfl dX7_two_37 rfl ?_
        refine XE_iload_n (n := 41) dX7_two_40 rfl rfl rfl ?_
        refine XE_iald (row := w1 4) (n := 42) rfl rfl dX7_two_41 rfl ?_
        refine XE_iconst (v := 1) (n := 43) dX7_two_42 rfl (by decide) ?_
        refine XE_icmp_eq (t := 56) (n := 46) dX7_two_43 rfl rfl (fun h20 => ?_) (fun h20 => ?_)
        · refine XE_bipush (v := (-3)) (n := 58) dX7_two_56 rfl (by decide) ?_
          refine XE_goto (n := 62) dX7_two_58 rfl ?_
          refine XE_ls (x_sub_ok (ls' := [(0, some (.ref 0)), (1, some (.int a1)), (2, some (.int a2))]) ⟨rfl, rfl, rfl, trivial⟩) ?_
          exact hJ18 (((-3) : Int32))
        · refine XE_aload_n (n := 47) dX7_two_46 rfl rfl rfl ?_
          refine XE_getr (b := 4) (n := 50) xf_X7_19 rfl rfl dX7_two_47 rfl ?_
          refine XE_iload_n (n := 51) dX7_two_50 rfl rfl rfl ?_
          refine XE_iald (row := w1 4) (n := 52) rfl rfl dX7_two_51 rfl ?_
          refine XE_iconst (v := 1) (n := 53) dX7_two_52 rfl (by decide) ?_
          refine XE_icmp_ne (t := 61) (n := 56) dX7_two_53 rfl rfl (fun h19 => ?_) (fun h19 => ?_)
          · refine XE_bipush (v := (-3)) (n := 58) dX7_two_56 rfl (by decide) ?_
            refine XE_goto (n := 62) dX7_two_58 rfl ?_
            refine XE_ls (x_sub_ok (ls' := [(0, some (.ref 0)), (1, some (.int a1)), (2, some (.int a2))]) ⟨rfl, rfl, rfl, trivial⟩) ?_
            exact hJ18 (((-3) : Int32))
          · refine XE_iload_n (n := 62) dX7_two_61 rfl rfl rfl ?_
            refine XE_ls (x_sub_ok (ls' := [(0, some (.ref 0)), (1, some (.int a1)), (2, some (.int a2))]) ⟨rfl, rfl, rfl, trivial⟩) ?_
            exact hJ18 (t13)
      · refine XE_iload_n (n := 62) dX7_two_61 rfl rfl rfl ?_
        refine XE_ls (x_sub_ok (ls' := [(0, some (.ref 0)), (1, some (.int a1)), (2, some (.int a2))]) ⟨rfl, rfl, rfl, trivial⟩) ?_
        exact hJ18 (t13)
  · refine XE_if_eq (t := 30) (n := 13) dX7_two_10 rfl rfl (fun h12 => ?_) (fun h12 => ?_)
    · refine XE_iconst (v := (-1)) (n := 31) dX7_two_30 rfl (by decide) ?_
      refine XE_ls (x_sub_ok (ls' := [(0, some (.ref 0)), (1, some (.int a1)), (2, some (.int a2))]) ⟨rfl, rfl, rfl, trivial⟩) ?_
      exact hJ8 (((-1) : Int32))
    · refine XE_aload_n (n := 14) dX7_two_13 rfl rfl rfl ?_
      refine XE_iload_n (n := 15) dX7_two_14 rfl rfl rfl ?_
      refine XE_callVi (ni := 1) (As := [.int a2]) (st2 := fun t9 => [.int t9]) (n := 18) (b := 0) xc_X7_177 (fun l t ht => met_X7_isCouple l w1 a2 t ht) rfl rfl rfl rfl dX7_two_15 (Nat.le_of_ble_eq_true rfl) ⟨Nat.zero_le _, Nat.zero_le _⟩ (Nat.le_of_ble_eq_true rfl) (Nat.le_of_ble_eq_true rfl) (fun _ => rfl) rfl (fun t9 => ?_)
      refine XE_if_eq (t := 30) (n := 21) dX7_two_18 rfl rfl (fun h11 => ?_) (fun h11 => ?_)
      · refine XE_iconst (v := (-1)) (n := 31) dX7_two_30 rfl (by decide) ?_
        refine XE_ls (x_sub_ok (ls' := [(0, some (.ref 0)), (1, some (.int a1)), (2, some (.int a2))]) ⟨rfl, rfl, rfl, trivial⟩) ?_
        exact hJ8 (((-1) : Int32))
      · refine XE_iload_n (n := 22) dX7_two_21 rfl rfl rfl ?_
        refine XE_iload_n (n := 23) dX7_two_22 rfl rfl rfl ?_
        refine XE_icmp_eq (t := 30) (n := 26) dX7_two_23 rfl rfl (fun h10 => ?_) (fun h10 => ?_)
        · refine XE_iconst (v := (-1)) (n := 31) dX7_two_30 rfl (by decide) ?_
          refine XE_ls (x_sub_ok (ls' := [(0, some (.ref 0)), (1, some (.int a1)), (2, some (.int a2))]) ⟨rfl, rfl, rfl, trivial⟩) ?_
          exact hJ8 (((-1) : Int32))
        · refine XE_iconst (v := 0) (n := 27) dX7_two_26 rfl (by decide) ?_
          refine XE_goto (n := 31) dX7_two_27 rfl ?_
          refine XE_ls (x_sub_ok (ls' := [(0, some (.ref 0)), (1, some (.int a1)), (2, some (.int a2))]) ⟨rfl, rfl, rfl, trivial⟩) ?_
          exact hJ8 ((0 : Int32))
theorem met_X7_two (l : Launch) (m0 : Mem) (a1 : Int32) (a2 : Int32) (t : Int32 × Mem) (ht : f_X7_two m0 a1 a2 = some t) : XMet l yX7_two cX7_two 7 (some .int) 5 0 0 [.ref 0, .int a1, .int a2] SH_M [m0] SH_M (some (.int t.1), [t.2]) := XMet.of (by decide +kernel) (fun _ => Nat.le_of_ble_eq_true rfl) (fun B => xe_X7_two B m0 a1 a2) (by rw [ht]; rfl)
