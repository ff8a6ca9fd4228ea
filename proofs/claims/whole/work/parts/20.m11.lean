/-! X7_row: EveryTwentyMinutesModel.row(I)I in world M at (0,) -/
abbrev M_X7_row : XM := (RX7, cX7_row, 2, (some .int), "row", 2, 0, 0)
def f_X7_row_J32 (w2 : Mem) : Option (Int32 × Mem) :=
  (f_X7_refuse w2 (-6)).bind fun t3 =>
  some (t3.1, t3.2)
def f_X7_row (m0 : Mem) (a1 : Int32) : Option (Int32 × Mem) :=
  lt (xs m0 0 14 0) fun w1 =>
  if 0 ≤ a1 then
    if 999 < a1 then
      f_X7_row_J32 w1
    else
      if (w1 0 37) = 12 then
        f_X7_row_J32 w1
      else
        ck (inb (w1 0 37) 12) <|
        lt (xs w1 22 (ix (w1 0 37)) a1) fun w4 =>
        lt (xs w4 0 37 ((w4 0 37) + 1)) fun w5 =>
        some ((w5 0 37), w5)
  else
    (f_X7_refuse w1 (-4)).bind fun t8 =>
    some (t8.1, t8.2)
set_option maxRecDepth 100000 in
theorem f_X7_row_J32_x (B : XB) (w2 : Mem) : XE B M_X7_row (XQm B 0 0 SH_M) 32 [(0, some (.ref 0))] [] (0, 0) SH_M [w2] (fun t => some (some (.int t.1), [t.2])) (f_X7_row_J32 w2) := by
  unfold f_X7_row_J32
  refine XE_aload_n (n := 33) dX7_row_32 rfl rfl rfl ?_
  refine XE_bipush (v := (-6)) (n := 35) dX7_row_33 rfl (by decide) ?_
  refine XE_callVi (ni := 1) (As := [.int (-6)]) (st2 := fun t3 => [.int t3.1]) (n := 38) (b := 0) xc_X7_138 (fun l t ht => met_X7_refuse l w2 (-6) t ht) rfl rfl rfl rfl dX7_row_35 (Nat.le_of_ble_eq_true rfl) ⟨Nat.zero_le _, Nat.zero_le _⟩ (Nat.le_of_ble_eq_true rfl) (Nat.le_of_ble_eq_true rfl) (fun _ => rfl) rfl (fun t3 => ?_)
  exact XE_ireturn rfl dX7_row_38 rfl (Nat.le_refl _) (Nat.le_refl _)
set_option maxRecDepth 100000 in
theorem xe_X7_row (B : XB) (m0 : Mem) (a1 : Int32) : XE B M_X7_row (XQm B 0 0 SH_M) 0 [(0, some (.ref 0)), (1, some (.int a1))] [] (0, 0) SH_M [m0] (fun t => some (some (.int t.1), [t.2])) (f_X7_row m0 a1) := by
  unfold f_X7_row
  refine XE_aload_n (n := 1) dX7_row_0 rfl rfl rfl ?_
  refine XE_iconst (v := 0) (n := 2) dX7_row_1 rfl (by decide) ?_
  refine XE_putf (hs2 := fun w1 => [w1]) (n := 5) xf_X7_76 rfl rfl rfl rfl (Nat.le_of_ble_eq_true rfl) (fun _ => rfl) dX7_row_2 rfl (fun w1 => ?_)
  refine XE_iload_n (n := 6) dX7_row_5 rfl rfl rfl ?_
  refine XE_if_ge (t := 16) (n := 9) dX7_row_6 rfl rfl (fun h9 => ?_) (fun h9 => ?_)
  · refine XE_iload_n (n := 17) dX7_row_16 rfl rfl rfl ?_
    refine XE_sipush (v := 999) (n := 20) dX7_row_17 rfl (by decide) ?_
    refine XE_icmp_gt (t := 32) (n := 23) dX7_row_20 rfl rfl (fun h7 => ?_) (fun h7 => ?_)
    · refine XE_ls (x_sub_ok (ls' := [(0, some (.ref 0))]) ⟨rfl, trivial⟩) ?_
      exact f_X7_row_J32_x B w1
    · refine XE_aload_n (n := 24) dX7_row_23 rfl rfl rfl ?_
      refine XE_getf (v := w1 0 37) (n := 27) xf_X7_300 rfl rfl rfl dX7_row_24 rfl ?_
      refine XE_bipush (v := 12) (n := 29) dX7_row_27 rfl (by decide) ?_
      refine XE_icmp_ne (t := 39) (n := 32) dX7_row_29 rfl rfl (fun h6 => ?_) (fun h6 => ?_)
      · refine XE_ls (x_sub_ok (ls' := [(0, some (.ref 0))]) ⟨rfl, trivial⟩) ?_
        exact f_X7_row_J32_x B w1
      · refine XE_aload_n (n := 40) dX7_row_39 rfl rfl rfl ?_
        refine XE_getr (b := 22) (n := 43) xf_X7_73 rfl rfl dX7_row_40 rfl ?_
        refine XE_aload_n (n := 44) dX7_row_43 rfl rfl rfl ?_
        refine XE_getf (v := w1 0 37) (n := 47) xf_X7_300 rfl rfl rfl dX7_row_44 rfl ?_
        refine XE_iload_n (n := 48) dX7_row_47 rfl rfl rfl ?_
        refine XE_iast (hs2 := fun w4 => [w4]) (n := 49) rfl rfl rfl (Nat.le_of_ble_eq_true rfl) (fun _ => rfl) dX7_row_48 rfl (fun w4 => ?_)
        refine XE_aload_n (n := 50) dX7_row_49 rfl rfl rfl ?_
        refine XE_dup (n := 51) dX7_row_50 rfl rfl ?_
        refine XE_getf (v := w4 0 37) (n := 54) xf_X7_300 rfl rfl rfl dX7_row_51 rfl ?_
        refine XE_iconst (v := 1) (n := 55) dX7_row_54 rfl (by decide) ?_
        refine XE_iadd (n := 56) dX7_row_55 rfl ?_
        refine XE_putf (hs2 := fun w5 => [w5]) (n := 59) xf_X7_300 rfl rfl rfl rfl (Nat.le_of_ble_eq_true rfl) (fun _ => rfl) dX7_row_56 rfl (fun w5 => ?_)
        refine XE_aload_n (n := 60) dX7_row_59 rfl rfl rfl ?_
        refine XE_getf (v := w5 0 37) (n := 63) xf_X7_300 rfl rfl rfl dX7_row_60 rfl ?_
        exact XE_ireturn rfl dX7_row_63 rfl (Nat.le_refl _) (Nat.le_refl _)
  · refine XE_aload_n (n := 10) dX7_row_9 rfl rfl rfl ?_
    refine XE_bipush (v := (-4)) (n := 12) dX7_row_10 rfl (by decide) ?_
    refine XE_callVi (ni := 1) (As := [.int (-4)]) (st2 := fun t8 => [.int t8.1]) (n := 15) (b := 0) xc_X7_138 (fun l t ht => met_X7_refuse l w1 (-4) t ht) rfl rfl rfl rfl dX7_row_12 (Nat.le_of_ble_eq_true rfl) ⟨Nat.zero_le _, Nat.zero_le _⟩ (Nat.le_of_ble_eq_true rfl) (Nat.le_of_ble_eq_true rfl) (fun _ => rfl) rfl (fun t8 => ?_)
    exact XE_ireturn rfl dX7_row_15 rfl (Nat.le_refl _) (Nat.le_refl _)
theorem met_X7_row (l : Launch) (m0 : Mem) (a1 : Int32) (t : Int32 × Mem) (ht : f_X7_row m0 a1 = some t) : XMet l yX7_row cX7_row 2 (some .int) 2 0 0 [.ref 0, .int a1] SH_M [m0] SH_M (some (.int t.1), [t.2]) := XMet.of (by decide +kernel) (fun _ => Nat.le_of_ble_eq_true rfl) (fun B => xe_X7_row B m0 a1) (by rw [ht]; rfl)
/-! X7_judge: EveryTwentyMinutesModel.judge()I in world M at (0,) -/
abbrev M_X7_judge : XM := (RX7, cX7_judge, 4, (some .int), "judge", 5, 0, 0)
def f_X7_judge_L30 (t5 : (Mem)) : Nat → Int32 → Int32 → Option (Int32)
  | 0, _, _ => none
  | n + 1, v7, v8 =>
    if v8 < 0 then
      some (v7)
    else
      if (t5 0 0) ≤ v8 then
        lt (v8 + (-1)) fun v9 =>
        (f_X7_judge_L30 t5 n) v8 v9
      else
        ck (inb v8 12) <|
        lt (if (t5 0 0) ≤ v8 then
            ((0 : Int32))
          else
            (v8)) fun t12 =>
        ck (inb t12 7) <|
        if (t5 22 (ix v8)) = (t5 5 (ix t12)) then
          lt (v8 + (-1)) fun v13 =>
          (f_X7_judge_L30 t5 n) v7 v13
        else
          lt (v8 + (-1)) fun v14 =>
          (f_X7_judge_L30 t5 n) v8 v14
def f_X7_judge (m0 : Mem) : Option (Int32 × Mem) :=
  lt (xs m0 0 14 0) fun w1 =>
  lt (w1 0 37) fun v2 =>
  lt (xs w1 0 37 0) fun w3 =>
  (f_X7_think w3).bind fun t4 =>
  (f_X7_wedAll t4).bind fun t5 =>
  lt (v2 - 1) fun v6 =>
  (f_X7_judge_L30 t5 6000 ((-9) : Int32) v6).bind fun t18 =>
  (f_X7_again t5).bind fun t19 =>
  some (t18, t19)
set_option maxRecDepth 100000 in
theorem f_X7_judge_L30_x {α R : Type} (B : XB) {Q : R → State → Prop} {k : α → Option R} {r : (Int32) → Option α} (t5 : (Mem)) (hE : ∀ t0 : (Int32), XE B M_X7_judge Q 81 [(0, some (.ref 0)), (2, some (.int t0))] [] (0, 0) SH_M [t5] (fun t => (r t).bind k) (some t0)) : ∀ (n : Nat) (v7 : Int32) (v8 : Int32), XE B M_X7_judge Q 30 [(0, some (.ref 0)), (2, some (.int v7)), (3, some (.int v8))] [] (0, 0) SH_M [t5] (fun t => (r t).bind k) (f_X7_judge_L30 t5 n v7 v8) := by
  intro n
  induction n with
  | zero => intros; exact XE_none
  | succ n ih =>
    intro v7 v8
    rw [f_X7_judge_L30]
    refine XE_iload_n (n := 31) dX7_judge_30 rfl rfl rfl ?_
    refine XE_if_lt (t := 81) (n := 34) dX7_judge_31 rfl rfl (fun h17 => ?_) (fun h17 => ?_)
    · refine XE_ls (x_sub_ok (ls' := [(0, some (.ref 0)), (2, some (.int v7))]) ⟨rfl, rfl, trivial⟩) ?_
      exact hE (v7)
    · refine XE_iload_n (n := 35) dX7_judge_34 rfl rfl rfl ?_
      refine XE_aload_n (n := 36) dX7_judge_35 rfl rfl rfl ?_
      refine XE_getf (v := t5 0 0) (n := 39) xf_X7_83 rfl rfl rfl dX7_judge_36 rfl ?_
      refine XE_icmp_ge (t := 69) (n := 42) dX7_judge_39 rfl rfl (fun h16 => ?_) (fun h16 => ?_)
      · refine XE_iload_n (n := 70) dX7_judge_69 rfl rfl rfl ?_
        refine XE_goto (n := 74) dX7_judge_70 rfl ?_
        refine XE_istore_n (i := 2) (n := 75) dX7_judge_74 rfl rfl (Nat.le_of_ble_eq_true rfl) rfl ?_
        refine XE_iincl (n := 78) dX7_judge_75 rfl rfl (by decide) (Nat.le_of_ble_eq_true rfl) rfl (fun v9 => ?_)
        refine XE_goto (n := 30) dX7_judge_78 rfl ?_
        refine XE_ls (x_sub_ok (ls' := [(0, some (.ref 0)), (2, some (.int v8)), (3, some (.int v9))]) ⟨rfl, rfl, rfl, trivial⟩) ?_
        exact ih v8 v9
      · refine XE_aload_n (n := 43) dX7_judge_42 rfl rfl rfl ?_
        refine XE_getr (b := 22) (n := 46) xf_X7_73 rfl rfl dX7_judge_43 rfl ?_
        refine XE_iload_n (n := 47) dX7_judge_46 rfl rfl rfl ?_
        refine XE_iald (row := t5 22) (n := 48) rfl rfl dX7_judge_47 rfl ?_
        refine XE_aload_n (n := 49) dX7_judge_48 rfl rfl rfl ?_
        refine XE_getr (b := 5) (n := 52) xf_X7_22 rfl rfl dX7_judge_49 rfl ?_
        refine XE_iload_n (n := 53) dX7_judge_52 rfl rfl rfl ?_
        refine XE_aload_n (n := 54) dX7_judge_53 rfl rfl rfl ?_
        refine XE_getf (v := t5 0 0) (n := 57) xf_X7_83 rfl rfl rfl dX7_judge_54 rfl ?_
        refine XE_regv (J := 65) (lsJ := fun t12 => [(0, some (.ref 0)), (2, some (.int v7)), (3, some (.int v8))]) (stJ := fun t12 => [.int t12, .ref 5, .int (t5 22 (ix v8))]) (hsJ := fun t12 => [t5]) (fun t12 => ?_) (fun hJ10 => ?_)
        · refine XE_iald (row := t5 5) (n := 66) rfl rfl dX7_judge_65 rfl ?_
          refine XE_icmp_eq (t := 73) (n := 69) dX7_judge_66 rfl rfl (fun h15 => ?_) (fun h15 => ?_)
          · refine XE_iload_n (n := 74) dX7_judge_73 rfl rfl rfl ?_
            refine XE_istore_n (i := 2) (n := 75) dX7_judge_74 rfl rfl (Nat.le_of_ble_eq_true rfl) rfl ?_
            refine XE_iincl (n := 78) dX7_judge_75 rfl rfl (by decide) (Nat.le_of_ble_eq_true rfl) rfl (fun v13 => ?_)
            refine XE_goto (n := 30) dX7_judge_78 rfl ?_
            refine XE_ls (x_sub_ok (ls' := [(0, some (.ref 0)), (2, some (.int v7)), (3, some (.int v13))]) ⟨rfl, rfl, rfl, trivial⟩) ?_
            exact ih v7 v13
          · refine XE_iload_n (n := 70) dX7_judge_69 rfl rfl rfl ?_
            refine XE_goto (n := 74) dX7_judge_70 rfl ?_
            refine XE_istore_n (i := 2) (n := 75) dX7_judge_74 rfl rfl (Nat.le_of_ble_eq_true rfl) rfl ?_
            refine XE_iincl (n := 78) dX7_judge_75 rfl rfl (by decide) (Nat.le_of_ble_eq_true rfl) rfl (fun v14 => ?_)
            refine XE_goto (n := 30) dX7_judge_78 rfl ?_
            refine XE_ls (x_sub_ok (ls' := [(0, some (.ref 0)), (2, some (.int v8)), (3, some (.int v14))]) ⟨rfl, rfl, rfl, trivial⟩) ?_
            exact ih v8 v14
        · refine XE_ltif ?_
          refine XE_icmp_ge (t := 64) (n := 60) dX7_judge_57 rfl rfl (fun h11 => ?_) (fun h11 => ?_)
          · refine XE_iconst (v := 0) (n := 65) dX7_judge_64 rfl (by decide) ?_
            refine XE_ls (x_sub_ok (ls' := [(0, some (.ref 0)), (2, some (.int v7)), (3, some (.int v8))]) ⟨rfl, rfl, rfl, trivial⟩) ?_
            exact hJ10 ((0 : Int32))
          · refine XE_iload_n (n := 61) dX7_judge_60 rfl rfl rfl ?_
            refine XE_goto (n := 65) dX7_judge_61 rfl ?_
            refine XE_ls (x_sub_ok (ls' := [(0, some (.ref 0)), (2, some (.int v7)), (3, some (.int v8))]) ⟨rfl, rfl, rfl, trivial⟩) ?_
            exact hJ10 (v8)
set_option maxRecDepth 100000 in
theorem xe_X7_judge (B : XB) (m0 : Mem) : XE B M_X7_judge (XQm B 0 0 SH_M) 0 [(0, some (.ref 0))] [] (0, 0) SH_M [m0] (fun t => some (some (.int t.1), [t.2])) (f_X7_judge m0) := by
  unfold f_X7_judge
  refine XE_aload_n (n := 1) dX7_judge_0 rfl rfl rfl ?_
  refine XE_iconst (v := 0) (n := 2) dX7_judge_1 rfl (by decide) ?_
  refine XE_putf (hs2 := fun w1 => [w1]) (n := 5) xf_X7_76 rfl rfl rfl rfl (Nat.le_of_ble_eq_true rfl) (fun _ => rfl) dX7_judge_2 rfl (fun w1 => ?_)
  refine XE_aload_n (n := 6) dX7_judge_5 rfl rfl rfl ?_
  refine XE_getf (v := w1 0 37) (n := 9) xf_X7_300 rfl rfl rfl dX7_judge_6 rfl ?_
  refine XE_topi (fun v2 => ?_)
  refine XE_istore_n (i := 1) (n := 10) dX7_judge_9 rfl rfl (Nat.le_of_ble_eq_true rfl) rfl ?_
  refine XE_aload_n (n := 11) dX7_judge_10 rfl rfl rfl ?_
  refine XE_iconst (v := 0) (n := 12) dX7_judge_11 rfl (by decide) ?_
  refine XE_putf (hs2 := fun w3 => [w3]) (n := 15) xf_X7_300 rfl rfl rfl rfl (Nat.le_of_ble_eq_true rfl) (fun _ => rfl) dX7_judge_12 rfl (fun w3 => ?_)
  refine XE_bipush (v := (-9)) (n := 17) dX7_judge_15 rfl (by decide) ?_
  refine XE_istore_n (i := 2) (n := 18) dX7_judge_17 rfl rfl (Nat.le_of_ble_eq_true rfl) rfl ?_
  refine XE_aload_n (n := 19) dX7_judge_18 rfl rfl rfl ?_
  refine XE_callVi (ni := 0) (As := []) (st2 := fun t4 => []) (n := 22) (b := 0) xc_X7_194 (fun l t ht => met_X7_think l w3 t ht) rfl rfl rfl rfl dX7_judge_19 (Nat.le_of_ble_eq_true rfl) ⟨Nat.zero_le _, Nat.zero_le _⟩ (Nat.le_of_ble_eq_true rfl) (Nat.le_of_ble_eq_true rfl) (fun _ => rfl) rfl (fun t4 => ?_)
  refine XE_aload_n (n := 23) dX7_judge_22 rfl rfl rfl ?_
  refine XE_callVi (ni := 0) (As := []) (st2 := fun t5 => []) (n := 26) (b := 0) xc_X7_243 (fun l t ht => met_X7_wedAll l t4 t ht) rfl rfl rfl rfl dX7_judge_23 (Nat.le_of_ble_eq_true rfl) ⟨Nat.zero_le _, Nat.zero_le _⟩ (Nat.le_of_ble_eq_true rfl) (Nat.le_of_ble_eq_true rfl) (fun _ => rfl) rfl (fun t5 => ?_)
  refine XE_iload_n (n := 27) dX7_judge_26 rfl rfl rfl ?_
  refine XE_iconst (v := 1) (n := 28) dX7_judge_27 rfl (by decide) ?_
  refine XE_isub (n := 29) dX7_judge_28 rfl ?_
  refine XE_topi (fun v6 => ?_)
  refine XE_istore_n (i := 3) (n := 30) dX7_judge_29 rfl rfl (Nat.le_of_ble_eq_true rfl) rfl ?_
  refine XE_ls (x_sub_ok (ls' := [(0, some (.ref 0)), (2, some (.int (-9))), (3, some (.int v6))]) ⟨rfl, rfl, rfl, trivial⟩) ?_
  refine XE_reg (J := 81) (lsJ := fun t18 => [(0, some (.ref 0)), (2, some (.int t18))]) (stJ := fun t18 => []) (hsJ := fun t18 => [t5]) (fun t18 => ?_) (fun hJ20 => f_X7_judge_L30_x B t5 hJ20 6000 ((-9) : Int32) v6)
  refine XE_aload_n (n := 82) dX7_judge_81 rfl rfl rfl ?_
  refine XE_callVi (ni := 0) (As := []) (st2 := fun t19 => []) (n := 85) (b := 0) xc_X7_200 (fun l t ht => met_X7_again l t5 t ht) rfl rfl rfl rfl dX7_judge_82 (Nat.le_of_ble_eq_true rfl) ⟨Nat.zero_le _, Nat.zero_le _⟩ (Nat.le_of_ble_eq_true rfl) (Nat.le_of_ble_eq_true rfl) (fun _ => rfl) rfl (fun t19 => ?_)
  refine XE_iload_n (n := 86) dX7_judge_85 rfl rfl rfl ?_
  exact XE_ireturn rfl dX7_judge_86 rfl (Nat.le_refl _) (Nat.le_refl _)
theorem met_X7_judge (l : Launch) (m0 : Mem) (t : Int32 × Mem) (ht : f_X7_judge m0 = some t) : XMet l yX7_judge cX7_judge 4 (some .int) 5 0 0 [.ref 0] SH_M [m0] SH_M (some (.int t.1), [t.2]) := XMet.of (by decide +kernel) (fun _ => Nat.le_of_ble_eq_true rfl) (fun B => xe_X7_judge B m0) (by rw [ht]; rfl)
/-! X7_clear: EveryTwentyMinutesModel.clear()I in world M at (0,) -/
abbrev M_X7_clear : XM := (RX7, cX7_clear, 2, (some .int), "clear", 1, 0, 0)
def f_X7_clear (m0 : Mem) : Option (Int32 × Mem) :=
  lt (xs m0 0 14 0) fun w1 =>
  lt (w1 0 37) fun v2 =>
  lt (xs w1 0 37 0) fun w3 =>
  some (v2, w3)
set_option maxRecDepth 100000 in
theorem xe_X7_clear (B : XB) (m0 : Mem) : XE B M_X7_clear (XQm B 0 0 SH_M) 0 [(0, some (.ref 0))] [] (0, 0) SH_M [m0] (fun t => some (some (.int t.1), [t.2])) (f_X7_clear m0) := by
  unfold f_X7_clear
  refine XE_aload_n (n := 1) dX7_clear_0 rfl rfl rfl ?_
  refine XE_iconst (v := 0) (n := 2) dX7_clear_1 rfl (by decide) ?_
  refine XE_putf (hs2 := fun w1 => [w1]) (n := 5) xf_X7_76 rfl rfl rfl rfl (Nat.le_of_ble_eq_true rfl) (fun _ => rfl) dX7_clear_2 rfl (fun w1 => ?_)
  refine XE_aload_n (n := 6) dX7_clear_5 rfl rfl rfl ?_
  refine XE_getf (v := w1 0 37) (n := 9) xf_X7_300 rfl rfl rfl dX7_clear_6 rfl ?_
  refine XE_topi (fun v2 => ?_)
  refine XE_istore_n (i := 1) (n := 10) dX7_clear_9 rfl rfl (Nat.le_of_ble_eq_true rfl) rfl ?_
  refine XE_aload_n (n := 11) dX7_clear_10 rfl rfl rfl ?_
  refine XE_iconst (v := 0) (n := 12) dX7_clear_11 rfl (by decide) ?_
  refine XE_putf (hs2 := fun w3 => [w3]) (n := 15) xf_X7_300 rfl rfl rfl rfl (Nat.le_of_ble_eq_true rfl) (fun _ => rfl) dX7_clear_12 rfl (fun w3 => ?_)
  refine XE_iload_n (n := 16) dX7_clear_15 rfl rfl rfl ?_
  exact XE_ireturn rfl dX7_clear_16 rfl (Nat.le_refl _) (Nat.le_refl _)
theorem met_X7_clear (l : Launch) (m0 : Mem) (t : Int32 × Mem) (ht : f_X7_clear m0 = some t) : XMet l yX7_clear cX7_clear 2 (some .int) 1 0 0 [.ref 0] SH_M [m0] SH_M (some (.int t.1), [t.2]) := XMet.of (by decide +kernel) (fun _ => Nat.le_of_ble_eq_true rfl) (fun B => xe_X7_clear B m0) (by rw [ht]; rfl)
/-! X7_drawBelow: EveryTwentyMinutesModel.drawBelow(I)I in world M at (0,) -/
abbrev M_X7_drawBelow : XM := (RX7, cX7_drawBelow, 2, (some .int), "drawBelow", 1, 0, 0)
def f_X7_drawBelow (m0 : Mem) (a1 : Int32) : Option (Int32 × Mem) :=
  lt (xs m0 0 38 (((m0 0 38) * 1103515245) + 12345)) fun w1 =>
  ck (!decide (a1 = 0)) <|
  some (((((w1 0 38) &&& 2147483647) / 65536) - (((w1 0 38) &&& 2147483647) / 65536) / a1 * a1), w1)
set_option maxRecDepth 100000 in
theorem xe_X7_drawBelow (B : XB) (m0 : Mem) (a1 : Int32) : XE B M_X7_drawBelow (XQm B 0 0 SH_M) 0 [(0, some (.ref 0)), (1, some (.int a1))] [] (0, 0) SH_M [m0] (fun t => some (some (.int t.1), [t.2])) (f_X7_drawBelow m0 a1) := by
  unfold f_X7_drawBelow
  refine XE_aload_n (n := 1) dX7_drawBelow_0 rfl rfl rfl ?_
  refine XE_aload_n (n := 2) dX7_drawBelow_1 rfl rfl rfl ?_
  refine XE_getf (v := m0 0 38) (n := 5) xf_X7_317 rfl rfl rfl dX7_drawBelow_2 rfl ?_
  refine XE_ldc_w (n := 8) dX7_drawBelow_5 rfl xk_X7_320 ?_
  refine XE_imul (n := 9) dX7_drawBelow_8 rfl ?_
  refine XE_sipush (v := 12345) (n := 12) dX7_drawBelow_9 rfl (by decide) ?_
  refine XE_iadd (n := 13) dX7_drawBelow_12 rfl ?_
  refine XE_putf (hs2 := fun w1 => [w1]) (n := 16) xf_X7_317 rfl rfl rfl rfl (Nat.le_of_ble_eq_true rfl) (fun _ => rfl) dX7_drawBelow_13 rfl (fun w1 => ?_)
  refine XE_aload_n (n := 17) dX7_drawBelow_16 rfl rfl rfl ?_
  refine XE_getf (v := w1 0 38) (n := 20) xf_X7_317 rfl rfl rfl dX7_drawBelow_17 rfl ?_
  refine XE_ldc_w (n := 23) dX7_drawBelow_20 rfl xk_X7_321 ?_
  refine XE_iand (n := 24) dX7_drawBelow_23 rfl ?_
  refine XE_ldc_w (n := 27) dX7_drawBelow_24 rfl xk_X7_322 ?_
  refine XE_idiv (n := 28) dX7_drawBelow_27 rfl (by decide) ?_
  refine XE_iload_n (n := 29) dX7_drawBelow_28 rfl rfl rfl ?_
  refine XE_irem_ck (n := 30) dX7_drawBelow_29 rfl ?_
  exact XE_ireturn rfl dX7_drawBelow_30 rfl (Nat.le_refl _) (Nat.le_refl _)
theorem met_X7_drawBelow (l : Launch) (m0 : Mem) (a1 : Int32) (t : Int32 × Mem) (ht : f_X7_drawBelow m0 a1 = some t) : XMet l yX7_drawBelow cX7_drawBelow 2 (some .int) 1 0 0 [.ref 0, .int a1] SH_M [m0] SH_M (some (.int t.1), [t.2]) := XMet.of (by decide +kernel) (fun _ => Nat.le_of_ble_eq_true rfl) (fun B => xe_X7_drawBelow B m0 a1) (by rw [ht]; rfl)
/-! X7_lots: EveryTwentyMinutesModel.lots(III)I in world M at (0,) -/
abbrev M_X7_lots : XM := (RX7, cX7_lots, 8, (some .int), "lots", 6, 0, 0)
def f_X7_lots_L55 : Nat → Int32 → Mem → Option (Mem)
  | 0, _, _ => none
  | n + 1, v9, w10 =>
    if (w10 0 0) ≤ v9 then
      some (w10)
    else
      ck (inb v9 7) <|
      if (w10 4 (ix v9)) = 0 then
        (f_X7_drawBelow w10 10).bind fun t13 =>
        ck (inb v9 7) <|
        lt (xs t13.2 2 (ix v9) t13.1) fun w14 =>
        lt (v9 + 1) fun v15 =>
        (f_X7_lots_L55 n) v15 w14
      else
        ck (inb v9 7) <|
        ck (inb v9 7) <|
        lt (xs w10 2 (ix v9) (w10 2 (ix v9))) fun w11 =>
        lt (v9 + 1) fun v12 =>
        (f_X7_lots_L55 n) v12 w11
def f_X7_lots_L46 (a1 : Int32) (a3 : Int32) : Nat → Int32 → Int32 → Mem → Option (Int32 × Mem)
  | 0, _, _, _ => none
  | n + 1, v6, v7, w8 =>
    if a1 ≤ v7 then
      some (v6, w8)
    else
      (f_X7_lots_L55 6000 (0 : Int32) w8).bind fun t18 =>
      (f_X7_lateNow t18).bind fun t19 =>
      lt t19.1 fun v20 =>
      (if a3 = 0 then
         some (v20)
       else
         (f_X7_meetMany t19.2).bind fun t25 =>
         some (t25)).bind fun t27 =>
      lt (v6 + t27) fun v28 =>
      (f_X7_again t19.2).bind fun t29 =>
      lt (v7 + 1) fun v30 =>
      (f_X7_lots_L46 a1 a3 n) v28 v30 t29
def f_X7_lots (m0 : Mem) (a1 : Int32) (a2 : Int32) (a3 : Int32) : Option (Int32 × Mem) :=
  lt (xs m0 0 14 0) fun w1 =>
  (f_X7_wrongNumber a1 1 20).bind fun t2 =>
  (f_X7_wrongBit t2 a3 1).bind fun t3 =>
  if 0 ≤ t3 then
    lt (xs w1 0 38 a2) fun w4 =>
    (f_X7_think w4).bind fun t5 =>
    (f_X7_lots_L46 a1 a3 6000 (0 : Int32) (0 : Int32) t5).bind fun t33 =>
    some (t33.1, t33.2)
  else
    (f_X7_refuse w1 t3).bind fun t35 =>
    some (t35.1, t35.2)
set_option maxRecDepth 100000 in
theorem f_X7_lots_L55_x {α R : Type} (B : XB) {Q : R → State → Prop} {k : α → Option R} {r : (Mem) → Option α} (a1 : Int32) (a3 : Int32) (v6 : Int32) (v7 : Int32) (hE : ∀ t0 : (Mem), XE B M_X7_lots Q 103 [(0, some (.ref 0)), (1, some (.int a1)), (3, some (.int a3)), (5, some (.int v6)), (6, some (.int v7))] [] (0, 0) SH_M [t0] (fun t => (r t).bind k) (some t0)) : ∀ (n : Nat) (v9 : Int32) (w10 : Mem), XE B M_X7_lots Q 55 [(0, some (.ref 0)), (1, some (.int a1)), (3, some (.int a3)), (5, some (.int v6)), (6, some (.int v7)), (7, some (.int v9))] [] (0, 0) SH_M [w10] (fun t => (r t).bind k) (f_X7_lots_L55 n v9 w10) := by
  intro n
  induction n with
  | zero => intros; exact XE_none
  | succ n ih =>
    intro v9 w10
    rw [f_X7_lots_L55]
    refine XE_iload (n := 57) dX7_lots_55 rfl rfl ?_
    refine XE_aload_n (n := 58) dX7_lots_57 rfl rfl rfl ?_
    refine XE_getf (v := w10 0 0) (n := 61) xf_X7_83 rfl rfl rfl dX7_lots_58 rfl ?_
    refine XE_icmp_ge (t := 103) (n := 64) dX7_lots_61 rfl rfl (fun h17 => ?_) (fun h17 => ?_)
    · refine XE_ls (x_sub_ok (ls' := [(0, some (.ref 0)), (1, some (.int a1)), (3, some (.int a3)), (5, some (.int v6)), (6, some (.int v7))]) ⟨rfl, rfl, rfl, rfl, rfl, trivial⟩) ?_
      exact hE (w10)
    · refine XE_aload_n (n := 65) dX7_lots_64 rfl rfl rfl ?_
      refine XE_getr (b := 2) (n := 68) xf_X7_13 rfl rfl dX7_lots_65 rfl ?_
      refine XE_iload (n := 70) dX7_lots_68 rfl rfl ?_
      refine XE_aload_n (n := 71) dX7_lots_70 rfl rfl rfl ?_
      refine XE_getr (b := 4) (n := 74) xf_X7_19 rfl rfl dX7_lots_71 rfl ?_
      refine XE_iload (n := 76) dX7_lots_74 rfl rfl ?_
      refine XE_iald (row := w10 4) (n := 77) rfl rfl dX7_lots_76 rfl ?_
      refine XE_if_ne (t := 89) (n := 80) dX7_lots_77 rfl rfl (fun h16 => ?_) (fun h16 => ?_)
      · refine XE_aload_n (n := 81) dX7_lots_80 rfl rfl rfl ?_
        refine XE_bipush (v := 10) (n := 83) dX7_lots_81 rfl (by decide) ?_
        refine XE_callVi (ni := 1) (As := [.int 10]) (st2 := fun t13 => [.int t13.1, .int v9, .ref 2]) (n := 86) (b := 0) xc_X7_323 (fun l t ht => met_X7_drawBelow l w10 10 t ht) rfl rfl rfl rfl dX7_lots_83 (Nat.le_of_ble_eq_true rfl) ⟨Nat.zero_le _, Nat.zero_le _⟩ (Nat.le_of_ble_eq_true rfl) (Nat.le_of_ble_eq_true rfl) (fun _ => rfl) rfl (fun t13 => ?_)
        refine XE_goto (n := 96) dX7_lots_86 rfl ?_
        refine XE_iast (hs2 := fun w14 => [w14]) (n := 97) rfl rfl rfl (Nat.le_of_ble_eq_true rfl) (fun _ => rfl) dX7_lots_96 rfl (fun w14 => ?_)
        refine XE_iincl (n := 100) dX7_lots_97 rfl rfl (by decide) (Nat.le_of_ble_eq_true rfl) rfl (fun v15 => ?_)
        refine XE_goto (n := 55) dX7_lots_100 rfl ?_
        refine XE_ls (x_sub_ok (ls' := [(0, some (.ref 0)), (1, some (.int a1)), (3, some (.int a3)), (5, some (.int v6)), (6, some (.int v7)), (7, some (.int v15))]) ⟨rfl, rfl, rfl, rfl, rfl, rfl, trivial⟩) ?_
        exact ih v15 w14
      · refine XE_aload_n (n := 90) dX7_lots_89 rfl rfl rfl ?_
        refine XE_getr (b := 2) (n := 93) xf_X7_13 rfl rfl dX7_lots_90 rfl ?_
        refine XE_iload (n := 95) dX7_lots_93 rfl rfl ?_
        refine XE_iald (row := w10 2) (n := 96) rfl rfl dX7_lots_95 rfl ?_
        refine XE_iast (hs2 := fun w11 => [w11]) (n := 97) rfl rfl rfl (Nat.le_of_ble_eq_true rfl) (fun _ => rfl) dX7_lots_96 rfl (fun w11 => ?_)
        refine XE_iincl (n := 100) dX7_lots_97 rfl rfl (by decide) (Nat.le_of_ble_eq_true rfl) rfl (fun v12 => ?_)
        refine XE_goto (n := 55) dX7_lots_100 rfl ?_
        refine XE_ls (x_sub_ok (ls' := [(0, some (.ref 0)), (1, some (.int a1)), (3, some (.int a3)), (5, some (.int v6)), (6, some (.int v7)), (7, some (.int v12))]) ⟨rfl, rfl, rfl, rfl, rfl, rfl, trivial⟩) ?_
        exact ih v12 w11
set_option maxRecDepth 100000 in
theorem f_X7_lots_L46_x {α R : Type} (B : XB) {Q : R → State → Prop} {k : α → Option R} {r : (Int32 × Mem) → Option α} (a1 : Int32) (a3 : Int32) (hE : ∀ t0 : (Int32 × Mem), XE B M_X7_lots Q 137 [(5, some (.int t0.1))] [] (0, 0) SH_M [t0.2] (fun t => (r t).bind k) (some t0)) : ∀ (n : Nat) (v6 : Int32) (v7 : Int32) (w8 : Mem), XE B M_X7_lots Q 46 [(0, some (.ref 0)), (1, some (.int a1)), (3, some (.int a3)), (5, some (.int v6)), (6, some (.int v7))] [] (0, 0) SH_M [w8] (fun t => (r t).bind k) (f_X7_lots_L46 a1 a3 n v6 v7 w8) := by
  intro n
  induction n with
  | zero => intros; exact XE_none
  | succ n ih =>
    intro v6 v7 w8
    rw [f_X7_lots_L46]
    refine XE_iload (n := 48) dX7_lots_46 rfl rfl ?_
    refine XE_iload_n (n := 49) dX7_lots_48 rfl rfl rfl ?_
    refine XE_icmp_ge (t := 137) (n := 52) dX7_lots_49 rfl rfl (fun h32 => ?_) (fun h32 => ?_)
    · refine XE_ls (x_sub_ok (ls' := [(5, some (.int v6))]) ⟨rfl, trivial⟩) ?_
      exact hE (v6, w8)
    · refine XE_iconst (v := 0) (n := 53) dX7_lots_52 rfl (by decide) ?_
      refine XE_istore (i := 7) (n := 55) dX7_lots_53 rfl (Nat.le_of_ble_eq_true rfl) rfl ?_
      refine XE_ls (x_sub_ok (ls' := [(0, some (.ref 0)), (1, some (.int a1)), (3, some (.int a3)), (5, some (.int v6)), (6, some (.int v7)), (7, some (.int 0))]) ⟨rfl, rfl, rfl, rfl, rfl, rfl, trivial⟩) ?_
      refine XE_reg (J := 103) (lsJ := fun t18 => [(0, some (.ref 0)), (1, some (.int a1)), (3, some (.int a3)), (5, some (.int v6)), (6, some (.int v7))]) (stJ := fun t18 => []) (hsJ := fun t18 => [t18]) (fun t18 => ?_) (fun hJ31 => f_X7_lots_L55_x B a1 a3 v6 v7 hJ31 6000 (0 : Int32) w8)
      refine XE_aload_n (n := 104) dX7_lots_103 rfl rfl rfl ?_
      refine XE_callVi (ni := 0) (As := []) (st2 := fun t19 => [.int t19.1]) (n := 107) (b := 0) xc_X7_274 (fun l t ht => met_X7_lateNow l t18 t ht) rfl rfl rfl rfl dX7_lots_104 (Nat.le_of_ble_eq_true rfl) ⟨Nat.zero_le _, Nat.zero_le _⟩ (Nat.le_of_ble_eq_true rfl) (Nat.le_of_ble_eq_true rfl) (fun _ => rfl) rfl (fun t19 => ?_)
      refine XE_topi (fun v20 => ?_)
      refine XE_istore (i := 7) (n := 109) dX7_lots_107 rfl (Nat.le_of_ble_eq_true rfl) rfl ?_
      refine XE_iload (n := 111) dX7_lots_109 rfl rfl ?_
      refine XE_iload_n (n := 112) dX7_lots_111 rfl rfl rfl ?_
      refine XE_reg (J := 124) (lsJ := fun t27 => [(0, some (.ref 0)), (1, some (.int a1)), (3, some (.int a3)), (6, some (.int v7))]) (stJ := fun t27 => [.int t27, .int v6]) (hsJ := fun t27 => [t19.2]) (fun t27 => ?_) (fun hJ24 => ?_)
      · refine XE_iadd (n := 125) dX7_lots_124 rfl ?_
        refine XE_topi (fun v28 => ?_)
        refine XE_istore (i := 5) (n := 127) dX7_lots_125 rfl (Nat.le_of_ble_eq_true rfl) rfl ?_
        refine XE_aload_n (n := 128) dX7_lots_127 rfl rfl rfl ?_
        refine XE_callVi (ni := 0) (As := []) (st2 := fun t29 => []) (n := 131) (b := 0) xc_X7_200 (fun l t ht => met_X7_again l t19.2 t ht) rfl rfl rfl rfl dX7_lots_128 (Nat.le_of_ble_eq_true rfl) ⟨Nat.zero_le _, Nat.zero_le _⟩ (Nat.le_of_ble_eq_true rfl) (Nat.le_of_ble_eq_true rfl) (fun _ => rfl) rfl (fun t29 => ?_)
        refine XE_iincl (n := 134) dX7_lots_131 rfl rfl (by decide) (Nat.le_of_ble_eq_true rfl) rfl (fun v30 => ?_)
        refine XE_goto (n := 46) dX7_lots_134 rfl ?_
        refine XE_ls (x_sub_ok (ls' := [(0, some (.ref 0)), (1, some (.int a1)), (3, some (.int a3)), (5, some (.int v28)), (6, some (.int v30))]) ⟨rfl, rfl, rfl, rfl, rfl, trivial⟩) ?_
        exact ih v28 v30 t29
      · refine XE_if_ne (t := 120) (n := 115) dX7_lots_112 rfl rfl (fun h26 => ?_) (fun h26 => ?_)
        · refine XE_iload (n := 117) dX7_lots_115 rfl rfl ?_
          refine XE_goto (n := 124) dX7_lots_117 rfl ?_
          refine XE_ls (x_sub_ok (ls' := [(0, some (.ref 0)), (1, some (.int a1)), (3, some (.int a3)), (6, some (.int v7))]) ⟨rfl, rfl, rfl, rfl, trivial⟩) ?_
          exact hJ24 (v20)
        · refine XE_aload_n (n := 121) dX7_lots_120 rfl rfl rfl ?_
          refine XE_callVi (ni := 0) (As := []) (st2 := fun t25 => [.int t25, .int v6]) (n := 124) (b := 0) xc_X7_253 (fun l t ht => met_X7_meetMany l t19.2 t ht) rfl rfl rfl rfl dX7_lots_121 (Nat.le_of_ble_eq_true rfl) ⟨Nat.zero_le _, Nat.zero_le _⟩ (Nat.le_of_ble_eq_true rfl) (Nat.le_of_ble_eq_true rfl) (fun _ => rfl) rfl (fun t25 => ?_)
          refine XE_ls (x_sub_ok (ls' := [(0, some (.ref 0)), (1, some (.int a1)), (3, some (.int a3)), (6, some (.int v7))]) ⟨rfl, rfl, rfl, rfl, trivial⟩) ?_
          exact hJ24 (t25)
set_option maxRecDepth 100000 in
theorem xe_X7_lots (B : XB) (m0 : Mem) (a1 : Int32) (a2 : Int32) (a3 : Int32) : XE B M_X7_lots (XQm B 0 0 SH_M) 0 [(0, some (.ref 0)), (1, some (.int a1)), (2, some (.int a2)), (3, some (.int a3))] [] (0, 0) SH_M [m0] (fun t => some (some (.int t.1), [t.2])) (f_X7_lots m0 a1 a2 a3) := by
  unfold f_X7_lots
  refine XE_aload_n (n := 1) dX7_lots_0 rfl rfl rfl ?_
  refine XE_iconst (v := 0) (n := 2) dX7_lots_1 rfl (by decide) ?_
  refine XE_putf (hs2 := fun w1 => [w1]) (n := 5) xf_X7_76 rfl rfl rfl rfl (Nat.le_of_ble_eq_true rfl) (fun _ => rfl) dX7_lots_2 rfl (fun w1 => ?_)
  refine XE_iload_n (n := 6) dX7_lots_5 rfl rfl rfl ?_
  refine XE_iconst (v := 1) (n := 7) dX7_lots_6 rfl (by decide) ?_
  refine XE_bipush (v := 20) (n := 9) dX7_lots_7 rfl (by decide) ?_
  refine XE_callS (ni := 3) (As := [.int a1, .int 1, .int 20]) (π := []) (co := [0]) (cv := [w1]) (nn := 1) (hs2 := fun t2 => [w1]) (st2 := fun t2 => [.int t2]) (n := 12) xc_X7_233 (fun l t ht => met_X7_wrongNumber l a1 1 20 t ht) rfl rfl rfl dX7_lots_9 (Nat.le_of_ble_eq_true rfl) ⟨Nat.zero_le _, Nat.zero_le _⟩ (Nat.le_of_ble_eq_true rfl) (Nat.le_of_ble_eq_true rfl) ok_40 rfl rfl rfl (fun _ => rfl) (fun _ => rfl) (fun _ => rfl) rfl (fun _ => rfl) rfl (fun t2 => ?_)
  refine XE_iload_n (n := 13) dX7_lots_12 rfl rfl rfl ?_
  refine XE_iconst (v := 1) (n := 14) dX7_lots_13 rfl (by decide) ?_
  refine XE_callS (ni := 3) (As := [.int t2, .int a3, .int 1]) (π := []) (co := [0]) (cv := [w1]) (nn := 1) (hs2 := fun t3 => [w1]) (st2 := fun t3 => [.int t3]) (n := 17) xc_X7_240 (fun l t ht => met_X7_wrongBit l t2 a3 1 t ht) rfl rfl rfl dX7_lots_14 (Nat.le_of_ble_eq_true rfl) ⟨Nat.zero_le _, Nat.zero_le _⟩ (Nat.le_of_ble_eq_true rfl) (Nat.le_of_ble_eq_true rfl) ok_40 rfl rfl rfl (fun _ => rfl) (fun _ => rfl) (fun _ => rfl) rfl (fun _ => rfl) rfl (fun t3 => ?_)
  refine XE_istore (i := 4) (n := 19) dX7_lots_17 rfl (Nat.le_of_ble_eq_true rfl) rfl ?_
  refine XE_iload (n := 21) dX7_lots_19 rfl rfl ?_
  refine XE_if_ge (t := 31) (n := 24) dX7_lots_21 rfl rfl (fun h36 => ?_) (fun h36 => ?_)
  · refine XE_aload_n (n := 32) dX7_lots_31 rfl rfl rfl ?_
    refine XE_iload_n (n := 33) dX7_lots_32 rfl rfl rfl ?_
    refine XE_putf (hs2 := fun w4 => [w4]) (n := 36) xf_X7_317 rfl rfl rfl rfl (Nat.le_of_ble_eq_true rfl) (fun _ => rfl) dX7_lots_33 rfl (fun w4 => ?_)
    refine XE_iconst (v := 0) (n := 37) dX7_lots_36 rfl (by decide) ?_
    refine XE_istore (i := 5) (n := 39) dX7_lots_37 rfl (Nat.le_of_ble_eq_true rfl) rfl ?_
    refine XE_aload_n (n := 40) dX7_lots_39 rfl rfl rfl ?_
    refine XE_callVi (ni := 0) (As := []) (st2 := fun t5 => []) (n := 43) (b := 0) xc_X7_194 (fun l t ht => met_X7_think l w4 t ht) rfl rfl rfl rfl dX7_lots_40 (Nat.le_of_ble_eq_true rfl) ⟨Nat.zero_le _, Nat.zero_le _⟩ (Nat.le_of_ble_eq_true rfl) (Nat.le_of_ble_eq_true rfl) (fun _ => rfl) rfl (fun t5 => ?_)
    refine XE_iconst (v := 0) (n := 44) dX7_lots_43 rfl (by decide) ?_
    refine XE_istore (i := 6) (n := 46) dX7_lots_44 rfl (Nat.le_of_ble_eq_true rfl) rfl ?_
    refine XE_ls (x_sub_ok (ls' := [(0, some (.ref 0)), (1, some (.int a1)), (3, some (.int a3)), (5, some (.int 0)), (6, some (.int 0))]) ⟨rfl, rfl, rfl, rfl, rfl, trivial⟩) ?_
    refine XE_reg (J := 137) (lsJ := fun t33 => [(5, some (.int t33.1))]) (stJ := fun t33 => []) (hsJ := fun t33 => [t33.2]) (fun t33 => ?_) (fun hJ34 => f_X7_lots_L46_x B a1 a3 hJ34 6000 (0 : Int32) (0 : Int32) t5)
    refine XE_iload (n := 139) dX7_lots_137 rfl rfl ?_
    exact XE_ireturn rfl dX7_lots_139 rfl (Nat.le_refl _) (Nat.le_refl _)
  · refine XE_aload_n (n := 25) dX7_lots_24 rfl rfl rfl ?_
    refine XE_iload (n := 27) dX7_lots_25 rfl rfl ?_
    refine XE_callVi (ni := 1) (As := [.int t3]) (st2 := fun t35 => [.int t35.1]) (n := 30) (b := 0) xc_X7_138 (fun l t ht => met_X7_refuse l w1 t3 t ht) rfl rfl rfl rfl dX7_lots_27 (Nat.le_of_ble_eq_true rfl) ⟨Nat.zero_le _, Nat.zero_le _⟩ (Nat.le_of_ble_eq_true rfl) (Nat.le_of_ble_eq_true rfl) (fun _ => rfl) rfl (fun t35 => ?_)
    exact XE_ireturn rfl dX7_lots_30 rfl (Nat.le_refl _) (Nat.le_refl _)
theorem met_X7_lots (l : Launch) (m0 : Mem) (a1 : Int32) (a2 : Int32) (a3 : Int32) (t : Int32 × Mem) (ht : f_X7_lots m0 a1 a2 a3 = some t) : XMet l yX7_lots cX7_lots 8 (some .int) 6 0 0 [.ref 0, .int a1, .int a2, .int a3] SH_M [m0] SH_M (some (.int t.1), [t.2]) := XMet.of (by decide +kernel) (fun _ => Nat.le_of_ble_eq_true rfl) (fun B => xe_X7_lots B m0 a1 a2 a3) (by rw [ht]; rfl)
/-! X7_count: EveryTwentyMinutesModel.count(I)I in world M at (0,) -/
abbrev M_X7_count : XM := (RX7, cX7_count, 2, (some .int), "count", 2, 0, 0)
def f_X7_count (m0 : Mem) (a1 : Int32) : Option (Int32 × Mem) :=
  lt (xs m0 0 14 0) fun w1 =>
  if a1 = 0 then
    some ((w1 0 0), w1)
  else
    if a1 = 1 then
      some ((w1 0 9), w1)
    else
      if a1 = 2 then
        (f_X7_unwed w1).bind fun t5 =>
        some ((((1 <<< ((w1 0 0) &&& 31)) - 1) - t5), w1)
      else
        if a1 = 3 then
          some ((w1 0 10), w1)
        else
          if a1 = 4 then
            some ((w1 0 12), w1)
          else
            if a1 = 5 then
              some ((w1 0 13), w1)
            else
              if a1 = 6 then
                some ((w1 0 17), w1)
              else
                if a1 = 7 then
                  some ((w1 0 37), w1)
                else
                  if a1 = 8 then
                    some ((w1 0 32), w1)
                  else
                    (f_X7_in ((a1 : Int32).toInt64) 11 16).bind fun t12 =>
                    if t12 = 0 then
                      some (((-9) : Int32), w1)
                    else
                      ck (inb (a1 - 10) 7) <|
                      some ((w1 10 (ix (a1 - 10))), w1)
set_option maxRecDepth 100000 in
theorem xe_X7_count (B : XB) (m0 : Mem) (a1 : Int32) : XE B M_X7_count (XQm B 0 0 SH_M) 0 [(0, some (.ref 0)), (1, some (.int a1))] [] (0, 0) SH_M [m0] (fun t => some (some (.int t.1), [t.2])) (f_X7_count m0 a1) := by
  unfold f_X7_count
  refine XE_aload_n (n := 1) dX7_count_0 rfl rfl rfl ?_
  refine XE_iconst (v := 0) (n := 2) dX7_count_1 rfl (by decide) ?_
  refine XE_putf (hs2 := fun w1 => [w1]) (n := 5) xf_X7_76 rfl rfl rfl rfl (Nat.le_of_ble_eq_true rfl) (fun _ => rfl) dX7_count_2 rfl (fun w1 => ?_)
  refine XE_iload_n (n := 6) dX7_count_5 rfl rfl rfl ?_
  refine XE_tsw (c := 0) (t := 56) (off := 50) dX7_count_6 (by decide) (by decide) rfl rfl ?_ (fun h2 => ?_)
  · refine XE_aload_n (n := 57) dX7_count_56 rfl rfl rfl ?_
    refine XE_getf (v := w1 0 0) (n := 60) xf_X7_83 rfl rfl rfl dX7_count_57 rfl ?_
    exact XE_ireturn rfl dX7_count_60 rfl (Nat.le_refl _) (Nat.le_refl _)
  refine XE_tsw (c := 1) (t := 61) (off := 55) dX7_count_6 (by decide) (by decide) rfl rfl ?_ (fun h3 => ?_)
  · refine XE_aload_n (n := 62) dX7_count_61 rfl rfl rfl ?_
    refine XE_getf (v := w1 0 9) (n := 65) xf_X7_100 rfl rfl rfl dX7_count_62 rfl ?_
    exact XE_ireturn rfl dX7_count_65 rfl (Nat.le_refl _) (Nat.le_refl _)
  refine XE_tsw (c := 2) (t := 66) (off := 60) dX7_count_6 (by decide) (by decide) rfl rfl ?_ (fun h4 => ?_)
  · refine XE_iconst (v := 1) (n := 67) dX7_count_66 rfl (by decide) ?_
    refine XE_aload_n (n := 68) dX7_count_67 rfl rfl rfl ?_
    refine XE_getf (v := w1 0 0) (n := 71) xf_X7_83 rfl rfl rfl dX7_count_68 rfl ?_
    refine XE_ishl (n := 72) dX7_count_71 rfl ?_
    refine XE_iconst (v := 1) (n := 73) dX7_count_72 rfl (by decide) ?_
    refine XE_isub (n := 74) dX7_count_73 rfl ?_
    refine XE_aload_n (n := 75) dX7_count_74 rfl rfl rfl ?_
    refine XE_callVi (ni := 0) (As := []) (st2 := fun t5 => [.int t5, .int ((1 <<< ((w1 0 0) &&& 31)) - 1)]) (n := 78) (b := 0) xc_X7_314 (fun l t ht => met_X7_unwed l w1 t ht) rfl rfl rfl rfl dX7_count_75 (Nat.le_of_ble_eq_true rfl) ⟨Nat.zero_le _, Nat.zero_le _⟩ (Nat.le_of_ble_eq_true rfl) (Nat.le_of_ble_eq_true rfl) (fun _ => rfl) rfl (fun t5 => ?_)
    refine XE_isub (n := 79) dX7_count_78 rfl ?_
    exact XE_ireturn rfl dX7_count_79 rfl (Nat.le_refl _) (Nat.le_refl _)
  refine XE_tsw (c := 3) (t := 80) (off := 74) dX7_count_6 (by decide) (by decide) rfl rfl ?_ (fun h6 => ?_)
  · refine XE_aload_n (n := 81) dX7_count_80 rfl rfl rfl ?_
    refine XE_getf (v := w1 0 10) (n := 84) xf_X7_80 rfl rfl rfl dX7_count_81 rfl ?_
    exact XE_ireturn rfl dX7_count_84 rfl (Nat.le_refl _) (Nat.le_refl _)
  refine XE_tsw (c := 4) (t := 85) (off := 79) dX7_count_6 (by decide) (by decide) rfl rfl ?_ (fun h7 => ?_)
  · refine XE_aload_n (n := 86) dX7_count_85 rfl rfl rfl ?_
    refine XE_getf (v := w1 0 12) (n := 89) xf_X7_94 rfl rfl rfl dX7_count_86 rfl ?_
    exact XE_ireturn rfl dX7_count_89 rfl (Nat.le_refl _) (Nat.le_refl _)
  refine XE_tsw (c := 5) (t := 90) (off := 84) dX7_count_6 (by decide) (by decide) rfl rfl ?_ (fun h8 => ?_)
  · refine XE_aload_n (n := 91) dX7_count_90 rfl rfl rfl ?_
    refine XE_getf (v := w1 0 13) (n := 94) xf_X7_114 rfl rfl rfl dX7_count_91 rfl ?_
    exact XE_ireturn rfl dX7_count_94 rfl (Nat.le_refl _) (Nat.le_refl _)
  refine XE_tsw (c := 6) (t := 95) (off := 89) dX7_count_6 (by decide) (by decide) rfl rfl ?_ (fun h9 => ?_)
  · refine XE_aload_n (n := 96) dX7_count_95 rfl rfl rfl ?_
    refine XE_getf (v := w1 0 17) (n := 99) xf_X7_141 rfl rfl rfl dX7_count_96 rfl ?_
    exact XE_ireturn rfl dX7_count_99 rfl (Nat.le_refl _) (Nat.le_refl _)
  refine XE_tsw (c := 7) (t := 100) (off := 94) dX7_count_6 (by decide) (by decide) rfl rfl ?_ (fun h10 => ?_)
  · refine XE_aload_n (n := 101) dX7_count_100 rfl rfl rfl ?_
    refine XE_getf (v := w1 0 37) (n := 104) xf_X7_300 rfl rfl rfl dX7_count_101 rfl ?_
    exact XE_ireturn rfl dX7_count_104 rfl (Nat.le_refl _) (Nat.le_refl _)
  refine XE_tsw (c := 8) (t := 105) (off := 99) dX7_count_6 (by decide) (by decide) rfl rfl ?_ (fun h11 => ?_)
  · refine XE_aload_n (n := 106) dX7_count_105 rfl rfl rfl ?_
    refine XE_getf (v := w1 0 32) (n := 109) xf_X7_203 rfl rfl rfl dX7_count_106 rfl ?_
    exact XE_ireturn rfl dX7_count_109 rfl (Nat.le_refl _) (Nat.le_refl _)
  refine XE_tswd (t := 110) dX7_count_6 (by have q0 := x_ne h2 (z := 0) (by decide); have q1 := x_ne h3 (z := 1) (by decide); have q2 := x_ne h4 (z := 2) (by decide); have q3 := x_ne h6 (z := 3) (by decide); have q4 := x_ne h7 (z := 4) (by decide); have q5 := x_ne h8 (z := 5) (by decide); have q6 := x_ne h9 (z := 6) (by decide); have q7 := x_ne h10 (z := 7) (by decide); have q8 := x_ne h11 (z := 8) (by decide); omega) rfl ?_
  refine XE_iload_n (n := 111) dX7_count_110 rfl rfl rfl ?_
  refine XE_i2l (n := 112) dX7_count_111 rfl ?_
  refine XE_ldc2 (n := 115) dX7_count_112 rfl xk_X7_326 ?_
  refine XE_ldc2 (n := 118) dX7_count_115 rfl xk_X7_328 ?_
  refine XE_callS (ni := 3) (As := [.long ((a1 : Int32).toInt64), .long 11, .long 16]) (π := []) (co := [0]) (cv := [w1]) (nn := 1) (hs2 := fun t12 => [w1]) (st2 := fun t12 => [.int t12]) (n := 121) xc_X7_86 (fun l t ht => met_X7_in l ((a1 : Int32).toInt64) 11 16 t ht) rfl rfl rfl dX7_count_118 (Nat.le_of_ble_eq_true rfl) ⟨Nat.zero_le _, Nat.zero_le _⟩ (Nat.le_of_ble_eq_true rfl) (Nat.le_of_ble_eq_true rfl) ok_40 rfl rfl rfl (fun _ => rfl) (fun _ => rfl) (fun _ => rfl) rfl (fun _ => rfl) rfl (fun t12 => ?_)
  refine XE_if_eq (t := 136) (n := 124) dX7_count_121 rfl rfl (fun h13 => ?_) (fun h13 => ?_)
  · refine XE_bipush (v := (-9)) (n := 138) dX7_count_136 rfl (by decide) ?_
    exact XE_ireturn rfl dX7_count_138 rfl (Nat.le_refl _) (Nat.le_refl _)
  · refine XE_aload_n (n := 125) dX7_count_124 rfl rfl rfl ?_
    refine XE_getr (b := 10) (n := 128) xf_X7_37 rfl rfl dX7_count_125 rfl ?_
    refine XE_iload_n (n := 129) dX7_count_128 rfl rfl rfl ?_
    refine XE_bipush (v := 10) (n := 131) dX7_count_129 rfl (by decide) ?_
    refine XE_isub (n := 132) dX7_count_131 rfl ?_
    refine XE_iald (row := w1 10) (n := 133) rfl rfl dX7_count_132 rfl ?_
    refine XE_goto (n := 138) dX7_count_133 rfl ?_
    exact XE_ireturn rfl dX7_count_138 rfl (Nat.le_refl _) (Nat.le_refl _)
theorem met_X7_count (l : Launch) (m0 : Mem) (a1 : Int32) (t : Int32 × Mem) (ht : f_X7_count m0 a1 = some t) : XMet l yX7_count cX7_count 2 (some .int) 2 0 0 [.ref 0, .int a1] SH_M [m0] SH_M (some (.int t.1), [t.2]) := XMet.of (by decide +kernel) (fun _ => Nat.le_of_ble_eq_true rfl) (fun B => xe_X7_count B m0 a1) (by rw [ht]; rfl)
