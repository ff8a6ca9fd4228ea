/-! X7_isRow: EveryTwentyMinutesModel.isRow()Z in world M at (0,) -/
abbrev M_X7_isRow : XM := (RX7, cX7_isRow, 3, (some .boolean), "isRow", 5, 0, 0)
def f_X7_isRow_L23 (t1 : (Mem)) : Nat → Int32 → Int32 → Option (Int32)
  | 0, _, _ => none
  | n + 1, v5, v6 =>
    if (t1 0 37) ≤ v6 then
      some (v5)
    else
      if v5 = 0 then
        some (v5)
      else
        ck (inb v6 12) <|
        ck (inb v6 7) <|
        if (t1 22 (ix v6)) = (t1 6 (ix v6)) then
          lt (v6 + 1) fun v8 =>
          (f_X7_isRow_L23 t1 n) (1 : Int32) v8
        else
          lt (v6 + 1) fun v7 =>
          (f_X7_isRow_L23 t1 n) (0 : Int32) v7
def f_X7_isRow (m0 : Mem) : Option (Int32 × Mem) :=
  (f_X7_wedAll m0).bind fun t1 =>
  lt (if (t1 0 0) < (t1 0 37) then
      ((0 : Int32))
    else
      ((1 : Int32))) fun t4 =>
  (f_X7_isRow_L23 t1 6000 t4 (0 : Int32)).bind fun t12 =>
  (f_X7_again t1).bind fun t13 =>
  ck (isb t12) <|
  some (t12, t13)
set_option maxRecDepth 100000 in
theorem f_X7_isRow_L23_x {α R : Type} (B : XB) {Q : R → State → Prop} {k : α → Option R} {r : (Int32) → Option α} (t1 : (Mem)) (hE : ∀ t0 : (Int32), XE B M_X7_isRow Q 62 [(0, some (.ref 0)), (1, some (.int t0))] [] (0, 0) SH_M [t1] (fun t => (r t).bind k) (some t0)) : ∀ (n : Nat) (v5 : Int32) (v6 : Int32), XE B M_X7_isRow Q 23 [(0, some (.ref 0)), (1, some (.int v5)), (2, some (.int v6))] [] (0, 0) SH_M [t1] (fun t => (r t).bind k) (f_X7_isRow_L23 t1 n v5 v6) := by
  intro n
  induction n with
  | zero => intros; exact XE_none
  | succ n ih =>
    intro v5 v6
    rw [f_X7_isRow_L23]
    refine XE_iload_n (n := 24) dX7_isRow_23 rfl rfl rfl ?_
    refine XE_aload_n (n := 25) dX7_isRow_24 rfl rfl rfl ?_
    refine XE_getf (v := t1 0 37) (n := 28) xf_X7_300 rfl rfl rfl dX7_isRow_25 rfl ?_
    refine XE_icmp_ge (t := 62) (n := 31) dX7_isRow_28 rfl rfl (fun h11 => ?_) (fun h11 => ?_)
    · refine XE_ls (x_sub_ok (ls' := [(0, some (.ref 0)), (1, some (.int v5))]) ⟨rfl, rfl, trivial⟩) ?_
      exact hE (v5)
    · refine XE_iload_n (n := 32) dX7_isRow_31 rfl rfl rfl ?_
      refine XE_if_eq (t := 62) (n := 35) dX7_isRow_32 rfl rfl (fun h10 => ?_) (fun h10 => ?_)
      · refine XE_ls (x_sub_ok (ls' := [(0, some (.ref 0)), (1, some (.int v5))]) ⟨rfl, rfl, trivial⟩) ?_
        exact hE (v5)
      · refine XE_aload_n (n := 36) dX7_isRow_35 rfl rfl rfl ?_
        refine XE_getr (b := 22) (n := 39) xf_X7_73 rfl rfl dX7_isRow_36 rfl ?_
        refine XE_iload_n (n := 40) dX7_isRow_39 rfl rfl rfl ?_
        refine XE_iald (row := t1 22) (n := 41) rfl rfl dX7_isRow_40 rfl ?_
        refine XE_aload_n (n := 42) dX7_isRow_41 rfl rfl rfl ?_
        refine XE_getr (b := 6) (n := 45) xf_X7_25 rfl rfl dX7_isRow_42 rfl ?_
        refine XE_iload_n (n := 46) dX7_isRow_45 rfl rfl rfl ?_
        refine XE_iald (row := t1 6) (n := 47) rfl rfl dX7_isRow_46 rfl ?_
        refine XE_icmp_ne (t := 54) (n := 50) dX7_isRow_47 rfl rfl (fun h9 => ?_) (fun h9 => ?_)
        · refine XE_iconst (v := 1) (n := 51) dX7_isRow_50 rfl (by decide) ?_
          refine XE_goto (n := 55) dX7_isRow_51 rfl ?_
          refine XE_istore_n (i := 1) (n := 56) dX7_isRow_55 rfl rfl (Nat.le_of_ble_eq_true rfl) rfl ?_
          refine XE_iincl (n := 59) dX7_isRow_56 rfl rfl (by decide) (Nat.le_of_ble_eq_true rfl) rfl (fun v8 => ?_)
          refine XE_goto (n := 23) dX7_isRow_59 rfl ?_
          refine XE_ls (x_sub_ok (ls' := [(0, some (.ref 0)), (1, some (.int 1)), (2, some (.int v8))]) ⟨rfl, rfl, rfl, trivial⟩) ?_
          exact ih (1 : Int32) v8
        · refine XE_iconst (v := 0) (n := 55) dX7_isRow_54 rfl (by decide) ?_
          refine XE_istore_n (i := 1) (n := 56) dX7_isRow_55 rfl rfl (Nat.le_of_ble_eq_true rfl) rfl ?_
          refine XE_iincl (n := 59) dX7_isRow_56 rfl rfl (by decide) (Nat.le_of_ble_eq_true rfl) rfl (fun v7 => ?_)
          refine XE_goto (n := 23) dX7_isRow_59 rfl ?_
          refine XE_ls (x_sub_ok (ls' := [(0, some (.ref 0)), (1, some (.int 0)), (2, some (.int v7))]) ⟨rfl, rfl, rfl, trivial⟩) ?_
          exact ih (0 : Int32) v7
set_option maxRecDepth 100000 in
theorem xe_X7_isRow (B : XB) (m0 : Mem) : XE B M_X7_isRow (XQm B 0 0 SH_M) 0 [(0, some (.ref 0))] [] (0, 0) SH_M [m0] (fun t => some (some (.int t.1), [t.2])) (f_X7_isRow m0) := by
  unfold f_X7_isRow
  refine XE_aload_n (n := 1) dX7_isRow_0 rfl rfl rfl ?_
  refine XE_callVi (ni := 0) (As := []) (st2 := fun t1 => []) (n := 4) (b := 0) xc_X7_243 (fun l t ht => met_X7_wedAll l m0 t ht) rfl rfl rfl rfl dX7_isRow_1 (Nat.le_of_ble_eq_true rfl) ⟨Nat.zero_le _, Nat.zero_le _⟩ (Nat.le_of_ble_eq_true rfl) (Nat.le_of_ble_eq_true rfl) (fun _ => rfl) rfl (fun t1 => ?_)
  refine XE_aload_n (n := 5) dX7_isRow_4 rfl rfl rfl ?_
  refine XE_getf (v := t1 0 37) (n := 8) xf_X7_300 rfl rfl rfl dX7_isRow_5 rfl ?_
  refine XE_aload_n (n := 9) dX7_isRow_8 rfl rfl rfl ?_
  refine XE_getf (v := t1 0 0) (n := 12) xf_X7_83 rfl rfl rfl dX7_isRow_9 rfl ?_
  refine XE_regv (J := 20) (lsJ := fun t4 => [(0, some (.ref 0))]) (stJ := fun t4 => [.int t4]) (hsJ := fun t4 => [t1]) (fun t4 => ?_) (fun hJ2 => ?_)
  · refine XE_istore_n (i := 1) (n := 21) dX7_isRow_20 rfl rfl (Nat.le_of_ble_eq_true rfl) rfl ?_
    refine XE_iconst (v := 0) (n := 22) dX7_isRow_21 rfl (by decide) ?_
    refine XE_istore_n (i := 2) (n := 23) dX7_isRow_22 rfl rfl (Nat.le_of_ble_eq_true rfl) rfl ?_
    refine XE_ls (x_sub_ok (ls' := [(0, some (.ref 0)), (1, some (.int t4)), (2, some (.int 0))]) ⟨rfl, rfl, rfl, trivial⟩) ?_
    refine XE_reg (J := 62) (lsJ := fun t12 => [(0, some (.ref 0)), (1, some (.int t12))]) (stJ := fun t12 => []) (hsJ := fun t12 => [t1]) (fun t12 => ?_) (fun hJ15 => f_X7_isRow_L23_x B t1 hJ15 6000 t4 (0 : Int32))
    refine XE_aload_n (n := 63) dX7_isRow_62 rfl rfl rfl ?_
    refine XE_callVi (ni := 0) (As := []) (st2 := fun t13 => []) (n := 66) (b := 0) xc_X7_200 (fun l t ht => met_X7_again l t1 t ht) rfl rfl rfl rfl dX7_isRow_63 (Nat.le_of_ble_eq_true rfl) ⟨Nat.zero_le _, Nat.zero_le _⟩ (Nat.le_of_ble_eq_true rfl) (Nat.le_of_ble_eq_true rfl) (fun _ => rfl) rfl (fun t13 => ?_)
    refine XE_iload_n (n := 67) dX7_isRow_66 rfl rfl rfl ?_
    refine XE_ck (fun h14 => ?_)
    exact XE_zreturn h14 rfl dX7_isRow_67 rfl (Nat.le_refl _) (Nat.le_refl _)
  · refine XE_ltif ?_
    refine XE_icmp_gt (t := 19) (n := 15) dX7_isRow_12 rfl rfl (fun h3 => ?_) (fun h3 => ?_)
    · refine XE_iconst (v := 0) (n := 20) dX7_isRow_19 rfl (by decide) ?_
      refine XE_ls (x_sub_ok (ls' := [(0, some (.ref 0))]) ⟨rfl, trivial⟩) ?_
      exact hJ2 ((0 : Int32))
    · refine XE_iconst (v := 1) (n := 16) dX7_isRow_15 rfl (by decide) ?_
      refine XE_goto (n := 20) dX7_isRow_16 rfl ?_
      refine XE_ls (x_sub_ok (ls' := [(0, some (.ref 0))]) ⟨rfl, trivial⟩) ?_
      exact hJ2 ((1 : Int32))
theorem met_X7_isRow (l : Launch) (m0 : Mem) (t : Int32 × Mem) (ht : f_X7_isRow m0 = some t) : XMet l yX7_isRow cX7_isRow 3 (some .boolean) 5 0 0 [.ref 0] SH_M [m0] SH_M (some (.int t.1), [t.2]) := XMet.of (by decide +kernel) (fun _ => Nat.le_of_ble_eq_true rfl) (fun B => xe_X7_isRow B m0) (by rw [ht]; rfl)
/-! X7_whenBy: EveryTwentyMinutesModel.whenBy(II)I in world M at (0,) -/
abbrev M_X7_whenBy : XM := (RX7, cX7_whenBy, 7, (some .int), "whenBy", 6, 0, 0)
def f_X7_whenBy_L9 (a1 : Int32) : Nat → Int32 → Int32 → Int32 → Mem → Option (Int32 × Int32 × Mem)
  | 0, _, _, _, _ => none
  | n + 1, v1, v2, v3, w4 =>
    if 240 < v3 then
      some (v1, v2, w4)
    else
      ck (inb a1 7) <|
      lt (xs w4 3 (ix a1) v3) fun w5 =>
      (f_X7_isRow w5).bind fun t6 =>
      lt t6.1 fun v7 =>
      lt (if v7 = 0 then
          ((0 : Int32))
        else
          ((1 : Int32))) fun t10 =>
      lt (v1 + t10) fun v11 =>
      if v7 = 0 then
        lt (v3 + 1) fun v12 =>
        (f_X7_whenBy_L9 a1 n) v11 v2 v12 t6.2
      else
        if 0 ≤ v2 then
          lt (v3 + 1) fun v13 =>
          (f_X7_whenBy_L9 a1 n) v11 v2 v13 t6.2
        else
          lt (v3 + 1) fun v14 =>
          (f_X7_whenBy_L9 a1 n) v11 v3 v14 t6.2
def f_X7_whenBy (m0 : Mem) (a1 : Int32) (a2 : Int32) : Option (Int32 × Mem) :=
  (f_X7_whenBy_L9 a1 6000 (0 : Int32) ((-9) : Int32) (0 : Int32) m0).bind fun t18 =>
  if a2 = 2 then
    some (t18.1, t18.2.2)
  else
    some (t18.2.1, t18.2.2)
set_option maxRecDepth 100000 in
theorem f_X7_whenBy_L9_x {α R : Type} (B : XB) {Q : R → State → Prop} {k : α → Option R} {r : (Int32 × Int32 × Mem) → Option α} (a1 : Int32) (a2 : Int32) (hE : ∀ t0 : (Int32 × Int32 × Mem), XE B M_X7_whenBy Q 69 [(2, some (.int a2)), (3, some (.int t0.1)), (4, some (.int t0.2.1))] [] (0, 0) SH_M [t0.2.2] (fun t => (r t).bind k) (some t0)) : ∀ (n : Nat) (v1 : Int32) (v2 : Int32) (v3 : Int32) (w4 : Mem), XE B M_X7_whenBy Q 9 [(0, some (.ref 0)), (1, some (.int a1)), (2, some (.int a2)), (3, some (.int v1)), (4, some (.int v2)), (5, some (.int v3))] [] (0, 0) SH_M [w4] (fun t => (r t).bind k) (f_X7_whenBy_L9 a1 n v1 v2 v3 w4) := by
  intro n
  induction n with
  | zero => intros; exact XE_none
  | succ n ih =>
    intro v1 v2 v3 w4
    rw [f_X7_whenBy_L9]
    refine XE_iload (n := 11) dX7_whenBy_9 rfl rfl ?_
    refine XE_sipush (v := 240) (n := 14) dX7_whenBy_11 rfl (by decide) ?_
    refine XE_icmp_gt (t := 69) (n := 17) dX7_whenBy_14 rfl rfl (fun h17 => ?_) (fun h17 => ?_)
    · refine XE_ls (x_sub_ok (ls' := [(2, some (.int a2)), (3, some (.int v1)), (4, some (.int v2))]) ⟨rfl, rfl, rfl, trivial⟩) ?_
      exact hE (v1, v2, w4)
    · refine XE_aload_n (n := 18) dX7_whenBy_17 rfl rfl rfl ?_
      refine XE_getr (b := 3) (n := 21) xf_X7_16 rfl rfl dX7_whenBy_18 rfl ?_
      refine XE_iload_n (n := 22) dX7_whenBy_21 rfl rfl rfl ?_
      refine XE_iload (n := 24) dX7_whenBy_22 rfl rfl ?_
      refine XE_iast (hs2 := fun w5 => [w5]) (n := 25) rfl rfl rfl (Nat.le_of_ble_eq_true rfl) (fun _ => rfl) dX7_whenBy_24 rfl (fun w5 => ?_)
      refine XE_aload_n (n := 26) dX7_whenBy_25 rfl rfl rfl ?_
      refine XE_callVi (ni := 0) (As := []) (st2 := fun t6 => [.int t6.1]) (n := 29) (b := 0) xc_X7_303 (fun l t ht => met_X7_isRow l w5 t ht) rfl rfl rfl rfl dX7_whenBy_26 (Nat.le_of_ble_eq_true rfl) ⟨Nat.zero_le _, Nat.zero_le _⟩ (Nat.le_of_ble_eq_true rfl) (Nat.le_of_ble_eq_true rfl) (fun _ => rfl) rfl (fun t6 => ?_)
      refine XE_topi (fun v7 => ?_)
      refine XE_istore (i := 6) (n := 31) dX7_whenBy_29 rfl (Nat.le_of_ble_eq_true rfl) rfl ?_
      refine XE_iload_n (n := 32) dX7_whenBy_31 rfl rfl rfl ?_
      refine XE_iload (n := 34) dX7_whenBy_32 rfl rfl ?_
      refine XE_regv (J := 42) (lsJ := fun t10 => [(0, some (.ref 0)), (1, some (.int a1)), (2, some (.int a2)), (4, some (.int v2)), (5, some (.int v3)), (6, some (.int v7))]) (stJ := fun t10 => [.int t10, .int v1]) (hsJ := fun t10 => [t6.2]) (fun t10 => ?_) (fun hJ8 => ?_)
      · refine XE_iadd (n := 43) dX7_whenBy_42 rfl ?_
        refine XE_topi (fun v11 => ?_)
        refine XE_istore_n (i := 3) (n := 44) dX7_whenBy_43 rfl rfl (Nat.le_of_ble_eq_true rfl) rfl ?_
        refine XE_iload (n := 46) dX7_whenBy_44 rfl rfl ?_
        refine XE_if_eq (t := 59) (n := 49) dX7_whenBy_46 rfl rfl (fun h16 => ?_) (fun h16 => ?_)
        · refine XE_iload (n := 61) dX7_whenBy_59 rfl rfl ?_
          refine XE_istore (i := 4) (n := 63) dX7_whenBy_61 rfl (Nat.le_of_ble_eq_true rfl) rfl ?_
          refine XE_iincl (n := 66) dX7_whenBy_63 rfl rfl (by decide) (Nat.le_of_ble_eq_true rfl) rfl (fun v12 => ?_)
          refine XE_goto (n := 9) dX7_whenBy_66 rfl ?_
          refine XE_ls (x_sub_ok (ls' := [(0, some (.ref 0)), (1, some (.int a1)), (2, some (.int a2)), (3, some (.int v11)), (4, some (.int v2)), (5, some (.int v12))]) ⟨rfl, rfl, rfl, rfl, rfl, rfl, trivial⟩) ?_
          exact ih v11 v2 v12 t6.2
        · refine XE_iload (n := 51) dX7_whenBy_49 rfl rfl ?_
          refine XE_if_ge (t := 59) (n := 54) dX7_whenBy_51 rfl rfl (fun h15 => ?_) (fun h15 => ?_)
          · refine XE_iload (n := 61) dX7_whenBy_59 rfl rfl ?_
            refine XE_istore (i := 4) (n := 63) dX7_whenBy_61 rfl (Nat.le_of_ble_eq_true rfl) rfl ?_
            refine XE_iincl (n := 66) dX7_whenBy_63 rfl rfl (by decide) (Nat.le_of_ble_eq_true rfl) rfl (fun v13 => ?_)
            refine XE_goto (n := 9) dX7_whenBy_66 rfl ?_
            refine XE_ls (x_sub_ok (ls' := [(0, some (.ref 0)), (1, some (.int a1)), (2, some (.int a2)), (3, some (.int v11)), (4, some (.int v2)), (5, some (.int v13))]) ⟨rfl, rfl, rfl, rfl, rfl, rfl, trivial⟩) ?_
            exact ih v11 v2 v13 t6.2
          · refine XE_iload (n := 56) dX7_whenBy_54 rfl rfl ?_
            refine XE_goto (n := 61) dX7_whenBy_56 rfl ?_
            refine XE_istore (i := 4) (n := 63) dX7_whenBy_61 rfl (Nat.le_of_ble_eq_true rfl) rfl ?_
            refine XE_iincl (n := 66) dX7_whenBy_63 rfl rfl (by decide) (Nat.le_of_ble_eq_true rfl) rfl (fun v14 => ?_)
            refine XE_goto (n := 9) dX7_whenBy_66 rfl ?_
            refine XE_ls (x_sub_ok (ls' := [(0, some (.ref 0)), (1, some (.int a1)), (2, some (.int a2)), (3, some (.int v11)), (4, some (.int v3)), (5, some (.int v14))]) ⟨rfl, rfl, rfl, rfl, rfl, rfl, trivial⟩) ?_
            exact ih v11 v3 v14 t6.2
      · refine XE_ltif ?_
        refine XE_if_eq (t := 41) (n := 37) dX7_whenBy_34 rfl rfl (fun h9 => ?_) (fun h9 => ?_)
        · refine XE_iconst (v := 0) (n := 42) dX7_whenBy_41 rfl (by decide) ?_
          refine XE_ls (x_sub_ok (ls' := [(0, some (.ref 0)), (1, some (.int a1)), (2, some (.int a2)), (4, some (.int v2)), (5, some (.int v3)), (6, some (.int v7))]) ⟨rfl, rfl, rfl, rfl, rfl, rfl, trivial⟩) ?_
          exact hJ8 ((0 : Int32))
        · refine XE_iconst (v := 1) (n := 38) dX7_whenBy_37 rfl (by decide) ?_
          refine XE_goto (n := 42) dX7_whenBy_38 rfl ?_
          refine XE_ls (x_sub_ok (ls' := [(0, some (.ref 0)), (1, some (.int a1)), (2, some (.int a2)), (4, some (.int v2)), (5, some (.int v3)), (6, some (.int v7))]) ⟨rfl, rfl, rfl, rfl, rfl, rfl, trivial⟩) ?_
          exact hJ8 ((1 : Int32))
set_option maxRecDepth 100000 in
theorem xe_X7_whenBy (B : XB) (m0 : Mem) (a1 : Int32) (a2 : Int32) : XE B M_X7_whenBy (XQm B 0 0 SH_M) 0 [(0, some (.ref 0)), (1, some (.int a1)), (2, some (.int a2))] [] (0, 0) SH_M [m0] (fun t => some (some (.int t.1), [t.2])) (f_X7_whenBy m0 a1 a2) := by
  unfold f_X7_whenBy
  refine XE_iconst (v := 0) (n := 1) dX7_whenBy_0 rfl (by decide) ?_
  refine XE_istore_n (i := 3) (n := 2) dX7_whenBy_1 rfl rfl (Nat.le_of_ble_eq_true rfl) rfl ?_
  refine XE_bipush (v := (-9)) (n := 4) dX7_whenBy_2 rfl (by decide) ?_
  refine XE_istore (i := 4) (n := 6) dX7_whenBy_4 rfl (Nat.le_of_ble_eq_true rfl) rfl ?_
  refine XE_iconst (v := 0) (n := 7) dX7_whenBy_6 rfl (by decide) ?_
  refine XE_istore (i := 5) (n := 9) dX7_whenBy_7 rfl (Nat.le_of_ble_eq_true rfl) rfl ?_
  refine XE_ls (x_sub_ok (ls' := [(0, some (.ref 0)), (1, some (.int a1)), (2, some (.int a2)), (3, some (.int 0)), (4, some (.int (-9))), (5, some (.int 0))]) ⟨rfl, rfl, rfl, rfl, rfl, rfl, trivial⟩) ?_
  refine XE_reg (J := 69) (lsJ := fun t18 => [(2, some (.int a2)), (3, some (.int t18.1)), (4, some (.int t18.2.1))]) (stJ := fun t18 => []) (hsJ := fun t18 => [t18.2.2]) (fun t18 => ?_) (fun hJ20 => f_X7_whenBy_L9_x B a1 a2 hJ20 6000 (0 : Int32) ((-9) : Int32) (0 : Int32) m0)
  refine XE_iload_n (n := 70) dX7_whenBy_69 rfl rfl rfl ?_
  refine XE_iconst (v := 2) (n := 71) dX7_whenBy_70 rfl (by decide) ?_
  refine XE_icmp_ne (t := 78) (n := 74) dX7_whenBy_71 rfl rfl (fun h19 => ?_) (fun h19 => ?_)
  · refine XE_iload_n (n := 75) dX7_whenBy_74 rfl rfl rfl ?_
    refine XE_goto (n := 80) dX7_whenBy_75 rfl ?_
    exact XE_ireturn rfl dX7_whenBy_80 rfl (Nat.le_refl _) (Nat.le_refl _)
  · refine XE_iload (n := 80) dX7_whenBy_78 rfl rfl ?_
    exact XE_ireturn rfl dX7_whenBy_80 rfl (Nat.le_refl _) (Nat.le_refl _)
theorem met_X7_whenBy (l : Launch) (m0 : Mem) (a1 : Int32) (a2 : Int32) (t : Int32 × Mem) (ht : f_X7_whenBy m0 a1 a2 = some t) : XMet l yX7_whenBy cX7_whenBy 7 (some .int) 6 0 0 [.ref 0, .int a1, .int a2] SH_M [m0] SH_M (some (.int t.1), [t.2]) := XMet.of (by decide +kernel) (fun _ => Nat.le_of_ble_eq_true rfl) (fun B => xe_X7_whenBy B m0 a1 a2) (by rw [ht]; rfl)
/-! X7_whatWas: EveryTwentyMinutesModel.whatWas(II)I in world M at (0,) -/
abbrev M_X7_whatWas : XM := (RX7, cX7_whatWas, 6, (some .int), "whatWas", 7, 0, 0)
def f_X7_whatWas_L56 (a1 : Int32) (a2 : Int32) : Nat → Int32 → Int32 → Mem → Option (Int32 × Mem)
  | 0, _, _, _ => none
  | n + 1, v8, v9, w10 =>
    lt (if a2 = 0 then
        ((6 : Int32))
      else
        ((10 : Int32))) fun t13 =>
    if t13 ≤ v9 then
      some (v8, w10)
    else
      (if a2 = 0 then
         some (v9)
       else
         ck (inb a1 7) <|
         some ((w10 1 (ix a1)))).bind fun t18 =>
      ck (inb a1 7) <|
      lt (xs w10 1 (ix a1) t18) fun w19 =>
      (if a2 = 1 then
         some (v9)
       else
         ck (inb a1 7) <|
         some ((w19 2 (ix a1)))).bind fun t24 =>
      ck (inb a1 7) <|
      lt (xs w19 2 (ix a1) t24) fun w25 =>
      (f_X7_isRow w25).bind fun t26 =>
      if t26.1 = 0 then
        lt (v8 ||| 0) fun v27 =>
        lt (v9 + 1) fun v28 =>
        (f_X7_whatWas_L56 a1 a2 n) v27 v28 t26.2
      else
        lt (v8 ||| (1 <<< (v9 &&& 31))) fun v29 =>
        lt (v9 + 1) fun v30 =>
        (f_X7_whatWas_L56 a1 a2 n) v29 v30 t26.2
def f_X7_whatWas (m0 : Mem) (a1 : Int32) (a2 : Int32) : Option (Int32 × Mem) :=
  lt (xs m0 0 14 0) fun w1 =>
  (f_X7_isCouple w1 a1).bind fun t2 =>
  lt (if t2 = 0 then
      (((-1) : Int32))
    else
      ((0 : Int32))) fun t5 =>
  (f_X7_wrongBit t5 a2 3).bind fun t6 =>
  if 0 ≤ t6 then
    (f_X7_think w1).bind fun t7 =>
    if a2 ≤ 1 then
      (f_X7_whatWas_L56 a1 a2 6000 (0 : Int32) (0 : Int32) t7).bind fun t33 =>
      some (t33.1, t33.2)
    else
      (f_X7_whenBy t7 a1 a2).bind fun t35 =>
      some (t35.1, t35.2)
  else
    (f_X7_refuse w1 t6).bind fun t37 =>
    some (t37.1, t37.2)
set_option maxRecDepth 100000 in
theorem f_X7_whatWas_L56_x {α R : Type} (B : XB) {Q : R → State → Prop} {k : α → Option R} {r : (Int32 × Mem) → Option α} (a1 : Int32) (a2 : Int32) (hE : ∀ t0 : (Int32 × Mem), XE B M_X7_whatWas Q 141 [(4, some (.int t0.1))] [] (0, 0) SH_M [t0.2] (fun t => (r t).bind k) (some t0)) : ∀ (n : Nat) (v8 : Int32) (v9 : Int32) (w10 : Mem), XE B M_X7_whatWas Q 56 [(0, some (.ref 0)), (1, some (.int a1)), (2, some (.int a2)), (4, some (.int v8)), (5, some (.int v9))] [] (0, 0) SH_M [w10] (fun t => (r t).bind k) (f_X7_whatWas_L56 a1 a2 n v8 v9 w10) := by
  intro n
  induction n with
  | zero => intros; exact XE_none
  | succ n ih =>
    intro v8 v9 w10
    rw [f_X7_whatWas_L56]
    refine XE_iload (n := 58) dX7_whatWas_56 rfl rfl ?_
    refine XE_iload_n (n := 59) dX7_whatWas_58 rfl rfl rfl ?_
    refine XE_regv (J := 69) (lsJ := fun t13 => [(0, some (.ref 0)), (1, some (.int a1)), (2, some (.int a2)), (4, some (.int v8)), (5, some (.int v9))]) (stJ := fun t13 => [.int t13, .int v9]) (hsJ := fun t13 => [w10]) (fun t13 => ?_) (fun hJ11 => ?_)
    · refine XE_icmp_ge (t := 141) (n := 72) dX7_whatWas_69 rfl rfl (fun h32 => ?_) (fun h32 => ?_)
      · refine XE_ls (x_sub_ok (ls' := [(4, some (.int v8))]) ⟨rfl, trivial⟩) ?_
        exact hE (v8, w10)
      · refine XE_aload_n (n := 73) dX7_whatWas_72 rfl rfl rfl ?_
        refine XE_getr (b := 1) (n := 76) xf_X7_7 rfl rfl dX7_whatWas_73 rfl ?_
        refine XE_iload_n (n := 77) dX7_whatWas_76 rfl rfl rfl ?_
        refine XE_iload_n (n := 78) dX7_whatWas_77 rfl rfl rfl ?_
        refine XE_reg (J := 92) (lsJ := fun t18 => [(0, some (.ref 0)), (1, some (.int a1)), (2, some (.int a2)), (4, some (.int v8)), (5, some (.int v9))]) (stJ := fun t18 => [.int t18, .int a1, .ref 1]) (hsJ := fun t18 => [w10]) (fun t18 => ?_) (fun hJ16 => ?_)
        · refine XE_iast (hs2 := fun w19 => [w19]) (n := 93) rfl rfl rfl (Nat.le_of_ble_eq_true rfl) (fun _ => rfl) dX7_whatWas_92 rfl (fun w19 => ?_)
          refine XE_aload_n (n := 94) dX7_whatWas_93 rfl rfl rfl ?_
          refine XE_getr (b := 2) (n := 97) xf_X7_13 rfl rfl dX7_whatWas_94 rfl ?_
          refine XE_iload_n (n := 98) dX7_whatWas_97 rfl rfl rfl ?_
          refine XE_iload_n (n := 99) dX7_whatWas_98 rfl rfl rfl ?_
          refine XE_iconst (v := 1) (n := 100) dX7_whatWas_99 rfl (by decide) ?_
          refine XE_reg (J := 114) (lsJ := fun t24 => [(0, some (.ref 0)), (1, some (.int a1)), (2, some (.int a2)), (4, some (.int v8)), (5, some (.int v9))]) (stJ := fun t24 => [.int t24, .int a1, .ref 2]) (hsJ := fun t24 => [w19]) (fun t24 => ?_) (fun hJ22 => ?_)
          · refine XE_iast (hs2 := fun w25 => [w25]) (n := 115) rfl rfl rfl (Nat.le_of_ble_eq_true rfl) (fun _ => rfl) dX7_whatWas_114 rfl (fun w25 => ?_)
            refine XE_iload (n := 117) dX7_whatWas_115 rfl rfl ?_
            refine XE_aload_n (n := 118) dX7_whatWas_117 rfl rfl rfl ?_
            refine XE_callVi (ni := 0) (As := []) (st2 := fun t26 => [.int t26.1, .int v8]) (n := 121) (b := 0) xc_X7_303 (fun l t ht => met_X7_isRow l w25 t ht) rfl rfl rfl rfl dX7_whatWas_118 (Nat.le_of_ble_eq_true rfl) ⟨Nat.zero_le _, Nat.zero_le _⟩ (Nat.le_of_ble_eq_true rfl) (Nat.le_of_ble_eq_true rfl) (fun _ => rfl) rfl (fun t26 => ?_)
            refine XE_if_eq (t := 131) (n := 124) dX7_whatWas_121 rfl rfl (fun h31 => ?_) (fun h31 => ?_)
            · refine XE_iconst (v := 0) (n := 132) dX7_whatWas_131 rfl (by decide) ?_
              refine XE_ior (n := 133) dX7_whatWas_132 rfl ?_
              refine XE_topi (fun v27 => ?_)
              refine XE_istore (i := 4) (n := 135) dX7_whatWas_133 rfl (Nat.le_of_ble_eq_true rfl) rfl ?_
              refine XE_iincl (n := 138) dX7_whatWas_135 rfl rfl (by decide) (Nat.le_of_ble_eq_true rfl) rfl (fun v28 => ?_)
              refine XE_goto (n := 56) dX7_whatWas_138 rfl ?_
              refine XE_ls (x_sub_ok (ls' := [(0, some (.ref 0)), (1, some (.int a1)), (2, some (.int a2)), (4, some (.int v27)), (5, some (.int v28))]) ⟨rfl, rfl, rfl, rfl, rfl, trivial⟩) ?_
              exact ih v27 v28 t26.2
            · refine XE_iconst (v := 1) (n := 125) dX7_whatWas_124 rfl (by decide) ?_
              refine XE_iload (n := 127) dX7_whatWas_125 rfl rfl ?_
              refine XE_ishl (n := 128) dX7_whatWas_127 rfl ?_
              refine XE_goto (n := 132) dX7_whatWas_128 rfl ?_
              refine XE_ior (n := 133) dX7_whatWas_132 rfl ?_
              refine XE_topi (fun v29 => ?_)
              refine XE_istore (i := 4) (n := 135) dX7_whatWas_133 rfl (Nat.le_of_ble_eq_true rfl) rfl ?_
              refine XE_iincl (n := 138) dX7_whatWas_135 rfl rfl (by decide) (Nat.le_of_ble_eq_true rfl) rfl (fun v30 => ?_)
              refine XE_goto (n := 56) dX7_whatWas_138 rfl ?_
              refine XE_ls (x_sub_ok (ls' := [(0, some (.ref 0)), (1, some (.int a1)), (2, some (.int a2)), (4, some (.int v29)), (5, some (.int v30))]) ⟨rfl, rfl, rfl, rfl, rfl, trivial⟩) ?_
              exact ih v29 v30 t26.2
          · refine XE_icmp_ne (t := 108) (n := 103) dX7_whatWas_100 rfl rfl (fun h23 => ?_) (fun h23 => ?_)
            · refine XE_iload (n := 105) dX7_whatWas_103 rfl rfl ?_
              refine XE_goto (n := 114) dX7_whatWas_105 rfl ?_
              refine XE_ls (x_sub_ok (ls' := [(0, some (.ref 0)), (1, some (.int a1)), (2, some (.int a2)), (4, some (.int v8)), (5, some (.int v9))]) ⟨rfl, rfl, rfl, rfl, rfl, trivial⟩) ?_
              exact hJ22 (v9)
            · refine XE_aload_n (n := 109) dX7_whatWas_108 rfl rfl rfl ?_
              refine XE_getr (b := 2) (n := 112) xf_X7_13 rfl rfl dX7_whatWas_109 rfl ?_
              refine XE_iload_n (n := 113) dX7_whatWas_112 rfl rfl rfl ?_
              refine XE_iald (row := w19 2) (n := 114) rfl rfl dX7_whatWas_113 rfl ?_
              refine XE_ls (x_sub_ok (ls' := [(0, some (.ref 0)), (1, some (.int a1)), (2, some (.int a2)), (4, some (.int v8)), (5, some (.int v9))]) ⟨rfl, rfl, rfl, rfl, rfl, trivial⟩) ?_
              exact hJ22 ((w19 2 (ix a1)))
        · refine XE_if_ne (t := 86) (n := 81) dX7_whatWas_78 rfl rfl (fun h17 => ?_) (fun h17 => ?_)
          · refine XE_iload (n := 83) dX7_whatWas_81 rfl rfl ?_
            refine XE_goto (n := 92) dX7_whatWas_83 rfl ?_
            refine XE_ls (x_sub_ok (ls' := [(0, some (.ref 0)), (1, some (.int a1)), (2, some (.int a2)), (4, some (.int v8)), (5, some (.int v9))]) ⟨rfl, rfl, rfl, rfl, rfl, trivial⟩) ?_
            exact hJ16 (v9)
          · refine XE_aload_n (n := 87) dX7_whatWas_86 rfl rfl rfl ?_
            refine XE_getr (b := 1) (n := 90) xf_X7_7 rfl rfl dX7_whatWas_87 rfl ?_
            refine XE_iload_n (n := 91) dX7_whatWas_90 rfl rfl rfl ?_
            refine XE_iald (row := w10 1) (n := 92) rfl rfl dX7_whatWas_91 rfl ?_
            refine XE_ls (x_sub_ok (ls' := [(0, some (.ref 0)), (1, some (.int a1)), (2, some (.int a2)), (4, some (.int v8)), (5, some (.int v9))]) ⟨rfl, rfl, rfl, rfl, rfl, trivial⟩) ?_
            exact hJ16 ((w10 1 (ix a1)))
    · refine XE_ltif ?_
      refine XE_if_ne (t := 67) (n := 62) dX7_whatWas_59 rfl rfl (fun h12 => ?_) (fun h12 => ?_)
      · refine XE_bipush (v := 6) (n := 64) dX7_whatWas_62 rfl (by decide) ?_
        refine XE_goto (n := 69) dX7_whatWas_64 rfl ?_
        refine XE_ls (x_sub_ok (ls' := [(0, some (.ref 0)), (1, some (.int a1)), (2, some (.int a2)), (4, some (.int v8)), (5, some (.int v9))]) ⟨rfl, rfl, rfl, rfl, rfl, trivial⟩) ?_
        exact hJ11 ((6 : Int32))
      · refine XE_bipush (v := 10) (n := 69) dX7_whatWas_67 rfl (by decide) ?_
        refine XE_ls (x_sub_ok (ls' := [(0, some (.ref 0)), (1, some (.int a1)), (2, some (.int a2)), (4, some (.int v8)), (5, some (.int v9))]) ⟨rfl, rfl, rfl, rfl, rfl, trivial⟩) ?_
        exact hJ11 ((10 : Int32))
set_option maxRecDepth 100000 in
theorem xe_X7_whatWas (B : XB) (m0 : Mem) (a1 : Int32) (a2 : Int32) : XE B M_X7_whatWas (XQm B 0 0 SH_M) 0 [(0, some (.ref 0)), (1, some (.int a1)), (2, some (.int a2))] [] (0, 0) SH_M [m0] (fun t => some (some (.int t.1), [t.2])) (f_X7_whatWas m0 a1 a2) := by
  unfold f_X7_whatWas
  refine XE_aload_n (n := 1) dX7_whatWas_0 rfl rfl rfl ?_
  refine XE_iconst (v := 0) (n := 2) dX7_whatWas_1 rfl (by decide) ?_
  refine XE_putf (hs2 := fun w1 => [w1]) (n := 5) xf_X7_76 rfl rfl rfl rfl (Nat.le_of_ble_eq_true rfl) (fun _ => rfl) dX7_whatWas_2 rfl (fun w1 => ?_)
  refine XE_aload_n (n := 6) dX7_whatWas_5 rfl rfl rfl ?_
  refine XE_iload_n (n := 7) dX7_whatWas_6 rfl rfl rfl ?_
  refine XE_callVi (ni := 1) (As := [.int a1]) (st2 := fun t2 => [.int t2]) (n := 10) (b := 0) xc_X7_177 (fun l t ht => met_X7_isCouple l w1 a1 t ht) rfl rfl rfl rfl dX7_whatWas_7 (Nat.le_of_ble_eq_true rfl) ⟨Nat.zero_le _, Nat.zero_le _⟩ (Nat.le_of_ble_eq_true rfl) (Nat.le_of_ble_eq_true rfl) (fun _ => rfl) rfl (fun t2 => ?_)
  refine XE_regv (J := 18) (lsJ := fun t5 => [(0, some (.ref 0)), (1, some (.int a1)), (2, some (.int a2))]) (stJ := fun t5 => [.int t5]) (hsJ := fun t5 => [w1]) (fun t5 => ?_) (fun hJ3 => ?_)
  · refine XE_iload_n (n := 19) dX7_whatWas_18 rfl rfl rfl ?_
    refine XE_iconst (v := 3) (n := 20) dX7_whatWas_19 rfl (by decide) ?_
    refine XE_callS (ni := 3) (As := [.int t5, .int a2, .int 3]) (π := []) (co := [0]) (cv := [w1]) (nn := 1) (hs2 := fun t6 => [w1]) (st2 := fun t6 => [.int t6]) (n := 23) xc_X7_240 (fun l t ht => met_X7_wrongBit l t5 a2 3 t ht) rfl rfl rfl dX7_whatWas_20 (Nat.le_of_ble_eq_true rfl) ⟨Nat.zero_le _, Nat.zero_le _⟩ (Nat.le_of_ble_eq_true rfl) (Nat.le_of_ble_eq_true rfl) ok_40 rfl rfl rfl (fun _ => rfl) (fun _ => rfl) (fun _ => rfl) rfl (fun _ => rfl) rfl (fun t6 => ?_)
    refine XE_istore_n (i := 3) (n := 24) dX7_whatWas_23 rfl rfl (Nat.le_of_ble_eq_true rfl) rfl ?_
    refine XE_iload_n (n := 25) dX7_whatWas_24 rfl rfl rfl ?_
    refine XE_if_ge (t := 34) (n := 28) dX7_whatWas_25 rfl rfl (fun h38 => ?_) (fun h38 => ?_)
    · refine XE_aload_n (n := 35) dX7_whatWas_34 rfl rfl rfl ?_
      refine XE_callVi (ni := 0) (As := []) (st2 := fun t7 => []) (n := 38) (b := 0) xc_X7_194 (fun l t ht => met_X7_think l w1 t ht) rfl rfl rfl rfl dX7_whatWas_35 (Nat.le_of_ble_eq_true rfl) ⟨Nat.zero_le _, Nat.zero_le _⟩ (Nat.le_of_ble_eq_true rfl) (Nat.le_of_ble_eq_true rfl) (fun _ => rfl) rfl (fun t7 => ?_)
      refine XE_iload_n (n := 39) dX7_whatWas_38 rfl rfl rfl ?_
      refine XE_iconst (v := 1) (n := 40) dX7_whatWas_39 rfl (by decide) ?_
      refine XE_icmp_le (t := 50) (n := 43) dX7_whatWas_40 rfl rfl (fun h36 => ?_) (fun h36 => ?_)
      · refine XE_iconst (v := 0) (n := 51) dX7_whatWas_50 rfl (by decide) ?_
        refine XE_istore (i := 4) (n := 53) dX7_whatWas_51 rfl (Nat.le_of_ble_eq_true rfl) rfl ?_
        refine XE_iconst (v := 0) (n := 54) dX7_whatWas_53 rfl (by decide) ?_
        refine XE_istore (i := 5) (n := 56) dX7_whatWas_54 rfl (Nat.le_of_ble_eq_true rfl) rfl ?_
        refine XE_ls (x_sub_ok (ls' := [(0, some (.ref 0)), (1, some (.int a1)), (2, some (.int a2)), (4, some (.int 0)), (5, some (.int 0))]) ⟨rfl, rfl, rfl, rfl, rfl, trivial⟩) ?_
        refine XE_reg (J := 141) (lsJ := fun t33 => [(4, some (.int t33.1))]) (stJ := fun t33 => []) (hsJ := fun t33 => [t33.2]) (fun t33 => ?_) (fun hJ34 => f_X7_whatWas_L56_x B a1 a2 hJ34 6000 (0 : Int32) (0 : Int32) t7)
        refine XE_iload (n := 143) dX7_whatWas_141 rfl rfl ?_
        exact XE_ireturn rfl dX7_whatWas_143 rfl (Nat.le_refl _) (Nat.le_refl _)
      · refine XE_aload_n (n := 44) dX7_whatWas_43 rfl rfl rfl ?_
        refine XE_iload_n (n := 45) dX7_whatWas_44 rfl rfl rfl ?_
        refine XE_iload_n (n := 46) dX7_whatWas_45 rfl rfl rfl ?_
        refine XE_callVi (ni := 2) (As := [.int a1, .int a2]) (st2 := fun t35 => [.int t35.1]) (n := 49) (b := 0) xc_X7_307 (fun l t ht => met_X7_whenBy l t7 a1 a2 t ht) rfl rfl rfl rfl dX7_whatWas_46 (Nat.le_of_ble_eq_true rfl) ⟨Nat.zero_le _, Nat.zero_le _⟩ (Nat.le_of_ble_eq_true rfl) (Nat.le_of_ble_eq_true rfl) (fun _ => rfl) rfl (fun t35 => ?_)
        exact XE_ireturn rfl dX7_whatWas_49 rfl (Nat.le_refl _) (Nat.le_refl _)
    · refine XE_aload_n (n := 29) dX7_whatWas_28 rfl rfl rfl ?_
      refine XE_iload_n (n := 30) dX7_whatWas_29 rfl rfl rfl ?_
      refine XE_callVi (ni := 1) (As := [.int t6]) (st2 := fun t37 => [.int t37.1]) (n := 33) (b := 0) xc_X7_138 (fun l t ht => met_X7_refuse l w1 t6 t ht) rfl rfl rfl rfl dX7_whatWas_30 (Nat.le_of_ble_eq_true rfl) ⟨Nat.zero_le _, Nat.zero_le _⟩ (Nat.le_of_ble_eq_true rfl) (Nat.le_of_ble_eq_true rfl) (fun _ => rfl) rfl (fun t37 => ?_)
      exact XE_ireturn rfl dX7_whatWas_33 rfl (Nat.le_refl _) (Nat.le_refl _)
  · refine XE_ltif ?_
    refine XE_if_eq (t := 17) (n := 13) dX7_whatWas_10 rfl rfl (fun h4 => ?_) (fun h4 => ?_)
    · refine XE_iconst (v := (-1)) (n := 18) dX7_whatWas_17 rfl (by decide) ?_
      refine XE_ls (x_sub_ok (ls' := [(0, some (.ref 0)), (1, some (.int a1)), (2, some (.int a2))]) ⟨rfl, rfl, rfl, trivial⟩) ?_
      exact hJ3 (((-1) : Int32))
    · refine XE_iconst (v := 0) (n := 14) dX7_whatWas_13 rfl (by decide) ?_
      refine XE_goto (n := 18) dX7_whatWas_14 rfl ?_
      refine XE_ls (x_sub_ok (ls' := [(0, some (.ref 0)), (1, some (.int a1)), (2, some (.int a2))]) ⟨rfl, rfl, rfl, trivial⟩) ?_
      exact hJ3 ((0 : Int32))
theorem met_X7_whatWas (l : Launch) (m0 : Mem) (a1 : Int32) (a2 : Int32) (t : Int32 × Mem) (ht : f_X7_whatWas m0 a1 a2 = some t) : XMet l yX7_whatWas cX7_whatWas 6 (some .int) 7 0 0 [.ref 0, .int a1, .int a2] SH_M [m0] SH_M (some (.int t.1), [t.2]) := XMet.of (by decide +kernel) (fun _ => Nat.le_of_ble_eq_true rfl) (fun B => xe_X7_whatWas B m0 a1 a2) (by rw [ht]; rfl)
/-! X7_longest: EveryTwentyMinutesModel.longest(I)I in world M at (0,) -/
abbrev M_X7_longest : XM := (RX7, cX7_longest, 8, (some .int), "longest", 2, 0, 0)
def f_X7_longest_L168 (v6 : Int32) (w1 : Mem) : Nat → Int32 → Int32 → Option (Int32)
  | 0, _, _ => none
  | n + 1, v53, v54 =>
    if (w1 0 0) ≤ v54 then
      some (v53)
    else
      ck (inb v6 7) <|
      ck (inb v54 7) <|
      (f_X7_in ((((w1 3 (ix v6)) - (w1 3 (ix v54))) : Int32).toInt64) (-14) 14).bind fun t55 =>
      if t55 = 0 then
        lt (v53 + 0) fun v56 =>
        lt (v54 + 1) fun v57 =>
        (f_X7_longest_L168 v6 w1 n) v56 v57
      else
        lt (v53 + 1) fun v58 =>
        lt (v54 + 1) fun v59 =>
        (f_X7_longest_L168 v6 w1 n) v58 v59
def f_X7_longest_L36 (w1 : Mem) : Nat → Int32 → Int32 → Int32 → Int32 → Option (Int32 × Int32 × Int32)
  | 0, _, _, _, _ => none
  | n + 1, v3, v4, v5, v6 =>
    if (w1 0 0) ≤ v6 then
      some (v3, v4, v5)
    else
      (if v3 < 0 then
         some ((1 : Int32))
       else
         ck (inb v6 7) <|
         ck (inb v6 7) <|
         (f_X7_lastsBy (w1 1 (ix v6)) (w1 2 (ix v6))).bind fun t19 =>
         lt (if 0 ≤ v3 then
             (v3)
           else
             ((0 : Int32))) fun t22 =>
         ck (inb t22 7) <|
         lt (if 0 ≤ v3 then
             (v3)
           else
             ((0 : Int32))) fun t25 =>
         ck (inb t25 7) <|
         (f_X7_lastsBy (w1 1 (ix t22)) (w1 2 (ix t25))).bind fun t26 =>
         if t19 ≤ t26 then
           some ((0 : Int32))
         else
           some ((1 : Int32))).bind fun t29 =>
      lt (if t29 = 0 then
          (v3)
        else
          (v6)) fun t32 =>
      ck (inb v6 7) <|
      (if (w1 4 (ix v6)) = 0 then
         if v4 < 0 then
           some (v6)
         else
           (f_X7_guestsOf w1 v6).bind fun t43 =>
           lt (if 0 ≤ v4 then
               (v4)
             else
               ((0 : Int32))) fun t46 =>
           (f_X7_guestsOf w1 t46).bind fun t47 =>
           if t43 ≤ t47 then
             some (v4)
           else
             some (v6)
       else
         some (v4)).bind fun t51 =>
      lt (v6 + 1) fun v52 =>
      (f_X7_longest_L168 v6 w1 6000 v5 v52).bind fun t62 =>
      lt (v6 + 1) fun v63 =>
      (f_X7_longest_L36 w1 n) t32 t51 t62 v63
def f_X7_longest (m0 : Mem) (a1 : Int32) : Option (Int32 × Mem) :=
  lt (xs m0 0 14 0) fun w1 =>
  (f_X7_in ((a1 : Int32).toInt64) 0 2).bind fun t2 =>
  if t2 = 0 then
    (f_X7_refuse w1 (-2)).bind fun t70 =>
    some (t70.1, t70.2)
  else
    (f_X7_longest_L36 w1 6000 ((-9) : Int32) ((-9) : Int32) (0 : Int32) (0 : Int32)).bind fun t66 =>
    if a1 = 0 then
      some (t66.1, w1)
    else
      if a1 = 1 then
        some (t66.2.1, w1)
      else
        some (t66.2.2, w1)
set_option maxRecDepth 100000 in
theorem f_X7_longest_L168_x {α R : Type} (B : XB) {Q : R → State → Prop} {k : α → Option R} {r : (Int32) → Option α} (a1 : Int32) (t32 : (Int32)) (t51 : (Int32)) (v6 : Int32) (w1 : Mem) (hE : ∀ t0 : (Int32), XE B M_X7_longest Q 221 [(0, some (.ref 0)), (1, some (.int a1)), (2, some (.int t32)), (3, some (.int t51)), (4, some (.int t0)), (5, some (.int v6))] [] (0, 0) SH_M [w1] (fun t => (r t).bind k) (some t0)) : ∀ (n : Nat) (v53 : Int32) (v54 : Int32), XE B M_X7_longest Q 168 [(0, some (.ref 0)), (1, some (.int a1)), (2, some (.int t32)), (3, some (.int t51)), (4, some (.int v53)), (5, some (.int v6)), (7, some (.int v54))] [] (0, 0) SH_M [w1] (fun t => (r t).bind k) (f_X7_longest_L168 v6 w1 n v53 v54) := by
  intro n
  induction n with
  | zero => intros; exact XE_none
  | succ n ih =>
    intro v53 v54
    rw [f_X7_longest_L168]
    refine XE_iload (n := 170) dX7_longest_168 rfl rfl ?_
    refine XE_aload_n (n := 171) dX7_longest_170 rfl rfl rfl ?_
    refine XE_getf (v := w1 0 0) (n := 174) xf_X7_83 rfl rfl rfl dX7_longest_171 rfl ?_
    refine XE_icmp_ge (t := 221) (n := 177) dX7_longest_174 rfl rfl (fun h61 => ?_) (fun h61 => ?_)
    · refine XE_ls (x_sub_ok (ls' := [(0, some (.ref 0)), (1, some (.int a1)), (2, some (.int t32)), (3, some (.int t51)), (4, some (.int v53)), (5, some (.int v6))]) ⟨rfl, rfl, rfl, rfl, rfl, rfl, trivial⟩) ?_
      exact hE (v53)
    · refine XE_iload (n := 179) dX7_longest_177 rfl rfl ?_
      refine XE_aload_n (n := 180) dX7_longest_179 rfl rfl rfl ?_
      refine XE_getr (b := 3) (n := 183) xf_X7_16 rfl rfl dX7_longest_180 rfl ?_
      refine XE_iload (n := 185) dX7_longest_183 rfl rfl ?_
      refine XE_iald (row := w1 3) (n := 186) rfl rfl dX7_longest_185 rfl ?_
      refine XE_aload_n (n := 187) dX7_longest_186 rfl rfl rfl ?_
      refine XE_getr (b := 3) (n := 190) xf_X7_16 rfl rfl dX7_longest_187 rfl ?_
      refine XE_iload (n := 192) dX7_longest_190 rfl rfl ?_
      refine XE_iald (row := w1 3) (n := 193) rfl rfl dX7_longest_192 rfl ?_
      refine XE_isub (n := 194) dX7_longest_193 rfl ?_
      refine XE_i2l (n := 195) dX7_longest_194 rfl ?_
      refine XE_ldc2 (n := 198) dX7_longest_195 rfl xk_X7_310 ?_
      refine XE_ldc2 (n := 201) dX7_longest_198 rfl xk_X7_312 ?_
      refine XE_callS (ni := 3) (As := [.long ((((w1 3 (ix v6)) - (w1 3 (ix v54))) : Int32).toInt64), .long (-14), .long 14]) (π := []) (co := [0]) (cv := [w1]) (nn := 1) (hs2 := fun t55 => [w1]) (st2 := fun t55 => [.int t55, .int v53]) (n := 204) xc_X7_86 (fun l t ht => met_X7_in l ((((w1 3 (ix v6)) - (w1 3 (ix v54))) : Int32).toInt64) (-14) 14 t ht) rfl rfl rfl dX7_longest_201 (Nat.le_of_ble_eq_true rfl) ⟨Nat.zero_le _, Nat.zero_le _⟩ (Nat.le_of_ble_eq_true rfl) (Nat.le_of_ble_eq_true rfl) ok_40 rfl rfl rfl (fun _ => rfl) (fun _ => rfl) (fun _ => rfl) rfl (fun _ => rfl) rfl (fun t55 => ?_)
      refine XE_if_eq (t := 211) (n := 207) dX7_longest_204 rfl rfl (fun h60 => ?_) (fun h60 => ?_)
      · refine XE_iconst (v := 0) (n := 212) dX7_longest_211 rfl (by decide) ?_
        refine XE_iadd (n := 213) dX7_longest_212 rfl ?_
        refine XE_topi (fun v56 => ?_)
        refine XE_istore (i := 4) (n := 215) dX7_longest_213 rfl (Nat.le_of_ble_eq_true rfl) rfl ?_
        refine XE_iincl (n := 218) dX7_longest_215 rfl rfl (by decide) (Nat.le_of_ble_eq_true rfl) rfl (fun v57 => ?_)
        refine XE_goto (n := 168) dX7_longest_218 rfl ?_
        refine XE_ls (x_sub_ok (ls' := [(0, some (.ref 0)), (1, some (.int a1)), (2, some (.int t32)), (3, some (.int t51)), (4, some (.int v56)), (5, some (.int v6)), (7, some (.int v57))]) ⟨rfl, rfl, rfl, rfl, rfl, rfl, rfl, trivial⟩) ?_
        exact ih v56 v57
      · refine XE_iconst (v := 1) (n := 208) dX7_longest_207 rfl (by decide) ?_
        refine XE_goto (n := 212) dX7_longest_208 rfl ?_
        refine XE_iadd (n := 213) dX7_longest_212 rfl ?_
        refine XE_topi (fun v58 => ?_)
        refine XE_istore (i := 4) (n := 215) dX7_longest_213 rfl (Nat.le_of_ble_eq_true rfl) rfl ?_
        refine XE_iincl (n := 218) dX7_longest_215 rfl rfl (by decide) (Nat.le_of_ble_eq_true rfl) rfl (fun v59 => ?_)
        refine XE_goto (n := 168) dX7_longest_218 rfl ?_
        refine XE_ls (x_sub_ok (ls' := [(0, some (.ref 0)), (1, some (.int a1)), (2, some (.int t32)), (3, some (.int t51)), (4, some (.int v58)), (5, some (.int v6)), (7, some (.int v59))]) ⟨rfl, rfl, rfl, rfl, rfl, rfl, rfl, trivial⟩) ?_
        exact ih v58 v59
set_option maxRecDepth 100000 in
theorem f_X7_longest_L36_x {α R : Type} (B : XB) {Q : R → State → Prop} {k : α → Option R} {r : (Int32 × Int32 × Int32) → Option α} (a1 : Int32) (w1 : Mem) (hE : ∀ t0 : (Int32 × Int32 × Int32), XE B M_X7_longest Q 227 [(1, some (.int a1)), (2, some (.int t0.1)), (3, some (.int t0.2.1)), (4, some (.int t0.2.2))] [] (0, 0) SH_M [w1] (fun t => (r t).bind k) (some t0)) : ∀ (n : Nat) (v3 : Int32) (v4 : Int32) (v5 : Int32) (v6 : Int32), XE B M_X7_longest Q 36 [(0, some (.ref 0)), (1, some (.int a1)), (2, some (.int v3)), (3, some (.int v4)), (4, some (.int v5)), (5, some (.int v6))] [] (0, 0) SH_M [w1] (fun t => (r t).bind k) (f_X7_longest_L36 w1 n v3 v4 v5 v6) := by
  intro n
  induction n with
  | zero => intros; exact XE_none
  | succ n ih =>
    intro v3 v4 v5 v6
    rw [f_X7_longest_L36]
    refine XE_iload (n := 38) dX7_longest_36 rfl rfl ?_
    refine XE_aload_n (n := 39) dX7_longest_38 rfl rfl rfl ?_
    refine XE_getf (v := w1 0 0) (n := 42) xf_X7_83 rfl rfl rfl dX7_longest_39 rfl ?_
    refine XE_icmp_ge (t := 227) (n := 45) dX7_longest_42 rfl rfl (fun h65 => ?_) (fun h65 => ?_)
    · refine XE_ls (x_sub_ok (ls' := [(1, some (.int a1)), (2, some (.int v3)), (3, some (.int v4)), (4, some (.int v5))]) ⟨rfl, rfl, rfl, rfl, trivial⟩) ?_
      exact hE (v3, v4, v5)
    · refine XE_iload_n (n := 46) dX7_longest_45 rfl rfl rfl ?_
      refine XE_reg (J := 105) (lsJ := fun t29 => [(0, some (.ref 0)), (1, some (.int a1)), (2, some (.int v3)), (3, some (.int v4)), (4, some (.int v5)), (5, some (.int v6))]) (stJ := fun t29 => [.int t29]) (hsJ := fun t29 => [w1]) (fun t29 => ?_) (fun hJ18 => ?_)
      · refine XE_istore (i := 6) (n := 107) dX7_longest_105 rfl (Nat.le_of_ble_eq_true rfl) rfl ?_
        refine XE_iload (n := 109) dX7_longest_107 rfl rfl ?_
        refine XE_regv (J := 118) (lsJ := fun t32 => [(0, some (.ref 0)), (1, some (.int a1)), (3, some (.int v4)), (4, some (.int v5)), (5, some (.int v6))]) (stJ := fun t32 => [.int t32]) (hsJ := fun t32 => [w1]) (fun t32 => ?_) (fun hJ30 => ?_)
        · refine XE_istore_n (i := 2) (n := 119) dX7_longest_118 rfl rfl (Nat.le_of_ble_eq_true rfl) rfl ?_
          refine XE_aload_n (n := 120) dX7_longest_119 rfl rfl rfl ?_
          refine XE_getr (b := 4) (n := 123) xf_X7_19 rfl rfl dX7_longest_120 rfl ?_
          refine XE_iload (n := 125) dX7_longest_123 rfl rfl ?_
          refine XE_iald (row := w1 4) (n := 126) rfl rfl dX7_longest_125 rfl ?_
          refine XE_reg (J := 161) (lsJ := fun t51 => [(0, some (.ref 0)), (1, some (.int a1)), (2, some (.int t32)), (4, some (.int v5)), (5, some (.int v6))]) (stJ := fun t51 => [.int t51]) (hsJ := fun t51 => [w1]) (fun t51 => ?_) (fun hJ42 => ?_)
          · refine XE_istore_n (i := 3) (n := 162) dX7_longest_161 rfl rfl (Nat.le_of_ble_eq_true rfl) rfl ?_
            refine XE_iload (n := 164) dX7_longest_162 rfl rfl ?_
            refine XE_iconst (v := 1) (n := 165) dX7_longest_164 rfl (by decide) ?_
            refine XE_iadd (n := 166) dX7_longest_165 rfl ?_
            refine XE_topi (fun v52 => ?_)
            refine XE_istore (i := 7) (n := 168) dX7_longest_166 rfl (Nat.le_of_ble_eq_true rfl) rfl ?_
            refine XE_ls (x_sub_ok (ls' := [(0, some (.ref 0)), (1, some (.int a1)), (2, some (.int t32)), (3, some (.int t51)), (4, some (.int v5)), (5, some (.int v6)), (7, some (.int v52))]) ⟨rfl, rfl, rfl, rfl, rfl, rfl, rfl, trivial⟩) ?_
            refine XE_reg (J := 221) (lsJ := fun t62 => [(0, some (.ref 0)), (1, some (.int a1)), (2, some (.int t32)), (3, some (.int t51)), (4, some (.int t62)), (5, some (.int v6))]) (stJ := fun t62 => []) (hsJ := fun t62 => [w1]) (fun t62 => ?_) (fun hJ64 => f_X7_longest_L168_x B a1 t32 t51 v6 w1 hJ64 6000 v5 v52)
            refine XE_iincl (n := 224) dX7_longest_221 rfl rfl (by decide) (Nat.le_of_ble_eq_true rfl) rfl (fun v63 => ?_)
            refine XE_goto (n := 36) dX7_longest_224 rfl ?_
            refine XE_ls (x_sub_ok (ls' := [(0, some (.ref 0)), (1, some (.int a1)), (2, some (.int t32)), (3, some (.int t51)), (4, some (.int t62)), (5, some (.int v63))]) ⟨rfl, rfl, rfl, rfl, rfl, rfl, trivial⟩) ?_
            exact ih t32 t51 t62 v63
          · refine XE_if_ne (t := 160) (n := 129) dX7_longest_126 rfl rfl (fun h50 => ?_) (fun h50 => ?_)
            · refine XE_iload_n (n := 130) dX7_longest_129 rfl rfl rfl ?_
              refine XE_if_lt (t := 155) (n := 133) dX7_longest_130 rfl rfl (fun h49 => ?_) (fun h49 => ?_)
              · refine XE_iload (n := 157) dX7_longest_155 rfl rfl ?_
                refine XE_goto (n := 161) dX7_longest_157 rfl ?_
                refine XE_ls (x_sub_ok (ls' := [(0, some (.ref 0)), (1, some (.int a1)), (2, some (.int t32)), (4, some (.int v5)), (5, some (.int v6))]) ⟨rfl, rfl, rfl, rfl, rfl, trivial⟩) ?_
                exact hJ42 (v6)
              · refine XE_aload_n (n := 134) dX7_longest_133 rfl rfl rfl ?_
                refine XE_iload (n := 136) dX7_longest_134 rfl rfl ?_
                refine XE_callVi (ni := 1) (As := [.int v6]) (st2 := fun t43 => [.int t43]) (n := 139) (b := 0) xc_X7_225 (fun l t ht => met_X7_guestsOf l w1 v6 t ht) rfl rfl rfl rfl dX7_longest_136 (Nat.le_of_ble_eq_true rfl) ⟨Nat.zero_le _, Nat.zero_le _⟩ (Nat.le_of_ble_eq_true rfl) (Nat.le_of_ble_eq_true rfl) (fun _ => rfl) rfl (fun t43 => ?_)
                refine XE_aload_n (n := 140) dX7_longest_139 rfl rfl rfl ?_
                refine XE_iload_n (n := 141) dX7_longest_140 rfl rfl rfl ?_
                refine XE_regv (J := 149) (lsJ := fun t46 => [(0, some (.ref 0)), (1, some (.int a1)), (2, some (.int t32)), (3, some (.int v4)), (4, some (.int v5)), (5, some (.int v6))]) (stJ := fun t46 => [.int t46, .ref 0, .int t43]) (hsJ := fun t46 => [w1]) (fun t46 => ?_) (fun hJ44 => ?_)
                · refine XE_callVi (ni := 1) (As := [.int t46]) (st2 := fun t47 => [.int t47, .int t43]) (n := 152) (b := 0) xc_X7_225 (fun l t ht => met_X7_guestsOf l w1 t46 t ht) rfl rfl rfl rfl dX7_longest_149 (Nat.le_of_ble_eq_true rfl) ⟨Nat.zero_le _, Nat.zero_le _⟩ (Nat.le_of_ble_eq_true rfl) (Nat.le_of_ble_eq_true rfl) (fun _ => rfl) rfl (fun t47 => ?_)
                  refine XE_icmp_le (t := 160) (n := 155) dX7_longest_152 rfl rfl (fun h48 => ?_) (fun h48 => ?_)
                  · refine XE_iload_n (n := 161) dX7_longest_160 rfl rfl rfl ?_
                    refine XE_ls (x_sub_ok (ls' := [(0, some (.ref 0)), (1, some (.int a1)), (2, some (.int t32)), (4, some (.int v5)), (5, some (.int v6))]) ⟨rfl, rfl, rfl, rfl, rfl, trivial⟩) ?_
                    exact hJ42 (v4)
                  · refine XE_iload (n := 157) dX7_longest_155 rfl rfl ?_
                    refine XE_goto (n := 161) dX7_longest_157 rfl ?_
                    refine XE_ls (x_sub_ok (ls' := [(0, some (.ref 0)), (1, some (.int a1)), (2, some (.int t32)), (4, some (.int v5)), (5, some (.int v6))]) ⟨rfl, rfl, rfl, rfl, rfl, trivial⟩) ?_
                    exact hJ42 (v6)
                · refine XE_ltif ?_
                  refine XE_if_ge (t := 148) (n := 144) dX7_longest_141 rfl rfl (fun h45 => ?_) (fun h45 => ?_)
                  · refine XE_iload_n (n := 149) dX7_longest_148 rfl rfl rfl ?_
                    refine XE_ls (x_sub_ok (ls' := [(0, some (.ref 0)), (1, some (.int a1)), (2, some (.int t32)), (3, some (.int v4)), (4, some (.int v5)), (5, some (.int v6))]) ⟨rfl, rfl, rfl, rfl, rfl, rfl, trivial⟩) ?_
                    exact hJ44 (v4)
                  · refine XE_iconst (v := 0) (n := 145) dX7_longest_144 rfl (by decide) ?_
                    refine XE_goto (n := 149) dX7_longest_145 rfl ?_
                    refine XE_ls (x_sub_ok (ls' := [(0, some (.ref 0)), (1, some (.int a1)), (2, some (.int t32)), (3, some (.int v4)), (4, some (.int v5)), (5, some (.int v6))]) ⟨rfl, rfl, rfl, rfl, rfl, rfl, trivial⟩) ?_
                    exact hJ44 ((0 : Int32))
            · refine XE_iload_n (n := 161) dX7_longest_160 rfl rfl rfl ?_
              refine XE_ls (x_sub_ok (ls' := [(0, some (.ref 0)), (1, some (.int a1)), (2, some (.int t32)), (4, some (.int v5)), (5, some (.int v6))]) ⟨rfl, rfl, rfl, rfl, rfl, trivial⟩) ?_
              exact hJ42 (v4)
        · refine XE_ltif ?_
          refine XE_if_eq (t := 117) (n := 112) dX7_longest_109 rfl rfl (fun h31 => ?_) (fun h31 => ?_)
          · refine XE_iload_n (n := 118) dX7_longest_117 rfl rfl rfl ?_
            refine XE_ls (x_sub_ok (ls' := [(0, some (.ref 0)), (1, some (.int a1)), (3, some (.int v4)), (4, some (.int v5)), (5, some (.int v6))]) ⟨rfl, rfl, rfl, rfl, rfl, trivial⟩) ?_
            exact hJ30 (v3)
          · refine XE_iload (n := 114) dX7_longest_112 rfl rfl ?_
            refine XE_goto (n := 118) dX7_longest_114 rfl ?_
            refine XE_ls (x_sub_ok (ls' := [(0, some (.ref 0)), (1, some (.int a1)), (3, some (.int v4)), (4, some (.int v5)), (5, some (.int v6))]) ⟨rfl, rfl, rfl, rfl, rfl, trivial⟩) ?_
            exact hJ30 (v6)
      · refine XE_if_lt (t := 100) (n := 49) dX7_longest_46 rfl rfl (fun h28 => ?_) (fun h28 => ?_)
        · refine XE_iconst (v := 1) (n := 101) dX7_longest_100 rfl (by decide) ?_
          refine XE_goto (n := 105) dX7_longest_101 rfl ?_
          refine XE_ls (x_sub_ok (ls' := [(0, some (.ref 0)), (1, some (.int a1)), (2, some (.int v3)), (3, some (.int v4)), (4, some (.int v5)), (5, some (.int v6))]) ⟨rfl, rfl, rfl, rfl, rfl, rfl, trivial⟩) ?_
          exact hJ18 ((1 : Int32))
        · refine XE_aload_n (n := 50) dX7_longest_49 rfl rfl rfl ?_
          refine XE_getr (b := 1) (n := 53) xf_X7_7 rfl rfl dX7_longest_50 rfl ?_
          refine XE_iload (n := 55) dX7_longest_53 rfl rfl ?_
          refine XE_iald (row := w1 1) (n := 56) rfl rfl dX7_longest_55 rfl ?_
          refine XE_aload_n (n := 57) dX7_longest_56 rfl rfl rfl ?_
          refine XE_getr (b := 2) (n := 60) xf_X7_13 rfl rfl dX7_longest_57 rfl ?_
          refine XE_iload (n := 62) dX7_longest_60 rfl rfl ?_
          refine XE_iald (row := w1 2) (n := 63) rfl rfl dX7_longest_62 rfl ?_
          refine XE_callS (ni := 2) (As := [.int (w1 1 (ix v6)), .int (w1 2 (ix v6))]) (π := []) (co := [0]) (cv := [w1]) (nn := 1) (hs2 := fun t19 => [w1]) (st2 := fun t19 => [.int t19]) (n := 66) xc_X7_111 (fun l t ht => met_X7_lastsBy l (w1 1 (ix v6)) (w1 2 (ix v6)) t ht) rfl rfl rfl dX7_longest_63 (Nat.le_of_ble_eq_true rfl) ⟨Nat.zero_le _, Nat.zero_le _⟩ (Nat.le_of_ble_eq_true rfl) (Nat.le_of_ble_eq_true rfl) ok_40 rfl rfl rfl (fun _ => rfl) (fun _ => rfl) (fun _ => rfl) rfl (fun _ => rfl) rfl (fun t19 => ?_)
          refine XE_aload_n (n := 67) dX7_longest_66 rfl rfl rfl ?_
          refine XE_getr (b := 1) (n := 70) xf_X7_7 rfl rfl dX7_longest_67 rfl ?_
          refine XE_iload_n (n := 71) dX7_longest_70 rfl rfl rfl ?_
          refine XE_regv (J := 79) (lsJ := fun t22 => [(0, some (.ref 0)), (1, some (.int a1)), (2, some (.int v3)), (3, some (.int v4)), (4, some (.int v5)), (5, some (.int v6))]) (stJ := fun t22 => [.int t22, .ref 1, .int t19]) (hsJ := fun t22 => [w1]) (fun t22 => ?_) (fun hJ20 => ?_)
          · refine XE_iald (row := w1 1) (n := 80) rfl rfl dX7_longest_79 rfl ?_
            refine XE_aload_n (n := 81) dX7_longest_80 rfl rfl rfl ?_
            refine XE_getr (b := 2) (n := 84) xf_X7_13 rfl rfl dX7_longest_81 rfl ?_
            refine XE_iload_n (n := 85) dX7_longest_84 rfl rfl rfl ?_
            refine XE_regv (J := 93) (lsJ := fun t25 => [(0, some (.ref 0)), (1, some (.int a1)), (2, some (.int v3)), (3, some (.int v4)), (4, some (.int v5)), (5, some (.int v6))]) (stJ := fun t25 => [.int t25, .ref 2, .int (w1 1 (ix t22)), .int t19]) (hsJ := fun t25 => [w1]) (fun t25 => ?_) (fun hJ23 => ?_)
            · refine XE_iald (row := w1 2) (n := 94) rfl rfl dX7_longest_93 rfl ?_
              refine XE_callS (ni := 2) (As := [.int (w1 1 (ix t22)), .int (w1 2 (ix t25))]) (π := []) (co := [0]) (cv := [w1]) (nn := 1) (hs2 := fun t26 => [w1]) (st2 := fun t26 => [.int t26, .int t19]) (n := 97) xc_X7_111 (fun l t ht => met_X7_lastsBy l (w1 1 (ix t22)) (w1 2 (ix t25)) t ht) rfl rfl rfl dX7_longest_94 (Nat.le_of_ble_eq_true rfl) ⟨Nat.zero_le _, Nat.zero_le _⟩ (Nat.le_of_ble_eq_true rfl) (Nat.le_of_ble_eq_true rfl) ok_40 rfl rfl rfl (fun _ => rfl) (fun _ => rfl) (fun _ => rfl) rfl (fun _ => rfl) rfl (fun t26 => ?_)
              refine XE_icmp_le (t := 104) (n := 100) dX7_longest_97 rfl rfl (fun h27 => ?_) (fun h27 => ?_)
              · refine XE_iconst (v := 0) (n := 105) dX7_longest_104 rfl (by decide) ?_
                refine XE_ls (x_sub_ok (ls' := [(0, some (.ref 0)), (1, some (.int a1)), (2, some (.int v3)), (3, some (.int v4)), (4, some (.int v5)), (5, some (.int v6))]) ⟨rfl, rfl, rfl, rfl, rfl, rfl, trivial⟩) ?_
                exact hJ18 ((0 : Int32))
              · refine XE_iconst (v := 1) (n := 101) dX7_longest_100 rfl (by decide) ?_
                refine XE_goto (n := 105) dX7_longest_101 rfl ?_
                refine XE_ls (x_sub_ok (ls' := [(0, some (.ref 0)), (1, some (.int a1)), (2, some (.int v3)), (3, some (.int v4)), (4, some (.int v5)), (5, some (.int v6))]) ⟨rfl, rfl, rfl, rfl, rfl, rfl, trivial⟩) ?_
                exact hJ18 ((1 : Int32))
            · refine XE_ltif ?_
              refine XE_if_ge (t := 92) (n := 88) dX7_longest_85 rfl rfl (fun h24 => ?_) (fun h24 => ?_)
              · refine XE_iload_n (n := 93) dX7_longest_92 rfl rfl rfl ?_
                refine XE_ls (x_sub_ok (ls' := [(0, some (.ref 0)), (1, some (.int a1)), (2, some (.int v3)), (3, some (.int v4)), (4, some (.int v5)), (5, some (.int v6))]) ⟨rfl, rfl, rfl, rfl, rfl, rfl, trivial⟩) ?_
                exact hJ23 (v3)
              · refine XE_iconst (v := 0) (n := 89) dX7_longest_88 rfl (by decide) ?_
                refine XE_goto (n := 93) dX7_longest_89 rfl ?_
                refine XE_ls (x_sub_ok (ls' := [(0, some (.ref 0)), (1, some (.int a1)), (2, some (.int v3)), (3, some (.int v4)), (4, some (.int v5)), (5, some (.int v6))]) ⟨rfl, rfl, rfl, rfl, rfl, rfl, trivial⟩) ?_
                exact hJ23 ((0 : Int32))
          · refine XE_ltif ?_
            refine XE_if_ge (t := 78) (n := 74) dX7_longest_71 rfl rfl (fun h21 => ?_) (fun h21 => ?_)
            · refine XE_iload_n (n := 79) dX7_longest_78 rfl rfl rfl ?_
              refine XE_ls (x_sub_ok (ls' := [(0, some (.ref 0)), (1, some (.int a1)), (2, some (.int v3)), (3, some (.int v4)), (4, some (.int v5)), (5, some (.int v6))]) ⟨rfl, rfl, rfl, rfl, rfl, rfl, trivial⟩) ?_
              exact hJ20 (v3)
            · refine XE_iconst (v := 0) (n := 75) dX7_longest_74 rfl (by decide) ?_
              refine XE_goto (n := 79) dX7_longest_75 rfl ?_
              refine XE_ls (x_sub_ok (ls' := [(0, some (.ref 0)), (1, some (.int a1)), (2, some (.int v3)), (3, some (.int v4)), (4, some (.int v5)), (5, some (.int v6))]) ⟨rfl, rfl, rfl, rfl, rfl, rfl, trivial⟩) ?_
              exact hJ20 ((0 : Int32))
set_option maxRecDepth 100000 in
theorem xe_X7_longest (B : XB) (m0 : Mem) (a1 : Int32) : XE B M_X7_longest (XQm B 0 0 SH_M) 0 [(0, some (.ref 0)), (1, some (.int a1))] [] (0, 0) SH_M [m0] (fun t => some (some (.int t.1), [t.2])) (f_X7_longest m0 a1) := by
  unfold f_X7_longest
  refine XE_aload_n (n := 1) dX7_longest_0 rfl rfl rfl ?_
  refine XE_iconst (v := 0) (n := 2) dX7_longest_1 rfl (by decide) ?_
  refine XE_putf (hs2 := fun w1 => [w1]) (n := 5) xf_X7_76 rfl rfl rfl rfl (Nat.le_of_ble_eq_true rfl) (fun _ => rfl) dX7_longest_2 rfl (fun w1 => ?_)
  refine XE_iload_n (n := 6) dX7_longest_5 rfl rfl rfl ?_
  refine XE_i2l (n := 7) dX7_longest_6 rfl ?_
  refine XE_lconst (v := 0) (n := 8) dX7_longest_7 rfl (by decide) ?_
  refine XE_ldc2 (n := 11) dX7_longest_8 rfl xk_X7_126 ?_
  refine XE_callS (ni := 3) (As := [.long ((a1 : Int32).toInt64), .long 0, .long 2]) (π := []) (co := [0]) (cv := [w1]) (nn := 1) (hs2 := fun t2 => [w1]) (st2 := fun t2 => [.int t2]) (n := 14) xc_X7_86 (fun l t ht => met_X7_in l ((a1 : Int32).toInt64) 0 2 t ht) rfl rfl rfl dX7_longest_11 (Nat.le_of_ble_eq_true rfl) ⟨Nat.zero_le _, Nat.zero_le _⟩ (Nat.le_of_ble_eq_true rfl) (Nat.le_of_ble_eq_true rfl) ok_40 rfl rfl rfl (fun _ => rfl) (fun _ => rfl) (fun _ => rfl) rfl (fun _ => rfl) rfl (fun t2 => ?_)
  refine XE_if_ne (t := 24) (n := 17) dX7_longest_14 rfl rfl (fun h71 => ?_) (fun h71 => ?_)
  · refine XE_aload_n (n := 18) dX7_longest_17 rfl rfl rfl ?_
    refine XE_bipush (v := (-2)) (n := 20) dX7_longest_18 rfl (by decide) ?_
    refine XE_callVi (ni := 1) (As := [.int (-2)]) (st2 := fun t70 => [.int t70.1]) (n := 23) (b := 0) xc_X7_138 (fun l t ht => met_X7_refuse l w1 (-2) t ht) rfl rfl rfl rfl dX7_longest_20 (Nat.le_of_ble_eq_true rfl) ⟨Nat.zero_le _, Nat.zero_le _⟩ (Nat.le_of_ble_eq_true rfl) (Nat.le_of_ble_eq_true rfl) (fun _ => rfl) rfl (fun t70 => ?_)
    exact XE_ireturn rfl dX7_longest_23 rfl (Nat.le_refl _) (Nat.le_refl _)
  · refine XE_bipush (v := (-9)) (n := 26) dX7_longest_24 rfl (by decide) ?_
    refine XE_istore_n (i := 2) (n := 27) dX7_longest_26 rfl rfl (Nat.le_of_ble_eq_true rfl) rfl ?_
    refine XE_bipush (v := (-9)) (n := 29) dX7_longest_27 rfl (by decide) ?_
    refine XE_istore_n (i := 3) (n := 30) dX7_longest_29 rfl rfl (Nat.le_of_ble_eq_true rfl) rfl ?_
    refine XE_iconst (v := 0) (n := 31) dX7_longest_30 rfl (by decide) ?_
    refine XE_istore (i := 4) (n := 33) dX7_longest_31 rfl (Nat.le_of_ble_eq_true rfl) rfl ?_
    refine XE_iconst (v := 0) (n := 34) dX7_longest_33 rfl (by decide) ?_
    refine XE_istore (i := 5) (n := 36) dX7_longest_34 rfl (Nat.le_of_ble_eq_true rfl) rfl ?_
    refine XE_ls (x_sub_ok (ls' := [(0, some (.ref 0)), (1, some (.int a1)), (2, some (.int (-9))), (3, some (.int (-9))), (4, some (.int 0)), (5, some (.int 0))]) ⟨rfl, rfl, rfl, rfl, rfl, rfl, trivial⟩) ?_
    refine XE_reg (J := 227) (lsJ := fun t66 => [(1, some (.int a1)), (2, some (.int t66.1)), (3, some (.int t66.2.1)), (4, some (.int t66.2.2))]) (stJ := fun t66 => []) (hsJ := fun t66 => [w1]) (fun t66 => ?_) (fun hJ69 => f_X7_longest_L36_x B a1 w1 hJ69 6000 ((-9) : Int32) ((-9) : Int32) (0 : Int32) (0 : Int32))
    refine XE_iload_n (n := 228) dX7_longest_227 rfl rfl rfl ?_
    refine XE_if_ne (t := 235) (n := 231) dX7_longest_228 rfl rfl (fun h68 => ?_) (fun h68 => ?_)
    · refine XE_iload_n (n := 232) dX7_longest_231 rfl rfl rfl ?_
      refine XE_goto (n := 246) dX7_longest_232 rfl ?_
      exact XE_ireturn rfl dX7_longest_246 rfl (Nat.le_refl _) (Nat.le_refl _)
    · refine XE_iload_n (n := 236) dX7_longest_235 rfl rfl rfl ?_
      refine XE_iconst (v := 1) (n := 237) dX7_longest_236 rfl (by decide) ?_
      refine XE_icmp_ne (t := 244) (n := 240) dX7_longest_237 rfl rfl (fun h67 => ?_) (fun h67 => ?_)
      · refine XE_iload_n (n := 241) dX7_longest_240 rfl rfl rfl ?_
        refine XE_goto (n := 246) dX7_longest_241 rfl ?_
        exact XE_ireturn rfl dX7_longest_246 rfl (Nat.le_refl _) (Nat.le_refl _)
      · refine XE_iload (n := 246) dX7_longest_244 rfl rfl ?_
        exact XE_ireturn rfl dX7_longest_246 rfl (Nat.le_refl _) (Nat.le_refl _)
theorem met_X7_longest (l : Launch) (m0 : Mem) (a1 : Int32) (t : Int32 × Mem) (ht : f_X7_longest m0 a1 = some t) : XMet l yX7_longest cX7_longest 8 (some .int) 2 0 0 [.ref 0, .int a1] SH_M [m0] SH_M (some (.int t.1), [t.2]) := XMet.of (by decide +kernel) (fun _ => Nat.le_of_ble_eq_true rfl) (fun B => xe_X7_longest B m0 a1) (by rw [ht]; rfl)
/-! X7_mean: EveryTwentyMinutesModel.mean(I)J in world M at (0,) -/
abbrev M_X7_mean : XM := (RX7, cX7_mean, 3, (some .long), "mean", 6, 0, 0)
def f_X7_mean (m0 : Mem) (a1 : Int32) : Option (Int64 × Mem) :=
  lt (xs m0 0 14 0) fun w1 =>
  (f_X7_in ((a1 : Int32).toInt64) 0 1).bind fun t2 =>
  if t2 = 0 then
    (f_X7_refuse w1 (-2)).bind fun t8 =>
    some ((4000000000000000000 - ((t8.1 : Int32).toInt64)), t8.2)
  else
    (f_X7_think w1).bind fun t3 =>
    (f_X7_lateNow t3).bind fun t4 =>
    lt t4.1 fun v5 =>
    (f_X7_again t4.2).bind fun t6 =>
    (f_X7_partOf ((v5 : Int32).toInt64) (((t6 0 0) : Int32).toInt64) a1).bind fun t7 =>
    some (t7, t6)
set_option maxRecDepth 100000 in
theorem xe_X7_mean (B : XB) (m0 : Mem) (a1 : Int32) : XE B M_X7_mean (XQm B 0 0 SH_M) 0 [(0, some (.ref 0)), (1, some (.int a1))] [] (0, 0) SH_M [m0] (fun t => some (some (.long t.1), [t.2])) (f_X7_mean m0 a1) := by
  unfold f_X7_mean
  refine XE_aload_n (n := 1) dX7_mean_0 rfl rfl rfl ?_
  refine XE_iconst (v := 0) (n := 2) dX7_mean_1 rfl (by decide) ?_
  refine XE_putf (hs2 := fun w1 => [w1]) (n := 5) xf_X7_76 rfl rfl rfl rfl (Nat.le_of_ble_eq_true rfl) (fun _ => rfl) dX7_mean_2 rfl (fun w1 => ?_)
  refine XE_iload_n (n := 6) dX7_mean_5 rfl rfl rfl ?_
  refine XE_i2l (n := 7) dX7_mean_6 rfl ?_
  refine XE_lconst (v := 0) (n := 8) dX7_mean_7 rfl (by decide) ?_
  refine XE_lconst (v := 1) (n := 9) dX7_mean_8 rfl (by decide) ?_
  refine XE_callS (ni := 3) (As := [.long ((a1 : Int32).toInt64), .long 0, .long 1]) (π := []) (co := [0]) (cv := [w1]) (nn := 1) (hs2 := fun t2 => [w1]) (st2 := fun t2 => [.int t2]) (n := 12) xc_X7_86 (fun l t ht => met_X7_in l ((a1 : Int32).toInt64) 0 1 t ht) rfl rfl rfl dX7_mean_9 (Nat.le_of_ble_eq_true rfl) ⟨Nat.zero_le _, Nat.zero_le _⟩ (Nat.le_of_ble_eq_true rfl) (Nat.le_of_ble_eq_true rfl) ok_40 rfl rfl rfl (fun _ => rfl) (fun _ => rfl) (fun _ => rfl) rfl (fun _ => rfl) rfl (fun t2 => ?_)
  refine XE_if_ne (t := 27) (n := 15) dX7_mean_12 rfl rfl (fun h9 => ?_) (fun h9 => ?_)
  · refine XE_ldc2 (n := 18) dX7_mean_15 rfl xk_X7_294 ?_
    refine XE_aload_n (n := 19) dX7_mean_18 rfl rfl rfl ?_
    refine XE_bipush (v := (-2)) (n := 21) dX7_mean_19 rfl (by decide) ?_
    refine XE_callVi (ni := 1) (As := [.int (-2)]) (st2 := fun t8 => [.int t8.1, .long 4000000000000000000]) (n := 24) (b := 0) xc_X7_138 (fun l t ht => met_X7_refuse l w1 (-2) t ht) rfl rfl rfl rfl dX7_mean_21 (Nat.le_of_ble_eq_true rfl) ⟨Nat.zero_le _, Nat.zero_le _⟩ (Nat.le_of_ble_eq_true rfl) (Nat.le_of_ble_eq_true rfl) (fun _ => rfl) rfl (fun t8 => ?_)
    refine XE_i2l (n := 25) dX7_mean_24 rfl ?_
    refine XE_lsub (n := 26) dX7_mean_25 rfl ?_
    exact XE_lreturn rfl dX7_mean_26 rfl (Nat.le_refl _) (Nat.le_refl _)
  · refine XE_aload_n (n := 28) dX7_mean_27 rfl rfl rfl ?_
    refine XE_callVi (ni := 0) (As := []) (st2 := fun t3 => []) (n := 31) (b := 0) xc_X7_194 (fun l t ht => met_X7_think l w1 t ht) rfl rfl rfl rfl dX7_mean_28 (Nat.le_of_ble_eq_true rfl) ⟨Nat.zero_le _, Nat.zero_le _⟩ (Nat.le_of_ble_eq_true rfl) (Nat.le_of_ble_eq_true rfl) (fun _ => rfl) rfl (fun t3 => ?_)
    refine XE_aload_n (n := 32) dX7_mean_31 rfl rfl rfl ?_
    refine XE_callVi (ni := 0) (As := []) (st2 := fun t4 => [.int t4.1]) (n := 35) (b := 0) xc_X7_274 (fun l t ht => met_X7_lateNow l t3 t ht) rfl rfl rfl rfl dX7_mean_32 (Nat.le_of_ble_eq_true rfl) ⟨Nat.zero_le _, Nat.zero_le _⟩ (Nat.le_of_ble_eq_true rfl) (Nat.le_of_ble_eq_true rfl) (fun _ => rfl) rfl (fun t4 => ?_)
    refine XE_topi (fun v5 => ?_)
    refine XE_istore_n (i := 2) (n := 36) dX7_mean_35 rfl rfl (Nat.le_of_ble_eq_true rfl) rfl ?_
    refine XE_aload_n (n := 37) dX7_mean_36 rfl rfl rfl ?_
    refine XE_callVi (ni := 0) (As := []) (st2 := fun t6 => []) (n := 40) (b := 0) xc_X7_200 (fun l t ht => met_X7_again l t4.2 t ht) rfl rfl rfl rfl dX7_mean_37 (Nat.le_of_ble_eq_true rfl) ⟨Nat.zero_le _, Nat.zero_le _⟩ (Nat.le_of_ble_eq_true rfl) (Nat.le_of_ble_eq_true rfl) (fun _ => rfl) rfl (fun t6 => ?_)
    refine XE_iload_n (n := 41) dX7_mean_40 rfl rfl rfl ?_
    refine XE_i2l (n := 42) dX7_mean_41 rfl ?_
    refine XE_aload_n (n := 43) dX7_mean_42 rfl rfl rfl ?_
    refine XE_getf (v := t6 0 0) (n := 46) xf_X7_83 rfl rfl rfl dX7_mean_43 rfl ?_
    refine XE_i2l (n := 47) dX7_mean_46 rfl ?_
    refine XE_iload_n (n := 48) dX7_mean_47 rfl rfl rfl ?_
    refine XE_callS (ni := 3) (As := [.long ((v5 : Int32).toInt64), .long (((t6 0 0) : Int32).toInt64), .int a1]) (π := []) (co := [0]) (cv := [t6]) (nn := 1) (hs2 := fun t7 => [t6]) (st2 := fun t7 => [.long t7]) (n := 51) xc_X7_296 (fun l t ht => met_X7_partOf l ((v5 : Int32).toInt64) (((t6 0 0) : Int32).toInt64) a1 t ht) rfl rfl rfl dX7_mean_48 (Nat.le_of_ble_eq_true rfl) ⟨Nat.zero_le _, Nat.zero_le _⟩ (Nat.le_of_ble_eq_true rfl) (Nat.le_of_ble_eq_true rfl) ok_40 rfl rfl rfl (fun _ => rfl) (fun _ => rfl) (fun _ => rfl) rfl (fun _ => rfl) rfl (fun t7 => ?_)
    exact XE_lreturn rfl dX7_mean_51 rfl (Nat.le_refl _) (Nat.le_refl _)
theorem met_X7_mean (l : Launch) (m0 : Mem) (a1 : Int32) (t : Int64 × Mem) (ht : f_X7_mean m0 a1 = some t) : XMet l yX7_mean cX7_mean 3 (some .long) 6 0 0 [.ref 0, .int a1] SH_M [m0] SH_M (some (.long t.1), [t.2]) := XMet.of (by decide +kernel) (fun _ => Nat.le_of_ble_eq_true rfl) (fun B => xe_X7_mean B m0 a1) (by rw [ht]; rfl)
/-! X7_early: EveryTwentyMinutesModel.early()I in world M at (0,) -/
abbrev M_X7_early : XM := (RX7, cX7_early, 3, (some .int), "early", 5, 0, 0)
def f_X7_early_L17 (t3 : (Mem)) : Nat → Int32 → Int32 → Option (Int32)
  | 0, _, _ => none
  | n + 1, v4, v5 =>
    if (t3 0 0) ≤ v5 then
      some (v4)
    else
      ck (inb v5 7) <|
      ck (inb v5 7) <|
      if (t3 3 (ix v5)) ≤ (t3 5 (ix v5)) then
        lt (v4 ||| 0) fun v6 =>
        lt (v5 + 1) fun v7 =>
        (f_X7_early_L17 t3 n) v6 v7
      else
        lt (v4 ||| (1 <<< (v5 &&& 31))) fun v8 =>
        lt (v5 + 1) fun v9 =>
        (f_X7_early_L17 t3 n) v8 v9
def f_X7_early (m0 : Mem) : Option (Int32 × Mem) :=
  lt (xs m0 0 14 0) fun w1 =>
  (f_X7_think w1).bind fun t2 =>
  (f_X7_wedAll t2).bind fun t3 =>
  (f_X7_early_L17 t3 6000 (0 : Int32) (0 : Int32)).bind fun t12 =>
  (f_X7_again t3).bind fun t13 =>
  some (t12, t13)
set_option maxRecDepth 100000 in
theorem f_X7_early_L17_x {α R : Type} (B : XB) {Q : R → State → Prop} {k : α → Option R} {r : (Int32) → Option α} (t3 : (Mem)) (hE : ∀ t0 : (Int32), XE B M_X7_early Q 56 [(0, some (.ref 0)), (1, some (.int t0))] [] (0, 0) SH_M [t3] (fun t => (r t).bind k) (some t0)) : ∀ (n : Nat) (v4 : Int32) (v5 : Int32), XE B M_X7_early Q 17 [(0, some (.ref 0)), (1, some (.int v4)), (2, some (.int v5))] [] (0, 0) SH_M [t3] (fun t => (r t).bind k) (f_X7_early_L17 t3 n v4 v5) := by
  intro n
  induction n with
  | zero => intros; exact XE_none
  | succ n ih =>
    intro v4 v5
    rw [f_X7_early_L17]
    refine XE_iload_n (n := 18) dX7_early_17 rfl rfl rfl ?_
    refine XE_aload_n (n := 19) dX7_early_18 rfl rfl rfl ?_
    refine XE_getf (v := t3 0 0) (n := 22) xf_X7_83 rfl rfl rfl dX7_early_19 rfl ?_
    refine XE_icmp_ge (t := 56) (n := 25) dX7_early_22 rfl rfl (fun h11 => ?_) (fun h11 => ?_)
    · refine XE_ls (x_sub_ok (ls' := [(0, some (.ref 0)), (1, some (.int v4))]) ⟨rfl, rfl, trivial⟩) ?_
      exact hE (v4)
    · refine XE_iload_n (n := 26) dX7_early_25 rfl rfl rfl ?_
      refine XE_aload_n (n := 27) dX7_early_26 rfl rfl rfl ?_
      refine XE_getr (b := 5) (n := 30) xf_X7_22 rfl rfl dX7_early_27 rfl ?_
      refine XE_iload_n (n := 31) dX7_early_30 rfl rfl rfl ?_
      refine XE_iald (row := t3 5) (n := 32) rfl rfl dX7_early_31 rfl ?_
      refine XE_aload_n (n := 33) dX7_early_32 rfl rfl rfl ?_
      refine XE_getr (b := 3) (n := 36) xf_X7_16 rfl rfl dX7_early_33 rfl ?_
      refine XE_iload_n (n := 37) dX7_early_36 rfl rfl rfl ?_
      refine XE_iald (row := t3 3) (n := 38) rfl rfl dX7_early_37 rfl ?_
      refine XE_icmp_ge (t := 47) (n := 41) dX7_early_38 rfl rfl (fun h10 => ?_) (fun h10 => ?_)
      · refine XE_iconst (v := 0) (n := 48) dX7_early_47 rfl (by decide) ?_
        refine XE_ior (n := 49) dX7_early_48 rfl ?_
        refine XE_topi (fun v6 => ?_)
        refine XE_istore_n (i := 1) (n := 50) dX7_early_49 rfl rfl (Nat.le_of_ble_eq_true rfl) rfl ?_
        refine XE_iincl (n := 53) dX7_early_50 rfl rfl (by decide) (Nat.le_of_ble_eq_true rfl) rfl (fun v7 => ?_)
        refine XE_goto (n := 17) dX7_early_53 rfl ?_
        refine XE_ls (x_sub_ok (ls' := [(0, some (.ref 0)), (1, some (.int v6)), (2, some (.int v7))]) ⟨rfl, rfl, rfl, trivial⟩) ?_
        exact ih v6 v7
      · refine XE_iconst (v := 1) (n := 42) dX7_early_41 rfl (by decide) ?_
        refine XE_iload_n (n := 43) dX7_early_42 rfl rfl rfl ?_
        refine XE_ishl (n := 44) dX7_early_43 rfl ?_
        refine XE_goto (n := 48) dX7_early_44 rfl ?_
        refine XE_ior (n := 49) dX7_early_48 rfl ?_
        refine XE_topi (fun v8 => ?_)
        refine XE_istore_n (i := 1) (n := 50) dX7_early_49 rfl rfl (Nat.le_of_ble_eq_true rfl) rfl ?_
        refine XE_iincl (n := 53) dX7_early_50 rfl rfl (by decide) (Nat.le_of_ble_eq_true rfl) rfl (fun v9 => ?_)
        refine XE_goto (n := 17) dX7_early_53 rfl ?_
        refine XE_ls (x_sub_ok (ls' := [(0, some (.ref 0)), (1, some (.int v8)), (2, some (.int v9))]) ⟨rfl, rfl, rfl, trivial⟩) ?_
        exact ih v8 v9
set_option maxRecDepth 100000 in
theorem xe_X7_early (B : XB) (m0 : Mem) : XE B M_X7_early (XQm B 0 0 SH_M) 0 [(0, some (.ref 0))] [] (0, 0) SH_M [m0] (fun t => some (some (.int t.1), [t.2])) (f_X7_early m0) := by
  unfold f_X7_early
  refine XE_aload_n (n := 1) dX7_early_0 rfl rfl rfl ?_
  refine XE_iconst (v := 0) (n := 2) dX7_early_1 rfl (by decide) ?_
  refine XE_putf (hs2 := fun w1 => [w1]) (n := 5) xf_X7_76 rfl rfl rfl rfl (Nat.le_of_ble_eq_true rfl) (fun _ => rfl) dX7_early_2 rfl (fun w1 => ?_)
  refine XE_iconst (v := 0) (n := 6) dX7_early_5 rfl (by decide) ?_
  refine XE_istore_n (i := 1) (n := 7) dX7_early_6 rfl rfl (Nat.le_of_ble_eq_true rfl) rfl ?_
  refine XE_aload_n (n := 8) dX7_early_7 rfl rfl rfl ?_
  refine XE_callVi (ni := 0) (As := []) (st2 := fun t2 => []) (n := 11) (b := 0) xc_X7_194 (fun l t ht => met_X7_think l w1 t ht) rfl rfl rfl rfl dX7_early_8 (Nat.le_of_ble_eq_true rfl) ⟨Nat.zero_le _, Nat.zero_le _⟩ (Nat.le_of_ble_eq_true rfl) (Nat.le_of_ble_eq_true rfl) (fun _ => rfl) rfl (fun t2 => ?_)
  refine XE_aload_n (n := 12) dX7_early_11 rfl rfl rfl ?_
  refine XE_callVi (ni := 0) (As := []) (st2 := fun t3 => []) (n := 15) (b := 0) xc_X7_243 (fun l t ht => met_X7_wedAll l t2 t ht) rfl rfl rfl rfl dX7_early_12 (Nat.le_of_ble_eq_true rfl) ⟨Nat.zero_le _, Nat.zero_le _⟩ (Nat.le_of_ble_eq_true rfl) (Nat.le_of_ble_eq_true rfl) (fun _ => rfl) rfl (fun t3 => ?_)
  refine XE_iconst (v := 0) (n := 16) dX7_early_15 rfl (by decide) ?_
  refine XE_istore_n (i := 2) (n := 17) dX7_early_16 rfl rfl (Nat.le_of_ble_eq_true rfl) rfl ?_
  refine XE_ls (x_sub_ok (ls' := [(0, some (.ref 0)), (1, some (.int 0)), (2, some (.int 0))]) ⟨rfl, rfl, rfl, trivial⟩) ?_
  refine XE_reg (J := 56) (lsJ := fun t12 => [(0, some (.ref 0)), (1, some (.int t12))]) (stJ := fun t12 => []) (hsJ := fun t12 => [t3]) (fun t12 => ?_) (fun hJ14 => f_X7_early_L17_x B t3 hJ14 6000 (0 : Int32) (0 : Int32))
  refine XE_aload_n (n := 57) dX7_early_56 rfl rfl rfl ?_
  refine XE_callVi (ni := 0) (As := []) (st2 := fun t13 => []) (n := 60) (b := 0) xc_X7_200 (fun l t ht => met_X7_again l t3 t ht) rfl rfl rfl rfl dX7_early_57 (Nat.le_of_ble_eq_true rfl) ⟨Nat.zero_le _, Nat.zero_le _⟩ (Nat.le_of_ble_eq_true rfl) (Nat.le_of_ble_eq_true rfl) (fun _ => rfl) rfl (fun t13 => ?_)
  refine XE_iload_n (n := 61) dX7_early_60 rfl rfl rfl ?_
  exact XE_ireturn rfl dX7_early_61 rfl (Nat.le_refl _) (Nat.le_refl _)
theorem met_X7_early (l : Launch) (m0 : Mem) (t : Int32 × Mem) (ht : f_X7_early m0 = some t) : XMet l yX7_early cX7_early 3 (some .int) 5 0 0 [.ref 0] SH_M [m0] SH_M (some (.int t.1), [t.2]) := XMet.of (by decide +kernel) (fun _ => Nat.le_of_ble_eq_true rfl) (fun B => xe_X7_early B m0) (by rw [ht]; rfl)
/-! X7_worst: EveryTwentyMinutesModel.worst()I in world M at (0,) -/
abbrev M_X7_worst : XM := (RX7, cX7_worst, 4, (some .int), "worst", 5, 0, 0)
def f_X7_worst_L20 (t3 : (Mem)) : Nat → Int32 → Int32 → Int32 → Option (Int32)
  | 0, _, _, _ => none
  | n + 1, v4, v5, v6 =>
    if (t3 0 0) ≤ v6 then
      some (v4)
    else
      (f_X7_lateOf t3 v6).bind fun t7 =>
      lt (if t7 ≤ v5 then
          (v4)
        else
          (v6)) fun t10 =>
      (f_X7_lateOf t3 v6).bind fun t11 =>
      (f_X7_most v5 t11).bind fun t12 =>
      lt (v6 + 1) fun v13 =>
      (f_X7_worst_L20 t3 n) t10 t12 v13
def f_X7_worst (m0 : Mem) : Option (Int32 × Mem) :=
  lt (xs m0 0 14 0) fun w1 =>
  (f_X7_think w1).bind fun t2 =>
  (f_X7_wedAll t2).bind fun t3 =>
  (f_X7_worst_L20 t3 6000 ((-9) : Int32) (0 : Int32) (0 : Int32)).bind fun t15 =>
  (f_X7_again t3).bind fun t16 =>
  some (t15, t16)
set_option maxRecDepth 100000 in
theorem f_X7_worst_L20_x {α R : Type} (B : XB) {Q : R → State → Prop} {k : α → Option R} {r : (Int32) → Option α} (t3 : (Mem)) (hE : ∀ t0 : (Int32), XE B M_X7_worst Q 59 [(0, some (.ref 0)), (1, some (.int t0))] [] (0, 0) SH_M [t3] (fun t => (r t).bind k) (some t0)) : ∀ (n : Nat) (v4 : Int32) (v5 : Int32) (v6 : Int32), XE B M_X7_worst Q 20 [(0, some (.ref 0)), (1, some (.int v4)), (2, some (.int v5)), (3, some (.int v6))] [] (0, 0) SH_M [t3] (fun t => (r t).bind k) (f_X7_worst_L20 t3 n v4 v5 v6) := by
  intro n
  induction n with
  | zero => intros; exact XE_none
  | succ n ih =>
    intro v4 v5 v6
    rw [f_X7_worst_L20]
    refine XE_iload_n (n := 21) dX7_worst_20 rfl rfl rfl ?_
    refine XE_aload_n (n := 22) dX7_worst_21 rfl rfl rfl ?_
    refine XE_getf (v := t3 0 0) (n := 25) xf_X7_83 rfl rfl rfl dX7_worst_22 rfl ?_
    refine XE_icmp_ge (t := 59) (n := 28) dX7_worst_25 rfl rfl (fun h14 => ?_) (fun h14 => ?_)
    · refine XE_ls (x_sub_ok (ls' := [(0, some (.ref 0)), (1, some (.int v4))]) ⟨rfl, rfl, trivial⟩) ?_
      exact hE (v4)
    · refine XE_aload_n (n := 29) dX7_worst_28 rfl rfl rfl ?_
      refine XE_iload_n (n := 30) dX7_worst_29 rfl rfl rfl ?_
      refine XE_callVi (ni := 1) (As := [.int v6]) (st2 := fun t7 => [.int t7]) (n := 33) (b := 0) xc_X7_121 (fun l t ht => met_X7_lateOf l t3 v6 t ht) rfl rfl rfl rfl dX7_worst_30 (Nat.le_of_ble_eq_true rfl) ⟨Nat.zero_le _, Nat.zero_le _⟩ (Nat.le_of_ble_eq_true rfl) (Nat.le_of_ble_eq_true rfl) (fun _ => rfl) rfl (fun t7 => ?_)
      refine XE_iload_n (n := 34) dX7_worst_33 rfl rfl rfl ?_
      refine XE_regv (J := 42) (lsJ := fun t10 => [(0, some (.ref 0)), (2, some (.int v5)), (3, some (.int v6))]) (stJ := fun t10 => [.int t10]) (hsJ := fun t10 => [t3]) (fun t10 => ?_) (fun hJ8 => ?_)
      · refine XE_istore_n (i := 1) (n := 43) dX7_worst_42 rfl rfl (Nat.le_of_ble_eq_true rfl) rfl ?_
        refine XE_iload_n (n := 44) dX7_worst_43 rfl rfl rfl ?_
        refine XE_aload_n (n := 45) dX7_worst_44 rfl rfl rfl ?_
        refine XE_iload_n (n := 46) dX7_worst_45 rfl rfl rfl ?_
        refine XE_callVi (ni := 1) (As := [.int v6]) (st2 := fun t11 => [.int t11, .int v5]) (n := 49) (b := 0) xc_X7_121 (fun l t ht => met_X7_lateOf l t3 v6 t ht) rfl rfl rfl rfl dX7_worst_46 (Nat.le_of_ble_eq_true rfl) ⟨Nat.zero_le _, Nat.zero_le _⟩ (Nat.le_of_ble_eq_true rfl) (Nat.le_of_ble_eq_true rfl) (fun _ => rfl) rfl (fun t11 => ?_)
        refine XE_callS (ni := 2) (As := [.int v5, .int t11]) (π := []) (co := [0]) (cv := [t3]) (nn := 1) (hs2 := fun t12 => [t3]) (st2 := fun t12 => [.int t12]) (n := 52) xc_X7_90 (fun l t ht => met_X7_most l v5 t11 t ht) rfl rfl rfl dX7_worst_49 (Nat.le_of_ble_eq_true rfl) ⟨Nat.zero_le _, Nat.zero_le _⟩ (Nat.le_of_ble_eq_true rfl) (Nat.le_of_ble_eq_true rfl) ok_40 rfl rfl rfl (fun _ => rfl) (fun _ => rfl) (fun _ => rfl) rfl (fun _ => rfl) rfl (fun t12 => ?_)
        refine XE_istore_n (i := 2) (n := 53) dX7_worst_52 rfl rfl (Nat.le_of_ble_eq_true rfl) rfl ?_
        refine XE_iincl (n := 56) dX7_worst_53 rfl rfl (by decide) (Nat.le_of_ble_eq_true rfl) rfl (fun v13 => ?_)
        refine XE_goto (n := 20) dX7_worst_56 rfl ?_
        refine XE_ls (x_sub_ok (ls' := [(0, some (.ref 0)), (1, some (.int t10)), (2, some (.int t12)), (3, some (.int v13))]) ⟨rfl, rfl, rfl, rfl, trivial⟩) ?_
        exact ih t10 t12 v13
      · refine XE_ltif ?_
        refine XE_icmp_le (t := 41) (n := 37) dX7_worst_34 rfl rfl (fun h9 => ?_) (fun h9 => ?_)
        · refine XE_iload_n (n := 42) dX7_worst_41 rfl rfl rfl ?_
          refine XE_ls (x_sub_ok (ls' := [(0, some (.ref 0)), (2, some (.int v5)), (3, some (.int v6))]) ⟨rfl, rfl, rfl, trivial⟩) ?_
          exact hJ8 (v4)
        · refine XE_iload_n (n := 38) dX7_worst_37 rfl rfl rfl ?_
          refine XE_goto (n := 42) dX7_worst_38 rfl ?_
          refine XE_ls (x_sub_ok (ls' := [(0, some (.ref 0)), (2, some (.int v5)), (3, some (.int v6))]) ⟨rfl, rfl, rfl, trivial⟩) ?_
          exact hJ8 (v6)
set_option maxRecDepth 100000 in
theorem xe_X7_worst (B : XB) (m0 : Mem) : XE B M_X7_worst (XQm B 0 0 SH_M) 0 [(0, some (.ref 0))] [] (0, 0) SH_M [m0] (fun t => some (some (.int t.1), [t.2])) (f_X7_worst m0) := by
  unfold f_X7_worst
  refine XE_aload_n (n := 1) dX7_worst_0 rfl rfl rfl ?_
  refine XE_iconst (v := 0) (n := 2) dX7_worst_1 rfl (by decide) ?_
  refine XE_putf (hs2 := fun w1 => [w1]) (n := 5) xf_X7_76 rfl rfl rfl rfl (Nat.le_of_ble_eq_true rfl) (fun _ => rfl) dX7_worst_2 rfl (fun w1 => ?_)
  refine XE_bipush (v := (-9)) (n := 7) dX7_worst_5 rfl (by decide) ?_
  refine XE_istore_n (i := 1) (n := 8) dX7_worst_7 rfl rfl (Nat.le_of_ble_eq_true rfl) rfl ?_
  refine XE_iconst (v := 0) (n := 9) dX7_worst_8 rfl (by decide) ?_
  refine XE_istore_n (i := 2) (n := 10) dX7_worst_9 rfl rfl (Nat.le_of_ble_eq_true rfl) rfl ?_
  refine XE_aload_n (n := 11) dX7_worst_10 rfl rfl rfl ?_
  refine XE_callVi (ni := 0) (As := []) (st2 := fun t2 => []) (n := 14) (b := 0) xc_X7_194 (fun l t ht => met_X7_think l w1 t ht) rfl rfl rfl rfl dX7_worst_11 (Nat.le_of_ble_eq_true rfl) ⟨Nat.zero_le _, Nat.zero_le _⟩ (Nat.le_of_ble_eq_true rfl) (Nat.le_of_ble_eq_true rfl) (fun _ => rfl) rfl (fun t2 => ?_)
  refine XE_aload_n (n := 15) dX7_worst_14 rfl rfl rfl ?_
  refine XE_callVi (ni := 0) (As := []) (st2 := fun t3 => []) (n := 18) (b := 0) xc_X7_243 (fun l t ht => met_X7_wedAll l t2 t ht) rfl rfl rfl rfl dX7_worst_15 (Nat.le_of_ble_eq_true rfl) ⟨Nat.zero_le _, Nat.zero_le _⟩ (Nat.le_of_ble_eq_true rfl) (Nat.le_of_ble_eq_true rfl) (fun _ => rfl) rfl (fun t3 => ?_)
  refine XE_iconst (v := 0) (n := 19) dX7_worst_18 rfl (by decide) ?_
  refine XE_istore_n (i := 3) (n := 20) dX7_worst_19 rfl rfl (Nat.le_of_ble_eq_true rfl) rfl ?_
  refine XE_ls (x_sub_ok (ls' := [(0, some (.ref 0)), (1, some (.int (-9))), (2, some (.int 0)), (3, some (.int 0))]) ⟨rfl, rfl, rfl, rfl, trivial⟩) ?_
  refine XE_reg (J := 59) (lsJ := fun t15 => [(0, some (.ref 0)), (1, some (.int t15))]) (stJ := fun t15 => []) (hsJ := fun t15 => [t3]) (fun t15 => ?_) (fun hJ17 => f_X7_worst_L20_x B t3 hJ17 6000 ((-9) : Int32) (0 : Int32) (0 : Int32))
  refine XE_aload_n (n := 60) dX7_worst_59 rfl rfl rfl ?_
  refine XE_callVi (ni := 0) (As := []) (st2 := fun t16 => []) (n := 63) (b := 0) xc_X7_200 (fun l t ht => met_X7_again l t3 t ht) rfl rfl rfl rfl dX7_worst_60 (Nat.le_of_ble_eq_true rfl) ⟨Nat.zero_le _, Nat.zero_le _⟩ (Nat.le_of_ble_eq_true rfl) (Nat.le_of_ble_eq_true rfl) (fun _ => rfl) rfl (fun t16 => ?_)
  refine XE_iload_n (n := 64) dX7_worst_63 rfl rfl rfl ?_
  exact XE_ireturn rfl dX7_worst_64 rfl (Nat.le_refl _) (Nat.le_refl _)
theorem met_X7_worst (l : Launch) (m0 : Mem) (t : Int32 × Mem) (ht : f_X7_worst m0 = some t) : XMet l yX7_worst cX7_worst 4 (some .int) 5 0 0 [.ref 0] SH_M [m0] SH_M (some (.int t.1), [t.2]) := XMet.of (by decide +kernel) (fun _ => Nat.le_of_ble_eq_true rfl) (fun B => xe_X7_worst B m0) (by rw [ht]; rfl)
/-! X7_idle: EveryTwentyMinutesModel.idle()I in world M at (0,) -/
abbrev M_X7_idle : XM := (RX7, cX7_idle, 4, (some .int), "idle", 5, 0, 0)
def f_X7_idle_L22 (t3 : (Mem)) (t4 : (Int32)) : Nat → Int32 → Int32 → Option (Int32)
  | 0, _, _ => none
  | n + 1, v5, v6 =>
    if t4 ≤ v6 then
      some (v5)
    else
      (f_X7_insideAt t3 v6).bind fun t7 =>
      if t7 = 0 then
        lt (v5 + 1) fun v10 =>
        lt (v6 + 1) fun v11 =>
        (f_X7_idle_L22 t3 t4 n) v10 v11
      else
        lt (v5 + 0) fun v8 =>
        lt (v6 + 1) fun v9 =>
        (f_X7_idle_L22 t3 t4 n) v8 v9
def f_X7_idle (m0 : Mem) : Option (Int32 × Mem) :=
  lt (xs m0 0 14 0) fun w1 =>
  (f_X7_think w1).bind fun t2 =>
  (f_X7_wedAll t2).bind fun t3 =>
  (f_X7_lastEnd t3).bind fun t4 =>
  (f_X7_idle_L22 t3 t4 6000 (0 : Int32) (0 : Int32)).bind fun t14 =>
  (f_X7_again t3).bind fun t15 =>
  some (t14, t15)
set_option maxRecDepth 100000 in
theorem f_X7_idle_L22_x {α R : Type} (B : XB) {Q : R → State → Prop} {k : α → Option R} {r : (Int32) → Option α} (t3 : (Mem)) (t4 : (Int32)) (hE : ∀ t0 : (Int32), XE B M_X7_idle Q 49 [(0, some (.ref 0)), (1, some (.int t0))] [] (0, 0) SH_M [t3] (fun t => (r t).bind k) (some t0)) : ∀ (n : Nat) (v5 : Int32) (v6 : Int32), XE B M_X7_idle Q 22 [(0, some (.ref 0)), (1, some (.int v5)), (2, some (.int t4)), (3, some (.int v6))] [] (0, 0) SH_M [t3] (fun t => (r t).bind k) (f_X7_idle_L22 t3 t4 n v5 v6) := by
  intro n
  induction n with
  | zero => intros; exact XE_none
  | succ n ih =>
    intro v5 v6
    rw [f_X7_idle_L22]
    refine XE_iload_n (n := 23) dX7_idle_22 rfl rfl rfl ?_
    refine XE_iload_n (n := 24) dX7_idle_23 rfl rfl rfl ?_
    refine XE_icmp_ge (t := 49) (n := 27) dX7_idle_24 rfl rfl (fun h13 => ?_) (fun h13 => ?_)
    · refine XE_ls (x_sub_ok (ls' := [(0, some (.ref 0)), (1, some (.int v5))]) ⟨rfl, rfl, trivial⟩) ?_
      exact hE (v5)
    · refine XE_iload_n (n := 28) dX7_idle_27 rfl rfl rfl ?_
      refine XE_aload_n (n := 29) dX7_idle_28 rfl rfl rfl ?_
      refine XE_iload_n (n := 30) dX7_idle_29 rfl rfl rfl ?_
      refine XE_callVi (ni := 1) (As := [.int v6]) (st2 := fun t7 => [.int t7, .int v5]) (n := 33) (b := 0) xc_X7_283 (fun l t ht => met_X7_insideAt l t3 v6 t ht) rfl rfl rfl rfl dX7_idle_30 (Nat.le_of_ble_eq_true rfl) ⟨Nat.zero_le _, Nat.zero_le _⟩ (Nat.le_of_ble_eq_true rfl) (Nat.le_of_ble_eq_true rfl) (fun _ => rfl) rfl (fun t7 => ?_)
      refine XE_if_ne (t := 40) (n := 36) dX7_idle_33 rfl rfl (fun h12 => ?_) (fun h12 => ?_)
      · refine XE_iconst (v := 1) (n := 37) dX7_idle_36 rfl (by decide) ?_
        refine XE_goto (n := 41) dX7_idle_37 rfl ?_
        refine XE_iadd (n := 42) dX7_idle_41 rfl ?_
        refine XE_topi (fun v10 => ?_)
        refine XE_istore_n (i := 1) (n := 43) dX7_idle_42 rfl rfl (Nat.le_of_ble_eq_true rfl) rfl ?_
        refine XE_iincl (n := 46) dX7_idle_43 rfl rfl (by decide) (Nat.le_of_ble_eq_true rfl) rfl (fun v11 => ?_)
        refine XE_goto (n := 22) dX7_idle_46 rfl ?_
        refine XE_ls (x_sub_ok (ls' := [(0, some (.ref 0)), (1, some (.int v10)), (2, some (.int t4)), (3, some (.int v11))]) ⟨rfl, rfl, rfl, rfl, trivial⟩) ?_
        exact ih v10 v11
      · refine XE_iconst (v := 0) (n := 41) dX7_idle_40 rfl (by decide) ?_
        refine XE_iadd (n := 42) dX7_idle_41 rfl ?_
        refine XE_topi (fun v8 => ?_)
        refine XE_istore_n (i := 1) (n := 43) dX7_idle_42 rfl rfl (Nat.le_of_ble_eq_true rfl) rfl ?_
        refine XE_iincl (n := 46) dX7_idle_43 rfl rfl (by decide) (Nat.le_of_ble_eq_true rfl) rfl (fun v9 => ?_)
        refine XE_goto (n := 22) dX7_idle_46 rfl ?_
        refine XE_ls (x_sub_ok (ls' := [(0, some (.ref 0)), (1, some (.int v8)), (2, some (.int t4)), (3, some (.int v9))]) ⟨rfl, rfl, rfl, rfl, trivial⟩) ?_
        exact ih v8 v9
set_option maxRecDepth 100000 in
theorem xe_X7_idle (B : XB) (m0 : Mem) : XE B M_X7_idle (XQm B 0 0 SH_M) 0 [(0, some (.ref 0))] [] (0, 0) SH_M [m0] (fun t => some (some (.int t.1), [t.2])) (f_X7_idle m0) := by
  unfold f_X7_idle
  refine XE_aload_n (n := 1) dX7_idle_0 rfl rfl rfl ?_
  refine XE_iconst (v := 0) (n := 2) dX7_idle_1 rfl (by decide) ?_
  refine XE_putf (hs2 := fun w1 => [w1]) (n := 5) xf_X7_76 rfl rfl rfl rfl (Nat.le_of_ble_eq_true rfl) (fun _ => rfl) dX7_idle_2 rfl (fun w1 => ?_)
  refine XE_iconst (v := 0) (n := 6) dX7_idle_5 rfl (by decide) ?_
  refine XE_istore_n (i := 1) (n := 7) dX7_idle_6 rfl rfl (Nat.le_of_ble_eq_true rfl) rfl ?_
  refine XE_aload_n (n := 8) dX7_idle_7 rfl rfl rfl ?_
  refine XE_callVi (ni := 0) (As := []) (st2 := fun t2 => []) (n := 11) (b := 0) xc_X7_194 (fun l t ht => met_X7_think l w1 t ht) rfl rfl rfl rfl dX7_idle_8 (Nat.le_of_ble_eq_true rfl) ⟨Nat.zero_le _, Nat.zero_le _⟩ (Nat.le_of_ble_eq_true rfl) (Nat.le_of_ble_eq_true rfl) (fun _ => rfl) rfl (fun t2 => ?_)
  refine XE_aload_n (n := 12) dX7_idle_11 rfl rfl rfl ?_
  refine XE_callVi (ni := 0) (As := []) (st2 := fun t3 => []) (n := 15) (b := 0) xc_X7_243 (fun l t ht => met_X7_wedAll l t2 t ht) rfl rfl rfl rfl dX7_idle_12 (Nat.le_of_ble_eq_true rfl) ⟨Nat.zero_le _, Nat.zero_le _⟩ (Nat.le_of_ble_eq_true rfl) (Nat.le_of_ble_eq_true rfl) (fun _ => rfl) rfl (fun t3 => ?_)
  refine XE_aload_n (n := 16) dX7_idle_15 rfl rfl rfl ?_
  refine XE_callVi (ni := 0) (As := []) (st2 := fun t4 => [.int t4]) (n := 19) (b := 0) xc_X7_250 (fun l t ht => met_X7_lastEnd l t3 t ht) rfl rfl rfl rfl dX7_idle_16 (Nat.le_of_ble_eq_true rfl) ⟨Nat.zero_le _, Nat.zero_le _⟩ (Nat.le_of_ble_eq_true rfl) (Nat.le_of_ble_eq_true rfl) (fun _ => rfl) rfl (fun t4 => ?_)
  refine XE_istore_n (i := 2) (n := 20) dX7_idle_19 rfl rfl (Nat.le_of_ble_eq_true rfl) rfl ?_
  refine XE_iconst (v := 0) (n := 21) dX7_idle_20 rfl (by decide) ?_
  refine XE_istore_n (i := 3) (n := 22) dX7_idle_21 rfl rfl (Nat.le_of_ble_eq_true rfl) rfl ?_
  refine XE_ls (x_sub_ok (ls' := [(0, some (.ref 0)), (1, some (.int 0)), (2, some (.int t4)), (3, some (.int 0))]) ⟨rfl, rfl, rfl, rfl, trivial⟩) ?_
  refine XE_reg (J := 49) (lsJ := fun t14 => [(0, some (.ref 0)), (1, some (.int t14))]) (stJ := fun t14 => []) (hsJ := fun t14 => [t3]) (fun t14 => ?_) (fun hJ16 => f_X7_idle_L22_x B t3 t4 hJ16 6000 (0 : Int32) (0 : Int32))
  refine XE_aload_n (n := 50) dX7_idle_49 rfl rfl rfl ?_
  refine XE_callVi (ni := 0) (As := []) (st2 := fun t15 => []) (n := 53) (b := 0) xc_X7_200 (fun l t ht => met_X7_again l t3 t ht) rfl rfl rfl rfl dX7_idle_50 (Nat.le_of_ble_eq_true rfl) ⟨Nat.zero_le _, Nat.zero_le _⟩ (Nat.le_of_ble_eq_true rfl) (Nat.le_of_ble_eq_true rfl) (fun _ => rfl) rfl (fun t15 => ?_)
  refine XE_iload_n (n := 54) dX7_idle_53 rfl rfl rfl ?_
  exact XE_ireturn rfl dX7_idle_54 rfl (Nat.le_refl _) (Nat.le_refl _)
theorem met_X7_idle (l : Launch) (m0 : Mem) (t : Int32 × Mem) (ht : f_X7_idle m0 = some t) : XMet l yX7_idle cX7_idle 4 (some .int) 5 0 0 [.ref 0] SH_M [m0] SH_M (some (.int t.1), [t.2]) := XMet.of (by decide +kernel) (fun _ => Nat.le_of_ble_eq_true rfl) (fun B => xe_X7_idle B m0) (by rw [ht]; rfl)
/-! X7_span: EveryTwentyMinutesModel.span()I in world M at (0,) -/
abbrev M_X7_span : XM := (RX7, cX7_span, 3, (some .int), "span", 5, 0, 0)
def f_X7_span_L17 (t3 : (Mem)) : Nat → Int32 → Int32 → Option (Int32)
  | 0, _, _ => none
  | n + 1, v4, v5 =>
    if (t3 0 0) ≤ v5 then
      some (v4)
    else
      ck (inb v5 7) <|
      (f_X7_readyOf t3 v5).bind fun t6 =>
      (f_X7_most v4 ((t3 5 (ix v5)) - t6)).bind fun t7 =>
      lt (v5 + 1) fun v8 =>
      (f_X7_span_L17 t3 n) t7 v8
def f_X7_span (m0 : Mem) : Option (Int32 × Mem) :=
  lt (xs m0 0 14 0) fun w1 =>
  (f_X7_think w1).bind fun t2 =>
  (f_X7_wedAll t2).bind fun t3 =>
  (f_X7_span_L17 t3 6000 (0 : Int32) (0 : Int32)).bind fun t10 =>
  (f_X7_again t3).bind fun t11 =>
  some (t10, t11)
set_option maxRecDepth 100000 in
theorem f_X7_span_L17_x {α R : Type} (B : XB) {Q : R → State → Prop} {k : α → Option R} {r : (Int32) → Option α} (t3 : (Mem)) (hE : ∀ t0 : (Int32), XE B M_X7_span Q 48 [(0, some (.ref 0)), (1, some (.int t0))] [] (0, 0) SH_M [t3] (fun t => (r t).bind k) (some t0)) : ∀ (n : Nat) (v4 : Int32) (v5 : Int32), XE B M_X7_span Q 17 [(0, some (.ref 0)), (1, some (.int v4)), (2, some (.int v5))] [] (0, 0) SH_M [t3] (fun t => (r t).bind k) (f_X7_span_L17 t3 n v4 v5) := by
  intro n
  induction n with
  | zero => intros; exact XE_none
  | succ n ih =>
    intro v4 v5
    rw [f_X7_span_L17]
    refine XE_iload_n (n := 18) dX7_span_17 rfl rfl rfl ?_
    refine XE_aload_n (n := 19) dX7_span_18 rfl rfl rfl ?_
    refine XE_getf (v := t3 0 0) (n := 22) xf_X7_83 rfl rfl rfl dX7_span_19 rfl ?_
    refine XE_icmp_ge (t := 48) (n := 25) dX7_span_22 rfl rfl (fun h9 => ?_) (fun h9 => ?_)
    · refine XE_ls (x_sub_ok (ls' := [(0, some (.ref 0)), (1, some (.int v4))]) ⟨rfl, rfl, trivial⟩) ?_
      exact hE (v4)
    · refine XE_iload_n (n := 26) dX7_span_25 rfl rfl rfl ?_
      refine XE_aload_n (n := 27) dX7_span_26 rfl rfl rfl ?_
      refine XE_getr (b := 5) (n := 30) xf_X7_22 rfl rfl dX7_span_27 rfl ?_
      refine XE_iload_n (n := 31) dX7_span_30 rfl rfl rfl ?_
      refine XE_iald (row := t3 5) (n := 32) rfl rfl dX7_span_31 rfl ?_
      refine XE_aload_n (n := 33) dX7_span_32 rfl rfl rfl ?_
      refine XE_iload_n (n := 34) dX7_span_33 rfl rfl rfl ?_
      refine XE_callVi (ni := 1) (As := [.int v5]) (st2 := fun t6 => [.int t6, .int (t3 5 (ix v5)), .int v4]) (n := 37) (b := 0) xc_X7_107 (fun l t ht => met_X7_readyOf l t3 v5 t ht) rfl rfl rfl rfl dX7_span_34 (Nat.le_of_ble_eq_true rfl) ⟨Nat.zero_le _, Nat.zero_le _⟩ (Nat.le_of_ble_eq_true rfl) (Nat.le_of_ble_eq_true rfl) (fun _ => rfl) rfl (fun t6 => ?_)
      refine XE_isub (n := 38) dX7_span_37 rfl ?_
      refine XE_callS (ni := 2) (As := [.int v4, .int ((t3 5 (ix v5)) - t6)]) (π := []) (co := [0]) (cv := [t3]) (nn := 1) (hs2 := fun t7 => [t3]) (st2 := fun t7 => [.int t7]) (n := 41) xc_X7_90 (fun l t ht => met_X7_most l v4 ((t3 5 (ix v5)) - t6) t ht) rfl rfl rfl dX7_span_38 (Nat.le_of_ble_eq_true rfl) ⟨Nat.zero_le _, Nat.zero_le _⟩ (Nat.le_of_ble_eq_true rfl) (Nat.le_of_ble_eq_true rfl) ok_40 rfl rfl rfl (fun _ => rfl) (fun _ => rfl) (fun _ => rfl) rfl (fun _ => rfl) rfl (fun t7 => ?_)
      refine XE_istore_n (i := 1) (n := 42) dX7_span_41 rfl rfl (Nat.le_of_ble_eq_true rfl) rfl ?_
      refine XE_iincl (n := 45) dX7_span_42 rfl rfl (by decide) (Nat.le_of_ble_eq_true rfl) rfl (fun v8 => ?_)
      refine XE_goto (n := 17) dX7_span_45 rfl ?_
      refine XE_ls (x_sub_ok (ls' := [(0, some (.ref 0)), (1, some (.int t7)), (2, some (.int v8))]) ⟨rfl, rfl, rfl, trivial⟩) ?_
      exact ih t7 v8
set_option maxRecDepth 100000 in
theorem xe_X7_span (B : XB) (m0 : Mem) : XE B M_X7_span (XQm B 0 0 SH_M) 0 [(0, some (.ref 0))] [] (0, 0) SH_M [m0] (fun t => some (some (.int t.1), [t.2])) (f_X7_span m0) := by
  unfold f_X7_span
  refine XE_aload_n (n := 1) dX7_span_0 rfl rfl rfl ?_
  refine XE_iconst (v := 0) (n := 2) dX7_span_1 rfl (by decide) ?_
  refine XE_putf (hs2 := fun w1 => [w1]) (n := 5) xf_X7_76 rfl rfl rfl rfl (Nat.le_of_ble_eq_true rfl) (fun _ => rfl) dX7_span_2 rfl (fun w1 => ?_)
  refine XE_iconst (v := 0) (n := 6) dX7_span_5 rfl (by decide) ?_
  refine XE_istore_n (i := 1) (n := 7) dX7_span_6 rfl rfl (Nat.le_of_ble_eq_true rfl) rfl ?_
  refine XE_aload_n (n := 8) dX7_span_7 rfl rfl rfl ?_
  refine XE_callVi (ni := 0) (As := []) (st2 := fun t2 => []) (n := 11) (b := 0) xc_X7_194 (fun l t ht => met_X7_think l w1 t ht) rfl rfl rfl rfl dX7_span_8 (Nat.le_of_ble_eq_true rfl) ⟨Nat.zero_le _, Nat.zero_le _⟩ (Nat.le_of_ble_eq_true rfl) (Nat.le_of_ble_eq_true rfl) (fun _ => rfl) rfl (fun t2 => ?_)
  refine XE_aload_n (n := 12) dX7_span_11 rfl rfl rfl ?_
  refine XE_callVi (ni := 0) (As := []) (st2 := fun t3 => []) (n := 15) (b := 0) xc_X7_243 (fun l t ht => met_X7_wedAll l t2 t ht) rfl rfl rfl rfl dX7_span_12 (Nat.le_of_ble_eq_true rfl) ⟨Nat.zero_le _, Nat.zero_le _⟩ (Nat.le_of_ble_eq_true rfl) (Nat.le_of_ble_eq_true rfl) (fun _ => rfl) rfl (fun t3 => ?_)
  refine XE_iconst (v := 0) (n := 16) dX7_span_15 rfl (by decide) ?_
  refine XE_istore_n (i := 2) (n := 17) dX7_span_16 rfl rfl (Nat.le_of_ble_eq_true rfl) rfl ?_
  refine XE_ls (x_sub_ok (ls' := [(0, some (.ref 0)), (1, some (.int 0)), (2, some (.int 0))]) ⟨rfl, rfl, rfl, trivial⟩) ?_
  refine XE_reg (J := 48) (lsJ := fun t10 => [(0, some (.ref 0)), (1, some (.int t10))]) (stJ := fun t10 => []) (hsJ := fun t10 => [t3]) (fun t10 => ?_) (fun hJ12 => f_X7_span_L17_x B t3 hJ12 6000 (0 : Int32) (0 : Int32))
  refine XE_aload_n (n := 49) dX7_span_48 rfl rfl rfl ?_
  refine XE_callVi (ni := 0) (As := []) (st2 := fun t11 => []) (n := 52) (b := 0) xc_X7_200 (fun l t ht => met_X7_again l t3 t ht) rfl rfl rfl rfl dX7_span_49 (Nat.le_of_ble_eq_true rfl) ⟨Nat.zero_le _, Nat.zero_le _⟩ (Nat.le_of_ble_eq_true rfl) (Nat.le_of_ble_eq_true rfl) (fun _ => rfl) rfl (fun t11 => ?_)
  refine XE_iload_n (n := 53) dX7_span_52 rfl rfl rfl ?_
  exact XE_ireturn rfl dX7_span_53 rfl (Nat.le_refl _) (Nat.le_refl _)
theorem met_X7_span (l : Launch) (m0 : Mem) (t : Int32 × Mem) (ht : f_X7_span m0 = some t) : XMet l yX7_span cX7_span 3 (some .int) 5 0 0 [.ref 0] SH_M [m0] SH_M (some (.int t.1), [t.2]) := XMet.of (by decide +kernel) (fun _ => Nat.le_of_ble_eq_true rfl) (fun B => xe_X7_span B m0) (by rw [ht]; rfl)
/-! X7_swap: EveryTwentyMinutesModel.swap()I in world M at (0,) -/
abbrev M_X7_swap : XM := (RX7, cX7_swap, 8, (some .int), "swap", 6, 0, 0)
def f_X7_swap_L36 (v8 : Int32) : Nat → Int32 → Int32 → Int32 → Mem → Option (Int32 × Int32 × Mem)
  | 0, _, _, _, _ => none
  | n + 1, v11, v12, v13, w14 =>
    if (w14 0 0) ≤ v13 then
      some (v11, v12, w14)
    else
      (f_X7_placeOf w14 v8).bind fun t15 =>
      (f_X7_placeOf w14 v13).bind fun t16 =>
      if t15 < 0 then
        lt (v13 + 1) fun v17 =>
        (f_X7_swap_L36 v8 n) v11 v12 v17 w14
      else
        if t16 < 0 then
          lt (v13 + 1) fun v18 =>
          (f_X7_swap_L36 v8 n) v11 v12 v18 w14
        else
          ck (inb t15 7) <|
          lt (xs w14 8 (ix t15) v13) fun w19 =>
          ck (inb t16 7) <|
          lt (xs w19 8 (ix t16) v8) fun w20 =>
          (f_X7_lateNow w20).bind fun t21 =>
          lt t21.1 fun v22 =>
          (f_X7_again t21.2).bind fun t23 =>
          lt (if v12 ≤ v22 then
              (v11)
            else
              (((10 * v8) + v13))) fun t26 =>
          (f_X7_least v12 v22).bind fun t27 =>
          lt (v13 + 1) fun v28 =>
          (f_X7_swap_L36 v8 n) t26 t27 v28 t23
def f_X7_swap_L23 : Nat → Int32 → Int32 → Int32 → Mem → Option (Int32 × Mem)
  | 0, _, _, _, _ => none
  | n + 1, v6, v7, v8, w9 =>
    if (w9 0 0) ≤ v8 then
      some (v6, w9)
    else
      lt (v8 + 1) fun v10 =>
      (f_X7_swap_L36 v8 6000 v6 v7 v10 w9).bind fun t32 =>
      lt (v8 + 1) fun v33 =>
      (f_X7_swap_L23 n) t32.1 t32.2.1 v33 t32.2.2
def f_X7_swap (m0 : Mem) : Option (Int32 × Mem) :=
  lt (xs m0 0 14 0) fun w1 =>
  (f_X7_think w1).bind fun t2 =>
  (f_X7_lateNow t2).bind fun t3 =>
  lt t3.1 fun v4 =>
  (f_X7_again t3.2).bind fun t5 =>
  (f_X7_swap_L23 6000 ((-9) : Int32) v4 (0 : Int32) t5).bind fun t36 =>
  some (t36.1, t36.2)
set_option maxRecDepth 100000 in
theorem f_X7_swap_L36_x {α R : Type} (B : XB) {Q : R → State → Prop} {k : α → Option R} {r : (Int32 × Int32 × Mem) → Option α} (v8 : Int32) (hE : ∀ t0 : (Int32 × Int32 × Mem), XE B M_X7_swap Q 128 [(0, some (.ref 0)), (1, some (.int t0.1)), (2, some (.int t0.2.1)), (3, some (.int v8))] [] (0, 0) SH_M [t0.2.2] (fun t => (r t).bind k) (some t0)) : ∀ (n : Nat) (v11 : Int32) (v12 : Int32) (v13 : Int32) (w14 : Mem), XE B M_X7_swap Q 36 [(0, some (.ref 0)), (1, some (.int v11)), (2, some (.int v12)), (3, some (.int v8)), (4, some (.int v13))] [] (0, 0) SH_M [w14] (fun t => (r t).bind k) (f_X7_swap_L36 v8 n v11 v12 v13 w14) := by
  intro n
  induction n with
  | zero => intros; exact XE_none
  | succ n ih =>
    intro v11 v12 v13 w14
    rw [f_X7_swap_L36]
    refine XE_iload (n := 38) dX7_swap_36 rfl rfl ?_
    refine XE_aload_n (n := 39) dX7_swap_38 rfl rfl rfl ?_
    refine XE_getf (v := w14 0 0) (n := 42) xf_X7_83 rfl rfl rfl dX7_swap_39 rfl ?_
    refine XE_icmp_ge (t := 128) (n := 45) dX7_swap_42 rfl rfl (fun h31 => ?_) (fun h31 => ?_)
    · refine XE_ls (x_sub_ok (ls' := [(0, some (.ref 0)), (1, some (.int v11)), (2, some (.int v12)), (3, some (.int v8))]) ⟨rfl, rfl, rfl, rfl, trivial⟩) ?_
      exact hE (v11, v12, w14)
    · refine XE_aload_n (n := 46) dX7_swap_45 rfl rfl rfl ?_
      refine XE_iload_n (n := 47) dX7_swap_46 rfl rfl rfl ?_
      refine XE_callVi (ni := 1) (As := [.int v8]) (st2 := fun t15 => [.int t15]) (n := 50) (b := 0) xc_X7_135 (fun l t ht => met_X7_placeOf l w14 v8 t ht) rfl rfl rfl rfl dX7_swap_47 (Nat.le_of_ble_eq_true rfl) ⟨Nat.zero_le _, Nat.zero_le _⟩ (Nat.le_of_ble_eq_true rfl) (Nat.le_of_ble_eq_true rfl) (fun _ => rfl) rfl (fun t15 => ?_)
      refine XE_istore (i := 5) (n := 52) dX7_swap_50 rfl (Nat.le_of_ble_eq_true rfl) rfl ?_
      refine XE_aload_n (n := 53) dX7_swap_52 rfl rfl rfl ?_
      refine XE_iload (n := 55) dX7_swap_53 rfl rfl ?_
      refine XE_callVi (ni := 1) (As := [.int v13]) (st2 := fun t16 => [.int t16]) (n := 58) (b := 0) xc_X7_135 (fun l t ht => met_X7_placeOf l w14 v13 t ht) rfl rfl rfl rfl dX7_swap_55 (Nat.le_of_ble_eq_true rfl) ⟨Nat.zero_le _, Nat.zero_le _⟩ (Nat.le_of_ble_eq_true rfl) (Nat.le_of_ble_eq_true rfl) (fun _ => rfl) rfl (fun t16 => ?_)
      refine XE_istore (i := 6) (n := 60) dX7_swap_58 rfl (Nat.le_of_ble_eq_true rfl) rfl ?_
      refine XE_iload (n := 62) dX7_swap_60 rfl rfl ?_
      refine XE_if_lt (t := 122) (n := 65) dX7_swap_62 rfl rfl (fun h30 => ?_) (fun h30 => ?_)
      · refine XE_iincl (n := 125) dX7_swap_122 rfl rfl (by decide) (Nat.le_of_ble_eq_true rfl) rfl (fun v17 => ?_)
        refine XE_goto (n := 36) dX7_swap_125 rfl ?_
        refine XE_ls (x_sub_ok (ls' := [(0, some (.ref 0)), (1, some (.int v11)), (2, some (.int v12)), (3, some (.int v8)), (4, some (.int v17))]) ⟨rfl, rfl, rfl, rfl, rfl, trivial⟩) ?_
        exact ih v11 v12 v17 w14
      · refine XE_iload (n := 67) dX7_swap_65 rfl rfl ?_
        refine XE_if_lt (t := 122) (n := 70) dX7_swap_67 rfl rfl (fun h29 => ?_) (fun h29 => ?_)
        · refine XE_iincl (n := 125) dX7_swap_122 rfl rfl (by decide) (Nat.le_of_ble_eq_true rfl) rfl (fun v18 => ?_)
          refine XE_goto (n := 36) dX7_swap_125 rfl ?_
          refine XE_ls (x_sub_ok (ls' := [(0, some (.ref 0)), (1, some (.int v11)), (2, some (.int v12)), (3, some (.int v8)), (4, some (.int v18))]) ⟨rfl, rfl, rfl, rfl, rfl, trivial⟩) ?_
          exact ih v11 v12 v18 w14
        · refine XE_aload_n (n := 71) dX7_swap_70 rfl rfl rfl ?_
          refine XE_getr (b := 8) (n := 74) xf_X7_31 rfl rfl dX7_swap_71 rfl ?_
          refine XE_iload (n := 76) dX7_swap_74 rfl rfl ?_
          refine XE_iload (n := 78) dX7_swap_76 rfl rfl ?_
          refine XE_iast (hs2 := fun w19 => [w19]) (n := 79) rfl rfl rfl (Nat.le_of_ble_eq_true rfl) (fun _ => rfl) dX7_swap_78 rfl (fun w19 => ?_)
          refine XE_aload_n (n := 80) dX7_swap_79 rfl rfl rfl ?_
          refine XE_getr (b := 8) (n := 83) xf_X7_31 rfl rfl dX7_swap_80 rfl ?_
          refine XE_iload (n := 85) dX7_swap_83 rfl rfl ?_
          refine XE_iload_n (n := 86) dX7_swap_85 rfl rfl rfl ?_
          refine XE_iast (hs2 := fun w20 => [w20]) (n := 87) rfl rfl rfl (Nat.le_of_ble_eq_true rfl) (fun _ => rfl) dX7_swap_86 rfl (fun w20 => ?_)
          refine XE_aload_n (n := 88) dX7_swap_87 rfl rfl rfl ?_
          refine XE_callVi (ni := 0) (As := []) (st2 := fun t21 => [.int t21.1]) (n := 91) (b := 0) xc_X7_274 (fun l t ht => met_X7_lateNow l w20 t ht) rfl rfl rfl rfl dX7_swap_88 (Nat.le_of_ble_eq_true rfl) ⟨Nat.zero_le _, Nat.zero_le _⟩ (Nat.le_of_ble_eq_true rfl) (Nat.le_of_ble_eq_true rfl) (fun _ => rfl) rfl (fun t21 => ?_)
          refine XE_topi (fun v22 => ?_)
          refine XE_istore (i := 7) (n := 93) dX7_swap_91 rfl (Nat.le_of_ble_eq_true rfl) rfl ?_
          refine XE_aload_n (n := 94) dX7_swap_93 rfl rfl rfl ?_
          refine XE_callVi (ni := 0) (As := []) (st2 := fun t23 => []) (n := 97) (b := 0) xc_X7_200 (fun l t ht => met_X7_again l t21.2 t ht) rfl rfl rfl rfl dX7_swap_94 (Nat.le_of_ble_eq_true rfl) ⟨Nat.zero_le _, Nat.zero_le _⟩ (Nat.le_of_ble_eq_true rfl) (Nat.le_of_ble_eq_true rfl) (fun _ => rfl) rfl (fun t23 => ?_)
          refine XE_iload (n := 99) dX7_swap_97 rfl rfl ?_
          refine XE_iload_n (n := 100) dX7_swap_99 rfl rfl rfl ?_
          refine XE_regv (J := 114) (lsJ := fun t26 => [(0, some (.ref 0)), (2, some (.int v12)), (3, some (.int v8)), (4, some (.int v13)), (7, some (.int v22))]) (stJ := fun t26 => [.int t26]) (hsJ := fun t26 => [t23]) (fun t26 => ?_) (fun hJ24 => ?_)
          · refine XE_istore_n (i := 1) (n := 115) dX7_swap_114 rfl rfl (Nat.le_of_ble_eq_true rfl) rfl ?_
            refine XE_iload_n (n := 116) dX7_swap_115 rfl rfl rfl ?_
            refine XE_iload (n := 118) dX7_swap_116 rfl rfl ?_
            refine XE_callS (ni := 2) (As := [.int v12, .int v22]) (π := []) (co := [0]) (cv := [t23]) (nn := 1) (hs2 := fun t27 => [t23]) (st2 := fun t27 => [.int t27]) (n := 121) xc_X7_97 (fun l t ht => met_X7_least l v12 v22 t ht) rfl rfl rfl dX7_swap_118 (Nat.le_of_ble_eq_true rfl) ⟨Nat.zero_le _, Nat.zero_le _⟩ (Nat.le_of_ble_eq_true rfl) (Nat.le_of_ble_eq_true rfl) ok_40 rfl rfl rfl (fun _ => rfl) (fun _ => rfl) (fun _ => rfl) rfl (fun _ => rfl) rfl (fun t27 => ?_)
            refine XE_istore_n (i := 2) (n := 122) dX7_swap_121 rfl rfl (Nat.le_of_ble_eq_true rfl) rfl ?_
            refine XE_iincl (n := 125) dX7_swap_122 rfl rfl (by decide) (Nat.le_of_ble_eq_true rfl) rfl (fun v28 => ?_)
            refine XE_goto (n := 36) dX7_swap_125 rfl ?_
            refine XE_ls (x_sub_ok (ls' := [(0, some (.ref 0)), (1, some (.int t26)), (2, some (.int t27)), (3, some (.int v8)), (4, some (.int v28))]) ⟨rfl, rfl, rfl, rfl, rfl, trivial⟩) ?_
            exact ih t26 t27 v28 t23
          · refine XE_ltif ?_
            refine XE_icmp_ge (t := 113) (n := 103) dX7_swap_100 rfl rfl (fun h25 => ?_) (fun h25 => ?_)
            · refine XE_iload_n (n := 114) dX7_swap_113 rfl rfl rfl ?_
              refine XE_ls (x_sub_ok (ls' := [(0, some (.ref 0)), (2, some (.int v12)), (3, some (.int v8)), (4, some (.int v13)), (7, some (.int v22))]) ⟨rfl, rfl, rfl, rfl, rfl, trivial⟩) ?_
              exact hJ24 (v11)
            · refine XE_bipush (v := 10) (n := 105) dX7_swap_103 rfl (by decide) ?_
              refine XE_iload_n (n := 106) dX7_swap_105 rfl rfl rfl ?_
              refine XE_imul (n := 107) dX7_swap_106 rfl ?_
              refine XE_iload (n := 109) dX7_swap_107 rfl rfl ?_
              refine XE_iadd (n := 110) dX7_swap_109 rfl ?_
              refine XE_goto (n := 114) dX7_swap_110 rfl ?_
              refine XE_ls (x_sub_ok (ls' := [(0, some (.ref 0)), (2, some (.int v12)), (3, some (.int v8)), (4, some (.int v13)), (7, some (.int v22))]) ⟨rfl, rfl, rfl, rfl, rfl, trivial⟩) ?_
              exact hJ24 (((10 * v8) + v13))
set_option maxRecDepth 100000 in
theorem f_X7_swap_L23_x {α R : Type} (B : XB) {Q : R → State → Prop} {k : α → Option R} {r : (Int32 × Mem) → Option α} (hE : ∀ t0 : (Int32 × Mem), XE B M_X7_swap Q 134 [(1, some (.int t0.1))] [] (0, 0) SH_M [t0.2] (fun t => (r t).bind k) (some t0)) : ∀ (n : Nat) (v6 : Int32) (v7 : Int32) (v8 : Int32) (w9 : Mem), XE B M_X7_swap Q 23 [(0, some (.ref 0)), (1, some (.int v6)), (2, some (.int v7)), (3, some (.int v8))] [] (0, 0) SH_M [w9] (fun t => (r t).bind k) (f_X7_swap_L23 n v6 v7 v8 w9) := by
  intro n
  induction n with
  | zero => intros; exact XE_none
  | succ n ih =>
    intro v6 v7 v8 w9
    rw [f_X7_swap_L23]
    refine XE_iload_n (n := 24) dX7_swap_23 rfl rfl rfl ?_
    refine XE_aload_n (n := 25) dX7_swap_24 rfl rfl rfl ?_
    refine XE_getf (v := w9 0 0) (n := 28) xf_X7_83 rfl rfl rfl dX7_swap_25 rfl ?_
    refine XE_icmp_ge (t := 134) (n := 31) dX7_swap_28 rfl rfl (fun h35 => ?_) (fun h35 => ?_)
    · refine XE_ls (x_sub_ok (ls' := [(1, some (.int v6))]) ⟨rfl, trivial⟩) ?_
      exact hE (v6, w9)
    · refine XE_iload_n (n := 32) dX7_swap_31 rfl rfl rfl ?_
      refine XE_iconst (v := 1) (n := 33) dX7_swap_32 rfl (by decide) ?_
      refine XE_iadd (n := 34) dX7_swap_33 rfl ?_
      refine XE_topi (fun v10 => ?_)
      refine XE_istore (i := 4) (n := 36) dX7_swap_34 rfl (Nat.le_of_ble_eq_true rfl) rfl ?_
      refine XE_ls (x_sub_ok (ls' := [(0, some (.ref 0)), (1, some (.int v6)), (2, some (.int v7)), (3, some (.int v8)), (4, some (.int v10))]) ⟨rfl, rfl, rfl, rfl, rfl, trivial⟩) ?_
      refine XE_reg (J := 128) (lsJ := fun t32 => [(0, some (.ref 0)), (1, some (.int t32.1)), (2, some (.int t32.2.1)), (3, some (.int v8))]) (stJ := fun t32 => []) (hsJ := fun t32 => [t32.2.2]) (fun t32 => ?_) (fun hJ34 => f_X7_swap_L36_x B v8 hJ34 6000 v6 v7 v10 w9)
      refine XE_iincl (n := 131) dX7_swap_128 rfl rfl (by decide) (Nat.le_of_ble_eq_true rfl) rfl (fun v33 => ?_)
      refine XE_goto (n := 23) dX7_swap_131 rfl ?_
      refine XE_ls (x_sub_ok (ls' := [(0, some (.ref 0)), (1, some (.int t32.1)), (2, some (.int t32.2.1)), (3, some (.int v33))]) ⟨rfl, rfl, rfl, rfl, trivial⟩) ?_
      exact ih t32.1 t32.2.1 v33 t32.2.2
set_option maxRecDepth 100000 in
theorem xe_X7_swap (B : XB) (m0 : Mem) : XE B M_X7_swap (XQm B 0 0 SH_M) 0 [(0, some (.ref 0))] [] (0, 0) SH_M [m0] (fun t => some (some (.int t.1), [t.2])) (f_X7_swap m0) := by
  unfold f_X7_swap
  refine XE_aload_n (n := 1) dX7_swap_0 rfl rfl rfl ?_
  refine XE_iconst (v := 0) (n := 2) dX7_swap_1 rfl (by decide) ?_
  refine XE_putf (hs2 := fun w1 => [w1]) (n := 5) xf_X7_76 rfl rfl rfl rfl (Nat.le_of_ble_eq_true rfl) (fun _ => rfl) dX7_swap_2 rfl (fun w1 => ?_)
  refine XE_bipush (v := (-9)) (n := 7) dX7_swap_5 rfl (by decide) ?_
  refine XE_istore_n (i := 1) (n := 8) dX7_swap_7 rfl rfl (Nat.le_of_ble_eq_true rfl) rfl ?_
  refine XE_aload_n (n := 9) dX7_swap_8 rfl rfl rfl ?_
  refine XE_callVi (ni := 0) (As := []) (st2 := fun t2 => []) (n := 12) (b := 0) xc_X7_194 (fun l t ht => met_X7_think l w1 t ht) rfl rfl rfl rfl dX7_swap_9 (Nat.le_of_ble_eq_true rfl) ⟨Nat.zero_le _, Nat.zero_le _⟩ (Nat.le_of_ble_eq_true rfl) (Nat.le_of_ble_eq_true rfl) (fun _ => rfl) rfl (fun t2 => ?_)
  refine XE_aload_n (n := 13) dX7_swap_12 rfl rfl rfl ?_
  refine XE_callVi (ni := 0) (As := []) (st2 := fun t3 => [.int t3.1]) (n := 16) (b := 0) xc_X7_274 (fun l t ht => met_X7_lateNow l t2 t ht) rfl rfl rfl rfl dX7_swap_13 (Nat.le_of_ble_eq_true rfl) ⟨Nat.zero_le _, Nat.zero_le _⟩ (Nat.le_of_ble_eq_true rfl) (Nat.le_of_ble_eq_true rfl) (fun _ => rfl) rfl (fun t3 => ?_)
  refine XE_topi (fun v4 => ?_)
  refine XE_istore_n (i := 2) (n := 17) dX7_swap_16 rfl rfl (Nat.le_of_ble_eq_true rfl) rfl ?_
  refine XE_aload_n (n := 18) dX7_swap_17 rfl rfl rfl ?_
  refine XE_callVi (ni := 0) (As := []) (st2 := fun t5 => []) (n := 21) (b := 0) xc_X7_200 (fun l t ht => met_X7_again l t3.2 t ht) rfl rfl rfl rfl dX7_swap_18 (Nat.le_of_ble_eq_true rfl) ⟨Nat.zero_le _, Nat.zero_le _⟩ (Nat.le_of_ble_eq_true rfl) (Nat.le_of_ble_eq_true rfl) (fun _ => rfl) rfl (fun t5 => ?_)
  refine XE_iconst (v := 0) (n := 22) dX7_swap_21 rfl (by decide) ?_
  refine XE_istore_n (i := 3) (n := 23) dX7_swap_22 rfl rfl (Nat.le_of_ble_eq_true rfl) rfl ?_
  refine XE_ls (x_sub_ok (ls' := [(0, some (.ref 0)), (1, some (.int (-9))), (2, some (.int v4)), (3, some (.int 0))]) ⟨rfl, rfl, rfl, rfl, trivial⟩) ?_
  refine XE_reg (J := 134) (lsJ := fun t36 => [(1, some (.int t36.1))]) (stJ := fun t36 => []) (hsJ := fun t36 => [t36.2]) (fun t36 => ?_) (fun hJ37 => f_X7_swap_L23_x B hJ37 6000 ((-9) : Int32) v4 (0 : Int32) t5)
  refine XE_iload_n (n := 135) dX7_swap_134 rfl rfl rfl ?_
  exact XE_ireturn rfl dX7_swap_135 rfl (Nat.le_refl _) (Nat.le_refl _)
theorem met_X7_swap (l : Launch) (m0 : Mem) (t : Int32 × Mem) (ht : f_X7_swap m0 = some t) : XMet l yX7_swap cX7_swap 8 (some .int) 6 0 0 [.ref 0] SH_M [m0] SH_M (some (.int t.1), [t.2]) := XMet.of (by decide +kernel) (fun _ => Nat.le_of_ble_eq_true rfl) (fun B => xe_X7_swap B m0) (by rw [ht]; rfl)
/-! X7_turned: EveryTwentyMinutesModel.turned()I in world M at (0,) -/
abbrev M_X7_turned : XM := (RX7, cX7_turned, 3, (some .int), "turned", 6, 0, 0)
def f_X7_turned_L11 : Nat → Int32 → Mem → Option (Mem)
  | 0, _, _ => none
  | n + 1, v3, w4 =>
    if ((w4 0 9) / 2) ≤ v3 then
      some (w4)
    else
      ck (inb v3 7) <|
      lt (w4 8 (ix v3)) fun v5 =>
      ck (inb (((w4 0 9) - 1) - v3) 7) <|
      ck (inb v3 7) <|
      lt (xs w4 8 (ix v3) (w4 8 (ix (((w4 0 9) - 1) - v3)))) fun w6 =>
      ck (inb (((w6 0 9) - 1) - v3) 7) <|
      lt (xs w6 8 (ix (((w6 0 9) - 1) - v3)) v5) fun w7 =>
      lt (v3 + 1) fun v8 =>
      (f_X7_turned_L11 n) v8 w7
def f_X7_turned (m0 : Mem) : Option (Int32 × Mem) :=
  lt (xs m0 0 14 0) fun w1 =>
  (f_X7_think w1).bind fun t2 =>
  (f_X7_turned_L11 6000 (0 : Int32) t2).bind fun t10 =>
  (f_X7_lateNow t10).bind fun t11 =>
  lt t11.1 fun v12 =>
  (f_X7_again t11.2).bind fun t13 =>
  some (v12, t13)
set_option maxRecDepth 100000 in
theorem f_X7_turned_L11_x {α R : Type} (B : XB) {Q : R → State → Prop} {k : α → Option R} {r : (Mem) → Option α} (hE : ∀ t0 : (Mem), XE B M_X7_turned Q 67 [(0, some (.ref 0))] [] (0, 0) SH_M [t0] (fun t => (r t).bind k) (some t0)) : ∀ (n : Nat) (v3 : Int32) (w4 : Mem), XE B M_X7_turned Q 11 [(0, some (.ref 0)), (1, some (.int v3))] [] (0, 0) SH_M [w4] (fun t => (r t).bind k) (f_X7_turned_L11 n v3 w4) := by
  intro n
  induction n with
  | zero => intros; exact XE_none
  | succ n ih =>
    intro v3 w4
    rw [f_X7_turned_L11]
    refine XE_iload_n (n := 12) dX7_turned_11 rfl rfl rfl ?_
    refine XE_aload_n (n := 13) dX7_turned_12 rfl rfl rfl ?_
    refine XE_getf (v := w4 0 9) (n := 16) xf_X7_100 rfl rfl rfl dX7_turned_13 rfl ?_
    refine XE_iconst (v := 2) (n := 17) dX7_turned_16 rfl (by decide) ?_
    refine XE_idiv (n := 18) dX7_turned_17 rfl (by decide) ?_
    refine XE_icmp_ge (t := 67) (n := 21) dX7_turned_18 rfl rfl (fun h9 => ?_) (fun h9 => ?_)
    · refine XE_ls (x_sub_ok (ls' := [(0, some (.ref 0))]) ⟨rfl, trivial⟩) ?_
      exact hE (w4)
    · refine XE_aload_n (n := 22) dX7_turned_21 rfl rfl rfl ?_
      refine XE_getr (b := 8) (n := 25) xf_X7_31 rfl rfl dX7_turned_22 rfl ?_
      refine XE_iload_n (n := 26) dX7_turned_25 rfl rfl rfl ?_
      refine XE_iald (row := w4 8) (n := 27) rfl rfl dX7_turned_26 rfl ?_
      refine XE_topi (fun v5 => ?_)
      refine XE_istore_n (i := 2) (n := 28) dX7_turned_27 rfl rfl (Nat.le_of_ble_eq_true rfl) rfl ?_
      refine XE_aload_n (n := 29) dX7_turned_28 rfl rfl rfl ?_
      refine XE_getr (b := 8) (n := 32) xf_X7_31 rfl rfl dX7_turned_29 rfl ?_
      refine XE_iload_n (n := 33) dX7_turned_32 rfl rfl rfl ?_
      refine XE_aload_n (n := 34) dX7_turned_33 rfl rfl rfl ?_
      refine XE_getr (b := 8) (n := 37) xf_X7_31 rfl rfl dX7_turned_34 rfl ?_
      refine XE_aload_n (n := 38) dX7_turned_37 rfl rfl rfl ?_
      refine XE_getf (v := w4 0 9) (n := 41) xf_X7_100 rfl rfl rfl dX7_turned_38 rfl ?_
      refine XE_iconst (v := 1) (n := 42) dX7_turned_41 rfl (by decide) ?_
      refine XE_isub (n := 43) dX7_turned_42 rfl ?_
      refine XE_iload_n (n := 44) dX7_turned_43 rfl rfl rfl ?_
      refine XE_isub (n := 45) dX7_turned_44 rfl ?_
      refine XE_iald (row := w4 8) (n := 46) rfl rfl dX7_turned_45 rfl ?_
      refine XE_iast (hs2 := fun w6 => [w6]) (n := 47) rfl rfl rfl (Nat.le_of_ble_eq_true rfl) (fun _ => rfl) dX7_turned_46 rfl (fun w6 => ?_)
      refine XE_aload_n (n := 48) dX7_turned_47 rfl rfl rfl ?_
      refine XE_getr (b := 8) (n := 51) xf_X7_31 rfl rfl dX7_turned_48 rfl ?_
      refine XE_aload_n (n := 52) dX7_turned_51 rfl rfl rfl ?_
      refine XE_getf (v := w6 0 9) (n := 55) xf_X7_100 rfl rfl rfl dX7_turned_52 rfl ?_
      refine XE_iconst (v := 1) (n := 56) dX7_turned_55 rfl (by decide) ?_
      refine XE_isub (n := 57) dX7_turned_56 rfl ?_
      refine XE_iload_n (n := 58) dX7_turned_57 rfl rfl rfl ?_
      refine XE_isub (n := 59) dX7_turned_58 rfl ?_
      refine XE_iload_n (n := 60) dX7_turned_59 rfl rfl rfl ?_
      refine XE_iast (hs2 := fun w7 => [w7]) (n := 61) rfl rfl rfl (Nat.le_of_ble_eq_true rfl) (fun _ => rfl) dX7_turned_60 rfl (fun w7 => ?_)
      refine XE_iincl (n := 64) dX7_turned_61 rfl rfl (by decide) (Nat.le_of_ble_eq_true rfl) rfl (fun v8 => ?_)
      refine XE_goto (n := 11) dX7_turned_64 rfl ?_
      refine XE_ls (x_sub_ok (ls' := [(0, some (.ref 0)), (1, some (.int v8))]) ⟨rfl, rfl, trivial⟩) ?_
      exact ih v8 w7
set_option maxRecDepth 100000 in
theorem xe_X7_turned (B : XB) (m0 : Mem) : XE B M_X7_turned (XQm B 0 0 SH_M) 0 [(0, some (.ref 0))] [] (0, 0) SH_M [m0] (fun t => some (some (.int t.1), [t.2])) (f_X7_turned m0) := by
  unfold f_X7_turned
  refine XE_aload_n (n := 1) dX7_turned_0 rfl rfl rfl ?_
  refine XE_iconst (v := 0) (n := 2) dX7_turned_1 rfl (by decide) ?_
  refine XE_putf (hs2 := fun w1 => [w1]) (n := 5) xf_X7_76 rfl rfl rfl rfl (Nat.le_of_ble_eq_true rfl) (fun _ => rfl) dX7_turned_2 rfl (fun w1 => ?_)
  refine XE_aload_n (n := 6) dX7_turned_5 rfl rfl rfl ?_
  refine XE_callVi (ni := 0) (As := []) (st2 := fun t2 => []) (n := 9) (b := 0) xc_X7_194 (fun l t ht => met_X7_think l w1 t ht) rfl rfl rfl rfl dX7_turned_6 (Nat.le_of_ble_eq_true rfl) ⟨Nat.zero_le _, Nat.zero_le _⟩ (Nat.le_of_ble_eq_true rfl) (Nat.le_of_ble_eq_true rfl) (fun _ => rfl) rfl (fun t2 => ?_)
  refine XE_iconst (v := 0) (n := 10) dX7_turned_9 rfl (by decide) ?_
  refine XE_istore_n (i := 1) (n := 11) dX7_turned_10 rfl rfl (Nat.le_of_ble_eq_true rfl) rfl ?_
  refine XE_ls (x_sub_ok (ls' := [(0, some (.ref 0)), (1, some (.int 0))]) ⟨rfl, rfl, trivial⟩) ?_
  refine XE_reg (J := 67) (lsJ := fun t10 => [(0, some (.ref 0))]) (stJ := fun t10 => []) (hsJ := fun t10 => [t10]) (fun t10 => ?_) (fun hJ14 => f_X7_turned_L11_x B hJ14 6000 (0 : Int32) t2)
  refine XE_aload_n (n := 68) dX7_turned_67 rfl rfl rfl ?_
  refine XE_callVi (ni := 0) (As := []) (st2 := fun t11 => [.int t11.1]) (n := 71) (b := 0) xc_X7_274 (fun l t ht => met_X7_lateNow l t10 t ht) rfl rfl rfl rfl dX7_turned_68 (Nat.le_of_ble_eq_true rfl) ⟨Nat.zero_le _, Nat.zero_le _⟩ (Nat.le_of_ble_eq_true rfl) (Nat.le_of_ble_eq_true rfl) (fun _ => rfl) rfl (fun t11 => ?_)
  refine XE_topi (fun v12 => ?_)
  refine XE_istore_n (i := 1) (n := 72) dX7_turned_71 rfl rfl (Nat.le_of_ble_eq_true rfl) rfl ?_
  refine XE_aload_n (n := 73) dX7_turned_72 rfl rfl rfl ?_
  refine XE_callVi (ni := 0) (As := []) (st2 := fun t13 => []) (n := 76) (b := 0) xc_X7_200 (fun l t ht => met_X7_again l t11.2 t ht) rfl rfl rfl rfl dX7_turned_73 (Nat.le_of_ble_eq_true rfl) ⟨Nat.zero_le _, Nat.zero_le _⟩ (Nat.le_of_ble_eq_true rfl) (Nat.le_of_ble_eq_true rfl) (fun _ => rfl) rfl (fun t13 => ?_)
  refine XE_iload_n (n := 77) dX7_turned_76 rfl rfl rfl ?_
  exact XE_ireturn rfl dX7_turned_77 rfl (Nat.le_refl _) (Nat.le_refl _)
theorem met_X7_turned (l : Launch) (m0 : Mem) (t : Int32 × Mem) (ht : f_X7_turned m0 = some t) : XMet l yX7_turned cX7_turned 3 (some .int) 6 0 0 [.ref 0] SH_M [m0] SH_M (some (.int t.1), [t.2]) := XMet.of (by decide +kernel) (fun _ => Nat.le_of_ble_eq_true rfl) (fun B => xe_X7_turned B m0) (by rw [ht]; rfl)
/-! X7_unwed: EveryTwentyMinutesModel.unwed()I in world M at (0,) -/
abbrev M_X7_unwed : XM := (RX7, cX7_unwed, 3, (some .int), "unwed", 1, 0, 0)
def f_X7_unwed_L4 (m0 : Mem) : Nat → Int32 → Int32 → Option (Int32)
  | 0, _, _ => none
  | n + 1, v1, v2 =>
    if (m0 0 0) ≤ v2 then
      some (v1)
    else
      ck (inb v2 7) <|
      if (m0 4 (ix v2)) = 0 then
        lt (v1 ||| (1 <<< (v2 &&& 31))) fun v5 =>
        lt (v2 + 1) fun v6 =>
        (f_X7_unwed_L4 m0 n) v5 v6
      else
        lt (v1 ||| 0) fun v3 =>
        lt (v2 + 1) fun v4 =>
        (f_X7_unwed_L4 m0 n) v3 v4
def f_X7_unwed (m0 : Mem) : Option (Int32) :=
  (f_X7_unwed_L4 m0 6000 (0 : Int32) (0 : Int32)).bind fun t9 =>
  some t9
set_option maxRecDepth 100000 in
theorem f_X7_unwed_L4_x {α R : Type} (B : XB) {Q : R → State → Prop} {k : α → Option R} {r : (Int32) → Option α} (m0 : Mem) (hE : ∀ t0 : (Int32), XE B M_X7_unwed Q 37 [(1, some (.int t0))] [] (0, 0) SH_M [m0] (fun t => (r t).bind k) (some t0)) : ∀ (n : Nat) (v1 : Int32) (v2 : Int32), XE B M_X7_unwed Q 4 [(0, some (.ref 0)), (1, some (.int v1)), (2, some (.int v2))] [] (0, 0) SH_M [m0] (fun t => (r t).bind k) (f_X7_unwed_L4 m0 n v1 v2) := by
  intro n
  induction n with
  | zero => intros; exact XE_none
  | succ n ih =>
    intro v1 v2
    rw [f_X7_unwed_L4]
    refine XE_iload_n (n := 5) dX7_unwed_4 rfl rfl rfl ?_
    refine XE_aload_n (n := 6) dX7_unwed_5 rfl rfl rfl ?_
    refine XE_getf (v := m0 0 0) (n := 9) xf_X7_83 rfl rfl rfl dX7_unwed_6 rfl ?_
    refine XE_icmp_ge (t := 37) (n := 12) dX7_unwed_9 rfl rfl (fun h8 => ?_) (fun h8 => ?_)
    · refine XE_ls (x_sub_ok (ls' := [(1, some (.int v1))]) ⟨rfl, trivial⟩) ?_
      exact hE (v1)
    · refine XE_iload_n (n := 13) dX7_unwed_12 rfl rfl rfl ?_
      refine XE_aload_n (n := 14) dX7_unwed_13 rfl rfl rfl ?_
      refine XE_getr (b := 4) (n := 17) xf_X7_19 rfl rfl dX7_unwed_14 rfl ?_
      refine XE_iload_n (n := 18) dX7_unwed_17 rfl rfl rfl ?_
      refine XE_iald (row := m0 4) (n := 19) rfl rfl dX7_unwed_18 rfl ?_
      refine XE_if_ne (t := 28) (n := 22) dX7_unwed_19 rfl rfl (fun h7 => ?_) (fun h7 => ?_)
      · refine XE_iconst (v := 1) (n := 23) dX7_unwed_22 rfl (by decide) ?_
        refine XE_iload_n (n := 24) dX7_unwed_23 rfl rfl rfl ?_
        refine XE_ishl (n := 25) dX7_unwed_24 rfl ?_
        refine XE_goto (n := 29) dX7_unwed_25 rfl ?_
        refine XE_ior (n := 30) dX7_unwed_29 rfl ?_
        refine XE_topi (fun v5 => ?_)
        refine XE_istore_n (i := 1) (n := 31) dX7_unwed_30 rfl rfl (Nat.le_of_ble_eq_true rfl) rfl ?_
        refine XE_iincl (n := 34) dX7_unwed_31 rfl rfl (by decide) (Nat.le_of_ble_eq_true rfl) rfl (fun v6 => ?_)
        refine XE_goto (n := 4) dX7_unwed_34 rfl ?_
        refine XE_ls (x_sub_ok (ls' := [(0, some (.ref 0)), (1, some (.int v5)), (2, some (.int v6))]) ⟨rfl, rfl, rfl, trivial⟩) ?_
        exact ih v5 v6
      · refine XE_iconst (v := 0) (n := 29) dX7_unwed_28 rfl (by decide) ?_
        refine XE_ior (n := 30) dX7_unwed_29 rfl ?_
        refine XE_topi (fun v3 => ?_)
        refine XE_istore_n (i := 1) (n := 31) dX7_unwed_30 rfl rfl (Nat.le_of_ble_eq_true rfl) rfl ?_
        refine XE_iincl (n := 34) dX7_unwed_31 rfl rfl (by decide) (Nat.le_of_ble_eq_true rfl) rfl (fun v4 => ?_)
        refine XE_goto (n := 4) dX7_unwed_34 rfl ?_
        refine XE_ls (x_sub_ok (ls' := [(0, some (.ref 0)), (1, some (.int v3)), (2, some (.int v4))]) ⟨rfl, rfl, rfl, trivial⟩) ?_
        exact ih v3 v4
set_option maxRecDepth 100000 in
theorem xe_X7_unwed (B : XB) (m0 : Mem) : XE B M_X7_unwed (XQm B 0 0 SH_M) 0 [(0, some (.ref 0))] [] (0, 0) SH_M [m0] (fun t => some (some (.int t), [m0])) (f_X7_unwed m0) := by
  unfold f_X7_unwed
  refine XE_iconst (v := 0) (n := 1) dX7_unwed_0 rfl (by decide) ?_
  refine XE_istore_n (i := 1) (n := 2) dX7_unwed_1 rfl rfl (Nat.le_of_ble_eq_true rfl) rfl ?_
  refine XE_iconst (v := 0) (n := 3) dX7_unwed_2 rfl (by decide) ?_
  refine XE_istore_n (i := 2) (n := 4) dX7_unwed_3 rfl rfl (Nat.le_of_ble_eq_true rfl) rfl ?_
  refine XE_ls (x_sub_ok (ls' := [(0, some (.ref 0)), (1, some (.int 0)), (2, some (.int 0))]) ⟨rfl, rfl, rfl, trivial⟩) ?_
  refine XE_reg (J := 37) (lsJ := fun t9 => [(1, some (.int t9))]) (stJ := fun t9 => []) (hsJ := fun t9 => [m0]) (fun t9 => ?_) (fun hJ10 => f_X7_unwed_L4_x B m0 hJ10 6000 (0 : Int32) (0 : Int32))
  refine XE_iload_n (n := 38) dX7_unwed_37 rfl rfl rfl ?_
  exact XE_ireturn rfl dX7_unwed_38 rfl (Nat.le_refl _) (Nat.le_refl _)
theorem met_X7_unwed (l : Launch) (m0 : Mem) (t : Int32) (ht : f_X7_unwed m0 = some t) : XMet l yX7_unwed cX7_unwed 3 (some .int) 1 0 0 [.ref 0] SH_M [m0] SH_M (some (.int t), [m0]) := XMet.of (by decide +kernel) (fun _ => Nat.le_of_ble_eq_true rfl) (fun B => xe_X7_unwed B m0) (by rw [ht]; rfl)
/-! X7_shift: EveryTwentyMinutesModel.shift()I in world M at (0,) -/
abbrev M_X7_shift : XM := (RX7, cX7_shift, 6, (some .int), "shift", 5, 0, 0)
def f_X7_shift_L32 (t2 : (Int32)) (v5 : Int32) : Nat → Int32 → Mem → Option (Mem)
  | 0, _, _ => none
  | n + 1, v7, w8 =>
    if (w8 0 0) ≤ v7 then
      some (w8)
    else
      ck (inb v7 7) <|
      (f_X7_hasBit t2 v7).bind fun t9 =>
      if t9 = 0 then
        ck (inb v7 7) <|
        lt (xs w8 3 (ix v7) ((w8 3 (ix v7)) + 0)) fun w10 =>
        lt (v7 + 1) fun v11 =>
        (f_X7_shift_L32 t2 v5 n) v11 w10
      else
        ck (inb v7 7) <|
        lt (xs w8 3 (ix v7) ((w8 3 (ix v7)) + v5)) fun w12 =>
        lt (v7 + 1) fun v13 =>
        (f_X7_shift_L32 t2 v5 n) v13 w12
def f_X7_shift_L81 (t2 : (Int32)) (t17 : (Mem)) : Nat → Int32 → Int32 → Option (Int32)
  | 0, _, _ => none
  | n + 1, v18, v19 =>
    if (t17 0 0) ≤ v19 then
      some (v18)
    else
      if v18 = 0 then
        (f_X7_hasBit t2 v19).bind fun t21 =>
        if t21 = 0 then
          lt (v19 + 1) fun v22 =>
          (f_X7_shift_L81 t2 t17 n) (0 : Int32) v22
        else
          (f_X7_lateOf t17 v19).bind fun t23 =>
          if t23 ≤ 0 then
            lt (v19 + 1) fun v24 =>
            (f_X7_shift_L81 t2 t17 n) (0 : Int32) v24
          else
            lt (v19 + 1) fun v25 =>
            (f_X7_shift_L81 t2 t17 n) (1 : Int32) v25
      else
        lt (v19 + 1) fun v20 =>
        (f_X7_shift_L81 t2 t17 n) (1 : Int32) v20
def f_X7_shift_L19 (t2 : (Int32)) : Nat → Int32 → Int32 → Mem → Option (Int32 × Mem)
  | 0, _, _, _ => none
  | n + 1, v4, v5, w6 =>
    if 60 < v5 then
      some (v4, w6)
    else
      if 0 ≤ v4 then
        some (v4, w6)
      else
        (f_X7_shift_L32 t2 v5 6000 (0 : Int32) w6).bind fun t16 =>
        (f_X7_wedAll t16).bind fun t17 =>
        (f_X7_shift_L81 t2 t17 6000 (0 : Int32) (0 : Int32)).bind fun t30 =>
        lt (if t30 = 0 then
            (v5)
          else
            (((-9) : Int32))) fun t33 =>
        (f_X7_again t17).bind fun t34 =>
        lt (v5 + 1) fun v35 =>
        (f_X7_shift_L19 t2 n) t33 v35 t34
def f_X7_shift (m0 : Mem) : Option (Int32 × Mem) :=
  lt (xs m0 0 14 0) fun w1 =>
  (f_X7_unwed w1).bind fun t2 =>
  (f_X7_think w1).bind fun t3 =>
  (f_X7_shift_L19 t2 6000 ((-9) : Int32) (0 : Int32) t3).bind fun t40 =>
  some (t40.1, t40.2)
set_option maxRecDepth 100000 in
theorem f_X7_shift_L32_x {α R : Type} (B : XB) {Q : R → State → Prop} {k : α → Option R} {r : (Mem) → Option α} (t2 : (Int32)) (v5 : Int32) (hE : ∀ t0 : (Mem), XE B M_X7_shift Q 71 [(0, some (.ref 0)), (1, some (.int t2)), (3, some (.int v5))] [] (0, 0) SH_M [t0] (fun t => (r t).bind k) (some t0)) : ∀ (n : Nat) (v7 : Int32) (w8 : Mem), XE B M_X7_shift Q 32 [(0, some (.ref 0)), (1, some (.int t2)), (3, some (.int v5)), (4, some (.int v7))] [] (0, 0) SH_M [w8] (fun t => (r t).bind k) (f_X7_shift_L32 t2 v5 n v7 w8) := by
  intro n
  induction n with
  | zero => intros; exact XE_none
  | succ n ih =>
    intro v7 w8
    rw [f_X7_shift_L32]
    refine XE_iload (n := 34) dX7_shift_32 rfl rfl ?_
    refine XE_aload_n (n := 35) dX7_shift_34 rfl rfl rfl ?_
    refine XE_getf (v := w8 0 0) (n := 38) xf_X7_83 rfl rfl rfl dX7_shift_35 rfl ?_
    refine XE_icmp_ge (t := 71) (n := 41) dX7_shift_38 rfl rfl (fun h15 => ?_) (fun h15 => ?_)
    · refine XE_ls (x_sub_ok (ls' := [(0, some (.ref 0)), (1, some (.int t2)), (3, some (.int v5))]) ⟨rfl, rfl, rfl, trivial⟩) ?_
      exact hE (w8)
    · refine XE_aload_n (n := 42) dX7_shift_41 rfl rfl rfl ?_
      refine XE_getr (b := 3) (n := 45) xf_X7_16 rfl rfl dX7_shift_42 rfl ?_
      refine XE_iload (n := 47) dX7_shift_45 rfl rfl ?_
      refine XE_dup2 (n := 48) dX7_shift_47 rfl rfl rfl ?_
      refine XE_iald (row := w8 3) (n := 49) rfl rfl dX7_shift_48 rfl ?_
      refine XE_iload_n (n := 50) dX7_shift_49 rfl rfl rfl ?_
      refine XE_iload (n := 52) dX7_shift_50 rfl rfl ?_
      refine XE_callS (ni := 2) (As := [.int t2, .int v7]) (π := []) (co := [0]) (cv := [w8]) (nn := 1) (hs2 := fun t9 => [w8]) (st2 := fun t9 => [.int t9, .int (w8 3 (ix v7)), .int v7, .ref 3]) (n := 55) xc_X7_265 (fun l t ht => met_X7_hasBit l t2 v7 t ht) rfl rfl rfl dX7_shift_52 (Nat.le_of_ble_eq_true rfl) ⟨Nat.zero_le _, Nat.zero_le _⟩ (Nat.le_of_ble_eq_true rfl) (Nat.le_of_ble_eq_true rfl) ok_40 rfl rfl rfl (fun _ => rfl) (fun _ => rfl) (fun _ => rfl) rfl (fun _ => rfl) rfl (fun t9 => ?_)
      refine XE_if_eq (t := 62) (n := 58) dX7_shift_55 rfl rfl (fun h14 => ?_) (fun h14 => ?_)
      · refine XE_iconst (v := 0) (n := 63) dX7_shift_62 rfl (by decide) ?_
        refine XE_iadd (n := 64) dX7_shift_63 rfl ?_
        refine XE_iast (hs2 := fun w10 => [w10]) (n := 65) rfl rfl rfl (Nat.le_of_ble_eq_true rfl) (fun _ => rfl) dX7_shift_64 rfl (fun w10 => ?_)
        refine XE_iincl (n := 68) dX7_shift_65 rfl rfl (by decide) (Nat.le_of_ble_eq_true rfl) rfl (fun v11 => ?_)
        refine XE_goto (n := 32) dX7_shift_68 rfl ?_
        refine XE_ls (x_sub_ok (ls' := [(0, some (.ref 0)), (1, some (.int t2)), (3, some (.int v5)), (4, some (.int v11))]) ⟨rfl, rfl, rfl, rfl, trivial⟩) ?_
        exact ih v11 w10
      · refine XE_iload_n (n := 59) dX7_shift_58 rfl rfl rfl ?_
        refine XE_goto (n := 63) dX7_shift_59 rfl ?_
        refine XE_iadd (n := 64) dX7_shift_63 rfl ?_
        refine XE_iast (hs2 := fun w12 => [w12]) (n := 65) rfl rfl rfl (Nat.le_of_ble_eq_true rfl) (fun _ => rfl) dX7_shift_64 rfl (fun w12 => ?_)
        refine XE_iincl (n := 68) dX7_shift_65 rfl rfl (by decide) (Nat.le_of_ble_eq_true rfl) rfl (fun v13 => ?_)
        refine XE_goto (n := 32) dX7_shift_68 rfl ?_
        refine XE_ls (x_sub_ok (ls' := [(0, some (.ref 0)), (1, some (.int t2)), (3, some (.int v5)), (4, some (.int v13))]) ⟨rfl, rfl, rfl, rfl, trivial⟩) ?_
        exact ih v13 w12
set_option maxRecDepth 100000 in
theorem f_X7_shift_L81_x {α R : Type} (B : XB) {Q : R → State → Prop} {k : α → Option R} {r : (Int32) → Option α} (t2 : (Int32)) (t17 : (Mem)) (v5 : Int32) (hE : ∀ t0 : (Int32), XE B M_X7_shift Q 126 [(0, some (.ref 0)), (1, some (.int t2)), (3, some (.int v5)), (4, some (.int t0))] [] (0, 0) SH_M [t17] (fun t => (r t).bind k) (some t0)) : ∀ (n : Nat) (v18 : Int32) (v19 : Int32), XE B M_X7_shift Q 81 [(0, some (.ref 0)), (1, some (.int t2)), (3, some (.int v5)), (4, some (.int v18)), (5, some (.int v19))] [] (0, 0) SH_M [t17] (fun t => (r t).bind k) (f_X7_shift_L81 t2 t17 n v18 v19) := by
  intro n
  induction n with
  | zero => intros; exact XE_none
  | succ n ih =>
    intro v18 v19
    rw [f_X7_shift_L81]
    refine XE_iload (n := 83) dX7_shift_81 rfl rfl ?_
    refine XE_aload_n (n := 84) dX7_shift_83 rfl rfl rfl ?_
    refine XE_getf (v := t17 0 0) (n := 87) xf_X7_83 rfl rfl rfl dX7_shift_84 rfl ?_
    refine XE_icmp_ge (t := 126) (n := 90) dX7_shift_87 rfl rfl (fun h29 => ?_) (fun h29 => ?_)
    · refine XE_ls (x_sub_ok (ls' := [(0, some (.ref 0)), (1, some (.int t2)), (3, some (.int v5)), (4, some (.int v18))]) ⟨rfl, rfl, rfl, rfl, trivial⟩) ?_
      exact hE (v18)
    · refine XE_iload (n := 92) dX7_shift_90 rfl rfl ?_
      refine XE_if_ne (t := 113) (n := 95) dX7_shift_92 rfl rfl (fun h28 => ?_) (fun h28 => ?_)
      · refine XE_iload_n (n := 96) dX7_shift_95 rfl rfl rfl ?_
        refine XE_iload (n := 98) dX7_shift_96 rfl rfl ?_
        refine XE_callS (ni := 2) (As := [.int t2, .int v19]) (π := []) (co := [0]) (cv := [t17]) (nn := 1) (hs2 := fun t21 => [t17]) (st2 := fun t21 => [.int t21]) (n := 101) xc_X7_265 (fun l t ht => met_X7_hasBit l t2 v19 t ht) rfl rfl rfl dX7_shift_98 (Nat.le_of_ble_eq_true rfl) ⟨Nat.zero_le _, Nat.zero_le _⟩ (Nat.le_of_ble_eq_true rfl) (Nat.le_of_ble_eq_true rfl) ok_40 rfl rfl rfl (fun _ => rfl) (fun _ => rfl) (fun _ => rfl) rfl (fun _ => rfl) rfl (fun t21 => ?_)
        refine XE_if_eq (t := 117) (n := 104) dX7_shift_101 rfl rfl (fun h27 => ?_) (fun h27 => ?_)
        · refine XE_iconst (v := 0) (n := 118) dX7_shift_117 rfl (by decide) ?_
          refine XE_istore (i := 4) (n := 120) dX7_shift_118 rfl (Nat.le_of_ble_eq_true rfl) rfl ?_
          refine XE_iincl (n := 123) dX7_shift_120 rfl rfl (by decide) (Nat.le_of_ble_eq_true rfl) rfl (fun v22 => ?_)
          refine XE_goto (n := 81) dX7_shift_123 rfl ?_
          refine XE_ls (x_sub_ok (ls' := [(0, some (.ref 0)), (1, some (.int t2)), (3, some (.int v5)), (4, some (.int 0)), (5, some (.int v22))]) ⟨rfl, rfl, rfl, rfl, rfl, trivial⟩) ?_
          exact ih (0 : Int32) v22
        · refine XE_aload_n (n := 105) dX7_shift_104 rfl rfl rfl ?_
          refine XE_iload (n := 107) dX7_shift_105 rfl rfl ?_
          refine XE_callVi (ni := 1) (As := [.int v19]) (st2 := fun t23 => [.int t23]) (n := 110) (b := 0) xc_X7_121 (fun l t ht => met_X7_lateOf l t17 v19 t ht) rfl rfl rfl rfl dX7_shift_107 (Nat.le_of_ble_eq_true rfl) ⟨Nat.zero_le _, Nat.zero_le _⟩ (Nat.le_of_ble_eq_true rfl) (Nat.le_of_ble_eq_true rfl) (fun _ => rfl) rfl (fun t23 => ?_)
          refine XE_if_le (t := 117) (n := 113) dX7_shift_110 rfl rfl (fun h26 => ?_) (fun h26 => ?_)
          · refine XE_iconst (v := 0) (n := 118) dX7_shift_117 rfl (by decide) ?_
            refine XE_istore (i := 4) (n := 120) dX7_shift_118 rfl (Nat.le_of_ble_eq_true rfl) rfl ?_
            refine XE_iincl (n := 123) dX7_shift_120 rfl rfl (by decide) (Nat.le_of_ble_eq_true rfl) rfl (fun v24 => ?_)
            refine XE_goto (n := 81) dX7_shift_123 rfl ?_
            refine XE_ls (x_sub_ok (ls' := [(0, some (.ref 0)), (1, some (.int t2)), (3, some (.int v5)), (4, some (.int 0)), (5, some (.int v24))]) ⟨rfl, rfl, rfl, rfl, rfl, trivial⟩) ?_
            exact ih (0 : Int32) v24
          · refine XE_iconst (v := 1) (n := 114) dX7_shift_113 rfl (by decide) ?_
            refine XE_goto (n := 118) dX7_shift_114 rfl ?_
            refine XE_istore (i := 4) (n := 120) dX7_shift_118 rfl (Nat.le_of_ble_eq_true rfl) rfl ?_
            refine XE_iincl (n := 123) dX7_shift_120 rfl rfl (by decide) (Nat.le_of_ble_eq_true rfl) rfl (fun v25 => ?_)
            refine XE_goto (n := 81) dX7_shift_123 rfl ?_
            refine XE_ls (x_sub_ok (ls' := [(0, some (.ref 0)), (1, some (.int t2)), (3, some (.int v5)), (4, some (.int 1)), (5, some (.int v25))]) ⟨rfl, rfl, rfl, rfl, rfl, trivial⟩) ?_
            exact ih (1 : Int32) v25
      · refine XE_iconst (v := 1) (n := 114) dX7_shift_113 rfl (by decide) ?_
        refine XE_goto (n := 118) dX7_shift_114 rfl ?_
        refine XE_istore (i := 4) (n := 120) dX7_shift_118 rfl (Nat.le_of_ble_eq_true rfl) rfl ?_
        refine XE_iincl (n := 123) dX7_shift_120 rfl rfl (by decide) (Nat.le_of_ble_eq_true rfl) rfl (fun v20 => ?_)
        refine XE_goto (n := 81) dX7_shift_123 rfl ?_
        refine XE_ls (x_sub_ok (ls' := [(0, some (.ref 0)), (1, some (.int t2)), (3, some (.int v5)), (4, some (.int 1)), (5, some (.int v20))]) ⟨rfl, rfl, rfl, rfl, rfl, trivial⟩) ?_
        exact ih (1 : Int32) v20
set_option maxRecDepth 100000 in
theorem f_X7_shift_L19_x {α R : Type} (B : XB) {Q : R → State → Prop} {k : α → Option R} {r : (Int32 × Mem) → Option α} (t2 : (Int32)) (hE : ∀ t0 : (Int32 × Mem), XE B M_X7_shift Q 148 [(2, some (.int t0.1))] [] (0, 0) SH_M [t0.2] (fun t => (r t).bind k) (some t0)) : ∀ (n : Nat) (v4 : Int32) (v5 : Int32) (w6 : Mem), XE B M_X7_shift Q 19 [(0, some (.ref 0)), (1, some (.int t2)), (2, some (.int v4)), (3, some (.int v5))] [] (0, 0) SH_M [w6] (fun t => (r t).bind k) (f_X7_shift_L19 t2 n v4 v5 w6) := by
  intro n
  induction n with
  | zero => intros; exact XE_none
  | succ n ih =>
    intro v4 v5 w6
    rw [f_X7_shift_L19]
    refine XE_iload_n (n := 20) dX7_shift_19 rfl rfl rfl ?_
    refine XE_bipush (v := 60) (n := 22) dX7_shift_20 rfl (by decide) ?_
    refine XE_icmp_gt (t := 148) (n := 25) dX7_shift_22 rfl rfl (fun h39 => ?_) (fun h39 => ?_)
    · refine XE_ls (x_sub_ok (ls' := [(2, some (.int v4))]) ⟨rfl, trivial⟩) ?_
      exact hE (v4, w6)
    · refine XE_iload_n (n := 26) dX7_shift_25 rfl rfl rfl ?_
      refine XE_if_ge (t := 148) (n := 29) dX7_shift_26 rfl rfl (fun h38 => ?_) (fun h38 => ?_)
      · refine XE_ls (x_sub_ok (ls' := [(2, some (.int v4))]) ⟨rfl, trivial⟩) ?_
        exact hE (v4, w6)
      · refine XE_iconst (v := 0) (n := 30) dX7_shift_29 rfl (by decide) ?_
        refine XE_istore (i := 4) (n := 32) dX7_shift_30 rfl (Nat.le_of_ble_eq_true rfl) rfl ?_
        refine XE_ls (x_sub_ok (ls' := [(0, some (.ref 0)), (1, some (.int t2)), (3, some (.int v5)), (4, some (.int 0))]) ⟨rfl, rfl, rfl, rfl, trivial⟩) ?_
        refine XE_reg (J := 71) (lsJ := fun t16 => [(0, some (.ref 0)), (1, some (.int t2)), (3, some (.int v5))]) (stJ := fun t16 => []) (hsJ := fun t16 => [t16]) (fun t16 => ?_) (fun hJ37 => f_X7_shift_L32_x B t2 v5 hJ37 6000 (0 : Int32) w6)
        refine XE_aload_n (n := 72) dX7_shift_71 rfl rfl rfl ?_
        refine XE_callVi (ni := 0) (As := []) (st2 := fun t17 => []) (n := 75) (b := 0) xc_X7_243 (fun l t ht => met_X7_wedAll l t16 t ht) rfl rfl rfl rfl dX7_shift_72 (Nat.le_of_ble_eq_true rfl) ⟨Nat.zero_le _, Nat.zero_le _⟩ (Nat.le_of_ble_eq_true rfl) (Nat.le_of_ble_eq_true rfl) (fun _ => rfl) rfl (fun t17 => ?_)
        refine XE_iconst (v := 0) (n := 76) dX7_shift_75 rfl (by decide) ?_
        refine XE_istore (i := 4) (n := 78) dX7_shift_76 rfl (Nat.le_of_ble_eq_true rfl) rfl ?_
        refine XE_iconst (v := 0) (n := 79) dX7_shift_78 rfl (by decide) ?_
        refine XE_istore (i := 5) (n := 81) dX7_shift_79 rfl (Nat.le_of_ble_eq_true rfl) rfl ?_
        refine XE_ls (x_sub_ok (ls' := [(0, some (.ref 0)), (1, some (.int t2)), (3, some (.int v5)), (4, some (.int 0)), (5, some (.int 0))]) ⟨rfl, rfl, rfl, rfl, rfl, trivial⟩) ?_
        refine XE_reg (J := 126) (lsJ := fun t30 => [(0, some (.ref 0)), (1, some (.int t2)), (3, some (.int v5)), (4, some (.int t30))]) (stJ := fun t30 => []) (hsJ := fun t30 => [t17]) (fun t30 => ?_) (fun hJ36 => f_X7_shift_L81_x B t2 t17 v5 hJ36 6000 (0 : Int32) (0 : Int32))
        refine XE_iload (n := 128) dX7_shift_126 rfl rfl ?_
        refine XE_regv (J := 137) (lsJ := fun t33 => [(0, some (.ref 0)), (1, some (.int t2)), (3, some (.int v5))]) (stJ := fun t33 => [.int t33]) (hsJ := fun t33 => [t17]) (fun t33 => ?_) (fun hJ31 => ?_)
        · refine XE_istore_n (i := 2) (n := 138) dX7_shift_137 rfl rfl (Nat.le_of_ble_eq_true rfl) rfl ?_
          refine XE_aload_n (n := 139) dX7_shift_138 rfl rfl rfl ?_
          refine XE_callVi (ni := 0) (As := []) (st2 := fun t34 => []) (n := 142) (b := 0) xc_X7_200 (fun l t ht => met_X7_again l t17 t ht) rfl rfl rfl rfl dX7_shift_139 (Nat.le_of_ble_eq_true rfl) ⟨Nat.zero_le _, Nat.zero_le _⟩ (Nat.le_of_ble_eq_true rfl) (Nat.le_of_ble_eq_true rfl) (fun _ => rfl) rfl (fun t34 => ?_)
          refine XE_iincl (n := 145) dX7_shift_142 rfl rfl (by decide) (Nat.le_of_ble_eq_true rfl) rfl (fun v35 => ?_)
          refine XE_goto (n := 19) dX7_shift_145 rfl ?_
          refine XE_ls (x_sub_ok (ls' := [(0, some (.ref 0)), (1, some (.int t2)), (2, some (.int t33)), (3, some (.int v35))]) ⟨rfl, rfl, rfl, rfl, trivial⟩) ?_
          exact ih t33 v35 t34
        · refine XE_ltif ?_
          refine XE_if_eq (t := 136) (n := 131) dX7_shift_128 rfl rfl (fun h32 => ?_) (fun h32 => ?_)
          · refine XE_iload_n (n := 137) dX7_shift_136 rfl rfl rfl ?_
            refine XE_ls (x_sub_ok (ls' := [(0, some (.ref 0)), (1, some (.int t2)), (3, some (.int v5))]) ⟨rfl, rfl, rfl, trivial⟩) ?_
            exact hJ31 (v5)
          · refine XE_bipush (v := (-9)) (n := 133) dX7_shift_131 rfl (by decide) ?_
            refine XE_goto (n := 137) dX7_shift_133 rfl ?_
            refine XE_ls (x_sub_ok (ls' := [(0, some (.ref 0)), (1, some (.int t2)), (3, some (.int v5))]) ⟨rfl, rfl, rfl, trivial⟩) ?_
            exact hJ31 (((-9) : Int32))
set_option maxRecDepth 100000 in
theorem xe_X7_shift (B : XB) (m0 : Mem) : XE B M_X7_shift (XQm B 0 0 SH_M) 0 [(0, some (.ref 0))] [] (0, 0) SH_M [m0] (fun t => some (some (.int t.1), [t.2])) (f_X7_shift m0) := by
  unfold f_X7_shift
  refine XE_aload_n (n := 1) dX7_shift_0 rfl rfl rfl ?_
  refine XE_iconst (v := 0) (n := 2) dX7_shift_1 rfl (by decide) ?_
  refine XE_putf (hs2 := fun w1 => [w1]) (n := 5) xf_X7_76 rfl rfl rfl rfl (Nat.le_of_ble_eq_true rfl) (fun _ => rfl) dX7_shift_2 rfl (fun w1 => ?_)
  refine XE_aload_n (n := 6) dX7_shift_5 rfl rfl rfl ?_
  refine XE_callVi (ni := 0) (As := []) (st2 := fun t2 => [.int t2]) (n := 9) (b := 0) xc_X7_314 (fun l t ht => met_X7_unwed l w1 t ht) rfl rfl rfl rfl dX7_shift_6 (Nat.le_of_ble_eq_true rfl) ⟨Nat.zero_le _, Nat.zero_le _⟩ (Nat.le_of_ble_eq_true rfl) (Nat.le_of_ble_eq_true rfl) (fun _ => rfl) rfl (fun t2 => ?_)
  refine XE_istore_n (i := 1) (n := 10) dX7_shift_9 rfl rfl (Nat.le_of_ble_eq_true rfl) rfl ?_
  refine XE_bipush (v := (-9)) (n := 12) dX7_shift_10 rfl (by decide) ?_
  refine XE_istore_n (i := 2) (n := 13) dX7_shift_12 rfl rfl (Nat.le_of_ble_eq_true rfl) rfl ?_
  refine XE_aload_n (n := 14) dX7_shift_13 rfl rfl rfl ?_
  refine XE_callVi (ni := 0) (As := []) (st2 := fun t3 => []) (n := 17) (b := 0) xc_X7_194 (fun l t ht => met_X7_think l w1 t ht) rfl rfl rfl rfl dX7_shift_14 (Nat.le_of_ble_eq_true rfl) ⟨Nat.zero_le _, Nat.zero_le _⟩ (Nat.le_of_ble_eq_true rfl) (Nat.le_of_ble_eq_true rfl) (fun _ => rfl) rfl (fun t3 => ?_)
  refine XE_iconst (v := 0) (n := 18) dX7_shift_17 rfl (by decide) ?_
  refine XE_istore_n (i := 3) (n := 19) dX7_shift_18 rfl rfl (Nat.le_of_ble_eq_true rfl) rfl ?_
  refine XE_ls (x_sub_ok (ls' := [(0, some (.ref 0)), (1, some (.int t2)), (2, some (.int (-9))), (3, some (.int 0))]) ⟨rfl, rfl, rfl, rfl, trivial⟩) ?_
  refine XE_reg (J := 148) (lsJ := fun t40 => [(2, some (.int t40.1))]) (stJ := fun t40 => []) (hsJ := fun t40 => [t40.2]) (fun t40 => ?_) (fun hJ41 => f_X7_shift_L19_x B t2 hJ41 6000 ((-9) : Int32) (0 : Int32) t3)
  refine XE_iload_n (n := 149) dX7_shift_148 rfl rfl rfl ?_
  exact XE_ireturn rfl dX7_shift_149 rfl (Nat.le_refl _) (Nat.le_refl _)
theorem met_X7_shift (l : Launch) (m0 : Mem) (t : Int32 × Mem) (ht : f_X7_shift m0 = some t) : XMet l yX7_shift cX7_shift 6 (some .int) 5 0 0 [.ref 0] SH_M [m0] SH_M (some (.int t.1), [t.2]) := XMet.of (by decide +kernel) (fun _ => Nat.le_of_ble_eq_true rfl) (fun B => xe_X7_shift B m0) (by rw [ht]; rfl)
