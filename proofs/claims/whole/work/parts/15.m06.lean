/-! X7_posesOf: EveryTwentyMinutesModel.posesOf(I)I in world M at (0,) -/
abbrev M_X7_posesOf : XM := (RX7, cX7_posesOf, 2, (some .int), "posesOf", 1, 0, 0)
def f_X7_posesOf_J20 (m0 : Mem) (v1 : Int32) : Option (Int32) :=
  ck (inb v1 7) <|
  some (3 + (m0 2 (ix v1)))
def f_X7_posesOf (m0 : Mem) (a1 : Int32) : Option (Int32) :=
  ck (inb a1 7) <|
  if (m0 1 (ix a1)) = 2 then
    f_X7_posesOf_J20 m0 a1
  else
    ck (inb a1 7) <|
    if (m0 1 (ix a1)) = 5 then
      f_X7_posesOf_J20 m0 a1
    else
      some (3 : Int32)
set_option maxRecDepth 100000 in
theorem f_X7_posesOf_J20_x (B : XB) (m0 : Mem) (v1 : Int32) : XE B M_X7_posesOf (XQm B 0 0 SH_M) 20 [(0, some (.ref 0)), (1, some (.int v1))] [] (0, 0) SH_M [m0] (fun t => some (some (.int t), [m0])) (f_X7_posesOf_J20 m0 v1) := by
  unfold f_X7_posesOf_J20
  refine XE_iconst (v := 3) (n := 21) dX7_posesOf_20 rfl (by decide) ?_
  refine XE_aload_n (n := 22) dX7_posesOf_21 rfl rfl rfl ?_
  refine XE_getr (b := 2) (n := 25) xf_X7_13 rfl rfl dX7_posesOf_22 rfl ?_
  refine XE_iload_n (n := 26) dX7_posesOf_25 rfl rfl rfl ?_
  refine XE_iald (row := m0 2) (n := 27) rfl rfl dX7_posesOf_26 rfl ?_
  refine XE_iadd (n := 28) dX7_posesOf_27 rfl ?_
  refine XE_goto (n := 32) dX7_posesOf_28 rfl ?_
  exact XE_ireturn rfl dX7_posesOf_32 rfl (Nat.le_refl _) (Nat.le_refl _)
set_option maxRecDepth 100000 in
theorem xe_X7_posesOf (B : XB) (m0 : Mem) (a1 : Int32) : XE B M_X7_posesOf (XQm B 0 0 SH_M) 0 [(0, some (.ref 0)), (1, some (.int a1))] [] (0, 0) SH_M [m0] (fun t => some (some (.int t), [m0])) (f_X7_posesOf m0 a1) := by
  unfold f_X7_posesOf
  refine XE_aload_n (n := 1) dX7_posesOf_0 rfl rfl rfl ?_
  refine XE_getr (b := 1) (n := 4) xf_X7_7 rfl rfl dX7_posesOf_1 rfl ?_
  refine XE_iload_n (n := 5) dX7_posesOf_4 rfl rfl rfl ?_
  refine XE_iald (row := m0 1) (n := 6) rfl rfl dX7_posesOf_5 rfl ?_
  refine XE_iconst (v := 2) (n := 7) dX7_posesOf_6 rfl (by decide) ?_
  refine XE_icmp_eq (t := 20) (n := 10) dX7_posesOf_7 rfl rfl (fun h3 => ?_) (fun h3 => ?_)
  · refine XE_ls (x_sub_ok (ls' := [(0, some (.ref 0)), (1, some (.int a1))]) ⟨rfl, rfl, trivial⟩) ?_
    exact f_X7_posesOf_J20_x B m0 a1
  · refine XE_aload_n (n := 11) dX7_posesOf_10 rfl rfl rfl ?_
    refine XE_getr (b := 1) (n := 14) xf_X7_7 rfl rfl dX7_posesOf_11 rfl ?_
    refine XE_iload_n (n := 15) dX7_posesOf_14 rfl rfl rfl ?_
    refine XE_iald (row := m0 1) (n := 16) rfl rfl dX7_posesOf_15 rfl ?_
    refine XE_iconst (v := 5) (n := 17) dX7_posesOf_16 rfl (by decide) ?_
    refine XE_icmp_ne (t := 31) (n := 20) dX7_posesOf_17 rfl rfl (fun h2 => ?_) (fun h2 => ?_)
    · refine XE_ls (x_sub_ok (ls' := [(0, some (.ref 0)), (1, some (.int a1))]) ⟨rfl, rfl, trivial⟩) ?_
      exact f_X7_posesOf_J20_x B m0 a1
    · refine XE_iconst (v := 3) (n := 32) dX7_posesOf_31 rfl (by decide) ?_
      exact XE_ireturn rfl dX7_posesOf_32 rfl (Nat.le_refl _) (Nat.le_refl _)
theorem met_X7_posesOf (l : Launch) (m0 : Mem) (a1 : Int32) (t : Int32) (ht : f_X7_posesOf m0 a1 = some t) : XMet l yX7_posesOf cX7_posesOf 2 (some .int) 1 0 0 [.ref 0, .int a1] SH_M [m0] SH_M (some (.int t), [m0]) := XMet.of (by decide +kernel) (fun _ => Nat.le_of_ble_eq_true rfl) (fun B => xe_X7_posesOf B m0 a1) (by rw [ht]; rfl)
/-! X7_restFor: EveryTwentyMinutesModel.restFor(I)V in world M at (0,) -/
abbrev M_X7_restFor : XM := (RX7, cX7_restFor, 3, none, "restFor", 2, 0, 0)
def f_X7_restFor_L7 (a1 : Int32) : Nat → Int32 → Mem → Option (Mem)
  | 0, _, _ => none
  | n + 1, v2, w3 =>
    if (w3 0 10) ≤ v2 then
      some (w3)
    else
      ck (inb v2 2) <|
      (f_X7_least 999 ((w3 9 (ix v2)) + a1)).bind fun t4 =>
      ck (inb v2 2) <|
      lt (xs w3 9 (ix v2) t4) fun w5 =>
      lt (v2 + 1) fun v6 =>
      (f_X7_restFor_L7 a1 n) v6 w5
def f_X7_restFor (m0 : Mem) (a1 : Int32) : Option (Mem) :=
  lt (xs m0 0 12 0) fun w1 =>
  (f_X7_restFor_L7 a1 6000 (0 : Int32) w1).bind fun t8 =>
  some t8
set_option maxRecDepth 100000 in
theorem f_X7_restFor_L7_x {α R : Type} (B : XB) {Q : R → State → Prop} {k : α → Option R} {r : (Mem) → Option α} (a1 : Int32) (hE : ∀ t0 : (Mem), XE B M_X7_restFor Q 41 [] [] (0, 0) SH_M [t0] (fun t => (r t).bind k) (some t0)) : ∀ (n : Nat) (v2 : Int32) (w3 : Mem), XE B M_X7_restFor Q 7 [(0, some (.ref 0)), (1, some (.int a1)), (2, some (.int v2))] [] (0, 0) SH_M [w3] (fun t => (r t).bind k) (f_X7_restFor_L7 a1 n v2 w3) := by
  intro n
  induction n with
  | zero => intros; exact XE_none
  | succ n ih =>
    intro v2 w3
    rw [f_X7_restFor_L7]
    refine XE_iload_n (n := 8) dX7_restFor_7 rfl rfl rfl ?_
    refine XE_aload_n (n := 9) dX7_restFor_8 rfl rfl rfl ?_
    refine XE_getf (v := w3 0 10) (n := 12) xf_X7_80 rfl rfl rfl dX7_restFor_9 rfl ?_
    refine XE_icmp_ge (t := 41) (n := 15) dX7_restFor_12 rfl rfl (fun h7 => ?_) (fun h7 => ?_)
    · refine XE_ls (x_sub_ok (ls' := []) trivial) ?_
      exact hE (w3)
    · refine XE_aload_n (n := 16) dX7_restFor_15 rfl rfl rfl ?_
      refine XE_getr (b := 9) (n := 19) xf_X7_34 rfl rfl dX7_restFor_16 rfl ?_
      refine XE_iload_n (n := 20) dX7_restFor_19 rfl rfl rfl ?_
      refine XE_sipush (v := 999) (n := 23) dX7_restFor_20 rfl (by decide) ?_
      refine XE_aload_n (n := 24) dX7_restFor_23 rfl rfl rfl ?_
      refine XE_getr (b := 9) (n := 27) xf_X7_34 rfl rfl dX7_restFor_24 rfl ?_
      refine XE_iload_n (n := 28) dX7_restFor_27 rfl rfl rfl ?_
      refine XE_iald (row := w3 9) (n := 29) rfl rfl dX7_restFor_28 rfl ?_
      refine XE_iload_n (n := 30) dX7_restFor_29 rfl rfl rfl ?_
      refine XE_iadd (n := 31) dX7_restFor_30 rfl ?_
      refine XE_callS (ni := 2) (As := [.int 999, .int ((w3 9 (ix v2)) + a1)]) (π := []) (co := [0]) (cv := [w3]) (nn := 1) (hs2 := fun t4 => [w3]) (st2 := fun t4 => [.int t4, .int v2, .ref 9]) (n := 34) xc_X7_97 (fun l t ht => met_X7_least l 999 ((w3 9 (ix v2)) + a1) t ht) rfl rfl rfl dX7_restFor_31 (Nat.le_of_ble_eq_true rfl) ⟨Nat.zero_le _, Nat.zero_le _⟩ (Nat.le_of_ble_eq_true rfl) (Nat.le_of_ble_eq_true rfl) ok_40 rfl rfl rfl (fun _ => rfl) (fun _ => rfl) (fun _ => rfl) rfl (fun _ => rfl) rfl (fun t4 => ?_)
      refine XE_iast (hs2 := fun w5 => [w5]) (n := 35) rfl rfl rfl (Nat.le_of_ble_eq_true rfl) (fun _ => rfl) dX7_restFor_34 rfl (fun w5 => ?_)
      refine XE_iincl (n := 38) dX7_restFor_35 rfl rfl (by decide) (Nat.le_of_ble_eq_true rfl) rfl (fun v6 => ?_)
      refine XE_goto (n := 7) dX7_restFor_38 rfl ?_
      refine XE_ls (x_sub_ok (ls' := [(0, some (.ref 0)), (1, some (.int a1)), (2, some (.int v6))]) ⟨rfl, rfl, rfl, trivial⟩) ?_
      exact ih v6 w5
set_option maxRecDepth 100000 in
theorem xe_X7_restFor (B : XB) (m0 : Mem) (a1 : Int32) : XE B M_X7_restFor (XQm B 0 0 SH_M) 0 [(0, some (.ref 0)), (1, some (.int a1))] [] (0, 0) SH_M [m0] (fun t => some (none, [t])) (f_X7_restFor m0 a1) := by
  unfold f_X7_restFor
  refine XE_aload_n (n := 1) dX7_restFor_0 rfl rfl rfl ?_
  refine XE_iconst (v := 0) (n := 2) dX7_restFor_1 rfl (by decide) ?_
  refine XE_putf (hs2 := fun w1 => [w1]) (n := 5) xf_X7_94 rfl rfl rfl rfl (Nat.le_of_ble_eq_true rfl) (fun _ => rfl) dX7_restFor_2 rfl (fun w1 => ?_)
  refine XE_iconst (v := 0) (n := 6) dX7_restFor_5 rfl (by decide) ?_
  refine XE_istore_n (i := 2) (n := 7) dX7_restFor_6 rfl rfl (Nat.le_of_ble_eq_true rfl) rfl ?_
  refine XE_ls (x_sub_ok (ls' := [(0, some (.ref 0)), (1, some (.int a1)), (2, some (.int 0))]) ⟨rfl, rfl, rfl, trivial⟩) ?_
  refine XE_reg (J := 41) (lsJ := fun t8 => []) (stJ := fun t8 => []) (hsJ := fun t8 => [t8]) (fun t8 => ?_) (fun hJ9 => f_X7_restFor_L7_x B a1 hJ9 6000 (0 : Int32) w1)
  exact XE_vreturn rfl dX7_restFor_41 rfl (Nat.le_refl _) (Nat.le_refl _)
theorem met_X7_restFor (l : Launch) (m0 : Mem) (a1 : Int32) (t : Mem) (ht : f_X7_restFor m0 a1 = some t) : XMet l yX7_restFor cX7_restFor 3 none 2 0 0 [.ref 0, .int a1] SH_M [m0] SH_M (none, [t]) := XMet.of (by decide +kernel) (fun _ => Nat.le_of_ble_eq_true rfl) (fun B => xe_X7_restFor B m0 a1) (by rw [ht]; rfl)
/-! X7_firstOff: EveryTwentyMinutesModel.firstOff()I in world M at (0,) -/
abbrev M_X7_firstOff : XM := (RX7, cX7_firstOff, 3, (some .int), "firstOff", 1, 0, 0)
def f_X7_firstOff_L9 : Nat → Int32 → Mem → Option (Mem)
  | 0, _, _ => none
  | n + 1, v2, w3 =>
    if (w3 0 9) ≤ v2 then
      some (w3)
    else
      ck (inb v2 7) <|
      ck (inb (v2 - 1) 7) <|
      lt (xs w3 8 (ix (v2 - 1)) (w3 8 (ix v2))) fun w4 =>
      lt (v2 + 1) fun v5 =>
      (f_X7_firstOff_L9 n) v5 w4
def f_X7_firstOff (m0 : Mem) : Option (Int32 × Mem) :=
  lt (m0 8 0) fun v1 =>
  (f_X7_firstOff_L9 6000 (1 : Int32) m0).bind fun t7 =>
  lt (xs t7 0 9 ((t7 0 9) - 1)) fun w8 =>
  some (v1, w8)
set_option maxRecDepth 100000 in
theorem f_X7_firstOff_L9_x {α R : Type} (B : XB) {Q : R → State → Prop} {k : α → Option R} {r : (Mem) → Option α} (v1 : Int32) (hE : ∀ t0 : (Mem), XE B M_X7_firstOff Q 37 [(0, some (.ref 0)), (1, some (.int v1))] [] (0, 0) SH_M [t0] (fun t => (r t).bind k) (some t0)) : ∀ (n : Nat) (v2 : Int32) (w3 : Mem), XE B M_X7_firstOff Q 9 [(0, some (.ref 0)), (1, some (.int v1)), (2, some (.int v2))] [] (0, 0) SH_M [w3] (fun t => (r t).bind k) (f_X7_firstOff_L9 n v2 w3) := by
  intro n
  induction n with
  | zero => intros; exact XE_none
  | succ n ih =>
    intro v2 w3
    rw [f_X7_firstOff_L9]
    refine XE_iload_n (n := 10) dX7_firstOff_9 rfl rfl rfl ?_
    refine XE_aload_n (n := 11) dX7_firstOff_10 rfl rfl rfl ?_
    refine XE_getf (v := w3 0 9) (n := 14) xf_X7_100 rfl rfl rfl dX7_firstOff_11 rfl ?_
    refine XE_icmp_ge (t := 37) (n := 17) dX7_firstOff_14 rfl rfl (fun h6 => ?_) (fun h6 => ?_)
    · refine XE_ls (x_sub_ok (ls' := [(0, some (.ref 0)), (1, some (.int v1))]) ⟨rfl, rfl, trivial⟩) ?_
      exact hE (w3)
    · refine XE_aload_n (n := 18) dX7_firstOff_17 rfl rfl rfl ?_
      refine XE_getr (b := 8) (n := 21) xf_X7_31 rfl rfl dX7_firstOff_18 rfl ?_
      refine XE_iload_n (n := 22) dX7_firstOff_21 rfl rfl rfl ?_
      refine XE_iconst (v := 1) (n := 23) dX7_firstOff_22 rfl (by decide) ?_
      refine XE_isub (n := 24) dX7_firstOff_23 rfl ?_
      refine XE_aload_n (n := 25) dX7_firstOff_24 rfl rfl rfl ?_
      refine XE_getr (b := 8) (n := 28) xf_X7_31 rfl rfl dX7_firstOff_25 rfl ?_
      refine XE_iload_n (n := 29) dX7_firstOff_28 rfl rfl rfl ?_
      refine XE_iald (row := w3 8) (n := 30) rfl rfl dX7_firstOff_29 rfl ?_
      refine XE_iast (hs2 := fun w4 => [w4]) (n := 31) rfl rfl rfl (Nat.le_of_ble_eq_true rfl) (fun _ => rfl) dX7_firstOff_30 rfl (fun w4 => ?_)
      refine XE_iincl (n := 34) dX7_firstOff_31 rfl rfl (by decide) (Nat.le_of_ble_eq_true rfl) rfl (fun v5 => ?_)
      refine XE_goto (n := 9) dX7_firstOff_34 rfl ?_
      refine XE_ls (x_sub_ok (ls' := [(0, some (.ref 0)), (1, some (.int v1)), (2, some (.int v5))]) ⟨rfl, rfl, rfl, trivial⟩) ?_
      exact ih v5 w4
set_option maxRecDepth 100000 in
theorem xe_X7_firstOff (B : XB) (m0 : Mem) : XE B M_X7_firstOff (XQm B 0 0 SH_M) 0 [(0, some (.ref 0))] [] (0, 0) SH_M [m0] (fun t => some (some (.int t.1), [t.2])) (f_X7_firstOff m0) := by
  unfold f_X7_firstOff
  refine XE_aload_n (n := 1) dX7_firstOff_0 rfl rfl rfl ?_
  refine XE_getr (b := 8) (n := 4) xf_X7_31 rfl rfl dX7_firstOff_1 rfl ?_
  refine XE_iconst (v := 0) (n := 5) dX7_firstOff_4 rfl (by decide) ?_
  refine XE_ialdc (row := m0 8) (j := 0) (n := 6) rfl rfl rfl rfl dX7_firstOff_5 rfl ?_
  refine XE_topi (fun v1 => ?_)
  refine XE_istore_n (i := 1) (n := 7) dX7_firstOff_6 rfl rfl (Nat.le_of_ble_eq_true rfl) rfl ?_
  refine XE_iconst (v := 1) (n := 8) dX7_firstOff_7 rfl (by decide) ?_
  refine XE_istore_n (i := 2) (n := 9) dX7_firstOff_8 rfl rfl (Nat.le_of_ble_eq_true rfl) rfl ?_
  refine XE_ls (x_sub_ok (ls' := [(0, some (.ref 0)), (1, some (.int v1)), (2, some (.int 1))]) ⟨rfl, rfl, rfl, trivial⟩) ?_
  refine XE_reg (J := 37) (lsJ := fun t7 => [(0, some (.ref 0)), (1, some (.int v1))]) (stJ := fun t7 => []) (hsJ := fun t7 => [t7]) (fun t7 => ?_) (fun hJ9 => f_X7_firstOff_L9_x B v1 hJ9 6000 (1 : Int32) m0)
  refine XE_aload_n (n := 38) dX7_firstOff_37 rfl rfl rfl ?_
  refine XE_dup (n := 39) dX7_firstOff_38 rfl rfl ?_
  refine XE_getf (v := t7 0 9) (n := 42) xf_X7_100 rfl rfl rfl dX7_firstOff_39 rfl ?_
  refine XE_iconst (v := 1) (n := 43) dX7_firstOff_42 rfl (by decide) ?_
  refine XE_isub (n := 44) dX7_firstOff_43 rfl ?_
  refine XE_putf (hs2 := fun w8 => [w8]) (n := 47) xf_X7_100 rfl rfl rfl rfl (Nat.le_of_ble_eq_true rfl) (fun _ => rfl) dX7_firstOff_44 rfl (fun w8 => ?_)
  refine XE_iload_n (n := 48) dX7_firstOff_47 rfl rfl rfl ?_
  exact XE_ireturn rfl dX7_firstOff_48 rfl (Nat.le_refl _) (Nat.le_refl _)
theorem met_X7_firstOff (l : Launch) (m0 : Mem) (t : Int32 × Mem) (ht : f_X7_firstOff m0 = some t) : XMet l yX7_firstOff cX7_firstOff 3 (some .int) 1 0 0 [.ref 0] SH_M [m0] SH_M (some (.int t.1), [t.2]) := XMet.of (by decide +kernel) (fun _ => Nat.le_of_ble_eq_true rfl) (fun B => xe_X7_firstOff B m0) (by rw [ht]; rfl)
/-! X7_wedOne: EveryTwentyMinutesModel.wedOne(I)V in world M at (0,) -/
abbrev M_X7_wedOne : XM := (RX7, cX7_wedOne, 6, none, "wedOne", 3, 0, 0)
def f_X7_wedOne (m0 : Mem) (a1 : Int32) : Option (Mem) :=
  (f_X7_firstOff m0).bind fun t1 =>
  lt t1.1 fun v2 =>
  lt (if (t1.2 0 10) = 2 then
      if (t1.2 9 0) ≤ (t1.2 9 1) then
        ((0 : Int32))
      else
        ((1 : Int32))
    else
      ((0 : Int32))) fun t6 =>
  ck (inb t6 2) <|
  (f_X7_readyOf t1.2 v2).bind fun t7 =>
  (f_X7_most (t1.2 9 (ix t6)) t7).bind fun t8 =>
  ck (inb v2 7) <|
  (if (t1.2 1 (ix v2)) = 4 then
     some (t8)
   else
     ck (inb v2 7) <|
     (f_X7_most t8 (t1.2 3 (ix v2))).bind fun t13 =>
     some (t13)).bind fun t15 =>
  ck (inb v2 7) <|
  ck (inb v2 7) <|
  (f_X7_lastsBy (t1.2 1 (ix v2)) (t1.2 2 (ix v2))).bind fun t16 =>
  lt (if (t1.2 0 12) < 30 then
      ((0 : Int32))
    else
      ((2 : Int32))) fun t19 =>
  lt ((t16 + t19) + a1) fun v20 =>
  ck (inb v2 7) <|
  lt (xs t1.2 4 (ix v2) 1) fun w21 =>
  ck (inb v2 7) <|
  lt (xs w21 5 (ix v2) t15) fun w22 =>
  (f_X7_least 999 (t15 + v20)).bind fun t23 =>
  ck (inb v2 7) <|
  lt (xs w22 6 (ix v2) t23) fun w24 =>
  ck (inb v2 7) <|
  lt (xs w24 7 (ix v2) t6) fun w25 =>
  ck (inb v2 7) <|
  (f_X7_least 999 ((w25 6 (ix v2)) + (w25 0 13))).bind fun t26 =>
  ck (inb t6 2) <|
  lt (xs w25 9 (ix t6) t26) fun w27 =>
  (f_X7_least 99 ((w27 0 12) + (v20 / 4))).bind fun t28 =>
  lt (xs w27 0 12 t28) fun w29 =>
  some w29
set_option maxRecDepth 100000 in
theorem xe_X7_wedOne (B : XB) (m0 : Mem) (a1 : Int32) : XE B M_X7_wedOne (XQm B 0 0 SH_M) 0 [(0, some (.ref 0)), (1, some (.int a1))] [] (0, 0) SH_M [m0] (fun t => some (none, [t])) (f_X7_wedOne m0 a1) := by
  unfold f_X7_wedOne
  refine XE_aload_n (n := 1) dX7_wedOne_0 rfl rfl rfl ?_
  refine XE_callVi (ni := 0) (As := []) (st2 := fun t1 => [.int t1.1]) (n := 4) (b := 0) xc_X7_103 (fun l t ht => met_X7_firstOff l m0 t ht) rfl rfl rfl rfl dX7_wedOne_1 (Nat.le_of_ble_eq_true rfl) ⟨Nat.zero_le _, Nat.zero_le _⟩ (Nat.le_of_ble_eq_true rfl) (Nat.le_of_ble_eq_true rfl) (fun _ => rfl) rfl (fun t1 => ?_)
  refine XE_topi (fun v2 => ?_)
  refine XE_istore_n (i := 2) (n := 5) dX7_wedOne_4 rfl rfl (Nat.le_of_ble_eq_true rfl) rfl ?_
  refine XE_aload_n (n := 6) dX7_wedOne_5 rfl rfl rfl ?_
  refine XE_getf (v := t1.2 0 10) (n := 9) xf_X7_80 rfl rfl rfl dX7_wedOne_6 rfl ?_
  refine XE_iconst (v := 2) (n := 10) dX7_wedOne_9 rfl (by decide) ?_
  refine XE_regv (J := 33) (lsJ := fun t6 => [(0, some (.ref 0)), (1, some (.int a1)), (2, some (.int v2))]) (stJ := fun t6 => [.int t6]) (hsJ := fun t6 => [t1.2]) (fun t6 => ?_) (fun hJ3 => ?_)
  · refine XE_istore_n (i := 3) (n := 34) dX7_wedOne_33 rfl rfl (Nat.le_of_ble_eq_true rfl) rfl ?_
    refine XE_aload_n (n := 35) dX7_wedOne_34 rfl rfl rfl ?_
    refine XE_getr (b := 9) (n := 38) xf_X7_34 rfl rfl dX7_wedOne_35 rfl ?_
    refine XE_iload_n (n := 39) dX7_wedOne_38 rfl rfl rfl ?_
    refine XE_iald (row := t1.2 9) (n := 40) rfl rfl dX7_wedOne_39 rfl ?_
    refine XE_aload_n (n := 41) dX7_wedOne_40 rfl rfl rfl ?_
    refine XE_iload_n (n := 42) dX7_wedOne_41 rfl rfl rfl ?_
    refine XE_callVi (ni := 1) (As := [.int v2]) (st2 := fun t7 => [.int t7, .int (t1.2 9 (ix t6))]) (n := 45) (b := 0) xc_X7_107 (fun l t ht => met_X7_readyOf l t1.2 v2 t ht) rfl rfl rfl rfl dX7_wedOne_42 (Nat.le_of_ble_eq_true rfl) ⟨Nat.zero_le _, Nat.zero_le _⟩ (Nat.le_of_ble_eq_true rfl) (Nat.le_of_ble_eq_true rfl) (fun _ => rfl) rfl (fun t7 => ?_)
    refine XE_callS (ni := 2) (As := [.int (t1.2 9 (ix t6)), .int t7]) (π := []) (co := [0]) (cv := [t1.2]) (nn := 1) (hs2 := fun t8 => [t1.2]) (st2 := fun t8 => [.int t8]) (n := 48) xc_X7_90 (fun l t ht => met_X7_most l (t1.2 9 (ix t6)) t7 t ht) rfl rfl rfl dX7_wedOne_45 (Nat.le_of_ble_eq_true rfl) ⟨Nat.zero_le _, Nat.zero_le _⟩ (Nat.le_of_ble_eq_true rfl) (Nat.le_of_ble_eq_true rfl) ok_40 rfl rfl rfl (fun _ => rfl) (fun _ => rfl) (fun _ => rfl) rfl (fun _ => rfl) rfl (fun t8 => ?_)
    refine XE_istore (i := 4) (n := 50) dX7_wedOne_48 rfl (Nat.le_of_ble_eq_true rfl) rfl ?_
    refine XE_aload_n (n := 51) dX7_wedOne_50 rfl rfl rfl ?_
    refine XE_getr (b := 1) (n := 54) xf_X7_7 rfl rfl dX7_wedOne_51 rfl ?_
    refine XE_iload_n (n := 55) dX7_wedOne_54 rfl rfl rfl ?_
    refine XE_iald (row := t1.2 1) (n := 56) rfl rfl dX7_wedOne_55 rfl ?_
    refine XE_iconst (v := 4) (n := 57) dX7_wedOne_56 rfl (by decide) ?_
    refine XE_reg (J := 76) (lsJ := fun t15 => [(0, some (.ref 0)), (1, some (.int a1)), (2, some (.int v2)), (3, some (.int t6))]) (stJ := fun t15 => [.int t15]) (hsJ := fun t15 => [t1.2]) (fun t15 => ?_) (fun hJ12 => ?_)
    · refine XE_istore (i := 4) (n := 78) dX7_wedOne_76 rfl (Nat.le_of_ble_eq_true rfl) rfl ?_
      refine XE_aload_n (n := 79) dX7_wedOne_78 rfl rfl rfl ?_
      refine XE_getr (b := 1) (n := 82) xf_X7_7 rfl rfl dX7_wedOne_79 rfl ?_
      refine XE_iload_n (n := 83) dX7_wedOne_82 rfl rfl rfl ?_
      refine XE_iald (row := t1.2 1) (n := 84) rfl rfl dX7_wedOne_83 rfl ?_
      refine XE_aload_n (n := 85) dX7_wedOne_84 rfl rfl rfl ?_
      refine XE_getr (b := 2) (n := 88) xf_X7_13 rfl rfl dX7_wedOne_85 rfl ?_
      refine XE_iload_n (n := 89) dX7_wedOne_88 rfl rfl rfl ?_
      refine XE_iald (row := t1.2 2) (n := 90) rfl rfl dX7_wedOne_89 rfl ?_
      refine XE_callS (ni := 2) (As := [.int (t1.2 1 (ix v2)), .int (t1.2 2 (ix v2))]) (π := []) (co := [0]) (cv := [t1.2]) (nn := 1) (hs2 := fun t16 => [t1.2]) (st2 := fun t16 => [.int t16]) (n := 93) xc_X7_111 (fun l t ht => met_X7_lastsBy l (t1.2 1 (ix v2)) (t1.2 2 (ix v2)) t ht) rfl rfl rfl dX7_wedOne_90 (Nat.le_of_ble_eq_true rfl) ⟨Nat.zero_le _, Nat.zero_le _⟩ (Nat.le_of_ble_eq_true rfl) (Nat.le_of_ble_eq_true rfl) ok_40 rfl rfl rfl (fun _ => rfl) (fun _ => rfl) (fun _ => rfl) rfl (fun _ => rfl) rfl (fun t16 => ?_)
      refine XE_aload_n (n := 94) dX7_wedOne_93 rfl rfl rfl ?_
      refine XE_getf (v := t1.2 0 12) (n := 97) xf_X7_94 rfl rfl rfl dX7_wedOne_94 rfl ?_
      refine XE_bipush (v := 30) (n := 99) dX7_wedOne_97 rfl (by decide) ?_
      refine XE_regv (J := 107) (lsJ := fun t19 => [(0, some (.ref 0)), (1, some (.int a1)), (2, some (.int v2)), (3, some (.int t6)), (4, some (.int t15))]) (stJ := fun t19 => [.int t19, .int t16]) (hsJ := fun t19 => [t1.2]) (fun t19 => ?_) (fun hJ17 => ?_)
      · refine XE_iadd (n := 108) dX7_wedOne_107 rfl ?_
        refine XE_iload_n (n := 109) dX7_wedOne_108 rfl rfl rfl ?_
        refine XE_iadd (n := 110) dX7_wedOne_109 rfl ?_
        refine XE_topi (fun v20 => ?_)
        refine XE_istore (i := 5) (n := 112) dX7_wedOne_110 rfl (Nat.le_of_ble_eq_true rfl) rfl ?_
        refine XE_aload_n (n := 113) dX7_wedOne_112 rfl rfl rfl ?_
        refine XE_getr (b := 4) (n := 116) xf_X7_19 rfl rfl dX7_wedOne_113 rfl ?_
        refine XE_iload_n (n := 117) dX7_wedOne_116 rfl rfl rfl ?_
        refine XE_iconst (v := 1) (n := 118) dX7_wedOne_117 rfl (by decide) ?_
        refine XE_iast (hs2 := fun w21 => [w21]) (n := 119) rfl rfl rfl (Nat.le_of_ble_eq_true rfl) (fun _ => rfl) dX7_wedOne_118 rfl (fun w21 => ?_)
        refine XE_aload_n (n := 120) dX7_wedOne_119 rfl rfl rfl ?_
        refine XE_getr (b := 5) (n := 123) xf_X7_22 rfl rfl dX7_wedOne_120 rfl ?_
        refine XE_iload_n (n := 124) dX7_wedOne_123 rfl rfl rfl ?_
        refine XE_iload (n := 126) dX7_wedOne_124 rfl rfl ?_
        refine XE_iast (hs2 := fun w22 => [w22]) (n := 127) rfl rfl rfl (Nat.le_of_ble_eq_true rfl) (fun _ => rfl) dX7_wedOne_126 rfl (fun w22 => ?_)
        refine XE_aload_n (n := 128) dX7_wedOne_127 rfl rfl rfl ?_
        refine XE_getr (b := 6) (n := 131) xf_X7_25 rfl rfl dX7_wedOne_128 rfl ?_
        refine XE_iload_n (n := 132) dX7_wedOne_131 rfl rfl rfl ?_
        refine XE_sipush (v := 999) (n := 135) dX7_wedOne_132 rfl (by decide) ?_
        refine XE_iload (n := 137) dX7_wedOne_135 rfl rfl ?_
        refine XE_iload (n := 139) dX7_wedOne_137 rfl rfl ?_
        refine XE_iadd (n := 140) dX7_wedOne_139 rfl ?_
        refine XE_callS (ni := 2) (As := [.int 999, .int (t15 + v20)]) (π := []) (co := [0]) (cv := [w22]) (nn := 1) (hs2 := fun t23 => [w22]) (st2 := fun t23 => [.int t23, .int v2, .ref 6]) (n := 143) xc_X7_97 (fun l t ht => met_X7_least l 999 (t15 + v20) t ht) rfl rfl rfl dX7_wedOne_140 (Nat.le_of_ble_eq_true rfl) ⟨Nat.zero_le _, Nat.zero_le _⟩ (Nat.le_of_ble_eq_true rfl) (Nat.le_of_ble_eq_true rfl) ok_40 rfl rfl rfl (fun _ => rfl) (fun _ => rfl) (fun _ => rfl) rfl (fun _ => rfl) rfl (fun t23 => ?_)
        refine XE_iast (hs2 := fun w24 => [w24]) (n := 144) rfl rfl rfl (Nat.le_of_ble_eq_true rfl) (fun _ => rfl) dX7_wedOne_143 rfl (fun w24 => ?_)
        refine XE_aload_n (n := 145) dX7_wedOne_144 rfl rfl rfl ?_
        refine XE_getr (b := 7) (n := 148) xf_X7_28 rfl rfl dX7_wedOne_145 rfl ?_
        refine XE_iload_n (n := 149) dX7_wedOne_148 rfl rfl rfl ?_
        refine XE_iload_n (n := 150) dX7_wedOne_149 rfl rfl rfl ?_
        refine XE_iast (hs2 := fun w25 => [w25]) (n := 151) rfl rfl rfl (Nat.le_of_ble_eq_true rfl) (fun _ => rfl) dX7_wedOne_150 rfl (fun w25 => ?_)
        refine XE_aload_n (n := 152) dX7_wedOne_151 rfl rfl rfl ?_
        refine XE_getr (b := 9) (n := 155) xf_X7_34 rfl rfl dX7_wedOne_152 rfl ?_
        refine XE_iload_n (n := 156) dX7_wedOne_155 rfl rfl rfl ?_
        refine XE_sipush (v := 999) (n := 159) dX7_wedOne_156 rfl (by decide) ?_
        refine XE_aload_n (n := 160) dX7_wedOne_159 rfl rfl rfl ?_
        refine XE_getr (b := 6) (n := 163) xf_X7_25 rfl rfl dX7_wedOne_160 rfl ?_
        refine XE_iload_n (n := 164) dX7_wedOne_163 rfl rfl rfl ?_
        refine XE_iald (row := w25 6) (n := 165) rfl rfl dX7_wedOne_164 rfl ?_
        refine XE_aload_n (n := 166) dX7_wedOne_165 rfl rfl rfl ?_
        refine XE_getf (v := w25 0 13) (n := 169) xf_X7_114 rfl rfl rfl dX7_wedOne_166 rfl ?_
        refine XE_iadd (n := 170) dX7_wedOne_169 rfl ?_
        refine XE_callS (ni := 2) (As := [.int 999, .int ((w25 6 (ix v2)) + (w25 0 13))]) (π := []) (co := [0]) (cv := [w25]) (nn := 1) (hs2 := fun t26 => [w25]) (st2 := fun t26 => [.int t26, .int t6, .ref 9]) (n := 173) xc_X7_97 (fun l t ht => met_X7_least l 999 ((w25 6 (ix v2)) + (w25 0 13)) t ht) rfl rfl rfl dX7_wedOne_170 (Nat.le_of_ble_eq_true rfl) ⟨Nat.zero_le _, Nat.zero_le _⟩ (Nat.le_of_ble_eq_true rfl) (Nat.le_of_ble_eq_true rfl) ok_40 rfl rfl rfl (fun _ => rfl) (fun _ => rfl) (fun _ => rfl) rfl (fun _ => rfl) rfl (fun t26 => ?_)
        refine XE_iast (hs2 := fun w27 => [w27]) (n := 174) rfl rfl rfl (Nat.le_of_ble_eq_true rfl) (fun _ => rfl) dX7_wedOne_173 rfl (fun w27 => ?_)
        refine XE_aload_n (n := 175) dX7_wedOne_174 rfl rfl rfl ?_
        refine XE_bipush (v := 99) (n := 177) dX7_wedOne_175 rfl (by decide) ?_
        refine XE_aload_n (n := 178) dX7_wedOne_177 rfl rfl rfl ?_
        refine XE_getf (v := w27 0 12) (n := 181) xf_X7_94 rfl rfl rfl dX7_wedOne_178 rfl ?_
        refine XE_iload (n := 183) dX7_wedOne_181 rfl rfl ?_
        refine XE_iconst (v := 4) (n := 184) dX7_wedOne_183 rfl (by decide) ?_
        refine XE_idiv (n := 185) dX7_wedOne_184 rfl (by decide) ?_
        refine XE_iadd (n := 186) dX7_wedOne_185 rfl ?_
        refine XE_callS (ni := 2) (As := [.int 99, .int ((w27 0 12) + (v20 / 4))]) (π := []) (co := [0]) (cv := [w27]) (nn := 1) (hs2 := fun t28 => [w27]) (st2 := fun t28 => [.int t28, .ref 0]) (n := 189) xc_X7_97 (fun l t ht => met_X7_least l 99 ((w27 0 12) + (v20 / 4)) t ht) rfl rfl rfl dX7_wedOne_186 (Nat.le_of_ble_eq_true rfl) ⟨Nat.zero_le _, Nat.zero_le _⟩ (Nat.le_of_ble_eq_true rfl) (Nat.le_of_ble_eq_true rfl) ok_40 rfl rfl rfl (fun _ => rfl) (fun _ => rfl) (fun _ => rfl) rfl (fun _ => rfl) rfl (fun t28 => ?_)
        refine XE_putf (hs2 := fun w29 => [w29]) (n := 192) xf_X7_94 rfl rfl rfl rfl (Nat.le_of_ble_eq_true rfl) (fun _ => rfl) dX7_wedOne_189 rfl (fun w29 => ?_)
        exact XE_vreturn rfl dX7_wedOne_192 rfl (Nat.le_refl _) (Nat.le_refl _)
      · refine XE_ltif ?_
        refine XE_icmp_lt (t := 106) (n := 102) dX7_wedOne_99 rfl rfl (fun h18 => ?_) (fun h18 => ?_)
        · refine XE_iconst (v := 0) (n := 107) dX7_wedOne_106 rfl (by decide) ?_
          refine XE_ls (x_sub_ok (ls' := [(0, some (.ref 0)), (1, some (.int a1)), (2, some (.int v2)), (3, some (.int t6)), (4, some (.int t15))]) ⟨rfl, rfl, rfl, rfl, rfl, trivial⟩) ?_
          exact hJ17 ((0 : Int32))
        · refine XE_iconst (v := 2) (n := 103) dX7_wedOne_102 rfl (by decide) ?_
          refine XE_goto (n := 107) dX7_wedOne_103 rfl ?_
          refine XE_ls (x_sub_ok (ls' := [(0, some (.ref 0)), (1, some (.int a1)), (2, some (.int v2)), (3, some (.int t6)), (4, some (.int t15))]) ⟨rfl, rfl, rfl, rfl, rfl, trivial⟩) ?_
          exact hJ17 ((2 : Int32))
    · refine XE_icmp_ne (t := 65) (n := 60) dX7_wedOne_57 rfl rfl (fun h14 => ?_) (fun h14 => ?_)
      · refine XE_iload (n := 62) dX7_wedOne_60 rfl rfl ?_
        refine XE_goto (n := 76) dX7_wedOne_62 rfl ?_
        refine XE_ls (x_sub_ok (ls' := [(0, some (.ref 0)), (1, some (.int a1)), (2, some (.int v2)), (3, some (.int t6))]) ⟨rfl, rfl, rfl, rfl, trivial⟩) ?_
        exact hJ12 (t8)
      · refine XE_iload (n := 67) dX7_wedOne_65 rfl rfl ?_
        refine XE_aload_n (n := 68) dX7_wedOne_67 rfl rfl rfl ?_
        refine XE_getr (b := 3) (n := 71) xf_X7_16 rfl rfl dX7_wedOne_68 rfl ?_
        refine XE_iload_n (n := 72) dX7_wedOne_71 rfl rfl rfl ?_
        refine XE_iald (row := t1.2 3) (n := 73) rfl rfl dX7_wedOne_72 rfl ?_
        refine XE_callS (ni := 2) (As := [.int t8, .int (t1.2 3 (ix v2))]) (π := []) (co := [0]) (cv := [t1.2]) (nn := 1) (hs2 := fun t13 => [t1.2]) (st2 := fun t13 => [.int t13]) (n := 76) xc_X7_90 (fun l t ht => met_X7_most l t8 (t1.2 3 (ix v2)) t ht) rfl rfl rfl dX7_wedOne_73 (Nat.le_of_ble_eq_true rfl) ⟨Nat.zero_le _, Nat.zero_le _⟩ (Nat.le_of_ble_eq_true rfl) (Nat.le_of_ble_eq_true rfl) ok_40 rfl rfl rfl (fun _ => rfl) (fun _ => rfl) (fun _ => rfl) rfl (fun _ => rfl) rfl (fun t13 => ?_)
        refine XE_ls (x_sub_ok (ls' := [(0, some (.ref 0)), (1, some (.int a1)), (2, some (.int v2)), (3, some (.int t6))]) ⟨rfl, rfl, rfl, rfl, trivial⟩) ?_
        exact hJ12 (t13)
  · refine XE_ltif ?_
    refine XE_icmp_ne (t := 32) (n := 13) dX7_wedOne_10 rfl rfl (fun h5 => ?_) (fun h5 => ?_)
    · refine XE_aload_n (n := 14) dX7_wedOne_13 rfl rfl rfl ?_
      refine XE_getr (b := 9) (n := 17) xf_X7_34 rfl rfl dX7_wedOne_14 rfl ?_
      refine XE_iconst (v := 1) (n := 18) dX7_wedOne_17 rfl (by decide) ?_
      refine XE_ialdc (row := t1.2 9) (j := 1) (n := 19) rfl rfl rfl rfl dX7_wedOne_18 rfl ?_
      refine XE_aload_n (n := 20) dX7_wedOne_19 rfl rfl rfl ?_
      refine XE_getr (b := 9) (n := 23) xf_X7_34 rfl rfl dX7_wedOne_20 rfl ?_
      refine XE_iconst (v := 0) (n := 24) dX7_wedOne_23 rfl (by decide) ?_
      refine XE_ialdc (row := t1.2 9) (j := 0) (n := 25) rfl rfl rfl rfl dX7_wedOne_24 rfl ?_
      refine XE_ltif ?_
      refine XE_icmp_ge (t := 32) (n := 28) dX7_wedOne_25 rfl rfl (fun h4 => ?_) (fun h4 => ?_)
      · refine XE_iconst (v := 0) (n := 33) dX7_wedOne_32 rfl (by decide) ?_
        refine XE_ls (x_sub_ok (ls' := [(0, some (.ref 0)), (1, some (.int a1)), (2, some (.int v2))]) ⟨rfl, rfl, rfl, trivial⟩) ?_
        exact hJ3 ((0 : Int32))
      · refine XE_iconst (v := 1) (n := 29) dX7_wedOne_28 rfl (by decide) ?_
        refine XE_goto (n := 33) dX7_wedOne_29 rfl ?_
        refine XE_ls (x_sub_ok (ls' := [(0, some (.ref 0)), (1, some (.int a1)), (2, some (.int v2))]) ⟨rfl, rfl, rfl, trivial⟩) ?_
        exact hJ3 ((1 : Int32))
    · refine XE_iconst (v := 0) (n := 33) dX7_wedOne_32 rfl (by decide) ?_
      refine XE_ls (x_sub_ok (ls' := [(0, some (.ref 0)), (1, some (.int a1)), (2, some (.int v2))]) ⟨rfl, rfl, rfl, trivial⟩) ?_
      exact hJ3 ((0 : Int32))
theorem met_X7_wedOne (l : Launch) (m0 : Mem) (a1 : Int32) (t : Mem) (ht : f_X7_wedOne m0 a1 = some t) : XMet l yX7_wedOne cX7_wedOne 6 none 3 0 0 [.ref 0, .int a1] SH_M [m0] SH_M (none, [t]) := XMet.of (by decide +kernel) (fun _ => Nat.le_of_ble_eq_true rfl) (fun B => xe_X7_wedOne B m0 a1) (by rw [ht]; rfl)
/-! X7_wedAll: EveryTwentyMinutesModel.wedAll()V in world M at (0,) -/
abbrev M_X7_wedAll : XM := (RX7, cX7_wedAll, 1, none, "wedAll", 4, 0, 0)
def f_X7_wedAll_L0 : Nat → Mem → Option (Mem)
  | 0, _ => none
  | n + 1, w1 =>
    if (w1 0 9) ≤ 0 then
      some (w1)
    else
      (f_X7_wedOne w1 0).bind fun t2 =>
      (f_X7_wedAll_L0 n) t2
def f_X7_wedAll (m0 : Mem) : Option (Mem) :=
  (f_X7_wedAll_L0 6000 m0).bind fun t4 =>
  some t4
set_option maxRecDepth 100000 in
theorem f_X7_wedAll_L0_x {α R : Type} (B : XB) {Q : R → State → Prop} {k : α → Option R} {r : (Mem) → Option α} (hE : ∀ t0 : (Mem), XE B M_X7_wedAll Q 15 [] [] (0, 0) SH_M [t0] (fun t => (r t).bind k) (some t0)) : ∀ (n : Nat) (w1 : Mem), XE B M_X7_wedAll Q 0 [(0, some (.ref 0))] [] (0, 0) SH_M [w1] (fun t => (r t).bind k) (f_X7_wedAll_L0 n w1) := by
  intro n
  induction n with
  | zero => intros; exact XE_none
  | succ n ih =>
    intro w1
    rw [f_X7_wedAll_L0]
    refine XE_aload_n (n := 1) dX7_wedAll_0 rfl rfl rfl ?_
    refine XE_getf (v := w1 0 9) (n := 4) xf_X7_100 rfl rfl rfl dX7_wedAll_1 rfl ?_
    refine XE_if_le (t := 15) (n := 7) dX7_wedAll_4 rfl rfl (fun h3 => ?_) (fun h3 => ?_)
    · refine XE_ls (x_sub_ok (ls' := []) trivial) ?_
      exact hE (w1)
    · refine XE_aload_n (n := 8) dX7_wedAll_7 rfl rfl rfl ?_
      refine XE_iconst (v := 0) (n := 9) dX7_wedAll_8 rfl (by decide) ?_
      refine XE_callVi (ni := 1) (As := [.int 0]) (st2 := fun t2 => []) (n := 12) (b := 0) xc_X7_117 (fun l t ht => met_X7_wedOne l w1 0 t ht) rfl rfl rfl rfl dX7_wedAll_9 (Nat.le_of_ble_eq_true rfl) ⟨Nat.zero_le _, Nat.zero_le _⟩ (Nat.le_of_ble_eq_true rfl) (Nat.le_of_ble_eq_true rfl) (fun _ => rfl) rfl (fun t2 => ?_)
      refine XE_goto (n := 0) dX7_wedAll_12 rfl ?_
      refine XE_ls (x_sub_ok (ls' := [(0, some (.ref 0))]) ⟨rfl, trivial⟩) ?_
      exact ih t2
set_option maxRecDepth 100000 in
theorem xe_X7_wedAll (B : XB) (m0 : Mem) : XE B M_X7_wedAll (XQm B 0 0 SH_M) 0 [(0, some (.ref 0))] [] (0, 0) SH_M [m0] (fun t => some (none, [t])) (f_X7_wedAll m0) := by
  unfold f_X7_wedAll
  refine XE_ls (x_sub_ok (ls' := [(0, some (.ref 0))]) ⟨rfl, trivial⟩) ?_
  refine XE_reg (J := 15) (lsJ := fun t4 => []) (stJ := fun t4 => []) (hsJ := fun t4 => [t4]) (fun t4 => ?_) (fun hJ5 => f_X7_wedAll_L0_x B hJ5 6000 m0)
  exact XE_vreturn rfl dX7_wedAll_15 rfl (Nat.le_refl _) (Nat.le_refl _)
theorem met_X7_wedAll (l : Launch) (m0 : Mem) (t : Mem) (ht : f_X7_wedAll m0 = some t) : XMet l yX7_wedAll cX7_wedAll 1 none 4 0 0 [.ref 0] SH_M [m0] SH_M (none, [t]) := XMet.of (by decide +kernel) (fun _ => Nat.le_of_ble_eq_true rfl) (fun B => xe_X7_wedAll B m0) (by rw [ht]; rfl)
/-! X7_lateOf: EveryTwentyMinutesModel.lateOf(I)I in world M at (0,) -/
abbrev M_X7_lateOf : XM := (RX7, cX7_lateOf, 2, (some .int), "lateOf", 2, 0, 0)
def f_X7_lateOf (m0 : Mem) (a1 : Int32) : Option (Int32) :=
  ck (inb a1 7) <|
  ck (inb a1 7) <|
  (f_X7_most 0 ((m0 5 (ix a1)) - (m0 3 (ix a1)))).bind fun t1 =>
  some t1
set_option maxRecDepth 100000 in
theorem xe_X7_lateOf (B : XB) (m0 : Mem) (a1 : Int32) : XE B M_X7_lateOf (XQm B 0 0 SH_M) 0 [(0, some (.ref 0)), (1, some (.int a1))] [] (0, 0) SH_M [m0] (fun t => some (some (.int t), [m0])) (f_X7_lateOf m0 a1) := by
  unfold f_X7_lateOf
  refine XE_iconst (v := 0) (n := 1) dX7_lateOf_0 rfl (by decide) ?_
  refine XE_aload_n (n := 2) dX7_lateOf_1 rfl rfl rfl ?_
  refine XE_getr (b := 5) (n := 5) xf_X7_22 rfl rfl dX7_lateOf_2 rfl ?_
  refine XE_iload_n (n := 6) dX7_lateOf_5 rfl rfl rfl ?_
  refine XE_iald (row := m0 5) (n := 7) rfl rfl dX7_lateOf_6 rfl ?_
  refine XE_aload_n (n := 8) dX7_lateOf_7 rfl rfl rfl ?_
  refine XE_getr (b := 3) (n := 11) xf_X7_16 rfl rfl dX7_lateOf_8 rfl ?_
  refine XE_iload_n (n := 12) dX7_lateOf_11 rfl rfl rfl ?_
  refine XE_iald (row := m0 3) (n := 13) rfl rfl dX7_lateOf_12 rfl ?_
  refine XE_isub (n := 14) dX7_lateOf_13 rfl ?_
  refine XE_callS (ni := 2) (As := [.int 0, .int ((m0 5 (ix a1)) - (m0 3 (ix a1)))]) (π := []) (co := [0]) (cv := [m0]) (nn := 1) (hs2 := fun t1 => [m0]) (st2 := fun t1 => [.int t1]) (n := 17) xc_X7_90 (fun l t ht => met_X7_most l 0 ((m0 5 (ix a1)) - (m0 3 (ix a1))) t ht) rfl rfl rfl dX7_lateOf_14 (Nat.le_of_ble_eq_true rfl) ⟨Nat.zero_le _, Nat.zero_le _⟩ (Nat.le_of_ble_eq_true rfl) (Nat.le_of_ble_eq_true rfl) ok_40 rfl rfl rfl (fun _ => rfl) (fun _ => rfl) (fun _ => rfl) rfl (fun _ => rfl) rfl (fun t1 => ?_)
  exact XE_ireturn rfl dX7_lateOf_17 rfl (Nat.le_refl _) (Nat.le_refl _)
theorem met_X7_lateOf (l : Launch) (m0 : Mem) (a1 : Int32) (t : Int32) (ht : f_X7_lateOf m0 a1 = some t) : XMet l yX7_lateOf cX7_lateOf 2 (some .int) 2 0 0 [.ref 0, .int a1] SH_M [m0] SH_M (some (.int t), [m0]) := XMet.of (by decide +kernel) (fun _ => Nat.le_of_ble_eq_true rfl) (fun B => xe_X7_lateOf B m0 a1) (by rw [ht]; rfl)
/-! X7_allLate: EveryTwentyMinutesModel.allLate()I in world M at (0,) -/
abbrev M_X7_allLate : XM := (RX7, cX7_allLate, 3, (some .int), "allLate", 3, 0, 0)
def f_X7_allLate_L4 (m0 : Mem) : Nat → Int32 → Int32 → Option (Int32)
  | 0, _, _ => none
  | n + 1, v1, v2 =>
    if (m0 0 0) ≤ v2 then
      some (v1)
    else
      (f_X7_lateOf m0 v2).bind fun t3 =>
      lt (v1 + t3) fun v4 =>
      lt (v2 + 1) fun v5 =>
      (f_X7_allLate_L4 m0 n) v4 v5
def f_X7_allLate (m0 : Mem) : Option (Int32) :=
  (f_X7_allLate_L4 m0 6000 (0 : Int32) (0 : Int32)).bind fun t7 =>
  some t7
set_option maxRecDepth 100000 in
theorem f_X7_allLate_L4_x {α R : Type} (B : XB) {Q : R → State → Prop} {k : α → Option R} {r : (Int32) → Option α} (m0 : Mem) (hE : ∀ t0 : (Int32), XE B M_X7_allLate Q 26 [(1, some (.int t0))] [] (0, 0) SH_M [m0] (fun t => (r t).bind k) (some t0)) : ∀ (n : Nat) (v1 : Int32) (v2 : Int32), XE B M_X7_allLate Q 4 [(0, some (.ref 0)), (1, some (.int v1)), (2, some (.int v2))] [] (0, 0) SH_M [m0] (fun t => (r t).bind k) (f_X7_allLate_L4 m0 n v1 v2) := by
  intro n
  induction n with
  | zero => intros; exact XE_none
  | succ n ih =>
    intro v1 v2
    rw [f_X7_allLate_L4]
    refine XE_iload_n (n := 5) dX7_allLate_4 rfl rfl rfl ?_
    refine XE_aload_n (n := 6) dX7_allLate_5 rfl rfl rfl ?_
    refine XE_getf (v := m0 0 0) (n := 9) xf_X7_83 rfl rfl rfl dX7_allLate_6 rfl ?_
    refine XE_icmp_ge (t := 26) (n := 12) dX7_allLate_9 rfl rfl (fun h6 => ?_) (fun h6 => ?_)
    · refine XE_ls (x_sub_ok (ls' := [(1, some (.int v1))]) ⟨rfl, trivial⟩) ?_
      exact hE (v1)
    · refine XE_iload_n (n := 13) dX7_allLate_12 rfl rfl rfl ?_
      refine XE_aload_n (n := 14) dX7_allLate_13 rfl rfl rfl ?_
      refine XE_iload_n (n := 15) dX7_allLate_14 rfl rfl rfl ?_
      refine XE_callVi (ni := 1) (As := [.int v2]) (st2 := fun t3 => [.int t3, .int v1]) (n := 18) (b := 0) xc_X7_121 (fun l t ht => met_X7_lateOf l m0 v2 t ht) rfl rfl rfl rfl dX7_allLate_15 (Nat.le_of_ble_eq_true rfl) ⟨Nat.zero_le _, Nat.zero_le _⟩ (Nat.le_of_ble_eq_true rfl) (Nat.le_of_ble_eq_true rfl) (fun _ => rfl) rfl (fun t3 => ?_)
      refine XE_iadd (n := 19) dX7_allLate_18 rfl ?_
      refine XE_topi (fun v4 => ?_)
      refine XE_istore_n (i := 1) (n := 20) dX7_allLate_19 rfl rfl (Nat.le_of_ble_eq_true rfl) rfl ?_
      refine XE_iincl (n := 23) dX7_allLate_20 rfl rfl (by decide) (Nat.le_of_ble_eq_true rfl) rfl (fun v5 => ?_)
      refine XE_goto (n := 4) dX7_allLate_23 rfl ?_
      refine XE_ls (x_sub_ok (ls' := [(0, some (.ref 0)), (1, some (.int v4)), (2, some (.int v5))]) ⟨rfl, rfl, rfl, trivial⟩) ?_
      exact ih v4 v5
set_option maxRecDepth 100000 in
theorem xe_X7_allLate (B : XB) (m0 : Mem) : XE B M_X7_allLate (XQm B 0 0 SH_M) 0 [(0, some (.ref 0))] [] (0, 0) SH_M [m0] (fun t => some (some (.int t), [m0])) (f_X7_allLate m0) := by
  unfold f_X7_allLate
  refine XE_iconst (v := 0) (n := 1) dX7_allLate_0 rfl (by decide) ?_
  refine XE_istore_n (i := 1) (n := 2) dX7_allLate_1 rfl rfl (Nat.le_of_ble_eq_true rfl) rfl ?_
  refine XE_iconst (v := 0) (n := 3) dX7_allLate_2 rfl (by decide) ?_
  refine XE_istore_n (i := 2) (n := 4) dX7_allLate_3 rfl rfl (Nat.le_of_ble_eq_true rfl) rfl ?_
  refine XE_ls (x_sub_ok (ls' := [(0, some (.ref 0)), (1, some (.int 0)), (2, some (.int 0))]) ⟨rfl, rfl, rfl, trivial⟩) ?_
  refine XE_reg (J := 26) (lsJ := fun t7 => [(1, some (.int t7))]) (stJ := fun t7 => []) (hsJ := fun t7 => [m0]) (fun t7 => ?_) (fun hJ8 => f_X7_allLate_L4_x B m0 hJ8 6000 (0 : Int32) (0 : Int32))
  refine XE_iload_n (n := 27) dX7_allLate_26 rfl rfl rfl ?_
  exact XE_ireturn rfl dX7_allLate_27 rfl (Nat.le_refl _) (Nat.le_refl _)
theorem met_X7_allLate (l : Launch) (m0 : Mem) (t : Int32) (ht : f_X7_allLate m0 = some t) : XMet l yX7_allLate cX7_allLate 3 (some .int) 3 0 0 [.ref 0] SH_M [m0] SH_M (some (.int t), [m0]) := XMet.of (by decide +kernel) (fun _ => Nat.le_of_ble_eq_true rfl) (fun B => xe_X7_allLate B m0) (by rw [ht]; rfl)
/-! X7_lastEnd: EveryTwentyMinutesModel.lastEnd()I in world M at (0,) -/
abbrev M_X7_lastEnd : XM := (RX7, cX7_lastEnd, 3, (some .int), "lastEnd", 2, 0, 0)
def f_X7_lastEnd_L4 (m0 : Mem) : Nat → Int32 → Int32 → Option (Int32)
  | 0, _, _ => none
  | n + 1, v1, v2 =>
    if (m0 0 0) ≤ v2 then
      some (v1)
    else
      ck (inb v2 7) <|
      (f_X7_most v1 (m0 6 (ix v2))).bind fun t3 =>
      lt (v2 + 1) fun v4 =>
      (f_X7_lastEnd_L4 m0 n) t3 v4
def f_X7_lastEnd (m0 : Mem) : Option (Int32) :=
  (f_X7_lastEnd_L4 m0 6000 (0 : Int32) (0 : Int32)).bind fun t6 =>
  some t6
set_option maxRecDepth 100000 in
theorem f_X7_lastEnd_L4_x {α R : Type} (B : XB) {Q : R → State → Prop} {k : α → Option R} {r : (Int32) → Option α} (m0 : Mem) (hE : ∀ t0 : (Int32), XE B M_X7_lastEnd Q 29 [(1, some (.int t0))] [] (0, 0) SH_M [m0] (fun t => (r t).bind k) (some t0)) : ∀ (n : Nat) (v1 : Int32) (v2 : Int32), XE B M_X7_lastEnd Q 4 [(0, some (.ref 0)), (1, some (.int v1)), (2, some (.int v2))] [] (0, 0) SH_M [m0] (fun t => (r t).bind k) (f_X7_lastEnd_L4 m0 n v1 v2) := by
  intro n
  induction n with
  | zero => intros; exact XE_none
  | succ n ih =>
    intro v1 v2
    rw [f_X7_lastEnd_L4]
    refine XE_iload_n (n := 5) dX7_lastEnd_4 rfl rfl rfl ?_
    refine XE_aload_n (n := 6) dX7_lastEnd_5 rfl rfl rfl ?_
    refine XE_getf (v := m0 0 0) (n := 9) xf_X7_83 rfl rfl rfl dX7_lastEnd_6 rfl ?_
    refine XE_icmp_ge (t := 29) (n := 12) dX7_lastEnd_9 rfl rfl (fun h5 => ?_) (fun h5 => ?_)
    · refine XE_ls (x_sub_ok (ls' := [(1, some (.int v1))]) ⟨rfl, trivial⟩) ?_
      exact hE (v1)
    · refine XE_iload_n (n := 13) dX7_lastEnd_12 rfl rfl rfl ?_
      refine XE_aload_n (n := 14) dX7_lastEnd_13 rfl rfl rfl ?_
      refine XE_getr (b := 6) (n := 17) xf_X7_25 rfl rfl dX7_lastEnd_14 rfl ?_
      refine XE_iload_n (n := 18) dX7_lastEnd_17 rfl rfl rfl ?_
      refine XE_iald (row := m0 6) (n := 19) rfl rfl dX7_lastEnd_18 rfl ?_
      refine XE_callS (ni := 2) (As := [.int v1, .int (m0 6 (ix v2))]) (π := []) (co := [0]) (cv := [m0]) (nn := 1) (hs2 := fun t3 => [m0]) (st2 := fun t3 => [.int t3]) (n := 22) xc_X7_90 (fun l t ht => met_X7_most l v1 (m0 6 (ix v2)) t ht) rfl rfl rfl dX7_lastEnd_19 (Nat.le_of_ble_eq_true rfl) ⟨Nat.zero_le _, Nat.zero_le _⟩ (Nat.le_of_ble_eq_true rfl) (Nat.le_of_ble_eq_true rfl) ok_40 rfl rfl rfl (fun _ => rfl) (fun _ => rfl) (fun _ => rfl) rfl (fun _ => rfl) rfl (fun t3 => ?_)
      refine XE_istore_n (i := 1) (n := 23) dX7_lastEnd_22 rfl rfl (Nat.le_of_ble_eq_true rfl) rfl ?_
      refine XE_iincl (n := 26) dX7_lastEnd_23 rfl rfl (by decide) (Nat.le_of_ble_eq_true rfl) rfl (fun v4 => ?_)
      refine XE_goto (n := 4) dX7_lastEnd_26 rfl ?_
      refine XE_ls (x_sub_ok (ls' := [(0, some (.ref 0)), (1, some (.int t3)), (2, some (.int v4))]) ⟨rfl, rfl, rfl, trivial⟩) ?_
      exact ih t3 v4
set_option maxRecDepth 100000 in
theorem xe_X7_lastEnd (B : XB) (m0 : Mem) : XE B M_X7_lastEnd (XQm B 0 0 SH_M) 0 [(0, some (.ref 0))] [] (0, 0) SH_M [m0] (fun t => some (some (.int t), [m0])) (f_X7_lastEnd m0) := by
  unfold f_X7_lastEnd
  refine XE_iconst (v := 0) (n := 1) dX7_lastEnd_0 rfl (by decide) ?_
  refine XE_istore_n (i := 1) (n := 2) dX7_lastEnd_1 rfl rfl (Nat.le_of_ble_eq_true rfl) rfl ?_
  refine XE_iconst (v := 0) (n := 3) dX7_lastEnd_2 rfl (by decide) ?_
  refine XE_istore_n (i := 2) (n := 4) dX7_lastEnd_3 rfl rfl (Nat.le_of_ble_eq_true rfl) rfl ?_
  refine XE_ls (x_sub_ok (ls' := [(0, some (.ref 0)), (1, some (.int 0)), (2, some (.int 0))]) ⟨rfl, rfl, rfl, trivial⟩) ?_
  refine XE_reg (J := 29) (lsJ := fun t6 => [(1, some (.int t6))]) (stJ := fun t6 => []) (hsJ := fun t6 => [m0]) (fun t6 => ?_) (fun hJ7 => f_X7_lastEnd_L4_x B m0 hJ7 6000 (0 : Int32) (0 : Int32))
  refine XE_iload_n (n := 30) dX7_lastEnd_29 rfl rfl rfl ?_
  exact XE_ireturn rfl dX7_lastEnd_30 rfl (Nat.le_refl _) (Nat.le_refl _)
theorem met_X7_lastEnd (l : Launch) (m0 : Mem) (t : Int32) (ht : f_X7_lastEnd m0 = some t) : XMet l yX7_lastEnd cX7_lastEnd 3 (some .int) 2 0 0 [.ref 0] SH_M [m0] SH_M (some (.int t), [m0]) := XMet.of (by decide +kernel) (fun _ => Nat.le_of_ble_eq_true rfl) (fun B => xe_X7_lastEnd B m0) (by rw [ht]; rfl)
/-! X7_isNear: EveryTwentyMinutesModel.isNear(II)Z in world 0 at () -/
abbrev M_X7_isNear : XM := (RX7, cX7_isNear, 2, (some .boolean), "isNear", 2, 0, 0)
def f_X7_isNear (a0 : Int32) (a1 : Int32) : Option (Int32) :=
  (f_X7_in (((a0 - a1) : Int32).toInt64) (-2) 2).bind fun t1 =>
  ck (isb t1) <|
  some t1
set_option maxRecDepth 100000 in
theorem xe_X7_isNear (B : XB) (a0 : Int32) (a1 : Int32) : XE B M_X7_isNear (XQm B 0 0 SH_0) 0 [(0, some (.int a0)), (1, some (.int a1))] [] (0, 0) SH_0 [] (fun t => some (some (.int t), [])) (f_X7_isNear a0 a1) := by
  unfold f_X7_isNear
  refine XE_iload_n (n := 1) dX7_isNear_0 rfl rfl rfl ?_
  refine XE_iload_n (n := 2) dX7_isNear_1 rfl rfl rfl ?_
  refine XE_isub (n := 3) dX7_isNear_2 rfl ?_
  refine XE_i2l (n := 4) dX7_isNear_3 rfl ?_
  refine XE_ldc2 (n := 7) dX7_isNear_4 rfl xk_X7_124 ?_
  refine XE_ldc2 (n := 10) dX7_isNear_7 rfl xk_X7_126 ?_
  refine XE_callSi (ni := 3) (As := [.long (((a0 - a1) : Int32).toInt64), .long (-2), .long 2]) (st2 := fun t1 => [.int t1]) (n := 13) xc_X7_86 (fun l t ht => met_X7_in l (((a0 - a1) : Int32).toInt64) (-2) 2 t ht) rfl rfl dX7_isNear_10 (Nat.le_of_ble_eq_true rfl) ⟨Nat.zero_le _, Nat.zero_le _⟩ (Nat.le_of_ble_eq_true rfl) (Nat.le_of_ble_eq_true rfl) (fun _ => rfl) rfl (fun t1 => ?_)
  refine XE_ck (fun h2 => ?_)
  exact XE_zreturn h2 rfl dX7_isNear_13 rfl (Nat.le_refl _) (Nat.le_refl _)
theorem met_X7_isNear (l : Launch) (a0 : Int32) (a1 : Int32) (t : Int32) (ht : f_X7_isNear a0 a1 = some t) : XMet l yX7_isNear cX7_isNear 2 (some .boolean) 2 0 0 [.int a0, .int a1] SH_0 [] SH_0 (some (.int t), []) := XMet.of (by decide +kernel) (fun _ => Nat.le_of_ble_eq_true rfl) (fun B => xe_X7_isNear B a0 a1) (by rw [ht]; rfl)
/-! X7_meet: EveryTwentyMinutesModel.meet(II)Z in world M at (0,) -/
abbrev M_X7_meet : XM := (RX7, cX7_meet, 3, (some .boolean), "meet", 3, 0, 0)
def f_X7_meet (m0 : Mem) (a1 : Int32) (a2 : Int32) : Option (Int32) :=
  if a1 = a2 then
    some (0 : Int32)
  else
    ck (inb a1 7) <|
    ck (inb a2 7) <|
    (f_X7_isNear (m0 6 (ix a1)) (m0 5 (ix a2))).bind fun t1 =>
    if t1 = 0 then
      ck (inb a2 7) <|
      ck (inb a1 7) <|
      (f_X7_isNear (m0 6 (ix a2)) (m0 5 (ix a1))).bind fun t2 =>
      if t2 = 0 then
        some (0 : Int32)
      else
        some (1 : Int32)
    else
      some (1 : Int32)
set_option maxRecDepth 100000 in
theorem xe_X7_meet (B : XB) (m0 : Mem) (a1 : Int32) (a2 : Int32) : XE B M_X7_meet (XQm B 0 0 SH_M) 0 [(0, some (.ref 0)), (1, some (.int a1)), (2, some (.int a2))] [] (0, 0) SH_M [m0] (fun t => some (some (.int t), [m0])) (f_X7_meet m0 a1 a2) := by
  unfold f_X7_meet
  refine XE_iload_n (n := 1) dX7_meet_0 rfl rfl rfl ?_
  refine XE_iload_n (n := 2) dX7_meet_1 rfl rfl rfl ?_
  refine XE_icmp_eq (t := 45) (n := 5) dX7_meet_2 rfl rfl (fun h5 => ?_) (fun h5 => ?_)
  · refine XE_iconst (v := 0) (n := 46) dX7_meet_45 rfl (by decide) ?_
    exact XE_zreturn rfl rfl dX7_meet_46 rfl (Nat.le_refl _) (Nat.le_refl _)
  · refine XE_aload_n (n := 6) dX7_meet_5 rfl rfl rfl ?_
    refine XE_getr (b := 6) (n := 9) xf_X7_25 rfl rfl dX7_meet_6 rfl ?_
    refine XE_iload_n (n := 10) dX7_meet_9 rfl rfl rfl ?_
    refine XE_iald (row := m0 6) (n := 11) rfl rfl dX7_meet_10 rfl ?_
    refine XE_aload_n (n := 12) dX7_meet_11 rfl rfl rfl ?_
    refine XE_getr (b := 5) (n := 15) xf_X7_22 rfl rfl dX7_meet_12 rfl ?_
    refine XE_iload_n (n := 16) dX7_meet_15 rfl rfl rfl ?_
    refine XE_iald (row := m0 5) (n := 17) rfl rfl dX7_meet_16 rfl ?_
    refine XE_callS (ni := 2) (As := [.int (m0 6 (ix a1)), .int (m0 5 (ix a2))]) (π := []) (co := [0]) (cv := [m0]) (nn := 1) (hs2 := fun t1 => [m0]) (st2 := fun t1 => [.int t1]) (n := 20) xc_X7_128 (fun l t ht => met_X7_isNear l (m0 6 (ix a1)) (m0 5 (ix a2)) t ht) rfl rfl rfl dX7_meet_17 (Nat.le_of_ble_eq_true rfl) ⟨Nat.zero_le _, Nat.zero_le _⟩ (Nat.le_of_ble_eq_true rfl) (Nat.le_of_ble_eq_true rfl) ok_40 rfl rfl rfl (fun _ => rfl) (fun _ => rfl) (fun _ => rfl) rfl (fun _ => rfl) rfl (fun t1 => ?_)
    refine XE_if_ne (t := 41) (n := 23) dX7_meet_20 rfl rfl (fun h4 => ?_) (fun h4 => ?_)
    · refine XE_aload_n (n := 24) dX7_meet_23 rfl rfl rfl ?_
      refine XE_getr (b := 6) (n := 27) xf_X7_25 rfl rfl dX7_meet_24 rfl ?_
      refine XE_iload_n (n := 28) dX7_meet_27 rfl rfl rfl ?_
      refine XE_iald (row := m0 6) (n := 29) rfl rfl dX7_meet_28 rfl ?_
      refine XE_aload_n (n := 30) dX7_meet_29 rfl rfl rfl ?_
      refine XE_getr (b := 5) (n := 33) xf_X7_22 rfl rfl dX7_meet_30 rfl ?_
      refine XE_iload_n (n := 34) dX7_meet_33 rfl rfl rfl ?_
      refine XE_iald (row := m0 5) (n := 35) rfl rfl dX7_meet_34 rfl ?_
      refine XE_callS (ni := 2) (As := [.int (m0 6 (ix a2)), .int (m0 5 (ix a1))]) (π := []) (co := [0]) (cv := [m0]) (nn := 1) (hs2 := fun t2 => [m0]) (st2 := fun t2 => [.int t2]) (n := 38) xc_X7_128 (fun l t ht => met_X7_isNear l (m0 6 (ix a2)) (m0 5 (ix a1)) t ht) rfl rfl rfl dX7_meet_35 (Nat.le_of_ble_eq_true rfl) ⟨Nat.zero_le _, Nat.zero_le _⟩ (Nat.le_of_ble_eq_true rfl) (Nat.le_of_ble_eq_true rfl) ok_40 rfl rfl rfl (fun _ => rfl) (fun _ => rfl) (fun _ => rfl) rfl (fun _ => rfl) rfl (fun t2 => ?_)
      refine XE_if_eq (t := 45) (n := 41) dX7_meet_38 rfl rfl (fun h3 => ?_) (fun h3 => ?_)
      · refine XE_iconst (v := 0) (n := 46) dX7_meet_45 rfl (by decide) ?_
        exact XE_zreturn rfl rfl dX7_meet_46 rfl (Nat.le_refl _) (Nat.le_refl _)
      · refine XE_iconst (v := 1) (n := 42) dX7_meet_41 rfl (by decide) ?_
        refine XE_goto (n := 46) dX7_meet_42 rfl ?_
        exact XE_zreturn rfl rfl dX7_meet_46 rfl (Nat.le_refl _) (Nat.le_refl _)
    · refine XE_iconst (v := 1) (n := 42) dX7_meet_41 rfl (by decide) ?_
      refine XE_goto (n := 46) dX7_meet_42 rfl ?_
      exact XE_zreturn rfl rfl dX7_meet_46 rfl (Nat.le_refl _) (Nat.le_refl _)
theorem met_X7_meet (l : Launch) (m0 : Mem) (a1 : Int32) (a2 : Int32) (t : Int32) (ht : f_X7_meet m0 a1 a2 = some t) : XMet l yX7_meet cX7_meet 3 (some .boolean) 3 0 0 [.ref 0, .int a1, .int a2] SH_M [m0] SH_M (some (.int t), [m0]) := XMet.of (by decide +kernel) (fun _ => Nat.le_of_ble_eq_true rfl) (fun B => xe_X7_meet B m0 a1 a2) (by rw [ht]; rfl)
/-! X7_meetMany: EveryTwentyMinutesModel.meetMany()I in world M at (0,) -/
abbrev M_X7_meetMany : XM := (RX7, cX7_meetMany, 4, (some .int), "meetMany", 4, 0, 0)
def f_X7_meetMany_L16 (m0 : Mem) (v2 : Int32) : Nat → Int32 → Int32 → Option (Int32)
  | 0, _, _ => none
  | n + 1, v4, v5 =>
    if (m0 0 0) ≤ v5 then
      some (v4)
    else
      (f_X7_meet m0 v2 v5).bind fun t6 =>
      if t6 = 0 then
        lt (v4 + 0) fun v7 =>
        lt (v5 + 1) fun v8 =>
        (f_X7_meetMany_L16 m0 v2 n) v7 v8
      else
        lt (v4 + 1) fun v9 =>
        lt (v5 + 1) fun v10 =>
        (f_X7_meetMany_L16 m0 v2 n) v9 v10
def f_X7_meetMany_L4 (m0 : Mem) : Nat → Int32 → Int32 → Option (Int32)
  | 0, _, _ => none
  | n + 1, v1, v2 =>
    if (m0 0 0) ≤ v2 then
      some (v1)
    else
      lt (v2 + 1) fun v3 =>
      (f_X7_meetMany_L16 m0 v2 6000 v1 v3).bind fun t13 =>
      lt (v2 + 1) fun v14 =>
      (f_X7_meetMany_L4 m0 n) t13 v14
def f_X7_meetMany (m0 : Mem) : Option (Int32) :=
  (f_X7_meetMany_L4 m0 6000 (0 : Int32) (0 : Int32)).bind fun t17 =>
  some t17
set_option maxRecDepth 100000 in
theorem f_X7_meetMany_L16_x {α R : Type} (B : XB) {Q : R → State → Prop} {k : α → Option R} {r : (Int32) → Option α} (m0 : Mem) (v2 : Int32) (hE : ∀ t0 : (Int32), XE B M_X7_meetMany Q 47 [(0, some (.ref 0)), (1, some (.int t0)), (2, some (.int v2))] [] (0, 0) SH_M [m0] (fun t => (r t).bind k) (some t0)) : ∀ (n : Nat) (v4 : Int32) (v5 : Int32), XE B M_X7_meetMany Q 16 [(0, some (.ref 0)), (1, some (.int v4)), (2, some (.int v2)), (3, some (.int v5))] [] (0, 0) SH_M [m0] (fun t => (r t).bind k) (f_X7_meetMany_L16 m0 v2 n v4 v5) := by
  intro n
  induction n with
  | zero => intros; exact XE_none
  | succ n ih =>
    intro v4 v5
    rw [f_X7_meetMany_L16]
    refine XE_iload_n (n := 17) dX7_meetMany_16 rfl rfl rfl ?_
    refine XE_aload_n (n := 18) dX7_meetMany_17 rfl rfl rfl ?_
    refine XE_getf (v := m0 0 0) (n := 21) xf_X7_83 rfl rfl rfl dX7_meetMany_18 rfl ?_
    refine XE_icmp_ge (t := 47) (n := 24) dX7_meetMany_21 rfl rfl (fun h12 => ?_) (fun h12 => ?_)
    · refine XE_ls (x_sub_ok (ls' := [(0, some (.ref 0)), (1, some (.int v4)), (2, some (.int v2))]) ⟨rfl, rfl, rfl, trivial⟩) ?_
      exact hE (v4)
    · refine XE_iload_n (n := 25) dX7_meetMany_24 rfl rfl rfl ?_
      refine XE_aload_n (n := 26) dX7_meetMany_25 rfl rfl rfl ?_
      refine XE_iload_n (n := 27) dX7_meetMany_26 rfl rfl rfl ?_
      refine XE_iload_n (n := 28) dX7_meetMany_27 rfl rfl rfl ?_
      refine XE_callVi (ni := 2) (As := [.int v2, .int v5]) (st2 := fun t6 => [.int t6, .int v4]) (n := 31) (b := 0) xc_X7_132 (fun l t ht => met_X7_meet l m0 v2 v5 t ht) rfl rfl rfl rfl dX7_meetMany_28 (Nat.le_of_ble_eq_true rfl) ⟨Nat.zero_le _, Nat.zero_le _⟩ (Nat.le_of_ble_eq_true rfl) (Nat.le_of_ble_eq_true rfl) (fun _ => rfl) rfl (fun t6 => ?_)
      refine XE_if_eq (t := 38) (n := 34) dX7_meetMany_31 rfl rfl (fun h11 => ?_) (fun h11 => ?_)
      · refine XE_iconst (v := 0) (n := 39) dX7_meetMany_38 rfl (by decide) ?_
        refine XE_iadd (n := 40) dX7_meetMany_39 rfl ?_
        refine XE_topi (fun v7 => ?_)
        refine XE_istore_n (i := 1) (n := 41) dX7_meetMany_40 rfl rfl (Nat.le_of_ble_eq_true rfl) rfl ?_
        refine XE_iincl (n := 44) dX7_meetMany_41 rfl rfl (by decide) (Nat.le_of_ble_eq_true rfl) rfl (fun v8 => ?_)
        refine XE_goto (n := 16) dX7_meetMany_44 rfl ?_
        refine XE_ls (x_sub_ok (ls' := [(0, some (.ref 0)), (1, some (.int v7)), (2, some (.int v2)), (3, some (.int v8))]) ⟨rfl, rfl, rfl, rfl, trivial⟩) ?_
        exact ih v7 v8
      · refine XE_iconst (v := 1) (n := 35) dX7_meetMany_34 rfl (by decide) ?_
        refine XE_goto (n := 39) dX7_meetMany_35 rfl ?_
        refine XE_iadd (n := 40) dX7_meetMany_39 rfl ?_
        refine XE_topi (fun v9 => ?_)
        refine XE_istore_n (i := 1) (n := 41) dX7_meetMany_40 rfl rfl (Nat.le_of_ble_eq_true rfl) rfl ?_
        refine XE_iincl (n := 44) dX7_meetMany_41 rfl rfl (by decide) (Nat.le_of_ble_eq_true rfl) rfl (fun v10 => ?_)
        refine XE_goto (n := 16) dX7_meetMany_44 rfl ?_
        refine XE_ls (x_sub_ok (ls' := [(0, some (.ref 0)), (1, some (.int v9)), (2, some (.int v2)), (3, some (.int v10))]) ⟨rfl, rfl, rfl, rfl, trivial⟩) ?_
        exact ih v9 v10
set_option maxRecDepth 100000 in
theorem f_X7_meetMany_L4_x {α R : Type} (B : XB) {Q : R → State → Prop} {k : α → Option R} {r : (Int32) → Option α} (m0 : Mem) (hE : ∀ t0 : (Int32), XE B M_X7_meetMany Q 53 [(1, some (.int t0))] [] (0, 0) SH_M [m0] (fun t => (r t).bind k) (some t0)) : ∀ (n : Nat) (v1 : Int32) (v2 : Int32), XE B M_X7_meetMany Q 4 [(0, some (.ref 0)), (1, some (.int v1)), (2, some (.int v2))] [] (0, 0) SH_M [m0] (fun t => (r t).bind k) (f_X7_meetMany_L4 m0 n v1 v2) := by
  intro n
  induction n with
  | zero => intros; exact XE_none
  | succ n ih =>
    intro v1 v2
    rw [f_X7_meetMany_L4]
    refine XE_iload_n (n := 5) dX7_meetMany_4 rfl rfl rfl ?_
    refine XE_aload_n (n := 6) dX7_meetMany_5 rfl rfl rfl ?_
    refine XE_getf (v := m0 0 0) (n := 9) xf_X7_83 rfl rfl rfl dX7_meetMany_6 rfl ?_
    refine XE_icmp_ge (t := 53) (n := 12) dX7_meetMany_9 rfl rfl (fun h16 => ?_) (fun h16 => ?_)
    · refine XE_ls (x_sub_ok (ls' := [(1, some (.int v1))]) ⟨rfl, trivial⟩) ?_
      exact hE (v1)
    · refine XE_iload_n (n := 13) dX7_meetMany_12 rfl rfl rfl ?_
      refine XE_iconst (v := 1) (n := 14) dX7_meetMany_13 rfl (by decide) ?_
      refine XE_iadd (n := 15) dX7_meetMany_14 rfl ?_
      refine XE_topi (fun v3 => ?_)
      refine XE_istore_n (i := 3) (n := 16) dX7_meetMany_15 rfl rfl (Nat.le_of_ble_eq_true rfl) rfl ?_
      refine XE_ls (x_sub_ok (ls' := [(0, some (.ref 0)), (1, some (.int v1)), (2, some (.int v2)), (3, some (.int v3))]) ⟨rfl, rfl, rfl, rfl, trivial⟩) ?_
      refine XE_reg (J := 47) (lsJ := fun t13 => [(0, some (.ref 0)), (1, some (.int t13)), (2, some (.int v2))]) (stJ := fun t13 => []) (hsJ := fun t13 => [m0]) (fun t13 => ?_) (fun hJ15 => f_X7_meetMany_L16_x B m0 v2 hJ15 6000 v1 v3)
      refine XE_iincl (n := 50) dX7_meetMany_47 rfl rfl (by decide) (Nat.le_of_ble_eq_true rfl) rfl (fun v14 => ?_)
      refine XE_goto (n := 4) dX7_meetMany_50 rfl ?_
      refine XE_ls (x_sub_ok (ls' := [(0, some (.ref 0)), (1, some (.int t13)), (2, some (.int v14))]) ⟨rfl, rfl, rfl, trivial⟩) ?_
      exact ih t13 v14
set_option maxRecDepth 100000 in
theorem xe_X7_meetMany (B : XB) (m0 : Mem) : XE B M_X7_meetMany (XQm B 0 0 SH_M) 0 [(0, some (.ref 0))] [] (0, 0) SH_M [m0] (fun t => some (some (.int t), [m0])) (f_X7_meetMany m0) := by
  unfold f_X7_meetMany
  refine XE_iconst (v := 0) (n := 1) dX7_meetMany_0 rfl (by decide) ?_
  refine XE_istore_n (i := 1) (n := 2) dX7_meetMany_1 rfl rfl (Nat.le_of_ble_eq_true rfl) rfl ?_
  refine XE_iconst (v := 0) (n := 3) dX7_meetMany_2 rfl (by decide) ?_
  refine XE_istore_n (i := 2) (n := 4) dX7_meetMany_3 rfl rfl (Nat.le_of_ble_eq_true rfl) rfl ?_
  refine XE_ls (x_sub_ok (ls' := [(0, some (.ref 0)), (1, some (.int 0)), (2, some (.int 0))]) ⟨rfl, rfl, rfl, trivial⟩) ?_
  refine XE_reg (J := 53) (lsJ := fun t17 => [(1, some (.int t17))]) (stJ := fun t17 => []) (hsJ := fun t17 => [m0]) (fun t17 => ?_) (fun hJ18 => f_X7_meetMany_L4_x B m0 hJ18 6000 (0 : Int32) (0 : Int32))
  refine XE_iload_n (n := 54) dX7_meetMany_53 rfl rfl rfl ?_
  exact XE_ireturn rfl dX7_meetMany_54 rfl (Nat.le_refl _) (Nat.le_refl _)
theorem met_X7_meetMany (l : Launch) (m0 : Mem) (t : Int32) (ht : f_X7_meetMany m0 = some t) : XMet l yX7_meetMany cX7_meetMany 4 (some .int) 4 0 0 [.ref 0] SH_M [m0] SH_M (some (.int t), [m0]) := XMet.of (by decide +kernel) (fun _ => Nat.le_of_ble_eq_true rfl) (fun B => xe_X7_meetMany B m0) (by rw [ht]; rfl)
/-! X7_placeOf: EveryTwentyMinutesModel.placeOf(I)I in world M at (0,) -/
abbrev M_X7_placeOf : XM := (RX7, cX7_placeOf, 4, (some .int), "placeOf", 1, 0, 0)
def f_X7_placeOf_L4 (a1 : Int32) (m0 : Mem) : Nat → Int32 → Int32 → Option (Int32)
  | 0, _, _ => none
  | n + 1, v1, v2 =>
    if (m0 0 9) ≤ v2 then
      some (v1)
    else
      ck (inb v2 7) <|
      if (m0 8 (ix v2)) = a1 then
        lt (v2 + 1) fun v4 =>
        (f_X7_placeOf_L4 a1 m0 n) v2 v4
      else
        lt (v2 + 1) fun v3 =>
        (f_X7_placeOf_L4 a1 m0 n) v1 v3
def f_X7_placeOf (m0 : Mem) (a1 : Int32) : Option (Int32) :=
  (f_X7_placeOf_L4 a1 m0 6000 ((-1) : Int32) (0 : Int32)).bind fun t7 =>
  some t7
set_option maxRecDepth 100000 in
theorem f_X7_placeOf_L4_x {α R : Type} (B : XB) {Q : R → State → Prop} {k : α → Option R} {r : (Int32) → Option α} (a1 : Int32) (m0 : Mem) (hE : ∀ t0 : (Int32), XE B M_X7_placeOf Q 34 [(2, some (.int t0))] [] (0, 0) SH_M [m0] (fun t => (r t).bind k) (some t0)) : ∀ (n : Nat) (v1 : Int32) (v2 : Int32), XE B M_X7_placeOf Q 4 [(0, some (.ref 0)), (1, some (.int a1)), (2, some (.int v1)), (3, some (.int v2))] [] (0, 0) SH_M [m0] (fun t => (r t).bind k) (f_X7_placeOf_L4 a1 m0 n v1 v2) := by
  intro n
  induction n with
  | zero => intros; exact XE_none
  | succ n ih =>
    intro v1 v2
    rw [f_X7_placeOf_L4]
    refine XE_iload_n (n := 5) dX7_placeOf_4 rfl rfl rfl ?_
    refine XE_aload_n (n := 6) dX7_placeOf_5 rfl rfl rfl ?_
    refine XE_getf (v := m0 0 9) (n := 9) xf_X7_100 rfl rfl rfl dX7_placeOf_6 rfl ?_
    refine XE_icmp_ge (t := 34) (n := 12) dX7_placeOf_9 rfl rfl (fun h6 => ?_) (fun h6 => ?_)
    · refine XE_ls (x_sub_ok (ls' := [(2, some (.int v1))]) ⟨rfl, trivial⟩) ?_
      exact hE (v1)
    · refine XE_aload_n (n := 13) dX7_placeOf_12 rfl rfl rfl ?_
      refine XE_getr (b := 8) (n := 16) xf_X7_31 rfl rfl dX7_placeOf_13 rfl ?_
      refine XE_iload_n (n := 17) dX7_placeOf_16 rfl rfl rfl ?_
      refine XE_iald (row := m0 8) (n := 18) rfl rfl dX7_placeOf_17 rfl ?_
      refine XE_iload_n (n := 19) dX7_placeOf_18 rfl rfl rfl ?_
      refine XE_icmp_ne (t := 26) (n := 22) dX7_placeOf_19 rfl rfl (fun h5 => ?_) (fun h5 => ?_)
      · refine XE_iload_n (n := 23) dX7_placeOf_22 rfl rfl rfl ?_
        refine XE_goto (n := 27) dX7_placeOf_23 rfl ?_
        refine XE_istore_n (i := 2) (n := 28) dX7_placeOf_27 rfl rfl (Nat.le_of_ble_eq_true rfl) rfl ?_
        refine XE_iincl (n := 31) dX7_placeOf_28 rfl rfl (by decide) (Nat.le_of_ble_eq_true rfl) rfl (fun v4 => ?_)
        refine XE_goto (n := 4) dX7_placeOf_31 rfl ?_
        refine XE_ls (x_sub_ok (ls' := [(0, some (.ref 0)), (1, some (.int a1)), (2, some (.int v2)), (3, some (.int v4))]) ⟨rfl, rfl, rfl, rfl, trivial⟩) ?_
        exact ih v2 v4
      · refine XE_iload_n (n := 27) dX7_placeOf_26 rfl rfl rfl ?_
        refine XE_istore_n (i := 2) (n := 28) dX7_placeOf_27 rfl rfl (Nat.le_of_ble_eq_true rfl) rfl ?_
        refine XE_iincl (n := 31) dX7_placeOf_28 rfl rfl (by decide) (Nat.le_of_ble_eq_true rfl) rfl (fun v3 => ?_)
        refine XE_goto (n := 4) dX7_placeOf_31 rfl ?_
        refine XE_ls (x_sub_ok (ls' := [(0, some (.ref 0)), (1, some (.int a1)), (2, some (.int v1)), (3, some (.int v3))]) ⟨rfl, rfl, rfl, rfl, trivial⟩) ?_
        exact ih v1 v3
set_option maxRecDepth 100000 in
theorem xe_X7_placeOf (B : XB) (m0 : Mem) (a1 : Int32) : XE B M_X7_placeOf (XQm B 0 0 SH_M) 0 [(0, some (.ref 0)), (1, some (.int a1))] [] (0, 0) SH_M [m0] (fun t => some (some (.int t), [m0])) (f_X7_placeOf m0 a1) := by
  unfold f_X7_placeOf
  refine XE_iconst (v := (-1)) (n := 1) dX7_placeOf_0 rfl (by decide) ?_
  refine XE_istore_n (i := 2) (n := 2) dX7_placeOf_1 rfl rfl (Nat.le_of_ble_eq_true rfl) rfl ?_
  refine XE_iconst (v := 0) (n := 3) dX7_placeOf_2 rfl (by decide) ?_
  refine XE_istore_n (i := 3) (n := 4) dX7_placeOf_3 rfl rfl (Nat.le_of_ble_eq_true rfl) rfl ?_
  refine XE_ls (x_sub_ok (ls' := [(0, some (.ref 0)), (1, some (.int a1)), (2, some (.int (-1))), (3, some (.int 0))]) ⟨rfl, rfl, rfl, rfl, trivial⟩) ?_
  refine XE_reg (J := 34) (lsJ := fun t7 => [(2, some (.int t7))]) (stJ := fun t7 => []) (hsJ := fun t7 => [m0]) (fun t7 => ?_) (fun hJ8 => f_X7_placeOf_L4_x B a1 m0 hJ8 6000 ((-1) : Int32) (0 : Int32))
  refine XE_iload_n (n := 35) dX7_placeOf_34 rfl rfl rfl ?_
  exact XE_ireturn rfl dX7_placeOf_35 rfl (Nat.le_refl _) (Nat.le_refl _)
theorem met_X7_placeOf (l : Launch) (m0 : Mem) (a1 : Int32) (t : Int32) (ht : f_X7_placeOf m0 a1 = some t) : XMet l yX7_placeOf cX7_placeOf 4 (some .int) 1 0 0 [.ref 0, .int a1] SH_M [m0] SH_M (some (.int t), [m0]) := XMet.of (by decide +kernel) (fun _ => Nat.le_of_ble_eq_true rfl) (fun B => xe_X7_placeOf B m0 a1) (by rw [ht]; rfl)
/-! X7_putFirst: EveryTwentyMinutesModel.putFirst(I)V in world M at (0,) -/
abbrev M_X7_putFirst : XM := (RX7, cX7_putFirst, 3, none, "putFirst", 2, 0, 0)
def f_X7_putFirst_L6 : Nat → Int32 → Mem → Option (Mem)
  | 0, _, _ => none
  | n + 1, v2, w3 =>
    if v2 ≤ 0 then
      some (w3)
    else
      ck (inb (v2 - 1) 7) <|
      ck (inb v2 7) <|
      lt (xs w3 8 (ix v2) (w3 8 (ix (v2 - 1)))) fun w4 =>
      lt (v2 + (-1)) fun v5 =>
      (f_X7_putFirst_L6 n) v5 w4
def f_X7_putFirst (m0 : Mem) (a1 : Int32) : Option (Mem) :=
  (f_X7_placeOf m0 a1).bind fun t1 =>
  (f_X7_putFirst_L6 6000 t1 m0).bind fun t7 =>
  lt (xs t7 8 0 a1) fun w8 =>
  some w8
set_option maxRecDepth 100000 in
theorem f_X7_putFirst_L6_x {α R : Type} (B : XB) {Q : R → State → Prop} {k : α → Option R} {r : (Mem) → Option α} (a1 : Int32) (hE : ∀ t0 : (Mem), XE B M_X7_putFirst Q 30 [(0, some (.ref 0)), (1, some (.int a1))] [] (0, 0) SH_M [t0] (fun t => (r t).bind k) (some t0)) : ∀ (n : Nat) (v2 : Int32) (w3 : Mem), XE B M_X7_putFirst Q 6 [(0, some (.ref 0)), (1, some (.int a1)), (2, some (.int v2))] [] (0, 0) SH_M [w3] (fun t => (r t).bind k) (f_X7_putFirst_L6 n v2 w3) := by
  intro n
  induction n with
  | zero => intros; exact XE_none
  | succ n ih =>
    intro v2 w3
    rw [f_X7_putFirst_L6]
    refine XE_iload_n (n := 7) dX7_putFirst_6 rfl rfl rfl ?_
    refine XE_if_le (t := 30) (n := 10) dX7_putFirst_7 rfl rfl (fun h6 => ?_) (fun h6 => ?_)
    · refine XE_ls (x_sub_ok (ls' := [(0, some (.ref 0)), (1, some (.int a1))]) ⟨rfl, rfl, trivial⟩) ?_
      exact hE (w3)
    · refine XE_aload_n (n := 11) dX7_putFirst_10 rfl rfl rfl ?_
      refine XE_getr (b := 8) (n := 14) xf_X7_31 rfl rfl dX7_putFirst_11 rfl ?_
      refine XE_iload_n (n := 15) dX7_putFirst_14 rfl rfl rfl ?_
      refine XE_aload_n (n := 16) dX7_putFirst_15 rfl rfl rfl ?_
      refine XE_getr (b := 8) (n := 19) xf_X7_31 rfl rfl dX7_putFirst_16 rfl ?_
      refine XE_iload_n (n := 20) dX7_putFirst_19 rfl rfl rfl ?_
      refine XE_iconst (v := 1) (n := 21) dX7_putFirst_20 rfl (by decide) ?_
      refine XE_isub (n := 22) dX7_putFirst_21 rfl ?_
      refine XE_iald (row := w3 8) (n := 23) rfl rfl dX7_putFirst_22 rfl ?_
      refine XE_iast (hs2 := fun w4 => [w4]) (n := 24) rfl rfl rfl (Nat.le_of_ble_eq_true rfl) (fun _ => rfl) dX7_putFirst_23 rfl (fun w4 => ?_)
      refine XE_iincl (n := 27) dX7_putFirst_24 rfl rfl (by decide) (Nat.le_of_ble_eq_true rfl) rfl (fun v5 => ?_)
      refine XE_goto (n := 6) dX7_putFirst_27 rfl ?_
      refine XE_ls (x_sub_ok (ls' := [(0, some (.ref 0)), (1, some (.int a1)), (2, some (.int v5))]) ⟨rfl, rfl, rfl, trivial⟩) ?_
      exact ih v5 w4
set_option maxRecDepth 100000 in
theorem xe_X7_putFirst (B : XB) (m0 : Mem) (a1 : Int32) : XE B M_X7_putFirst (XQm B 0 0 SH_M) 0 [(0, some (.ref 0)), (1, some (.int a1))] [] (0, 0) SH_M [m0] (fun t => some (none, [t])) (f_X7_putFirst m0 a1) := by
  unfold f_X7_putFirst
  refine XE_aload_n (n := 1) dX7_putFirst_0 rfl rfl rfl ?_
  refine XE_iload_n (n := 2) dX7_putFirst_1 rfl rfl rfl ?_
  refine XE_callVi (ni := 1) (As := [.int a1]) (st2 := fun t1 => [.int t1]) (n := 5) (b := 0) xc_X7_135 (fun l t ht => met_X7_placeOf l m0 a1 t ht) rfl rfl rfl rfl dX7_putFirst_2 (Nat.le_of_ble_eq_true rfl) ⟨Nat.zero_le _, Nat.zero_le _⟩ (Nat.le_of_ble_eq_true rfl) (Nat.le_of_ble_eq_true rfl) (fun _ => rfl) rfl (fun t1 => ?_)
  refine XE_istore_n (i := 2) (n := 6) dX7_putFirst_5 rfl rfl (Nat.le_of_ble_eq_true rfl) rfl ?_
  refine XE_ls (x_sub_ok (ls' := [(0, some (.ref 0)), (1, some (.int a1)), (2, some (.int t1))]) ⟨rfl, rfl, rfl, trivial⟩) ?_
  refine XE_reg (J := 30) (lsJ := fun t7 => [(0, some (.ref 0)), (1, some (.int a1))]) (stJ := fun t7 => []) (hsJ := fun t7 => [t7]) (fun t7 => ?_) (fun hJ9 => f_X7_putFirst_L6_x B a1 hJ9 6000 t1 m0)
  refine XE_aload_n (n := 31) dX7_putFirst_30 rfl rfl rfl ?_
  refine XE_getr (b := 8) (n := 34) xf_X7_31 rfl rfl dX7_putFirst_31 rfl ?_
  refine XE_iconst (v := 0) (n := 35) dX7_putFirst_34 rfl (by decide) ?_
  refine XE_iload_n (n := 36) dX7_putFirst_35 rfl rfl rfl ?_
  refine XE_iastj (j := 0) (hs2 := fun w8 => [w8]) (n := 37) rfl rfl rfl (Nat.le_of_ble_eq_true rfl) (fun _ => rfl) rfl rfl dX7_putFirst_36 rfl (fun w8 => ?_)
  exact XE_vreturn rfl dX7_putFirst_37 rfl (Nat.le_refl _) (Nat.le_refl _)
theorem met_X7_putFirst (l : Launch) (m0 : Mem) (a1 : Int32) (t : Mem) (ht : f_X7_putFirst m0 a1 = some t) : XMet l yX7_putFirst cX7_putFirst 3 none 2 0 0 [.ref 0, .int a1] SH_M [m0] SH_M (none, [t]) := XMet.of (by decide +kernel) (fun _ => Nat.le_of_ble_eq_true rfl) (fun B => xe_X7_putFirst B m0 a1) (by rw [ht]; rfl)
/-! X7_coupleComes: EveryTwentyMinutesModel.coupleComes(III)Z in world M at (0,) -/
abbrev M_X7_coupleComes : XM := (RX7, cX7_coupleComes, 5, (some .boolean), "coupleComes", 1, 0, 0)
def f_X7_coupleComes (m0 : Mem) (a1 : Int32) (a2 : Int32) (a3 : Int32) : Option (Int32 × Mem) :=
  lt (if 6 ≤ a1 then
      ((0 : Int32))
    else
      if 240 < a3 then
        ((0 : Int32))
      else
        if 7 ≤ (m0 0 0) then
          ((0 : Int32))
        else
          ((1 : Int32))) fun t5 =>
  if t5 = 0 then
    ck (isb t5) <|
    some (t5, m0)
  else
    ck (inb (m0 0 0) 7) <|
    lt (xs m0 1 (ix (m0 0 0)) a1) fun w7 =>
    ck (inb (w7 0 0) 7) <|
    lt (xs w7 2 (ix (w7 0 0)) a2) fun w8 =>
    ck (inb (w8 0 0) 7) <|
    lt (xs w8 3 (ix (w8 0 0)) a3) fun w9 =>
    ck (inb (w9 0 0) 7) <|
    lt (xs w9 4 (ix (w9 0 0)) 0) fun w10 =>
    ck (inb (w10 0 0) 7) <|
    lt (xs w10 5 (ix (w10 0 0)) 0) fun w11 =>
    ck (inb (w11 0 0) 7) <|
    lt (xs w11 6 (ix (w11 0 0)) 0) fun w12 =>
    ck (inb (w12 0 0) 7) <|
    lt (xs w12 7 (ix (w12 0 0)) 0) fun w13 =>
    ck (inb (w13 0 9) 7) <|
    lt (xs w13 8 (ix (w13 0 9)) (w13 0 0)) fun w14 =>
    lt (xs w14 0 9 ((w14 0 9) + 1)) fun w15 =>
    lt (xs w15 0 0 ((w15 0 0) + 1)) fun w16 =>
    ck (isb t5) <|
    some (t5, w16)
set_option maxRecDepth 100000 in
theorem xe_X7_coupleComes (B : XB) (m0 : Mem) (a1 : Int32) (a2 : Int32) (a3 : Int32) : XE B M_X7_coupleComes (XQm B 0 0 SH_M) 0 [(0, some (.ref 0)), (1, some (.int a1)), (2, some (.int a2)), (3, some (.int a3))] [] (0, 0) SH_M [m0] (fun t => some (some (.int t.1), [t.2])) (f_X7_coupleComes m0 a1 a2 a3) := by
  unfold f_X7_coupleComes
  refine XE_iload_n (n := 1) dX7_coupleComes_0 rfl rfl rfl ?_
  refine XE_bipush (v := 6) (n := 3) dX7_coupleComes_1 rfl (by decide) ?_
  refine XE_regv (J := 27) (lsJ := fun t5 => [(0, some (.ref 0)), (1, some (.int a1)), (2, some (.int a2)), (3, some (.int a3))]) (stJ := fun t5 => [.int t5]) (hsJ := fun t5 => [m0]) (fun t5 => ?_) (fun hJ1 => ?_)
  · refine XE_istore (i := 4) (n := 29) dX7_coupleComes_27 rfl (Nat.le_of_ble_eq_true rfl) rfl ?_
    refine XE_iload (n := 31) dX7_coupleComes_29 rfl rfl ?_
    refine XE_if_eq (t := 137) (n := 34) dX7_coupleComes_31 rfl rfl (fun h18 => ?_) (fun h18 => ?_)
    · refine XE_iload (n := 139) dX7_coupleComes_137 rfl rfl ?_
      refine XE_ck (fun h6 => ?_)
      exact XE_zreturn h6 rfl dX7_coupleComes_139 rfl (Nat.le_refl _) (Nat.le_refl _)
    · refine XE_aload_n (n := 35) dX7_coupleComes_34 rfl rfl rfl ?_
      refine XE_getr (b := 1) (n := 38) xf_X7_7 rfl rfl dX7_coupleComes_35 rfl ?_
      refine XE_aload_n (n := 39) dX7_coupleComes_38 rfl rfl rfl ?_
      refine XE_getf (v := m0 0 0) (n := 42) xf_X7_83 rfl rfl rfl dX7_coupleComes_39 rfl ?_
      refine XE_iload_n (n := 43) dX7_coupleComes_42 rfl rfl rfl ?_
      refine XE_iast (hs2 := fun w7 => [w7]) (n := 44) rfl rfl rfl (Nat.le_of_ble_eq_true rfl) (fun _ => rfl) dX7_coupleComes_43 rfl (fun w7 => ?_)
      refine XE_aload_n (n := 45) dX7_coupleComes_44 rfl rfl rfl ?_
      refine XE_getr (b := 2) (n := 48) xf_X7_13 rfl rfl dX7_coupleComes_45 rfl ?_
      refine XE_aload_n (n := 49) dX7_coupleComes_48 rfl rfl rfl ?_
      refine XE_getf (v := w7 0 0) (n := 52) xf_X7_83 rfl rfl rfl dX7_coupleComes_49 rfl ?_
      refine XE_iload_n (n := 53) dX7_coupleComes_52 rfl rfl rfl ?_
      refine XE_iast (hs2 := fun w8 => [w8]) (n := 54) rfl rfl rfl (Nat.le_of_ble_eq_true rfl) (fun _ => rfl) dX7_coupleComes_53 rfl (fun w8 => ?_)
      refine XE_aload_n (n := 55) dX7_coupleComes_54 rfl rfl rfl ?_
      refine XE_getr (b := 3) (n := 58) xf_X7_16 rfl rfl dX7_coupleComes_55 rfl ?_
      refine XE_aload_n (n := 59) dX7_coupleComes_58 rfl rfl rfl ?_
      refine XE_getf (v := w8 0 0) (n := 62) xf_X7_83 rfl rfl rfl dX7_coupleComes_59 rfl ?_
      refine XE_iload_n (n := 63) dX7_coupleComes_62 rfl rfl rfl ?_
      refine XE_iast (hs2 := fun w9 => [w9]) (n := 64) rfl rfl rfl (Nat.le_of_ble_eq_true rfl) (fun _ => rfl) dX7_coupleComes_63 rfl (fun w9 => ?_)
      refine XE_aload_n (n := 65) dX7_coupleComes_64 rfl rfl rfl ?_
      refine XE_getr (b := 4) (n := 68) xf_X7_19 rfl rfl dX7_coupleComes_65 rfl ?_
      refine XE_aload_n (n := 69) dX7_coupleComes_68 rfl rfl rfl ?_
      refine XE_getf (v := w9 0 0) (n := 72) xf_X7_83 rfl rfl rfl dX7_coupleComes_69 rfl ?_
      refine XE_iconst (v := 0) (n := 73) dX7_coupleComes_72 rfl (by decide) ?_
      refine XE_iast (hs2 := fun w10 => [w10]) (n := 74) rfl rfl rfl (Nat.le_of_ble_eq_true rfl) (fun _ => rfl) dX7_coupleComes_73 rfl (fun w10 => ?_)
      refine XE_aload_n (n := 75) dX7_coupleComes_74 rfl rfl rfl ?_
      refine XE_getr (b := 5) (n := 78) xf_X7_22 rfl rfl dX7_coupleComes_75 rfl ?_
      refine XE_aload_n (n := 79) dX7_coupleComes_78 rfl rfl rfl ?_
      refine XE_getf (v := w10 0 0) (n := 82) xf_X7_83 rfl rfl rfl dX7_coupleComes_79 rfl ?_
      refine XE_iconst (v := 0) (n := 83) dX7_coupleComes_82 rfl (by decide) ?_
      refine XE_iast (hs2 := fun w11 => [w11]) (n := 84) rfl rfl rfl (Nat.le_of_ble_eq_true rfl) (fun _ => rfl) dX7_coupleComes_83 rfl (fun w11 => ?_)
      refine XE_aload_n (n := 85) dX7_coupleComes_84 rfl rfl rfl ?_
      refine XE_getr (b := 6) (n := 88) xf_X7_25 rfl rfl dX7_coupleComes_85 rfl ?_
      refine XE_aload_n (n := 89) dX7_coupleComes_88 rfl rfl rfl ?_
      refine XE_getf (v := w11 0 0) (n := 92) xf_X7_83 rfl rfl rfl dX7_coupleComes_89 rfl ?_
      refine XE_iconst (v := 0) (n := 93) dX7_coupleComes_92 rfl (by decide) ?_
      refine XE_iast (hs2 := fun w12 => [w12]) (n := 94) rfl rfl rfl (Nat.le_of_ble_eq_true rfl) (fun _ => rfl) dX7_coupleComes_93 rfl (fun w12 => ?_)
      refine XE_aload_n (n := 95) dX7_coupleComes_94 rfl rfl rfl ?_
      refine XE_getr (b := 7) (n := 98) xf_X7_28 rfl rfl dX7_coupleComes_95 rfl ?_
      refine XE_aload_n (n := 99) dX7_coupleComes_98 rfl rfl rfl ?_
      refine XE_getf (v := w12 0 0) (n := 102) xf_X7_83 rfl rfl rfl dX7_coupleComes_99 rfl ?_
      refine XE_iconst (v := 0) (n := 103) dX7_coupleComes_102 rfl (by decide) ?_
      refine XE_iast (hs2 := fun w13 => [w13]) (n := 104) rfl rfl rfl (Nat.le_of_ble_eq_true rfl) (fun _ => rfl) dX7_coupleComes_103 rfl (fun w13 => ?_)
      refine XE_aload_n (n := 105) dX7_coupleComes_104 rfl rfl rfl ?_
      refine XE_getr (b := 8) (n := 108) xf_X7_31 rfl rfl dX7_coupleComes_105 rfl ?_
      refine XE_aload_n (n := 109) dX7_coupleComes_108 rfl rfl rfl ?_
      refine XE_getf (v := w13 0 9) (n := 112) xf_X7_100 rfl rfl rfl dX7_coupleComes_109 rfl ?_
      refine XE_aload_n (n := 113) dX7_coupleComes_112 rfl rfl rfl ?_
      refine XE_getf (v := w13 0 0) (n := 116) xf_X7_83 rfl rfl rfl dX7_coupleComes_113 rfl ?_
      refine XE_iast (hs2 := fun w14 => [w14]) (n := 117) rfl rfl rfl (Nat.le_of_ble_eq_true rfl) (fun _ => rfl) dX7_coupleComes_116 rfl (fun w14 => ?_)
      refine XE_aload_n (n := 118) dX7_coupleComes_117 rfl rfl rfl ?_
      refine XE_dup (n := 119) dX7_coupleComes_118 rfl rfl ?_
      refine XE_getf (v := w14 0 9) (n := 122) xf_X7_100 rfl rfl rfl dX7_coupleComes_119 rfl ?_
      refine XE_iconst (v := 1) (n := 123) dX7_coupleComes_122 rfl (by decide) ?_
      refine XE_iadd (n := 124) dX7_coupleComes_123 rfl ?_
      refine XE_putf (hs2 := fun w15 => [w15]) (n := 127) xf_X7_100 rfl rfl rfl rfl (Nat.le_of_ble_eq_true rfl) (fun _ => rfl) dX7_coupleComes_124 rfl (fun w15 => ?_)
      refine XE_aload_n (n := 128) dX7_coupleComes_127 rfl rfl rfl ?_
      refine XE_dup (n := 129) dX7_coupleComes_128 rfl rfl ?_
      refine XE_getf (v := w15 0 0) (n := 132) xf_X7_83 rfl rfl rfl dX7_coupleComes_129 rfl ?_
      refine XE_iconst (v := 1) (n := 133) dX7_coupleComes_132 rfl (by decide) ?_
      refine XE_iadd (n := 134) dX7_coupleComes_133 rfl ?_
      refine XE_putf (hs2 := fun w16 => [w16]) (n := 137) xf_X7_83 rfl rfl rfl rfl (Nat.le_of_ble_eq_true rfl) (fun _ => rfl) dX7_coupleComes_134 rfl (fun w16 => ?_)
      refine XE_iload (n := 139) dX7_coupleComes_137 rfl rfl ?_
      refine XE_ck (fun h17 => ?_)
      exact XE_zreturn h17 rfl dX7_coupleComes_139 rfl (Nat.le_refl _) (Nat.le_refl _)
  · refine XE_ltif ?_
    refine XE_icmp_ge (t := 26) (n := 6) dX7_coupleComes_3 rfl rfl (fun h4 => ?_) (fun h4 => ?_)
    · refine XE_iconst (v := 0) (n := 27) dX7_coupleComes_26 rfl (by decide) ?_
      refine XE_ls (x_sub_ok (ls' := [(0, some (.ref 0)), (1, some (.int a1)), (2, some (.int a2)), (3, some (.int a3))]) ⟨rfl, rfl, rfl, rfl, trivial⟩) ?_
      exact hJ1 ((0 : Int32))
    · refine XE_iload_n (n := 7) dX7_coupleComes_6 rfl rfl rfl ?_
      refine XE_sipush (v := 240) (n := 10) dX7_coupleComes_7 rfl (by decide) ?_
      refine XE_ltif ?_
      refine XE_icmp_gt (t := 26) (n := 13) dX7_coupleComes_10 rfl rfl (fun h3 => ?_) (fun h3 => ?_)
      · refine XE_iconst (v := 0) (n := 27) dX7_coupleComes_26 rfl (by decide) ?_
        refine XE_ls (x_sub_ok (ls' := [(0, some (.ref 0)), (1, some (.int a1)), (2, some (.int a2)), (3, some (.int a3))]) ⟨rfl, rfl, rfl, rfl, trivial⟩) ?_
        exact hJ1 ((0 : Int32))
      · refine XE_aload_n (n := 14) dX7_coupleComes_13 rfl rfl rfl ?_
        refine XE_getf (v := m0 0 0) (n := 17) xf_X7_83 rfl rfl rfl dX7_coupleComes_14 rfl ?_
        refine XE_bipush (v := 7) (n := 19) dX7_coupleComes_17 rfl (by decide) ?_
        refine XE_ltif ?_
        refine XE_icmp_ge (t := 26) (n := 22) dX7_coupleComes_19 rfl rfl (fun h2 => ?_) (fun h2 => ?_)
        · refine XE_iconst (v := 0) (n := 27) dX7_coupleComes_26 rfl (by decide) ?_
          refine XE_ls (x_sub_ok (ls' := [(0, some (.ref 0)), (1, some (.int a1)), (2, some (.int a2)), (3, some (.int a3))]) ⟨rfl, rfl, rfl, rfl, trivial⟩) ?_
          exact hJ1 ((0 : Int32))
        · refine XE_iconst (v := 1) (n := 23) dX7_coupleComes_22 rfl (by decide) ?_
          refine XE_goto (n := 27) dX7_coupleComes_23 rfl ?_
          refine XE_ls (x_sub_ok (ls' := [(0, some (.ref 0)), (1, some (.int a1)), (2, some (.int a2)), (3, some (.int a3))]) ⟨rfl, rfl, rfl, rfl, trivial⟩) ?_
          exact hJ1 ((1 : Int32))
theorem met_X7_coupleComes (l : Launch) (m0 : Mem) (a1 : Int32) (a2 : Int32) (a3 : Int32) (t : Int32 × Mem) (ht : f_X7_coupleComes m0 a1 a2 a3 = some t) : XMet l yX7_coupleComes cX7_coupleComes 5 (some .boolean) 1 0 0 [.ref 0, .int a1, .int a2, .int a3] SH_M [m0] SH_M (some (.int t.1), [t.2]) := XMet.of (by decide +kernel) (fun _ => Nat.le_of_ble_eq_true rfl) (fun B => xe_X7_coupleComes B m0 a1 a2 a3) (by rw [ht]; rfl)
/-! X7_roomsBecome: EveryTwentyMinutesModel.roomsBecome(I)V in world M at (0,) -/
abbrev M_X7_roomsBecome : XM := (RX7, cX7_roomsBecome, 2, none, "roomsBecome", 1, 0, 0)
def f_X7_roomsBecome (m0 : Mem) (a1 : Int32) : Option (Mem) :=
  if (m0 0 10) = 1 then
    lt (xs m0 9 1 (m0 9 0)) fun w3 =>
    lt (xs w3 0 10 a1) fun w4 =>
    some w4
  else
    lt (xs m0 9 1 (m0 9 1)) fun w1 =>
    lt (xs w1 0 10 a1) fun w2 =>
    some w2
set_option maxRecDepth 100000 in
theorem xe_X7_roomsBecome (B : XB) (m0 : Mem) (a1 : Int32) : XE B M_X7_roomsBecome (XQm B 0 0 SH_M) 0 [(0, some (.ref 0)), (1, some (.int a1))] [] (0, 0) SH_M [m0] (fun t => some (none, [t])) (f_X7_roomsBecome m0 a1) := by
  unfold f_X7_roomsBecome
  refine XE_aload_n (n := 1) dX7_roomsBecome_0 rfl rfl rfl ?_
  refine XE_getr (b := 9) (n := 4) xf_X7_34 rfl rfl dX7_roomsBecome_1 rfl ?_
  refine XE_iconst (v := 1) (n := 5) dX7_roomsBecome_4 rfl (by decide) ?_
  refine XE_aload_n (n := 6) dX7_roomsBecome_5 rfl rfl rfl ?_
  refine XE_getf (v := m0 0 10) (n := 9) xf_X7_80 rfl rfl rfl dX7_roomsBecome_6 rfl ?_
  refine XE_iconst (v := 1) (n := 10) dX7_roomsBecome_9 rfl (by decide) ?_
  refine XE_icmp_ne (t := 22) (n := 13) dX7_roomsBecome_10 rfl rfl (fun h5 => ?_) (fun h5 => ?_)
  · refine XE_aload_n (n := 14) dX7_roomsBecome_13 rfl rfl rfl ?_
    refine XE_getr (b := 9) (n := 17) xf_X7_34 rfl rfl dX7_roomsBecome_14 rfl ?_
    refine XE_iconst (v := 0) (n := 18) dX7_roomsBecome_17 rfl (by decide) ?_
    refine XE_ialdc (row := m0 9) (j := 0) (n := 19) rfl rfl rfl rfl dX7_roomsBecome_18 rfl ?_
    refine XE_goto (n := 28) dX7_roomsBecome_19 rfl ?_
    refine XE_iastj (j := 1) (hs2 := fun w3 => [w3]) (n := 29) rfl rfl rfl (Nat.le_of_ble_eq_true rfl) (fun _ => rfl) rfl rfl dX7_roomsBecome_28 rfl (fun w3 => ?_)
    refine XE_aload_n (n := 30) dX7_roomsBecome_29 rfl rfl rfl ?_
    refine XE_iload_n (n := 31) dX7_roomsBecome_30 rfl rfl rfl ?_
    refine XE_putf (hs2 := fun w4 => [w4]) (n := 34) xf_X7_80 rfl rfl rfl rfl (Nat.le_of_ble_eq_true rfl) (fun _ => rfl) dX7_roomsBecome_31 rfl (fun w4 => ?_)
    exact XE_vreturn rfl dX7_roomsBecome_34 rfl (Nat.le_refl _) (Nat.le_refl _)
  · refine XE_aload_n (n := 23) dX7_roomsBecome_22 rfl rfl rfl ?_
    refine XE_getr (b := 9) (n := 26) xf_X7_34 rfl rfl dX7_roomsBecome_23 rfl ?_
    refine XE_iconst (v := 1) (n := 27) dX7_roomsBecome_26 rfl (by decide) ?_
    refine XE_ialdc (row := m0 9) (j := 1) (n := 28) rfl rfl rfl rfl dX7_roomsBecome_27 rfl ?_
    refine XE_iastj (j := 1) (hs2 := fun w1 => [w1]) (n := 29) rfl rfl rfl (Nat.le_of_ble_eq_true rfl) (fun _ => rfl) rfl rfl dX7_roomsBecome_28 rfl (fun w1 => ?_)
    refine XE_aload_n (n := 30) dX7_roomsBecome_29 rfl rfl rfl ?_
    refine XE_iload_n (n := 31) dX7_roomsBecome_30 rfl rfl rfl ?_
    refine XE_putf (hs2 := fun w2 => [w2]) (n := 34) xf_X7_80 rfl rfl rfl rfl (Nat.le_of_ble_eq_true rfl) (fun _ => rfl) dX7_roomsBecome_31 rfl (fun w2 => ?_)
    exact XE_vreturn rfl dX7_roomsBecome_34 rfl (Nat.le_refl _) (Nat.le_refl _)
theorem met_X7_roomsBecome (l : Launch) (m0 : Mem) (a1 : Int32) (t : Mem) (ht : f_X7_roomsBecome m0 a1 = some t) : XMet l yX7_roomsBecome cX7_roomsBecome 2 none 1 0 0 [.ref 0, .int a1] SH_M [m0] SH_M (none, [t]) := XMet.of (by decide +kernel) (fun _ => Nat.le_of_ble_eq_true rfl) (fun B => xe_X7_roomsBecome B m0 a1) (by rw [ht]; rfl)
/-! X7_feed: EveryTwentyMinutesModel.feed(I)I in world M at (0,) -/
abbrev M_X7_feed : XM := (RX7, cX7_feed, 2, (some .int), "feed", 2, 0, 0)
def f_X7_feed_J32 (w2 : Mem) : Option (Int32 × Mem) :=
  (f_X7_refuse w2 (-6)).bind fun t3 =>
  some (t3.1, t3.2)
def f_X7_feed (m0 : Mem) (a1 : Int32) : Option (Int32 × Mem) :=
  lt (xs m0 0 14 0) fun w1 =>
  if 0 ≤ a1 then
    if 255 < a1 then
      f_X7_feed_J32 w1
    else
      if (w1 0 17) = 96 then
        f_X7_feed_J32 w1
      else
        ck (inb (w1 0 17) 96) <|
        lt (xs w1 11 (ix (w1 0 17)) a1) fun w4 =>
        lt (xs w4 0 17 ((w4 0 17) + 1)) fun w5 =>
        some ((w5 0 17), w5)
  else
    (f_X7_refuse w1 (-4)).bind fun t8 =>
    some (t8.1, t8.2)
set_option maxRecDepth 100000 in
theorem f_X7_feed_J32_x (B : XB) (w2 : Mem) : XE B M_X7_feed (XQm B 0 0 SH_M) 32 [(0, some (.ref 0))] [] (0, 0) SH_M [w2] (fun t => some (some (.int t.1), [t.2])) (f_X7_feed_J32 w2) := by
  unfold f_X7_feed_J32
  refine XE_aload_n (n := 33) dX7_feed_32 rfl rfl rfl ?_
  refine XE_bipush (v := (-6)) (n := 35) dX7_feed_33 rfl (by decide) ?_
  refine XE_callVi (ni := 1) (As := [.int (-6)]) (st2 := fun t3 => [.int t3.1]) (n := 38) (b := 0) xc_X7_138 (fun l t ht => met_X7_refuse l w2 (-6) t ht) rfl rfl rfl rfl dX7_feed_35 (Nat.le_of_ble_eq_true rfl) ⟨Nat.zero_le _, Nat.zero_le _⟩ (Nat.le_of_ble_eq_true rfl) (Nat.le_of_ble_eq_true rfl) (fun _ => rfl) rfl (fun t3 => ?_)
  exact XE_ireturn rfl dX7_feed_38 rfl (Nat.le_refl _) (Nat.le_refl _)
set_option maxRecDepth 100000 in
theorem xe_X7_feed (B : XB) (m0 : Mem) (a1 : Int32) : XE B M_X7_feed (XQm B 0 0 SH_M) 0 [(0, some (.ref 0)), (1, some (.int a1))] [] (0, 0) SH_M [m0] (fun t => some (some (.int t.1), [t.2])) (f_X7_feed m0 a1) := by
  unfold f_X7_feed
  refine XE_aload_n (n := 1) dX7_feed_0 rfl rfl rfl ?_
  refine XE_iconst (v := 0) (n := 2) dX7_feed_1 rfl (by decide) ?_
  refine XE_putf (hs2 := fun w1 => [w1]) (n := 5) xf_X7_76 rfl rfl rfl rfl (Nat.le_of_ble_eq_true rfl) (fun _ => rfl) dX7_feed_2 rfl (fun w1 => ?_)
  refine XE_iload_n (n := 6) dX7_feed_5 rfl rfl rfl ?_
  refine XE_if_ge (t := 16) (n := 9) dX7_feed_6 rfl rfl (fun h9 => ?_) (fun h9 => ?_)
  · refine XE_iload_n (n := 17) dX7_feed_16 rfl rfl rfl ?_
    refine XE_sipush (v := 255) (n := 20) dX7_feed_17 rfl (by decide) ?_
    refine XE_icmp_gt (t := 32) (n := 23) dX7_feed_20 rfl rfl (fun h7 => ?_) (fun h7 => ?_)
    · refine XE_ls (x_sub_ok (ls' := [(0, some (.ref 0))]) ⟨rfl, trivial⟩) ?_
      exact f_X7_feed_J32_x B w1
    · refine XE_aload_n (n := 24) dX7_feed_23 rfl rfl rfl ?_
      refine XE_getf (v := w1 0 17) (n := 27) xf_X7_141 rfl rfl rfl dX7_feed_24 rfl ?_
      refine XE_bipush (v := 96) (n := 29) dX7_feed_27 rfl (by decide) ?_
      refine XE_icmp_ne (t := 39) (n := 32) dX7_feed_29 rfl rfl (fun h6 => ?_) (fun h6 => ?_)
      · refine XE_ls (x_sub_ok (ls' := [(0, some (.ref 0))]) ⟨rfl, trivial⟩) ?_
        exact f_X7_feed_J32_x B w1
      · refine XE_aload_n (n := 40) dX7_feed_39 rfl rfl rfl ?_
        refine XE_getr (b := 11) (n := 43) xf_X7_40 rfl rfl dX7_feed_40 rfl ?_
        refine XE_aload_n (n := 44) dX7_feed_43 rfl rfl rfl ?_
        refine XE_getf (v := w1 0 17) (n := 47) xf_X7_141 rfl rfl rfl dX7_feed_44 rfl ?_
        refine XE_iload_n (n := 48) dX7_feed_47 rfl rfl rfl ?_
        refine XE_iast (hs2 := fun w4 => [w4]) (n := 49) rfl rfl rfl (Nat.le_of_ble_eq_true rfl) (fun _ => rfl) dX7_feed_48 rfl (fun w4 => ?_)
        refine XE_aload_n (n := 50) dX7_feed_49 rfl rfl rfl ?_
        refine XE_dup (n := 51) dX7_feed_50 rfl rfl ?_
        refine XE_getf (v := w4 0 17) (n := 54) xf_X7_141 rfl rfl rfl dX7_feed_51 rfl ?_
        refine XE_iconst (v := 1) (n := 55) dX7_feed_54 rfl (by decide) ?_
        refine XE_iadd (n := 56) dX7_feed_55 rfl ?_
        refine XE_putf (hs2 := fun w5 => [w5]) (n := 59) xf_X7_141 rfl rfl rfl rfl (Nat.le_of_ble_eq_true rfl) (fun _ => rfl) dX7_feed_56 rfl (fun w5 => ?_)
        refine XE_aload_n (n := 60) dX7_feed_59 rfl rfl rfl ?_
        refine XE_getf (v := w5 0 17) (n := 63) xf_X7_141 rfl rfl rfl dX7_feed_60 rfl ?_
        exact XE_ireturn rfl dX7_feed_63 rfl (Nat.le_refl _) (Nat.le_refl _)
  · refine XE_aload_n (n := 10) dX7_feed_9 rfl rfl rfl ?_
    refine XE_bipush (v := (-4)) (n := 12) dX7_feed_10 rfl (by decide) ?_
    refine XE_callVi (ni := 1) (As := [.int (-4)]) (st2 := fun t8 => [.int t8.1]) (n := 15) (b := 0) xc_X7_138 (fun l t ht => met_X7_refuse l w1 (-4) t ht) rfl rfl rfl rfl dX7_feed_12 (Nat.le_of_ble_eq_true rfl) ⟨Nat.zero_le _, Nat.zero_le _⟩ (Nat.le_of_ble_eq_true rfl) (Nat.le_of_ble_eq_true rfl) (fun _ => rfl) rfl (fun t8 => ?_)
    exact XE_ireturn rfl dX7_feed_15 rfl (Nat.le_refl _) (Nat.le_refl _)
theorem met_X7_feed (l : Launch) (m0 : Mem) (a1 : Int32) (t : Int32 × Mem) (ht : f_X7_feed m0 a1 = some t) : XMet l yX7_feed cX7_feed 2 (some .int) 2 0 0 [.ref 0, .int a1] SH_M [m0] SH_M (some (.int t.1), [t.2]) := XMet.of (by decide +kernel) (fun _ => Nat.le_of_ble_eq_true rfl) (fun B => xe_X7_feed B m0 a1) (by rw [ht]; rfl)
/-! X7_here: EveryTwentyMinutesModel.here()I in world M at (0,) -/
abbrev M_X7_here : XM := (RX7, cX7_here, 1, (some .int), "here", 1, 0, 0)
def f_X7_here (m0 : Mem) : Option (Int32) :=
  if (m0 0 17) ≤ (m0 0 18) then
    some ((-1) : Int32)
  else
    ck (inb (m0 0 18) 96) <|
    some (m0 11 (ix (m0 0 18)))
set_option maxRecDepth 100000 in
theorem xe_X7_here (B : XB) (m0 : Mem) : XE B M_X7_here (XQm B 0 0 SH_M) 0 [(0, some (.ref 0))] [] (0, 0) SH_M [m0] (fun t => some (some (.int t), [m0])) (f_X7_here m0) := by
  unfold f_X7_here
  refine XE_aload_n (n := 1) dX7_here_0 rfl rfl rfl ?_
  refine XE_getf (v := m0 0 18) (n := 4) xf_X7_144 rfl rfl rfl dX7_here_1 rfl ?_
  refine XE_aload_n (n := 5) dX7_here_4 rfl rfl rfl ?_
  refine XE_getf (v := m0 0 17) (n := 8) xf_X7_141 rfl rfl rfl dX7_here_5 rfl ?_
  refine XE_icmp_ge (t := 23) (n := 11) dX7_here_8 rfl rfl (fun h1 => ?_) (fun h1 => ?_)
  · refine XE_iconst (v := (-1)) (n := 24) dX7_here_23 rfl (by decide) ?_
    exact XE_ireturn rfl dX7_here_24 rfl (Nat.le_refl _) (Nat.le_refl _)
  · refine XE_aload_n (n := 12) dX7_here_11 rfl rfl rfl ?_
    refine XE_getr (b := 11) (n := 15) xf_X7_40 rfl rfl dX7_here_12 rfl ?_
    refine XE_aload_n (n := 16) dX7_here_15 rfl rfl rfl ?_
    refine XE_getf (v := m0 0 18) (n := 19) xf_X7_144 rfl rfl rfl dX7_here_16 rfl ?_
    refine XE_iald (row := m0 11) (n := 20) rfl rfl dX7_here_19 rfl ?_
    refine XE_goto (n := 24) dX7_here_20 rfl ?_
    exact XE_ireturn rfl dX7_here_24 rfl (Nat.le_refl _) (Nat.le_refl _)
theorem met_X7_here (l : Launch) (m0 : Mem) (t : Int32) (ht : f_X7_here m0 = some t) : XMet l yX7_here cX7_here 1 (some .int) 1 0 0 [.ref 0] SH_M [m0] SH_M (some (.int t), [m0]) := XMet.of (by decide +kernel) (fun _ => Nat.le_of_ble_eq_true rfl) (fun B => xe_X7_here B m0) (by rw [ht]; rfl)
/-! X7_readDigits: EveryTwentyMinutesModel.readDigits(I)I in world M at (0,) -/
abbrev M_X7_readDigits : XM := (RX7, cX7_readDigits, 4, (some .int), "readDigits", 2, 0, 0)
def f_X7_readDigits_L4 (a1 : Int32) : Nat → Int32 → Int32 → Mem → Option (Int32 × Mem)
  | 0, _, _, _ => none
  | n + 1, v1, v2, w3 =>
    if a1 ≤ v2 then
      some (v1, w3)
    else
      (if (w3 0 19) = 0 then
         (f_X7_here w3).bind fun t10 =>
         (f_X7_in ((t10 : Int32).toInt64) 48 57).bind fun t11 =>
         if t11 = 0 then
           some ((1 : Int32))
         else
           some ((0 : Int32))
       else
         some ((1 : Int32))).bind fun t14 =>
      ck (isb t14) <|
      lt (xs w3 0 19 t14) fun w15 =>
      (if (w15 0 19) = 0 then
         ck (inb (w15 0 18) 96) <|
         some ((((10 * v1) + (w15 11 (ix (w15 0 18)))) - 48))
       else
         some ((0 : Int32))).bind fun t21 =>
      if (w15 0 19) = 0 then
        lt (xs w15 0 18 ((w15 0 18) + 1)) fun w22 =>
        lt (v2 + 1) fun v23 =>
        (f_X7_readDigits_L4 a1 n) t21 v23 w22
      else
        lt (xs w15 0 18 ((w15 0 18) + 0)) fun w24 =>
        lt (v2 + 1) fun v25 =>
        (f_X7_readDigits_L4 a1 n) t21 v25 w24
def f_X7_readDigits (m0 : Mem) (a1 : Int32) : Option (Int32 × Mem) :=
  (f_X7_readDigits_L4 a1 6000 (0 : Int32) (0 : Int32) m0).bind fun t28 =>
  some (t28.1, t28.2)
set_option maxRecDepth 100000 in
theorem f_X7_readDigits_L4_x {α R : Type} (B : XB) {Q : R → State → Prop} {k : α → Option R} {r : (Int32 × Mem) → Option α} (a1 : Int32) (hE : ∀ t0 : (Int32 × Mem), XE B M_X7_readDigits Q 98 [(2, some (.int t0.1))] [] (0, 0) SH_M [t0.2] (fun t => (r t).bind k) (some t0)) : ∀ (n : Nat) (v1 : Int32) (v2 : Int32) (w3 : Mem), XE B M_X7_readDigits Q 4 [(0, some (.ref 0)), (1, some (.int a1)), (2, some (.int v1)), (3, some (.int v2))] [] (0, 0) SH_M [w3] (fun t => (r t).bind k) (f_X7_readDigits_L4 a1 n v1 v2 w3) := by
  intro n
  induction n with
  | zero => intros; exact XE_none
  | succ n ih =>
    intro v1 v2 w3
    rw [f_X7_readDigits_L4]
    refine XE_iload_n (n := 5) dX7_readDigits_4 rfl rfl rfl ?_
    refine XE_iload_n (n := 6) dX7_readDigits_5 rfl rfl rfl ?_
    refine XE_icmp_ge (t := 98) (n := 9) dX7_readDigits_6 rfl rfl (fun h27 => ?_) (fun h27 => ?_)
    · refine XE_ls (x_sub_ok (ls' := [(2, some (.int v1))]) ⟨rfl, trivial⟩) ?_
      exact hE (v1, w3)
    · refine XE_aload_n (n := 10) dX7_readDigits_9 rfl rfl rfl ?_
      refine XE_aload_n (n := 11) dX7_readDigits_10 rfl rfl rfl ?_
      refine XE_getf (v := w3 0 19) (n := 14) xf_X7_147 rfl rfl rfl dX7_readDigits_11 rfl ?_
      refine XE_reg (J := 39) (lsJ := fun t14 => [(0, some (.ref 0)), (1, some (.int a1)), (2, some (.int v1)), (3, some (.int v2))]) (stJ := fun t14 => [.int t14, .ref 0]) (hsJ := fun t14 => [w3]) (fun t14 => ?_) (fun hJ9 => ?_)
      · refine XE_ck (fun h16 => ?_)
        refine XE_putz (hs2 := fun w15 => [w15]) (n := 42) xf_X7_147 rfl rfl rfl rfl (Nat.le_of_ble_eq_true rfl) (fun _ => rfl) h16 dX7_readDigits_39 rfl (fun w15 => ?_)
        refine XE_aload_n (n := 43) dX7_readDigits_42 rfl rfl rfl ?_
        refine XE_getf (v := w15 0 19) (n := 46) xf_X7_147 rfl rfl rfl dX7_readDigits_43 rfl ?_
        refine XE_reg (J := 70) (lsJ := fun t21 => [(0, some (.ref 0)), (1, some (.int a1)), (3, some (.int v2))]) (stJ := fun t21 => [.int t21]) (hsJ := fun t21 => [w15]) (fun t21 => ?_) (fun hJ19 => ?_)
        · refine XE_istore_n (i := 2) (n := 71) dX7_readDigits_70 rfl rfl (Nat.le_of_ble_eq_true rfl) rfl ?_
          refine XE_aload_n (n := 72) dX7_readDigits_71 rfl rfl rfl ?_
          refine XE_dup (n := 73) dX7_readDigits_72 rfl rfl ?_
          refine XE_getf (v := w15 0 18) (n := 76) xf_X7_144 rfl rfl rfl dX7_readDigits_73 rfl ?_
          refine XE_aload_n (n := 77) dX7_readDigits_76 rfl rfl rfl ?_
          refine XE_getf (v := w15 0 19) (n := 80) xf_X7_147 rfl rfl rfl dX7_readDigits_77 rfl ?_
          refine XE_if_eq (t := 87) (n := 83) dX7_readDigits_80 rfl rfl (fun h26 => ?_) (fun h26 => ?_)
          · refine XE_iconst (v := 1) (n := 88) dX7_readDigits_87 rfl (by decide) ?_
            refine XE_iadd (n := 89) dX7_readDigits_88 rfl ?_
            refine XE_putf (hs2 := fun w22 => [w22]) (n := 92) xf_X7_144 rfl rfl rfl rfl (Nat.le_of_ble_eq_true rfl) (fun _ => rfl) dX7_readDigits_89 rfl (fun w22 => ?_)
            refine XE_iincl (n := 95) dX7_readDigits_92 rfl rfl (by decide) (Nat.le_of_ble_eq_true rfl) rfl (fun v23 => ?_)
            refine XE_goto (n := 4) dX7_readDigits_95 rfl ?_
            refine XE_ls (x_sub_ok (ls' := [(0, some (.ref 0)), (1, some (.int a1)), (2, some (.int t21)), (3, some (.int v23))]) ⟨rfl, rfl, rfl, rfl, trivial⟩) ?_
            exact ih t21 v23 w22
          · refine XE_iconst (v := 0) (n := 84) dX7_readDigits_83 rfl (by decide) ?_
            refine XE_goto (n := 88) dX7_readDigits_84 rfl ?_
            refine XE_iadd (n := 89) dX7_readDigits_88 rfl ?_
            refine XE_putf (hs2 := fun w24 => [w24]) (n := 92) xf_X7_144 rfl rfl rfl rfl (Nat.le_of_ble_eq_true rfl) (fun _ => rfl) dX7_readDigits_89 rfl (fun w24 => ?_)
            refine XE_iincl (n := 95) dX7_readDigits_92 rfl rfl (by decide) (Nat.le_of_ble_eq_true rfl) rfl (fun v25 => ?_)
            refine XE_goto (n := 4) dX7_readDigits_95 rfl ?_
            refine XE_ls (x_sub_ok (ls' := [(0, some (.ref 0)), (1, some (.int a1)), (2, some (.int t21)), (3, some (.int v25))]) ⟨rfl, rfl, rfl, rfl, trivial⟩) ?_
            exact ih t21 v25 w24
        · refine XE_if_eq (t := 53) (n := 49) dX7_readDigits_46 rfl rfl (fun h20 => ?_) (fun h20 => ?_)
          · refine XE_bipush (v := 10) (n := 55) dX7_readDigits_53 rfl (by decide) ?_
            refine XE_iload_n (n := 56) dX7_readDigits_55 rfl rfl rfl ?_
            refine XE_imul (n := 57) dX7_readDigits_56 rfl ?_
            refine XE_aload_n (n := 58) dX7_readDigits_57 rfl rfl rfl ?_
            refine XE_getr (b := 11) (n := 61) xf_X7_40 rfl rfl dX7_readDigits_58 rfl ?_
            refine XE_aload_n (n := 62) dX7_readDigits_61 rfl rfl rfl ?_
            refine XE_getf (v := w15 0 18) (n := 65) xf_X7_144 rfl rfl rfl dX7_readDigits_62 rfl ?_
            refine XE_iald (row := w15 11) (n := 66) rfl rfl dX7_readDigits_65 rfl ?_
            refine XE_iadd (n := 67) dX7_readDigits_66 rfl ?_
            refine XE_bipush (v := 48) (n := 69) dX7_readDigits_67 rfl (by decide) ?_
            refine XE_isub (n := 70) dX7_readDigits_69 rfl ?_
            refine XE_ls (x_sub_ok (ls' := [(0, some (.ref 0)), (1, some (.int a1)), (3, some (.int v2))]) ⟨rfl, rfl, rfl, trivial⟩) ?_
            exact hJ19 ((((10 * v1) + (w15 11 (ix (w15 0 18)))) - 48))
          · refine XE_iconst (v := 0) (n := 50) dX7_readDigits_49 rfl (by decide) ?_
            refine XE_goto (n := 70) dX7_readDigits_50 rfl ?_
            refine XE_ls (x_sub_ok (ls' := [(0, some (.ref 0)), (1, some (.int a1)), (3, some (.int v2))]) ⟨rfl, rfl, rfl, trivial⟩) ?_
            exact hJ19 ((0 : Int32))
      · refine XE_if_ne (t := 34) (n := 17) dX7_readDigits_14 rfl rfl (fun h13 => ?_) (fun h13 => ?_)
        · refine XE_aload_n (n := 18) dX7_readDigits_17 rfl rfl rfl ?_
          refine XE_callVi (ni := 0) (As := []) (st2 := fun t10 => [.int t10, .ref 0]) (n := 21) (b := 0) xc_X7_151 (fun l t ht => met_X7_here l w3 t ht) rfl rfl rfl rfl dX7_readDigits_18 (Nat.le_of_ble_eq_true rfl) ⟨Nat.zero_le _, Nat.zero_le _⟩ (Nat.le_of_ble_eq_true rfl) (Nat.le_of_ble_eq_true rfl) (fun _ => rfl) rfl (fun t10 => ?_)
          refine XE_i2l (n := 22) dX7_readDigits_21 rfl ?_
          refine XE_ldc2 (n := 25) dX7_readDigits_22 rfl xk_X7_154 ?_
          refine XE_ldc2 (n := 28) dX7_readDigits_25 rfl xk_X7_156 ?_
          refine XE_callS (ni := 3) (As := [.long ((t10 : Int32).toInt64), .long 48, .long 57]) (π := []) (co := [0]) (cv := [w3]) (nn := 1) (hs2 := fun t11 => [w3]) (st2 := fun t11 => [.int t11, .ref 0]) (n := 31) xc_X7_86 (fun l t ht => met_X7_in l ((t10 : Int32).toInt64) 48 57 t ht) rfl rfl rfl dX7_readDigits_28 (Nat.le_of_ble_eq_true rfl) ⟨Nat.zero_le _, Nat.zero_le _⟩ (Nat.le_of_ble_eq_true rfl) (Nat.le_of_ble_eq_true rfl) ok_40 rfl rfl rfl (fun _ => rfl) (fun _ => rfl) (fun _ => rfl) rfl (fun _ => rfl) rfl (fun t11 => ?_)
          refine XE_if_ne (t := 38) (n := 34) dX7_readDigits_31 rfl rfl (fun h12 => ?_) (fun h12 => ?_)
          · refine XE_iconst (v := 1) (n := 35) dX7_readDigits_34 rfl (by decide) ?_
            refine XE_goto (n := 39) dX7_readDigits_35 rfl ?_
            refine XE_ls (x_sub_ok (ls' := [(0, some (.ref 0)), (1, some (.int a1)), (2, some (.int v1)), (3, some (.int v2))]) ⟨rfl, rfl, rfl, rfl, trivial⟩) ?_
            exact hJ9 ((1 : Int32))
          · refine XE_iconst (v := 0) (n := 39) dX7_readDigits_38 rfl (by decide) ?_
            refine XE_ls (x_sub_ok (ls' := [(0, some (.ref 0)), (1, some (.int a1)), (2, some (.int v1)), (3, some (.int v2))]) ⟨rfl, rfl, rfl, rfl, trivial⟩) ?_
            exact hJ9 ((0 : Int32))
        · refine XE_iconst (v := 1) (n := 35) dX7_readDigits_34 rfl (by decide) ?_
          refine XE_goto (n := 39) dX7_readDigits_35 rfl ?_
          refine XE_ls (x_sub_ok (ls' := [(0, some (.ref 0)), (1, some (.int a1)), (2, some (.int v1)), (3, some (.int v2))]) ⟨rfl, rfl, rfl, rfl, trivial⟩) ?_
          exact hJ9 ((1 : Int32))
set_option maxRecDepth 100000 in
theorem xe_X7_readDigits (B : XB) (m0 : Mem) (a1 : Int32) : XE B M_X7_readDigits (XQm B 0 0 SH_M) 0 [(0, some (.ref 0)), (1, some (.int a1))] [] (0, 0) SH_M [m0] (fun t => some (some (.int t.1), [t.2])) (f_X7_readDigits m0 a1) := by
  unfold f_X7_readDigits
  refine XE_iconst (v := 0) (n := 1) dX7_readDigits_0 rfl (by decide) ?_
  refine XE_istore_n (i := 2) (n := 2) dX7_readDigits_1 rfl rfl (Nat.le_of_ble_eq_true rfl) rfl ?_
  refine XE_iconst (v := 0) (n := 3) dX7_readDigits_2 rfl (by decide) ?_
  refine XE_istore_n (i := 3) (n := 4) dX7_readDigits_3 rfl rfl (Nat.le_of_ble_eq_true rfl) rfl ?_
  refine XE_ls (x_sub_ok (ls' := [(0, some (.ref 0)), (1, some (.int a1)), (2, some (.int 0)), (3, some (.int 0))]) ⟨rfl, rfl, rfl, rfl, trivial⟩) ?_
  refine XE_reg (J := 98) (lsJ := fun t28 => [(2, some (.int t28.1))]) (stJ := fun t28 => []) (hsJ := fun t28 => [t28.2]) (fun t28 => ?_) (fun hJ29 => f_X7_readDigits_L4_x B a1 hJ29 6000 (0 : Int32) (0 : Int32) m0)
  refine XE_iload_n (n := 99) dX7_readDigits_98 rfl rfl rfl ?_
  exact XE_ireturn rfl dX7_readDigits_99 rfl (Nat.le_refl _) (Nat.le_refl _)
theorem met_X7_readDigits (l : Launch) (m0 : Mem) (a1 : Int32) (t : Int32 × Mem) (ht : f_X7_readDigits m0 a1 = some t) : XMet l yX7_readDigits cX7_readDigits 4 (some .int) 2 0 0 [.ref 0, .int a1] SH_M [m0] SH_M (some (.int t.1), [t.2]) := XMet.of (by decide +kernel) (fun _ => Nat.le_of_ble_eq_true rfl) (fun B => xe_X7_readDigits B m0 a1) (by rw [ht]; rfl)
/-! X7_isLetter: EveryTwentyMinutesModel.isLetter(I)Z in world 0 at () -/
abbrev M_X7_isLetter : XM := (RX7, cX7_isLetter, 1, (some .boolean), "isLetter", 1, 0, 0)
def f_X7_isLetter (a0 : Int32) : Option (Int32) :=
  if a0 = 99 then
    some (1 : Int32)
  else
    if a0 = 115 then
      some (1 : Int32)
    else
      if a0 = 114 then
        some (1 : Int32)
      else
        if a0 = 102 then
          some (1 : Int32)
        else
          if a0 = 119 then
            some (1 : Int32)
          else
            if a0 = 98 then
              some (1 : Int32)
            else
              some (0 : Int32)
set_option maxRecDepth 100000 in
theorem xe_X7_isLetter (B : XB) (a0 : Int32) : XE B M_X7_isLetter (XQm B 0 0 SH_0) 0 [(0, some (.int a0))] [] (0, 0) SH_0 [] (fun t => some (some (.int t), [])) (f_X7_isLetter a0) := by
  unfold f_X7_isLetter
  refine XE_iload_n (n := 1) dX7_isLetter_0 rfl rfl rfl ?_
  refine XE_bipush (v := 99) (n := 3) dX7_isLetter_1 rfl (by decide) ?_
  refine XE_icmp_eq (t := 36) (n := 6) dX7_isLetter_3 rfl rfl (fun h6 => ?_) (fun h6 => ?_)
  · refine XE_iconst (v := 1) (n := 37) dX7_isLetter_36 rfl (by decide) ?_
    refine XE_goto (n := 41) dX7_isLetter_37 rfl ?_
    exact XE_zreturn rfl rfl dX7_isLetter_41 rfl (Nat.le_refl _) (Nat.le_refl _)
  · refine XE_iload_n (n := 7) dX7_isLetter_6 rfl rfl rfl ?_
    refine XE_bipush (v := 115) (n := 9) dX7_isLetter_7 rfl (by decide) ?_
    refine XE_icmp_eq (t := 36) (n := 12) dX7_isLetter_9 rfl rfl (fun h5 => ?_) (fun h5 => ?_)
    · refine XE_iconst (v := 1) (n := 37) dX7_isLetter_36 rfl (by decide) ?_
      refine XE_goto (n := 41) dX7_isLetter_37 rfl ?_
      exact XE_zreturn rfl rfl dX7_isLetter_41 rfl (Nat.le_refl _) (Nat.le_refl _)
    · refine XE_iload_n (n := 13) dX7_isLetter_12 rfl rfl rfl ?_
      refine XE_bipush (v := 114) (n := 15) dX7_isLetter_13 rfl (by decide) ?_
      refine XE_icmp_eq (t := 36) (n := 18) dX7_isLetter_15 rfl rfl (fun h4 => ?_) (fun h4 => ?_)
      · refine XE_iconst (v := 1) (n := 37) dX7_isLetter_36 rfl (by decide) ?_
        refine XE_goto (n := 41) dX7_isLetter_37 rfl ?_
        exact XE_zreturn rfl rfl dX7_isLetter_41 rfl (Nat.le_refl _) (Nat.le_refl _)
      · refine XE_iload_n (n := 19) dX7_isLetter_18 rfl rfl rfl ?_
        refine XE_bipush (v := 102) (n := 21) dX7_isLetter_19 rfl (by decide) ?_
        refine XE_icmp_eq (t := 36) (n := 24) dX7_isLetter_21 rfl rfl (fun h3 => ?_) (fun h3 => ?_)
        · refine XE_iconst (v := 1) (n := 37) dX7_isLetter_36 rfl (by decide) ?_
          refine XE_goto (n := 41) dX7_isLetter_37 rfl ?_
          exact XE_zreturn rfl rfl dX7_isLetter_41 rfl (Nat.le_refl _) (Nat.le_refl _)
        · refine XE_iload_n (n := 25) dX7_isLetter_24 rfl rfl rfl ?_
          refine XE_bipush (v := 119) (n := 27) dX7_isLetter_25 rfl (by decide) ?_
          refine XE_icmp_eq (t := 36) (n := 30) dX7_isLetter_27 rfl rfl (fun h2 => ?_) (fun h2 => ?_)
          · refine XE_iconst (v := 1) (n := 37) dX7_isLetter_36 rfl (by decide) ?_
            refine XE_goto (n := 41) dX7_isLetter_37 rfl ?_
            exact XE_zreturn rfl rfl dX7_isLetter_41 rfl (Nat.le_refl _) (Nat.le_refl _)
          · refine XE_iload_n (n := 31) dX7_isLetter_30 rfl rfl rfl ?_
            refine XE_bipush (v := 98) (n := 33) dX7_isLetter_31 rfl (by decide) ?_
            refine XE_icmp_ne (t := 40) (n := 36) dX7_isLetter_33 rfl rfl (fun h1 => ?_) (fun h1 => ?_)
            · refine XE_iconst (v := 1) (n := 37) dX7_isLetter_36 rfl (by decide) ?_
              refine XE_goto (n := 41) dX7_isLetter_37 rfl ?_
              exact XE_zreturn rfl rfl dX7_isLetter_41 rfl (Nat.le_refl _) (Nat.le_refl _)
            · refine XE_iconst (v := 0) (n := 41) dX7_isLetter_40 rfl (by decide) ?_
              exact XE_zreturn rfl rfl dX7_isLetter_41 rfl (Nat.le_refl _) (Nat.le_refl _)
theorem met_X7_isLetter (l : Launch) (a0 : Int32) (t : Int32) (ht : f_X7_isLetter a0 = some t) : XMet l yX7_isLetter cX7_isLetter 1 (some .boolean) 1 0 0 [.int a0] SH_0 [] SH_0 (some (.int t), []) := XMet.of (by decide +kernel) (fun _ => Nat.le_of_ble_eq_true rfl) (fun B => xe_X7_isLetter B a0) (by rw [ht]; rfl)
/-! X7_readStatement: EveryTwentyMinutesModel.readStatement()V in world M at (0,) -/
abbrev M_X7_readStatement : XM := (RX7, cX7_readStatement, 3, none, "readStatement", 3, 0, 0)
def f_X7_readStatement (m0 : Mem) : Option (Mem) :=
  lt (m0 0 20) fun v1 =>
  (f_X7_here m0).bind fun t2 =>
  ck (inb v1 49) <|
  lt (xs m0 12 (ix v1) (m0 0 18)) fun w3 =>
  ck (inb v1 49) <|
  lt (xs w3 13 (ix v1) t2) fun w4 =>
  (if (w4 0 19) = 0 then
     (f_X7_isLetter t2).bind fun t10 =>
     if t10 = 0 then
       some ((1 : Int32))
     else
       some ((0 : Int32))
   else
     some ((1 : Int32))).bind fun t13 =>
  ck (isb t13) <|
  lt (xs w4 0 19 t13) fun w14 =>
  lt (if (w14 0 19) = 0 then
      ((1 : Int32))
    else
      ((0 : Int32))) fun t18 =>
  lt (xs w14 0 18 ((w14 0 18) + t18)) fun w19 =>
  (if (w19 0 19) = 0 then
     lt (if t2 = 98 then
         ((2 : Int32))
       else
         ((1 : Int32))) fun t35 =>
     (f_X7_readDigits w19 t35).bind fun t36 =>
     ck (inb (3 * v1) 147) <|
     lt (xs t36.2 14 (ix (3 * v1)) t36.1) fun w37 =>
     if t2 = 99 then
       (f_X7_readDigits w37 1).bind fun t38 =>
       ck (inb ((3 * v1) + 1) 147) <|
       lt (xs t38.2 14 (ix ((3 * v1) + 1)) t38.1) fun w39 =>
       (f_X7_readDigits w39 3).bind fun t40 =>
       ck (inb ((3 * v1) + 2) 147) <|
       lt (xs t40.2 14 (ix ((3 * v1) + 2)) t40.1) fun w41 =>
       some (w41)
     else
       some (w37)
   else
     some (w19)).bind fun t44 =>
  (if (t44 0 19) = 0 then
     (f_X7_here t44).bind fun t50 =>
     if t50 = 59 then
       some ((0 : Int32))
     else
       some ((1 : Int32))
   else
     some ((1 : Int32))).bind fun t53 =>
  ck (isb t53) <|
  lt (xs t44 0 19 t53) fun w54 =>
  lt (if (w54 0 19) = 0 then
      ((1 : Int32))
    else
      ((0 : Int32))) fun t58 =>
  lt (xs w54 0 18 ((w54 0 18) + t58)) fun w59 =>
  lt (xs w59 0 20 ((w59 0 20) + 1)) fun w60 =>
  some w60
set_option maxRecDepth 100000 in
theorem xe_X7_readStatement (B : XB) (m0 : Mem) : XE B M_X7_readStatement (XQm B 0 0 SH_M) 0 [(0, some (.ref 0))] [] (0, 0) SH_M [m0] (fun t => some (none, [t])) (f_X7_readStatement m0) := by
  unfold f_X7_readStatement
  refine XE_aload_n (n := 1) dX7_readStatement_0 rfl rfl rfl ?_
  refine XE_getf (v := m0 0 20) (n := 4) xf_X7_158 rfl rfl rfl dX7_readStatement_1 rfl ?_
  refine XE_topi (fun v1 => ?_)
  refine XE_istore_n (i := 1) (n := 5) dX7_readStatement_4 rfl rfl (Nat.le_of_ble_eq_true rfl) rfl ?_
  refine XE_aload_n (n := 6) dX7_readStatement_5 rfl rfl rfl ?_
  refine XE_callVi (ni := 0) (As := []) (st2 := fun t2 => [.int t2]) (n := 9) (b := 0) xc_X7_151 (fun l t ht => met_X7_here l m0 t ht) rfl rfl rfl rfl dX7_readStatement_6 (Nat.le_of_ble_eq_true rfl) ⟨Nat.zero_le _, Nat.zero_le _⟩ (Nat.le_of_ble_eq_true rfl) (Nat.le_of_ble_eq_true rfl) (fun _ => rfl) rfl (fun t2 => ?_)
  refine XE_istore_n (i := 2) (n := 10) dX7_readStatement_9 rfl rfl (Nat.le_of_ble_eq_true rfl) rfl ?_
  refine XE_aload_n (n := 11) dX7_readStatement_10 rfl rfl rfl ?_
  refine XE_getr (b := 12) (n := 14) xf_X7_43 rfl rfl dX7_readStatement_11 rfl ?_
  refine XE_iload_n (n := 15) dX7_readStatement_14 rfl rfl rfl ?_
  refine XE_aload_n (n := 16) dX7_readStatement_15 rfl rfl rfl ?_
  refine XE_getf (v := m0 0 18) (n := 19) xf_X7_144 rfl rfl rfl dX7_readStatement_16 rfl ?_
  refine XE_iast (hs2 := fun w3 => [w3]) (n := 20) rfl rfl rfl (Nat.le_of_ble_eq_true rfl) (fun _ => rfl) dX7_readStatement_19 rfl (fun w3 => ?_)
  refine XE_aload_n (n := 21) dX7_readStatement_20 rfl rfl rfl ?_
  refine XE_getr (b := 13) (n := 24) xf_X7_46 rfl rfl dX7_readStatement_21 rfl ?_
  refine XE_iload_n (n := 25) dX7_readStatement_24 rfl rfl rfl ?_
  refine XE_iload_n (n := 26) dX7_readStatement_25 rfl rfl rfl ?_
  refine XE_iast (hs2 := fun w4 => [w4]) (n := 27) rfl rfl rfl (Nat.le_of_ble_eq_true rfl) (fun _ => rfl) dX7_readStatement_26 rfl (fun w4 => ?_)
  refine XE_aload_n (n := 28) dX7_readStatement_27 rfl rfl rfl ?_
  refine XE_aload_n (n := 29) dX7_readStatement_28 rfl rfl rfl ?_
  refine XE_getf (v := w4 0 19) (n := 32) xf_X7_147 rfl rfl rfl dX7_readStatement_29 rfl ?_
  refine XE_reg (J := 47) (lsJ := fun t13 => [(0, some (.ref 0)), (1, some (.int v1)), (2, some (.int t2))]) (stJ := fun t13 => [.int t13, .ref 0]) (hsJ := fun t13 => [w4]) (fun t13 => ?_) (fun hJ9 => ?_)
  · refine XE_ck (fun h15 => ?_)
    refine XE_putz (hs2 := fun w14 => [w14]) (n := 50) xf_X7_147 rfl rfl rfl rfl (Nat.le_of_ble_eq_true rfl) (fun _ => rfl) h15 dX7_readStatement_47 rfl (fun w14 => ?_)
    refine XE_aload_n (n := 51) dX7_readStatement_50 rfl rfl rfl ?_
    refine XE_dup (n := 52) dX7_readStatement_51 rfl rfl ?_
    refine XE_getf (v := w14 0 18) (n := 55) xf_X7_144 rfl rfl rfl dX7_readStatement_52 rfl ?_
    refine XE_aload_n (n := 56) dX7_readStatement_55 rfl rfl rfl ?_
    refine XE_getf (v := w14 0 19) (n := 59) xf_X7_147 rfl rfl rfl dX7_readStatement_56 rfl ?_
    refine XE_regv (J := 67) (lsJ := fun t18 => [(0, some (.ref 0)), (1, some (.int v1)), (2, some (.int t2))]) (stJ := fun t18 => [.int t18, .int (w14 0 18), .ref 0]) (hsJ := fun t18 => [w14]) (fun t18 => ?_) (fun hJ16 => ?_)
    · refine XE_iadd (n := 68) dX7_readStatement_67 rfl ?_
      refine XE_putf (hs2 := fun w19 => [w19]) (n := 71) xf_X7_144 rfl rfl rfl rfl (Nat.le_of_ble_eq_true rfl) (fun _ => rfl) dX7_readStatement_68 rfl (fun w19 => ?_)
      refine XE_aload_n (n := 72) dX7_readStatement_71 rfl rfl rfl ?_
      refine XE_getf (v := w19 0 19) (n := 75) xf_X7_147 rfl rfl rfl dX7_readStatement_72 rfl ?_
      refine XE_reg (J := 137) (lsJ := fun t44 => [(0, some (.ref 0))]) (stJ := fun t44 => []) (hsJ := fun t44 => [t44]) (fun t44 => ?_) (fun hJ32 => ?_)
      · refine XE_aload_n (n := 138) dX7_readStatement_137 rfl rfl rfl ?_
        refine XE_aload_n (n := 139) dX7_readStatement_138 rfl rfl rfl ?_
        refine XE_getf (v := t44 0 19) (n := 142) xf_X7_147 rfl rfl rfl dX7_readStatement_139 rfl ?_
        refine XE_reg (J := 159) (lsJ := fun t53 => [(0, some (.ref 0))]) (stJ := fun t53 => [.int t53, .ref 0]) (hsJ := fun t53 => [t44]) (fun t53 => ?_) (fun hJ49 => ?_)
        · refine XE_ck (fun h55 => ?_)
          refine XE_putz (hs2 := fun w54 => [w54]) (n := 162) xf_X7_147 rfl rfl rfl rfl (Nat.le_of_ble_eq_true rfl) (fun _ => rfl) h55 dX7_readStatement_159 rfl (fun w54 => ?_)
          refine XE_aload_n (n := 163) dX7_readStatement_162 rfl rfl rfl ?_
          refine XE_dup (n := 164) dX7_readStatement_163 rfl rfl ?_
          refine XE_getf (v := w54 0 18) (n := 167) xf_X7_144 rfl rfl rfl dX7_readStatement_164 rfl ?_
          refine XE_aload_n (n := 168) dX7_readStatement_167 rfl rfl rfl ?_
          refine XE_getf (v := w54 0 19) (n := 171) xf_X7_147 rfl rfl rfl dX7_readStatement_168 rfl ?_
          refine XE_regv (J := 179) (lsJ := fun t58 => [(0, some (.ref 0))]) (stJ := fun t58 => [.int t58, .int (w54 0 18), .ref 0]) (hsJ := fun t58 => [w54]) (fun t58 => ?_) (fun hJ56 => ?_)
          · refine XE_iadd (n := 180) dX7_readStatement_179 rfl ?_
            refine XE_putf (hs2 := fun w59 => [w59]) (n := 183) xf_X7_144 rfl rfl rfl rfl (Nat.le_of_ble_eq_true rfl) (fun _ => rfl) dX7_readStatement_180 rfl (fun w59 => ?_)
            refine XE_aload_n (n := 184) dX7_readStatement_183 rfl rfl rfl ?_
            refine XE_dup (n := 185) dX7_readStatement_184 rfl rfl ?_
            refine XE_getf (v := w59 0 20) (n := 188) xf_X7_158 rfl rfl rfl dX7_readStatement_185 rfl ?_
            refine XE_iconst (v := 1) (n := 189) dX7_readStatement_188 rfl (by decide) ?_
            refine XE_iadd (n := 190) dX7_readStatement_189 rfl ?_
            refine XE_putf (hs2 := fun w60 => [w60]) (n := 193) xf_X7_158 rfl rfl rfl rfl (Nat.le_of_ble_eq_true rfl) (fun _ => rfl) dX7_readStatement_190 rfl (fun w60 => ?_)
            exact XE_vreturn rfl dX7_readStatement_193 rfl (Nat.le_refl _) (Nat.le_refl _)
          · refine XE_ltif ?_
            refine XE_if_eq (t := 178) (n := 174) dX7_readStatement_171 rfl rfl (fun h57 => ?_) (fun h57 => ?_)
            · refine XE_iconst (v := 1) (n := 179) dX7_readStatement_178 rfl (by decide) ?_
              refine XE_ls (x_sub_ok (ls' := [(0, some (.ref 0))]) ⟨rfl, trivial⟩) ?_
              exact hJ56 ((1 : Int32))
            · refine XE_iconst (v := 0) (n := 175) dX7_readStatement_174 rfl (by decide) ?_
              refine XE_goto (n := 179) dX7_readStatement_175 rfl ?_
              refine XE_ls (x_sub_ok (ls' := [(0, some (.ref 0))]) ⟨rfl, trivial⟩) ?_
              exact hJ56 ((0 : Int32))
        · refine XE_if_ne (t := 154) (n := 145) dX7_readStatement_142 rfl rfl (fun h52 => ?_) (fun h52 => ?_)
          · refine XE_aload_n (n := 146) dX7_readStatement_145 rfl rfl rfl ?_
            refine XE_callVi (ni := 0) (As := []) (st2 := fun t50 => [.int t50, .ref 0]) (n := 149) (b := 0) xc_X7_151 (fun l t ht => met_X7_here l t44 t ht) rfl rfl rfl rfl dX7_readStatement_146 (Nat.le_of_ble_eq_true rfl) ⟨Nat.zero_le _, Nat.zero_le _⟩ (Nat.le_of_ble_eq_true rfl) (Nat.le_of_ble_eq_true rfl) (fun _ => rfl) rfl (fun t50 => ?_)
            refine XE_bipush (v := 59) (n := 151) dX7_readStatement_149 rfl (by decide) ?_
            refine XE_icmp_eq (t := 158) (n := 154) dX7_readStatement_151 rfl rfl (fun h51 => ?_) (fun h51 => ?_)
            · refine XE_iconst (v := 0) (n := 159) dX7_readStatement_158 rfl (by decide) ?_
              refine XE_ls (x_sub_ok (ls' := [(0, some (.ref 0))]) ⟨rfl, trivial⟩) ?_
              exact hJ49 ((0 : Int32))
            · refine XE_iconst (v := 1) (n := 155) dX7_readStatement_154 rfl (by decide) ?_
              refine XE_goto (n := 159) dX7_readStatement_155 rfl ?_
              refine XE_ls (x_sub_ok (ls' := [(0, some (.ref 0))]) ⟨rfl, trivial⟩) ?_
              exact hJ49 ((1 : Int32))
          · refine XE_iconst (v := 1) (n := 155) dX7_readStatement_154 rfl (by decide) ?_
            refine XE_goto (n := 159) dX7_readStatement_155 rfl ?_
            refine XE_ls (x_sub_ok (ls' := [(0, some (.ref 0))]) ⟨rfl, trivial⟩) ?_
            exact hJ49 ((1 : Int32))
      · refine XE_if_ne (t := 137) (n := 78) dX7_readStatement_75 rfl rfl (fun h43 => ?_) (fun h43 => ?_)
        · refine XE_aload_n (n := 79) dX7_readStatement_78 rfl rfl rfl ?_
          refine XE_getr (b := 14) (n := 82) xf_X7_49 rfl rfl dX7_readStatement_79 rfl ?_
          refine XE_iconst (v := 3) (n := 83) dX7_readStatement_82 rfl (by decide) ?_
          refine XE_iload_n (n := 84) dX7_readStatement_83 rfl rfl rfl ?_
          refine XE_imul (n := 85) dX7_readStatement_84 rfl ?_
          refine XE_aload_n (n := 86) dX7_readStatement_85 rfl rfl rfl ?_
          refine XE_iload_n (n := 87) dX7_readStatement_86 rfl rfl rfl ?_
          refine XE_bipush (v := 98) (n := 89) dX7_readStatement_87 rfl (by decide) ?_
          refine XE_regv (J := 97) (lsJ := fun t35 => [(0, some (.ref 0)), (1, some (.int v1)), (2, some (.int t2))]) (stJ := fun t35 => [.int t35, .ref 0, .int (3 * v1), .ref 14]) (hsJ := fun t35 => [w19]) (fun t35 => ?_) (fun hJ33 => ?_)
          · refine XE_callVi (ni := 1) (As := [.int t35]) (st2 := fun t36 => [.int t36.1, .int (3 * v1), .ref 14]) (n := 100) (b := 0) xc_X7_165 (fun l t ht => met_X7_readDigits l w19 t35 t ht) rfl rfl rfl rfl dX7_readStatement_97 (Nat.le_of_ble_eq_true rfl) ⟨Nat.zero_le _, Nat.zero_le _⟩ (Nat.le_of_ble_eq_true rfl) (Nat.le_of_ble_eq_true rfl) (fun _ => rfl) rfl (fun t36 => ?_)
            refine XE_iast (hs2 := fun w37 => [w37]) (n := 101) rfl rfl rfl (Nat.le_of_ble_eq_true rfl) (fun _ => rfl) dX7_readStatement_100 rfl (fun w37 => ?_)
            refine XE_iload_n (n := 102) dX7_readStatement_101 rfl rfl rfl ?_
            refine XE_bipush (v := 99) (n := 104) dX7_readStatement_102 rfl (by decide) ?_
            refine XE_icmp_ne (t := 137) (n := 107) dX7_readStatement_104 rfl rfl (fun h42 => ?_) (fun h42 => ?_)
            · refine XE_aload_n (n := 108) dX7_readStatement_107 rfl rfl rfl ?_
              refine XE_getr (b := 14) (n := 111) xf_X7_49 rfl rfl dX7_readStatement_108 rfl ?_
              refine XE_iconst (v := 3) (n := 112) dX7_readStatement_111 rfl (by decide) ?_
              refine XE_iload_n (n := 113) dX7_readStatement_112 rfl rfl rfl ?_
              refine XE_imul (n := 114) dX7_readStatement_113 rfl ?_
              refine XE_iconst (v := 1) (n := 115) dX7_readStatement_114 rfl (by decide) ?_
              refine XE_iadd (n := 116) dX7_readStatement_115 rfl ?_
              refine XE_aload_n (n := 117) dX7_readStatement_116 rfl rfl rfl ?_
              refine XE_iconst (v := 1) (n := 118) dX7_readStatement_117 rfl (by decide) ?_
              refine XE_callVi (ni := 1) (As := [.int 1]) (st2 := fun t38 => [.int t38.1, .int ((3 * v1) + 1), .ref 14]) (n := 121) (b := 0) xc_X7_165 (fun l t ht => met_X7_readDigits l w37 1 t ht) rfl rfl rfl rfl dX7_readStatement_118 (Nat.le_of_ble_eq_true rfl) ⟨Nat.zero_le _, Nat.zero_le _⟩ (Nat.le_of_ble_eq_true rfl) (Nat.le_of_ble_eq_true rfl) (fun _ => rfl) rfl (fun t38 => ?_)
              refine XE_iast (hs2 := fun w39 => [w39]) (n := 122) rfl rfl rfl (Nat.le_of_ble_eq_true rfl) (fun _ => rfl) dX7_readStatement_121 rfl (fun w39 => ?_)
              refine XE_aload_n (n := 123) dX7_readStatement_122 rfl rfl rfl ?_
              refine XE_getr (b := 14) (n := 126) xf_X7_49 rfl rfl dX7_readStatement_123 rfl ?_
              refine XE_iconst (v := 3) (n := 127) dX7_readStatement_126 rfl (by decide) ?_
              refine XE_iload_n (n := 128) dX7_readStatement_127 rfl rfl rfl ?_
              refine XE_imul (n := 129) dX7_readStatement_128 rfl ?_
              refine XE_iconst (v := 2) (n := 130) dX7_readStatement_129 rfl (by decide) ?_
              refine XE_iadd (n := 131) dX7_readStatement_130 rfl ?_
              refine XE_aload_n (n := 132) dX7_readStatement_131 rfl rfl rfl ?_
              refine XE_iconst (v := 3) (n := 133) dX7_readStatement_132 rfl (by decide) ?_
              refine XE_callVi (ni := 1) (As := [.int 3]) (st2 := fun t40 => [.int t40.1, .int ((3 * v1) + 2), .ref 14]) (n := 136) (b := 0) xc_X7_165 (fun l t ht => met_X7_readDigits l w39 3 t ht) rfl rfl rfl rfl dX7_readStatement_133 (Nat.le_of_ble_eq_true rfl) ⟨Nat.zero_le _, Nat.zero_le _⟩ (Nat.le_of_ble_eq_true rfl) (Nat.le_of_ble_eq_true rfl) (fun _ => rfl) rfl (fun t40 => ?_)
              refine XE_iast (hs2 := fun w41 => [w41]) (n := 137) rfl rfl rfl (Nat.le_of_ble_eq_true rfl) (fun _ => rfl) dX7_readStatement_136 rfl (fun w41 => ?_)
              refine XE_ls (x_sub_ok (ls' := [(0, some (.ref 0))]) ⟨rfl, trivial⟩) ?_
              exact hJ32 (w41)
            · refine XE_ls (x_sub_ok (ls' := [(0, some (.ref 0))]) ⟨rfl, trivial⟩) ?_
              exact hJ32 (w37)
          · refine XE_ltif ?_
            refine XE_icmp_ne (t := 96) (n := 92) dX7_readStatement_89 rfl rfl (fun h34 => ?_) (fun h34 => ?_)
            · refine XE_iconst (v := 2) (n := 93) dX7_readStatement_92 rfl (by decide) ?_
              refine XE_goto (n := 97) dX7_readStatement_93 rfl ?_
              refine XE_ls (x_sub_ok (ls' := [(0, some (.ref 0)), (1, some (.int v1)), (2, some (.int t2))]) ⟨rfl, rfl, rfl, trivial⟩) ?_
              exact hJ33 ((2 : Int32))
            · refine XE_iconst (v := 1) (n := 97) dX7_readStatement_96 rfl (by decide) ?_
              refine XE_ls (x_sub_ok (ls' := [(0, some (.ref 0)), (1, some (.int v1)), (2, some (.int t2))]) ⟨rfl, rfl, rfl, trivial⟩) ?_
              exact hJ33 ((1 : Int32))
        · refine XE_ls (x_sub_ok (ls' := [(0, some (.ref 0))]) ⟨rfl, trivial⟩) ?_
          exact hJ32 (w19)
    · refine XE_ltif ?_
      refine XE_if_eq (t := 66) (n := 62) dX7_readStatement_59 rfl rfl (fun h17 => ?_) (fun h17 => ?_)
      · refine XE_iconst (v := 1) (n := 67) dX7_readStatement_66 rfl (by decide) ?_
        refine XE_ls (x_sub_ok (ls' := [(0, some (.ref 0)), (1, some (.int v1)), (2, some (.int t2))]) ⟨rfl, rfl, rfl, trivial⟩) ?_
        exact hJ16 ((1 : Int32))
      · refine XE_iconst (v := 0) (n := 63) dX7_readStatement_62 rfl (by decide) ?_
        refine XE_goto (n := 67) dX7_readStatement_63 rfl ?_
        refine XE_ls (x_sub_ok (ls' := [(0, some (.ref 0)), (1, some (.int v1)), (2, some (.int t2))]) ⟨rfl, rfl, rfl, trivial⟩) ?_
        exact hJ16 ((0 : Int32))
  · refine XE_if_ne (t := 42) (n := 35) dX7_readStatement_32 rfl rfl (fun h12 => ?_) (fun h12 => ?_)
    · refine XE_iload_n (n := 36) dX7_readStatement_35 rfl rfl rfl ?_
      refine XE_callS (ni := 1) (As := [.int t2]) (π := []) (co := [0]) (cv := [w4]) (nn := 1) (hs2 := fun t10 => [w4]) (st2 := fun t10 => [.int t10, .ref 0]) (n := 39) xc_X7_161 (fun l t ht => met_X7_isLetter l t2 t ht) rfl rfl rfl dX7_readStatement_36 (Nat.le_of_ble_eq_true rfl) ⟨Nat.zero_le _, Nat.zero_le _⟩ (Nat.le_of_ble_eq_true rfl) (Nat.le_of_ble_eq_true rfl) ok_40 rfl rfl rfl (fun _ => rfl) (fun _ => rfl) (fun _ => rfl) rfl (fun _ => rfl) rfl (fun t10 => ?_)
      refine XE_if_ne (t := 46) (n := 42) dX7_readStatement_39 rfl rfl (fun h11 => ?_) (fun h11 => ?_)
      · refine XE_iconst (v := 1) (n := 43) dX7_readStatement_42 rfl (by decide) ?_
        refine XE_goto (n := 47) dX7_readStatement_43 rfl ?_
        refine XE_ls (x_sub_ok (ls' := [(0, some (.ref 0)), (1, some (.int v1)), (2, some (.int t2))]) ⟨rfl, rfl, rfl, trivial⟩) ?_
        exact hJ9 ((1 : Int32))
      · refine XE_iconst (v := 0) (n := 47) dX7_readStatement_46 rfl (by decide) ?_
        refine XE_ls (x_sub_ok (ls' := [(0, some (.ref 0)), (1, some (.int v1)), (2, some (.int t2))]) ⟨rfl, rfl, rfl, trivial⟩) ?_
        exact hJ9 ((0 : Int32))
    · refine XE_iconst (v := 1) (n := 43) dX7_readStatement_42 rfl (by decide) ?_
      refine XE_goto (n := 47) dX7_readStatement_43 rfl ?_
      refine XE_ls (x_sub_ok (ls' := [(0, some (.ref 0)), (1, some (.int v1)), (2, some (.int t2))]) ⟨rfl, rfl, rfl, trivial⟩) ?_
      exact hJ9 ((1 : Int32))
theorem met_X7_readStatement (l : Launch) (m0 : Mem) (t : Mem) (ht : f_X7_readStatement m0 = some t) : XMet l yX7_readStatement cX7_readStatement 3 none 3 0 0 [.ref 0] SH_M [m0] SH_M (none, [t]) := XMet.of (by decide +kernel) (fun _ => Nat.le_of_ble_eq_true rfl) (fun B => xe_X7_readStatement B m0) (by rw [ht]; rfl)
/-! X7_wedsCome: EveryTwentyMinutesModel.wedsCome(I)Z in world M at (0,) -/
abbrev M_X7_wedsCome : XM := (RX7, cX7_wedsCome, 4, (some .boolean), "wedsCome", 4, 0, 0)
def f_X7_wedsCome_L28 (a1 : Int32) (t5 : (Int32)) : Nat → Int32 → Mem → Option (Mem)
  | 0, _, _ => none
  | n + 1, v6, w7 =>
    if a1 ≤ v6 then
      some (w7)
    else
      if t5 = 0 then
        some (w7)
      else
        (f_X7_wedOne w7 0).bind fun t8 =>
        lt (v6 + 1) fun v9 =>
        (f_X7_wedsCome_L28 a1 t5 n) v9 t8
def f_X7_wedsCome (m0 : Mem) (a1 : Int32) : Option (Int32 × Mem) :=
  (f_X7_in ((a1 : Int32).toInt64) 1 7).bind fun t1 =>
  lt (if t1 = 0 then
      ((0 : Int32))
    else
      if (m0 0 9) < a1 then
        ((0 : Int32))
      else
        ((1 : Int32))) fun t5 =>
  (f_X7_wedsCome_L28 a1 t5 6000 (0 : Int32) m0).bind fun t12 =>
  ck (isb t5) <|
  some (t5, t12)
set_option maxRecDepth 100000 in
theorem f_X7_wedsCome_L28_x {α R : Type} (B : XB) {Q : R → State → Prop} {k : α → Option R} {r : (Mem) → Option α} (a1 : Int32) (t5 : (Int32)) (hE : ∀ t0 : (Mem), XE B M_X7_wedsCome Q 48 [(2, some (.int t5))] [] (0, 0) SH_M [t0] (fun t => (r t).bind k) (some t0)) : ∀ (n : Nat) (v6 : Int32) (w7 : Mem), XE B M_X7_wedsCome Q 28 [(0, some (.ref 0)), (1, some (.int a1)), (2, some (.int t5)), (3, some (.int v6))] [] (0, 0) SH_M [w7] (fun t => (r t).bind k) (f_X7_wedsCome_L28 a1 t5 n v6 w7) := by
  intro n
  induction n with
  | zero => intros; exact XE_none
  | succ n ih =>
    intro v6 w7
    rw [f_X7_wedsCome_L28]
    refine XE_iload_n (n := 29) dX7_wedsCome_28 rfl rfl rfl ?_
    refine XE_iload_n (n := 30) dX7_wedsCome_29 rfl rfl rfl ?_
    refine XE_icmp_ge (t := 48) (n := 33) dX7_wedsCome_30 rfl rfl (fun h11 => ?_) (fun h11 => ?_)
    · refine XE_ls (x_sub_ok (ls' := [(2, some (.int t5))]) ⟨rfl, trivial⟩) ?_
      exact hE (w7)
    · refine XE_iload_n (n := 34) dX7_wedsCome_33 rfl rfl rfl ?_
      refine XE_if_eq (t := 48) (n := 37) dX7_wedsCome_34 rfl rfl (fun h10 => ?_) (fun h10 => ?_)
      · refine XE_ls (x_sub_ok (ls' := [(2, some (.int t5))]) ⟨rfl, trivial⟩) ?_
        exact hE (w7)
      · refine XE_aload_n (n := 38) dX7_wedsCome_37 rfl rfl rfl ?_
        refine XE_iconst (v := 0) (n := 39) dX7_wedsCome_38 rfl (by decide) ?_
        refine XE_callVi (ni := 1) (As := [.int 0]) (st2 := fun t8 => []) (n := 42) (b := 0) xc_X7_117 (fun l t ht => met_X7_wedOne l w7 0 t ht) rfl rfl rfl rfl dX7_wedsCome_39 (Nat.le_of_ble_eq_true rfl) ⟨Nat.zero_le _, Nat.zero_le _⟩ (Nat.le_of_ble_eq_true rfl) (Nat.le_of_ble_eq_true rfl) (fun _ => rfl) rfl (fun t8 => ?_)
        refine XE_iincl (n := 45) dX7_wedsCome_42 rfl rfl (by decide) (Nat.le_of_ble_eq_true rfl) rfl (fun v9 => ?_)
        refine XE_goto (n := 28) dX7_wedsCome_45 rfl ?_
        refine XE_ls (x_sub_ok (ls' := [(0, some (.ref 0)), (1, some (.int a1)), (2, some (.int t5)), (3, some (.int v9))]) ⟨rfl, rfl, rfl, rfl, trivial⟩) ?_
        exact ih v9 t8
set_option maxRecDepth 100000 in
theorem xe_X7_wedsCome (B : XB) (m0 : Mem) (a1 : Int32) : XE B M_X7_wedsCome (XQm B 0 0 SH_M) 0 [(0, some (.ref 0)), (1, some (.int a1))] [] (0, 0) SH_M [m0] (fun t => some (some (.int t.1), [t.2])) (f_X7_wedsCome m0 a1) := by
  unfold f_X7_wedsCome
  refine XE_iload_n (n := 1) dX7_wedsCome_0 rfl rfl rfl ?_
  refine XE_i2l (n := 2) dX7_wedsCome_1 rfl ?_
  refine XE_lconst (v := 1) (n := 3) dX7_wedsCome_2 rfl (by decide) ?_
  refine XE_ldc2 (n := 6) dX7_wedsCome_3 rfl xk_X7_168 ?_
  refine XE_callS (ni := 3) (As := [.long ((a1 : Int32).toInt64), .long 1, .long 7]) (π := []) (co := [0]) (cv := [m0]) (nn := 1) (hs2 := fun t1 => [m0]) (st2 := fun t1 => [.int t1]) (n := 9) xc_X7_86 (fun l t ht => met_X7_in l ((a1 : Int32).toInt64) 1 7 t ht) rfl rfl rfl dX7_wedsCome_6 (Nat.le_of_ble_eq_true rfl) ⟨Nat.zero_le _, Nat.zero_le _⟩ (Nat.le_of_ble_eq_true rfl) (Nat.le_of_ble_eq_true rfl) ok_40 rfl rfl rfl (fun _ => rfl) (fun _ => rfl) (fun _ => rfl) rfl (fun _ => rfl) rfl (fun t1 => ?_)
  refine XE_regv (J := 25) (lsJ := fun t5 => [(0, some (.ref 0)), (1, some (.int a1))]) (stJ := fun t5 => [.int t5]) (hsJ := fun t5 => [m0]) (fun t5 => ?_) (fun hJ2 => ?_)
  · refine XE_istore_n (i := 2) (n := 26) dX7_wedsCome_25 rfl rfl (Nat.le_of_ble_eq_true rfl) rfl ?_
    refine XE_iconst (v := 0) (n := 27) dX7_wedsCome_26 rfl (by decide) ?_
    refine XE_istore_n (i := 3) (n := 28) dX7_wedsCome_27 rfl rfl (Nat.le_of_ble_eq_true rfl) rfl ?_
    refine XE_ls (x_sub_ok (ls' := [(0, some (.ref 0)), (1, some (.int a1)), (2, some (.int t5)), (3, some (.int 0))]) ⟨rfl, rfl, rfl, rfl, trivial⟩) ?_
    refine XE_reg (J := 48) (lsJ := fun t12 => [(2, some (.int t5))]) (stJ := fun t12 => []) (hsJ := fun t12 => [t12]) (fun t12 => ?_) (fun hJ14 => f_X7_wedsCome_L28_x B a1 t5 hJ14 6000 (0 : Int32) m0)
    refine XE_iload_n (n := 49) dX7_wedsCome_48 rfl rfl rfl ?_
    refine XE_ck (fun h13 => ?_)
    exact XE_zreturn h13 rfl dX7_wedsCome_49 rfl (Nat.le_refl _) (Nat.le_refl _)
  · refine XE_ltif ?_
    refine XE_if_eq (t := 24) (n := 12) dX7_wedsCome_9 rfl rfl (fun h4 => ?_) (fun h4 => ?_)
    · refine XE_iconst (v := 0) (n := 25) dX7_wedsCome_24 rfl (by decide) ?_
      refine XE_ls (x_sub_ok (ls' := [(0, some (.ref 0)), (1, some (.int a1))]) ⟨rfl, rfl, trivial⟩) ?_
      exact hJ2 ((0 : Int32))
    · refine XE_iload_n (n := 13) dX7_wedsCome_12 rfl rfl rfl ?_
      refine XE_aload_n (n := 14) dX7_wedsCome_13 rfl rfl rfl ?_
      refine XE_getf (v := m0 0 9) (n := 17) xf_X7_100 rfl rfl rfl dX7_wedsCome_14 rfl ?_
      refine XE_ltif ?_
      refine XE_icmp_gt (t := 24) (n := 20) dX7_wedsCome_17 rfl rfl (fun h3 => ?_) (fun h3 => ?_)
      · refine XE_iconst (v := 0) (n := 25) dX7_wedsCome_24 rfl (by decide) ?_
        refine XE_ls (x_sub_ok (ls' := [(0, some (.ref 0)), (1, some (.int a1))]) ⟨rfl, rfl, trivial⟩) ?_
        exact hJ2 ((0 : Int32))
      · refine XE_iconst (v := 1) (n := 21) dX7_wedsCome_20 rfl (by decide) ?_
        refine XE_goto (n := 25) dX7_wedsCome_21 rfl ?_
        refine XE_ls (x_sub_ok (ls' := [(0, some (.ref 0)), (1, some (.int a1))]) ⟨rfl, rfl, trivial⟩) ?_
        exact hJ2 ((1 : Int32))
theorem met_X7_wedsCome (l : Launch) (m0 : Mem) (a1 : Int32) (t : Int32 × Mem) (ht : f_X7_wedsCome m0 a1 = some t) : XMet l yX7_wedsCome cX7_wedsCome 4 (some .boolean) 4 0 0 [.ref 0, .int a1] SH_M [m0] SH_M (some (.int t.1), [t.2]) := XMet.of (by decide +kernel) (fun _ => Nat.le_of_ble_eq_true rfl) (fun B => xe_X7_wedsCome B m0 a1) (by rw [ht]; rfl)
