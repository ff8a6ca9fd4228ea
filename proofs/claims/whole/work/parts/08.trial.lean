/-! TRIAL -/
def SH_0 : XSs := []
/-! X3_lasts: EveryTwentyMinutes$Kinds.lasts(II)I in world 0 at () -/
abbrev M_X3_lasts : XM := (RX3, cX3_lasts, 5, (some .int), "lasts", 1, 0, 0)
def f_X3_lasts (a0 : Int32) (a1 : Int32) : Option (Int32) :=
  lt (15 + a1) fun v1 =>
  lt (10 + (a1 / 2)) fun v2 =>
  lt (v1 + 8) fun v3 =>
  if a0 = 1 then
    some v2
  else
    if a0 = 2 then
      some v3
    else
      if a0 = 3 then
        some v1
      else
        if a0 = 4 then
          some (v2 - 2)
        else
          if a0 = 5 then
            some (v3 + 5)
          else
            some v1
set_option maxRecDepth 100000 in
theorem xe_X3_lasts (B : XB) (a0 : Int32) (a1 : Int32) : XE B M_X3_lasts (XQm B 0 0 SH_0) 0 [(0, some (.int a0)), (1, some (.int a1))] [] (0, 0) SH_0 [] (fun t => some (some (.int t), [])) (f_X3_lasts a0 a1) := by
  unfold f_X3_lasts
  refine XE_bipush (v := 15) (n := 2) dX3_lasts_0 rfl (by decide) ?_
  refine XE_iload_n (n := 3) dX3_lasts_2 rfl rfl rfl ?_
  refine XE_iadd (n := 4) dX3_lasts_3 rfl ?_
  refine XE_topi (fun v1 => ?_)
  refine XE_istore_n (i := 2) (n := 5) dX3_lasts_4 rfl rfl (Nat.le_of_ble_eq_true rfl) rfl ?_
  refine XE_bipush (v := 10) (n := 7) dX3_lasts_5 rfl (by decide) ?_
  refine XE_iload_n (n := 8) dX3_lasts_7 rfl rfl rfl ?_
  refine XE_iconst (v := 2) (n := 9) dX3_lasts_8 rfl (by decide) ?_
  refine XE_idiv (n := 10) dX3_lasts_9 rfl (by decide) ?_
  refine XE_iadd (n := 11) dX3_lasts_10 rfl ?_
  refine XE_topi (fun v2 => ?_)
  refine XE_istore_n (i := 3) (n := 12) dX3_lasts_11 rfl rfl (Nat.le_of_ble_eq_true rfl) rfl ?_
  refine XE_iload_n (n := 13) dX3_lasts_12 rfl rfl rfl ?_
  refine XE_bipush (v := 8) (n := 15) dX3_lasts_13 rfl (by decide) ?_
  refine XE_iadd (n := 16) dX3_lasts_15 rfl ?_
  refine XE_topi (fun v3 => ?_)
  refine XE_istore (i := 4) (n := 18) dX3_lasts_16 rfl (Nat.le_of_ble_eq_true rfl) rfl ?_
  refine XE_iload_n (n := 19) dX3_lasts_18 rfl rfl rfl ?_
  refine XE_tsw (c := 1) (t := 52) dX3_lasts_19 (by decide) (by decide) rfl rfl ?_ (fun h4 => ?_)
  · refine XE_iload_n (n := 53) dX3_lasts_52 rfl rfl rfl ?_
    exact XE_ireturn rfl dX3_lasts_53 rfl (Nat.le_refl _) (Nat.le_refl _)
  refine XE_tsw (c := 2) (t := 54) dX3_lasts_19 (by decide) (by decide) rfl rfl ?_ (fun h5 => ?_)
  · refine XE_iload (n := 56) dX3_lasts_54 rfl rfl ?_
    exact XE_ireturn rfl dX3_lasts_56 rfl (Nat.le_refl _) (Nat.le_refl _)
  refine XE_tsw (c := 3) (t := 66) dX3_lasts_19 (by decide) (by decide) rfl rfl ?_ (fun h6 => ?_)
  · refine XE_iload_n (n := 67) dX3_lasts_66 rfl rfl rfl ?_
    exact XE_ireturn rfl dX3_lasts_67 rfl (Nat.le_refl _) (Nat.le_refl _)
  refine XE_tsw (c := 4) (t := 57) dX3_lasts_19 (by decide) (by decide) rfl rfl ?_ (fun h7 => ?_)
  · refine XE_iload_n (n := 58) dX3_lasts_57 rfl rfl rfl ?_
    refine XE_iconst (v := 2) (n := 59) dX3_lasts_58 rfl (by decide) ?_
    refine XE_isub (n := 60) dX3_lasts_59 rfl ?_
    exact XE_ireturn rfl dX3_lasts_60 rfl (Nat.le_refl _) (Nat.le_refl _)
  refine XE_tsw (c := 5) (t := 61) dX3_lasts_19 (by decide) (by decide) rfl rfl ?_ (fun h8 => ?_)
  · refine XE_iload (n := 63) dX3_lasts_61 rfl rfl ?_
    refine XE_iconst (v := 5) (n := 64) dX3_lasts_63 rfl (by decide) ?_
    refine XE_iadd (n := 65) dX3_lasts_64 rfl ?_
    exact XE_ireturn rfl dX3_lasts_65 rfl (Nat.le_refl _) (Nat.le_refl _)
  refine XE_tswd (t := 66) dX3_lasts_19 (by have q0 := x_ne h4 (z := 1) (by decide); have q1 := x_ne h5 (z := 2) (by decide); have q2 := x_ne h6 (z := 3) (by decide); have q3 := x_ne h7 (z := 4) (by decide); have q4 := x_ne h8 (z := 5) (by decide); omega) rfl ?_
  refine XE_iload_n (n := 67) dX3_lasts_66 rfl rfl rfl ?_
  exact XE_ireturn rfl dX3_lasts_67 rfl (Nat.le_refl _) (Nat.le_refl _)
theorem met_X3_lasts (l : Launch) (a0 : Int32) (a1 : Int32) (t : Int32) (ht : f_X3_lasts a0 a1 = some t) : XMet l yX3_lasts cX3_lasts 5 (some .int) 1 0 0 [.int a0, .int a1] SH_0 [] SH_0 (some (.int t), []) := XMet.of (by decide +kernel) (fun _ => Nat.le_of_ble_eq_true rfl) (fun B => xe_X3_lasts B a0 a1) (by rw [ht]; rfl)
/-! X3_poses: EveryTwentyMinutes$Kinds.poses(II)I in world 0 at () -/
abbrev M_X3_poses : XM := (RX3, cX3_poses, 2, (some .int), "poses", 1, 0, 0)
def f_X3_poses (a0 : Int32) (a1 : Int32) : Option (Int32) :=
  if a0 = 2 then
    some (3 + a1)
  else
    if a0 = 5 then
      some (3 + a1)
    else
      some (3 : Int32)
set_option maxRecDepth 100000 in
theorem xe_X3_poses (B : XB) (a0 : Int32) (a1 : Int32) : XE B M_X3_poses (XQm B 0 0 SH_0) 0 [(0, some (.int a0)), (1, some (.int a1))] [] (0, 0) SH_0 [] (fun t => some (some (.int t), [])) (f_X3_poses a0 a1) := by
  unfold f_X3_poses
  refine XE_iload_n (n := 1) dX3_poses_0 rfl rfl rfl ?_
  refine XE_iconst (v := 2) (n := 2) dX3_poses_1 rfl (by decide) ?_
  refine XE_icmp_eq (t := 10) (n := 5) dX3_poses_2 rfl rfl (fun h2 => ?_) (fun h2 => ?_)
  · refine XE_iconst (v := 3) (n := 11) dX3_poses_10 rfl (by decide) ?_
    refine XE_iload_n (n := 12) dX3_poses_11 rfl rfl rfl ?_
    refine XE_iadd (n := 13) dX3_poses_12 rfl ?_
    refine XE_goto (n := 17) dX3_poses_13 rfl ?_
    exact XE_ireturn rfl dX3_poses_17 rfl (Nat.le_refl _) (Nat.le_refl _)
  · refine XE_iload_n (n := 6) dX3_poses_5 rfl rfl rfl ?_
    refine XE_iconst (v := 5) (n := 7) dX3_poses_6 rfl (by decide) ?_
    refine XE_icmp_ne (t := 16) (n := 10) dX3_poses_7 rfl rfl (fun h1 => ?_) (fun h1 => ?_)
    · refine XE_iconst (v := 3) (n := 11) dX3_poses_10 rfl (by decide) ?_
      refine XE_iload_n (n := 12) dX3_poses_11 rfl rfl rfl ?_
      refine XE_iadd (n := 13) dX3_poses_12 rfl ?_
      refine XE_goto (n := 17) dX3_poses_13 rfl ?_
      exact XE_ireturn rfl dX3_poses_17 rfl (Nat.le_refl _) (Nat.le_refl _)
    · refine XE_iconst (v := 3) (n := 17) dX3_poses_16 rfl (by decide) ?_
      exact XE_ireturn rfl dX3_poses_17 rfl (Nat.le_refl _) (Nat.le_refl _)
theorem met_X3_poses (l : Launch) (a0 : Int32) (a1 : Int32) (t : Int32) (ht : f_X3_poses a0 a1 = some t) : XMet l yX3_poses cX3_poses 2 (some .int) 1 0 0 [.int a0, .int a1] SH_0 [] SH_0 (some (.int t), []) := XMet.of (by decide +kernel) (fun _ => Nat.le_of_ble_eq_true rfl) (fun B => xe_X3_poses B a0 a1) (by rw [ht]; rfl)
def SH_H : XSs := [(0, .inr (.inr (2, [0, 4, 5, 6, 0, 7, 8, 9, 0, 10, 0, 11, 0, 0]))), (1, .inl 7), (2, .inl 7), (3, .inl 7), (4, .inl 7), (5, .inl 7), (6, .inl 7), (7, .inl 7), (8, .inl 2)]
/-! X2_has: EveryTwentyMinutes$Hall.has(I)Z in world H at (0,) -/
abbrev M_X2_has : XM := (RX2, cX2_has, 2, (some .boolean), "has", 1, 0, 0)
def f_X2_has (m0 : Mem) (a1 : Int32) : Option (Int32) :=
  if a1 < 0 then
    some (0 : Int32)
  else
    if (m0 0 0) ≤ a1 then
      some (0 : Int32)
    else
      some (1 : Int32)
set_option maxRecDepth 100000 in
theorem xe_X2_has (B : XB) (m0 : Mem) (a1 : Int32) : XE B M_X2_has (XQm B 0 0 SH_H) 0 [(0, some (.ref 0)), (1, some (.int a1))] [] (0, 0) SH_H [m0] (fun t => some (some (.int t), [m0])) (f_X2_has m0 a1) := by
  unfold f_X2_has
  refine XE_iload_n (n := 1) dX2_has_0 rfl rfl rfl ?_
  refine XE_if_lt (t := 16) (n := 4) dX2_has_1 rfl rfl (fun h2 => ?_) (fun h2 => ?_)
  · refine XE_iconst (v := 0) (n := 17) dX2_has_16 rfl (by decide) ?_
    exact XE_zreturn rfl rfl dX2_has_17 rfl (Nat.le_refl _) (Nat.le_refl _)
  · refine XE_iload_n (n := 5) dX2_has_4 rfl rfl rfl ?_
    refine XE_aload_n (n := 6) dX2_has_5 rfl rfl rfl ?_
    refine XE_getf (v := m0 0 0) (n := 9) xf_X2_9 rfl rfl rfl dX2_has_6 rfl ?_
    refine XE_icmp_ge (t := 16) (n := 12) dX2_has_9 rfl rfl (fun h1 => ?_) (fun h1 => ?_)
    · refine XE_iconst (v := 0) (n := 17) dX2_has_16 rfl (by decide) ?_
      exact XE_zreturn rfl rfl dX2_has_17 rfl (Nat.le_refl _) (Nat.le_refl _)
    · refine XE_iconst (v := 1) (n := 13) dX2_has_12 rfl (by decide) ?_
      refine XE_goto (n := 17) dX2_has_13 rfl ?_
      exact XE_zreturn rfl rfl dX2_has_17 rfl (Nat.le_refl _) (Nat.le_refl _)
theorem met_X2_has (l : Launch) (m0 : Mem) (a1 : Int32) (t : Int32) (ht : f_X2_has m0 a1 = some t) : XMet l yX2_has cX2_has 2 (some .boolean) 1 0 0 [.ref 0, .int a1] SH_H [m0] SH_H (some (.int t), [m0]) := XMet.of (by decide +kernel) (fun _ => Nat.le_of_ble_eq_true rfl) (fun B => xe_X2_has B m0 a1) (by rw [ht]; rfl)
/-! X2_isWed: EveryTwentyMinutes$Hall.isWed(I)Z in world H at (0,) -/
abbrev M_X2_isWed : XM := (RX2, cX2_isWed, 2, (some .boolean), "isWed", 1, 0, 0)
def f_X2_isWed (m0 : Mem) (a1 : Int32) : Option (Int32) :=
  if (((m0 0 4) >>> (a1 &&& 31)) &&& 1) = 1 then
    some (1 : Int32)
  else
    some (0 : Int32)
set_option maxRecDepth 100000 in
theorem xe_X2_isWed (B : XB) (m0 : Mem) (a1 : Int32) : XE B M_X2_isWed (XQm B 0 0 SH_H) 0 [(0, some (.ref 0)), (1, some (.int a1))] [] (0, 0) SH_H [m0] (fun t => some (some (.int t), [m0])) (f_X2_isWed m0 a1) := by
  unfold f_X2_isWed
  refine XE_aload_n (n := 1) dX2_isWed_0 rfl rfl rfl ?_
  refine XE_getf (v := m0 0 4) (n := 4) xf_X2_25 rfl rfl rfl dX2_isWed_1 rfl ?_
  refine XE_iload_n (n := 5) dX2_isWed_4 rfl rfl rfl ?_
  refine XE_ishr (n := 6) dX2_isWed_5 rfl ?_
  refine XE_iconst (v := 1) (n := 7) dX2_isWed_6 rfl (by decide) ?_
  refine XE_iand (n := 8) dX2_isWed_7 rfl ?_
  refine XE_iconst (v := 1) (n := 9) dX2_isWed_8 rfl (by decide) ?_
  refine XE_icmp_ne (t := 16) (n := 12) dX2_isWed_9 rfl rfl (fun h1 => ?_) (fun h1 => ?_)
  · refine XE_iconst (v := 1) (n := 13) dX2_isWed_12 rfl (by decide) ?_
    refine XE_goto (n := 17) dX2_isWed_13 rfl ?_
    exact XE_zreturn rfl rfl dX2_isWed_17 rfl (Nat.le_refl _) (Nat.le_refl _)
  · refine XE_iconst (v := 0) (n := 17) dX2_isWed_16 rfl (by decide) ?_
    exact XE_zreturn rfl rfl dX2_isWed_17 rfl (Nat.le_refl _) (Nat.le_refl _)
theorem met_X2_isWed (l : Launch) (m0 : Mem) (a1 : Int32) (t : Int32) (ht : f_X2_isWed m0 a1 = some t) : XMet l yX2_isWed cX2_isWed 2 (some .boolean) 1 0 0 [.ref 0, .int a1] SH_H [m0] SH_H (some (.int t), [m0]) := XMet.of (by decide +kernel) (fun _ => Nat.le_of_ble_eq_true rfl) (fun B => xe_X2_isWed B m0 a1) (by rw [ht]; rfl)
/-! X2_lateOf: EveryTwentyMinutes$Hall.lateOf(I)I in world H at (0,) -/
abbrev M_X2_lateOf : XM := (RX2, cX2_lateOf, 2, (some .int), "lateOf", 1, 0, 0)
def f_X2_lateOf (m0 : Mem) (a1 : Int32) : Option (Int32) :=
  ck (inb a1 7) <|
  ck (inb a1 7) <|
  some (imax ((m0 4 (ix a1)) - (m0 3 (ix a1))) 0)
set_option maxRecDepth 100000 in
theorem xe_X2_lateOf (B : XB) (m0 : Mem) (a1 : Int32) : XE B M_X2_lateOf (XQm B 0 0 SH_H) 0 [(0, some (.ref 0)), (1, some (.int a1))] [] (0, 0) SH_H [m0] (fun t => some (some (.int t), [m0])) (f_X2_lateOf m0 a1) := by
  unfold f_X2_lateOf
  refine XE_aload_n (n := 1) dX2_lateOf_0 rfl rfl rfl ?_
  refine XE_getr (b := 4) (n := 4) xf_X2_28 rfl rfl dX2_lateOf_1 rfl ?_
  refine XE_iload_n (n := 5) dX2_lateOf_4 rfl rfl rfl ?_
  refine XE_iald (row := m0 4) (n := 6) rfl rfl dX2_lateOf_5 rfl ?_
  refine XE_aload_n (n := 7) dX2_lateOf_6 rfl rfl rfl ?_
  refine XE_getr (b := 3) (n := 10) xf_X2_22 rfl rfl dX2_lateOf_7 rfl ?_
  refine XE_iload_n (n := 11) dX2_lateOf_10 rfl rfl rfl ?_
  refine XE_iald (row := m0 3) (n := 12) rfl rfl dX2_lateOf_11 rfl ?_
  refine XE_isub (n := 13) dX2_lateOf_12 rfl ?_
  refine XE_iconst (v := 0) (n := 14) dX2_lateOf_13 rfl (by decide) ?_
  refine XE_mmax (n := 17) xp_X2_101 rfl (Nat.le_of_ble_eq_true rfl) (Nat.le_of_ble_eq_true rfl) dX2_lateOf_14 rfl ?_
  exact XE_ireturn rfl dX2_lateOf_17 rfl (Nat.le_refl _) (Nat.le_refl _)
theorem met_X2_lateOf (l : Launch) (m0 : Mem) (a1 : Int32) (t : Int32) (ht : f_X2_lateOf m0 a1 = some t) : XMet l yX2_lateOf cX2_lateOf 2 (some .int) 1 0 0 [.ref 0, .int a1] SH_H [m0] SH_H (some (.int t), [m0]) := XMet.of (by decide +kernel) (fun _ => Nat.le_of_ble_eq_true rfl) (fun B => xe_X2_lateOf B m0 a1) (by rw [ht]; rfl)
set_option maxRecDepth 100000 in
theorem ok_0 : x_okc [0] SH_H SH_H = true := by decide +kernel
/-! X2_allLate: EveryTwentyMinutes$Hall.allLate()I in world H at (0,) -/
abbrev M_X2_allLate : XM := (RX2, cX2_allLate, 3, (some .int), "allLate", 2, 0, 0)
def f_X2_allLate_L4 (m0 : Mem) : Nat → Int32 → Int32 → Option (Int32)
  | 0, _, _ => none
  | n + 1, v1, v2 =>
    if (m0 0 0) ≤ v2 then
      some (v1)
    else
      (f_X2_lateOf m0 v2).bind fun t3 =>
      lt (v1 + t3) fun v4 =>
      lt (v2 + 1) fun v5 =>
      (f_X2_allLate_L4 m0 n) v4 v5
def f_X2_allLate (m0 : Mem) : Option (Int32) :=
  (f_X2_allLate_L4 m0 6000 (0 : Int32) (0 : Int32)).bind fun t7 =>
  some t7
set_option maxRecDepth 100000 in
theorem f_X2_allLate_L4_x {α R : Type} (B : XB) {Q : R → State → Prop} {k : α → Option R} {r : (Int32) → Option α} (m0 : Mem) (hE : ∀ t0 : (Int32), XE B M_X2_allLate Q 26 [(1, some (.int t0))] [] (0, 0) SH_H [m0] (fun t => (r t).bind k) (some t0)) : ∀ (n : Nat) (v1 : Int32) (v2 : Int32), XE B M_X2_allLate Q 4 [(0, some (.ref 0)), (1, some (.int v1)), (2, some (.int v2))] [] (0, 0) SH_H [m0] (fun t => (r t).bind k) (f_X2_allLate_L4 m0 n v1 v2) := by
  intro n
  induction n with
  | zero => intros; exact XE_none
  | succ n ih =>
    intro v1 v2
    rw [f_X2_allLate_L4]
    refine XE_iload_n (n := 5) dX2_allLate_4 rfl rfl rfl ?_
    refine XE_aload_n (n := 6) dX2_allLate_5 rfl rfl rfl ?_
    refine XE_getf (v := m0 0 0) (n := 9) xf_X2_9 rfl rfl rfl dX2_allLate_6 rfl ?_
    refine XE_icmp_ge (t := 26) (n := 12) dX2_allLate_9 rfl rfl (fun h6 => ?_) (fun h6 => ?_)
    · refine XE_ls (x_sub_ok (ls' := [(1, some (.int v1))]) ⟨rfl, trivial⟩) ?_
      exact hE (v1)
    · refine XE_iload_n (n := 13) dX2_allLate_12 rfl rfl rfl ?_
      refine XE_aload_n (n := 14) dX2_allLate_13 rfl rfl rfl ?_
      refine XE_iload_n (n := 15) dX2_allLate_14 rfl rfl rfl ?_
      refine XE_callV (ni := 1) (As := [.int v2]) (π := [0]) (hs2 := fun t3 => [m0]) (st2 := fun t3 => [.int t3, .int v1]) (n := 18) (b := 0) xc_X2_107 (fun l t ht => met_X2_lateOf l m0 v2 t ht) rfl rfl rfl rfl rfl dX2_allLate_15 (Nat.le_of_ble_eq_true rfl) ⟨Nat.zero_le _, Nat.zero_le _⟩ (Nat.le_of_ble_eq_true rfl) (Nat.le_of_ble_eq_true rfl) ok_0 rfl (fun _ => rfl) (x_pl rfl) (fun _ => rfl) (fun _ => rfl) rfl (fun t3 => ?_)
      refine XE_iadd (n := 19) dX2_allLate_18 rfl ?_
      refine XE_topi (fun v4 => ?_)
      refine XE_istore_n (i := 1) (n := 20) dX2_allLate_19 rfl rfl (Nat.le_of_ble_eq_true rfl) rfl ?_
      refine XE_iincl (n := 23) dX2_allLate_20 rfl rfl (by decide) (Nat.le_of_ble_eq_true rfl) rfl (fun v5 => ?_)
      refine XE_goto (n := 4) dX2_allLate_23 rfl ?_
      refine XE_ls (x_sub_ok (ls' := [(0, some (.ref 0)), (1, some (.int v4)), (2, some (.int v5))]) ⟨rfl, rfl, rfl, trivial⟩) ?_
      exact ih v4 v5
set_option maxRecDepth 100000 in
theorem xe_X2_allLate (B : XB) (m0 : Mem) : XE B M_X2_allLate (XQm B 0 0 SH_H) 0 [(0, some (.ref 0))] [] (0, 0) SH_H [m0] (fun t => some (some (.int t), [m0])) (f_X2_allLate m0) := by
  unfold f_X2_allLate
  refine XE_iconst (v := 0) (n := 1) dX2_allLate_0 rfl (by decide) ?_
  refine XE_istore_n (i := 1) (n := 2) dX2_allLate_1 rfl rfl (Nat.le_of_ble_eq_true rfl) rfl ?_
  refine XE_iconst (v := 0) (n := 3) dX2_allLate_2 rfl (by decide) ?_
  refine XE_istore_n (i := 2) (n := 4) dX2_allLate_3 rfl rfl (Nat.le_of_ble_eq_true rfl) rfl ?_
  refine XE_ls (x_sub_ok (ls' := [(0, some (.ref 0)), (1, some (.int 0)), (2, some (.int 0))]) ⟨rfl, rfl, rfl, trivial⟩) ?_
  refine XE_reg (J := 26) (lsJ := fun t7 => [(1, some (.int t7))]) (stJ := fun t7 => []) (hsJ := fun t7 => [m0]) (fun t7 => ?_) (fun hJ8 => f_X2_allLate_L4_x B m0 hJ8 6000 (0 : Int32) (0 : Int32))
  refine XE_iload_n (n := 27) dX2_allLate_26 rfl rfl rfl ?_
  exact XE_ireturn rfl dX2_allLate_27 rfl (Nat.le_refl _) (Nat.le_refl _)
theorem met_X2_allLate (l : Launch) (m0 : Mem) (t : Int32) (ht : f_X2_allLate m0 = some t) : XMet l yX2_allLate cX2_allLate 3 (some .int) 2 0 0 [.ref 0] SH_H [m0] SH_H (some (.int t), [m0]) := XMet.of (by decide +kernel) (fun _ => Nat.le_of_ble_eq_true rfl) (fun B => xe_X2_allLate B m0) (by rw [ht]; rfl)
/-! X3_ready: EveryTwentyMinutes$Kinds.ready(III)I in world 0 at () -/
abbrev M_X3_ready : XM := (RX3, cX3_ready, 3, (some .int), "ready", 1, 0, 0)
def f_X3_ready (a0 : Int32) (a1 : Int32) (a2 : Int32) : Option (Int32) :=
  if a0 = 1 then
    some (imax (a2 - 5) 0)
  else
    if a0 = 2 then
      some (a2 + (a1 / 2))
    else
      if a0 = 3 then
        some ((a2 + a1) + 7)
      else
        if a0 = 4 then
          some (imax (a2 - 20) 0)
        else
          if a0 = 5 then
            some (a2 + (a1 / 2))
          else
            some a2
set_option maxRecDepth 100000 in
theorem xe_X3_ready (B : XB) (a0 : Int32) (a1 : Int32) (a2 : Int32) : XE B M_X3_ready (XQm B 0 0 SH_0) 0 [(0, some (.int a0)), (1, some (.int a1)), (2, some (.int a2))] [] (0, 0) SH_0 [] (fun t => some (some (.int t), [])) (f_X3_ready a0 a1 a2) := by
  unfold f_X3_ready
  refine XE_iload_n (n := 1) dX3_ready_0 rfl rfl rfl ?_
  refine XE_tsw (c := 1) (t := 36) dX3_ready_1 (by decide) (by decide) rfl rfl ?_ (fun h1 => ?_)
  · refine XE_iload_n (n := 37) dX3_ready_36 rfl rfl rfl ?_
    refine XE_iconst (v := 5) (n := 38) dX3_ready_37 rfl (by decide) ?_
    refine XE_isub (n := 39) dX3_ready_38 rfl ?_
    refine XE_iconst (v := 0) (n := 40) dX3_ready_39 rfl (by decide) ?_
    refine XE_mmax (n := 43) xp_X3_9 rfl (Nat.le_of_ble_eq_true rfl) (Nat.le_of_ble_eq_true rfl) dX3_ready_40 rfl ?_
    exact XE_ireturn rfl dX3_ready_43 rfl (Nat.le_refl _) (Nat.le_refl _)
  refine XE_tsw (c := 2) (t := 44) dX3_ready_1 (by decide) (by decide) rfl rfl ?_ (fun h2 => ?_)
  · refine XE_iload_n (n := 45) dX3_ready_44 rfl rfl rfl ?_
    refine XE_iload_n (n := 46) dX3_ready_45 rfl rfl rfl ?_
    refine XE_iconst (v := 2) (n := 47) dX3_ready_46 rfl (by decide) ?_
    refine XE_idiv (n := 48) dX3_ready_47 rfl (by decide) ?_
    refine XE_iadd (n := 49) dX3_ready_48 rfl ?_
    exact XE_ireturn rfl dX3_ready_49 rfl (Nat.le_refl _) (Nat.le_refl _)
  refine XE_tsw (c := 3) (t := 50) dX3_ready_1 (by decide) (by decide) rfl rfl ?_ (fun h3 => ?_)
  · refine XE_iload_n (n := 51) dX3_ready_50 rfl rfl rfl ?_
    refine XE_iload_n (n := 52) dX3_ready_51 rfl rfl rfl ?_
    refine XE_iadd (n := 53) dX3_ready_52 rfl ?_
    refine XE_bipush (v := 7) (n := 55) dX3_ready_53 rfl (by decide) ?_
    refine XE_iadd (n := 56) dX3_ready_55 rfl ?_
    exact XE_ireturn rfl dX3_ready_56 rfl (Nat.le_refl _) (Nat.le_refl _)
  refine XE_tsw (c := 4) (t := 57) dX3_ready_1 (by decide) (by decide) rfl rfl ?_ (fun h4 => ?_)
  · refine XE_iload_n (n := 58) dX3_ready_57 rfl rfl rfl ?_
    refine XE_bipush (v := 20) (n := 60) dX3_ready_58 rfl (by decide) ?_
    refine XE_isub (n := 61) dX3_ready_60 rfl ?_
    refine XE_iconst (v := 0) (n := 62) dX3_ready_61 rfl (by decide) ?_
    refine XE_mmax (n := 65) xp_X3_9 rfl (Nat.le_of_ble_eq_true rfl) (Nat.le_of_ble_eq_true rfl) dX3_ready_62 rfl ?_
    exact XE_ireturn rfl dX3_ready_65 rfl (Nat.le_refl _) (Nat.le_refl _)
  refine XE_tsw (c := 5) (t := 44) dX3_ready_1 (by decide) (by decide) rfl rfl ?_ (fun h5 => ?_)
  · refine XE_iload_n (n := 45) dX3_ready_44 rfl rfl rfl ?_
    refine XE_iload_n (n := 46) dX3_ready_45 rfl rfl rfl ?_
    refine XE_iconst (v := 2) (n := 47) dX3_ready_46 rfl (by decide) ?_
    refine XE_idiv (n := 48) dX3_ready_47 rfl (by decide) ?_
    refine XE_iadd (n := 49) dX3_ready_48 rfl ?_
    exact XE_ireturn rfl dX3_ready_49 rfl (Nat.le_refl _) (Nat.le_refl _)
  refine XE_tswd (t := 66) dX3_ready_1 (by have q0 := x_ne h1 (z := 1) (by decide); have q1 := x_ne h2 (z := 2) (by decide); have q2 := x_ne h3 (z := 3) (by decide); have q3 := x_ne h4 (z := 4) (by decide); have q4 := x_ne h5 (z := 5) (by decide); omega) rfl ?_
  refine XE_iload_n (n := 67) dX3_ready_66 rfl rfl rfl ?_
  exact XE_ireturn rfl dX3_ready_67 rfl (Nat.le_refl _) (Nat.le_refl _)
theorem met_X3_ready (l : Launch) (a0 : Int32) (a1 : Int32) (a2 : Int32) (t : Int32) (ht : f_X3_ready a0 a1 a2 = some t) : XMet l yX3_ready cX3_ready 3 (some .int) 1 0 0 [.int a0, .int a1, .int a2] SH_0 [] SH_0 (some (.int t), []) := XMet.of (by decide +kernel) (fun _ => Nat.le_of_ble_eq_true rfl) (fun B => xe_X3_ready B a0 a1 a2) (by rw [ht]; rfl)
set_option maxRecDepth 100000 in
theorem ok_1 : x_okc [] SH_0 SH_H = true := by decide +kernel
/-! X2_readyOf: EveryTwentyMinutes$Hall.readyOf(I)I in world H at (0,) -/
abbrev M_X2_readyOf : XM := (RX2, cX2_readyOf, 2, (some .int), "readyOf", 2, 0, 0)
def f_X2_readyOf (m0 : Mem) (a1 : Int32) : Option (Int32) :=
  ck (inb a1 7) <|
  ck (inb a1 7) <|
  ck (inb a1 7) <|
  (f_X3_ready (m0 1 (ix a1)) (m0 2 (ix a1)) (m0 3 (ix a1))).bind fun t1 =>
  some t1
set_option maxRecDepth 100000 in
theorem xe_X2_readyOf (B : XB) (m0 : Mem) (a1 : Int32) : XE B M_X2_readyOf (XQm B 0 0 SH_H) 0 [(0, some (.ref 0)), (1, some (.int a1))] [] (0, 0) SH_H [m0] (fun t => some (some (.int t), [m0])) (f_X2_readyOf m0 a1) := by
  unfold f_X2_readyOf
  refine XE_aload_n (n := 1) dX2_readyOf_0 rfl rfl rfl ?_
  refine XE_getr (b := 1) (n := 4) xf_X2_15 rfl rfl dX2_readyOf_1 rfl ?_
  refine XE_iload_n (n := 5) dX2_readyOf_4 rfl rfl rfl ?_
  refine XE_iald (row := m0 1) (n := 6) rfl rfl dX2_readyOf_5 rfl ?_
  refine XE_aload_n (n := 7) dX2_readyOf_6 rfl rfl rfl ?_
  refine XE_getr (b := 2) (n := 10) xf_X2_19 rfl rfl dX2_readyOf_7 rfl ?_
  refine XE_iload_n (n := 11) dX2_readyOf_10 rfl rfl rfl ?_
  refine XE_iald (row := m0 2) (n := 12) rfl rfl dX2_readyOf_11 rfl ?_
  refine XE_aload_n (n := 13) dX2_readyOf_12 rfl rfl rfl ?_
  refine XE_getr (b := 3) (n := 16) xf_X2_22 rfl rfl dX2_readyOf_13 rfl ?_
  refine XE_iload_n (n := 17) dX2_readyOf_16 rfl rfl rfl ?_
  refine XE_iald (row := m0 3) (n := 18) rfl rfl dX2_readyOf_17 rfl ?_
  refine XE_callS (ni := 3) (As := [.int (m0 1 (ix a1)), .int (m0 2 (ix a1)), .int (m0 3 (ix a1))]) (π := []) (hs2 := fun t1 => [m0]) (st2 := fun t1 => [.int t1]) (n := 21) xc_X2_67 (fun l t ht => met_X3_ready l (m0 1 (ix a1)) (m0 2 (ix a1)) (m0 3 (ix a1)) t ht) rfl rfl rfl dX2_readyOf_18 (Nat.le_of_ble_eq_true rfl) ⟨Nat.zero_le _, Nat.zero_le _⟩ (Nat.le_of_ble_eq_true rfl) (Nat.le_of_ble_eq_true rfl) ok_1 rfl (fun _ => rfl) (x_pl rfl) (fun _ => rfl) (fun _ => rfl) rfl (fun t1 => ?_)
  exact XE_ireturn rfl dX2_readyOf_21 rfl (Nat.le_refl _) (Nat.le_refl _)
theorem met_X2_readyOf (l : Launch) (m0 : Mem) (a1 : Int32) (t : Int32) (ht : f_X2_readyOf m0 a1 = some t) : XMet l yX2_readyOf cX2_readyOf 2 (some .int) 2 0 0 [.ref 0, .int a1] SH_H [m0] SH_H (some (.int t), [m0]) := XMet.of (by decide +kernel) (fun _ => Nat.le_of_ble_eq_true rfl) (fun B => xe_X2_readyOf B m0 a1) (by rw [ht]; rfl)
/-! X2_lastsOf: EveryTwentyMinutes$Hall.lastsOf(I)I in world H at (0,) -/
abbrev M_X2_lastsOf : XM := (RX2, cX2_lastsOf, 2, (some .int), "lastsOf", 2, 0, 0)
def f_X2_lastsOf (m0 : Mem) (a1 : Int32) : Option (Int32) :=
  ck (inb a1 7) <|
  ck (inb a1 7) <|
  (f_X3_lasts (m0 1 (ix a1)) (m0 2 (ix a1))).bind fun t1 =>
  some t1
set_option maxRecDepth 100000 in
theorem xe_X2_lastsOf (B : XB) (m0 : Mem) (a1 : Int32) : XE B M_X2_lastsOf (XQm B 0 0 SH_H) 0 [(0, some (.ref 0)), (1, some (.int a1))] [] (0, 0) SH_H [m0] (fun t => some (some (.int t), [m0])) (f_X2_lastsOf m0 a1) := by
  unfold f_X2_lastsOf
  refine XE_aload_n (n := 1) dX2_lastsOf_0 rfl rfl rfl ?_
  refine XE_getr (b := 1) (n := 4) xf_X2_15 rfl rfl dX2_lastsOf_1 rfl ?_
  refine XE_iload_n (n := 5) dX2_lastsOf_4 rfl rfl rfl ?_
  refine XE_iald (row := m0 1) (n := 6) rfl rfl dX2_lastsOf_5 rfl ?_
  refine XE_aload_n (n := 7) dX2_lastsOf_6 rfl rfl rfl ?_
  refine XE_getr (b := 2) (n := 10) xf_X2_19 rfl rfl dX2_lastsOf_7 rfl ?_
  refine XE_iload_n (n := 11) dX2_lastsOf_10 rfl rfl rfl ?_
  refine XE_iald (row := m0 2) (n := 12) rfl rfl dX2_lastsOf_11 rfl ?_
  refine XE_callS (ni := 2) (As := [.int (m0 1 (ix a1)), .int (m0 2 (ix a1))]) (π := []) (hs2 := fun t1 => [m0]) (st2 := fun t1 => [.int t1]) (n := 15) xc_X2_61 (fun l t ht => met_X3_lasts l (m0 1 (ix a1)) (m0 2 (ix a1)) t ht) rfl rfl rfl dX2_lastsOf_12 (Nat.le_of_ble_eq_true rfl) ⟨Nat.zero_le _, Nat.zero_le _⟩ (Nat.le_of_ble_eq_true rfl) (Nat.le_of_ble_eq_true rfl) ok_1 rfl (fun _ => rfl) (x_pl rfl) (fun _ => rfl) (fun _ => rfl) rfl (fun t1 => ?_)
  exact XE_ireturn rfl dX2_lastsOf_15 rfl (Nat.le_refl _) (Nat.le_refl _)
theorem met_X2_lastsOf (l : Launch) (m0 : Mem) (a1 : Int32) (t : Int32) (ht : f_X2_lastsOf m0 a1 = some t) : XMet l yX2_lastsOf cX2_lastsOf 2 (some .int) 2 0 0 [.ref 0, .int a1] SH_H [m0] SH_H (some (.int t), [m0]) := XMet.of (by decide +kernel) (fun _ => Nat.le_of_ble_eq_true rfl) (fun B => xe_X2_lastsOf B m0 a1) (by rw [ht]; rfl)
/-! X2_hold: EveryTwentyMinutes$Hall.hold(II)V in world H at (0,) -/
abbrev M_X2_hold : XM := (RX2, cX2_hold, 6, none, "hold", 3, 0, 0)
def f_X2_hold (m0 : Mem) (a1 : Int32) (a2 : Int32) : Option (Mem) :=
  lt (if (m0 0 10) ≤ 1 then
      ((0 : Int32))
    else
      if (m0 8 0) ≤ (m0 8 1) then
        ((0 : Int32))
      else
        ((1 : Int32))) fun t4 =>
  ck (inb t4 2) <|
  (f_X2_readyOf m0 a1).bind fun t5 =>
  lt (imax (m0 8 (ix t4)) t5) fun v6 =>
  ck (inb a1 7) <|
  (if (m0 1 (ix a1)) = 4 then
     some (v6)
   else
     ck (inb a1 7) <|
     lt (imax v6 (m0 3 (ix a1))) fun v10 =>
     some (v10)).bind fun t12 =>
  (f_X2_lastsOf m0 a1).bind fun t13 =>
  lt (if (m0 0 12) < 30 then
      ((0 : Int32))
    else
      ((2 : Int32))) fun t16 =>
  lt ((t13 + a2) + t16) fun v17 =>
  ck (inb a1 7) <|
  lt (xs m0 4 (ix a1) t12) fun m18 =>
  ck (inb a1 7) <|
  lt (xs m18 5 (ix a1) (imin (t12 + v17) 999)) fun m19 =>
  ck (inb a1 7) <|
  lt (xs m19 6 (ix a1) t4) fun m20 =>
  ck (inb a1 7) <|
  ck (inb t4 2) <|
  lt (xs m20 8 (ix t4) (imin ((m20 5 (ix a1)) + (m20 0 13)) 999)) fun m21 =>
  lt (xs m21 0 12 (imin ((m21 0 12) + (v17 / 4)) 99)) fun m22 =>
  some m22
set_option maxRecDepth 100000 in
theorem xe_X2_hold (B : XB) (m0 : Mem) (a1 : Int32) (a2 : Int32) : XE B M_X2_hold (XQm B 0 0 SH_H) 0 [(0, some (.ref 0)), (1, some (.int a1)), (2, some (.int a2))] [] (0, 0) SH_H [m0] (fun t => some (none, [t])) (f_X2_hold m0 a1 a2) := by
  unfold f_X2_hold
  refine XE_aload_n (n := 1) dX2_hold_0 rfl rfl rfl ?_
  refine XE_getf (v := m0 0 10) (n := 4) xf_X2_43 rfl rfl rfl dX2_hold_1 rfl ?_
  refine XE_iconst (v := 1) (n := 5) dX2_hold_4 rfl (by decide) ?_
  refine XE_regv (J := 28) (lsJ := fun t4 => [(0, some (.ref 0)), (1, some (.int a1)), (2, some (.int a2))]) (stJ := fun t4 => [.int t4]) (hsJ := fun t4 => [m0]) (fun t4 => ?_) (fun hJ1 => ?_)
  · refine XE_istore_n (i := 3) (n := 29) dX2_hold_28 rfl rfl (Nat.le_of_ble_eq_true rfl) rfl ?_
    refine XE_aload_n (n := 30) dX2_hold_29 rfl rfl rfl ?_
    refine XE_getr (b := 8) (n := 33) xf_X2_46 rfl rfl dX2_hold_30 rfl ?_
    refine XE_iload_n (n := 34) dX2_hold_33 rfl rfl rfl ?_
    refine XE_iald (row := m0 8) (n := 35) rfl rfl dX2_hold_34 rfl ?_
    refine XE_aload_n (n := 36) dX2_hold_35 rfl rfl rfl ?_
    refine XE_iload_n (n := 37) dX2_hold_36 rfl rfl rfl ?_
    refine XE_callV (ni := 1) (As := [.int a1]) (π := [0]) (hs2 := fun t5 => [m0]) (st2 := fun t5 => [.int t5, .int (m0 8 (ix t4))]) (n := 40) (b := 0) xc_X2_98 (fun l t ht => met_X2_readyOf l m0 a1 t ht) rfl rfl rfl rfl rfl dX2_hold_37 (Nat.le_of_ble_eq_true rfl) ⟨Nat.zero_le _, Nat.zero_le _⟩ (Nat.le_of_ble_eq_true rfl) (Nat.le_of_ble_eq_true rfl) ok_0 rfl (fun _ => rfl) (x_pl rfl) (fun _ => rfl) (fun _ => rfl) rfl (fun t5 => ?_)
    refine XE_mmax (n := 43) xp_X2_101 rfl (Nat.le_of_ble_eq_true rfl) (Nat.le_of_ble_eq_true rfl) dX2_hold_40 rfl ?_
    refine XE_topi (fun v6 => ?_)
    refine XE_istore (i := 4) (n := 45) dX2_hold_43 rfl (Nat.le_of_ble_eq_true rfl) rfl ?_
    refine XE_aload_n (n := 46) dX2_hold_45 rfl rfl rfl ?_
    refine XE_getr (b := 1) (n := 49) xf_X2_15 rfl rfl dX2_hold_46 rfl ?_
    refine XE_iload_n (n := 50) dX2_hold_49 rfl rfl rfl ?_
    refine XE_iald (row := m0 1) (n := 51) rfl rfl dX2_hold_50 rfl ?_
    refine XE_iconst (v := 4) (n := 52) dX2_hold_51 rfl (by decide) ?_
    refine XE_reg (J := 68) (lsJ := fun t12 => [(0, some (.ref 0)), (1, some (.int a1)), (2, some (.int a2)), (3, some (.int t4)), (4, some (.int t12))]) (stJ := fun t12 => []) (hsJ := fun t12 => [m0]) (fun t12 => ?_) (fun hJ9 => ?_)
    · refine XE_aload_n (n := 69) dX2_hold_68 rfl rfl rfl ?_
      refine XE_iload_n (n := 70) dX2_hold_69 rfl rfl rfl ?_
      refine XE_callV (ni := 1) (As := [.int a1]) (π := [0]) (hs2 := fun t13 => [m0]) (st2 := fun t13 => [.int t13]) (n := 73) (b := 0) xc_X2_104 (fun l t ht => met_X2_lastsOf l m0 a1 t ht) rfl rfl rfl rfl rfl dX2_hold_70 (Nat.le_of_ble_eq_true rfl) ⟨Nat.zero_le _, Nat.zero_le _⟩ (Nat.le_of_ble_eq_true rfl) (Nat.le_of_ble_eq_true rfl) ok_0 rfl (fun _ => rfl) (x_pl rfl) (fun _ => rfl) (fun _ => rfl) rfl (fun t13 => ?_)
      refine XE_iload_n (n := 74) dX2_hold_73 rfl rfl rfl ?_
      refine XE_iadd (n := 75) dX2_hold_74 rfl ?_
      refine XE_aload_n (n := 76) dX2_hold_75 rfl rfl rfl ?_
      refine XE_getf (v := m0 0 12) (n := 79) xf_X2_49 rfl rfl rfl dX2_hold_76 rfl ?_
      refine XE_bipush (v := 30) (n := 81) dX2_hold_79 rfl (by decide) ?_
      refine XE_regv (J := 89) (lsJ := fun t16 => [(0, some (.ref 0)), (1, some (.int a1)), (3, some (.int t4)), (4, some (.int t12))]) (stJ := fun t16 => [.int t16, .int (t13 + a2)]) (hsJ := fun t16 => [m0]) (fun t16 => ?_) (fun hJ14 => ?_)
      · refine XE_iadd (n := 90) dX2_hold_89 rfl ?_
        refine XE_topi (fun v17 => ?_)
        refine XE_istore (i := 5) (n := 92) dX2_hold_90 rfl (Nat.le_of_ble_eq_true rfl) rfl ?_
        refine XE_aload_n (n := 93) dX2_hold_92 rfl rfl rfl ?_
        refine XE_getr (b := 4) (n := 96) xf_X2_28 rfl rfl dX2_hold_93 rfl ?_
        refine XE_iload_n (n := 97) dX2_hold_96 rfl rfl rfl ?_
        refine XE_iload (n := 99) dX2_hold_97 rfl rfl ?_
        refine XE_iast (hs2 := fun m18 => [m18]) (n := 100) rfl rfl rfl (Nat.le_of_ble_eq_true rfl) (fun _ => rfl) dX2_hold_99 rfl (fun m18 => ?_)
        refine XE_aload_n (n := 101) dX2_hold_100 rfl rfl rfl ?_
        refine XE_getr (b := 5) (n := 104) xf_X2_31 rfl rfl dX2_hold_101 rfl ?_
        refine XE_iload_n (n := 105) dX2_hold_104 rfl rfl rfl ?_
        refine XE_iload (n := 107) dX2_hold_105 rfl rfl ?_
        refine XE_iload (n := 109) dX2_hold_107 rfl rfl ?_
        refine XE_iadd (n := 110) dX2_hold_109 rfl ?_
        refine XE_sipush (v := 999) (n := 113) dX2_hold_110 rfl (by decide) ?_
        refine XE_mmin (n := 116) xp_X2_82 rfl (Nat.le_of_ble_eq_true rfl) (Nat.le_of_ble_eq_true rfl) dX2_hold_113 rfl ?_
        refine XE_iast (hs2 := fun m19 => [m19]) (n := 117) rfl rfl rfl (Nat.le_of_ble_eq_true rfl) (fun _ => rfl) dX2_hold_116 rfl (fun m19 => ?_)
        refine XE_aload_n (n := 118) dX2_hold_117 rfl rfl rfl ?_
        refine XE_getr (b := 6) (n := 121) xf_X2_34 rfl rfl dX2_hold_118 rfl ?_
        refine XE_iload_n (n := 122) dX2_hold_121 rfl rfl rfl ?_
        refine XE_iload_n (n := 123) dX2_hold_122 rfl rfl rfl ?_
        refine XE_iast (hs2 := fun m20 => [m20]) (n := 124) rfl rfl rfl (Nat.le_of_ble_eq_true rfl) (fun _ => rfl) dX2_hold_123 rfl (fun m20 => ?_)
        refine XE_aload_n (n := 125) dX2_hold_124 rfl rfl rfl ?_
        refine XE_getr (b := 8) (n := 128) xf_X2_46 rfl rfl dX2_hold_125 rfl ?_
        refine XE_iload_n (n := 129) dX2_hold_128 rfl rfl rfl ?_
        refine XE_aload_n (n := 130) dX2_hold_129 rfl rfl rfl ?_
        refine XE_getr (b := 5) (n := 133) xf_X2_31 rfl rfl dX2_hold_130 rfl ?_
        refine XE_iload_n (n := 134) dX2_hold_133 rfl rfl rfl ?_
        refine XE_iald (row := m20 5) (n := 135) rfl rfl dX2_hold_134 rfl ?_
        refine XE_aload_n (n := 136) dX2_hold_135 rfl rfl rfl ?_
        refine XE_getf (v := m20 0 13) (n := 139) xf_X2_52 rfl rfl rfl dX2_hold_136 rfl ?_
        refine XE_iadd (n := 140) dX2_hold_139 rfl ?_
        refine XE_sipush (v := 999) (n := 143) dX2_hold_140 rfl (by decide) ?_
        refine XE_mmin (n := 146) xp_X2_82 rfl (Nat.le_of_ble_eq_true rfl) (Nat.le_of_ble_eq_true rfl) dX2_hold_143 rfl ?_
        refine XE_iast (hs2 := fun m21 => [m21]) (n := 147) rfl rfl rfl (Nat.le_of_ble_eq_true rfl) (fun _ => rfl) dX2_hold_146 rfl (fun m21 => ?_)
        refine XE_aload_n (n := 148) dX2_hold_147 rfl rfl rfl ?_
        refine XE_aload_n (n := 149) dX2_hold_148 rfl rfl rfl ?_
        refine XE_getf (v := m21 0 12) (n := 152) xf_X2_49 rfl rfl rfl dX2_hold_149 rfl ?_
        refine XE_iload (n := 154) dX2_hold_152 rfl rfl ?_
        refine XE_iconst (v := 4) (n := 155) dX2_hold_154 rfl (by decide) ?_
        refine XE_idiv (n := 156) dX2_hold_155 rfl (by decide) ?_
        refine XE_iadd (n := 157) dX2_hold_156 rfl ?_
        refine XE_bipush (v := 99) (n := 159) dX2_hold_157 rfl (by decide) ?_
        refine XE_mmin (n := 162) xp_X2_82 rfl (Nat.le_of_ble_eq_true rfl) (Nat.le_of_ble_eq_true rfl) dX2_hold_159 rfl ?_
        refine XE_putf (hs2 := fun m22 => [m22]) (n := 165) xf_X2_49 rfl rfl rfl rfl (Nat.le_of_ble_eq_true rfl) (fun _ => rfl) dX2_hold_162 rfl (fun m22 => ?_)
        exact XE_vreturn rfl dX2_hold_165 rfl (Nat.le_refl _) (Nat.le_refl _)
      · refine XE_ltif ?_
        refine XE_icmp_lt (t := 88) (n := 84) dX2_hold_81 rfl rfl (fun h15 => ?_) (fun h15 => ?_)
        · refine XE_iconst (v := 0) (n := 89) dX2_hold_88 rfl (by decide) ?_
          refine XE_ls (x_sub_ok (ls' := [(0, some (.ref 0)), (1, some (.int a1)), (3, some (.int t4)), (4, some (.int t12))]) ⟨rfl, rfl, rfl, rfl, trivial⟩) ?_
          exact hJ14 ((0 : Int32))
        · refine XE_iconst (v := 2) (n := 85) dX2_hold_84 rfl (by decide) ?_
          refine XE_goto (n := 89) dX2_hold_85 rfl ?_
          refine XE_ls (x_sub_ok (ls' := [(0, some (.ref 0)), (1, some (.int a1)), (3, some (.int t4)), (4, some (.int t12))]) ⟨rfl, rfl, rfl, rfl, trivial⟩) ?_
          exact hJ14 ((2 : Int32))
    · refine XE_icmp_eq (t := 68) (n := 55) dX2_hold_52 rfl rfl (fun h11 => ?_) (fun h11 => ?_)
      · refine XE_ls (x_sub_ok (ls' := [(0, some (.ref 0)), (1, some (.int a1)), (2, some (.int a2)), (3, some (.int t4)), (4, some (.int v6))]) ⟨rfl, rfl, rfl, rfl, rfl, trivial⟩) ?_
        exact hJ9 (v6)
      · refine XE_iload (n := 57) dX2_hold_55 rfl rfl ?_
        refine XE_aload_n (n := 58) dX2_hold_57 rfl rfl rfl ?_
        refine XE_getr (b := 3) (n := 61) xf_X2_22 rfl rfl dX2_hold_58 rfl ?_
        refine XE_iload_n (n := 62) dX2_hold_61 rfl rfl rfl ?_
        refine XE_iald (row := m0 3) (n := 63) rfl rfl dX2_hold_62 rfl ?_
        refine XE_mmax (n := 66) xp_X2_101 rfl (Nat.le_of_ble_eq_true rfl) (Nat.le_of_ble_eq_true rfl) dX2_hold_63 rfl ?_
        refine XE_topi (fun v10 => ?_)
        refine XE_istore (i := 4) (n := 68) dX2_hold_66 rfl (Nat.le_of_ble_eq_true rfl) rfl ?_
        refine XE_ls (x_sub_ok (ls' := [(0, some (.ref 0)), (1, some (.int a1)), (2, some (.int a2)), (3, some (.int t4)), (4, some (.int v10))]) ⟨rfl, rfl, rfl, rfl, rfl, trivial⟩) ?_
        exact hJ9 (v10)
  · refine XE_ltif ?_
    refine XE_icmp_le (t := 27) (n := 8) dX2_hold_5 rfl rfl (fun h3 => ?_) (fun h3 => ?_)
    · refine XE_iconst (v := 0) (n := 28) dX2_hold_27 rfl (by decide) ?_
      refine XE_ls (x_sub_ok (ls' := [(0, some (.ref 0)), (1, some (.int a1)), (2, some (.int a2))]) ⟨rfl, rfl, rfl, trivial⟩) ?_
      exact hJ1 ((0 : Int32))
    · refine XE_aload_n (n := 9) dX2_hold_8 rfl rfl rfl ?_
      refine XE_getr (b := 8) (n := 12) xf_X2_46 rfl rfl dX2_hold_9 rfl ?_
      refine XE_iconst (v := 1) (n := 13) dX2_hold_12 rfl (by decide) ?_
      refine XE_ialdc (row := m0 8) (j := 1) (n := 14) rfl rfl rfl rfl dX2_hold_13 rfl ?_
      refine XE_aload_n (n := 15) dX2_hold_14 rfl rfl rfl ?_
      refine XE_getr (b := 8) (n := 18) xf_X2_46 rfl rfl dX2_hold_15 rfl ?_
      refine XE_iconst (v := 0) (n := 19) dX2_hold_18 rfl (by decide) ?_
      refine XE_ialdc (row := m0 8) (j := 0) (n := 20) rfl rfl rfl rfl dX2_hold_19 rfl ?_
      refine XE_ltif ?_
      refine XE_icmp_ge (t := 27) (n := 23) dX2_hold_20 rfl rfl (fun h2 => ?_) (fun h2 => ?_)
      · refine XE_iconst (v := 0) (n := 28) dX2_hold_27 rfl (by decide) ?_
        refine XE_ls (x_sub_ok (ls' := [(0, some (.ref 0)), (1, some (.int a1)), (2, some (.int a2))]) ⟨rfl, rfl, rfl, trivial⟩) ?_
        exact hJ1 ((0 : Int32))
      · refine XE_iconst (v := 1) (n := 24) dX2_hold_23 rfl (by decide) ?_
        refine XE_goto (n := 28) dX2_hold_24 rfl ?_
        refine XE_ls (x_sub_ok (ls' := [(0, some (.ref 0)), (1, some (.int a1)), (2, some (.int a2))]) ⟨rfl, rfl, rfl, trivial⟩) ?_
        exact hJ1 ((1 : Int32))
theorem met_X2_hold (l : Launch) (m0 : Mem) (a1 : Int32) (a2 : Int32) (t : Mem) (ht : f_X2_hold m0 a1 a2 = some t) : XMet l yX2_hold cX2_hold 6 none 3 0 0 [.ref 0, .int a1, .int a2] SH_H [m0] SH_H (none, [t]) := XMet.of (by decide +kernel) (fun _ => Nat.le_of_ble_eq_true rfl) (fun B => xe_X2_hold B m0 a1 a2) (by rw [ht]; rfl)
