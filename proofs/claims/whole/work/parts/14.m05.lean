/-! X6_longest: EveryTwentyMinutes.longest(I)I in world X at (0,) -/
abbrev M_X6_longest : XM := (RX6, cX6_longest, 2, (some .int), "longest", 4, 0, 0)
def f_X6_longest (m0 : Mem) (m1 : Mem) (a1 : Int32) : Option (Int32 × Mem) :=
  if a1 = 0 then
    (f_X2_longestOne m1).bind fun t2 =>
    some (t2, m0)
  else
    if a1 = 1 then
      (f_X2_dearest m1).bind fun t4 =>
      some (t4, m0)
    else
      if a1 = 2 then
        (f_X2_bunched m1).bind fun t6 =>
        some (t6, m0)
      else
        (f_X6_refused m0 (-2)).bind fun t7 =>
        some (t7.1, t7.2)
set_option maxRecDepth 100000 in
theorem xe_X6_longest (B : XB) (m0 : Mem) (m1 : Mem) (m2 : Mem) (m3 : Mem) (m4 : Mem) (m5 : Mem) (m6 : Mem) (m7 : Mem) (m8 : Mem) (m9 : Mem) (m10 : Mem) (m11 : Mem) (m12 : Mem) (m13 : Mem) (m14 : Mem) (m15 : Mem) (m16 : Mem) (a1 : Int32) : XE B M_X6_longest (XQm B 0 0 SH_X) 0 [(0, some (.ref 0)), (1, some (.int a1))] [] (0, 0) SH_X [m0, m1, m2, m3, m4, m5, m6, m7, m8, m9, m10, m11, m12, m13, m14, m15, m16] (fun t => some (some (.int t.1), [t.2, m1, m2, m3, m4, m5, m6, m7, m8, m9, m10, m11, m12, m13, m14, m15, m16])) (f_X6_longest m0 m1 a1) := by
  unfold f_X6_longest
  refine XE_iload_n (n := 1) dX6_longest_0 rfl rfl rfl ?_
  refine XE_tsw (c := 0) (t := 28) (off := 27) dX6_longest_1 (by decide) (by decide) rfl rfl ?_ (fun h1 => ?_)
  · refine XE_aload_n (n := 29) dX6_longest_28 rfl rfl rfl ?_
    refine XE_getr (b := 64) (n := 32) xf_X6_10 rfl rfl dX6_longest_29 rfl ?_
    refine XE_callV (ni := 0) (As := []) (π := [1]) (co := [0, 2, 3, 4, 5, 6, 7, 8, 9, 10, 11, 12, 13, 14, 15, 16]) (cv := [m0, m2, m3, m4, m5, m6, m7, m8, m9, m10, m11, m12, m13, m14, m15, m16]) (nn := 17) (hs2 := fun t2 => [m0, m1, m2, m3, m4, m5, m6, m7, m8, m9, m10, m11, m12, m13, m14, m15, m16]) (st2 := fun t2 => [.int t2]) (n := 35) (b := 64) xc_X6_284 (fun l t ht => met_X2_longestOne l m1 t ht) rfl rfl rfl rfl rfl dX6_longest_32 (Nat.le_of_ble_eq_true rfl) ⟨Nat.zero_le _, Nat.zero_le _⟩ (Nat.le_of_ble_eq_true rfl) (Nat.le_of_ble_eq_true rfl) ok_32 rfl rfl rfl (fun _ => rfl) (fun _ => rfl) (fun _ => rfl) rfl (fun _ => rfl) rfl (fun t2 => ?_)
    exact XE_ireturn rfl dX6_longest_35 rfl (Nat.le_refl _) (Nat.le_refl _)
  refine XE_tsw (c := 1) (t := 36) (off := 35) dX6_longest_1 (by decide) (by decide) rfl rfl ?_ (fun h3 => ?_)
  · refine XE_aload_n (n := 37) dX6_longest_36 rfl rfl rfl ?_
    refine XE_getr (b := 64) (n := 40) xf_X6_10 rfl rfl dX6_longest_37 rfl ?_
    refine XE_callV (ni := 0) (As := []) (π := [1]) (co := [0, 2, 3, 4, 5, 6, 7, 8, 9, 10, 11, 12, 13, 14, 15, 16]) (cv := [m0, m2, m3, m4, m5, m6, m7, m8, m9, m10, m11, m12, m13, m14, m15, m16]) (nn := 17) (hs2 := fun t4 => [m0, m1, m2, m3, m4, m5, m6, m7, m8, m9, m10, m11, m12, m13, m14, m15, m16]) (st2 := fun t4 => [.int t4]) (n := 43) (b := 64) xc_X6_287 (fun l t ht => met_X2_dearest l m1 t ht) rfl rfl rfl rfl rfl dX6_longest_40 (Nat.le_of_ble_eq_true rfl) ⟨Nat.zero_le _, Nat.zero_le _⟩ (Nat.le_of_ble_eq_true rfl) (Nat.le_of_ble_eq_true rfl) ok_32 rfl rfl rfl (fun _ => rfl) (fun _ => rfl) (fun _ => rfl) rfl (fun _ => rfl) rfl (fun t4 => ?_)
    exact XE_ireturn rfl dX6_longest_43 rfl (Nat.le_refl _) (Nat.le_refl _)
  refine XE_tsw (c := 2) (t := 44) (off := 43) dX6_longest_1 (by decide) (by decide) rfl rfl ?_ (fun h5 => ?_)
  · refine XE_aload_n (n := 45) dX6_longest_44 rfl rfl rfl ?_
    refine XE_getr (b := 64) (n := 48) xf_X6_10 rfl rfl dX6_longest_45 rfl ?_
    refine XE_callV (ni := 0) (As := []) (π := [1]) (co := [0, 2, 3, 4, 5, 6, 7, 8, 9, 10, 11, 12, 13, 14, 15, 16]) (cv := [m0, m2, m3, m4, m5, m6, m7, m8, m9, m10, m11, m12, m13, m14, m15, m16]) (nn := 17) (hs2 := fun t6 => [m0, m1, m2, m3, m4, m5, m6, m7, m8, m9, m10, m11, m12, m13, m14, m15, m16]) (st2 := fun t6 => [.int t6]) (n := 51) (b := 64) xc_X6_290 (fun l t ht => met_X2_bunched l m1 t ht) rfl rfl rfl rfl rfl dX6_longest_48 (Nat.le_of_ble_eq_true rfl) ⟨Nat.zero_le _, Nat.zero_le _⟩ (Nat.le_of_ble_eq_true rfl) (Nat.le_of_ble_eq_true rfl) ok_32 rfl rfl rfl (fun _ => rfl) (fun _ => rfl) (fun _ => rfl) rfl (fun _ => rfl) rfl (fun t6 => ?_)
    exact XE_ireturn rfl dX6_longest_51 rfl (Nat.le_refl _) (Nat.le_refl _)
  refine XE_tswd (t := 52) dX6_longest_1 (by have q0 := x_ne h1 (z := 0) (by decide); have q1 := x_ne h3 (z := 1) (by decide); have q2 := x_ne h5 (z := 2) (by decide); omega) rfl ?_
  refine XE_aload_n (n := 53) dX6_longest_52 rfl rfl rfl ?_
  refine XE_bipush (v := (-2)) (n := 55) dX6_longest_53 rfl (by decide) ?_
  refine XE_callVi (ni := 1) (As := [.int (-2)]) (st2 := fun t7 => [.int t7.1]) (n := 58) (b := 0) xc_X6_65 (fun l t ht => met_X6_refused l m0 m1 m2 m3 m4 m5 m6 m7 m8 m9 m10 m11 m12 m13 m14 m15 m16 (-2) t ht) rfl rfl rfl rfl dX6_longest_55 (Nat.le_of_ble_eq_true rfl) ⟨Nat.zero_le _, Nat.zero_le _⟩ (Nat.le_of_ble_eq_true rfl) (Nat.le_of_ble_eq_true rfl) (fun _ => rfl) rfl (fun t7 => ?_)
  exact XE_ireturn rfl dX6_longest_58 rfl (Nat.le_refl _) (Nat.le_refl _)
theorem met_X6_longest (l : Launch) (m0 : Mem) (m1 : Mem) (m2 : Mem) (m3 : Mem) (m4 : Mem) (m5 : Mem) (m6 : Mem) (m7 : Mem) (m8 : Mem) (m9 : Mem) (m10 : Mem) (m11 : Mem) (m12 : Mem) (m13 : Mem) (m14 : Mem) (m15 : Mem) (m16 : Mem) (a1 : Int32) (t : Int32 × Mem) (ht : f_X6_longest m0 m1 a1 = some t) : XMet l yX6_longest cX6_longest 2 (some .int) 4 0 0 [.ref 0, .int a1] SH_X [m0, m1, m2, m3, m4, m5, m6, m7, m8, m9, m10, m11, m12, m13, m14, m15, m16] SH_X (some (.int t.1), [t.2, m1, m2, m3, m4, m5, m6, m7, m8, m9, m10, m11, m12, m13, m14, m15, m16]) := XMet.of (by decide +kernel) (fun _ => Nat.le_of_ble_eq_true rfl) (fun B => xe_X6_longest B m0 m1 m2 m3 m4 m5 m6 m7 m8 m9 m10 m11 m12 m13 m14 m15 m16 a1) (by rw [ht]; rfl)
/-! X6_mean: EveryTwentyMinutes.mean(I)J in world X at (0,) -/
abbrev M_X6_mean : XM := (RX6, cX6_mean, 2, (some .long), "mean", 6, 0, 0)
def f_X6_mean_J21 (m0 : Mem) (m1 : Mem) (m2 : Mem) (v1 : Int32) : Option (Int64 × Mem × Mem) :=
  (f_X6_inMind m0 m1 m2).bind fun t2 =>
  (f_X2_allLate t2).bind fun t3 =>
  (f_X6_lowest ((t3 : Int32).toInt64) (((imax (m1 0 0) 1) : Int32).toInt64) v1).bind fun t4 =>
  some (t4, m0, t2)
def f_X6_mean (m0 : Mem) (m1 : Mem) (m2 : Mem) (a1 : Int32) : Option (Int64 × Mem × Mem) :=
  if a1 = 0 then
    f_X6_mean_J21 m0 m1 m2 a1
  else
    if a1 = 1 then
      f_X6_mean_J21 m0 m1 m2 a1
    else
      (f_X6_refused m0 (-2)).bind fun t5 =>
      some ((4000000000000000000 - ((t5.1 : Int32).toInt64)), t5.2, m2)
set_option maxRecDepth 100000 in
theorem f_X6_mean_J21_x (B : XB) (m0 : Mem) (m1 : Mem) (m2 : Mem) (m3 : Mem) (m4 : Mem) (m5 : Mem) (m6 : Mem) (m7 : Mem) (m8 : Mem) (m9 : Mem) (m10 : Mem) (m11 : Mem) (m12 : Mem) (m13 : Mem) (m14 : Mem) (m15 : Mem) (m16 : Mem) (v1 : Int32) : XE B M_X6_mean (XQm B 0 0 SH_X) 21 [(0, some (.ref 0)), (1, some (.int v1))] [] (0, 0) SH_X [m0, m1, m2, m3, m4, m5, m6, m7, m8, m9, m10, m11, m12, m13, m14, m15, m16] (fun t => some (some (.long t.1), [t.2.1, m1, t.2.2, m3, m4, m5, m6, m7, m8, m9, m10, m11, m12, m13, m14, m15, m16])) (f_X6_mean_J21 m0 m1 m2 v1) := by
  unfold f_X6_mean_J21
  refine XE_aload_n (n := 22) dX6_mean_21 rfl rfl rfl ?_
  refine XE_callVi (ni := 0) (As := []) (st2 := fun t2 => [.ref 128]) (n := 25) (b := 0) xc_X6_184 (fun l t ht => met_X6_inMind l m0 m1 m2 m3 m4 m5 m6 m7 m8 m9 m10 m11 m12 m13 m14 m15 m16 t ht) rfl rfl rfl rfl dX6_mean_22 (Nat.le_of_ble_eq_true rfl) ⟨Nat.zero_le _, Nat.zero_le _⟩ (Nat.le_of_ble_eq_true rfl) (Nat.le_of_ble_eq_true rfl) (fun _ => rfl) rfl (fun t2 => ?_)
  refine XE_callV (ni := 0) (As := []) (π := [2]) (co := [0, 1, 3, 4, 5, 6, 7, 8, 9, 10, 11, 12, 13, 14, 15, 16]) (cv := [m0, m1, m3, m4, m5, m6, m7, m8, m9, m10, m11, m12, m13, m14, m15, m16]) (nn := 17) (hs2 := fun t3 => [m0, m1, t2, m3, m4, m5, m6, m7, m8, m9, m10, m11, m12, m13, m14, m15, m16]) (st2 := fun t3 => [.int t3]) (n := 28) (b := 128) xc_X6_200 (fun l t ht => met_X2_allLate l t2 t ht) rfl rfl rfl rfl rfl dX6_mean_25 (Nat.le_of_ble_eq_true rfl) ⟨Nat.zero_le _, Nat.zero_le _⟩ (Nat.le_of_ble_eq_true rfl) (Nat.le_of_ble_eq_true rfl) ok_35 rfl rfl rfl (fun _ => rfl) (fun _ => rfl) (fun _ => rfl) rfl (fun _ => rfl) rfl (fun t3 => ?_)
  refine XE_i2l (n := 29) dX6_mean_28 rfl ?_
  refine XE_aload_n (n := 30) dX6_mean_29 rfl rfl rfl ?_
  refine XE_getr (b := 64) (n := 33) xf_X6_10 rfl rfl dX6_mean_30 rfl ?_
  refine XE_getf (v := m1 0 0) (n := 36) xf_X6_148 rfl rfl rfl dX6_mean_33 rfl ?_
  refine XE_iconst (v := 1) (n := 37) dX6_mean_36 rfl (by decide) ?_
  refine XE_mmax (n := 40) xp_X6_293 rfl (Nat.le_of_ble_eq_true rfl) (Nat.le_of_ble_eq_true rfl) dX6_mean_37 rfl ?_
  refine XE_i2l (n := 41) dX6_mean_40 rfl ?_
  refine XE_iload_n (n := 42) dX6_mean_41 rfl rfl rfl ?_
  refine XE_callS (ni := 3) (As := [.long ((t3 : Int32).toInt64), .long (((imax (m1 0 0) 1) : Int32).toInt64), .int v1]) (π := []) (co := [0, 1, 2, 3, 4, 5, 6, 7, 8, 9, 10, 11, 12, 13, 14, 15, 16]) (cv := [m0, m1, t2, m3, m4, m5, m6, m7, m8, m9, m10, m11, m12, m13, m14, m15, m16]) (nn := 17) (hs2 := fun t4 => [m0, m1, t2, m3, m4, m5, m6, m7, m8, m9, m10, m11, m12, m13, m14, m15, m16]) (st2 := fun t4 => [.long t4]) (n := 45) xc_X6_263 (fun l t ht => met_X6_lowest l ((t3 : Int32).toInt64) (((imax (m1 0 0) 1) : Int32).toInt64) v1 t ht) rfl rfl rfl dX6_mean_42 (Nat.le_of_ble_eq_true rfl) ⟨Nat.zero_le _, Nat.zero_le _⟩ (Nat.le_of_ble_eq_true rfl) (Nat.le_of_ble_eq_true rfl) ok_33 rfl rfl rfl (fun _ => rfl) (fun _ => rfl) (fun _ => rfl) rfl (fun _ => rfl) rfl (fun t4 => ?_)
  exact XE_lreturn rfl dX6_mean_45 rfl (Nat.le_refl _) (Nat.le_refl _)
set_option maxRecDepth 100000 in
theorem xe_X6_mean (B : XB) (m0 : Mem) (m1 : Mem) (m2 : Mem) (m3 : Mem) (m4 : Mem) (m5 : Mem) (m6 : Mem) (m7 : Mem) (m8 : Mem) (m9 : Mem) (m10 : Mem) (m11 : Mem) (m12 : Mem) (m13 : Mem) (m14 : Mem) (m15 : Mem) (m16 : Mem) (a1 : Int32) : XE B M_X6_mean (XQm B 0 0 SH_X) 0 [(0, some (.ref 0)), (1, some (.int a1))] [] (0, 0) SH_X [m0, m1, m2, m3, m4, m5, m6, m7, m8, m9, m10, m11, m12, m13, m14, m15, m16] (fun t => some (some (.long t.1), [t.2.1, m1, t.2.2, m3, m4, m5, m6, m7, m8, m9, m10, m11, m12, m13, m14, m15, m16])) (f_X6_mean m0 m1 m2 a1) := by
  unfold f_X6_mean
  refine XE_iload_n (n := 1) dX6_mean_0 rfl rfl rfl ?_
  refine XE_if_eq (t := 21) (n := 4) dX6_mean_1 rfl rfl (fun h7 => ?_) (fun h7 => ?_)
  · refine XE_ls (x_sub_ok (ls' := [(0, some (.ref 0)), (1, some (.int a1))]) ⟨rfl, rfl, trivial⟩) ?_
    exact f_X6_mean_J21_x B m0 m1 m2 m3 m4 m5 m6 m7 m8 m9 m10 m11 m12 m13 m14 m15 m16 a1
  · refine XE_iload_n (n := 5) dX6_mean_4 rfl rfl rfl ?_
    refine XE_iconst (v := 1) (n := 6) dX6_mean_5 rfl (by decide) ?_
    refine XE_icmp_eq (t := 21) (n := 9) dX6_mean_6 rfl rfl (fun h6 => ?_) (fun h6 => ?_)
    · refine XE_ls (x_sub_ok (ls' := [(0, some (.ref 0)), (1, some (.int a1))]) ⟨rfl, rfl, trivial⟩) ?_
      exact f_X6_mean_J21_x B m0 m1 m2 m3 m4 m5 m6 m7 m8 m9 m10 m11 m12 m13 m14 m15 m16 a1
    · refine XE_ldc2 (n := 12) dX6_mean_9 rfl xk_X6_246 ?_
      refine XE_aload_n (n := 13) dX6_mean_12 rfl rfl rfl ?_
      refine XE_bipush (v := (-2)) (n := 15) dX6_mean_13 rfl (by decide) ?_
      refine XE_callVi (ni := 1) (As := [.int (-2)]) (st2 := fun t5 => [.int t5.1, .long 4000000000000000000]) (n := 18) (b := 0) xc_X6_65 (fun l t ht => met_X6_refused l m0 m1 m2 m3 m4 m5 m6 m7 m8 m9 m10 m11 m12 m13 m14 m15 m16 (-2) t ht) rfl rfl rfl rfl dX6_mean_15 (Nat.le_of_ble_eq_true rfl) ⟨Nat.zero_le _, Nat.zero_le _⟩ (Nat.le_of_ble_eq_true rfl) (Nat.le_of_ble_eq_true rfl) (fun _ => rfl) rfl (fun t5 => ?_)
      refine XE_i2l (n := 19) dX6_mean_18 rfl ?_
      refine XE_lsub (n := 20) dX6_mean_19 rfl ?_
      exact XE_lreturn rfl dX6_mean_20 rfl (Nat.le_refl _) (Nat.le_refl _)
theorem met_X6_mean (l : Launch) (m0 : Mem) (m1 : Mem) (m2 : Mem) (m3 : Mem) (m4 : Mem) (m5 : Mem) (m6 : Mem) (m7 : Mem) (m8 : Mem) (m9 : Mem) (m10 : Mem) (m11 : Mem) (m12 : Mem) (m13 : Mem) (m14 : Mem) (m15 : Mem) (m16 : Mem) (a1 : Int32) (t : Int64 × Mem × Mem) (ht : f_X6_mean m0 m1 m2 a1 = some t) : XMet l yX6_mean cX6_mean 2 (some .long) 6 0 0 [.ref 0, .int a1] SH_X [m0, m1, m2, m3, m4, m5, m6, m7, m8, m9, m10, m11, m12, m13, m14, m15, m16] SH_X (some (.long t.1), [t.2.1, m1, t.2.2, m3, m4, m5, m6, m7, m8, m9, m10, m11, m12, m13, m14, m15, m16]) := XMet.of (by decide +kernel) (fun _ => Nat.le_of_ble_eq_true rfl) (fun B => xe_X6_mean B m0 m1 m2 m3 m4 m5 m6 m7 m8 m9 m10 m11 m12 m13 m14 m15 m16 a1) (by rw [ht]; rfl)
/-! X6_early: EveryTwentyMinutes.early()I in world X at (0,) -/
abbrev M_X6_early : XM := (RX6, cX6_early, 4, (some .int), "early", 6, 0, 0)
def f_X6_early_L9 (t1 : (Mem)) : Nat → Int32 → Int32 → Option (Int32)
  | 0, _, _ => none
  | n + 1, v2, v3 =>
    if (t1 0 0) ≤ v3 then
      some (v2)
    else
      ck (inb v3 7) <|
      ck (inb v3 7) <|
      if (t1 3 (ix v3)) ≤ (t1 4 (ix v3)) then
        lt (v3 + 1) fun v4 =>
        (f_X6_early_L9 t1 n) v2 v4
      else
        lt (v2 ||| (1 <<< (v3 &&& 31))) fun v5 =>
        lt (v3 + 1) fun v6 =>
        (f_X6_early_L9 t1 n) v5 v6
def f_X6_early (m0 : Mem) (m1 : Mem) (m2 : Mem) : Option (Int32 × Mem) :=
  (f_X6_inMind m0 m1 m2).bind fun t1 =>
  (f_X6_early_L9 t1 6000 (0 : Int32) (0 : Int32)).bind fun t9 =>
  some (t9, t1)
set_option maxRecDepth 100000 in
theorem f_X6_early_L9_x {α R : Type} (B : XB) {Q : R → State → Prop} {k : α → Option R} {r : (Int32) → Option α} (m0 : Mem) (m1 : Mem) (m3 : Mem) (m4 : Mem) (m5 : Mem) (m6 : Mem) (m7 : Mem) (m8 : Mem) (m9 : Mem) (m10 : Mem) (m11 : Mem) (m12 : Mem) (m13 : Mem) (m14 : Mem) (m15 : Mem) (m16 : Mem) (t1 : (Mem)) (hE : ∀ t0 : (Int32), XE B M_X6_early Q 44 [(2, some (.int t0))] [] (0, 0) SH_X [m0, m1, t1, m3, m4, m5, m6, m7, m8, m9, m10, m11, m12, m13, m14, m15, m16] (fun t => (r t).bind k) (some t0)) : ∀ (n : Nat) (v2 : Int32) (v3 : Int32), XE B M_X6_early Q 9 [(1, some (.ref 128)), (2, some (.int v2)), (3, some (.int v3))] [] (0, 0) SH_X [m0, m1, t1, m3, m4, m5, m6, m7, m8, m9, m10, m11, m12, m13, m14, m15, m16] (fun t => (r t).bind k) (f_X6_early_L9 t1 n v2 v3) := by
  intro n
  induction n with
  | zero => intros; exact XE_none
  | succ n ih =>
    intro v2 v3
    rw [f_X6_early_L9]
    refine XE_iload_n (n := 10) dX6_early_9 rfl rfl rfl ?_
    refine XE_aload_n (n := 11) dX6_early_10 rfl rfl rfl ?_
    refine XE_getf (v := t1 0 0) (n := 14) xf_X6_148 rfl rfl rfl dX6_early_11 rfl ?_
    refine XE_icmp_ge (t := 44) (n := 17) dX6_early_14 rfl rfl (fun h8 => ?_) (fun h8 => ?_)
    · refine XE_ls (x_sub_ok (ls' := [(2, some (.int v2))]) ⟨rfl, trivial⟩) ?_
      exact hE (v2)
    · refine XE_aload_n (n := 18) dX6_early_17 rfl rfl rfl ?_
      refine XE_getr (b := 132) (n := 21) xf_X6_187 rfl rfl dX6_early_18 rfl ?_
      refine XE_iload_n (n := 22) dX6_early_21 rfl rfl rfl ?_
      refine XE_iald (row := t1 4) (n := 23) rfl rfl dX6_early_22 rfl ?_
      refine XE_aload_n (n := 24) dX6_early_23 rfl rfl rfl ?_
      refine XE_getr (b := 131) (n := 27) xf_X6_104 rfl rfl dX6_early_24 rfl ?_
      refine XE_iload_n (n := 28) dX6_early_27 rfl rfl rfl ?_
      refine XE_iald (row := t1 3) (n := 29) rfl rfl dX6_early_28 rfl ?_
      refine XE_icmp_ge (t := 38) (n := 32) dX6_early_29 rfl rfl (fun h7 => ?_) (fun h7 => ?_)
      · refine XE_iincl (n := 41) dX6_early_38 rfl rfl (by decide) (Nat.le_of_ble_eq_true rfl) rfl (fun v4 => ?_)
        refine XE_goto (n := 9) dX6_early_41 rfl ?_
        refine XE_ls (x_sub_ok (ls' := [(1, some (.ref 128)), (2, some (.int v2)), (3, some (.int v4))]) ⟨rfl, rfl, rfl, trivial⟩) ?_
        exact ih v2 v4
      · refine XE_iload_n (n := 33) dX6_early_32 rfl rfl rfl ?_
        refine XE_iconst (v := 1) (n := 34) dX6_early_33 rfl (by decide) ?_
        refine XE_iload_n (n := 35) dX6_early_34 rfl rfl rfl ?_
        refine XE_ishl (n := 36) dX6_early_35 rfl ?_
        refine XE_ior (n := 37) dX6_early_36 rfl ?_
        refine XE_topi (fun v5 => ?_)
        refine XE_istore_n (i := 2) (n := 38) dX6_early_37 rfl rfl (Nat.le_of_ble_eq_true rfl) rfl ?_
        refine XE_iincl (n := 41) dX6_early_38 rfl rfl (by decide) (Nat.le_of_ble_eq_true rfl) rfl (fun v6 => ?_)
        refine XE_goto (n := 9) dX6_early_41 rfl ?_
        refine XE_ls (x_sub_ok (ls' := [(1, some (.ref 128)), (2, some (.int v5)), (3, some (.int v6))]) ⟨rfl, rfl, rfl, trivial⟩) ?_
        exact ih v5 v6
set_option maxRecDepth 100000 in
theorem xe_X6_early (B : XB) (m0 : Mem) (m1 : Mem) (m2 : Mem) (m3 : Mem) (m4 : Mem) (m5 : Mem) (m6 : Mem) (m7 : Mem) (m8 : Mem) (m9 : Mem) (m10 : Mem) (m11 : Mem) (m12 : Mem) (m13 : Mem) (m14 : Mem) (m15 : Mem) (m16 : Mem) : XE B M_X6_early (XQm B 0 0 SH_X) 0 [(0, some (.ref 0))] [] (0, 0) SH_X [m0, m1, m2, m3, m4, m5, m6, m7, m8, m9, m10, m11, m12, m13, m14, m15, m16] (fun t => some (some (.int t.1), [m0, m1, t.2, m3, m4, m5, m6, m7, m8, m9, m10, m11, m12, m13, m14, m15, m16])) (f_X6_early m0 m1 m2) := by
  unfold f_X6_early
  refine XE_aload_n (n := 1) dX6_early_0 rfl rfl rfl ?_
  refine XE_callVi (ni := 0) (As := []) (st2 := fun t1 => [.ref 128]) (n := 4) (b := 0) xc_X6_184 (fun l t ht => met_X6_inMind l m0 m1 m2 m3 m4 m5 m6 m7 m8 m9 m10 m11 m12 m13 m14 m15 m16 t ht) rfl rfl rfl rfl dX6_early_1 (Nat.le_of_ble_eq_true rfl) ⟨Nat.zero_le _, Nat.zero_le _⟩ (Nat.le_of_ble_eq_true rfl) (Nat.le_of_ble_eq_true rfl) (fun _ => rfl) rfl (fun t1 => ?_)
  refine XE_astore_n (i := 1) (n := 5) dX6_early_4 rfl rfl (Nat.le_of_ble_eq_true rfl) rfl ?_
  refine XE_iconst (v := 0) (n := 6) dX6_early_5 rfl (by decide) ?_
  refine XE_istore_n (i := 2) (n := 7) dX6_early_6 rfl rfl (Nat.le_of_ble_eq_true rfl) rfl ?_
  refine XE_iconst (v := 0) (n := 8) dX6_early_7 rfl (by decide) ?_
  refine XE_istore_n (i := 3) (n := 9) dX6_early_8 rfl rfl (Nat.le_of_ble_eq_true rfl) rfl ?_
  refine XE_ls (x_sub_ok (ls' := [(1, some (.ref 128)), (2, some (.int 0)), (3, some (.int 0))]) ⟨rfl, rfl, rfl, trivial⟩) ?_
  refine XE_reg (J := 44) (lsJ := fun t9 => [(2, some (.int t9))]) (stJ := fun t9 => []) (hsJ := fun t9 => [m0, m1, t1, m3, m4, m5, m6, m7, m8, m9, m10, m11, m12, m13, m14, m15, m16]) (fun t9 => ?_) (fun hJ10 => f_X6_early_L9_x B m0 m1 m3 m4 m5 m6 m7 m8 m9 m10 m11 m12 m13 m14 m15 m16 t1 hJ10 6000 (0 : Int32) (0 : Int32))
  refine XE_iload_n (n := 45) dX6_early_44 rfl rfl rfl ?_
  exact XE_ireturn rfl dX6_early_45 rfl (Nat.le_refl _) (Nat.le_refl _)
theorem met_X6_early (l : Launch) (m0 : Mem) (m1 : Mem) (m2 : Mem) (m3 : Mem) (m4 : Mem) (m5 : Mem) (m6 : Mem) (m7 : Mem) (m8 : Mem) (m9 : Mem) (m10 : Mem) (m11 : Mem) (m12 : Mem) (m13 : Mem) (m14 : Mem) (m15 : Mem) (m16 : Mem) (t : Int32 × Mem) (ht : f_X6_early m0 m1 m2 = some t) : XMet l yX6_early cX6_early 4 (some .int) 6 0 0 [.ref 0] SH_X [m0, m1, m2, m3, m4, m5, m6, m7, m8, m9, m10, m11, m12, m13, m14, m15, m16] SH_X (some (.int t.1), [m0, m1, t.2, m3, m4, m5, m6, m7, m8, m9, m10, m11, m12, m13, m14, m15, m16]) := XMet.of (by decide +kernel) (fun _ => Nat.le_of_ble_eq_true rfl) (fun B => xe_X6_early B m0 m1 m2 m3 m4 m5 m6 m7 m8 m9 m10 m11 m12 m13 m14 m15 m16) (by rw [ht]; rfl)
/-! X6_worst: EveryTwentyMinutes.worst()I in world X at (0,) -/
abbrev M_X6_worst : XM := (RX6, cX6_worst, 5, (some .int), "worst", 6, 0, 0)
def f_X6_worst_L13 (t1 : (Mem)) : Nat → Int32 → Int32 → Int32 → Option (Int32)
  | 0, _, _, _ => none
  | n + 1, v2, v3, v4 =>
    if (t1 0 0) ≤ v4 then
      some (v3)
    else
      (f_X2_lateOf t1 v4).bind fun t5 =>
      if t5 ≤ v2 then
        lt (v4 + 1) fun v6 =>
        (f_X6_worst_L13 t1 n) v2 v3 v6
      else
        (f_X2_lateOf t1 v4).bind fun t7 =>
        lt (v4 + 1) fun v8 =>
        (f_X6_worst_L13 t1 n) t7 v4 v8
def f_X6_worst (m0 : Mem) (m1 : Mem) (m2 : Mem) : Option (Int32 × Mem) :=
  (f_X6_inMind m0 m1 m2).bind fun t1 =>
  (f_X6_worst_L13 t1 6000 (0 : Int32) ((-9) : Int32) (0 : Int32)).bind fun t11 =>
  some (t11, t1)
set_option maxRecDepth 100000 in
theorem f_X6_worst_L13_x {α R : Type} (B : XB) {Q : R → State → Prop} {k : α → Option R} {r : (Int32) → Option α} (m0 : Mem) (m1 : Mem) (m3 : Mem) (m4 : Mem) (m5 : Mem) (m6 : Mem) (m7 : Mem) (m8 : Mem) (m9 : Mem) (m10 : Mem) (m11 : Mem) (m12 : Mem) (m13 : Mem) (m14 : Mem) (m15 : Mem) (m16 : Mem) (t1 : (Mem)) (hE : ∀ t0 : (Int32), XE B M_X6_worst Q 48 [(3, some (.int t0))] [] (0, 0) SH_X [m0, m1, t1, m3, m4, m5, m6, m7, m8, m9, m10, m11, m12, m13, m14, m15, m16] (fun t => (r t).bind k) (some t0)) : ∀ (n : Nat) (v2 : Int32) (v3 : Int32) (v4 : Int32), XE B M_X6_worst Q 13 [(1, some (.ref 128)), (2, some (.int v2)), (3, some (.int v3)), (4, some (.int v4))] [] (0, 0) SH_X [m0, m1, t1, m3, m4, m5, m6, m7, m8, m9, m10, m11, m12, m13, m14, m15, m16] (fun t => (r t).bind k) (f_X6_worst_L13 t1 n v2 v3 v4) := by
  intro n
  induction n with
  | zero => intros; exact XE_none
  | succ n ih =>
    intro v2 v3 v4
    rw [f_X6_worst_L13]
    refine XE_iload (n := 15) dX6_worst_13 rfl rfl ?_
    refine XE_aload_n (n := 16) dX6_worst_15 rfl rfl rfl ?_
    refine XE_getf (v := t1 0 0) (n := 19) xf_X6_148 rfl rfl rfl dX6_worst_16 rfl ?_
    refine XE_icmp_ge (t := 48) (n := 22) dX6_worst_19 rfl rfl (fun h10 => ?_) (fun h10 => ?_)
    · refine XE_ls (x_sub_ok (ls' := [(3, some (.int v3))]) ⟨rfl, trivial⟩) ?_
      exact hE (v3)
    · refine XE_aload_n (n := 23) dX6_worst_22 rfl rfl rfl ?_
      refine XE_iload (n := 25) dX6_worst_23 rfl rfl ?_
      refine XE_callV (ni := 1) (As := [.int v4]) (π := [2]) (co := [0, 1, 3, 4, 5, 6, 7, 8, 9, 10, 11, 12, 13, 14, 15, 16]) (cv := [m0, m1, m3, m4, m5, m6, m7, m8, m9, m10, m11, m12, m13, m14, m15, m16]) (nn := 17) (hs2 := fun t5 => [m0, m1, t1, m3, m4, m5, m6, m7, m8, m9, m10, m11, m12, m13, m14, m15, m16]) (st2 := fun t5 => [.int t5]) (n := 28) (b := 128) xc_X6_193 (fun l t ht => met_X2_lateOf l t1 v4 t ht) rfl rfl rfl rfl rfl dX6_worst_25 (Nat.le_of_ble_eq_true rfl) ⟨Nat.zero_le _, Nat.zero_le _⟩ (Nat.le_of_ble_eq_true rfl) (Nat.le_of_ble_eq_true rfl) ok_35 rfl rfl rfl (fun _ => rfl) (fun _ => rfl) (fun _ => rfl) rfl (fun _ => rfl) rfl (fun t5 => ?_)
      refine XE_iload_n (n := 29) dX6_worst_28 rfl rfl rfl ?_
      refine XE_icmp_le (t := 42) (n := 32) dX6_worst_29 rfl rfl (fun h9 => ?_) (fun h9 => ?_)
      · refine XE_iincl (n := 45) dX6_worst_42 rfl rfl (by decide) (Nat.le_of_ble_eq_true rfl) rfl (fun v6 => ?_)
        refine XE_goto (n := 13) dX6_worst_45 rfl ?_
        refine XE_ls (x_sub_ok (ls' := [(1, some (.ref 128)), (2, some (.int v2)), (3, some (.int v3)), (4, some (.int v6))]) ⟨rfl, rfl, rfl, rfl, trivial⟩) ?_
        exact ih v2 v3 v6
      · refine XE_aload_n (n := 33) dX6_worst_32 rfl rfl rfl ?_
        refine XE_iload (n := 35) dX6_worst_33 rfl rfl ?_
        refine XE_callV (ni := 1) (As := [.int v4]) (π := [2]) (co := [0, 1, 3, 4, 5, 6, 7, 8, 9, 10, 11, 12, 13, 14, 15, 16]) (cv := [m0, m1, m3, m4, m5, m6, m7, m8, m9, m10, m11, m12, m13, m14, m15, m16]) (nn := 17) (hs2 := fun t7 => [m0, m1, t1, m3, m4, m5, m6, m7, m8, m9, m10, m11, m12, m13, m14, m15, m16]) (st2 := fun t7 => [.int t7]) (n := 38) (b := 128) xc_X6_193 (fun l t ht => met_X2_lateOf l t1 v4 t ht) rfl rfl rfl rfl rfl dX6_worst_35 (Nat.le_of_ble_eq_true rfl) ⟨Nat.zero_le _, Nat.zero_le _⟩ (Nat.le_of_ble_eq_true rfl) (Nat.le_of_ble_eq_true rfl) ok_35 rfl rfl rfl (fun _ => rfl) (fun _ => rfl) (fun _ => rfl) rfl (fun _ => rfl) rfl (fun t7 => ?_)
        refine XE_istore_n (i := 2) (n := 39) dX6_worst_38 rfl rfl (Nat.le_of_ble_eq_true rfl) rfl ?_
        refine XE_iload (n := 41) dX6_worst_39 rfl rfl ?_
        refine XE_istore_n (i := 3) (n := 42) dX6_worst_41 rfl rfl (Nat.le_of_ble_eq_true rfl) rfl ?_
        refine XE_iincl (n := 45) dX6_worst_42 rfl rfl (by decide) (Nat.le_of_ble_eq_true rfl) rfl (fun v8 => ?_)
        refine XE_goto (n := 13) dX6_worst_45 rfl ?_
        refine XE_ls (x_sub_ok (ls' := [(1, some (.ref 128)), (2, some (.int t7)), (3, some (.int v4)), (4, some (.int v8))]) ⟨rfl, rfl, rfl, rfl, trivial⟩) ?_
        exact ih t7 v4 v8
set_option maxRecDepth 100000 in
theorem xe_X6_worst (B : XB) (m0 : Mem) (m1 : Mem) (m2 : Mem) (m3 : Mem) (m4 : Mem) (m5 : Mem) (m6 : Mem) (m7 : Mem) (m8 : Mem) (m9 : Mem) (m10 : Mem) (m11 : Mem) (m12 : Mem) (m13 : Mem) (m14 : Mem) (m15 : Mem) (m16 : Mem) : XE B M_X6_worst (XQm B 0 0 SH_X) 0 [(0, some (.ref 0))] [] (0, 0) SH_X [m0, m1, m2, m3, m4, m5, m6, m7, m8, m9, m10, m11, m12, m13, m14, m15, m16] (fun t => some (some (.int t.1), [m0, m1, t.2, m3, m4, m5, m6, m7, m8, m9, m10, m11, m12, m13, m14, m15, m16])) (f_X6_worst m0 m1 m2) := by
  unfold f_X6_worst
  refine XE_aload_n (n := 1) dX6_worst_0 rfl rfl rfl ?_
  refine XE_callVi (ni := 0) (As := []) (st2 := fun t1 => [.ref 128]) (n := 4) (b := 0) xc_X6_184 (fun l t ht => met_X6_inMind l m0 m1 m2 m3 m4 m5 m6 m7 m8 m9 m10 m11 m12 m13 m14 m15 m16 t ht) rfl rfl rfl rfl dX6_worst_1 (Nat.le_of_ble_eq_true rfl) ⟨Nat.zero_le _, Nat.zero_le _⟩ (Nat.le_of_ble_eq_true rfl) (Nat.le_of_ble_eq_true rfl) (fun _ => rfl) rfl (fun t1 => ?_)
  refine XE_astore_n (i := 1) (n := 5) dX6_worst_4 rfl rfl (Nat.le_of_ble_eq_true rfl) rfl ?_
  refine XE_iconst (v := 0) (n := 6) dX6_worst_5 rfl (by decide) ?_
  refine XE_istore_n (i := 2) (n := 7) dX6_worst_6 rfl rfl (Nat.le_of_ble_eq_true rfl) rfl ?_
  refine XE_bipush (v := (-9)) (n := 9) dX6_worst_7 rfl (by decide) ?_
  refine XE_istore_n (i := 3) (n := 10) dX6_worst_9 rfl rfl (Nat.le_of_ble_eq_true rfl) rfl ?_
  refine XE_iconst (v := 0) (n := 11) dX6_worst_10 rfl (by decide) ?_
  refine XE_istore (i := 4) (n := 13) dX6_worst_11 rfl (Nat.le_of_ble_eq_true rfl) rfl ?_
  refine XE_ls (x_sub_ok (ls' := [(1, some (.ref 128)), (2, some (.int 0)), (3, some (.int (-9))), (4, some (.int 0))]) ⟨rfl, rfl, rfl, rfl, trivial⟩) ?_
  refine XE_reg (J := 48) (lsJ := fun t11 => [(3, some (.int t11))]) (stJ := fun t11 => []) (hsJ := fun t11 => [m0, m1, t1, m3, m4, m5, m6, m7, m8, m9, m10, m11, m12, m13, m14, m15, m16]) (fun t11 => ?_) (fun hJ12 => f_X6_worst_L13_x B m0 m1 m3 m4 m5 m6 m7 m8 m9 m10 m11 m12 m13 m14 m15 m16 t1 hJ12 6000 (0 : Int32) ((-9) : Int32) (0 : Int32))
  refine XE_iload_n (n := 49) dX6_worst_48 rfl rfl rfl ?_
  exact XE_ireturn rfl dX6_worst_49 rfl (Nat.le_refl _) (Nat.le_refl _)
theorem met_X6_worst (l : Launch) (m0 : Mem) (m1 : Mem) (m2 : Mem) (m3 : Mem) (m4 : Mem) (m5 : Mem) (m6 : Mem) (m7 : Mem) (m8 : Mem) (m9 : Mem) (m10 : Mem) (m11 : Mem) (m12 : Mem) (m13 : Mem) (m14 : Mem) (m15 : Mem) (m16 : Mem) (t : Int32 × Mem) (ht : f_X6_worst m0 m1 m2 = some t) : XMet l yX6_worst cX6_worst 5 (some .int) 6 0 0 [.ref 0] SH_X [m0, m1, m2, m3, m4, m5, m6, m7, m8, m9, m10, m11, m12, m13, m14, m15, m16] SH_X (some (.int t.1), [m0, m1, t.2, m3, m4, m5, m6, m7, m8, m9, m10, m11, m12, m13, m14, m15, m16]) := XMet.of (by decide +kernel) (fun _ => Nat.le_of_ble_eq_true rfl) (fun B => xe_X6_worst B m0 m1 m2 m3 m4 m5 m6 m7 m8 m9 m10 m11 m12 m13 m14 m15 m16) (by rw [ht]; rfl)
/-! X6_idle: EveryTwentyMinutes.idle()I in world X at (0,) -/
abbrev M_X6_idle : XM := (RX6, cX6_idle, 5, (some .int), "idle", 6, 0, 0)
def f_X6_idle_L15 (t1 : (Mem)) (t2 : (Int32)) : Nat → Int32 → Int32 → Option (Int32)
  | 0, _, _ => none
  | n + 1, v3, v4 =>
    if t2 ≤ v4 then
      some (v3)
    else
      (f_X2_guestsAt t1 v4).bind fun t5 =>
      if t5 = 0 then
        lt (v3 + 1) fun v7 =>
        lt (v4 + 1) fun v8 =>
        (f_X6_idle_L15 t1 t2 n) v7 v8
      else
        lt (v4 + 1) fun v6 =>
        (f_X6_idle_L15 t1 t2 n) v3 v6
def f_X6_idle (m0 : Mem) (m1 : Mem) (m2 : Mem) : Option (Int32 × Mem) :=
  (f_X6_inMind m0 m1 m2).bind fun t1 =>
  (f_X2_last t1).bind fun t2 =>
  (f_X6_idle_L15 t1 t2 6000 (0 : Int32) (0 : Int32)).bind fun t11 =>
  some (t11, t1)
set_option maxRecDepth 100000 in
theorem f_X6_idle_L15_x {α R : Type} (B : XB) {Q : R → State → Prop} {k : α → Option R} {r : (Int32) → Option α} (m0 : Mem) (m1 : Mem) (m3 : Mem) (m4 : Mem) (m5 : Mem) (m6 : Mem) (m7 : Mem) (m8 : Mem) (m9 : Mem) (m10 : Mem) (m11 : Mem) (m12 : Mem) (m13 : Mem) (m14 : Mem) (m15 : Mem) (m16 : Mem) (t1 : (Mem)) (t2 : (Int32)) (hE : ∀ t0 : (Int32), XE B M_X6_idle Q 39 [(3, some (.int t0))] [] (0, 0) SH_X [m0, m1, t1, m3, m4, m5, m6, m7, m8, m9, m10, m11, m12, m13, m14, m15, m16] (fun t => (r t).bind k) (some t0)) : ∀ (n : Nat) (v3 : Int32) (v4 : Int32), XE B M_X6_idle Q 15 [(1, some (.ref 128)), (2, some (.int t2)), (3, some (.int v3)), (4, some (.int v4))] [] (0, 0) SH_X [m0, m1, t1, m3, m4, m5, m6, m7, m8, m9, m10, m11, m12, m13, m14, m15, m16] (fun t => (r t).bind k) (f_X6_idle_L15 t1 t2 n v3 v4) := by
  intro n
  induction n with
  | zero => intros; exact XE_none
  | succ n ih =>
    intro v3 v4
    rw [f_X6_idle_L15]
    refine XE_iload (n := 17) dX6_idle_15 rfl rfl ?_
    refine XE_iload_n (n := 18) dX6_idle_17 rfl rfl rfl ?_
    refine XE_icmp_ge (t := 39) (n := 21) dX6_idle_18 rfl rfl (fun h10 => ?_) (fun h10 => ?_)
    · refine XE_ls (x_sub_ok (ls' := [(3, some (.int v3))]) ⟨rfl, trivial⟩) ?_
      exact hE (v3)
    · refine XE_aload_n (n := 22) dX6_idle_21 rfl rfl rfl ?_
      refine XE_iload (n := 24) dX6_idle_22 rfl rfl ?_
      refine XE_callV (ni := 1) (As := [.int v4]) (π := [2]) (co := [0, 1, 3, 4, 5, 6, 7, 8, 9, 10, 11, 12, 13, 14, 15, 16]) (cv := [m0, m1, m3, m4, m5, m6, m7, m8, m9, m10, m11, m12, m13, m14, m15, m16]) (nn := 17) (hs2 := fun t5 => [m0, m1, t1, m3, m4, m5, m6, m7, m8, m9, m10, m11, m12, m13, m14, m15, m16]) (st2 := fun t5 => [.int t5]) (n := 27) (b := 128) xc_X6_238 (fun l t ht => met_X2_guestsAt l t1 v4 t ht) rfl rfl rfl rfl rfl dX6_idle_24 (Nat.le_of_ble_eq_true rfl) ⟨Nat.zero_le _, Nat.zero_le _⟩ (Nat.le_of_ble_eq_true rfl) (Nat.le_of_ble_eq_true rfl) ok_35 rfl rfl rfl (fun _ => rfl) (fun _ => rfl) (fun _ => rfl) rfl (fun _ => rfl) rfl (fun t5 => ?_)
      refine XE_if_ne (t := 33) (n := 30) dX6_idle_27 rfl rfl (fun h9 => ?_) (fun h9 => ?_)
      · refine XE_iincl (n := 33) dX6_idle_30 rfl rfl (by decide) (Nat.le_of_ble_eq_true rfl) rfl (fun v7 => ?_)
        refine XE_iincl (n := 36) dX6_idle_33 rfl rfl (by decide) (Nat.le_of_ble_eq_true rfl) rfl (fun v8 => ?_)
        refine XE_goto (n := 15) dX6_idle_36 rfl ?_
        refine XE_ls (x_sub_ok (ls' := [(1, some (.ref 128)), (2, some (.int t2)), (3, some (.int v7)), (4, some (.int v8))]) ⟨rfl, rfl, rfl, rfl, trivial⟩) ?_
        exact ih v7 v8
      · refine XE_iincl (n := 36) dX6_idle_33 rfl rfl (by decide) (Nat.le_of_ble_eq_true rfl) rfl (fun v6 => ?_)
        refine XE_goto (n := 15) dX6_idle_36 rfl ?_
        refine XE_ls (x_sub_ok (ls' := [(1, some (.ref 128)), (2, some (.int t2)), (3, some (.int v3)), (4, some (.int v6))]) ⟨rfl, rfl, rfl, rfl, trivial⟩) ?_
        exact ih v3 v6
set_option maxRecDepth 100000 in
theorem xe_X6_idle (B : XB) (m0 : Mem) (m1 : Mem) (m2 : Mem) (m3 : Mem) (m4 : Mem) (m5 : Mem) (m6 : Mem) (m7 : Mem) (m8 : Mem) (m9 : Mem) (m10 : Mem) (m11 : Mem) (m12 : Mem) (m13 : Mem) (m14 : Mem) (m15 : Mem) (m16 : Mem) : XE B M_X6_idle (XQm B 0 0 SH_X) 0 [(0, some (.ref 0))] [] (0, 0) SH_X [m0, m1, m2, m3, m4, m5, m6, m7, m8, m9, m10, m11, m12, m13, m14, m15, m16] (fun t => some (some (.int t.1), [m0, m1, t.2, m3, m4, m5, m6, m7, m8, m9, m10, m11, m12, m13, m14, m15, m16])) (f_X6_idle m0 m1 m2) := by
  unfold f_X6_idle
  refine XE_aload_n (n := 1) dX6_idle_0 rfl rfl rfl ?_
  refine XE_callVi (ni := 0) (As := []) (st2 := fun t1 => [.ref 128]) (n := 4) (b := 0) xc_X6_184 (fun l t ht => met_X6_inMind l m0 m1 m2 m3 m4 m5 m6 m7 m8 m9 m10 m11 m12 m13 m14 m15 m16 t ht) rfl rfl rfl rfl dX6_idle_1 (Nat.le_of_ble_eq_true rfl) ⟨Nat.zero_le _, Nat.zero_le _⟩ (Nat.le_of_ble_eq_true rfl) (Nat.le_of_ble_eq_true rfl) (fun _ => rfl) rfl (fun t1 => ?_)
  refine XE_astore_n (i := 1) (n := 5) dX6_idle_4 rfl rfl (Nat.le_of_ble_eq_true rfl) rfl ?_
  refine XE_aload_n (n := 6) dX6_idle_5 rfl rfl rfl ?_
  refine XE_callV (ni := 0) (As := []) (π := [2]) (co := [0, 1, 3, 4, 5, 6, 7, 8, 9, 10, 11, 12, 13, 14, 15, 16]) (cv := [m0, m1, m3, m4, m5, m6, m7, m8, m9, m10, m11, m12, m13, m14, m15, m16]) (nn := 17) (hs2 := fun t2 => [m0, m1, t1, m3, m4, m5, m6, m7, m8, m9, m10, m11, m12, m13, m14, m15, m16]) (st2 := fun t2 => [.int t2]) (n := 9) (b := 128) xc_X6_203 (fun l t ht => met_X2_last l t1 t ht) rfl rfl rfl rfl rfl dX6_idle_6 (Nat.le_of_ble_eq_true rfl) ⟨Nat.zero_le _, Nat.zero_le _⟩ (Nat.le_of_ble_eq_true rfl) (Nat.le_of_ble_eq_true rfl) ok_35 rfl rfl rfl (fun _ => rfl) (fun _ => rfl) (fun _ => rfl) rfl (fun _ => rfl) rfl (fun t2 => ?_)
  refine XE_istore_n (i := 2) (n := 10) dX6_idle_9 rfl rfl (Nat.le_of_ble_eq_true rfl) rfl ?_
  refine XE_iconst (v := 0) (n := 11) dX6_idle_10 rfl (by decide) ?_
  refine XE_istore_n (i := 3) (n := 12) dX6_idle_11 rfl rfl (Nat.le_of_ble_eq_true rfl) rfl ?_
  refine XE_iconst (v := 0) (n := 13) dX6_idle_12 rfl (by decide) ?_
  refine XE_istore (i := 4) (n := 15) dX6_idle_13 rfl (Nat.le_of_ble_eq_true rfl) rfl ?_
  refine XE_ls (x_sub_ok (ls' := [(1, some (.ref 128)), (2, some (.int t2)), (3, some (.int 0)), (4, some (.int 0))]) ⟨rfl, rfl, rfl, rfl, trivial⟩) ?_
  refine XE_reg (J := 39) (lsJ := fun t11 => [(3, some (.int t11))]) (stJ := fun t11 => []) (hsJ := fun t11 => [m0, m1, t1, m3, m4, m5, m6, m7, m8, m9, m10, m11, m12, m13, m14, m15, m16]) (fun t11 => ?_) (fun hJ12 => f_X6_idle_L15_x B m0 m1 m3 m4 m5 m6 m7 m8 m9 m10 m11 m12 m13 m14 m15 m16 t1 t2 hJ12 6000 (0 : Int32) (0 : Int32))
  refine XE_iload_n (n := 40) dX6_idle_39 rfl rfl rfl ?_
  exact XE_ireturn rfl dX6_idle_40 rfl (Nat.le_refl _) (Nat.le_refl _)
theorem met_X6_idle (l : Launch) (m0 : Mem) (m1 : Mem) (m2 : Mem) (m3 : Mem) (m4 : Mem) (m5 : Mem) (m6 : Mem) (m7 : Mem) (m8 : Mem) (m9 : Mem) (m10 : Mem) (m11 : Mem) (m12 : Mem) (m13 : Mem) (m14 : Mem) (m15 : Mem) (m16 : Mem) (t : Int32 × Mem) (ht : f_X6_idle m0 m1 m2 = some t) : XMet l yX6_idle cX6_idle 5 (some .int) 6 0 0 [.ref 0] SH_X [m0, m1, m2, m3, m4, m5, m6, m7, m8, m9, m10, m11, m12, m13, m14, m15, m16] SH_X (some (.int t.1), [m0, m1, t.2, m3, m4, m5, m6, m7, m8, m9, m10, m11, m12, m13, m14, m15, m16]) := XMet.of (by decide +kernel) (fun _ => Nat.le_of_ble_eq_true rfl) (fun B => xe_X6_idle B m0 m1 m2 m3 m4 m5 m6 m7 m8 m9 m10 m11 m12 m13 m14 m15 m16) (by rw [ht]; rfl)
/-! X6_span: EveryTwentyMinutes.span()I in world X at (0,) -/
abbrev M_X6_span : XM := (RX6, cX6_span, 4, (some .int), "span", 6, 0, 0)
def f_X6_span_L9 (t1 : (Mem)) : Nat → Int32 → Int32 → Option (Int32)
  | 0, _, _ => none
  | n + 1, v2, v3 =>
    if (t1 0 0) ≤ v3 then
      some (v2)
    else
      (f_X2_waitOf t1 v3).bind fun t4 =>
      lt (imax v2 t4) fun v5 =>
      lt (v3 + 1) fun v6 =>
      (f_X6_span_L9 t1 n) v5 v6
def f_X6_span (m0 : Mem) (m1 : Mem) (m2 : Mem) : Option (Int32 × Mem) :=
  (f_X6_inMind m0 m1 m2).bind fun t1 =>
  (f_X6_span_L9 t1 6000 (0 : Int32) (0 : Int32)).bind fun t8 =>
  some (t8, t1)
set_option maxRecDepth 100000 in
theorem f_X6_span_L9_x {α R : Type} (B : XB) {Q : R → State → Prop} {k : α → Option R} {r : (Int32) → Option α} (m0 : Mem) (m1 : Mem) (m3 : Mem) (m4 : Mem) (m5 : Mem) (m6 : Mem) (m7 : Mem) (m8 : Mem) (m9 : Mem) (m10 : Mem) (m11 : Mem) (m12 : Mem) (m13 : Mem) (m14 : Mem) (m15 : Mem) (m16 : Mem) (t1 : (Mem)) (hE : ∀ t0 : (Int32), XE B M_X6_span Q 33 [(2, some (.int t0))] [] (0, 0) SH_X [m0, m1, t1, m3, m4, m5, m6, m7, m8, m9, m10, m11, m12, m13, m14, m15, m16] (fun t => (r t).bind k) (some t0)) : ∀ (n : Nat) (v2 : Int32) (v3 : Int32), XE B M_X6_span Q 9 [(1, some (.ref 128)), (2, some (.int v2)), (3, some (.int v3))] [] (0, 0) SH_X [m0, m1, t1, m3, m4, m5, m6, m7, m8, m9, m10, m11, m12, m13, m14, m15, m16] (fun t => (r t).bind k) (f_X6_span_L9 t1 n v2 v3) := by
  intro n
  induction n with
  | zero => intros; exact XE_none
  | succ n ih =>
    intro v2 v3
    rw [f_X6_span_L9]
    refine XE_iload_n (n := 10) dX6_span_9 rfl rfl rfl ?_
    refine XE_aload_n (n := 11) dX6_span_10 rfl rfl rfl ?_
    refine XE_getf (v := t1 0 0) (n := 14) xf_X6_148 rfl rfl rfl dX6_span_11 rfl ?_
    refine XE_icmp_ge (t := 33) (n := 17) dX6_span_14 rfl rfl (fun h7 => ?_) (fun h7 => ?_)
    · refine XE_ls (x_sub_ok (ls' := [(2, some (.int v2))]) ⟨rfl, trivial⟩) ?_
      exact hE (v2)
    · refine XE_iload_n (n := 18) dX6_span_17 rfl rfl rfl ?_
      refine XE_aload_n (n := 19) dX6_span_18 rfl rfl rfl ?_
      refine XE_iload_n (n := 20) dX6_span_19 rfl rfl rfl ?_
      refine XE_callV (ni := 1) (As := [.int v3]) (π := [2]) (co := [0, 1, 3, 4, 5, 6, 7, 8, 9, 10, 11, 12, 13, 14, 15, 16]) (cv := [m0, m1, m3, m4, m5, m6, m7, m8, m9, m10, m11, m12, m13, m14, m15, m16]) (nn := 17) (hs2 := fun t4 => [m0, m1, t1, m3, m4, m5, m6, m7, m8, m9, m10, m11, m12, m13, m14, m15, m16]) (st2 := fun t4 => [.int t4, .int v2]) (n := 23) (b := 128) xc_X6_197 (fun l t ht => met_X2_waitOf l t1 v3 t ht) rfl rfl rfl rfl rfl dX6_span_20 (Nat.le_of_ble_eq_true rfl) ⟨Nat.zero_le _, Nat.zero_le _⟩ (Nat.le_of_ble_eq_true rfl) (Nat.le_of_ble_eq_true rfl) ok_35 rfl rfl rfl (fun _ => rfl) (fun _ => rfl) (fun _ => rfl) rfl (fun _ => rfl) rfl (fun t4 => ?_)
      refine XE_mmax (n := 26) xp_X6_293 rfl (Nat.le_of_ble_eq_true rfl) (Nat.le_of_ble_eq_true rfl) dX6_span_23 rfl ?_
      refine XE_topi (fun v5 => ?_)
      refine XE_istore_n (i := 2) (n := 27) dX6_span_26 rfl rfl (Nat.le_of_ble_eq_true rfl) rfl ?_
      refine XE_iincl (n := 30) dX6_span_27 rfl rfl (by decide) (Nat.le_of_ble_eq_true rfl) rfl (fun v6 => ?_)
      refine XE_goto (n := 9) dX6_span_30 rfl ?_
      refine XE_ls (x_sub_ok (ls' := [(1, some (.ref 128)), (2, some (.int v5)), (3, some (.int v6))]) ⟨rfl, rfl, rfl, trivial⟩) ?_
      exact ih v5 v6
set_option maxRecDepth 100000 in
theorem xe_X6_span (B : XB) (m0 : Mem) (m1 : Mem) (m2 : Mem) (m3 : Mem) (m4 : Mem) (m5 : Mem) (m6 : Mem) (m7 : Mem) (m8 : Mem) (m9 : Mem) (m10 : Mem) (m11 : Mem) (m12 : Mem) (m13 : Mem) (m14 : Mem) (m15 : Mem) (m16 : Mem) : XE B M_X6_span (XQm B 0 0 SH_X) 0 [(0, some (.ref 0))] [] (0, 0) SH_X [m0, m1, m2, m3, m4, m5, m6, m7, m8, m9, m10, m11, m12, m13, m14, m15, m16] (fun t => some (some (.int t.1), [m0, m1, t.2, m3, m4, m5, m6, m7, m8, m9, m10, m11, m12, m13, m14, m15, m16])) (f_X6_span m0 m1 m2) := by
  unfold f_X6_span
  refine XE_aload_n (n := 1) dX6_span_0 rfl rfl rfl ?_
  refine XE_callVi (ni := 0) (As := []) (st2 := fun t1 => [.ref 128]) (n := 4) (b := 0) xc_X6_184 (fun l t ht => met_X6_inMind l m0 m1 m2 m3 m4 m5 m6 m7 m8 m9 m10 m11 m12 m13 m14 m15 m16 t ht) rfl rfl rfl rfl dX6_span_1 (Nat.le_of_ble_eq_true rfl) ⟨Nat.zero_le _, Nat.zero_le _⟩ (Nat.le_of_ble_eq_true rfl) (Nat.le_of_ble_eq_true rfl) (fun _ => rfl) rfl (fun t1 => ?_)
  refine XE_astore_n (i := 1) (n := 5) dX6_span_4 rfl rfl (Nat.le_of_ble_eq_true rfl) rfl ?_
  refine XE_iconst (v := 0) (n := 6) dX6_span_5 rfl (by decide) ?_
  refine XE_istore_n (i := 2) (n := 7) dX6_span_6 rfl rfl (Nat.le_of_ble_eq_true rfl) rfl ?_
  refine XE_iconst (v := 0) (n := 8) dX6_span_7 rfl (by decide) ?_
  refine XE_istore_n (i := 3) (n := 9) dX6_span_8 rfl rfl (Nat.le_of_ble_eq_true rfl) rfl ?_
  refine XE_ls (x_sub_ok (ls' := [(1, some (.ref 128)), (2, some (.int 0)), (3, some (.int 0))]) ⟨rfl, rfl, rfl, trivial⟩) ?_
  refine XE_reg (J := 33) (lsJ := fun t8 => [(2, some (.int t8))]) (stJ := fun t8 => []) (hsJ := fun t8 => [m0, m1, t1, m3, m4, m5, m6, m7, m8, m9, m10, m11, m12, m13, m14, m15, m16]) (fun t8 => ?_) (fun hJ9 => f_X6_span_L9_x B m0 m1 m3 m4 m5 m6 m7 m8 m9 m10 m11 m12 m13 m14 m15 m16 t1 hJ9 6000 (0 : Int32) (0 : Int32))
  refine XE_iload_n (n := 34) dX6_span_33 rfl rfl rfl ?_
  exact XE_ireturn rfl dX6_span_34 rfl (Nat.le_refl _) (Nat.le_refl _)
theorem met_X6_span (l : Launch) (m0 : Mem) (m1 : Mem) (m2 : Mem) (m3 : Mem) (m4 : Mem) (m5 : Mem) (m6 : Mem) (m7 : Mem) (m8 : Mem) (m9 : Mem) (m10 : Mem) (m11 : Mem) (m12 : Mem) (m13 : Mem) (m14 : Mem) (m15 : Mem) (m16 : Mem) (t : Int32 × Mem) (ht : f_X6_span m0 m1 m2 = some t) : XMet l yX6_span cX6_span 4 (some .int) 6 0 0 [.ref 0] SH_X [m0, m1, m2, m3, m4, m5, m6, m7, m8, m9, m10, m11, m12, m13, m14, m15, m16] SH_X (some (.int t.1), [m0, m1, t.2, m3, m4, m5, m6, m7, m8, m9, m10, m11, m12, m13, m14, m15, m16]) := XMet.of (by decide +kernel) (fun _ => Nat.le_of_ble_eq_true rfl) (fun B => xe_X6_span B m0 m1 m2 m3 m4 m5 m6 m7 m8 m9 m10 m11 m12 m13 m14 m15 m16) (by rw [ht]; rfl)
/-! X6_swap: EveryTwentyMinutes.swap()I in world X at (0,) -/
abbrev M_X6_swap : XM := (RX6, cX6_swap, 7, (some .int), "swap", 6, 0, 0)
def f_X6_swap_L29 (m0 : Mem) (m1 : Mem) (v5 : Int32) : Nat → Int32 → Int32 → Int32 → Mem → Option (Int32 × Int32 × Mem)
  | 0, _, _, _, _ => none
  | n + 1, v8, v9, v10, w11 =>
    if (m1 0 0) ≤ v10 then
      some (v8, v9, w11)
    else
      (f_X2_isWed m1 v5).bind fun t12 =>
      if t12 = 0 then
        (f_X2_isWed m1 v10).bind fun t14 =>
        if t14 = 0 then
          (f_X6_asNow m0 m1 w11).bind fun t16 =>
          (f_X2_changePlaces t16 v5 v10).bind fun t17 =>
          (f_X6_lateBy t17).bind fun t18 =>
          lt t18.1 fun v19 =>
          if v8 ≤ v19 then
            lt (v10 + 1) fun v20 =>
            (f_X6_swap_L29 m0 m1 v5 n) v8 v9 v20 t18.2
          else
            lt ((10 * v5) + v10) fun v21 =>
            lt (v10 + 1) fun v22 =>
            (f_X6_swap_L29 m0 m1 v5 n) v19 v21 v22 t18.2
        else
          lt (v10 + 1) fun v15 =>
          (f_X6_swap_L29 m0 m1 v5 n) v8 v9 v15 w11
      else
        lt (v10 + 1) fun v13 =>
        (f_X6_swap_L29 m0 m1 v5 n) v8 v9 v13 w11
def f_X6_swap_L13 (m0 : Mem) (m1 : Mem) : Nat → Int32 → Int32 → Int32 → Mem → Option (Int32 × Mem)
  | 0, _, _, _, _ => none
  | n + 1, v3, v4, v5, w6 =>
    if (m1 0 0) ≤ v5 then
      some (v4, w6)
    else
      lt (v5 + 1) fun v7 =>
      (f_X6_swap_L29 m0 m1 v5 6000 v3 v4 v7 w6).bind fun t27 =>
      lt (v5 + 1) fun v28 =>
      (f_X6_swap_L13 m0 m1 n) t27.1 t27.2.1 v28 t27.2.2
def f_X6_swap (m0 : Mem) (m1 : Mem) (m2 : Mem) : Option (Int32 × Mem) :=
  (f_X6_inMind m0 m1 m2).bind fun t1 =>
  (f_X2_allLate t1).bind fun t2 =>
  (f_X6_swap_L13 m0 m1 6000 t2 ((-9) : Int32) (0 : Int32) t1).bind fun t31 =>
  some (t31.1, t31.2)
set_option maxRecDepth 100000 in
theorem f_X6_swap_L29_x {α R : Type} (B : XB) {Q : R → State → Prop} {k : α → Option R} {r : (Int32 × Int32 × Mem) → Option α} (m0 : Mem) (m1 : Mem) (m3 : Mem) (m4 : Mem) (m5 : Mem) (m6 : Mem) (m7 : Mem) (m8 : Mem) (m9 : Mem) (m10 : Mem) (m11 : Mem) (m12 : Mem) (m13 : Mem) (m14 : Mem) (m15 : Mem) (m16 : Mem) (v5 : Int32) (hE : ∀ t0 : (Int32 × Int32 × Mem), XE B M_X6_swap Q 108 [(0, some (.ref 0)), (1, some (.int t0.1)), (2, some (.int t0.2.1)), (3, some (.int v5))] [] (0, 0) SH_X [m0, m1, t0.2.2, m3, m4, m5, m6, m7, m8, m9, m10, m11, m12, m13, m14, m15, m16] (fun t => (r t).bind k) (some t0)) : ∀ (n : Nat) (v8 : Int32) (v9 : Int32) (v10 : Int32) (w11 : Mem), XE B M_X6_swap Q 29 [(0, some (.ref 0)), (1, some (.int v8)), (2, some (.int v9)), (3, some (.int v5)), (4, some (.int v10))] [] (0, 0) SH_X [m0, m1, w11, m3, m4, m5, m6, m7, m8, m9, m10, m11, m12, m13, m14, m15, m16] (fun t => (r t).bind k) (f_X6_swap_L29 m0 m1 v5 n v8 v9 v10 w11) := by
  intro n
  induction n with
  | zero => intros; exact XE_none
  | succ n ih =>
    intro v8 v9 v10 w11
    rw [f_X6_swap_L29]
    refine XE_iload (n := 31) dX6_swap_29 rfl rfl ?_
    refine XE_aload_n (n := 32) dX6_swap_31 rfl rfl rfl ?_
    refine XE_getr (b := 64) (n := 35) xf_X6_10 rfl rfl dX6_swap_32 rfl ?_
    refine XE_getf (v := m1 0 0) (n := 38) xf_X6_148 rfl rfl rfl dX6_swap_35 rfl ?_
    refine XE_icmp_ge (t := 108) (n := 41) dX6_swap_38 rfl rfl (fun h26 => ?_) (fun h26 => ?_)
    · refine XE_ls (x_sub_ok (ls' := [(0, some (.ref 0)), (1, some (.int v8)), (2, some (.int v9)), (3, some (.int v5))]) ⟨rfl, rfl, rfl, rfl, trivial⟩) ?_
      exact hE (v8, v9, w11)
    · refine XE_aload_n (n := 42) dX6_swap_41 rfl rfl rfl ?_
      refine XE_getr (b := 64) (n := 45) xf_X6_10 rfl rfl dX6_swap_42 rfl ?_
      refine XE_iload_n (n := 46) dX6_swap_45 rfl rfl rfl ?_
      refine XE_callV (ni := 1) (As := [.int v5]) (π := [1]) (co := [0, 2, 3, 4, 5, 6, 7, 8, 9, 10, 11, 12, 13, 14, 15, 16]) (cv := [m0, w11, m3, m4, m5, m6, m7, m8, m9, m10, m11, m12, m13, m14, m15, m16]) (nn := 17) (hs2 := fun t12 => [m0, m1, w11, m3, m4, m5, m6, m7, m8, m9, m10, m11, m12, m13, m14, m15, m16]) (st2 := fun t12 => [.int t12]) (n := 49) (b := 64) xc_X6_107 (fun l t ht => met_X2_isWed l m1 v5 t ht) rfl rfl rfl rfl rfl dX6_swap_46 (Nat.le_of_ble_eq_true rfl) ⟨Nat.zero_le _, Nat.zero_le _⟩ (Nat.le_of_ble_eq_true rfl) (Nat.le_of_ble_eq_true rfl) ok_32 rfl rfl rfl (fun _ => rfl) (fun _ => rfl) (fun _ => rfl) rfl (fun _ => rfl) rfl (fun t12 => ?_)
      refine XE_if_ne (t := 102) (n := 52) dX6_swap_49 rfl rfl (fun h25 => ?_) (fun h25 => ?_)
      · refine XE_aload_n (n := 53) dX6_swap_52 rfl rfl rfl ?_
        refine XE_getr (b := 64) (n := 56) xf_X6_10 rfl rfl dX6_swap_53 rfl ?_
        refine XE_iload (n := 58) dX6_swap_56 rfl rfl ?_
        refine XE_callV (ni := 1) (As := [.int v10]) (π := [1]) (co := [0, 2, 3, 4, 5, 6, 7, 8, 9, 10, 11, 12, 13, 14, 15, 16]) (cv := [m0, w11, m3, m4, m5, m6, m7, m8, m9, m10, m11, m12, m13, m14, m15, m16]) (nn := 17) (hs2 := fun t14 => [m0, m1, w11, m3, m4, m5, m6, m7, m8, m9, m10, m11, m12, m13, m14, m15, m16]) (st2 := fun t14 => [.int t14]) (n := 61) (b := 64) xc_X6_107 (fun l t ht => met_X2_isWed l m1 v10 t ht) rfl rfl rfl rfl rfl dX6_swap_58 (Nat.le_of_ble_eq_true rfl) ⟨Nat.zero_le _, Nat.zero_le _⟩ (Nat.le_of_ble_eq_true rfl) (Nat.le_of_ble_eq_true rfl) ok_32 rfl rfl rfl (fun _ => rfl) (fun _ => rfl) (fun _ => rfl) rfl (fun _ => rfl) rfl (fun t14 => ?_)
        refine XE_if_ne (t := 102) (n := 64) dX6_swap_61 rfl rfl (fun h24 => ?_) (fun h24 => ?_)
        · refine XE_aload_n (n := 65) dX6_swap_64 rfl rfl rfl ?_
          refine XE_callVi (ni := 0) (As := []) (st2 := fun t16 => [.ref 128]) (n := 68) (b := 0) xc_X6_80 (fun l t ht => met_X6_asNow l m0 m1 w11 m3 m4 m5 m6 m7 m8 m9 m10 m11 m12 m13 m14 m15 m16 t ht) rfl rfl rfl rfl dX6_swap_65 (Nat.le_of_ble_eq_true rfl) ⟨Nat.zero_le _, Nat.zero_le _⟩ (Nat.le_of_ble_eq_true rfl) (Nat.le_of_ble_eq_true rfl) (fun _ => rfl) rfl (fun t16 => ?_)
          refine XE_astore (i := 5) (n := 70) dX6_swap_68 rfl (Nat.le_of_ble_eq_true rfl) rfl ?_
          refine XE_aload (n := 72) dX6_swap_70 rfl rfl ?_
          refine XE_iload_n (n := 73) dX6_swap_72 rfl rfl rfl ?_
          refine XE_iload (n := 75) dX6_swap_73 rfl rfl ?_
          refine XE_callV (ni := 2) (As := [.int v5, .int v10]) (π := [2]) (co := [0, 1, 3, 4, 5, 6, 7, 8, 9, 10, 11, 12, 13, 14, 15, 16]) (cv := [m0, m1, m3, m4, m5, m6, m7, m8, m9, m10, m11, m12, m13, m14, m15, m16]) (nn := 17) (hs2 := fun t17 => [m0, m1, t17, m3, m4, m5, m6, m7, m8, m9, m10, m11, m12, m13, m14, m15, m16]) (st2 := fun t17 => []) (n := 78) (b := 128) xc_X6_296 (fun l t ht => met_X2_changePlaces l t16 v5 v10 t ht) rfl rfl rfl rfl rfl dX6_swap_75 (Nat.le_of_ble_eq_true rfl) ⟨Nat.zero_le _, Nat.zero_le _⟩ (Nat.le_of_ble_eq_true rfl) (Nat.le_of_ble_eq_true rfl) ok_35 rfl rfl rfl (fun _ => rfl) (fun _ => rfl) (fun _ => rfl) rfl (fun _ => rfl) rfl (fun t17 => ?_)
          refine XE_aload (n := 80) dX6_swap_78 rfl rfl ?_
          refine XE_callS (ni := 1) (As := [.ref 128]) (π := [2]) (co := [0, 1, 3, 4, 5, 6, 7, 8, 9, 10, 11, 12, 13, 14, 15, 16]) (cv := [m0, m1, m3, m4, m5, m6, m7, m8, m9, m10, m11, m12, m13, m14, m15, m16]) (nn := 17) (hs2 := fun t18 => [m0, m1, t18.2, m3, m4, m5, m6, m7, m8, m9, m10, m11, m12, m13, m14, m15, m16]) (st2 := fun t18 => [.int t18.1]) (n := 83) xc_X6_223 (fun l t ht => met_X6_lateBy l t17 t ht) rfl rfl rfl dX6_swap_80 (Nat.le_of_ble_eq_true rfl) ⟨Nat.zero_le _, Nat.zero_le _⟩ (Nat.le_of_ble_eq_true rfl) (Nat.le_of_ble_eq_true rfl) ok_35 rfl rfl rfl (fun _ => rfl) (fun _ => rfl) (fun _ => rfl) rfl (fun _ => rfl) rfl (fun t18 => ?_)
          refine XE_topi (fun v19 => ?_)
          refine XE_istore (i := 6) (n := 85) dX6_swap_83 rfl (Nat.le_of_ble_eq_true rfl) rfl ?_
          refine XE_iload (n := 87) dX6_swap_85 rfl rfl ?_
          refine XE_iload_n (n := 88) dX6_swap_87 rfl rfl rfl ?_
          refine XE_icmp_ge (t := 102) (n := 91) dX6_swap_88 rfl rfl (fun h23 => ?_) (fun h23 => ?_)
          · refine XE_iincl (n := 105) dX6_swap_102 rfl rfl (by decide) (Nat.le_of_ble_eq_true rfl) rfl (fun v20 => ?_)
            refine XE_goto (n := 29) dX6_swap_105 rfl ?_
            refine XE_ls (x_sub_ok (ls' := [(0, some (.ref 0)), (1, some (.int v8)), (2, some (.int v9)), (3, some (.int v5)), (4, some (.int v20))]) ⟨rfl, rfl, rfl, rfl, rfl, trivial⟩) ?_
            exact ih v8 v9 v20 t18.2
          · refine XE_iload (n := 93) dX6_swap_91 rfl rfl ?_
            refine XE_istore_n (i := 1) (n := 94) dX6_swap_93 rfl rfl (Nat.le_of_ble_eq_true rfl) rfl ?_
            refine XE_bipush (v := 10) (n := 96) dX6_swap_94 rfl (by decide) ?_
            refine XE_iload_n (n := 97) dX6_swap_96 rfl rfl rfl ?_
            refine XE_imul (n := 98) dX6_swap_97 rfl ?_
            refine XE_iload (n := 100) dX6_swap_98 rfl rfl ?_
            refine XE_iadd (n := 101) dX6_swap_100 rfl ?_
            refine XE_topi (fun v21 => ?_)
            refine XE_istore_n (i := 2) (n := 102) dX6_swap_101 rfl rfl (Nat.le_of_ble_eq_true rfl) rfl ?_
            refine XE_iincl (n := 105) dX6_swap_102 rfl rfl (by decide) (Nat.le_of_ble_eq_true rfl) rfl (fun v22 => ?_)
            refine XE_goto (n := 29) dX6_swap_105 rfl ?_
            refine XE_ls (x_sub_ok (ls' := [(0, some (.ref 0)), (1, some (.int v19)), (2, some (.int v21)), (3, some (.int v5)), (4, some (.int v22))]) ⟨rfl, rfl, rfl, rfl, rfl, trivial⟩) ?_
            exact ih v19 v21 v22 t18.2
        · refine XE_iincl (n := 105) dX6_swap_102 rfl rfl (by decide) (Nat.le_of_ble_eq_true rfl) rfl (fun v15 => ?_)
          refine XE_goto (n := 29) dX6_swap_105 rfl ?_
          refine XE_ls (x_sub_ok (ls' := [(0, some (.ref 0)), (1, some (.int v8)), (2, some (.int v9)), (3, some (.int v5)), (4, some (.int v15))]) ⟨rfl, rfl, rfl, rfl, rfl, trivial⟩) ?_
          exact ih v8 v9 v15 w11
      · refine XE_iincl (n := 105) dX6_swap_102 rfl rfl (by decide) (Nat.le_of_ble_eq_true rfl) rfl (fun v13 => ?_)
        refine XE_goto (n := 29) dX6_swap_105 rfl ?_
        refine XE_ls (x_sub_ok (ls' := [(0, some (.ref 0)), (1, some (.int v8)), (2, some (.int v9)), (3, some (.int v5)), (4, some (.int v13))]) ⟨rfl, rfl, rfl, rfl, rfl, trivial⟩) ?_
        exact ih v8 v9 v13 w11
set_option maxRecDepth 100000 in
theorem f_X6_swap_L13_x {α R : Type} (B : XB) {Q : R → State → Prop} {k : α → Option R} {r : (Int32 × Mem) → Option α} (m0 : Mem) (m1 : Mem) (m3 : Mem) (m4 : Mem) (m5 : Mem) (m6 : Mem) (m7 : Mem) (m8 : Mem) (m9 : Mem) (m10 : Mem) (m11 : Mem) (m12 : Mem) (m13 : Mem) (m14 : Mem) (m15 : Mem) (m16 : Mem) (hE : ∀ t0 : (Int32 × Mem), XE B M_X6_swap Q 114 [(2, some (.int t0.1))] [] (0, 0) SH_X [m0, m1, t0.2, m3, m4, m5, m6, m7, m8, m9, m10, m11, m12, m13, m14, m15, m16] (fun t => (r t).bind k) (some t0)) : ∀ (n : Nat) (v3 : Int32) (v4 : Int32) (v5 : Int32) (w6 : Mem), XE B M_X6_swap Q 13 [(0, some (.ref 0)), (1, some (.int v3)), (2, some (.int v4)), (3, some (.int v5))] [] (0, 0) SH_X [m0, m1, w6, m3, m4, m5, m6, m7, m8, m9, m10, m11, m12, m13, m14, m15, m16] (fun t => (r t).bind k) (f_X6_swap_L13 m0 m1 n v3 v4 v5 w6) := by
  intro n
  induction n with
  | zero => intros; exact XE_none
  | succ n ih =>
    intro v3 v4 v5 w6
    rw [f_X6_swap_L13]
    refine XE_iload_n (n := 14) dX6_swap_13 rfl rfl rfl ?_
    refine XE_aload_n (n := 15) dX6_swap_14 rfl rfl rfl ?_
    refine XE_getr (b := 64) (n := 18) xf_X6_10 rfl rfl dX6_swap_15 rfl ?_
    refine XE_getf (v := m1 0 0) (n := 21) xf_X6_148 rfl rfl rfl dX6_swap_18 rfl ?_
    refine XE_icmp_ge (t := 114) (n := 24) dX6_swap_21 rfl rfl (fun h30 => ?_) (fun h30 => ?_)
    · refine XE_ls (x_sub_ok (ls' := [(2, some (.int v4))]) ⟨rfl, trivial⟩) ?_
      exact hE (v4, w6)
    · refine XE_iload_n (n := 25) dX6_swap_24 rfl rfl rfl ?_
      refine XE_iconst (v := 1) (n := 26) dX6_swap_25 rfl (by decide) ?_
      refine XE_iadd (n := 27) dX6_swap_26 rfl ?_
      refine XE_topi (fun v7 => ?_)
      refine XE_istore (i := 4) (n := 29) dX6_swap_27 rfl (Nat.le_of_ble_eq_true rfl) rfl ?_
      refine XE_ls (x_sub_ok (ls' := [(0, some (.ref 0)), (1, some (.int v3)), (2, some (.int v4)), (3, some (.int v5)), (4, some (.int v7))]) ⟨rfl, rfl, rfl, rfl, rfl, trivial⟩) ?_
      refine XE_reg (J := 108) (lsJ := fun t27 => [(0, some (.ref 0)), (1, some (.int t27.1)), (2, some (.int t27.2.1)), (3, some (.int v5))]) (stJ := fun t27 => []) (hsJ := fun t27 => [m0, m1, t27.2.2, m3, m4, m5, m6, m7, m8, m9, m10, m11, m12, m13, m14, m15, m16]) (fun t27 => ?_) (fun hJ29 => f_X6_swap_L29_x B m0 m1 m3 m4 m5 m6 m7 m8 m9 m10 m11 m12 m13 m14 m15 m16 v5 hJ29 6000 v3 v4 v7 w6)
      refine XE_iincl (n := 111) dX6_swap_108 rfl rfl (by decide) (Nat.le_of_ble_eq_true rfl) rfl (fun v28 => ?_)
      refine XE_goto (n := 13) dX6_swap_111 rfl ?_
      refine XE_ls (x_sub_ok (ls' := [(0, some (.ref 0)), (1, some (.int t27.1)), (2, some (.int t27.2.1)), (3, some (.int v28))]) ⟨rfl, rfl, rfl, rfl, trivial⟩) ?_
      exact ih t27.1 t27.2.1 v28 t27.2.2
set_option maxRecDepth 100000 in
theorem xe_X6_swap (B : XB) (m0 : Mem) (m1 : Mem) (m2 : Mem) (m3 : Mem) (m4 : Mem) (m5 : Mem) (m6 : Mem) (m7 : Mem) (m8 : Mem) (m9 : Mem) (m10 : Mem) (m11 : Mem) (m12 : Mem) (m13 : Mem) (m14 : Mem) (m15 : Mem) (m16 : Mem) : XE B M_X6_swap (XQm B 0 0 SH_X) 0 [(0, some (.ref 0))] [] (0, 0) SH_X [m0, m1, m2, m3, m4, m5, m6, m7, m8, m9, m10, m11, m12, m13, m14, m15, m16] (fun t => some (some (.int t.1), [m0, m1, t.2, m3, m4, m5, m6, m7, m8, m9, m10, m11, m12, m13, m14, m15, m16])) (f_X6_swap m0 m1 m2) := by
  unfold f_X6_swap
  refine XE_aload_n (n := 1) dX6_swap_0 rfl rfl rfl ?_
  refine XE_callVi (ni := 0) (As := []) (st2 := fun t1 => [.ref 128]) (n := 4) (b := 0) xc_X6_184 (fun l t ht => met_X6_inMind l m0 m1 m2 m3 m4 m5 m6 m7 m8 m9 m10 m11 m12 m13 m14 m15 m16 t ht) rfl rfl rfl rfl dX6_swap_1 (Nat.le_of_ble_eq_true rfl) ⟨Nat.zero_le _, Nat.zero_le _⟩ (Nat.le_of_ble_eq_true rfl) (Nat.le_of_ble_eq_true rfl) (fun _ => rfl) rfl (fun t1 => ?_)
  refine XE_callV (ni := 0) (As := []) (π := [2]) (co := [0, 1, 3, 4, 5, 6, 7, 8, 9, 10, 11, 12, 13, 14, 15, 16]) (cv := [m0, m1, m3, m4, m5, m6, m7, m8, m9, m10, m11, m12, m13, m14, m15, m16]) (nn := 17) (hs2 := fun t2 => [m0, m1, t1, m3, m4, m5, m6, m7, m8, m9, m10, m11, m12, m13, m14, m15, m16]) (st2 := fun t2 => [.int t2]) (n := 7) (b := 128) xc_X6_200 (fun l t ht => met_X2_allLate l t1 t ht) rfl rfl rfl rfl rfl dX6_swap_4 (Nat.le_of_ble_eq_true rfl) ⟨Nat.zero_le _, Nat.zero_le _⟩ (Nat.le_of_ble_eq_true rfl) (Nat.le_of_ble_eq_true rfl) ok_35 rfl rfl rfl (fun _ => rfl) (fun _ => rfl) (fun _ => rfl) rfl (fun _ => rfl) rfl (fun t2 => ?_)
  refine XE_istore_n (i := 1) (n := 8) dX6_swap_7 rfl rfl (Nat.le_of_ble_eq_true rfl) rfl ?_
  refine XE_bipush (v := (-9)) (n := 10) dX6_swap_8 rfl (by decide) ?_
  refine XE_istore_n (i := 2) (n := 11) dX6_swap_10 rfl rfl (Nat.le_of_ble_eq_true rfl) rfl ?_
  refine XE_iconst (v := 0) (n := 12) dX6_swap_11 rfl (by decide) ?_
  refine XE_istore_n (i := 3) (n := 13) dX6_swap_12 rfl rfl (Nat.le_of_ble_eq_true rfl) rfl ?_
  refine XE_ls (x_sub_ok (ls' := [(0, some (.ref 0)), (1, some (.int t2)), (2, some (.int (-9))), (3, some (.int 0))]) ⟨rfl, rfl, rfl, rfl, trivial⟩) ?_
  refine XE_reg (J := 114) (lsJ := fun t31 => [(2, some (.int t31.1))]) (stJ := fun t31 => []) (hsJ := fun t31 => [m0, m1, t31.2, m3, m4, m5, m6, m7, m8, m9, m10, m11, m12, m13, m14, m15, m16]) (fun t31 => ?_) (fun hJ32 => f_X6_swap_L13_x B m0 m1 m3 m4 m5 m6 m7 m8 m9 m10 m11 m12 m13 m14 m15 m16 hJ32 6000 t2 ((-9) : Int32) (0 : Int32) t1)
  refine XE_iload_n (n := 115) dX6_swap_114 rfl rfl rfl ?_
  exact XE_ireturn rfl dX6_swap_115 rfl (Nat.le_refl _) (Nat.le_refl _)
theorem met_X6_swap (l : Launch) (m0 : Mem) (m1 : Mem) (m2 : Mem) (m3 : Mem) (m4 : Mem) (m5 : Mem) (m6 : Mem) (m7 : Mem) (m8 : Mem) (m9 : Mem) (m10 : Mem) (m11 : Mem) (m12 : Mem) (m13 : Mem) (m14 : Mem) (m15 : Mem) (m16 : Mem) (t : Int32 × Mem) (ht : f_X6_swap m0 m1 m2 = some t) : XMet l yX6_swap cX6_swap 7 (some .int) 6 0 0 [.ref 0] SH_X [m0, m1, m2, m3, m4, m5, m6, m7, m8, m9, m10, m11, m12, m13, m14, m15, m16] SH_X (some (.int t.1), [m0, m1, t.2, m3, m4, m5, m6, m7, m8, m9, m10, m11, m12, m13, m14, m15, m16]) := XMet.of (by decide +kernel) (fun _ => Nat.le_of_ble_eq_true rfl) (fun B => xe_X6_swap B m0 m1 m2 m3 m4 m5 m6 m7 m8 m9 m10 m11 m12 m13 m14 m15 m16) (by rw [ht]; rfl)
/-! X6_turned: EveryTwentyMinutes.turned()I in world X at (0,) -/
abbrev M_X6_turned : XM := (RX6, cX6_turned, 3, (some .int), "turned", 6, 0, 0)
def f_X6_turned_L7 (m1 : Mem) : Nat → Int32 → Mem → Option (Mem)
  | 0, _, _ => none
  | n + 1, v2, w3 =>
    if (m1 0 8) ≤ v2 then
      some (w3)
    else
      ck (inb (((m1 0 8) - 1) - v2) 7) <|
      ck (inb v2 7) <|
      lt (xs w3 7 (ix v2) (m1 7 (ix (((m1 0 8) - 1) - v2)))) fun w4 =>
      lt (v2 + 1) fun v5 =>
      (f_X6_turned_L7 m1 n) v5 w4
def f_X6_turned (m0 : Mem) (m1 : Mem) (m2 : Mem) : Option (Int32 × Mem) :=
  (f_X6_asNow m0 m1 m2).bind fun t1 =>
  (f_X6_turned_L7 m1 6000 (0 : Int32) t1).bind fun t7 =>
  (f_X6_lateBy t7).bind fun t8 =>
  some (t8.1, t8.2)
set_option maxRecDepth 100000 in
theorem f_X6_turned_L7_x {α R : Type} (B : XB) {Q : R → State → Prop} {k : α → Option R} {r : (Mem) → Option α} (m0 : Mem) (m1 : Mem) (m3 : Mem) (m4 : Mem) (m5 : Mem) (m6 : Mem) (m7 : Mem) (m8 : Mem) (m9 : Mem) (m10 : Mem) (m11 : Mem) (m12 : Mem) (m13 : Mem) (m14 : Mem) (m15 : Mem) (m16 : Mem) (hE : ∀ t0 : (Mem), XE B M_X6_turned Q 49 [(1, some (.ref 128))] [] (0, 0) SH_X [m0, m1, t0, m3, m4, m5, m6, m7, m8, m9, m10, m11, m12, m13, m14, m15, m16] (fun t => (r t).bind k) (some t0)) : ∀ (n : Nat) (v2 : Int32) (w3 : Mem), XE B M_X6_turned Q 7 [(0, some (.ref 0)), (1, some (.ref 128)), (2, some (.int v2))] [] (0, 0) SH_X [m0, m1, w3, m3, m4, m5, m6, m7, m8, m9, m10, m11, m12, m13, m14, m15, m16] (fun t => (r t).bind k) (f_X6_turned_L7 m1 n v2 w3) := by
  intro n
  induction n with
  | zero => intros; exact XE_none
  | succ n ih =>
    intro v2 w3
    rw [f_X6_turned_L7]
    refine XE_iload_n (n := 8) dX6_turned_7 rfl rfl rfl ?_
    refine XE_aload_n (n := 9) dX6_turned_8 rfl rfl rfl ?_
    refine XE_getr (b := 64) (n := 12) xf_X6_10 rfl rfl dX6_turned_9 rfl ?_
    refine XE_getf (v := m1 0 8) (n := 15) xf_X6_125 rfl rfl rfl dX6_turned_12 rfl ?_
    refine XE_icmp_ge (t := 49) (n := 18) dX6_turned_15 rfl rfl (fun h6 => ?_) (fun h6 => ?_)
    · refine XE_ls (x_sub_ok (ls' := [(1, some (.ref 128))]) ⟨rfl, trivial⟩) ?_
      exact hE (w3)
    · refine XE_aload_n (n := 19) dX6_turned_18 rfl rfl rfl ?_
      refine XE_getr (b := 135) (n := 22) xf_X6_128 rfl rfl dX6_turned_19 rfl ?_
      refine XE_iload_n (n := 23) dX6_turned_22 rfl rfl rfl ?_
      refine XE_aload_n (n := 24) dX6_turned_23 rfl rfl rfl ?_
      refine XE_getr (b := 64) (n := 27) xf_X6_10 rfl rfl dX6_turned_24 rfl ?_
      refine XE_getr (b := 71) (n := 30) xf_X6_128 rfl rfl dX6_turned_27 rfl ?_
      refine XE_aload_n (n := 31) dX6_turned_30 rfl rfl rfl ?_
      refine XE_getr (b := 64) (n := 34) xf_X6_10 rfl rfl dX6_turned_31 rfl ?_
      refine XE_getf (v := m1 0 8) (n := 37) xf_X6_125 rfl rfl rfl dX6_turned_34 rfl ?_
      refine XE_iconst (v := 1) (n := 38) dX6_turned_37 rfl (by decide) ?_
      refine XE_isub (n := 39) dX6_turned_38 rfl ?_
      refine XE_iload_n (n := 40) dX6_turned_39 rfl rfl rfl ?_
      refine XE_isub (n := 41) dX6_turned_40 rfl ?_
      refine XE_iald (row := m1 7) (n := 42) rfl rfl dX6_turned_41 rfl ?_
      refine XE_iast (hs2 := fun w4 => [m0, m1, w4, m3, m4, m5, m6, m7, m8, m9, m10, m11, m12, m13, m14, m15, m16]) (n := 43) rfl rfl rfl (Nat.le_of_ble_eq_true rfl) (fun _ => rfl) dX6_turned_42 rfl (fun w4 => ?_)
      refine XE_iincl (n := 46) dX6_turned_43 rfl rfl (by decide) (Nat.le_of_ble_eq_true rfl) rfl (fun v5 => ?_)
      refine XE_goto (n := 7) dX6_turned_46 rfl ?_
      refine XE_ls (x_sub_ok (ls' := [(0, some (.ref 0)), (1, some (.ref 128)), (2, some (.int v5))]) ⟨rfl, rfl, rfl, trivial⟩) ?_
      exact ih v5 w4
set_option maxRecDepth 100000 in
theorem xe_X6_turned (B : XB) (m0 : Mem) (m1 : Mem) (m2 : Mem) (m3 : Mem) (m4 : Mem) (m5 : Mem) (m6 : Mem) (m7 : Mem) (m8 : Mem) (m9 : Mem) (m10 : Mem) (m11 : Mem) (m12 : Mem) (m13 : Mem) (m14 : Mem) (m15 : Mem) (m16 : Mem) : XE B M_X6_turned (XQm B 0 0 SH_X) 0 [(0, some (.ref 0))] [] (0, 0) SH_X [m0, m1, m2, m3, m4, m5, m6, m7, m8, m9, m10, m11, m12, m13, m14, m15, m16] (fun t => some (some (.int t.1), [m0, m1, t.2, m3, m4, m5, m6, m7, m8, m9, m10, m11, m12, m13, m14, m15, m16])) (f_X6_turned m0 m1 m2) := by
  unfold f_X6_turned
  refine XE_aload_n (n := 1) dX6_turned_0 rfl rfl rfl ?_
  refine XE_callVi (ni := 0) (As := []) (st2 := fun t1 => [.ref 128]) (n := 4) (b := 0) xc_X6_80 (fun l t ht => met_X6_asNow l m0 m1 m2 m3 m4 m5 m6 m7 m8 m9 m10 m11 m12 m13 m14 m15 m16 t ht) rfl rfl rfl rfl dX6_turned_1 (Nat.le_of_ble_eq_true rfl) ⟨Nat.zero_le _, Nat.zero_le _⟩ (Nat.le_of_ble_eq_true rfl) (Nat.le_of_ble_eq_true rfl) (fun _ => rfl) rfl (fun t1 => ?_)
  refine XE_astore_n (i := 1) (n := 5) dX6_turned_4 rfl rfl (Nat.le_of_ble_eq_true rfl) rfl ?_
  refine XE_iconst (v := 0) (n := 6) dX6_turned_5 rfl (by decide) ?_
  refine XE_istore_n (i := 2) (n := 7) dX6_turned_6 rfl rfl (Nat.le_of_ble_eq_true rfl) rfl ?_
  refine XE_ls (x_sub_ok (ls' := [(0, some (.ref 0)), (1, some (.ref 128)), (2, some (.int 0))]) ⟨rfl, rfl, rfl, trivial⟩) ?_
  refine XE_reg (J := 49) (lsJ := fun t7 => [(1, some (.ref 128))]) (stJ := fun t7 => []) (hsJ := fun t7 => [m0, m1, t7, m3, m4, m5, m6, m7, m8, m9, m10, m11, m12, m13, m14, m15, m16]) (fun t7 => ?_) (fun hJ9 => f_X6_turned_L7_x B m0 m1 m3 m4 m5 m6 m7 m8 m9 m10 m11 m12 m13 m14 m15 m16 hJ9 6000 (0 : Int32) t1)
  refine XE_aload_n (n := 50) dX6_turned_49 rfl rfl rfl ?_
  refine XE_callS (ni := 1) (As := [.ref 128]) (π := [2]) (co := [0, 1, 3, 4, 5, 6, 7, 8, 9, 10, 11, 12, 13, 14, 15, 16]) (cv := [m0, m1, m3, m4, m5, m6, m7, m8, m9, m10, m11, m12, m13, m14, m15, m16]) (nn := 17) (hs2 := fun t8 => [m0, m1, t8.2, m3, m4, m5, m6, m7, m8, m9, m10, m11, m12, m13, m14, m15, m16]) (st2 := fun t8 => [.int t8.1]) (n := 53) xc_X6_223 (fun l t ht => met_X6_lateBy l t7 t ht) rfl rfl rfl dX6_turned_50 (Nat.le_of_ble_eq_true rfl) ⟨Nat.zero_le _, Nat.zero_le _⟩ (Nat.le_of_ble_eq_true rfl) (Nat.le_of_ble_eq_true rfl) ok_35 rfl rfl rfl (fun _ => rfl) (fun _ => rfl) (fun _ => rfl) rfl (fun _ => rfl) rfl (fun t8 => ?_)
  exact XE_ireturn rfl dX6_turned_53 rfl (Nat.le_refl _) (Nat.le_refl _)
theorem met_X6_turned (l : Launch) (m0 : Mem) (m1 : Mem) (m2 : Mem) (m3 : Mem) (m4 : Mem) (m5 : Mem) (m6 : Mem) (m7 : Mem) (m8 : Mem) (m9 : Mem) (m10 : Mem) (m11 : Mem) (m12 : Mem) (m13 : Mem) (m14 : Mem) (m15 : Mem) (m16 : Mem) (t : Int32 × Mem) (ht : f_X6_turned m0 m1 m2 = some t) : XMet l yX6_turned cX6_turned 3 (some .int) 6 0 0 [.ref 0] SH_X [m0, m1, m2, m3, m4, m5, m6, m7, m8, m9, m10, m11, m12, m13, m14, m15, m16] SH_X (some (.int t.1), [m0, m1, t.2, m3, m4, m5, m6, m7, m8, m9, m10, m11, m12, m13, m14, m15, m16]) := XMet.of (by decide +kernel) (fun _ => Nat.le_of_ble_eq_true rfl) (fun B => xe_X6_turned B m0 m1 m2 m3 m4 m5 m6 m7 m8 m9 m10 m11 m12 m13 m14 m15 m16) (by rw [ht]; rfl)
/-! X6_shift: EveryTwentyMinutes.shift()I in world X at (0,) -/
abbrev M_X6_shift : XM := (RX6, cX6_shift, 4, (some .int), "shift", 5, 0, 0)
def f_X6_shift_L15 (m1 : Mem) (v1 : Int32) : Nat → Int32 → Mem → Option (Mem)
  | 0, _, _ => none
  | n + 1, v4, w5 =>
    if (m1 0 0) ≤ v4 then
      some (w5)
    else
      (f_X2_isWed m1 v4).bind fun t6 =>
      if t6 = 0 then
        ck (inb v4 7) <|
        ck (inb v4 7) <|
        lt (xs w5 3 (ix v4) ((w5 3 (ix v4)) + v1)) fun w8 =>
        lt (v4 + 1) fun v9 =>
        (f_X6_shift_L15 m1 v1 n) v9 w8
      else
        lt (v4 + 1) fun v7 =>
        (f_X6_shift_L15 m1 v1 n) v7 w5
def f_X6_shift_L2 (m0 : Mem) (m1 : Mem) : Nat → Int32 → Mem → Option (Int32 × Mem)
  | 0, _, _ => none
  | n + 1, v1, w2 =>
    if 60 < v1 then
      some (((-9) : Int32), w2)
    else
      (f_X6_asNow m0 m1 w2).bind fun t3 =>
      (f_X6_shift_L15 m1 v1 6000 (0 : Int32) t3).bind fun t12 =>
      (f_X2_wedAll t12).bind fun t13 =>
      (f_X2_allLate t13).bind fun t14 =>
      (f_X2_lateOfWed m1).bind fun t15 =>
      if t14 = t15 then
        some (v1, t13)
      else
        lt (v1 + 1) fun v16 =>
        (f_X6_shift_L2 m0 m1 n) v16 t13
def f_X6_shift (m0 : Mem) (m1 : Mem) (m2 : Mem) : Option (Int32 × Mem) :=
  f_X6_shift_L2 m0 m1 6000 (0 : Int32) m2
set_option maxRecDepth 100000 in
theorem f_X6_shift_L15_x {α R : Type} (B : XB) {Q : R → State → Prop} {k : α → Option R} {r : (Mem) → Option α} (m0 : Mem) (m1 : Mem) (m3 : Mem) (m4 : Mem) (m5 : Mem) (m6 : Mem) (m7 : Mem) (m8 : Mem) (m9 : Mem) (m10 : Mem) (m11 : Mem) (m12 : Mem) (m13 : Mem) (m14 : Mem) (m15 : Mem) (m16 : Mem) (v1 : Int32) (hE : ∀ t0 : (Mem), XE B M_X6_shift Q 53 [(0, some (.ref 0)), (1, some (.int v1)), (2, some (.ref 128))] [] (0, 0) SH_X [m0, m1, t0, m3, m4, m5, m6, m7, m8, m9, m10, m11, m12, m13, m14, m15, m16] (fun t => (r t).bind k) (some t0)) : ∀ (n : Nat) (v4 : Int32) (w5 : Mem), XE B M_X6_shift Q 15 [(0, some (.ref 0)), (1, some (.int v1)), (2, some (.ref 128)), (3, some (.int v4))] [] (0, 0) SH_X [m0, m1, w5, m3, m4, m5, m6, m7, m8, m9, m10, m11, m12, m13, m14, m15, m16] (fun t => (r t).bind k) (f_X6_shift_L15 m1 v1 n v4 w5) := by
  intro n
  induction n with
  | zero => intros; exact XE_none
  | succ n ih =>
    intro v4 w5
    rw [f_X6_shift_L15]
    refine XE_iload_n (n := 16) dX6_shift_15 rfl rfl rfl ?_
    refine XE_aload_n (n := 17) dX6_shift_16 rfl rfl rfl ?_
    refine XE_getr (b := 64) (n := 20) xf_X6_10 rfl rfl dX6_shift_17 rfl ?_
    refine XE_getf (v := m1 0 0) (n := 23) xf_X6_148 rfl rfl rfl dX6_shift_20 rfl ?_
    refine XE_icmp_ge (t := 53) (n := 26) dX6_shift_23 rfl rfl (fun h11 => ?_) (fun h11 => ?_)
    · refine XE_ls (x_sub_ok (ls' := [(0, some (.ref 0)), (1, some (.int v1)), (2, some (.ref 128))]) ⟨rfl, rfl, rfl, trivial⟩) ?_
      exact hE (w5)
    · refine XE_aload_n (n := 27) dX6_shift_26 rfl rfl rfl ?_
      refine XE_getr (b := 64) (n := 30) xf_X6_10 rfl rfl dX6_shift_27 rfl ?_
      refine XE_iload_n (n := 31) dX6_shift_30 rfl rfl rfl ?_
      refine XE_callV (ni := 1) (As := [.int v4]) (π := [1]) (co := [0, 2, 3, 4, 5, 6, 7, 8, 9, 10, 11, 12, 13, 14, 15, 16]) (cv := [m0, w5, m3, m4, m5, m6, m7, m8, m9, m10, m11, m12, m13, m14, m15, m16]) (nn := 17) (hs2 := fun t6 => [m0, m1, w5, m3, m4, m5, m6, m7, m8, m9, m10, m11, m12, m13, m14, m15, m16]) (st2 := fun t6 => [.int t6]) (n := 34) (b := 64) xc_X6_107 (fun l t ht => met_X2_isWed l m1 v4 t ht) rfl rfl rfl rfl rfl dX6_shift_31 (Nat.le_of_ble_eq_true rfl) ⟨Nat.zero_le _, Nat.zero_le _⟩ (Nat.le_of_ble_eq_true rfl) (Nat.le_of_ble_eq_true rfl) ok_32 rfl rfl rfl (fun _ => rfl) (fun _ => rfl) (fun _ => rfl) rfl (fun _ => rfl) rfl (fun t6 => ?_)
      refine XE_if_ne (t := 47) (n := 37) dX6_shift_34 rfl rfl (fun h10 => ?_) (fun h10 => ?_)
      · refine XE_aload_n (n := 38) dX6_shift_37 rfl rfl rfl ?_
        refine XE_getr (b := 131) (n := 41) xf_X6_104 rfl rfl dX6_shift_38 rfl ?_
        refine XE_iload_n (n := 42) dX6_shift_41 rfl rfl rfl ?_
        refine XE_dup2 (n := 43) dX6_shift_42 rfl rfl rfl ?_
        refine XE_iald (row := w5 3) (n := 44) rfl rfl dX6_shift_43 rfl ?_
        refine XE_iload_n (n := 45) dX6_shift_44 rfl rfl rfl ?_
        refine XE_iadd (n := 46) dX6_shift_45 rfl ?_
        refine XE_iast (hs2 := fun w8 => [m0, m1, w8, m3, m4, m5, m6, m7, m8, m9, m10, m11, m12, m13, m14, m15, m16]) (n := 47) rfl rfl rfl (Nat.le_of_ble_eq_true rfl) (fun _ => rfl) dX6_shift_46 rfl (fun w8 => ?_)
        refine XE_iincl (n := 50) dX6_shift_47 rfl rfl (by decide) (Nat.le_of_ble_eq_true rfl) rfl (fun v9 => ?_)
        refine XE_goto (n := 15) dX6_shift_50 rfl ?_
        refine XE_ls (x_sub_ok (ls' := [(0, some (.ref 0)), (1, some (.int v1)), (2, some (.ref 128)), (3, some (.int v9))]) ⟨rfl, rfl, rfl, rfl, trivial⟩) ?_
        exact ih v9 w8
      · refine XE_iincl (n := 50) dX6_shift_47 rfl rfl (by decide) (Nat.le_of_ble_eq_true rfl) rfl (fun v7 => ?_)
        refine XE_goto (n := 15) dX6_shift_50 rfl ?_
        refine XE_ls (x_sub_ok (ls' := [(0, some (.ref 0)), (1, some (.int v1)), (2, some (.ref 128)), (3, some (.int v7))]) ⟨rfl, rfl, rfl, rfl, trivial⟩) ?_
        exact ih v7 w5
set_option maxRecDepth 100000 in
theorem f_X6_shift_L2_x (B : XB) (m0 : Mem) (m1 : Mem) (m3 : Mem) (m4 : Mem) (m5 : Mem) (m6 : Mem) (m7 : Mem) (m8 : Mem) (m9 : Mem) (m10 : Mem) (m11 : Mem) (m12 : Mem) (m13 : Mem) (m14 : Mem) (m15 : Mem) (m16 : Mem) : ∀ (n : Nat) (v1 : Int32) (w2 : Mem), XE B M_X6_shift (XQm B 0 0 SH_X) 2 [(0, some (.ref 0)), (1, some (.int v1))] [] (0, 0) SH_X [m0, m1, w2, m3, m4, m5, m6, m7, m8, m9, m10, m11, m12, m13, m14, m15, m16] (fun t => some (some (.int t.1), [m0, m1, t.2, m3, m4, m5, m6, m7, m8, m9, m10, m11, m12, m13, m14, m15, m16])) (f_X6_shift_L2 m0 m1 n v1 w2) := by
  intro n
  induction n with
  | zero => intros; exact XE_none
  | succ n ih =>
    intro v1 w2
    rw [f_X6_shift_L2]
    refine XE_iload_n (n := 3) dX6_shift_2 rfl rfl rfl ?_
    refine XE_bipush (v := 60) (n := 5) dX6_shift_3 rfl (by decide) ?_
    refine XE_icmp_gt (t := 79) (n := 8) dX6_shift_5 rfl rfl (fun h19 => ?_) (fun h19 => ?_)
    · refine XE_bipush (v := (-9)) (n := 81) dX6_shift_79 rfl (by decide) ?_
      exact XE_ireturn rfl dX6_shift_81 rfl (Nat.le_refl _) (Nat.le_refl _)
    · refine XE_aload_n (n := 9) dX6_shift_8 rfl rfl rfl ?_
      refine XE_callVi (ni := 0) (As := []) (st2 := fun t3 => [.ref 128]) (n := 12) (b := 0) xc_X6_80 (fun l t ht => met_X6_asNow l m0 m1 w2 m3 m4 m5 m6 m7 m8 m9 m10 m11 m12 m13 m14 m15 m16 t ht) rfl rfl rfl rfl dX6_shift_9 (Nat.le_of_ble_eq_true rfl) ⟨Nat.zero_le _, Nat.zero_le _⟩ (Nat.le_of_ble_eq_true rfl) (Nat.le_of_ble_eq_true rfl) (fun _ => rfl) rfl (fun t3 => ?_)
      refine XE_astore_n (i := 2) (n := 13) dX6_shift_12 rfl rfl (Nat.le_of_ble_eq_true rfl) rfl ?_
      refine XE_iconst (v := 0) (n := 14) dX6_shift_13 rfl (by decide) ?_
      refine XE_istore_n (i := 3) (n := 15) dX6_shift_14 rfl rfl (Nat.le_of_ble_eq_true rfl) rfl ?_
      refine XE_ls (x_sub_ok (ls' := [(0, some (.ref 0)), (1, some (.int v1)), (2, some (.ref 128)), (3, some (.int 0))]) ⟨rfl, rfl, rfl, rfl, trivial⟩) ?_
      refine XE_reg (J := 53) (lsJ := fun t12 => [(0, some (.ref 0)), (1, some (.int v1)), (2, some (.ref 128))]) (stJ := fun t12 => []) (hsJ := fun t12 => [m0, m1, t12, m3, m4, m5, m6, m7, m8, m9, m10, m11, m12, m13, m14, m15, m16]) (fun t12 => ?_) (fun hJ18 => f_X6_shift_L15_x B m0 m1 m3 m4 m5 m6 m7 m8 m9 m10 m11 m12 m13 m14 m15 m16 v1 hJ18 6000 (0 : Int32) t3)
      refine XE_aload_n (n := 54) dX6_shift_53 rfl rfl rfl ?_
      refine XE_callV (ni := 0) (As := []) (π := [2]) (co := [0, 1, 3, 4, 5, 6, 7, 8, 9, 10, 11, 12, 13, 14, 15, 16]) (cv := [m0, m1, m3, m4, m5, m6, m7, m8, m9, m10, m11, m12, m13, m14, m15, m16]) (nn := 17) (hs2 := fun t13 => [m0, m1, t13, m3, m4, m5, m6, m7, m8, m9, m10, m11, m12, m13, m14, m15, m16]) (st2 := fun t13 => []) (n := 57) (b := 128) xc_X6_226 (fun l t ht => met_X2_wedAll l t12 t ht) rfl rfl rfl rfl rfl dX6_shift_54 (Nat.le_of_ble_eq_true rfl) ⟨Nat.zero_le _, Nat.zero_le _⟩ (Nat.le_of_ble_eq_true rfl) (Nat.le_of_ble_eq_true rfl) ok_35 rfl rfl rfl (fun _ => rfl) (fun _ => rfl) (fun _ => rfl) rfl (fun _ => rfl) rfl (fun t13 => ?_)
      refine XE_aload_n (n := 58) dX6_shift_57 rfl rfl rfl ?_
      refine XE_callV (ni := 0) (As := []) (π := [2]) (co := [0, 1, 3, 4, 5, 6, 7, 8, 9, 10, 11, 12, 13, 14, 15, 16]) (cv := [m0, m1, m3, m4, m5, m6, m7, m8, m9, m10, m11, m12, m13, m14, m15, m16]) (nn := 17) (hs2 := fun t14 => [m0, m1, t13, m3, m4, m5, m6, m7, m8, m9, m10, m11, m12, m13, m14, m15, m16]) (st2 := fun t14 => [.int t14]) (n := 61) (b := 128) xc_X6_200 (fun l t ht => met_X2_allLate l t13 t ht) rfl rfl rfl rfl rfl dX6_shift_58 (Nat.le_of_ble_eq_true rfl) ⟨Nat.zero_le _, Nat.zero_le _⟩ (Nat.le_of_ble_eq_true rfl) (Nat.le_of_ble_eq_true rfl) ok_35 rfl rfl rfl (fun _ => rfl) (fun _ => rfl) (fun _ => rfl) rfl (fun _ => rfl) rfl (fun t14 => ?_)
      refine XE_aload_n (n := 62) dX6_shift_61 rfl rfl rfl ?_
      refine XE_getr (b := 64) (n := 65) xf_X6_10 rfl rfl dX6_shift_62 rfl ?_
      refine XE_callV (ni := 0) (As := []) (π := [1]) (co := [0, 2, 3, 4, 5, 6, 7, 8, 9, 10, 11, 12, 13, 14, 15, 16]) (cv := [m0, t13, m3, m4, m5, m6, m7, m8, m9, m10, m11, m12, m13, m14, m15, m16]) (nn := 17) (hs2 := fun t15 => [m0, m1, t13, m3, m4, m5, m6, m7, m8, m9, m10, m11, m12, m13, m14, m15, m16]) (st2 := fun t15 => [.int t15, .int t14]) (n := 68) (b := 64) xc_X6_300 (fun l t ht => met_X2_lateOfWed l m1 t ht) rfl rfl rfl rfl rfl dX6_shift_65 (Nat.le_of_ble_eq_true rfl) ⟨Nat.zero_le _, Nat.zero_le _⟩ (Nat.le_of_ble_eq_true rfl) (Nat.le_of_ble_eq_true rfl) ok_32 rfl rfl rfl (fun _ => rfl) (fun _ => rfl) (fun _ => rfl) rfl (fun _ => rfl) rfl (fun t15 => ?_)
      refine XE_icmp_ne (t := 73) (n := 71) dX6_shift_68 rfl rfl (fun h17 => ?_) (fun h17 => ?_)
      · refine XE_iload_n (n := 72) dX6_shift_71 rfl rfl rfl ?_
        exact XE_ireturn rfl dX6_shift_72 rfl (Nat.le_refl _) (Nat.le_refl _)
      · refine XE_iincl (n := 76) dX6_shift_73 rfl rfl (by decide) (Nat.le_of_ble_eq_true rfl) rfl (fun v16 => ?_)
        refine XE_goto (n := 2) dX6_shift_76 rfl ?_
        refine XE_ls (x_sub_ok (ls' := [(0, some (.ref 0)), (1, some (.int v16))]) ⟨rfl, rfl, trivial⟩) ?_
        exact ih v16 t13
set_option maxRecDepth 100000 in
theorem xe_X6_shift (B : XB) (m0 : Mem) (m1 : Mem) (m2 : Mem) (m3 : Mem) (m4 : Mem) (m5 : Mem) (m6 : Mem) (m7 : Mem) (m8 : Mem) (m9 : Mem) (m10 : Mem) (m11 : Mem) (m12 : Mem) (m13 : Mem) (m14 : Mem) (m15 : Mem) (m16 : Mem) : XE B M_X6_shift (XQm B 0 0 SH_X) 0 [(0, some (.ref 0))] [] (0, 0) SH_X [m0, m1, m2, m3, m4, m5, m6, m7, m8, m9, m10, m11, m12, m13, m14, m15, m16] (fun t => some (some (.int t.1), [m0, m1, t.2, m3, m4, m5, m6, m7, m8, m9, m10, m11, m12, m13, m14, m15, m16])) (f_X6_shift m0 m1 m2) := by
  unfold f_X6_shift
  refine XE_iconst (v := 0) (n := 1) dX6_shift_0 rfl (by decide) ?_
  refine XE_istore_n (i := 1) (n := 2) dX6_shift_1 rfl rfl (Nat.le_of_ble_eq_true rfl) rfl ?_
  refine XE_ls (x_sub_ok (ls' := [(0, some (.ref 0)), (1, some (.int 0))]) ⟨rfl, rfl, trivial⟩) ?_
  exact f_X6_shift_L2_x B m0 m1 m3 m4 m5 m6 m7 m8 m9 m10 m11 m12 m13 m14 m15 m16 6000 (0 : Int32) m2
theorem met_X6_shift (l : Launch) (m0 : Mem) (m1 : Mem) (m2 : Mem) (m3 : Mem) (m4 : Mem) (m5 : Mem) (m6 : Mem) (m7 : Mem) (m8 : Mem) (m9 : Mem) (m10 : Mem) (m11 : Mem) (m12 : Mem) (m13 : Mem) (m14 : Mem) (m15 : Mem) (m16 : Mem) (t : Int32 × Mem) (ht : f_X6_shift m0 m1 m2 = some t) : XMet l yX6_shift cX6_shift 4 (some .int) 5 0 0 [.ref 0] SH_X [m0, m1, m2, m3, m4, m5, m6, m7, m8, m9, m10, m11, m12, m13, m14, m15, m16] SH_X (some (.int t.1), [m0, m1, t.2, m3, m4, m5, m6, m7, m8, m9, m10, m11, m12, m13, m14, m15, m16]) := XMet.of (by decide +kernel) (fun _ => Nat.le_of_ble_eq_true rfl) (fun B => xe_X6_shift B m0 m1 m2 m3 m4 m5 m6 m7 m8 m9 m10 m11 m12 m13 m14 m15 m16) (by rw [ht]; rfl)
/-! X6_row: EveryTwentyMinutes.row(I)I in world X at (0,) -/
abbrev M_X6_row : XM := (RX6, cX6_row, 2, (some .int), "row", 2, 0, 0)
def f_X6_row_J27 (m0 : Mem) : Option (Int32 × Mem) :=
  (f_X6_refused m0 (-6)).bind fun t1 =>
  some (t1.1, t1.2)
def f_X6_row (m0 : Mem) (a1 : Int32) : Option (Int32 × Mem) :=
  if 0 ≤ a1 then
    if 999 < a1 then
      f_X6_row_J27 m0
    else
      if (m0 0 9) < 12 then
        ck (inb (m0 0 9) 12) <|
        lt (xs m0 1 (ix (m0 0 9)) a1) fun w2 =>
        lt (xs w2 0 9 ((w2 0 9) + 1)) fun w3 =>
        some ((w3 0 9), w3)
      else
        f_X6_row_J27 m0
  else
    (f_X6_refused m0 (-4)).bind fun t6 =>
    some (t6.1, t6.2)
set_option maxRecDepth 100000 in
theorem f_X6_row_J27_x (B : XB) (m0 : Mem) (m1 : Mem) (m2 : Mem) (m3 : Mem) (m4 : Mem) (m5 : Mem) (m6 : Mem) (m7 : Mem) (m8 : Mem) (m9 : Mem) (m10 : Mem) (m11 : Mem) (m12 : Mem) (m13 : Mem) (m14 : Mem) (m15 : Mem) (m16 : Mem) : XE B M_X6_row (XQm B 0 0 SH_X) 27 [(0, some (.ref 0))] [] (0, 0) SH_X [m0, m1, m2, m3, m4, m5, m6, m7, m8, m9, m10, m11, m12, m13, m14, m15, m16] (fun t => some (some (.int t.1), [t.2, m1, m2, m3, m4, m5, m6, m7, m8, m9, m10, m11, m12, m13, m14, m15, m16])) (f_X6_row_J27 m0) := by
  unfold f_X6_row_J27
  refine XE_aload_n (n := 28) dX6_row_27 rfl rfl rfl ?_
  refine XE_bipush (v := (-6)) (n := 30) dX6_row_28 rfl (by decide) ?_
  refine XE_callVi (ni := 1) (As := [.int (-6)]) (st2 := fun t1 => [.int t1.1]) (n := 33) (b := 0) xc_X6_65 (fun l t ht => met_X6_refused l m0 m1 m2 m3 m4 m5 m6 m7 m8 m9 m10 m11 m12 m13 m14 m15 m16 (-6) t ht) rfl rfl rfl rfl dX6_row_30 (Nat.le_of_ble_eq_true rfl) ⟨Nat.zero_le _, Nat.zero_le _⟩ (Nat.le_of_ble_eq_true rfl) (Nat.le_of_ble_eq_true rfl) (fun _ => rfl) rfl (fun t1 => ?_)
  exact XE_ireturn rfl dX6_row_33 rfl (Nat.le_refl _) (Nat.le_refl _)
set_option maxRecDepth 100000 in
theorem xe_X6_row (B : XB) (m0 : Mem) (m1 : Mem) (m2 : Mem) (m3 : Mem) (m4 : Mem) (m5 : Mem) (m6 : Mem) (m7 : Mem) (m8 : Mem) (m9 : Mem) (m10 : Mem) (m11 : Mem) (m12 : Mem) (m13 : Mem) (m14 : Mem) (m15 : Mem) (m16 : Mem) (a1 : Int32) : XE B M_X6_row (XQm B 0 0 SH_X) 0 [(0, some (.ref 0)), (1, some (.int a1))] [] (0, 0) SH_X [m0, m1, m2, m3, m4, m5, m6, m7, m8, m9, m10, m11, m12, m13, m14, m15, m16] (fun t => some (some (.int t.1), [t.2, m1, m2, m3, m4, m5, m6, m7, m8, m9, m10, m11, m12, m13, m14, m15, m16])) (f_X6_row m0 a1) := by
  unfold f_X6_row
  refine XE_iload_n (n := 1) dX6_row_0 rfl rfl rfl ?_
  refine XE_if_ge (t := 11) (n := 4) dX6_row_1 rfl rfl (fun h7 => ?_) (fun h7 => ?_)
  · refine XE_iload_n (n := 12) dX6_row_11 rfl rfl rfl ?_
    refine XE_sipush (v := 999) (n := 15) dX6_row_12 rfl (by decide) ?_
    refine XE_icmp_gt (t := 27) (n := 18) dX6_row_15 rfl rfl (fun h5 => ?_) (fun h5 => ?_)
    · refine XE_ls (x_sub_ok (ls' := [(0, some (.ref 0))]) ⟨rfl, trivial⟩) ?_
      exact f_X6_row_J27_x B m0 m1 m2 m3 m4 m5 m6 m7 m8 m9 m10 m11 m12 m13 m14 m15 m16
    · refine XE_aload_n (n := 19) dX6_row_18 rfl rfl rfl ?_
      refine XE_getf (v := m0 0 9) (n := 22) xf_X6_58 rfl rfl rfl dX6_row_19 rfl ?_
      refine XE_bipush (v := 12) (n := 24) dX6_row_22 rfl (by decide) ?_
      refine XE_icmp_lt (t := 34) (n := 27) dX6_row_24 rfl rfl (fun h4 => ?_) (fun h4 => ?_)
      · refine XE_aload_n (n := 35) dX6_row_34 rfl rfl rfl ?_
        refine XE_getr (b := 1) (n := 38) xf_X6_54 rfl rfl dX6_row_35 rfl ?_
        refine XE_aload_n (n := 39) dX6_row_38 rfl rfl rfl ?_
        refine XE_getf (v := m0 0 9) (n := 42) xf_X6_58 rfl rfl rfl dX6_row_39 rfl ?_
        refine XE_iload_n (n := 43) dX6_row_42 rfl rfl rfl ?_
        refine XE_iast (hs2 := fun w2 => [w2, m1, m2, m3, m4, m5, m6, m7, m8, m9, m10, m11, m12, m13, m14, m15, m16]) (n := 44) rfl rfl rfl (Nat.le_of_ble_eq_true rfl) (fun _ => rfl) dX6_row_43 rfl (fun w2 => ?_)
        refine XE_aload_n (n := 45) dX6_row_44 rfl rfl rfl ?_
        refine XE_dup (n := 46) dX6_row_45 rfl rfl ?_
        refine XE_getf (v := w2 0 9) (n := 49) xf_X6_58 rfl rfl rfl dX6_row_46 rfl ?_
        refine XE_iconst (v := 1) (n := 50) dX6_row_49 rfl (by decide) ?_
        refine XE_iadd (n := 51) dX6_row_50 rfl ?_
        refine XE_putf (hs2 := fun w3 => [w3, m1, m2, m3, m4, m5, m6, m7, m8, m9, m10, m11, m12, m13, m14, m15, m16]) (n := 54) xf_X6_58 rfl rfl rfl rfl (Nat.le_of_ble_eq_true rfl) (fun _ => rfl) dX6_row_51 rfl (fun w3 => ?_)
        refine XE_aload_n (n := 55) dX6_row_54 rfl rfl rfl ?_
        refine XE_getf (v := w3 0 9) (n := 58) xf_X6_58 rfl rfl rfl dX6_row_55 rfl ?_
        exact XE_ireturn rfl dX6_row_58 rfl (Nat.le_refl _) (Nat.le_refl _)
      · refine XE_ls (x_sub_ok (ls' := [(0, some (.ref 0))]) ⟨rfl, trivial⟩) ?_
        exact f_X6_row_J27_x B m0 m1 m2 m3 m4 m5 m6 m7 m8 m9 m10 m11 m12 m13 m14 m15 m16
  · refine XE_aload_n (n := 5) dX6_row_4 rfl rfl rfl ?_
    refine XE_bipush (v := (-4)) (n := 7) dX6_row_5 rfl (by decide) ?_
    refine XE_callVi (ni := 1) (As := [.int (-4)]) (st2 := fun t6 => [.int t6.1]) (n := 10) (b := 0) xc_X6_65 (fun l t ht => met_X6_refused l m0 m1 m2 m3 m4 m5 m6 m7 m8 m9 m10 m11 m12 m13 m14 m15 m16 (-4) t ht) rfl rfl rfl rfl dX6_row_7 (Nat.le_of_ble_eq_true rfl) ⟨Nat.zero_le _, Nat.zero_le _⟩ (Nat.le_of_ble_eq_true rfl) (Nat.le_of_ble_eq_true rfl) (fun _ => rfl) rfl (fun t6 => ?_)
    exact XE_ireturn rfl dX6_row_10 rfl (Nat.le_refl _) (Nat.le_refl _)
theorem met_X6_row (l : Launch) (m0 : Mem) (m1 : Mem) (m2 : Mem) (m3 : Mem) (m4 : Mem) (m5 : Mem) (m6 : Mem) (m7 : Mem) (m8 : Mem) (m9 : Mem) (m10 : Mem) (m11 : Mem) (m12 : Mem) (m13 : Mem) (m14 : Mem) (m15 : Mem) (m16 : Mem) (a1 : Int32) (t : Int32 × Mem) (ht : f_X6_row m0 a1 = some t) : XMet l yX6_row cX6_row 2 (some .int) 2 0 0 [.ref 0, .int a1] SH_X [m0, m1, m2, m3, m4, m5, m6, m7, m8, m9, m10, m11, m12, m13, m14, m15, m16] SH_X (some (.int t.1), [t.2, m1, m2, m3, m4, m5, m6, m7, m8, m9, m10, m11, m12, m13, m14, m15, m16]) := XMet.of (by decide +kernel) (fun _ => Nat.le_of_ble_eq_true rfl) (fun B => xe_X6_row B m0 m1 m2 m3 m4 m5 m6 m7 m8 m9 m10 m11 m12 m13 m14 m15 m16 a1) (by rw [ht]; rfl)
/-! X6_judge: EveryTwentyMinutes.judge()I in world X at (0,) -/
abbrev M_X6_judge : XM := (RX6, cX6_judge, 4, (some .int), "judge", 6, 0, 0)
def f_X6_judge_L10 (m0 : Mem) (t1 : (Mem)) : Nat → Int32 → Int32 → Option (Int32)
  | 0, _, _ => none
  | n + 1, v2, v3 =>
    if (m0 0 9) ≤ v3 then
      some (v2)
    else
      if v2 = (-9) then
        (f_X2_has t1 v3).bind fun t4 =>
        if t4 = 0 then
          lt (v3 + 1) fun v5 =>
          (f_X6_judge_L10 m0 t1 n) v3 v5
        else
          ck (inb v3 7) <|
          ck (inb v3 12) <|
          if (t1 4 (ix v3)) = (m0 1 (ix v3)) then
            lt (v3 + 1) fun v6 =>
            (f_X6_judge_L10 m0 t1 n) v2 v6
          else
            lt (v3 + 1) fun v7 =>
            (f_X6_judge_L10 m0 t1 n) v3 v7
      else
        some (v2)
def f_X6_judge (m0 : Mem) (m1 : Mem) (m2 : Mem) : Option (Int32 × Mem × Mem) :=
  (f_X6_inMind m0 m1 m2).bind fun t1 =>
  (f_X6_judge_L10 m0 t1 6000 ((-9) : Int32) (0 : Int32)).bind fun t12 =>
  lt (xs m0 0 9 0) fun w13 =>
  some (t12, w13, t1)
set_option maxRecDepth 100000 in
theorem f_X6_judge_L10_x {α R : Type} (B : XB) {Q : R → State → Prop} {k : α → Option R} {r : (Int32) → Option α} (m0 : Mem) (m1 : Mem) (m3 : Mem) (m4 : Mem) (m5 : Mem) (m6 : Mem) (m7 : Mem) (m8 : Mem) (m9 : Mem) (m10 : Mem) (m11 : Mem) (m12 : Mem) (m13 : Mem) (m14 : Mem) (m15 : Mem) (m16 : Mem) (t1 : (Mem)) (hE : ∀ t0 : (Int32), XE B M_X6_judge Q 55 [(0, some (.ref 0)), (2, some (.int t0))] [] (0, 0) SH_X [m0, m1, t1, m3, m4, m5, m6, m7, m8, m9, m10, m11, m12, m13, m14, m15, m16] (fun t => (r t).bind k) (some t0)) : ∀ (n : Nat) (v2 : Int32) (v3 : Int32), XE B M_X6_judge Q 10 [(0, some (.ref 0)), (1, some (.ref 128)), (2, some (.int v2)), (3, some (.int v3))] [] (0, 0) SH_X [m0, m1, t1, m3, m4, m5, m6, m7, m8, m9, m10, m11, m12, m13, m14, m15, m16] (fun t => (r t).bind k) (f_X6_judge_L10 m0 t1 n v2 v3) := by
  intro n
  induction n with
  | zero => intros; exact XE_none
  | succ n ih =>
    intro v2 v3
    rw [f_X6_judge_L10]
    refine XE_iload_n (n := 11) dX6_judge_10 rfl rfl rfl ?_
    refine XE_aload_n (n := 12) dX6_judge_11 rfl rfl rfl ?_
    refine XE_getf (v := m0 0 9) (n := 15) xf_X6_58 rfl rfl rfl dX6_judge_12 rfl ?_
    refine XE_icmp_ge (t := 55) (n := 18) dX6_judge_15 rfl rfl (fun h11 => ?_) (fun h11 => ?_)
    · refine XE_ls (x_sub_ok (ls' := [(0, some (.ref 0)), (2, some (.int v2))]) ⟨rfl, rfl, trivial⟩) ?_
      exact hE (v2)
    · refine XE_iload_n (n := 19) dX6_judge_18 rfl rfl rfl ?_
      refine XE_bipush (v := (-9)) (n := 21) dX6_judge_19 rfl (by decide) ?_
      refine XE_icmp_ne (t := 55) (n := 24) dX6_judge_21 rfl rfl (fun h10 => ?_) (fun h10 => ?_)
      · refine XE_aload_n (n := 25) dX6_judge_24 rfl rfl rfl ?_
        refine XE_iload_n (n := 26) dX6_judge_25 rfl rfl rfl ?_
        refine XE_callV (ni := 1) (As := [.int v3]) (π := [2]) (co := [0, 1, 3, 4, 5, 6, 7, 8, 9, 10, 11, 12, 13, 14, 15, 16]) (cv := [m0, m1, m3, m4, m5, m6, m7, m8, m9, m10, m11, m12, m13, m14, m15, m16]) (nn := 17) (hs2 := fun t4 => [m0, m1, t1, m3, m4, m5, m6, m7, m8, m9, m10, m11, m12, m13, m14, m15, m16]) (st2 := fun t4 => [.int t4]) (n := 29) (b := 128) xc_X6_95 (fun l t ht => met_X2_has l t1 v3 t ht) rfl rfl rfl rfl rfl dX6_judge_26 (Nat.le_of_ble_eq_true rfl) ⟨Nat.zero_le _, Nat.zero_le _⟩ (Nat.le_of_ble_eq_true rfl) (Nat.le_of_ble_eq_true rfl) ok_35 rfl rfl rfl (fun _ => rfl) (fun _ => rfl) (fun _ => rfl) rfl (fun _ => rfl) rfl (fun t4 => ?_)
        refine XE_if_eq (t := 47) (n := 32) dX6_judge_29 rfl rfl (fun h9 => ?_) (fun h9 => ?_)
        · refine XE_iload_n (n := 48) dX6_judge_47 rfl rfl rfl ?_
          refine XE_istore_n (i := 2) (n := 49) dX6_judge_48 rfl rfl (Nat.le_of_ble_eq_true rfl) rfl ?_
          refine XE_iincl (n := 52) dX6_judge_49 rfl rfl (by decide) (Nat.le_of_ble_eq_true rfl) rfl (fun v5 => ?_)
          refine XE_goto (n := 10) dX6_judge_52 rfl ?_
          refine XE_ls (x_sub_ok (ls' := [(0, some (.ref 0)), (1, some (.ref 128)), (2, some (.int v3)), (3, some (.int v5))]) ⟨rfl, rfl, rfl, rfl, trivial⟩) ?_
          exact ih v3 v5
        · refine XE_aload_n (n := 33) dX6_judge_32 rfl rfl rfl ?_
          refine XE_getr (b := 132) (n := 36) xf_X6_187 rfl rfl dX6_judge_33 rfl ?_
          refine XE_iload_n (n := 37) dX6_judge_36 rfl rfl rfl ?_
          refine XE_iald (row := t1 4) (n := 38) rfl rfl dX6_judge_37 rfl ?_
          refine XE_aload_n (n := 39) dX6_judge_38 rfl rfl rfl ?_
          refine XE_getr (b := 1) (n := 42) xf_X6_54 rfl rfl dX6_judge_39 rfl ?_
          refine XE_iload_n (n := 43) dX6_judge_42 rfl rfl rfl ?_
          refine XE_iald (row := m0 1) (n := 44) rfl rfl dX6_judge_43 rfl ?_
          refine XE_icmp_eq (t := 49) (n := 47) dX6_judge_44 rfl rfl (fun h8 => ?_) (fun h8 => ?_)
          · refine XE_iincl (n := 52) dX6_judge_49 rfl rfl (by decide) (Nat.le_of_ble_eq_true rfl) rfl (fun v6 => ?_)
            refine XE_goto (n := 10) dX6_judge_52 rfl ?_
            refine XE_ls (x_sub_ok (ls' := [(0, some (.ref 0)), (1, some (.ref 128)), (2, some (.int v2)), (3, some (.int v6))]) ⟨rfl, rfl, rfl, rfl, trivial⟩) ?_
            exact ih v2 v6
          · refine XE_iload_n (n := 48) dX6_judge_47 rfl rfl rfl ?_
            refine XE_istore_n (i := 2) (n := 49) dX6_judge_48 rfl rfl (Nat.le_of_ble_eq_true rfl) rfl ?_
            refine XE_iincl (n := 52) dX6_judge_49 rfl rfl (by decide) (Nat.le_of_ble_eq_true rfl) rfl (fun v7 => ?_)
            refine XE_goto (n := 10) dX6_judge_52 rfl ?_
            refine XE_ls (x_sub_ok (ls' := [(0, some (.ref 0)), (1, some (.ref 128)), (2, some (.int v3)), (3, some (.int v7))]) ⟨rfl, rfl, rfl, rfl, trivial⟩) ?_
            exact ih v3 v7
      · refine XE_ls (x_sub_ok (ls' := [(0, some (.ref 0)), (2, some (.int v2))]) ⟨rfl, rfl, trivial⟩) ?_
        exact hE (v2)
set_option maxRecDepth 100000 in
theorem xe_X6_judge (B : XB) (m0 : Mem) (m1 : Mem) (m2 : Mem) (m3 : Mem) (m4 : Mem) (m5 : Mem) (m6 : Mem) (m7 : Mem) (m8 : Mem) (m9 : Mem) (m10 : Mem) (m11 : Mem) (m12 : Mem) (m13 : Mem) (m14 : Mem) (m15 : Mem) (m16 : Mem) : XE B M_X6_judge (XQm B 0 0 SH_X) 0 [(0, some (.ref 0))] [] (0, 0) SH_X [m0, m1, m2, m3, m4, m5, m6, m7, m8, m9, m10, m11, m12, m13, m14, m15, m16] (fun t => some (some (.int t.1), [t.2.1, m1, t.2.2, m3, m4, m5, m6, m7, m8, m9, m10, m11, m12, m13, m14, m15, m16])) (f_X6_judge m0 m1 m2) := by
  unfold f_X6_judge
  refine XE_aload_n (n := 1) dX6_judge_0 rfl rfl rfl ?_
  refine XE_callVi (ni := 0) (As := []) (st2 := fun t1 => [.ref 128]) (n := 4) (b := 0) xc_X6_184 (fun l t ht => met_X6_inMind l m0 m1 m2 m3 m4 m5 m6 m7 m8 m9 m10 m11 m12 m13 m14 m15 m16 t ht) rfl rfl rfl rfl dX6_judge_1 (Nat.le_of_ble_eq_true rfl) ⟨Nat.zero_le _, Nat.zero_le _⟩ (Nat.le_of_ble_eq_true rfl) (Nat.le_of_ble_eq_true rfl) (fun _ => rfl) rfl (fun t1 => ?_)
  refine XE_astore_n (i := 1) (n := 5) dX6_judge_4 rfl rfl (Nat.le_of_ble_eq_true rfl) rfl ?_
  refine XE_bipush (v := (-9)) (n := 7) dX6_judge_5 rfl (by decide) ?_
  refine XE_istore_n (i := 2) (n := 8) dX6_judge_7 rfl rfl (Nat.le_of_ble_eq_true rfl) rfl ?_
  refine XE_iconst (v := 0) (n := 9) dX6_judge_8 rfl (by decide) ?_
  refine XE_istore_n (i := 3) (n := 10) dX6_judge_9 rfl rfl (Nat.le_of_ble_eq_true rfl) rfl ?_
  refine XE_ls (x_sub_ok (ls' := [(0, some (.ref 0)), (1, some (.ref 128)), (2, some (.int (-9))), (3, some (.int 0))]) ⟨rfl, rfl, rfl, rfl, trivial⟩) ?_
  refine XE_reg (J := 55) (lsJ := fun t12 => [(0, some (.ref 0)), (2, some (.int t12))]) (stJ := fun t12 => []) (hsJ := fun t12 => [m0, m1, t1, m3, m4, m5, m6, m7, m8, m9, m10, m11, m12, m13, m14, m15, m16]) (fun t12 => ?_) (fun hJ14 => f_X6_judge_L10_x B m0 m1 m3 m4 m5 m6 m7 m8 m9 m10 m11 m12 m13 m14 m15 m16 t1 hJ14 6000 ((-9) : Int32) (0 : Int32))
  refine XE_aload_n (n := 56) dX6_judge_55 rfl rfl rfl ?_
  refine XE_iconst (v := 0) (n := 57) dX6_judge_56 rfl (by decide) ?_
  refine XE_putf (hs2 := fun w13 => [w13, m1, t1, m3, m4, m5, m6, m7, m8, m9, m10, m11, m12, m13, m14, m15, m16]) (n := 60) xf_X6_58 rfl rfl rfl rfl (Nat.le_of_ble_eq_true rfl) (fun _ => rfl) dX6_judge_57 rfl (fun w13 => ?_)
  refine XE_iload_n (n := 61) dX6_judge_60 rfl rfl rfl ?_
  exact XE_ireturn rfl dX6_judge_61 rfl (Nat.le_refl _) (Nat.le_refl _)
theorem met_X6_judge (l : Launch) (m0 : Mem) (m1 : Mem) (m2 : Mem) (m3 : Mem) (m4 : Mem) (m5 : Mem) (m6 : Mem) (m7 : Mem) (m8 : Mem) (m9 : Mem) (m10 : Mem) (m11 : Mem) (m12 : Mem) (m13 : Mem) (m14 : Mem) (m15 : Mem) (m16 : Mem) (t : Int32 × Mem × Mem) (ht : f_X6_judge m0 m1 m2 = some t) : XMet l yX6_judge cX6_judge 4 (some .int) 6 0 0 [.ref 0] SH_X [m0, m1, m2, m3, m4, m5, m6, m7, m8, m9, m10, m11, m12, m13, m14, m15, m16] SH_X (some (.int t.1), [t.2.1, m1, t.2.2, m3, m4, m5, m6, m7, m8, m9, m10, m11, m12, m13, m14, m15, m16]) := XMet.of (by decide +kernel) (fun _ => Nat.le_of_ble_eq_true rfl) (fun B => xe_X6_judge B m0 m1 m2 m3 m4 m5 m6 m7 m8 m9 m10 m11 m12 m13 m14 m15 m16) (by rw [ht]; rfl)
/-! X6_clear: EveryTwentyMinutes.clear()I in world X at (0,) -/
abbrev M_X6_clear : XM := (RX6, cX6_clear, 2, (some .int), "clear", 1, 0, 0)
def f_X6_clear (m0 : Mem) : Option (Int32 × Mem) :=
  lt (m0 0 9) fun v1 =>
  lt (xs m0 0 9 0) fun w2 =>
  some (v1, w2)
set_option maxRecDepth 100000 in
theorem xe_X6_clear (B : XB) (m0 : Mem) (m1 : Mem) (m2 : Mem) (m3 : Mem) (m4 : Mem) (m5 : Mem) (m6 : Mem) (m7 : Mem) (m8 : Mem) (m9 : Mem) (m10 : Mem) (m11 : Mem) (m12 : Mem) (m13 : Mem) (m14 : Mem) (m15 : Mem) (m16 : Mem) : XE B M_X6_clear (XQm B 0 0 SH_X) 0 [(0, some (.ref 0))] [] (0, 0) SH_X [m0, m1, m2, m3, m4, m5, m6, m7, m8, m9, m10, m11, m12, m13, m14, m15, m16] (fun t => some (some (.int t.1), [t.2, m1, m2, m3, m4, m5, m6, m7, m8, m9, m10, m11, m12, m13, m14, m15, m16])) (f_X6_clear m0) := by
  unfold f_X6_clear
  refine XE_aload_n (n := 1) dX6_clear_0 rfl rfl rfl ?_
  refine XE_getf (v := m0 0 9) (n := 4) xf_X6_58 rfl rfl rfl dX6_clear_1 rfl ?_
  refine XE_topi (fun v1 => ?_)
  refine XE_istore_n (i := 1) (n := 5) dX6_clear_4 rfl rfl (Nat.le_of_ble_eq_true rfl) rfl ?_
  refine XE_aload_n (n := 6) dX6_clear_5 rfl rfl rfl ?_
  refine XE_iconst (v := 0) (n := 7) dX6_clear_6 rfl (by decide) ?_
  refine XE_putf (hs2 := fun w2 => [w2, m1, m2, m3, m4, m5, m6, m7, m8, m9, m10, m11, m12, m13, m14, m15, m16]) (n := 10) xf_X6_58 rfl rfl rfl rfl (Nat.le_of_ble_eq_true rfl) (fun _ => rfl) dX6_clear_7 rfl (fun w2 => ?_)
  refine XE_iload_n (n := 11) dX6_clear_10 rfl rfl rfl ?_
  exact XE_ireturn rfl dX6_clear_11 rfl (Nat.le_refl _) (Nat.le_refl _)
theorem met_X6_clear (l : Launch) (m0 : Mem) (m1 : Mem) (m2 : Mem) (m3 : Mem) (m4 : Mem) (m5 : Mem) (m6 : Mem) (m7 : Mem) (m8 : Mem) (m9 : Mem) (m10 : Mem) (m11 : Mem) (m12 : Mem) (m13 : Mem) (m14 : Mem) (m15 : Mem) (m16 : Mem) (t : Int32 × Mem) (ht : f_X6_clear m0 = some t) : XMet l yX6_clear cX6_clear 2 (some .int) 1 0 0 [.ref 0] SH_X [m0, m1, m2, m3, m4, m5, m6, m7, m8, m9, m10, m11, m12, m13, m14, m15, m16] SH_X (some (.int t.1), [t.2, m1, m2, m3, m4, m5, m6, m7, m8, m9, m10, m11, m12, m13, m14, m15, m16]) := XMet.of (by decide +kernel) (fun _ => Nat.le_of_ble_eq_true rfl) (fun B => xe_X6_clear B m0 m1 m2 m3 m4 m5 m6 m7 m8 m9 m10 m11 m12 m13 m14 m15 m16) (by rw [ht]; rfl)
/-! X6_lots: EveryTwentyMinutes.lots(III)I in world X at (0,) -/
abbrev M_X6_lots : XM := (RX6, cX6_lots, 9, (some .int), "lots", 5, 0, 0)
def f_X6_lots_L65 (m1 : Mem) : Nat → Int32 → Int32 → Mem → Option (Int32 × Mem)
  | 0, _, _, _ => none
  | n + 1, v14, v15, w16 =>
    if (m1 0 0) ≤ v15 then
      some (v14, w16)
    else
      (f_X2_isWed m1 v15).bind fun t17 =>
      if t17 = 0 then
        lt ((v14 * 1103515245) + 12345) fun v19 =>
        ck (inb v15 7) <|
        lt (xs w16 2 (ix v15) (((v19 &&& 2147483647) / 65536) - ((v19 &&& 2147483647) / 65536) / 10 * 10)) fun w20 =>
        lt (v15 + 1) fun v21 =>
        (f_X6_lots_L65 m1 n) v19 v21 w20
      else
        lt (v15 + 1) fun v18 =>
        (f_X6_lots_L65 m1 n) v14 v18 w16
def f_X6_lots_L50 (m0 : Mem) (m1 : Mem) (v4 : Int32) (v5 : Int32) : Nat → Int32 → Int32 → Int32 → Mem → Option (Int32 × Mem)
  | 0, _, _, _, _ => none
  | n + 1, v9, v10, v11, w12 =>
    if v4 ≤ v11 then
      some (v9, w12)
    else
      (f_X6_asNow m0 m1 w12).bind fun t13 =>
      (f_X6_lots_L65 m1 6000 v10 (0 : Int32) t13).bind fun t24 =>
      (f_X2_wedAll t24.2).bind fun t25 =>
      if v5 = 0 then
        (f_X2_allLate t25).bind fun t29 =>
        lt (v9 + t29) fun v30 =>
        lt (v11 + 1) fun v31 =>
        (f_X6_lots_L50 m0 m1 v4 v5 n) v30 t24.1 v31 t25
      else
        (f_X2_meetings t25).bind fun t26 =>
        lt (v9 + t26) fun v27 =>
        lt (v11 + 1) fun v28 =>
        (f_X6_lots_L50 m0 m1 v4 v5 n) v27 t24.1 v28 t25
def f_X6_lots_J50 (m0 : Mem) (m1 : Mem) (m2 : Mem) (v4 : Int32) (v5 : Int32) (v6 : Int32) (v7 : Int32) (v8 : Int32) : Option (Int32 × Mem × Mem) :=
  (f_X6_lots_L50 m0 m1 v4 v5 6000 v6 v7 v8 m2).bind fun t35 =>
  some (t35.1, m0, t35.2)
def f_X6_lots_J41 (m0 : Mem) (m1 : Mem) (m2 : Mem) (v1 : Int32) (v2 : Int32) (v3 : Int32) : Option (Int32 × Mem × Mem) :=
  f_X6_lots_J50 m0 m1 m2 v1 v3 (0 : Int32) v2 (0 : Int32)
def f_X6_lots (m0 : Mem) (m1 : Mem) (m2 : Mem) (a1 : Int32) (a2 : Int32) (a3 : Int32) : Option (Int32 × Mem × Mem) :=
  if 1 ≤ a1 then
    if a1 ≤ 20 then
      if a3 = 0 then
        f_X6_lots_J41 m0 m1 m2 a1 a2 a3
      else
        if a3 = 1 then
          f_X6_lots_J41 m0 m1 m2 a1 a2 a3
        else
          (f_X6_refused m0 (-2)).bind fun t37 =>
          some (t37.1, t37.2, m2)
    else
      (f_X6_refused m0 (-6)).bind fun t40 =>
      some (t40.1, t40.2, m2)
  else
    (f_X6_refused m0 (-4)).bind fun t42 =>
    some (t42.1, t42.2, m2)
set_option maxRecDepth 100000 in
theorem f_X6_lots_L65_x {α R : Type} (B : XB) {Q : R → State → Prop} {k : α → Option R} {r : (Int32 × Mem) → Option α} (m0 : Mem) (m1 : Mem) (m3 : Mem) (m4 : Mem) (m5 : Mem) (m6 : Mem) (m7 : Mem) (m8 : Mem) (m9 : Mem) (m10 : Mem) (m11 : Mem) (m12 : Mem) (m13 : Mem) (m14 : Mem) (m15 : Mem) (m16 : Mem) (v4 : Int32) (v5 : Int32) (v9 : Int32) (v11 : Int32) (hE : ∀ t0 : (Int32 × Mem), XE B M_X6_lots Q 128 [(0, some (.ref 0)), (1, some (.int v4)), (3, some (.int v5)), (4, some (.int v9)), (5, some (.int t0.1)), (6, some (.int v11)), (7, some (.ref 128))] [] (0, 0) SH_X [m0, m1, t0.2, m3, m4, m5, m6, m7, m8, m9, m10, m11, m12, m13, m14, m15, m16] (fun t => (r t).bind k) (some t0)) : ∀ (n : Nat) (v14 : Int32) (v15 : Int32) (w16 : Mem), XE B M_X6_lots Q 65 [(0, some (.ref 0)), (1, some (.int v4)), (3, some (.int v5)), (4, some (.int v9)), (5, some (.int v14)), (6, some (.int v11)), (7, some (.ref 128)), (8, some (.int v15))] [] (0, 0) SH_X [m0, m1, w16, m3, m4, m5, m6, m7, m8, m9, m10, m11, m12, m13, m14, m15, m16] (fun t => (r t).bind k) (f_X6_lots_L65 m1 n v14 v15 w16) := by
  intro n
  induction n with
  | zero => intros; exact XE_none
  | succ n ih =>
    intro v14 v15 w16
    rw [f_X6_lots_L65]
    refine XE_iload (n := 67) dX6_lots_65 rfl rfl ?_
    refine XE_aload_n (n := 68) dX6_lots_67 rfl rfl rfl ?_
    refine XE_getr (b := 64) (n := 71) xf_X6_10 rfl rfl dX6_lots_68 rfl ?_
    refine XE_getf (v := m1 0 0) (n := 74) xf_X6_148 rfl rfl rfl dX6_lots_71 rfl ?_
    refine XE_icmp_ge (t := 128) (n := 77) dX6_lots_74 rfl rfl (fun h23 => ?_) (fun h23 => ?_)
    · refine XE_ls (x_sub_ok (ls' := [(0, some (.ref 0)), (1, some (.int v4)), (3, some (.int v5)), (4, some (.int v9)), (5, some (.int v14)), (6, some (.int v11)), (7, some (.ref 128))]) ⟨rfl, rfl, rfl, rfl, rfl, rfl, rfl, trivial⟩) ?_
      exact hE (v14, w16)
    · refine XE_aload_n (n := 78) dX6_lots_77 rfl rfl rfl ?_
      refine XE_getr (b := 64) (n := 81) xf_X6_10 rfl rfl dX6_lots_78 rfl ?_
      refine XE_iload (n := 83) dX6_lots_81 rfl rfl ?_
      refine XE_callV (ni := 1) (As := [.int v15]) (π := [1]) (co := [0, 2, 3, 4, 5, 6, 7, 8, 9, 10, 11, 12, 13, 14, 15, 16]) (cv := [m0, w16, m3, m4, m5, m6, m7, m8, m9, m10, m11, m12, m13, m14, m15, m16]) (nn := 17) (hs2 := fun t17 => [m0, m1, w16, m3, m4, m5, m6, m7, m8, m9, m10, m11, m12, m13, m14, m15, m16]) (st2 := fun t17 => [.int t17]) (n := 86) (b := 64) xc_X6_107 (fun l t ht => met_X2_isWed l m1 v15 t ht) rfl rfl rfl rfl rfl dX6_lots_83 (Nat.le_of_ble_eq_true rfl) ⟨Nat.zero_le _, Nat.zero_le _⟩ (Nat.le_of_ble_eq_true rfl) (Nat.le_of_ble_eq_true rfl) ok_32 rfl rfl rfl (fun _ => rfl) (fun _ => rfl) (fun _ => rfl) rfl (fun _ => rfl) rfl (fun t17 => ?_)
      refine XE_if_ne (t := 122) (n := 89) dX6_lots_86 rfl rfl (fun h22 => ?_) (fun h22 => ?_)
      · refine XE_iload (n := 91) dX6_lots_89 rfl rfl ?_
        refine XE_ldc_w (n := 94) dX6_lots_91 rfl xk_X6_303 ?_
        refine XE_imul (n := 95) dX6_lots_94 rfl ?_
        refine XE_sipush (v := 12345) (n := 98) dX6_lots_95 rfl (by decide) ?_
        refine XE_iadd (n := 99) dX6_lots_98 rfl ?_
        refine XE_topi (fun v19 => ?_)
        refine XE_istore (i := 5) (n := 101) dX6_lots_99 rfl (Nat.le_of_ble_eq_true rfl) rfl ?_
        refine XE_aload (n := 103) dX6_lots_101 rfl rfl ?_
        refine XE_getr (b := 130) (n := 106) xf_X6_101 rfl rfl dX6_lots_103 rfl ?_
        refine XE_iload (n := 108) dX6_lots_106 rfl rfl ?_
        refine XE_iload (n := 110) dX6_lots_108 rfl rfl ?_
        refine XE_ldc_w (n := 113) dX6_lots_110 rfl xk_X6_304 ?_
        refine XE_iand (n := 114) dX6_lots_113 rfl ?_
        refine XE_ldc_w (n := 117) dX6_lots_114 rfl xk_X6_305 ?_
        refine XE_idiv (n := 118) dX6_lots_117 rfl (by decide) ?_
        refine XE_bipush (v := 10) (n := 120) dX6_lots_118 rfl (by decide) ?_
        refine XE_irem (n := 121) dX6_lots_120 rfl (by decide) ?_
        refine XE_iast (hs2 := fun w20 => [m0, m1, w20, m3, m4, m5, m6, m7, m8, m9, m10, m11, m12, m13, m14, m15, m16]) (n := 122) rfl rfl rfl (Nat.le_of_ble_eq_true rfl) (fun _ => rfl) dX6_lots_121 rfl (fun w20 => ?_)
        refine XE_iincl (n := 125) dX6_lots_122 rfl rfl (by decide) (Nat.le_of_ble_eq_true rfl) rfl (fun v21 => ?_)
        refine XE_goto (n := 65) dX6_lots_125 rfl ?_
        refine XE_ls (x_sub_ok (ls' := [(0, some (.ref 0)), (1, some (.int v4)), (3, some (.int v5)), (4, some (.int v9)), (5, some (.int v19)), (6, some (.int v11)), (7, some (.ref 128)), (8, some (.int v21))]) ⟨rfl, rfl, rfl, rfl, rfl, rfl, rfl, rfl, trivial⟩) ?_
        exact ih v19 v21 w20
      · refine XE_iincl (n := 125) dX6_lots_122 rfl rfl (by decide) (Nat.le_of_ble_eq_true rfl) rfl (fun v18 => ?_)
        refine XE_goto (n := 65) dX6_lots_125 rfl ?_
        refine XE_ls (x_sub_ok (ls' := [(0, some (.ref 0)), (1, some (.int v4)), (3, some (.int v5)), (4, some (.int v9)), (5, some (.int v14)), (6, some (.int v11)), (7, some (.ref 128)), (8, some (.int v18))]) ⟨rfl, rfl, rfl, rfl, rfl, rfl, rfl, rfl, trivial⟩) ?_
        exact ih v14 v18 w16
set_option maxRecDepth 100000 in
theorem f_X6_lots_L50_x {α R : Type} (B : XB) {Q : R → State → Prop} {k : α → Option R} {r : (Int32 × Mem) → Option α} (m0 : Mem) (m1 : Mem) (m3 : Mem) (m4 : Mem) (m5 : Mem) (m6 : Mem) (m7 : Mem) (m8 : Mem) (m9 : Mem) (m10 : Mem) (m11 : Mem) (m12 : Mem) (m13 : Mem) (m14 : Mem) (m15 : Mem) (m16 : Mem) (v4 : Int32) (v5 : Int32) (hE : ∀ t0 : (Int32 × Mem), XE B M_X6_lots Q 161 [(4, some (.int t0.1))] [] (0, 0) SH_X [m0, m1, t0.2, m3, m4, m5, m6, m7, m8, m9, m10, m11, m12, m13, m14, m15, m16] (fun t => (r t).bind k) (some t0)) : ∀ (n : Nat) (v9 : Int32) (v10 : Int32) (v11 : Int32) (w12 : Mem), XE B M_X6_lots Q 50 [(0, some (.ref 0)), (1, some (.int v4)), (3, some (.int v5)), (4, some (.int v9)), (5, some (.int v10)), (6, some (.int v11))] [] (0, 0) SH_X [m0, m1, w12, m3, m4, m5, m6, m7, m8, m9, m10, m11, m12, m13, m14, m15, m16] (fun t => (r t).bind k) (f_X6_lots_L50 m0 m1 v4 v5 n v9 v10 v11 w12) := by
  intro n
  induction n with
  | zero => intros; exact XE_none
  | succ n ih =>
    intro v9 v10 v11 w12
    rw [f_X6_lots_L50]
    refine XE_iload (n := 52) dX6_lots_50 rfl rfl ?_
    refine XE_iload_n (n := 53) dX6_lots_52 rfl rfl rfl ?_
    refine XE_icmp_ge (t := 161) (n := 56) dX6_lots_53 rfl rfl (fun h34 => ?_) (fun h34 => ?_)
    · refine XE_ls (x_sub_ok (ls' := [(4, some (.int v9))]) ⟨rfl, trivial⟩) ?_
      exact hE (v9, w12)
    · refine XE_aload_n (n := 57) dX6_lots_56 rfl rfl rfl ?_
      refine XE_callVi (ni := 0) (As := []) (st2 := fun t13 => [.ref 128]) (n := 60) (b := 0) xc_X6_80 (fun l t ht => met_X6_asNow l m0 m1 w12 m3 m4 m5 m6 m7 m8 m9 m10 m11 m12 m13 m14 m15 m16 t ht) rfl rfl rfl rfl dX6_lots_57 (Nat.le_of_ble_eq_true rfl) ⟨Nat.zero_le _, Nat.zero_le _⟩ (Nat.le_of_ble_eq_true rfl) (Nat.le_of_ble_eq_true rfl) (fun _ => rfl) rfl (fun t13 => ?_)
      refine XE_astore (i := 7) (n := 62) dX6_lots_60 rfl (Nat.le_of_ble_eq_true rfl) rfl ?_
      refine XE_iconst (v := 0) (n := 63) dX6_lots_62 rfl (by decide) ?_
      refine XE_istore (i := 8) (n := 65) dX6_lots_63 rfl (Nat.le_of_ble_eq_true rfl) rfl ?_
      refine XE_ls (x_sub_ok (ls' := [(0, some (.ref 0)), (1, some (.int v4)), (3, some (.int v5)), (4, some (.int v9)), (5, some (.int v10)), (6, some (.int v11)), (7, some (.ref 128)), (8, some (.int 0))]) ⟨rfl, rfl, rfl, rfl, rfl, rfl, rfl, rfl, trivial⟩) ?_
      refine XE_reg (J := 128) (lsJ := fun t24 => [(0, some (.ref 0)), (1, some (.int v4)), (3, some (.int v5)), (4, some (.int v9)), (5, some (.int t24.1)), (6, some (.int v11)), (7, some (.ref 128))]) (stJ := fun t24 => []) (hsJ := fun t24 => [m0, m1, t24.2, m3, m4, m5, m6, m7, m8, m9, m10, m11, m12, m13, m14, m15, m16]) (fun t24 => ?_) (fun hJ33 => f_X6_lots_L65_x B m0 m1 m3 m4 m5 m6 m7 m8 m9 m10 m11 m12 m13 m14 m15 m16 v4 v5 v9 v11 hJ33 6000 v10 (0 : Int32) t13)
      refine XE_aload (n := 130) dX6_lots_128 rfl rfl ?_
      refine XE_callV (ni := 0) (As := []) (π := [2]) (co := [0, 1, 3, 4, 5, 6, 7, 8, 9, 10, 11, 12, 13, 14, 15, 16]) (cv := [m0, m1, m3, m4, m5, m6, m7, m8, m9, m10, m11, m12, m13, m14, m15, m16]) (nn := 17) (hs2 := fun t25 => [m0, m1, t25, m3, m4, m5, m6, m7, m8, m9, m10, m11, m12, m13, m14, m15, m16]) (st2 := fun t25 => []) (n := 133) (b := 128) xc_X6_226 (fun l t ht => met_X2_wedAll l t24.2 t ht) rfl rfl rfl rfl rfl dX6_lots_130 (Nat.le_of_ble_eq_true rfl) ⟨Nat.zero_le _, Nat.zero_le _⟩ (Nat.le_of_ble_eq_true rfl) (Nat.le_of_ble_eq_true rfl) ok_35 rfl rfl rfl (fun _ => rfl) (fun _ => rfl) (fun _ => rfl) rfl (fun _ => rfl) rfl (fun t25 => ?_)
      refine XE_iload (n := 135) dX6_lots_133 rfl rfl ?_
      refine XE_iload_n (n := 136) dX6_lots_135 rfl rfl rfl ?_
      refine XE_if_ne (t := 147) (n := 139) dX6_lots_136 rfl rfl (fun h32 => ?_) (fun h32 => ?_)
      · refine XE_aload (n := 141) dX6_lots_139 rfl rfl ?_
        refine XE_callV (ni := 0) (As := []) (π := [2]) (co := [0, 1, 3, 4, 5, 6, 7, 8, 9, 10, 11, 12, 13, 14, 15, 16]) (cv := [m0, m1, m3, m4, m5, m6, m7, m8, m9, m10, m11, m12, m13, m14, m15, m16]) (nn := 17) (hs2 := fun t29 => [m0, m1, t25, m3, m4, m5, m6, m7, m8, m9, m10, m11, m12, m13, m14, m15, m16]) (st2 := fun t29 => [.int t29, .int v9]) (n := 144) (b := 128) xc_X6_200 (fun l t ht => met_X2_allLate l t25 t ht) rfl rfl rfl rfl rfl dX6_lots_141 (Nat.le_of_ble_eq_true rfl) ⟨Nat.zero_le _, Nat.zero_le _⟩ (Nat.le_of_ble_eq_true rfl) (Nat.le_of_ble_eq_true rfl) ok_35 rfl rfl rfl (fun _ => rfl) (fun _ => rfl) (fun _ => rfl) rfl (fun _ => rfl) rfl (fun t29 => ?_)
        refine XE_goto (n := 152) dX6_lots_144 rfl ?_
        refine XE_iadd (n := 153) dX6_lots_152 rfl ?_
        refine XE_topi (fun v30 => ?_)
        refine XE_istore (i := 4) (n := 155) dX6_lots_153 rfl (Nat.le_of_ble_eq_true rfl) rfl ?_
        refine XE_iincl (n := 158) dX6_lots_155 rfl rfl (by decide) (Nat.le_of_ble_eq_true rfl) rfl (fun v31 => ?_)
        refine XE_goto (n := 50) dX6_lots_158 rfl ?_
        refine XE_ls (x_sub_ok (ls' := [(0, some (.ref 0)), (1, some (.int v4)), (3, some (.int v5)), (4, some (.int v30)), (5, some (.int t24.1)), (6, some (.int v31))]) ⟨rfl, rfl, rfl, rfl, rfl, rfl, trivial⟩) ?_
        exact ih v30 t24.1 v31 t25
      · refine XE_aload (n := 149) dX6_lots_147 rfl rfl ?_
        refine XE_callV (ni := 0) (As := []) (π := [2]) (co := [0, 1, 3, 4, 5, 6, 7, 8, 9, 10, 11, 12, 13, 14, 15, 16]) (cv := [m0, m1, m3, m4, m5, m6, m7, m8, m9, m10, m11, m12, m13, m14, m15, m16]) (nn := 17) (hs2 := fun t26 => [m0, m1, t25, m3, m4, m5, m6, m7, m8, m9, m10, m11, m12, m13, m14, m15, m16]) (st2 := fun t26 => [.int t26, .int v9]) (n := 152) (b := 128) xc_X6_206 (fun l t ht => met_X2_meetings l t25 t ht) rfl rfl rfl rfl rfl dX6_lots_149 (Nat.le_of_ble_eq_true rfl) ⟨Nat.zero_le _, Nat.zero_le _⟩ (Nat.le_of_ble_eq_true rfl) (Nat.le_of_ble_eq_true rfl) ok_35 rfl rfl rfl (fun _ => rfl) (fun _ => rfl) (fun _ => rfl) rfl (fun _ => rfl) rfl (fun t26 => ?_)
        refine XE_iadd (n := 153) dX6_lots_152 rfl ?_
        refine XE_topi (fun v27 => ?_)
        refine XE_istore (i := 4) (n := 155) dX6_lots_153 rfl (Nat.le_of_ble_eq_true rfl) rfl ?_
        refine XE_iincl (n := 158) dX6_lots_155 rfl rfl (by decide) (Nat.le_of_ble_eq_true rfl) rfl (fun v28 => ?_)
        refine XE_goto (n := 50) dX6_lots_158 rfl ?_
        refine XE_ls (x_sub_ok (ls' := [(0, some (.ref 0)), (1, some (.int v4)), (3, some (.int v5)), (4, some (.int v27)), (5, some (.int t24.1)), (6, some (.int v28))]) ⟨rfl, rfl, rfl, rfl, rfl, rfl, trivial⟩) ?_
        exact ih v27 t24.1 v28 t25
set_option maxRecDepth 100000 in
theorem f_X6_lots_J50_x (B : XB) (m0 : Mem) (m1 : Mem) (m2 : Mem) (m3 : Mem) (m4 : Mem) (m5 : Mem) (m6 : Mem) (m7 : Mem) (m8 : Mem) (m9 : Mem) (m10 : Mem) (m11 : Mem) (m12 : Mem) (m13 : Mem) (m14 : Mem) (m15 : Mem) (m16 : Mem) (v4 : Int32) (v5 : Int32) (v6 : Int32) (v7 : Int32) (v8 : Int32) : XE B M_X6_lots (XQm B 0 0 SH_X) 50 [(0, some (.ref 0)), (1, some (.int v4)), (3, some (.int v5)), (4, some (.int v6)), (5, some (.int v7)), (6, some (.int v8))] [] (0, 0) SH_X [m0, m1, m2, m3, m4, m5, m6, m7, m8, m9, m10, m11, m12, m13, m14, m15, m16] (fun t => some (some (.int t.1), [t.2.1, m1, t.2.2, m3, m4, m5, m6, m7, m8, m9, m10, m11, m12, m13, m14, m15, m16])) (f_X6_lots_J50 m0 m1 m2 v4 v5 v6 v7 v8) := by
  unfold f_X6_lots_J50
  refine XE_ls (x_sub_ok (ls' := [(0, some (.ref 0)), (1, some (.int v4)), (3, some (.int v5)), (4, some (.int v6)), (5, some (.int v7)), (6, some (.int v8))]) ⟨rfl, rfl, rfl, rfl, rfl, rfl, trivial⟩) ?_
  refine XE_reg (J := 161) (lsJ := fun t35 => [(4, some (.int t35.1))]) (stJ := fun t35 => []) (hsJ := fun t35 => [m0, m1, t35.2, m3, m4, m5, m6, m7, m8, m9, m10, m11, m12, m13, m14, m15, m16]) (fun t35 => ?_) (fun hJ36 => f_X6_lots_L50_x B m0 m1 m3 m4 m5 m6 m7 m8 m9 m10 m11 m12 m13 m14 m15 m16 v4 v5 hJ36 6000 v6 v7 v8 m2)
  refine XE_iload (n := 163) dX6_lots_161 rfl rfl ?_
  exact XE_ireturn rfl dX6_lots_163 rfl (Nat.le_refl _) (Nat.le_refl _)
set_option maxRecDepth 100000 in
theorem f_X6_lots_J41_x (B : XB) (m0 : Mem) (m1 : Mem) (m2 : Mem) (m3 : Mem) (m4 : Mem) (m5 : Mem) (m6 : Mem) (m7 : Mem) (m8 : Mem) (m9 : Mem) (m10 : Mem) (m11 : Mem) (m12 : Mem) (m13 : Mem) (m14 : Mem) (m15 : Mem) (m16 : Mem) (v1 : Int32) (v2 : Int32) (v3 : Int32) : XE B M_X6_lots (XQm B 0 0 SH_X) 41 [(0, some (.ref 0)), (1, some (.int v1)), (2, some (.int v2)), (3, some (.int v3))] [] (0, 0) SH_X [m0, m1, m2, m3, m4, m5, m6, m7, m8, m9, m10, m11, m12, m13, m14, m15, m16] (fun t => some (some (.int t.1), [t.2.1, m1, t.2.2, m3, m4, m5, m6, m7, m8, m9, m10, m11, m12, m13, m14, m15, m16])) (f_X6_lots_J41 m0 m1 m2 v1 v2 v3) := by
  unfold f_X6_lots_J41
  refine XE_iconst (v := 0) (n := 42) dX6_lots_41 rfl (by decide) ?_
  refine XE_istore (i := 4) (n := 44) dX6_lots_42 rfl (Nat.le_of_ble_eq_true rfl) rfl ?_
  refine XE_iload_n (n := 45) dX6_lots_44 rfl rfl rfl ?_
  refine XE_istore (i := 5) (n := 47) dX6_lots_45 rfl (Nat.le_of_ble_eq_true rfl) rfl ?_
  refine XE_iconst (v := 0) (n := 48) dX6_lots_47 rfl (by decide) ?_
  refine XE_istore (i := 6) (n := 50) dX6_lots_48 rfl (Nat.le_of_ble_eq_true rfl) rfl ?_
  refine XE_ls (x_sub_ok (ls' := [(0, some (.ref 0)), (1, some (.int v1)), (3, some (.int v3)), (4, some (.int 0)), (5, some (.int v2)), (6, some (.int 0))]) ⟨rfl, rfl, rfl, rfl, rfl, rfl, trivial⟩) ?_
  exact f_X6_lots_J50_x B m0 m1 m2 m3 m4 m5 m6 m7 m8 m9 m10 m11 m12 m13 m14 m15 m16 v1 v3 (0 : Int32) v2 (0 : Int32)
set_option maxRecDepth 100000 in
theorem xe_X6_lots (B : XB) (m0 : Mem) (m1 : Mem) (m2 : Mem) (m3 : Mem) (m4 : Mem) (m5 : Mem) (m6 : Mem) (m7 : Mem) (m8 : Mem) (m9 : Mem) (m10 : Mem) (m11 : Mem) (m12 : Mem) (m13 : Mem) (m14 : Mem) (m15 : Mem) (m16 : Mem) (a1 : Int32) (a2 : Int32) (a3 : Int32) : XE B M_X6_lots (XQm B 0 0 SH_X) 0 [(0, some (.ref 0)), (1, some (.int a1)), (2, some (.int a2)), (3, some (.int a3))] [] (0, 0) SH_X [m0, m1, m2, m3, m4, m5, m6, m7, m8, m9, m10, m11, m12, m13, m14, m15, m16] (fun t => some (some (.int t.1), [t.2.1, m1, t.2.2, m3, m4, m5, m6, m7, m8, m9, m10, m11, m12, m13, m14, m15, m16])) (f_X6_lots m0 m1 m2 a1 a2 a3) := by
  unfold f_X6_lots
  refine XE_iload_n (n := 1) dX6_lots_0 rfl rfl rfl ?_
  refine XE_iconst (v := 1) (n := 2) dX6_lots_1 rfl (by decide) ?_
  refine XE_icmp_ge (t := 12) (n := 5) dX6_lots_2 rfl rfl (fun h43 => ?_) (fun h43 => ?_)
  · refine XE_iload_n (n := 13) dX6_lots_12 rfl rfl rfl ?_
    refine XE_bipush (v := 20) (n := 15) dX6_lots_13 rfl (by decide) ?_
    refine XE_icmp_le (t := 25) (n := 18) dX6_lots_15 rfl rfl (fun h41 => ?_) (fun h41 => ?_)
    · refine XE_iload_n (n := 26) dX6_lots_25 rfl rfl rfl ?_
      refine XE_if_eq (t := 41) (n := 29) dX6_lots_26 rfl rfl (fun h39 => ?_) (fun h39 => ?_)
      · refine XE_ls (x_sub_ok (ls' := [(0, some (.ref 0)), (1, some (.int a1)), (2, some (.int a2)), (3, some (.int a3))]) ⟨rfl, rfl, rfl, rfl, trivial⟩) ?_
        exact f_X6_lots_J41_x B m0 m1 m2 m3 m4 m5 m6 m7 m8 m9 m10 m11 m12 m13 m14 m15 m16 a1 a2 a3
      · refine XE_iload_n (n := 30) dX6_lots_29 rfl rfl rfl ?_
        refine XE_iconst (v := 1) (n := 31) dX6_lots_30 rfl (by decide) ?_
        refine XE_icmp_eq (t := 41) (n := 34) dX6_lots_31 rfl rfl (fun h38 => ?_) (fun h38 => ?_)
        · refine XE_ls (x_sub_ok (ls' := [(0, some (.ref 0)), (1, some (.int a1)), (2, some (.int a2)), (3, some (.int a3))]) ⟨rfl, rfl, rfl, rfl, trivial⟩) ?_
          exact f_X6_lots_J41_x B m0 m1 m2 m3 m4 m5 m6 m7 m8 m9 m10 m11 m12 m13 m14 m15 m16 a1 a2 a3
        · refine XE_aload_n (n := 35) dX6_lots_34 rfl rfl rfl ?_
          refine XE_bipush (v := (-2)) (n := 37) dX6_lots_35 rfl (by decide) ?_
          refine XE_callVi (ni := 1) (As := [.int (-2)]) (st2 := fun t37 => [.int t37.1]) (n := 40) (b := 0) xc_X6_65 (fun l t ht => met_X6_refused l m0 m1 m2 m3 m4 m5 m6 m7 m8 m9 m10 m11 m12 m13 m14 m15 m16 (-2) t ht) rfl rfl rfl rfl dX6_lots_37 (Nat.le_of_ble_eq_true rfl) ⟨Nat.zero_le _, Nat.zero_le _⟩ (Nat.le_of_ble_eq_true rfl) (Nat.le_of_ble_eq_true rfl) (fun _ => rfl) rfl (fun t37 => ?_)
          exact XE_ireturn rfl dX6_lots_40 rfl (Nat.le_refl _) (Nat.le_refl _)
    · refine XE_aload_n (n := 19) dX6_lots_18 rfl rfl rfl ?_
      refine XE_bipush (v := (-6)) (n := 21) dX6_lots_19 rfl (by decide) ?_
      refine XE_callVi (ni := 1) (As := [.int (-6)]) (st2 := fun t40 => [.int t40.1]) (n := 24) (b := 0) xc_X6_65 (fun l t ht => met_X6_refused l m0 m1 m2 m3 m4 m5 m6 m7 m8 m9 m10 m11 m12 m13 m14 m15 m16 (-6) t ht) rfl rfl rfl rfl dX6_lots_21 (Nat.le_of_ble_eq_true rfl) ⟨Nat.zero_le _, Nat.zero_le _⟩ (Nat.le_of_ble_eq_true rfl) (Nat.le_of_ble_eq_true rfl) (fun _ => rfl) rfl (fun t40 => ?_)
      exact XE_ireturn rfl dX6_lots_24 rfl (Nat.le_refl _) (Nat.le_refl _)
  · refine XE_aload_n (n := 6) dX6_lots_5 rfl rfl rfl ?_
    refine XE_bipush (v := (-4)) (n := 8) dX6_lots_6 rfl (by decide) ?_
    refine XE_callVi (ni := 1) (As := [.int (-4)]) (st2 := fun t42 => [.int t42.1]) (n := 11) (b := 0) xc_X6_65 (fun l t ht => met_X6_refused l m0 m1 m2 m3 m4 m5 m6 m7 m8 m9 m10 m11 m12 m13 m14 m15 m16 (-4) t ht) rfl rfl rfl rfl dX6_lots_8 (Nat.le_of_ble_eq_true rfl) ⟨Nat.zero_le _, Nat.zero_le _⟩ (Nat.le_of_ble_eq_true rfl) (Nat.le_of_ble_eq_true rfl) (fun _ => rfl) rfl (fun t42 => ?_)
    exact XE_ireturn rfl dX6_lots_11 rfl (Nat.le_refl _) (Nat.le_refl _)
theorem met_X6_lots (l : Launch) (m0 : Mem) (m1 : Mem) (m2 : Mem) (m3 : Mem) (m4 : Mem) (m5 : Mem) (m6 : Mem) (m7 : Mem) (m8 : Mem) (m9 : Mem) (m10 : Mem) (m11 : Mem) (m12 : Mem) (m13 : Mem) (m14 : Mem) (m15 : Mem) (m16 : Mem) (a1 : Int32) (a2 : Int32) (a3 : Int32) (t : Int32 × Mem × Mem) (ht : f_X6_lots m0 m1 m2 a1 a2 a3 = some t) : XMet l yX6_lots cX6_lots 9 (some .int) 5 0 0 [.ref 0, .int a1, .int a2, .int a3] SH_X [m0, m1, m2, m3, m4, m5, m6, m7, m8, m9, m10, m11, m12, m13, m14, m15, m16] SH_X (some (.int t.1), [t.2.1, m1, t.2.2, m3, m4, m5, m6, m7, m8, m9, m10, m11, m12, m13, m14, m15, m16]) := XMet.of (by decide +kernel) (fun _ => Nat.le_of_ble_eq_true rfl) (fun B => xe_X6_lots B m0 m1 m2 m3 m4 m5 m6 m7 m8 m9 m10 m11 m12 m13 m14 m15 m16 a1 a2 a3) (by rw [ht]; rfl)
set_option maxRecDepth 100000 in
theorem ok_38 : x_okc [3, 1] SH_HH SH_X = true := by decide +kernel
/-! X6_image: EveryTwentyMinutes.image()I in world X at (0,) -/
abbrev M_X6_image : XM := (RX6, cX6_image, 1, (some .int), "image", 2, 0, 0)
def f_X6_image (m0 : Mem) (m1 : Mem) (m3 : Mem) : Option (Int32 × Mem × Mem) :=
  (f_X2_become m3 m1).bind fun t1 =>
  lt (xs m0 0 3 1) fun w2 =>
  some ((m1 0 8), w2, t1)
set_option maxRecDepth 100000 in
theorem xe_X6_image (B : XB) (m0 : Mem) (m1 : Mem) (m2 : Mem) (m3 : Mem) (m4 : Mem) (m5 : Mem) (m6 : Mem) (m7 : Mem) (m8 : Mem) (m9 : Mem) (m10 : Mem) (m11 : Mem) (m12 : Mem) (m13 : Mem) (m14 : Mem) (m15 : Mem) (m16 : Mem) : XE B M_X6_image (XQm B 0 0 SH_X) 0 [(0, some (.ref 0))] [] (0, 0) SH_X [m0, m1, m2, m3, m4, m5, m6, m7, m8, m9, m10, m11, m12, m13, m14, m15, m16] (fun t => some (some (.int t.1), [t.2.1, m1, m2, t.2.2, m4, m5, m6, m7, m8, m9, m10, m11, m12, m13, m14, m15, m16])) (f_X6_image m0 m1 m3) := by
  unfold f_X6_image
  refine XE_aload_n (n := 1) dX6_image_0 rfl rfl rfl ?_
  refine XE_getr (b := 192) (n := 4) xf_X6_19 rfl rfl dX6_image_1 rfl ?_
  refine XE_aload_n (n := 5) dX6_image_4 rfl rfl rfl ?_
  refine XE_getr (b := 64) (n := 8) xf_X6_10 rfl rfl dX6_image_5 rfl ?_
  refine XE_callV (ni := 1) (As := [.ref 64]) (π := [3, 1]) (co := [0, 2, 4, 5, 6, 7, 8, 9, 10, 11, 12, 13, 14, 15, 16]) (cv := [m0, m2, m4, m5, m6, m7, m8, m9, m10, m11, m12, m13, m14, m15, m16]) (nn := 17) (hs2 := fun t1 => [m0, m1, m2, t1, m4, m5, m6, m7, m8, m9, m10, m11, m12, m13, m14, m15, m16]) (st2 := fun t1 => []) (n := 11) (b := 192) xc_X6_88 (fun l t ht => met_X2_become l m3 m1 t ht) rfl rfl rfl rfl rfl dX6_image_8 (Nat.le_of_ble_eq_true rfl) ⟨Nat.zero_le _, Nat.zero_le _⟩ (Nat.le_of_ble_eq_true rfl) (Nat.le_of_ble_eq_true rfl) ok_38 rfl rfl rfl (fun _ => rfl) (fun _ => rfl) (fun _ => rfl) rfl (fun _ => rfl) rfl (fun t1 => ?_)
  refine XE_aload_n (n := 12) dX6_image_11 rfl rfl rfl ?_
  refine XE_iconst (v := 1) (n := 13) dX6_image_12 rfl (by decide) ?_
  refine XE_putz (hs2 := fun w2 => [w2, m1, m2, t1, m4, m5, m6, m7, m8, m9, m10, m11, m12, m13, m14, m15, m16]) (n := 16) xf_X6_22 rfl rfl rfl rfl (Nat.le_of_ble_eq_true rfl) (fun _ => rfl) rfl dX6_image_13 rfl (fun w2 => ?_)
  refine XE_aload_n (n := 17) dX6_image_16 rfl rfl rfl ?_
  refine XE_getr (b := 64) (n := 20) xf_X6_10 rfl rfl dX6_image_17 rfl ?_
  refine XE_getf (v := m1 0 8) (n := 23) xf_X6_125 rfl rfl rfl dX6_image_20 rfl ?_
  exact XE_ireturn rfl dX6_image_23 rfl (Nat.le_refl _) (Nat.le_refl _)
theorem met_X6_image (l : Launch) (m0 : Mem) (m1 : Mem) (m2 : Mem) (m3 : Mem) (m4 : Mem) (m5 : Mem) (m6 : Mem) (m7 : Mem) (m8 : Mem) (m9 : Mem) (m10 : Mem) (m11 : Mem) (m12 : Mem) (m13 : Mem) (m14 : Mem) (m15 : Mem) (m16 : Mem) (t : Int32 × Mem × Mem) (ht : f_X6_image m0 m1 m3 = some t) : XMet l yX6_image cX6_image 1 (some .int) 2 0 0 [.ref 0] SH_X [m0, m1, m2, m3, m4, m5, m6, m7, m8, m9, m10, m11, m12, m13, m14, m15, m16] SH_X (some (.int t.1), [t.2.1, m1, m2, t.2.2, m4, m5, m6, m7, m8, m9, m10, m11, m12, m13, m14, m15, m16]) := XMet.of (by decide +kernel) (fun _ => Nat.le_of_ble_eq_true rfl) (fun B => xe_X6_image B m0 m1 m2 m3 m4 m5 m6 m7 m8 m9 m10 m11 m12 m13 m14 m15 m16) (by rw [ht]; rfl)
set_option maxRecDepth 100000 in
theorem ok_39 : x_okc [1, 3] SH_HH SH_X = true := by decide +kernel
/-! X6_restore: EveryTwentyMinutes.restore()I in world X at (0,) -/
abbrev M_X6_restore : XM := (RX6, cX6_restore, 1, (some .int), "restore", 2, 0, 0)
def f_X6_restore (m0 : Mem) (m1 : Mem) (m3 : Mem) (m4 : Mem) : Option (Int32 × Mem × Mem × Mem) :=
  if (m0 0 3) = 0 then
    (f_X6_refused m0 (-3)).bind fun t3 =>
    some (t3.1, t3.2, m1, m4)
  else
    (f_X2_become m1 m3).bind fun t1 =>
    (f_X5_forget m4).bind fun t2 =>
    some ((t1 0 8), m0, t1, t2)
set_option maxRecDepth 100000 in
theorem xe_X6_restore (B : XB) (m0 : Mem) (m1 : Mem) (m2 : Mem) (m3 : Mem) (m4 : Mem) (m5 : Mem) (m6 : Mem) (m7 : Mem) (m8 : Mem) (m9 : Mem) (m10 : Mem) (m11 : Mem) (m12 : Mem) (m13 : Mem) (m14 : Mem) (m15 : Mem) (m16 : Mem) : XE B M_X6_restore (XQm B 0 0 SH_X) 0 [(0, some (.ref 0))] [] (0, 0) SH_X [m0, m1, m2, m3, m4, m5, m6, m7, m8, m9, m10, m11, m12, m13, m14, m15, m16] (fun t => some (some (.int t.1), [t.2.1, t.2.2.1, m2, m3, t.2.2.2, m5, m6, m7, m8, m9, m10, m11, m12, m13, m14, m15, m16])) (f_X6_restore m0 m1 m3 m4) := by
  unfold f_X6_restore
  refine XE_aload_n (n := 1) dX6_restore_0 rfl rfl rfl ?_
  refine XE_getf (v := m0 0 3) (n := 4) xf_X6_22 rfl rfl rfl dX6_restore_1 rfl ?_
  refine XE_if_ne (t := 14) (n := 7) dX6_restore_4 rfl rfl (fun h4 => ?_) (fun h4 => ?_)
  · refine XE_aload_n (n := 8) dX6_restore_7 rfl rfl rfl ?_
    refine XE_bipush (v := (-3)) (n := 10) dX6_restore_8 rfl (by decide) ?_
    refine XE_callVi (ni := 1) (As := [.int (-3)]) (st2 := fun t3 => [.int t3.1]) (n := 13) (b := 0) xc_X6_65 (fun l t ht => met_X6_refused l m0 m1 m2 m3 m4 m5 m6 m7 m8 m9 m10 m11 m12 m13 m14 m15 m16 (-3) t ht) rfl rfl rfl rfl dX6_restore_10 (Nat.le_of_ble_eq_true rfl) ⟨Nat.zero_le _, Nat.zero_le _⟩ (Nat.le_of_ble_eq_true rfl) (Nat.le_of_ble_eq_true rfl) (fun _ => rfl) rfl (fun t3 => ?_)
    exact XE_ireturn rfl dX6_restore_13 rfl (Nat.le_refl _) (Nat.le_refl _)
  · refine XE_aload_n (n := 15) dX6_restore_14 rfl rfl rfl ?_
    refine XE_getr (b := 64) (n := 18) xf_X6_10 rfl rfl dX6_restore_15 rfl ?_
    refine XE_aload_n (n := 19) dX6_restore_18 rfl rfl rfl ?_
    refine XE_getr (b := 192) (n := 22) xf_X6_19 rfl rfl dX6_restore_19 rfl ?_
    refine XE_callV (ni := 1) (As := [.ref 192]) (π := [1, 3]) (co := [0, 2, 4, 5, 6, 7, 8, 9, 10, 11, 12, 13, 14, 15, 16]) (cv := [m0, m2, m4, m5, m6, m7, m8, m9, m10, m11, m12, m13, m14, m15, m16]) (nn := 17) (hs2 := fun t1 => [m0, t1, m2, m3, m4, m5, m6, m7, m8, m9, m10, m11, m12, m13, m14, m15, m16]) (st2 := fun t1 => []) (n := 25) (b := 64) xc_X6_88 (fun l t ht => met_X2_become l m1 m3 t ht) rfl rfl rfl rfl rfl dX6_restore_22 (Nat.le_of_ble_eq_true rfl) ⟨Nat.zero_le _, Nat.zero_le _⟩ (Nat.le_of_ble_eq_true rfl) (Nat.le_of_ble_eq_true rfl) ok_39 rfl rfl rfl (fun _ => rfl) (fun _ => rfl) (fun _ => rfl) rfl (fun _ => rfl) rfl (fun t1 => ?_)
    refine XE_aload_n (n := 26) dX6_restore_25 rfl rfl rfl ?_
    refine XE_getr (b := 256) (n := 29) xf_X6_29 rfl rfl dX6_restore_26 rfl ?_
    refine XE_callV (ni := 0) (As := []) (π := [4, 5, 6, 7, 8, 9, 10, 11, 12]) (co := [0, 1, 2, 3, 13, 14, 15, 16]) (cv := [m0, t1, m2, m3, m13, m14, m15, m16]) (nn := 17) (hs2 := fun t2 => [m0, t1, m2, m3, t2, m5, m6, m7, m8, m9, m10, m11, m12, m13, m14, m15, m16]) (st2 := fun t2 => []) (n := 32) (b := 256) xc_X6_92 (fun l t ht => met_X5_forget l m4 m5 m6 m7 m8 m9 m10 m11 m12 t ht) rfl rfl rfl rfl rfl dX6_restore_29 (Nat.le_of_ble_eq_true rfl) ⟨Nat.zero_le _, Nat.zero_le _⟩ (Nat.le_of_ble_eq_true rfl) (Nat.le_of_ble_eq_true rfl) ok_31 rfl rfl rfl (fun _ => rfl) (fun _ => rfl) (fun _ => rfl) rfl (fun _ => rfl) rfl (fun t2 => ?_)
    refine XE_aload_n (n := 33) dX6_restore_32 rfl rfl rfl ?_
    refine XE_getr (b := 64) (n := 36) xf_X6_10 rfl rfl dX6_restore_33 rfl ?_
    refine XE_getf (v := t1 0 8) (n := 39) xf_X6_125 rfl rfl rfl dX6_restore_36 rfl ?_
    exact XE_ireturn rfl dX6_restore_39 rfl (Nat.le_refl _) (Nat.le_refl _)
theorem met_X6_restore (l : Launch) (m0 : Mem) (m1 : Mem) (m2 : Mem) (m3 : Mem) (m4 : Mem) (m5 : Mem) (m6 : Mem) (m7 : Mem) (m8 : Mem) (m9 : Mem) (m10 : Mem) (m11 : Mem) (m12 : Mem) (m13 : Mem) (m14 : Mem) (m15 : Mem) (m16 : Mem) (t : Int32 × Mem × Mem × Mem) (ht : f_X6_restore m0 m1 m3 m4 = some t) : XMet l yX6_restore cX6_restore 1 (some .int) 2 0 0 [.ref 0] SH_X [m0, m1, m2, m3, m4, m5, m6, m7, m8, m9, m10, m11, m12, m13, m14, m15, m16] SH_X (some (.int t.1), [t.2.1, t.2.2.1, m2, m3, t.2.2.2, m5, m6, m7, m8, m9, m10, m11, m12, m13, m14, m15, m16]) := XMet.of (by decide +kernel) (fun _ => Nat.le_of_ble_eq_true rfl) (fun B => xe_X6_restore B m0 m1 m2 m3 m4 m5 m6 m7 m8 m9 m10 m11 m12 m13 m14 m15 m16) (by rw [ht]; rfl)
/-! X6_count: EveryTwentyMinutes.count(I)I in world X at (0,) -/
abbrev M_X6_count : XM := (RX6, cX6_count, 2, (some .int), "count", 1, 0, 0)
def f_X6_count (m0 : Mem) (m1 : Mem) (m4 : Mem) (m13 : Mem) (a1 : Int32) : Option (Int32) :=
  if a1 = 0 then
    some (m1 0 0)
  else
    if a1 = 1 then
      some (m1 0 8)
    else
      if a1 = 2 then
        some (m1 0 4)
      else
        if a1 = 3 then
          some (m1 0 10)
        else
          if a1 = 4 then
            some (m1 0 12)
          else
            if a1 = 5 then
              some (m1 0 13)
            else
              if a1 = 6 then
                some (m13 0 1)
              else
                if a1 = 7 then
                  some (m0 0 9)
                else
                  if a1 = 8 then
                    some (m4 0 2)
                  else
                    if a1 < 11 then
                      some ((-9) : Int32)
                    else
                      if 16 < a1 then
                        some ((-9) : Int32)
                      else
                        ck (inb (a1 - 10) 7) <|
                        some (m0 2 (ix (a1 - 10)))
set_option maxRecDepth 100000 in
theorem xe_X6_count (B : XB) (m0 : Mem) (m1 : Mem) (m2 : Mem) (m3 : Mem) (m4 : Mem) (m5 : Mem) (m6 : Mem) (m7 : Mem) (m8 : Mem) (m9 : Mem) (m10 : Mem) (m11 : Mem) (m12 : Mem) (m13 : Mem) (m14 : Mem) (m15 : Mem) (m16 : Mem) (a1 : Int32) : XE B M_X6_count (XQm B 0 0 SH_X) 0 [(0, some (.ref 0)), (1, some (.int a1))] [] (0, 0) SH_X [m0, m1, m2, m3, m4, m5, m6, m7, m8, m9, m10, m11, m12, m13, m14, m15, m16] (fun t => some (some (.int t), [m0, m1, m2, m3, m4, m5, m6, m7, m8, m9, m10, m11, m12, m13, m14, m15, m16])) (f_X6_count m0 m1 m4 m13 a1) := by
  unfold f_X6_count
  refine XE_iload_n (n := 1) dX6_count_0 rfl rfl rfl ?_
  refine XE_tsw (c := 0) (t := 52) (off := 51) dX6_count_1 (by decide) (by decide) rfl rfl ?_ (fun h1 => ?_)
  · refine XE_aload_n (n := 53) dX6_count_52 rfl rfl rfl ?_
    refine XE_getr (b := 64) (n := 56) xf_X6_10 rfl rfl dX6_count_53 rfl ?_
    refine XE_getf (v := m1 0 0) (n := 59) xf_X6_148 rfl rfl rfl dX6_count_56 rfl ?_
    exact XE_ireturn rfl dX6_count_59 rfl (Nat.le_refl _) (Nat.le_refl _)
  refine XE_tsw (c := 1) (t := 60) (off := 59) dX6_count_1 (by decide) (by decide) rfl rfl ?_ (fun h2 => ?_)
  · refine XE_aload_n (n := 61) dX6_count_60 rfl rfl rfl ?_
    refine XE_getr (b := 64) (n := 64) xf_X6_10 rfl rfl dX6_count_61 rfl ?_
    refine XE_getf (v := m1 0 8) (n := 67) xf_X6_125 rfl rfl rfl dX6_count_64 rfl ?_
    exact XE_ireturn rfl dX6_count_67 rfl (Nat.le_refl _) (Nat.le_refl _)
  refine XE_tsw (c := 2) (t := 68) (off := 67) dX6_count_1 (by decide) (by decide) rfl rfl ?_ (fun h3 => ?_)
  · refine XE_aload_n (n := 69) dX6_count_68 rfl rfl rfl ?_
    refine XE_getr (b := 64) (n := 72) xf_X6_10 rfl rfl dX6_count_69 rfl ?_
    refine XE_getf (v := m1 0 4) (n := 75) xf_X6_306 rfl rfl rfl dX6_count_72 rfl ?_
    exact XE_ireturn rfl dX6_count_75 rfl (Nat.le_refl _) (Nat.le_refl _)
  refine XE_tsw (c := 3) (t := 76) (off := 75) dX6_count_1 (by decide) (by decide) rfl rfl ?_ (fun h4 => ?_)
  · refine XE_aload_n (n := 77) dX6_count_76 rfl rfl rfl ?_
    refine XE_getr (b := 64) (n := 80) xf_X6_10 rfl rfl dX6_count_77 rfl ?_
    refine XE_getf (v := m1 0 10) (n := 83) xf_X6_131 rfl rfl rfl dX6_count_80 rfl ?_
    exact XE_ireturn rfl dX6_count_83 rfl (Nat.le_refl _) (Nat.le_refl _)
  refine XE_tsw (c := 4) (t := 84) (off := 83) dX6_count_1 (by decide) (by decide) rfl rfl ?_ (fun h5 => ?_)
  · refine XE_aload_n (n := 85) dX6_count_84 rfl rfl rfl ?_
    refine XE_getr (b := 64) (n := 88) xf_X6_10 rfl rfl dX6_count_85 rfl ?_
    refine XE_getf (v := m1 0 12) (n := 91) xf_X6_173 rfl rfl rfl dX6_count_88 rfl ?_
    exact XE_ireturn rfl dX6_count_91 rfl (Nat.le_refl _) (Nat.le_refl _)
  refine XE_tsw (c := 5) (t := 92) (off := 91) dX6_count_1 (by decide) (by decide) rfl rfl ?_ (fun h6 => ?_)
  · refine XE_aload_n (n := 93) dX6_count_92 rfl rfl rfl ?_
    refine XE_getr (b := 64) (n := 96) xf_X6_10 rfl rfl dX6_count_93 rfl ?_
    refine XE_getf (v := m1 0 13) (n := 99) xf_X6_170 rfl rfl rfl dX6_count_96 rfl ?_
    exact XE_ireturn rfl dX6_count_99 rfl (Nat.le_refl _) (Nat.le_refl _)
  refine XE_tsw (c := 6) (t := 100) (off := 99) dX6_count_1 (by decide) (by decide) rfl rfl ?_ (fun h7 => ?_)
  · refine XE_aload_n (n := 101) dX6_count_100 rfl rfl rfl ?_
    refine XE_getr (b := 832) (n := 104) xf_X6_36 rfl rfl dX6_count_101 rfl ?_
    refine XE_getf (v := m13 0 1) (n := 107) xf_X6_73 rfl rfl rfl dX6_count_104 rfl ?_
    exact XE_ireturn rfl dX6_count_107 rfl (Nat.le_refl _) (Nat.le_refl _)
  refine XE_tsw (c := 7) (t := 108) (off := 107) dX6_count_1 (by decide) (by decide) rfl rfl ?_ (fun h8 => ?_)
  · refine XE_aload_n (n := 109) dX6_count_108 rfl rfl rfl ?_
    refine XE_getf (v := m0 0 9) (n := 112) xf_X6_58 rfl rfl rfl dX6_count_109 rfl ?_
    exact XE_ireturn rfl dX6_count_112 rfl (Nat.le_refl _) (Nat.le_refl _)
  refine XE_tsw (c := 8) (t := 113) (off := 112) dX6_count_1 (by decide) (by decide) rfl rfl ?_ (fun h9 => ?_)
  · refine XE_aload_n (n := 114) dX6_count_113 rfl rfl rfl ?_
    refine XE_getr (b := 256) (n := 117) xf_X6_29 rfl rfl dX6_count_114 rfl ?_
    refine XE_getf (v := m4 0 2) (n := 120) xf_X6_183 rfl rfl rfl dX6_count_117 rfl ?_
    exact XE_ireturn rfl dX6_count_120 rfl (Nat.le_refl _) (Nat.le_refl _)
  refine XE_tswd (t := 121) dX6_count_1 (by have q0 := x_ne h1 (z := 0) (by decide); have q1 := x_ne h2 (z := 1) (by decide); have q2 := x_ne h3 (z := 2) (by decide); have q3 := x_ne h4 (z := 3) (by decide); have q4 := x_ne h5 (z := 4) (by decide); have q5 := x_ne h6 (z := 5) (by decide); have q6 := x_ne h7 (z := 6) (by decide); have q7 := x_ne h8 (z := 7) (by decide); have q8 := x_ne h9 (z := 8) (by decide); omega) rfl ?_
  refine XE_iload_n (n := 122) dX6_count_121 rfl rfl rfl ?_
  refine XE_bipush (v := 11) (n := 124) dX6_count_122 rfl (by decide) ?_
  refine XE_icmp_lt (t := 145) (n := 127) dX6_count_124 rfl rfl (fun h11 => ?_) (fun h11 => ?_)
  · refine XE_bipush (v := (-9)) (n := 147) dX6_count_145 rfl (by decide) ?_
    exact XE_ireturn rfl dX6_count_147 rfl (Nat.le_refl _) (Nat.le_refl _)
  · refine XE_iload_n (n := 128) dX6_count_127 rfl rfl rfl ?_
    refine XE_bipush (v := 16) (n := 130) dX6_count_128 rfl (by decide) ?_
    refine XE_icmp_gt (t := 145) (n := 133) dX6_count_130 rfl rfl (fun h10 => ?_) (fun h10 => ?_)
    · refine XE_bipush (v := (-9)) (n := 147) dX6_count_145 rfl (by decide) ?_
      exact XE_ireturn rfl dX6_count_147 rfl (Nat.le_refl _) (Nat.le_refl _)
    · refine XE_aload_n (n := 134) dX6_count_133 rfl rfl rfl ?_
      refine XE_getr (b := 2) (n := 137) xf_X6_62 rfl rfl dX6_count_134 rfl ?_
      refine XE_iload_n (n := 138) dX6_count_137 rfl rfl rfl ?_
      refine XE_bipush (v := 10) (n := 140) dX6_count_138 rfl (by decide) ?_
      refine XE_isub (n := 141) dX6_count_140 rfl ?_
      refine XE_iald (row := m0 2) (n := 142) rfl rfl dX6_count_141 rfl ?_
      refine XE_goto (n := 147) dX6_count_142 rfl ?_
      exact XE_ireturn rfl dX6_count_147 rfl (Nat.le_refl _) (Nat.le_refl _)
theorem met_X6_count (l : Launch) (m0 : Mem) (m1 : Mem) (m2 : Mem) (m3 : Mem) (m4 : Mem) (m5 : Mem) (m6 : Mem) (m7 : Mem) (m8 : Mem) (m9 : Mem) (m10 : Mem) (m11 : Mem) (m12 : Mem) (m13 : Mem) (m14 : Mem) (m15 : Mem) (m16 : Mem) (a1 : Int32) (t : Int32) (ht : f_X6_count m0 m1 m4 m13 a1 = some t) : XMet l yX6_count cX6_count 2 (some .int) 1 0 0 [.ref 0, .int a1] SH_X [m0, m1, m2, m3, m4, m5, m6, m7, m8, m9, m10, m11, m12, m13, m14, m15, m16] SH_X (some (.int t), [m0, m1, m2, m3, m4, m5, m6, m7, m8, m9, m10, m11, m12, m13, m14, m15, m16]) := XMet.of (by decide +kernel) (fun _ => Nat.le_of_ble_eq_true rfl) (fun B => xe_X6_count B m0 m1 m2 m3 m4 m5 m6 m7 m8 m9 m10 m11 m12 m13 m14 m15 m16 a1) (by rw [ht]; rfl)
/-! X7_in: EveryTwentyMinutesModel.in(JJJ)Z in world 0 at () -/
abbrev M_X7_in : XM := (RX7, cX7_in, 6, (some .boolean), "in", 1, 0, 0)
def f_X7_in (a0 : Int64) (a2 : Int64) (a4 : Int64) : Option (Int32) :=
  if (lg_cmp a0 a2) < 0 then
    some (0 : Int32)
  else
    if 0 < (lg_cmp a0 a4) then
      some (0 : Int32)
    else
      some (1 : Int32)
set_option maxRecDepth 100000 in
theorem xe_X7_in (B : XB) (a0 : Int64) (a2 : Int64) (a4 : Int64) : XE B M_X7_in (XQm B 0 0 SH_0) 0 [(0, some (.long a0)), (2, some (.long a2)), (4, some (.long a4))] [] (0, 0) SH_0 [] (fun t => some (some (.int t), [])) (f_X7_in a0 a2 a4) := by
  unfold f_X7_in
  refine XE_lload_n (n := 1) dX7_in_0 rfl rfl rfl ?_
  refine XE_lload_n (n := 2) dX7_in_1 rfl rfl rfl ?_
  refine XE_lcmp (n := 3) dX7_in_2 rfl ?_
  refine XE_if_lt (t := 17) (n := 6) dX7_in_3 rfl rfl (fun h2 => ?_) (fun h2 => ?_)
  · refine XE_iconst (v := 0) (n := 18) dX7_in_17 rfl (by decide) ?_
    exact XE_zreturn rfl rfl dX7_in_18 rfl (Nat.le_refl _) (Nat.le_refl _)
  · refine XE_lload_n (n := 7) dX7_in_6 rfl rfl rfl ?_
    refine XE_lload (n := 9) dX7_in_7 rfl rfl ?_
    refine XE_lcmp (n := 10) dX7_in_9 rfl ?_
    refine XE_if_gt (t := 17) (n := 13) dX7_in_10 rfl rfl (fun h1 => ?_) (fun h1 => ?_)
    · refine XE_iconst (v := 0) (n := 18) dX7_in_17 rfl (by decide) ?_
      exact XE_zreturn rfl rfl dX7_in_18 rfl (Nat.le_refl _) (Nat.le_refl _)
    · refine XE_iconst (v := 1) (n := 14) dX7_in_13 rfl (by decide) ?_
      refine XE_goto (n := 18) dX7_in_14 rfl ?_
      exact XE_zreturn rfl rfl dX7_in_18 rfl (Nat.le_refl _) (Nat.le_refl _)
theorem met_X7_in (l : Launch) (a0 : Int64) (a2 : Int64) (a4 : Int64) (t : Int32) (ht : f_X7_in a0 a2 a4 = some t) : XMet l yX7_in cX7_in 6 (some .boolean) 1 0 0 [.long a0, .long a2, .long a4] SH_0 [] SH_0 (some (.int t), []) := XMet.of (by decide +kernel) (fun _ => Nat.le_of_ble_eq_true rfl) (fun B => xe_X7_in B a0 a2 a4) (by rw [ht]; rfl)
def SH_M : XSs := [(0, .inr (.inr (6, [0, 4, 5, 6, 7, 8, 9, 10, 11, 0, 0, 12, 0, 0, 0, 13, 14, 0, 0, 0, 0, 15, 16, 17, 18, 19, 0, 0, 0, 2, 20, 21, 0, 22, 23, 24, 25, 0, 0]))), (1, .inl 7), (2, .inl 7), (3, .inl 7), (4, .inl 7), (5, .inl 7), (6, .inl 7), (7, .inl 7), (8, .inl 7), (9, .inl 2), (10, .inl 7), (11, .inl 96), (12, .inl 49), (13, .inl 49), (14, .inl 147), (15, .inl 63), (16, .inl 63), (17, .inl 504), (18, .inl 63), (19, .inl 7), (20, .inl 7), (21, .inl 8), (22, .inl 12)]
/-! X7_refuse: EveryTwentyMinutesModel.refuse(I)I in world M at (0,) -/
abbrev M_X7_refuse : XM := (RX7, cX7_refuse, 2, (some .int), "refuse", 1, 0, 0)
def f_X7_refuse (m0 : Mem) (a1 : Int32) : Option (Int32 × Mem) :=
  ck (inb (-a1) 7) <|
  ck (inb (-a1) 7) <|
  lt (xs m0 10 (ix (-a1)) ((m0 10 (ix (-a1))) + 1)) fun w1 =>
  some (a1, w1)
set_option maxRecDepth 100000 in
theorem xe_X7_refuse (B : XB) (m0 : Mem) (a1 : Int32) : XE B M_X7_refuse (XQm B 0 0 SH_M) 0 [(0, some (.ref 0)), (1, some (.int a1))] [] (0, 0) SH_M [m0] (fun t => some (some (.int t.1), [t.2])) (f_X7_refuse m0 a1) := by
  unfold f_X7_refuse
  refine XE_aload_n (n := 1) dX7_refuse_0 rfl rfl rfl ?_
  refine XE_getr (b := 10) (n := 4) xf_X7_37 rfl rfl dX7_refuse_1 rfl ?_
  refine XE_iload_n (n := 5) dX7_refuse_4 rfl rfl rfl ?_
  refine XE_ineg (n := 6) dX7_refuse_5 rfl ?_
  refine XE_dup2 (n := 7) dX7_refuse_6 rfl rfl rfl ?_
  refine XE_iald (row := m0 10) (n := 8) rfl rfl dX7_refuse_7 rfl ?_
  refine XE_iconst (v := 1) (n := 9) dX7_refuse_8 rfl (by decide) ?_
  refine XE_iadd (n := 10) dX7_refuse_9 rfl ?_
  refine XE_iast (hs2 := fun w1 => [w1]) (n := 11) rfl rfl rfl (Nat.le_of_ble_eq_true rfl) (fun _ => rfl) dX7_refuse_10 rfl (fun w1 => ?_)
  refine XE_iload_n (n := 12) dX7_refuse_11 rfl rfl rfl ?_
  exact XE_ireturn rfl dX7_refuse_12 rfl (Nat.le_refl _) (Nat.le_refl _)
theorem met_X7_refuse (l : Launch) (m0 : Mem) (a1 : Int32) (t : Int32 × Mem) (ht : f_X7_refuse m0 a1 = some t) : XMet l yX7_refuse cX7_refuse 2 (some .int) 1 0 0 [.ref 0, .int a1] SH_M [m0] SH_M (some (.int t.1), [t.2]) := XMet.of (by decide +kernel) (fun _ => Nat.le_of_ble_eq_true rfl) (fun B => xe_X7_refuse B m0 a1) (by rw [ht]; rfl)
set_option maxRecDepth 100000 in
theorem ok_40 : x_okc [] SH_0 SH_M = true := by decide +kernel
/-! X7_isCouple: EveryTwentyMinutesModel.isCouple(I)Z in world M at (0,) -/
abbrev M_X7_isCouple : XM := (RX7, cX7_isCouple, 2, (some .boolean), "isCouple", 2, 0, 0)
def f_X7_isCouple (m0 : Mem) (a1 : Int32) : Option (Int32) :=
  (f_X7_in ((a1 : Int32).toInt64) 0 ((((m0 0 0) - 1) : Int32).toInt64)).bind fun t1 =>
  ck (isb t1) <|
  some t1
set_option maxRecDepth 100000 in
theorem xe_X7_isCouple (B : XB) (m0 : Mem) (a1 : Int32) : XE B M_X7_isCouple (XQm B 0 0 SH_M) 0 [(0, some (.ref 0)), (1, some (.int a1))] [] (0, 0) SH_M [m0] (fun t => some (some (.int t), [m0])) (f_X7_isCouple m0 a1) := by
  unfold f_X7_isCouple
  refine XE_iload_n (n := 1) dX7_isCouple_0 rfl rfl rfl ?_
  refine XE_i2l (n := 2) dX7_isCouple_1 rfl ?_
  refine XE_lconst (v := 0) (n := 3) dX7_isCouple_2 rfl (by decide) ?_
  refine XE_aload_n (n := 4) dX7_isCouple_3 rfl rfl rfl ?_
  refine XE_getf (v := m0 0 0) (n := 7) xf_X7_83 rfl rfl rfl dX7_isCouple_4 rfl ?_
  refine XE_iconst (v := 1) (n := 8) dX7_isCouple_7 rfl (by decide) ?_
  refine XE_isub (n := 9) dX7_isCouple_8 rfl ?_
  refine XE_i2l (n := 10) dX7_isCouple_9 rfl ?_
  refine XE_callS (ni := 3) (As := [.long ((a1 : Int32).toInt64), .long 0, .long ((((m0 0 0) - 1) : Int32).toInt64)]) (π := []) (co := [0]) (cv := [m0]) (nn := 1) (hs2 := fun t1 => [m0]) (st2 := fun t1 => [.int t1]) (n := 13) xc_X7_86 (fun l t ht => met_X7_in l ((a1 : Int32).toInt64) 0 ((((m0 0 0) - 1) : Int32).toInt64) t ht) rfl rfl rfl dX7_isCouple_10 (Nat.le_of_ble_eq_true rfl) ⟨Nat.zero_le _, Nat.zero_le _⟩ (Nat.le_of_ble_eq_true rfl) (Nat.le_of_ble_eq_true rfl) ok_40 rfl rfl rfl (fun _ => rfl) (fun _ => rfl) (fun _ => rfl) rfl (fun _ => rfl) rfl (fun t1 => ?_)
  refine XE_ck (fun h2 => ?_)
  exact XE_zreturn h2 rfl dX7_isCouple_13 rfl (Nat.le_refl _) (Nat.le_refl _)
theorem met_X7_isCouple (l : Launch) (m0 : Mem) (a1 : Int32) (t : Int32) (ht : f_X7_isCouple m0 a1 = some t) : XMet l yX7_isCouple cX7_isCouple 2 (some .boolean) 2 0 0 [.ref 0, .int a1] SH_M [m0] SH_M (some (.int t), [m0]) := XMet.of (by decide +kernel) (fun _ => Nat.le_of_ble_eq_true rfl) (fun B => xe_X7_isCouple B m0 a1) (by rw [ht]; rfl)
/-! X7_wrongNumber: EveryTwentyMinutesModel.wrongNumber(III)I in world 0 at () -/
abbrev M_X7_wrongNumber : XM := (RX7, cX7_wrongNumber, 3, (some .int), "wrongNumber", 1, 0, 0)
def f_X7_wrongNumber (a0 : Int32) (a1 : Int32) (a2 : Int32) : Option (Int32) :=
  if a1 ≤ a0 then
    if a0 ≤ a2 then
      some (0 : Int32)
    else
      some ((-6) : Int32)
  else
    some ((-4) : Int32)
set_option maxRecDepth 100000 in
theorem xe_X7_wrongNumber (B : XB) (a0 : Int32) (a1 : Int32) (a2 : Int32) : XE B M_X7_wrongNumber (XQm B 0 0 SH_0) 0 [(0, some (.int a0)), (1, some (.int a1)), (2, some (.int a2))] [] (0, 0) SH_0 [] (fun t => some (some (.int t), [])) (f_X7_wrongNumber a0 a1 a2) := by
  unfold f_X7_wrongNumber
  refine XE_iload_n (n := 1) dX7_wrongNumber_0 rfl rfl rfl ?_
  refine XE_iload_n (n := 2) dX7_wrongNumber_1 rfl rfl rfl ?_
  refine XE_icmp_ge (t := 10) (n := 5) dX7_wrongNumber_2 rfl rfl (fun h2 => ?_) (fun h2 => ?_)
  · refine XE_iload_n (n := 11) dX7_wrongNumber_10 rfl rfl rfl ?_
    refine XE_iload_n (n := 12) dX7_wrongNumber_11 rfl rfl rfl ?_
    refine XE_icmp_le (t := 20) (n := 15) dX7_wrongNumber_12 rfl rfl (fun h1 => ?_) (fun h1 => ?_)
    · refine XE_iconst (v := 0) (n := 21) dX7_wrongNumber_20 rfl (by decide) ?_
      exact XE_ireturn rfl dX7_wrongNumber_21 rfl (Nat.le_refl _) (Nat.le_refl _)
    · refine XE_bipush (v := (-6)) (n := 17) dX7_wrongNumber_15 rfl (by decide) ?_
      refine XE_goto (n := 21) dX7_wrongNumber_17 rfl ?_
      exact XE_ireturn rfl dX7_wrongNumber_21 rfl (Nat.le_refl _) (Nat.le_refl _)
  · refine XE_bipush (v := (-4)) (n := 7) dX7_wrongNumber_5 rfl (by decide) ?_
    refine XE_goto (n := 21) dX7_wrongNumber_7 rfl ?_
    exact XE_ireturn rfl dX7_wrongNumber_21 rfl (Nat.le_refl _) (Nat.le_refl _)
theorem met_X7_wrongNumber (l : Launch) (a0 : Int32) (a1 : Int32) (a2 : Int32) (t : Int32) (ht : f_X7_wrongNumber a0 a1 a2 = some t) : XMet l yX7_wrongNumber cX7_wrongNumber 3 (some .int) 1 0 0 [.int a0, .int a1, .int a2] SH_0 [] SH_0 (some (.int t), []) := XMet.of (by decide +kernel) (fun _ => Nat.le_of_ble_eq_true rfl) (fun B => xe_X7_wrongNumber B a0 a1 a2) (by rw [ht]; rfl)
/-! X7_wrongBit: EveryTwentyMinutesModel.wrongBit(III)I in world 0 at () -/
abbrev M_X7_wrongBit : XM := (RX7, cX7_wrongBit, 3, (some .int), "wrongBit", 2, 0, 0)
def f_X7_wrongBit (a0 : Int32) (a1 : Int32) (a2 : Int32) : Option (Int32) :=
  if a0 = 0 then
    (f_X7_in ((a1 : Int32).toInt64) 0 ((a2 : Int32).toInt64)).bind fun t1 =>
    if t1 = 0 then
      some ((-2) : Int32)
    else
      some a0
  else
    some a0
set_option maxRecDepth 100000 in
theorem xe_X7_wrongBit (B : XB) (a0 : Int32) (a1 : Int32) (a2 : Int32) : XE B M_X7_wrongBit (XQm B 0 0 SH_0) 0 [(0, some (.int a0)), (1, some (.int a1)), (2, some (.int a2))] [] (0, 0) SH_0 [] (fun t => some (some (.int t), [])) (f_X7_wrongBit a0 a1 a2) := by
  unfold f_X7_wrongBit
  refine XE_iload_n (n := 1) dX7_wrongBit_0 rfl rfl rfl ?_
  refine XE_if_ne (t := 20) (n := 4) dX7_wrongBit_1 rfl rfl (fun h3 => ?_) (fun h3 => ?_)
  · refine XE_iload_n (n := 5) dX7_wrongBit_4 rfl rfl rfl ?_
    refine XE_i2l (n := 6) dX7_wrongBit_5 rfl ?_
    refine XE_lconst (v := 0) (n := 7) dX7_wrongBit_6 rfl (by decide) ?_
    refine XE_iload_n (n := 8) dX7_wrongBit_7 rfl rfl rfl ?_
    refine XE_i2l (n := 9) dX7_wrongBit_8 rfl ?_
    refine XE_callSi (ni := 3) (As := [.long ((a1 : Int32).toInt64), .long 0, .long ((a2 : Int32).toInt64)]) (st2 := fun t1 => [.int t1]) (n := 12) xc_X7_86 (fun l t ht => met_X7_in l ((a1 : Int32).toInt64) 0 ((a2 : Int32).toInt64) t ht) rfl rfl dX7_wrongBit_9 (Nat.le_of_ble_eq_true rfl) ⟨Nat.zero_le _, Nat.zero_le _⟩ (Nat.le_of_ble_eq_true rfl) (Nat.le_of_ble_eq_true rfl) (fun _ => rfl) rfl (fun t1 => ?_)
    refine XE_if_ne (t := 20) (n := 15) dX7_wrongBit_12 rfl rfl (fun h2 => ?_) (fun h2 => ?_)
    · refine XE_bipush (v := (-2)) (n := 17) dX7_wrongBit_15 rfl (by decide) ?_
      refine XE_goto (n := 21) dX7_wrongBit_17 rfl ?_
      exact XE_ireturn rfl dX7_wrongBit_21 rfl (Nat.le_refl _) (Nat.le_refl _)
    · refine XE_iload_n (n := 21) dX7_wrongBit_20 rfl rfl rfl ?_
      exact XE_ireturn rfl dX7_wrongBit_21 rfl (Nat.le_refl _) (Nat.le_refl _)
  · refine XE_iload_n (n := 21) dX7_wrongBit_20 rfl rfl rfl ?_
    exact XE_ireturn rfl dX7_wrongBit_21 rfl (Nat.le_refl _) (Nat.le_refl _)
theorem met_X7_wrongBit (l : Launch) (a0 : Int32) (a1 : Int32) (a2 : Int32) (t : Int32) (ht : f_X7_wrongBit a0 a1 a2 = some t) : XMet l yX7_wrongBit cX7_wrongBit 3 (some .int) 2 0 0 [.int a0, .int a1, .int a2] SH_0 [] SH_0 (some (.int t), []) := XMet.of (by decide +kernel) (fun _ => Nat.le_of_ble_eq_true rfl) (fun B => xe_X7_wrongBit B a0 a1 a2) (by rw [ht]; rfl)
/-! X7_hasBit: EveryTwentyMinutesModel.hasBit(II)Z in world 0 at () -/
abbrev M_X7_hasBit : XM := (RX7, cX7_hasBit, 2, (some .boolean), "hasBit", 1, 0, 0)
def f_X7_hasBit (a0 : Int32) (a1 : Int32) : Option (Int32) :=
  if ((a0 >>> (a1 &&& 31)) &&& 1) = 1 then
    some (1 : Int32)
  else
    some (0 : Int32)
set_option maxRecDepth 100000 in
theorem xe_X7_hasBit (B : XB) (a0 : Int32) (a1 : Int32) : XE B M_X7_hasBit (XQm B 0 0 SH_0) 0 [(0, some (.int a0)), (1, some (.int a1))] [] (0, 0) SH_0 [] (fun t => some (some (.int t), [])) (f_X7_hasBit a0 a1) := by
  unfold f_X7_hasBit
  refine XE_iload_n (n := 1) dX7_hasBit_0 rfl rfl rfl ?_
  refine XE_iload_n (n := 2) dX7_hasBit_1 rfl rfl rfl ?_
  refine XE_ishr (n := 3) dX7_hasBit_2 rfl ?_
  refine XE_iconst (v := 1) (n := 4) dX7_hasBit_3 rfl (by decide) ?_
  refine XE_iand (n := 5) dX7_hasBit_4 rfl ?_
  refine XE_iconst (v := 1) (n := 6) dX7_hasBit_5 rfl (by decide) ?_
  refine XE_icmp_ne (t := 13) (n := 9) dX7_hasBit_6 rfl rfl (fun h1 => ?_) (fun h1 => ?_)
  · refine XE_iconst (v := 1) (n := 10) dX7_hasBit_9 rfl (by decide) ?_
    refine XE_goto (n := 14) dX7_hasBit_10 rfl ?_
    exact XE_zreturn rfl rfl dX7_hasBit_14 rfl (Nat.le_refl _) (Nat.le_refl _)
  · refine XE_iconst (v := 0) (n := 14) dX7_hasBit_13 rfl (by decide) ?_
    exact XE_zreturn rfl rfl dX7_hasBit_14 rfl (Nat.le_refl _) (Nat.le_refl _)
theorem met_X7_hasBit (l : Launch) (a0 : Int32) (a1 : Int32) (t : Int32) (ht : f_X7_hasBit a0 a1 = some t) : XMet l yX7_hasBit cX7_hasBit 2 (some .boolean) 1 0 0 [.int a0, .int a1] SH_0 [] SH_0 (some (.int t), []) := XMet.of (by decide +kernel) (fun _ => Nat.le_of_ble_eq_true rfl) (fun B => xe_X7_hasBit B a0 a1) (by rw [ht]; rfl)
/-! X7_least: EveryTwentyMinutesModel.least(II)I in world 0 at () -/
abbrev M_X7_least : XM := (RX7, cX7_least, 2, (some .int), "least", 1, 0, 0)
def f_X7_least (a0 : Int32) (a1 : Int32) : Option (Int32) :=
  if a1 ≤ a0 then
    some a1
  else
    some a0
set_option maxRecDepth 100000 in
theorem xe_X7_least (B : XB) (a0 : Int32) (a1 : Int32) : XE B M_X7_least (XQm B 0 0 SH_0) 0 [(0, some (.int a0)), (1, some (.int a1))] [] (0, 0) SH_0 [] (fun t => some (some (.int t), [])) (f_X7_least a0 a1) := by
  unfold f_X7_least
  refine XE_iload_n (n := 1) dX7_least_0 rfl rfl rfl ?_
  refine XE_iload_n (n := 2) dX7_least_1 rfl rfl rfl ?_
  refine XE_icmp_ge (t := 9) (n := 5) dX7_least_2 rfl rfl (fun h1 => ?_) (fun h1 => ?_)
  · refine XE_iload_n (n := 10) dX7_least_9 rfl rfl rfl ?_
    exact XE_ireturn rfl dX7_least_10 rfl (Nat.le_refl _) (Nat.le_refl _)
  · refine XE_iload_n (n := 6) dX7_least_5 rfl rfl rfl ?_
    refine XE_goto (n := 10) dX7_least_6 rfl ?_
    exact XE_ireturn rfl dX7_least_10 rfl (Nat.le_refl _) (Nat.le_refl _)
theorem met_X7_least (l : Launch) (a0 : Int32) (a1 : Int32) (t : Int32) (ht : f_X7_least a0 a1 = some t) : XMet l yX7_least cX7_least 2 (some .int) 1 0 0 [.int a0, .int a1] SH_0 [] SH_0 (some (.int t), []) := XMet.of (by decide +kernel) (fun _ => Nat.le_of_ble_eq_true rfl) (fun B => xe_X7_least B a0 a1) (by rw [ht]; rfl)
/-! X7_most: EveryTwentyMinutesModel.most(II)I in world 0 at () -/
abbrev M_X7_most : XM := (RX7, cX7_most, 2, (some .int), "most", 1, 0, 0)
def f_X7_most (a0 : Int32) (a1 : Int32) : Option (Int32) :=
  if a0 ≤ a1 then
    some a1
  else
    some a0
set_option maxRecDepth 100000 in
theorem xe_X7_most (B : XB) (a0 : Int32) (a1 : Int32) : XE B M_X7_most (XQm B 0 0 SH_0) 0 [(0, some (.int a0)), (1, some (.int a1))] [] (0, 0) SH_0 [] (fun t => some (some (.int t), [])) (f_X7_most a0 a1) := by
  unfold f_X7_most
  refine XE_iload_n (n := 1) dX7_most_0 rfl rfl rfl ?_
  refine XE_iload_n (n := 2) dX7_most_1 rfl rfl rfl ?_
  refine XE_icmp_le (t := 9) (n := 5) dX7_most_2 rfl rfl (fun h1 => ?_) (fun h1 => ?_)
  · refine XE_iload_n (n := 10) dX7_most_9 rfl rfl rfl ?_
    exact XE_ireturn rfl dX7_most_10 rfl (Nat.le_refl _) (Nat.le_refl _)
  · refine XE_iload_n (n := 6) dX7_most_5 rfl rfl rfl ?_
    refine XE_goto (n := 10) dX7_most_6 rfl ?_
    exact XE_ireturn rfl dX7_most_10 rfl (Nat.le_refl _) (Nat.le_refl _)
theorem met_X7_most (l : Launch) (a0 : Int32) (a1 : Int32) (t : Int32) (ht : f_X7_most a0 a1 = some t) : XMet l yX7_most cX7_most 2 (some .int) 1 0 0 [.int a0, .int a1] SH_0 [] SH_0 (some (.int t), []) := XMet.of (by decide +kernel) (fun _ => Nat.le_of_ble_eq_true rfl) (fun B => xe_X7_most B a0 a1) (by rw [ht]; rfl)
/-! X7_lastsBy: EveryTwentyMinutesModel.lastsBy(II)I in world 0 at () -/
abbrev M_X7_lastsBy : XM := (RX7, cX7_lastsBy, 2, (some .int), "lastsBy", 1, 0, 0)
def f_X7_lastsBy (a0 : Int32) (a1 : Int32) : Option (Int32) :=
  if a0 = 1 then
    some (10 + (a1 / 2))
  else
    if a0 = 2 then
      some (23 + a1)
    else
      if a0 = 3 then
        some (15 + a1)
      else
        if a0 = 4 then
          some (8 + (a1 / 2))
        else
          if a0 = 5 then
            some (28 + a1)
          else
            some (15 + a1)
set_option maxRecDepth 100000 in
theorem xe_X7_lastsBy (B : XB) (a0 : Int32) (a1 : Int32) : XE B M_X7_lastsBy (XQm B 0 0 SH_0) 0 [(0, some (.int a0)), (1, some (.int a1))] [] (0, 0) SH_0 [] (fun t => some (some (.int t), [])) (f_X7_lastsBy a0 a1) := by
  unfold f_X7_lastsBy
  refine XE_iload_n (n := 1) dX7_lastsBy_0 rfl rfl rfl ?_
  refine XE_tsw (c := 1) (t := 36) (off := 35) dX7_lastsBy_1 (by decide) (by decide) rfl rfl ?_ (fun h1 => ?_)
  · refine XE_bipush (v := 10) (n := 38) dX7_lastsBy_36 rfl (by decide) ?_
    refine XE_iload_n (n := 39) dX7_lastsBy_38 rfl rfl rfl ?_
    refine XE_iconst (v := 2) (n := 40) dX7_lastsBy_39 rfl (by decide) ?_
    refine XE_idiv (n := 41) dX7_lastsBy_40 rfl (by decide) ?_
    refine XE_iadd (n := 42) dX7_lastsBy_41 rfl ?_
    exact XE_ireturn rfl dX7_lastsBy_42 rfl (Nat.le_refl _) (Nat.le_refl _)
  refine XE_tsw (c := 2) (t := 43) (off := 42) dX7_lastsBy_1 (by decide) (by decide) rfl rfl ?_ (fun h2 => ?_)
  · refine XE_bipush (v := 23) (n := 45) dX7_lastsBy_43 rfl (by decide) ?_
    refine XE_iload_n (n := 46) dX7_lastsBy_45 rfl rfl rfl ?_
    refine XE_iadd (n := 47) dX7_lastsBy_46 rfl ?_
    exact XE_ireturn rfl dX7_lastsBy_47 rfl (Nat.le_refl _) (Nat.le_refl _)
  refine XE_tsw (c := 3) (t := 60) (off := 59) dX7_lastsBy_1 (by decide) (by decide) rfl rfl ?_ (fun h3 => ?_)
  · refine XE_bipush (v := 15) (n := 62) dX7_lastsBy_60 rfl (by decide) ?_
    refine XE_iload_n (n := 63) dX7_lastsBy_62 rfl rfl rfl ?_
    refine XE_iadd (n := 64) dX7_lastsBy_63 rfl ?_
    exact XE_ireturn rfl dX7_lastsBy_64 rfl (Nat.le_refl _) (Nat.le_refl _)
  refine XE_tsw (c := 4) (t := 48) (off := 47) dX7_lastsBy_1 (by decide) (by decide) rfl rfl ?_ (fun h4 => ?_)
  · refine XE_bipush (v := 8) (n := 50) dX7_lastsBy_48 rfl (by decide) ?_
    refine XE_iload_n (n := 51) dX7_lastsBy_50 rfl rfl rfl ?_
    refine XE_iconst (v := 2) (n := 52) dX7_lastsBy_51 rfl (by decide) ?_
    refine XE_idiv (n := 53) dX7_lastsBy_52 rfl (by decide) ?_
    refine XE_iadd (n := 54) dX7_lastsBy_53 rfl ?_
    exact XE_ireturn rfl dX7_lastsBy_54 rfl (Nat.le_refl _) (Nat.le_refl _)
  refine XE_tsw (c := 5) (t := 55) (off := 54) dX7_lastsBy_1 (by decide) (by decide) rfl rfl ?_ (fun h5 => ?_)
  · refine XE_bipush (v := 28) (n := 57) dX7_lastsBy_55 rfl (by decide) ?_
    refine XE_iload_n (n := 58) dX7_lastsBy_57 rfl rfl rfl ?_
    refine XE_iadd (n := 59) dX7_lastsBy_58 rfl ?_
    exact XE_ireturn rfl dX7_lastsBy_59 rfl (Nat.le_refl _) (Nat.le_refl _)
  refine XE_tswd (t := 60) dX7_lastsBy_1 (by have q0 := x_ne h1 (z := 1) (by decide); have q1 := x_ne h2 (z := 2) (by decide); have q2 := x_ne h3 (z := 3) (by decide); have q3 := x_ne h4 (z := 4) (by decide); have q4 := x_ne h5 (z := 5) (by decide); omega) rfl ?_
  refine XE_bipush (v := 15) (n := 62) dX7_lastsBy_60 rfl (by decide) ?_
  refine XE_iload_n (n := 63) dX7_lastsBy_62 rfl rfl rfl ?_
  refine XE_iadd (n := 64) dX7_lastsBy_63 rfl ?_
  exact XE_ireturn rfl dX7_lastsBy_64 rfl (Nat.le_refl _) (Nat.le_refl _)
theorem met_X7_lastsBy (l : Launch) (a0 : Int32) (a1 : Int32) (t : Int32) (ht : f_X7_lastsBy a0 a1 = some t) : XMet l yX7_lastsBy cX7_lastsBy 2 (some .int) 1 0 0 [.int a0, .int a1] SH_0 [] SH_0 (some (.int t), []) := XMet.of (by decide +kernel) (fun _ => Nat.le_of_ble_eq_true rfl) (fun B => xe_X7_lastsBy B a0 a1) (by rw [ht]; rfl)
/-! X7_readyOf: EveryTwentyMinutesModel.readyOf(I)I in world M at (0,) -/
abbrev M_X7_readyOf : XM := (RX7, cX7_readyOf, 3, (some .int), "readyOf", 2, 0, 0)
def f_X7_readyOf_J79 (m0 : Mem) (v6 : Int32) (v7 : Int32) : Option (Int32) :=
  ck (inb v6 7) <|
  some (v7 + ((m0 2 (ix v6)) / 2))
def f_X7_readyOf (m0 : Mem) (a1 : Int32) : Option (Int32) :=
  ck (inb a1 7) <|
  lt (m0 3 (ix a1)) fun v1 =>
  ck (inb a1 7) <|
  if (m0 1 (ix a1)) = 0 then
    some v1
  else
    if (m0 1 (ix a1)) = 1 then
      (f_X7_most 0 (v1 - 5)).bind fun t4 =>
      some t4
    else
      if (m0 1 (ix a1)) = 2 then
        f_X7_readyOf_J79 m0 a1 v1
      else
        if (m0 1 (ix a1)) = 3 then
          ck (inb a1 7) <|
          some ((v1 + (m0 2 (ix a1))) + 7)
        else
          if (m0 1 (ix a1)) = 4 then
            (f_X7_most 0 (v1 - 20)).bind fun t10 =>
            some t10
          else
            f_X7_readyOf_J79 m0 a1 v1
set_option maxRecDepth 100000 in
theorem f_X7_readyOf_J79_x (B : XB) (m0 : Mem) (v6 : Int32) (v7 : Int32) : XE B M_X7_readyOf (XQm B 0 0 SH_M) 79 [(0, some (.ref 0)), (1, some (.int v6)), (2, some (.int v7))] [] (0, 0) SH_M [m0] (fun t => some (some (.int t), [m0])) (f_X7_readyOf_J79 m0 v6 v7) := by
  unfold f_X7_readyOf_J79
  refine XE_iload_n (n := 80) dX7_readyOf_79 rfl rfl rfl ?_
  refine XE_aload_n (n := 81) dX7_readyOf_80 rfl rfl rfl ?_
  refine XE_getr (b := 2) (n := 84) xf_X7_13 rfl rfl dX7_readyOf_81 rfl ?_
  refine XE_iload_n (n := 85) dX7_readyOf_84 rfl rfl rfl ?_
  refine XE_iald (row := m0 2) (n := 86) rfl rfl dX7_readyOf_85 rfl ?_
  refine XE_iconst (v := 2) (n := 87) dX7_readyOf_86 rfl (by decide) ?_
  refine XE_idiv (n := 88) dX7_readyOf_87 rfl (by decide) ?_
  refine XE_iadd (n := 89) dX7_readyOf_88 rfl ?_
  exact XE_ireturn rfl dX7_readyOf_89 rfl (Nat.le_refl _) (Nat.le_refl _)
set_option maxRecDepth 100000 in
theorem xe_X7_readyOf (B : XB) (m0 : Mem) (a1 : Int32) : XE B M_X7_readyOf (XQm B 0 0 SH_M) 0 [(0, some (.ref 0)), (1, some (.int a1))] [] (0, 0) SH_M [m0] (fun t => some (some (.int t), [m0])) (f_X7_readyOf m0 a1) := by
  unfold f_X7_readyOf
  refine XE_aload_n (n := 1) dX7_readyOf_0 rfl rfl rfl ?_
  refine XE_getr (b := 3) (n := 4) xf_X7_16 rfl rfl dX7_readyOf_1 rfl ?_
  refine XE_iload_n (n := 5) dX7_readyOf_4 rfl rfl rfl ?_
  refine XE_iald (row := m0 3) (n := 6) rfl rfl dX7_readyOf_5 rfl ?_
  refine XE_topi (fun v1 => ?_)
  refine XE_istore_n (i := 2) (n := 7) dX7_readyOf_6 rfl rfl (Nat.le_of_ble_eq_true rfl) rfl ?_
  refine XE_aload_n (n := 8) dX7_readyOf_7 rfl rfl rfl ?_
  refine XE_getr (b := 1) (n := 11) xf_X7_7 rfl rfl dX7_readyOf_8 rfl ?_
  refine XE_iload_n (n := 12) dX7_readyOf_11 rfl rfl rfl ?_
  refine XE_iald (row := m0 1) (n := 13) rfl rfl dX7_readyOf_12 rfl ?_
  refine XE_tsw (c := 0) (t := 48) (off := 35) dX7_readyOf_13 (by decide) (by decide) rfl rfl ?_ (fun h2 => ?_)
  · refine XE_iload_n (n := 49) dX7_readyOf_48 rfl rfl rfl ?_
    exact XE_ireturn rfl dX7_readyOf_49 rfl (Nat.le_refl _) (Nat.le_refl _)
  refine XE_tsw (c := 1) (t := 50) (off := 37) dX7_readyOf_13 (by decide) (by decide) rfl rfl ?_ (fun h3 => ?_)
  · refine XE_iconst (v := 0) (n := 51) dX7_readyOf_50 rfl (by decide) ?_
    refine XE_iload_n (n := 52) dX7_readyOf_51 rfl rfl rfl ?_
    refine XE_iconst (v := 5) (n := 53) dX7_readyOf_52 rfl (by decide) ?_
    refine XE_isub (n := 54) dX7_readyOf_53 rfl ?_
    refine XE_callS (ni := 2) (As := [.int 0, .int (v1 - 5)]) (π := []) (co := [0]) (cv := [m0]) (nn := 1) (hs2 := fun t4 => [m0]) (st2 := fun t4 => [.int t4]) (n := 57) xc_X7_90 (fun l t ht => met_X7_most l 0 (v1 - 5) t ht) rfl rfl rfl dX7_readyOf_54 (Nat.le_of_ble_eq_true rfl) ⟨Nat.zero_le _, Nat.zero_le _⟩ (Nat.le_of_ble_eq_true rfl) (Nat.le_of_ble_eq_true rfl) ok_40 rfl rfl rfl (fun _ => rfl) (fun _ => rfl) (fun _ => rfl) rfl (fun _ => rfl) rfl (fun t4 => ?_)
    exact XE_ireturn rfl dX7_readyOf_57 rfl (Nat.le_refl _) (Nat.le_refl _)
  refine XE_tsw (c := 2) (t := 79) (off := 66) dX7_readyOf_13 (by decide) (by decide) rfl rfl ?_ (fun h5 => ?_)
  · refine XE_ls (x_sub_ok (ls' := [(0, some (.ref 0)), (1, some (.int a1)), (2, some (.int v1))]) ⟨rfl, rfl, rfl, trivial⟩) ?_
    exact f_X7_readyOf_J79_x B m0 a1 v1
  refine XE_tsw (c := 3) (t := 58) (off := 45) dX7_readyOf_13 (by decide) (by decide) rfl rfl ?_ (fun h8 => ?_)
  · refine XE_iload_n (n := 59) dX7_readyOf_58 rfl rfl rfl ?_
    refine XE_aload_n (n := 60) dX7_readyOf_59 rfl rfl rfl ?_
    refine XE_getr (b := 2) (n := 63) xf_X7_13 rfl rfl dX7_readyOf_60 rfl ?_
    refine XE_iload_n (n := 64) dX7_readyOf_63 rfl rfl rfl ?_
    refine XE_iald (row := m0 2) (n := 65) rfl rfl dX7_readyOf_64 rfl ?_
    refine XE_iadd (n := 66) dX7_readyOf_65 rfl ?_
    refine XE_bipush (v := 7) (n := 68) dX7_readyOf_66 rfl (by decide) ?_
    refine XE_iadd (n := 69) dX7_readyOf_68 rfl ?_
    exact XE_ireturn rfl dX7_readyOf_69 rfl (Nat.le_refl _) (Nat.le_refl _)
  refine XE_tsw (c := 4) (t := 70) (off := 57) dX7_readyOf_13 (by decide) (by decide) rfl rfl ?_ (fun h9 => ?_)
  · refine XE_iconst (v := 0) (n := 71) dX7_readyOf_70 rfl (by decide) ?_
    refine XE_iload_n (n := 72) dX7_readyOf_71 rfl rfl rfl ?_
    refine XE_bipush (v := 20) (n := 74) dX7_readyOf_72 rfl (by decide) ?_
    refine XE_isub (n := 75) dX7_readyOf_74 rfl ?_
    refine XE_callS (ni := 2) (As := [.int 0, .int (v1 - 20)]) (π := []) (co := [0]) (cv := [m0]) (nn := 1) (hs2 := fun t10 => [m0]) (st2 := fun t10 => [.int t10]) (n := 78) xc_X7_90 (fun l t ht => met_X7_most l 0 (v1 - 20) t ht) rfl rfl rfl dX7_readyOf_75 (Nat.le_of_ble_eq_true rfl) ⟨Nat.zero_le _, Nat.zero_le _⟩ (Nat.le_of_ble_eq_true rfl) (Nat.le_of_ble_eq_true rfl) ok_40 rfl rfl rfl (fun _ => rfl) (fun _ => rfl) (fun _ => rfl) rfl (fun _ => rfl) rfl (fun t10 => ?_)
    exact XE_ireturn rfl dX7_readyOf_78 rfl (Nat.le_refl _) (Nat.le_refl _)
  refine XE_tswd (t := 79) dX7_readyOf_13 (by have q0 := x_ne h2 (z := 0) (by decide); have q1 := x_ne h3 (z := 1) (by decide); have q2 := x_ne h5 (z := 2) (by decide); have q3 := x_ne h8 (z := 3) (by decide); have q4 := x_ne h9 (z := 4) (by decide); omega) rfl ?_
  refine XE_ls (x_sub_ok (ls' := [(0, some (.ref 0)), (1, some (.int a1)), (2, some (.int v1))]) ⟨rfl, rfl, rfl, trivial⟩) ?_
  exact f_X7_readyOf_J79_x B m0 a1 v1
theorem met_X7_readyOf (l : Launch) (m0 : Mem) (a1 : Int32) (t : Int32) (ht : f_X7_readyOf m0 a1 = some t) : XMet l yX7_readyOf cX7_readyOf 3 (some .int) 2 0 0 [.ref 0, .int a1] SH_M [m0] SH_M (some (.int t), [m0]) := XMet.of (by decide +kernel) (fun _ => Nat.le_of_ble_eq_true rfl) (fun B => xe_X7_readyOf B m0 a1) (by rw [ht]; rfl)
/-! X7_guestsOf: EveryTwentyMinutesModel.guestsOf(I)I in world M at (0,) -/
abbrev M_X7_guestsOf : XM := (RX7, cX7_guestsOf, 3, (some .int), "guestsOf", 1, 0, 0)
def f_X7_guestsOf (m0 : Mem) (a1 : Int32) : Option (Int32) :=
  ck (inb a1 7) <|
  lt ((m0 2 (ix a1)) + 4) fun v1 =>
  ck (inb a1 7) <|
  if (m0 1 (ix a1)) = 1 then
    some (v1 / 2)
  else
    if (m0 1 (ix a1)) = 2 then
      some (2 * v1)
    else
      if (m0 1 (ix a1)) = 3 then
        some v1
      else
        if (m0 1 (ix a1)) = 4 then
          some (v1 / 2)
        else
          if (m0 1 (ix a1)) = 5 then
            some ((2 * v1) - 3)
          else
            some v1
set_option maxRecDepth 100000 in
theorem xe_X7_guestsOf (B : XB) (m0 : Mem) (a1 : Int32) : XE B M_X7_guestsOf (XQm B 0 0 SH_M) 0 [(0, some (.ref 0)), (1, some (.int a1))] [] (0, 0) SH_M [m0] (fun t => some (some (.int t), [m0])) (f_X7_guestsOf m0 a1) := by
  unfold f_X7_guestsOf
  refine XE_aload_n (n := 1) dX7_guestsOf_0 rfl rfl rfl ?_
  refine XE_getr (b := 2) (n := 4) xf_X7_13 rfl rfl dX7_guestsOf_1 rfl ?_
  refine XE_iload_n (n := 5) dX7_guestsOf_4 rfl rfl rfl ?_
  refine XE_iald (row := m0 2) (n := 6) rfl rfl dX7_guestsOf_5 rfl ?_
  refine XE_iconst (v := 4) (n := 7) dX7_guestsOf_6 rfl (by decide) ?_
  refine XE_iadd (n := 8) dX7_guestsOf_7 rfl ?_
  refine XE_topi (fun v1 => ?_)
  refine XE_istore_n (i := 2) (n := 9) dX7_guestsOf_8 rfl rfl (Nat.le_of_ble_eq_true rfl) rfl ?_
  refine XE_aload_n (n := 10) dX7_guestsOf_9 rfl rfl rfl ?_
  refine XE_getr (b := 1) (n := 13) xf_X7_7 rfl rfl dX7_guestsOf_10 rfl ?_
  refine XE_iload_n (n := 14) dX7_guestsOf_13 rfl rfl rfl ?_
  refine XE_iald (row := m0 1) (n := 15) rfl rfl dX7_guestsOf_14 rfl ?_
  refine XE_tsw (c := 1) (t := 48) (off := 33) dX7_guestsOf_15 (by decide) (by decide) rfl rfl ?_ (fun h2 => ?_)
  · refine XE_iload_n (n := 49) dX7_guestsOf_48 rfl rfl rfl ?_
    refine XE_iconst (v := 2) (n := 50) dX7_guestsOf_49 rfl (by decide) ?_
    refine XE_idiv (n := 51) dX7_guestsOf_50 rfl (by decide) ?_
    exact XE_ireturn rfl dX7_guestsOf_51 rfl (Nat.le_refl _) (Nat.le_refl _)
  refine XE_tsw (c := 2) (t := 52) (off := 37) dX7_guestsOf_15 (by decide) (by decide) rfl rfl ?_ (fun h3 => ?_)
  · refine XE_iconst (v := 2) (n := 53) dX7_guestsOf_52 rfl (by decide) ?_
    refine XE_iload_n (n := 54) dX7_guestsOf_53 rfl rfl rfl ?_
    refine XE_imul (n := 55) dX7_guestsOf_54 rfl ?_
    exact XE_ireturn rfl dX7_guestsOf_55 rfl (Nat.le_refl _) (Nat.le_refl _)
  refine XE_tsw (c := 3) (t := 62) (off := 47) dX7_guestsOf_15 (by decide) (by decide) rfl rfl ?_ (fun h4 => ?_)
  · refine XE_iload_n (n := 63) dX7_guestsOf_62 rfl rfl rfl ?_
    exact XE_ireturn rfl dX7_guestsOf_63 rfl (Nat.le_refl _) (Nat.le_refl _)
  refine XE_tsw (c := 4) (t := 48) (off := 33) dX7_guestsOf_15 (by decide) (by decide) rfl rfl ?_ (fun h5 => ?_)
  · refine XE_iload_n (n := 49) dX7_guestsOf_48 rfl rfl rfl ?_
    refine XE_iconst (v := 2) (n := 50) dX7_guestsOf_49 rfl (by decide) ?_
    refine XE_idiv (n := 51) dX7_guestsOf_50 rfl (by decide) ?_
    exact XE_ireturn rfl dX7_guestsOf_51 rfl (Nat.le_refl _) (Nat.le_refl _)
  refine XE_tsw (c := 5) (t := 56) (off := 41) dX7_guestsOf_15 (by decide) (by decide) rfl rfl ?_ (fun h6 => ?_)
  · refine XE_iconst (v := 2) (n := 57) dX7_guestsOf_56 rfl (by decide) ?_
    refine XE_iload_n (n := 58) dX7_guestsOf_57 rfl rfl rfl ?_
    refine XE_imul (n := 59) dX7_guestsOf_58 rfl ?_
    refine XE_iconst (v := 3) (n := 60) dX7_guestsOf_59 rfl (by decide) ?_
    refine XE_isub (n := 61) dX7_guestsOf_60 rfl ?_
    exact XE_ireturn rfl dX7_guestsOf_61 rfl (Nat.le_refl _) (Nat.le_refl _)
  refine XE_tswd (t := 62) dX7_guestsOf_15 (by have q0 := x_ne h2 (z := 1) (by decide); have q1 := x_ne h3 (z := 2) (by decide); have q2 := x_ne h4 (z := 3) (by decide); have q3 := x_ne h5 (z := 4) (by decide); have q4 := x_ne h6 (z := 5) (by decide); omega) rfl ?_
  refine XE_iload_n (n := 63) dX7_guestsOf_62 rfl rfl rfl ?_
  exact XE_ireturn rfl dX7_guestsOf_63 rfl (Nat.le_refl _) (Nat.le_refl _)
theorem met_X7_guestsOf (l : Launch) (m0 : Mem) (a1 : Int32) (t : Int32) (ht : f_X7_guestsOf m0 a1 = some t) : XMet l yX7_guestsOf cX7_guestsOf 3 (some .int) 1 0 0 [.ref 0, .int a1] SH_M [m0] SH_M (some (.int t), [m0]) := XMet.of (by decide +kernel) (fun _ => Nat.le_of_ble_eq_true rfl) (fun B => xe_X7_guestsOf B m0 a1) (by rw [ht]; rfl)
