/-! X2_wedAll: EveryTwentyMinutes$Hall.wedAll()V in world H at (0,) -/
abbrev M_X2_wedAll : XM := (RX2, cX2_wedAll, 2, none, "wedAll", 4, 0, 0)
def f_X2_wedAll_L5 : Nat → Int32 → Mem → Option (Mem)
  | 0, _, _ => none
  | n + 1, v2, w3 =>
    if v2 ≤ 0 then
      some (w3)
    else
      (f_X2_wedFirst w3 0).bind fun t4 =>
      lt (v2 + (-1)) fun v5 =>
      (f_X2_wedAll_L5 n) v5 t4
def f_X2_wedAll (m0 : Mem) : Option (Mem) :=
  lt (m0 0 8) fun v1 =>
  (f_X2_wedAll_L5 6000 v1 m0).bind fun t7 =>
  some t7
set_option maxRecDepth 100000 in
theorem f_X2_wedAll_L5_x {α R : Type} (B : XB) {Q : R → State → Prop} {k : α → Option R} {r : (Mem) → Option α} (hE : ∀ t0 : (Mem), XE B M_X2_wedAll Q 20 [] [] (0, 0) SH_H [t0] (fun t => (r t).bind k) (some t0)) : ∀ (n : Nat) (v2 : Int32) (w3 : Mem), XE B M_X2_wedAll Q 5 [(0, some (.ref 0)), (1, some (.int v2))] [] (0, 0) SH_H [w3] (fun t => (r t).bind k) (f_X2_wedAll_L5 n v2 w3) := by
  intro n
  induction n with
  | zero => intros; exact XE_none
  | succ n ih =>
    intro v2 w3
    rw [f_X2_wedAll_L5]
    refine XE_iload_n (n := 6) dX2_wedAll_5 rfl rfl rfl ?_
    refine XE_if_le (t := 20) (n := 9) dX2_wedAll_6 rfl rfl (fun h6 => ?_) (fun h6 => ?_)
    · refine XE_ls (x_sub_ok (ls' := []) trivial) ?_
      exact hE (w3)
    · refine XE_aload_n (n := 10) dX2_wedAll_9 rfl rfl rfl ?_
      refine XE_iconst (v := 0) (n := 11) dX2_wedAll_10 rfl (by decide) ?_
      refine XE_callVi (ni := 1) (As := [.int 0]) (st2 := fun t4 => []) (n := 14) (b := 0) xc_X2_87 (fun l t ht => met_X2_wedFirst l w3 0 t ht) rfl rfl rfl rfl dX2_wedAll_11 (Nat.le_of_ble_eq_true rfl) ⟨Nat.zero_le _, Nat.zero_le _⟩ (Nat.le_of_ble_eq_true rfl) (Nat.le_of_ble_eq_true rfl) (fun _ => rfl) rfl (fun t4 => ?_)
      refine XE_iincl (n := 17) dX2_wedAll_14 rfl rfl (by decide) (Nat.le_of_ble_eq_true rfl) rfl (fun v5 => ?_)
      refine XE_goto (n := 5) dX2_wedAll_17 rfl ?_
      refine XE_ls (x_sub_ok (ls' := [(0, some (.ref 0)), (1, some (.int v5))]) ⟨rfl, rfl, trivial⟩) ?_
      exact ih v5 t4
set_option maxRecDepth 100000 in
theorem xe_X2_wedAll (B : XB) (m0 : Mem) : XE B M_X2_wedAll (XQm B 0 0 SH_H) 0 [(0, some (.ref 0))] [] (0, 0) SH_H [m0] (fun t => some (none, [t])) (f_X2_wedAll m0) := by
  unfold f_X2_wedAll
  refine XE_aload_n (n := 1) dX2_wedAll_0 rfl rfl rfl ?_
  refine XE_getf (v := m0 0 8) (n := 4) xf_X2_37 rfl rfl rfl dX2_wedAll_1 rfl ?_
  refine XE_topi (fun v1 => ?_)
  refine XE_istore_n (i := 1) (n := 5) dX2_wedAll_4 rfl rfl (Nat.le_of_ble_eq_true rfl) rfl ?_
  refine XE_ls (x_sub_ok (ls' := [(0, some (.ref 0)), (1, some (.int v1))]) ⟨rfl, rfl, trivial⟩) ?_
  refine XE_reg (J := 20) (lsJ := fun t7 => []) (stJ := fun t7 => []) (hsJ := fun t7 => [t7]) (fun t7 => ?_) (fun hJ8 => f_X2_wedAll_L5_x B hJ8 6000 v1 m0)
  exact XE_vreturn rfl dX2_wedAll_20 rfl (Nat.le_refl _) (Nat.le_refl _)
theorem met_X2_wedAll (l : Launch) (m0 : Mem) (t : Mem) (ht : f_X2_wedAll m0 = some t) : XMet l yX2_wedAll cX2_wedAll 2 none 4 0 0 [.ref 0] SH_H [m0] SH_H (none, [t]) := XMet.of (by decide +kernel) (fun _ => Nat.le_of_ble_eq_true rfl) (fun B => xe_X2_wedAll B m0) (by rw [ht]; rfl)
/-! X2_wedSome: EveryTwentyMinutes$Hall.wedSome(I)V in world H at (0,) -/
abbrev M_X2_wedSome : XM := (RX2, cX2_wedSome, 4, none, "wedSome", 4, 0, 0)
def f_X2_wedSome_L11 (v1 : Int32) : Nat → Int32 → Mem → Option (Mem)
  | 0, _, _ => none
  | n + 1, v2, w3 =>
    if v1 ≤ v2 then
      some (w3)
    else
      (f_X2_wedFirst w3 0).bind fun t4 =>
      lt (v2 + 1) fun v5 =>
      (f_X2_wedSome_L11 v1 n) v5 t4
def f_X2_wedSome (m0 : Mem) (a1 : Int32) : Option (Mem) :=
  lt (imin a1 (m0 0 8)) fun v1 =>
  (f_X2_wedSome_L11 v1 6000 (0 : Int32) m0).bind fun t7 =>
  some t7
set_option maxRecDepth 100000 in
theorem f_X2_wedSome_L11_x {α R : Type} (B : XB) {Q : R → State → Prop} {k : α → Option R} {r : (Mem) → Option α} (v1 : Int32) (hE : ∀ t0 : (Mem), XE B M_X2_wedSome Q 27 [] [] (0, 0) SH_H [t0] (fun t => (r t).bind k) (some t0)) : ∀ (n : Nat) (v2 : Int32) (w3 : Mem), XE B M_X2_wedSome Q 11 [(0, some (.ref 0)), (2, some (.int v1)), (3, some (.int v2))] [] (0, 0) SH_H [w3] (fun t => (r t).bind k) (f_X2_wedSome_L11 v1 n v2 w3) := by
  intro n
  induction n with
  | zero => intros; exact XE_none
  | succ n ih =>
    intro v2 w3
    rw [f_X2_wedSome_L11]
    refine XE_iload_n (n := 12) dX2_wedSome_11 rfl rfl rfl ?_
    refine XE_iload_n (n := 13) dX2_wedSome_12 rfl rfl rfl ?_
    refine XE_icmp_ge (t := 27) (n := 16) dX2_wedSome_13 rfl rfl (fun h6 => ?_) (fun h6 => ?_)
    · refine XE_ls (x_sub_ok (ls' := []) trivial) ?_
      exact hE (w3)
    · refine XE_aload_n (n := 17) dX2_wedSome_16 rfl rfl rfl ?_
      refine XE_iconst (v := 0) (n := 18) dX2_wedSome_17 rfl (by decide) ?_
      refine XE_callVi (ni := 1) (As := [.int 0]) (st2 := fun t4 => []) (n := 21) (b := 0) xc_X2_87 (fun l t ht => met_X2_wedFirst l w3 0 t ht) rfl rfl rfl rfl dX2_wedSome_18 (Nat.le_of_ble_eq_true rfl) ⟨Nat.zero_le _, Nat.zero_le _⟩ (Nat.le_of_ble_eq_true rfl) (Nat.le_of_ble_eq_true rfl) (fun _ => rfl) rfl (fun t4 => ?_)
      refine XE_iincl (n := 24) dX2_wedSome_21 rfl rfl (by decide) (Nat.le_of_ble_eq_true rfl) rfl (fun v5 => ?_)
      refine XE_goto (n := 11) dX2_wedSome_24 rfl ?_
      refine XE_ls (x_sub_ok (ls' := [(0, some (.ref 0)), (2, some (.int v1)), (3, some (.int v5))]) ⟨rfl, rfl, rfl, trivial⟩) ?_
      exact ih v5 t4
set_option maxRecDepth 100000 in
theorem xe_X2_wedSome (B : XB) (m0 : Mem) (a1 : Int32) : XE B M_X2_wedSome (XQm B 0 0 SH_H) 0 [(0, some (.ref 0)), (1, some (.int a1))] [] (0, 0) SH_H [m0] (fun t => some (none, [t])) (f_X2_wedSome m0 a1) := by
  unfold f_X2_wedSome
  refine XE_iload_n (n := 1) dX2_wedSome_0 rfl rfl rfl ?_
  refine XE_aload_n (n := 2) dX2_wedSome_1 rfl rfl rfl ?_
  refine XE_getf (v := m0 0 8) (n := 5) xf_X2_37 rfl rfl rfl dX2_wedSome_2 rfl ?_
  refine XE_mmin (n := 8) xp_X2_82 rfl (Nat.le_of_ble_eq_true rfl) (Nat.le_of_ble_eq_true rfl) dX2_wedSome_5 rfl ?_
  refine XE_topi (fun v1 => ?_)
  refine XE_istore_n (i := 2) (n := 9) dX2_wedSome_8 rfl rfl (Nat.le_of_ble_eq_true rfl) rfl ?_
  refine XE_iconst (v := 0) (n := 10) dX2_wedSome_9 rfl (by decide) ?_
  refine XE_istore_n (i := 3) (n := 11) dX2_wedSome_10 rfl rfl (Nat.le_of_ble_eq_true rfl) rfl ?_
  refine XE_ls (x_sub_ok (ls' := [(0, some (.ref 0)), (2, some (.int v1)), (3, some (.int 0))]) ⟨rfl, rfl, rfl, trivial⟩) ?_
  refine XE_reg (J := 27) (lsJ := fun t7 => []) (stJ := fun t7 => []) (hsJ := fun t7 => [t7]) (fun t7 => ?_) (fun hJ8 => f_X2_wedSome_L11_x B v1 hJ8 6000 (0 : Int32) m0)
  exact XE_vreturn rfl dX2_wedSome_27 rfl (Nat.le_refl _) (Nat.le_refl _)
theorem met_X2_wedSome (l : Launch) (m0 : Mem) (a1 : Int32) (t : Mem) (ht : f_X2_wedSome m0 a1 = some t) : XMet l yX2_wedSome cX2_wedSome 4 none 4 0 0 [.ref 0, .int a1] SH_H [m0] SH_H (none, [t]) := XMet.of (by decide +kernel) (fun _ => Nat.le_of_ble_eq_true rfl) (fun B => xe_X2_wedSome B m0 a1) (by rw [ht]; rfl)
/-! X2_waitOf: EveryTwentyMinutes$Hall.waitOf(I)I in world H at (0,) -/
abbrev M_X2_waitOf : XM := (RX2, cX2_waitOf, 2, (some .int), "waitOf", 3, 0, 0)
def f_X2_waitOf (m0 : Mem) (a1 : Int32) : Option (Int32) :=
  ck (inb a1 7) <|
  (f_X2_readyOf m0 a1).bind fun t1 =>
  some ((m0 4 (ix a1)) - t1)
set_option maxRecDepth 100000 in
theorem xe_X2_waitOf (B : XB) (m0 : Mem) (a1 : Int32) : XE B M_X2_waitOf (XQm B 0 0 SH_H) 0 [(0, some (.ref 0)), (1, some (.int a1))] [] (0, 0) SH_H [m0] (fun t => some (some (.int t), [m0])) (f_X2_waitOf m0 a1) := by
  unfold f_X2_waitOf
  refine XE_aload_n (n := 1) dX2_waitOf_0 rfl rfl rfl ?_
  refine XE_getr (b := 4) (n := 4) xf_X2_28 rfl rfl dX2_waitOf_1 rfl ?_
  refine XE_iload_n (n := 5) dX2_waitOf_4 rfl rfl rfl ?_
  refine XE_iald (row := m0 4) (n := 6) rfl rfl dX2_waitOf_5 rfl ?_
  refine XE_aload_n (n := 7) dX2_waitOf_6 rfl rfl rfl ?_
  refine XE_iload_n (n := 8) dX2_waitOf_7 rfl rfl rfl ?_
  refine XE_callVi (ni := 1) (As := [.int a1]) (st2 := fun t1 => [.int t1, .int (m0 4 (ix a1))]) (n := 11) (b := 0) xc_X2_98 (fun l t ht => met_X2_readyOf l m0 a1 t ht) rfl rfl rfl rfl dX2_waitOf_8 (Nat.le_of_ble_eq_true rfl) ⟨Nat.zero_le _, Nat.zero_le _⟩ (Nat.le_of_ble_eq_true rfl) (Nat.le_of_ble_eq_true rfl) (fun _ => rfl) rfl (fun t1 => ?_)
  refine XE_isub (n := 12) dX2_waitOf_11 rfl ?_
  exact XE_ireturn rfl dX2_waitOf_12 rfl (Nat.le_refl _) (Nat.le_refl _)
theorem met_X2_waitOf (l : Launch) (m0 : Mem) (a1 : Int32) (t : Int32) (ht : f_X2_waitOf m0 a1 = some t) : XMet l yX2_waitOf cX2_waitOf 2 (some .int) 3 0 0 [.ref 0, .int a1] SH_H [m0] SH_H (some (.int t), [m0]) := XMet.of (by decide +kernel) (fun _ => Nat.le_of_ble_eq_true rfl) (fun B => xe_X2_waitOf B m0 a1) (by rw [ht]; rfl)
/-! X2_allLate: EveryTwentyMinutes$Hall.allLate()I in world H at (0,) -/
abbrev M_X2_allLate : XM := (RX2, cX2_allLate, 3, (some .int), "allLate", 2, 0, 0)
def f_X2_allLate_L4 (m0 : Mem) : Nat → Int32 → Int32 → Option (Int32)
  | 0, _, _ => none
  | n + 1, v1, v2 =>
    if (m0 0 0) ≤ v2 then
      some (v1)
    else
      (f_X2_lateOf m0 v2).bind fun t3 =>
      lt (v1 + t3) fun v4 =>
      lt (v2 + 1) fun v5 =>
      (f_X2_allLate_L4 m0 n) v4 v5
def f_X2_allLate (m0 : Mem) : Option (Int32) :=
  (f_X2_allLate_L4 m0 6000 (0 : Int32) (0 : Int32)).bind fun t7 =>
  some t7
set_option maxRecDepth 100000 in
theorem f_X2_allLate_L4_x {α R : Type} (B : XB) {Q : R → State → Prop} {k : α → Option R} {r : (Int32) → Option α} (m0 : Mem) (hE : ∀ t0 : (Int32), XE B M_X2_allLate Q 26 [(1, some (.int t0))] [] (0, 0) SH_H [m0] (fun t => (r t).bind k) (some t0)) : ∀ (n : Nat) (v1 : Int32) (v2 : Int32), XE B M_X2_allLate Q 4 [(0, some (.ref 0)), (1, some (.int v1)), (2, some (.int v2))] [] (0, 0) SH_H [m0] (fun t => (r t).bind k) (f_X2_allLate_L4 m0 n v1 v2) := by
  intro n
  induction n with
  | zero => intros; exact XE_none
  | succ n ih =>
    intro v1 v2
    rw [f_X2_allLate_L4]
    refine XE_iload_n (n := 5) dX2_allLate_4 rfl rfl rfl ?_
    refine XE_aload_n (n := 6) dX2_allLate_5 rfl rfl rfl ?_
    refine XE_getf (v := m0 0 0) (n := 9) xf_X2_9 rfl rfl rfl dX2_allLate_6 rfl ?_
    refine XE_icmp_ge (t := 26) (n := 12) dX2_allLate_9 rfl rfl (fun h6 => ?_) (fun h6 => ?_)
    · refine XE_ls (x_sub_ok (ls' := [(1, some (.int v1))]) ⟨rfl, trivial⟩) ?_
      exact hE (v1)
    · refine XE_iload_n (n := 13) dX2_allLate_12 rfl rfl rfl ?_
      refine XE_aload_n (n := 14) dX2_allLate_13 rfl rfl rfl ?_
      refine XE_iload_n (n := 15) dX2_allLate_14 rfl rfl rfl ?_
      refine XE_callVi (ni := 1) (As := [.int v2]) (st2 := fun t3 => [.int t3, .int v1]) (n := 18) (b := 0) xc_X2_101 (fun l t ht => met_X2_lateOf l m0 v2 t ht) rfl rfl rfl rfl dX2_allLate_15 (Nat.le_of_ble_eq_true rfl) ⟨Nat.zero_le _, Nat.zero_le _⟩ (Nat.le_of_ble_eq_true rfl) (Nat.le_of_ble_eq_true rfl) (fun _ => rfl) rfl (fun t3 => ?_)
      refine XE_iadd (n := 19) dX2_allLate_18 rfl ?_
      refine XE_topi (fun v4 => ?_)
      refine XE_istore_n (i := 1) (n := 20) dX2_allLate_19 rfl rfl (Nat.le_of_ble_eq_true rfl) rfl ?_
      refine XE_iincl (n := 23) dX2_allLate_20 rfl rfl (by decide) (Nat.le_of_ble_eq_true rfl) rfl (fun v5 => ?_)
      refine XE_goto (n := 4) dX2_allLate_23 rfl ?_
      refine XE_ls (x_sub_ok (ls' := [(0, some (.ref 0)), (1, some (.int v4)), (2, some (.int v5))]) ⟨rfl, rfl, rfl, trivial⟩) ?_
      exact ih v4 v5
set_option maxRecDepth 100000 in
theorem xe_X2_allLate (B : XB) (m0 : Mem) : XE B M_X2_allLate (XQm B 0 0 SH_H) 0 [(0, some (.ref 0))] [] (0, 0) SH_H [m0] (fun t => some (some (.int t), [m0])) (f_X2_allLate m0) := by
  unfold f_X2_allLate
  refine XE_iconst (v := 0) (n := 1) dX2_allLate_0 rfl (by decide) ?_
  refine XE_istore_n (i := 1) (n := 2) dX2_allLate_1 rfl rfl (Nat.le_of_ble_eq_true rfl) rfl ?_
  refine XE_iconst (v := 0) (n := 3) dX2_allLate_2 rfl (by decide) ?_
  refine XE_istore_n (i := 2) (n := 4) dX2_allLate_3 rfl rfl (Nat.le_of_ble_eq_true rfl) rfl ?_
  refine XE_ls (x_sub_ok (ls' := [(0, some (.ref 0)), (1, some (.int 0)), (2, some (.int 0))]) ⟨rfl, rfl, rfl, trivial⟩) ?_
  refine XE_reg (J := 26) (lsJ := fun t7 => [(1, some (.int t7))]) (stJ := fun t7 => []) (hsJ := fun t7 => [m0]) (fun t7 => ?_) (fun hJ8 => f_X2_allLate_L4_x B m0 hJ8 6000 (0 : Int32) (0 : Int32))
  refine XE_iload_n (n := 27) dX2_allLate_26 rfl rfl rfl ?_
  exact XE_ireturn rfl dX2_allLate_27 rfl (Nat.le_refl _) (Nat.le_refl _)
theorem met_X2_allLate (l : Launch) (m0 : Mem) (t : Int32) (ht : f_X2_allLate m0 = some t) : XMet l yX2_allLate cX2_allLate 3 (some .int) 2 0 0 [.ref 0] SH_H [m0] SH_H (some (.int t), [m0]) := XMet.of (by decide +kernel) (fun _ => Nat.le_of_ble_eq_true rfl) (fun B => xe_X2_allLate B m0) (by rw [ht]; rfl)
/-! X2_last: EveryTwentyMinutes$Hall.last()I in world H at (0,) -/
abbrev M_X2_last : XM := (RX2, cX2_last, 3, (some .int), "last", 1, 0, 0)
def f_X2_last_L4 (m0 : Mem) : Nat → Int32 → Int32 → Option (Int32)
  | 0, _, _ => none
  | n + 1, v1, v2 =>
    if (m0 0 0) ≤ v2 then
      some (v1)
    else
      ck (inb v2 7) <|
      lt (imax v1 (m0 5 (ix v2))) fun v3 =>
      lt (v2 + 1) fun v4 =>
      (f_X2_last_L4 m0 n) v3 v4
def f_X2_last (m0 : Mem) : Option (Int32) :=
  (f_X2_last_L4 m0 6000 (0 : Int32) (0 : Int32)).bind fun t6 =>
  some t6
set_option maxRecDepth 100000 in
theorem f_X2_last_L4_x {α R : Type} (B : XB) {Q : R → State → Prop} {k : α → Option R} {r : (Int32) → Option α} (m0 : Mem) (hE : ∀ t0 : (Int32), XE B M_X2_last Q 29 [(1, some (.int t0))] [] (0, 0) SH_H [m0] (fun t => (r t).bind k) (some t0)) : ∀ (n : Nat) (v1 : Int32) (v2 : Int32), XE B M_X2_last Q 4 [(0, some (.ref 0)), (1, some (.int v1)), (2, some (.int v2))] [] (0, 0) SH_H [m0] (fun t => (r t).bind k) (f_X2_last_L4 m0 n v1 v2) := by
  intro n
  induction n with
  | zero => intros; exact XE_none
  | succ n ih =>
    intro v1 v2
    rw [f_X2_last_L4]
    refine XE_iload_n (n := 5) dX2_last_4 rfl rfl rfl ?_
    refine XE_aload_n (n := 6) dX2_last_5 rfl rfl rfl ?_
    refine XE_getf (v := m0 0 0) (n := 9) xf_X2_9 rfl rfl rfl dX2_last_6 rfl ?_
    refine XE_icmp_ge (t := 29) (n := 12) dX2_last_9 rfl rfl (fun h5 => ?_) (fun h5 => ?_)
    · refine XE_ls (x_sub_ok (ls' := [(1, some (.int v1))]) ⟨rfl, trivial⟩) ?_
      exact hE (v1)
    · refine XE_iload_n (n := 13) dX2_last_12 rfl rfl rfl ?_
      refine XE_aload_n (n := 14) dX2_last_13 rfl rfl rfl ?_
      refine XE_getr (b := 5) (n := 17) xf_X2_31 rfl rfl dX2_last_14 rfl ?_
      refine XE_iload_n (n := 18) dX2_last_17 rfl rfl rfl ?_
      refine XE_iald (row := m0 5) (n := 19) rfl rfl dX2_last_18 rfl ?_
      refine XE_mmax (n := 22) xp_X2_95 rfl (Nat.le_of_ble_eq_true rfl) (Nat.le_of_ble_eq_true rfl) dX2_last_19 rfl ?_
      refine XE_topi (fun v3 => ?_)
      refine XE_istore_n (i := 1) (n := 23) dX2_last_22 rfl rfl (Nat.le_of_ble_eq_true rfl) rfl ?_
      refine XE_iincl (n := 26) dX2_last_23 rfl rfl (by decide) (Nat.le_of_ble_eq_true rfl) rfl (fun v4 => ?_)
      refine XE_goto (n := 4) dX2_last_26 rfl ?_
      refine XE_ls (x_sub_ok (ls' := [(0, some (.ref 0)), (1, some (.int v3)), (2, some (.int v4))]) ⟨rfl, rfl, rfl, trivial⟩) ?_
      exact ih v3 v4
set_option maxRecDepth 100000 in
theorem xe_X2_last (B : XB) (m0 : Mem) : XE B M_X2_last (XQm B 0 0 SH_H) 0 [(0, some (.ref 0))] [] (0, 0) SH_H [m0] (fun t => some (some (.int t), [m0])) (f_X2_last m0) := by
  unfold f_X2_last
  refine XE_iconst (v := 0) (n := 1) dX2_last_0 rfl (by decide) ?_
  refine XE_istore_n (i := 1) (n := 2) dX2_last_1 rfl rfl (Nat.le_of_ble_eq_true rfl) rfl ?_
  refine XE_iconst (v := 0) (n := 3) dX2_last_2 rfl (by decide) ?_
  refine XE_istore_n (i := 2) (n := 4) dX2_last_3 rfl rfl (Nat.le_of_ble_eq_true rfl) rfl ?_
  refine XE_ls (x_sub_ok (ls' := [(0, some (.ref 0)), (1, some (.int 0)), (2, some (.int 0))]) ⟨rfl, rfl, rfl, trivial⟩) ?_
  refine XE_reg (J := 29) (lsJ := fun t6 => [(1, some (.int t6))]) (stJ := fun t6 => []) (hsJ := fun t6 => [m0]) (fun t6 => ?_) (fun hJ7 => f_X2_last_L4_x B m0 hJ7 6000 (0 : Int32) (0 : Int32))
  refine XE_iload_n (n := 30) dX2_last_29 rfl rfl rfl ?_
  exact XE_ireturn rfl dX2_last_30 rfl (Nat.le_refl _) (Nat.le_refl _)
theorem met_X2_last (l : Launch) (m0 : Mem) (t : Int32) (ht : f_X2_last m0 = some t) : XMet l yX2_last cX2_last 3 (some .int) 1 0 0 [.ref 0] SH_H [m0] SH_H (some (.int t), [m0]) := XMet.of (by decide +kernel) (fun _ => Nat.le_of_ble_eq_true rfl) (fun B => xe_X2_last B m0) (by rw [ht]; rfl)
/-! X2_meet: EveryTwentyMinutes$Hall.meet(II)Z in world H at (0,) -/
abbrev M_X2_meet : XM := (RX2, cX2_meet, 3, (some .boolean), "meet", 1, 0, 0)
def f_X2_meet (m0 : Mem) (a1 : Int32) (a2 : Int32) : Option (Int32) :=
  ck (inb a1 7) <|
  ck (inb a2 7) <|
  if (iabs ((m0 5 (ix a1)) - (m0 4 (ix a2)))) ≤ 2 then
    some (1 : Int32)
  else
    ck (inb a2 7) <|
    ck (inb a1 7) <|
    if 2 < (iabs ((m0 5 (ix a2)) - (m0 4 (ix a1)))) then
      some (0 : Int32)
    else
      some (1 : Int32)
set_option maxRecDepth 100000 in
theorem xe_X2_meet (B : XB) (m0 : Mem) (a1 : Int32) (a2 : Int32) : XE B M_X2_meet (XQm B 0 0 SH_H) 0 [(0, some (.ref 0)), (1, some (.int a1)), (2, some (.int a2))] [] (0, 0) SH_H [m0] (fun t => some (some (.int t), [m0])) (f_X2_meet m0 a1 a2) := by
  unfold f_X2_meet
  refine XE_aload_n (n := 1) dX2_meet_0 rfl rfl rfl ?_
  refine XE_getr (b := 5) (n := 4) xf_X2_31 rfl rfl dX2_meet_1 rfl ?_
  refine XE_iload_n (n := 5) dX2_meet_4 rfl rfl rfl ?_
  refine XE_iald (row := m0 5) (n := 6) rfl rfl dX2_meet_5 rfl ?_
  refine XE_aload_n (n := 7) dX2_meet_6 rfl rfl rfl ?_
  refine XE_getr (b := 4) (n := 10) xf_X2_28 rfl rfl dX2_meet_7 rfl ?_
  refine XE_iload_n (n := 11) dX2_meet_10 rfl rfl rfl ?_
  refine XE_iald (row := m0 4) (n := 12) rfl rfl dX2_meet_11 rfl ?_
  refine XE_isub (n := 13) dX2_meet_12 rfl ?_
  refine XE_mabs (n := 16) xp_X2_108 rfl (Nat.le_of_ble_eq_true rfl) (Nat.le_of_ble_eq_true rfl) dX2_meet_13 rfl ?_
  refine XE_iconst (v := 2) (n := 17) dX2_meet_16 rfl (by decide) ?_
  refine XE_icmp_le (t := 40) (n := 20) dX2_meet_17 rfl rfl (fun h2 => ?_) (fun h2 => ?_)
  · refine XE_iconst (v := 1) (n := 41) dX2_meet_40 rfl (by decide) ?_
    refine XE_goto (n := 45) dX2_meet_41 rfl ?_
    exact XE_zreturn rfl rfl dX2_meet_45 rfl (Nat.le_refl _) (Nat.le_refl _)
  · refine XE_aload_n (n := 21) dX2_meet_20 rfl rfl rfl ?_
    refine XE_getr (b := 5) (n := 24) xf_X2_31 rfl rfl dX2_meet_21 rfl ?_
    refine XE_iload_n (n := 25) dX2_meet_24 rfl rfl rfl ?_
    refine XE_iald (row := m0 5) (n := 26) rfl rfl dX2_meet_25 rfl ?_
    refine XE_aload_n (n := 27) dX2_meet_26 rfl rfl rfl ?_
    refine XE_getr (b := 4) (n := 30) xf_X2_28 rfl rfl dX2_meet_27 rfl ?_
    refine XE_iload_n (n := 31) dX2_meet_30 rfl rfl rfl ?_
    refine XE_iald (row := m0 4) (n := 32) rfl rfl dX2_meet_31 rfl ?_
    refine XE_isub (n := 33) dX2_meet_32 rfl ?_
    refine XE_mabs (n := 36) xp_X2_108 rfl (Nat.le_of_ble_eq_true rfl) (Nat.le_of_ble_eq_true rfl) dX2_meet_33 rfl ?_
    refine XE_iconst (v := 2) (n := 37) dX2_meet_36 rfl (by decide) ?_
    refine XE_icmp_gt (t := 44) (n := 40) dX2_meet_37 rfl rfl (fun h1 => ?_) (fun h1 => ?_)
    · refine XE_iconst (v := 0) (n := 45) dX2_meet_44 rfl (by decide) ?_
      exact XE_zreturn rfl rfl dX2_meet_45 rfl (Nat.le_refl _) (Nat.le_refl _)
    · refine XE_iconst (v := 1) (n := 41) dX2_meet_40 rfl (by decide) ?_
      refine XE_goto (n := 45) dX2_meet_41 rfl ?_
      exact XE_zreturn rfl rfl dX2_meet_45 rfl (Nat.le_refl _) (Nat.le_refl _)
theorem met_X2_meet (l : Launch) (m0 : Mem) (a1 : Int32) (a2 : Int32) (t : Int32) (ht : f_X2_meet m0 a1 a2 = some t) : XMet l yX2_meet cX2_meet 3 (some .boolean) 1 0 0 [.ref 0, .int a1, .int a2] SH_H [m0] SH_H (some (.int t), [m0]) := XMet.of (by decide +kernel) (fun _ => Nat.le_of_ble_eq_true rfl) (fun B => xe_X2_meet B m0 a1 a2) (by rw [ht]; rfl)
/-! X2_meetings: EveryTwentyMinutes$Hall.meetings()I in world H at (0,) -/
abbrev M_X2_meetings : XM := (RX2, cX2_meetings, 4, (some .int), "meetings", 2, 0, 0)
def f_X2_meetings_L16 (m0 : Mem) (v2 : Int32) : Nat → Int32 → Int32 → Option (Int32)
  | 0, _, _ => none
  | n + 1, v4, v5 =>
    if (m0 0 0) ≤ v5 then
      some (v4)
    else
      (f_X2_meet m0 v2 v5).bind fun t6 =>
      if t6 = 0 then
        lt (v5 + 1) fun v7 =>
        (f_X2_meetings_L16 m0 v2 n) v4 v7
      else
        lt (v4 + 1) fun v8 =>
        lt (v5 + 1) fun v9 =>
        (f_X2_meetings_L16 m0 v2 n) v8 v9
def f_X2_meetings_L4 (m0 : Mem) : Nat → Int32 → Int32 → Option (Int32)
  | 0, _, _ => none
  | n + 1, v1, v2 =>
    if (m0 0 0) ≤ v2 then
      some (v1)
    else
      lt (v2 + 1) fun v3 =>
      (f_X2_meetings_L16 m0 v2 6000 v1 v3).bind fun t12 =>
      lt (v2 + 1) fun v13 =>
      (f_X2_meetings_L4 m0 n) t12 v13
def f_X2_meetings (m0 : Mem) : Option (Int32) :=
  (f_X2_meetings_L4 m0 6000 (0 : Int32) (0 : Int32)).bind fun t16 =>
  some t16
set_option maxRecDepth 100000 in
theorem f_X2_meetings_L16_x {α R : Type} (B : XB) {Q : R → State → Prop} {k : α → Option R} {r : (Int32) → Option α} (m0 : Mem) (v2 : Int32) (hE : ∀ t0 : (Int32), XE B M_X2_meetings Q 42 [(0, some (.ref 0)), (1, some (.int t0)), (2, some (.int v2))] [] (0, 0) SH_H [m0] (fun t => (r t).bind k) (some t0)) : ∀ (n : Nat) (v4 : Int32) (v5 : Int32), XE B M_X2_meetings Q 16 [(0, some (.ref 0)), (1, some (.int v4)), (2, some (.int v2)), (3, some (.int v5))] [] (0, 0) SH_H [m0] (fun t => (r t).bind k) (f_X2_meetings_L16 m0 v2 n v4 v5) := by
  intro n
  induction n with
  | zero => intros; exact XE_none
  | succ n ih =>
    intro v4 v5
    rw [f_X2_meetings_L16]
    refine XE_iload_n (n := 17) dX2_meetings_16 rfl rfl rfl ?_
    refine XE_aload_n (n := 18) dX2_meetings_17 rfl rfl rfl ?_
    refine XE_getf (v := m0 0 0) (n := 21) xf_X2_9 rfl rfl rfl dX2_meetings_18 rfl ?_
    refine XE_icmp_ge (t := 42) (n := 24) dX2_meetings_21 rfl rfl (fun h11 => ?_) (fun h11 => ?_)
    · refine XE_ls (x_sub_ok (ls' := [(0, some (.ref 0)), (1, some (.int v4)), (2, some (.int v2))]) ⟨rfl, rfl, rfl, trivial⟩) ?_
      exact hE (v4)
    · refine XE_aload_n (n := 25) dX2_meetings_24 rfl rfl rfl ?_
      refine XE_iload_n (n := 26) dX2_meetings_25 rfl rfl rfl ?_
      refine XE_iload_n (n := 27) dX2_meetings_26 rfl rfl rfl ?_
      refine XE_callVi (ni := 2) (As := [.int v2, .int v5]) (st2 := fun t6 => [.int t6]) (n := 30) (b := 0) xc_X2_111 (fun l t ht => met_X2_meet l m0 v2 v5 t ht) rfl rfl rfl rfl dX2_meetings_27 (Nat.le_of_ble_eq_true rfl) ⟨Nat.zero_le _, Nat.zero_le _⟩ (Nat.le_of_ble_eq_true rfl) (Nat.le_of_ble_eq_true rfl) (fun _ => rfl) rfl (fun t6 => ?_)
      refine XE_if_eq (t := 36) (n := 33) dX2_meetings_30 rfl rfl (fun h10 => ?_) (fun h10 => ?_)
      · refine XE_iincl (n := 39) dX2_meetings_36 rfl rfl (by decide) (Nat.le_of_ble_eq_true rfl) rfl (fun v7 => ?_)
        refine XE_goto (n := 16) dX2_meetings_39 rfl ?_
        refine XE_ls (x_sub_ok (ls' := [(0, some (.ref 0)), (1, some (.int v4)), (2, some (.int v2)), (3, some (.int v7))]) ⟨rfl, rfl, rfl, rfl, trivial⟩) ?_
        exact ih v4 v7
      · refine XE_iincl (n := 36) dX2_meetings_33 rfl rfl (by decide) (Nat.le_of_ble_eq_true rfl) rfl (fun v8 => ?_)
        refine XE_iincl (n := 39) dX2_meetings_36 rfl rfl (by decide) (Nat.le_of_ble_eq_true rfl) rfl (fun v9 => ?_)
        refine XE_goto (n := 16) dX2_meetings_39 rfl ?_
        refine XE_ls (x_sub_ok (ls' := [(0, some (.ref 0)), (1, some (.int v8)), (2, some (.int v2)), (3, some (.int v9))]) ⟨rfl, rfl, rfl, rfl, trivial⟩) ?_
        exact ih v8 v9
set_option maxRecDepth 100000 in
theorem f_X2_meetings_L4_x {α R : Type} (B : XB) {Q : R → State → Prop} {k : α → Option R} {r : (Int32) → Option α} (m0 : Mem) (hE : ∀ t0 : (Int32), XE B M_X2_meetings Q 48 [(1, some (.int t0))] [] (0, 0) SH_H [m0] (fun t => (r t).bind k) (some t0)) : ∀ (n : Nat) (v1 : Int32) (v2 : Int32), XE B M_X2_meetings Q 4 [(0, some (.ref 0)), (1, some (.int v1)), (2, some (.int v2))] [] (0, 0) SH_H [m0] (fun t => (r t).bind k) (f_X2_meetings_L4 m0 n v1 v2) := by
  intro n
  induction n with
  | zero => intros; exact XE_none
  | succ n ih =>
    intro v1 v2
    rw [f_X2_meetings_L4]
    refine XE_iload_n (n := 5) dX2_meetings_4 rfl rfl rfl ?_
    refine XE_aload_n (n := 6) dX2_meetings_5 rfl rfl rfl ?_
    refine XE_getf (v := m0 0 0) (n := 9) xf_X2_9 rfl rfl rfl dX2_meetings_6 rfl ?_
    refine XE_icmp_ge (t := 48) (n := 12) dX2_meetings_9 rfl rfl (fun h15 => ?_) (fun h15 => ?_)
    · refine XE_ls (x_sub_ok (ls' := [(1, some (.int v1))]) ⟨rfl, trivial⟩) ?_
      exact hE (v1)
    · refine XE_iload_n (n := 13) dX2_meetings_12 rfl rfl rfl ?_
      refine XE_iconst (v := 1) (n := 14) dX2_meetings_13 rfl (by decide) ?_
      refine XE_iadd (n := 15) dX2_meetings_14 rfl ?_
      refine XE_topi (fun v3 => ?_)
      refine XE_istore_n (i := 3) (n := 16) dX2_meetings_15 rfl rfl (Nat.le_of_ble_eq_true rfl) rfl ?_
      refine XE_ls (x_sub_ok (ls' := [(0, some (.ref 0)), (1, some (.int v1)), (2, some (.int v2)), (3, some (.int v3))]) ⟨rfl, rfl, rfl, rfl, trivial⟩) ?_
      refine XE_reg (J := 42) (lsJ := fun t12 => [(0, some (.ref 0)), (1, some (.int t12)), (2, some (.int v2))]) (stJ := fun t12 => []) (hsJ := fun t12 => [m0]) (fun t12 => ?_) (fun hJ14 => f_X2_meetings_L16_x B m0 v2 hJ14 6000 v1 v3)
      refine XE_iincl (n := 45) dX2_meetings_42 rfl rfl (by decide) (Nat.le_of_ble_eq_true rfl) rfl (fun v13 => ?_)
      refine XE_goto (n := 4) dX2_meetings_45 rfl ?_
      refine XE_ls (x_sub_ok (ls' := [(0, some (.ref 0)), (1, some (.int t12)), (2, some (.int v13))]) ⟨rfl, rfl, rfl, trivial⟩) ?_
      exact ih t12 v13
set_option maxRecDepth 100000 in
theorem xe_X2_meetings (B : XB) (m0 : Mem) : XE B M_X2_meetings (XQm B 0 0 SH_H) 0 [(0, some (.ref 0))] [] (0, 0) SH_H [m0] (fun t => some (some (.int t), [m0])) (f_X2_meetings m0) := by
  unfold f_X2_meetings
  refine XE_iconst (v := 0) (n := 1) dX2_meetings_0 rfl (by decide) ?_
  refine XE_istore_n (i := 1) (n := 2) dX2_meetings_1 rfl rfl (Nat.le_of_ble_eq_true rfl) rfl ?_
  refine XE_iconst (v := 0) (n := 3) dX2_meetings_2 rfl (by decide) ?_
  refine XE_istore_n (i := 2) (n := 4) dX2_meetings_3 rfl rfl (Nat.le_of_ble_eq_true rfl) rfl ?_
  refine XE_ls (x_sub_ok (ls' := [(0, some (.ref 0)), (1, some (.int 0)), (2, some (.int 0))]) ⟨rfl, rfl, rfl, trivial⟩) ?_
  refine XE_reg (J := 48) (lsJ := fun t16 => [(1, some (.int t16))]) (stJ := fun t16 => []) (hsJ := fun t16 => [m0]) (fun t16 => ?_) (fun hJ17 => f_X2_meetings_L4_x B m0 hJ17 6000 (0 : Int32) (0 : Int32))
  refine XE_iload_n (n := 49) dX2_meetings_48 rfl rfl rfl ?_
  exact XE_ireturn rfl dX2_meetings_49 rfl (Nat.le_refl _) (Nat.le_refl _)
theorem met_X2_meetings (l : Launch) (m0 : Mem) (t : Int32) (ht : f_X2_meetings m0 = some t) : XMet l yX2_meetings cX2_meetings 4 (some .int) 2 0 0 [.ref 0] SH_H [m0] SH_H (some (.int t), [m0]) := XMet.of (by decide +kernel) (fun _ => Nat.le_of_ble_eq_true rfl) (fun B => xe_X2_meetings B m0) (by rw [ht]; rfl)
/-! X2_firstMeeting: EveryTwentyMinutes$Hall.firstMeeting()I in world H at (0,) -/
abbrev M_X2_firstMeeting : XM := (RX2, cX2_firstMeeting, 3, (some .int), "firstMeeting", 2, 0, 0)
def f_X2_firstMeeting_L14 (K2 : Int32 → Option (Int32)) (m0 : Mem) (v1 : Int32) : Nat → Int32 → Option (Int32)
  | 0, _ => none
  | n + 1, v3 =>
    if (m0 0 0) ≤ v3 then
      lt (v1 + 1) fun v4 =>
      K2 v4
    else
      (f_X2_meet m0 v1 v3).bind fun t5 =>
      if t5 = 0 then
        lt (v3 + 1) fun v6 =>
        (f_X2_firstMeeting_L14 K2 m0 v1 n) v6
      else
        some ((10 * v1) + v3)
def f_X2_firstMeeting_L2 (m0 : Mem) : Nat → Int32 → Option (Int32)
  | 0, _ => none
  | n + 1, v1 =>
    if (m0 0 0) ≤ v1 then
      some ((-9) : Int32)
    else
      lt (v1 + 1) fun v2 =>
      f_X2_firstMeeting_L14 (f_X2_firstMeeting_L2 m0 n) m0 v1 6000 v2
def f_X2_firstMeeting (m0 : Mem) : Option (Int32) :=
  f_X2_firstMeeting_L2 m0 6000 (0 : Int32)
set_option maxRecDepth 100000 in
theorem f_X2_firstMeeting_L14_x (B : XB) (K2 : Int32 → Option (Int32)) (m0 : Mem) (v1 : Int32) (hK2 : ∀ (v1 : Int32), XE B M_X2_firstMeeting (XQm B 0 0 SH_H) 2 [(0, some (.ref 0)), (1, some (.int v1))] [] (0, 0) SH_H [m0] (fun t => some (some (.int t), [m0])) (K2 v1)) : ∀ (n : Nat) (v3 : Int32), XE B M_X2_firstMeeting (XQm B 0 0 SH_H) 14 [(0, some (.ref 0)), (1, some (.int v1)), (2, some (.int v3))] [] (0, 0) SH_H [m0] (fun t => some (some (.int t), [m0])) (f_X2_firstMeeting_L14 K2 m0 v1 n v3) := by
  intro n
  induction n with
  | zero => intros; exact XE_none
  | succ n ih =>
    intro v3
    rw [f_X2_firstMeeting_L14]
    refine XE_iload_n (n := 15) dX2_firstMeeting_14 rfl rfl rfl ?_
    refine XE_aload_n (n := 16) dX2_firstMeeting_15 rfl rfl rfl ?_
    refine XE_getf (v := m0 0 0) (n := 19) xf_X2_9 rfl rfl rfl dX2_firstMeeting_16 rfl ?_
    refine XE_icmp_ge (t := 44) (n := 22) dX2_firstMeeting_19 rfl rfl (fun h8 => ?_) (fun h8 => ?_)
    · refine XE_iincl (n := 47) dX2_firstMeeting_44 rfl rfl (by decide) (Nat.le_of_ble_eq_true rfl) rfl (fun v4 => ?_)
      refine XE_goto (n := 2) dX2_firstMeeting_47 rfl ?_
      refine XE_ls (x_sub_ok (ls' := [(0, some (.ref 0)), (1, some (.int v4))]) ⟨rfl, rfl, trivial⟩) ?_
      exact hK2 v4
    · refine XE_aload_n (n := 23) dX2_firstMeeting_22 rfl rfl rfl ?_
      refine XE_iload_n (n := 24) dX2_firstMeeting_23 rfl rfl rfl ?_
      refine XE_iload_n (n := 25) dX2_firstMeeting_24 rfl rfl rfl ?_
      refine XE_callVi (ni := 2) (As := [.int v1, .int v3]) (st2 := fun t5 => [.int t5]) (n := 28) (b := 0) xc_X2_111 (fun l t ht => met_X2_meet l m0 v1 v3 t ht) rfl rfl rfl rfl dX2_firstMeeting_25 (Nat.le_of_ble_eq_true rfl) ⟨Nat.zero_le _, Nat.zero_le _⟩ (Nat.le_of_ble_eq_true rfl) (Nat.le_of_ble_eq_true rfl) (fun _ => rfl) rfl (fun t5 => ?_)
      refine XE_if_eq (t := 38) (n := 31) dX2_firstMeeting_28 rfl rfl (fun h7 => ?_) (fun h7 => ?_)
      · refine XE_iincl (n := 41) dX2_firstMeeting_38 rfl rfl (by decide) (Nat.le_of_ble_eq_true rfl) rfl (fun v6 => ?_)
        refine XE_goto (n := 14) dX2_firstMeeting_41 rfl ?_
        refine XE_ls (x_sub_ok (ls' := [(0, some (.ref 0)), (1, some (.int v1)), (2, some (.int v6))]) ⟨rfl, rfl, rfl, trivial⟩) ?_
        exact ih v6
      · refine XE_bipush (v := 10) (n := 33) dX2_firstMeeting_31 rfl (by decide) ?_
        refine XE_iload_n (n := 34) dX2_firstMeeting_33 rfl rfl rfl ?_
        refine XE_imul (n := 35) dX2_firstMeeting_34 rfl ?_
        refine XE_iload_n (n := 36) dX2_firstMeeting_35 rfl rfl rfl ?_
        refine XE_iadd (n := 37) dX2_firstMeeting_36 rfl ?_
        exact XE_ireturn rfl dX2_firstMeeting_37 rfl (Nat.le_refl _) (Nat.le_refl _)
set_option maxRecDepth 100000 in
theorem f_X2_firstMeeting_L2_x (B : XB) (m0 : Mem) : ∀ (n : Nat) (v1 : Int32), XE B M_X2_firstMeeting (XQm B 0 0 SH_H) 2 [(0, some (.ref 0)), (1, some (.int v1))] [] (0, 0) SH_H [m0] (fun t => some (some (.int t), [m0])) (f_X2_firstMeeting_L2 m0 n v1) := by
  intro n
  induction n with
  | zero => intros; exact XE_none
  | succ n ih =>
    intro v1
    rw [f_X2_firstMeeting_L2]
    refine XE_iload_n (n := 3) dX2_firstMeeting_2 rfl rfl rfl ?_
    refine XE_aload_n (n := 4) dX2_firstMeeting_3 rfl rfl rfl ?_
    refine XE_getf (v := m0 0 0) (n := 7) xf_X2_9 rfl rfl rfl dX2_firstMeeting_4 rfl ?_
    refine XE_icmp_ge (t := 50) (n := 10) dX2_firstMeeting_7 rfl rfl (fun h9 => ?_) (fun h9 => ?_)
    · refine XE_bipush (v := (-9)) (n := 52) dX2_firstMeeting_50 rfl (by decide) ?_
      exact XE_ireturn rfl dX2_firstMeeting_52 rfl (Nat.le_refl _) (Nat.le_refl _)
    · refine XE_iload_n (n := 11) dX2_firstMeeting_10 rfl rfl rfl ?_
      refine XE_iconst (v := 1) (n := 12) dX2_firstMeeting_11 rfl (by decide) ?_
      refine XE_iadd (n := 13) dX2_firstMeeting_12 rfl ?_
      refine XE_topi (fun v2 => ?_)
      refine XE_istore_n (i := 2) (n := 14) dX2_firstMeeting_13 rfl rfl (Nat.le_of_ble_eq_true rfl) rfl ?_
      refine XE_ls (x_sub_ok (ls' := [(0, some (.ref 0)), (1, some (.int v1)), (2, some (.int v2))]) ⟨rfl, rfl, rfl, trivial⟩) ?_
      exact f_X2_firstMeeting_L14_x B _ m0 v1 ih 6000 v2
set_option maxRecDepth 100000 in
theorem xe_X2_firstMeeting (B : XB) (m0 : Mem) : XE B M_X2_firstMeeting (XQm B 0 0 SH_H) 0 [(0, some (.ref 0))] [] (0, 0) SH_H [m0] (fun t => some (some (.int t), [m0])) (f_X2_firstMeeting m0) := by
  unfold f_X2_firstMeeting
  refine XE_iconst (v := 0) (n := 1) dX2_firstMeeting_0 rfl (by decide) ?_
  refine XE_istore_n (i := 1) (n := 2) dX2_firstMeeting_1 rfl rfl (Nat.le_of_ble_eq_true rfl) rfl ?_
  refine XE_ls (x_sub_ok (ls' := [(0, some (.ref 0)), (1, some (.int 0))]) ⟨rfl, rfl, trivial⟩) ?_
  exact f_X2_firstMeeting_L2_x B m0 6000 (0 : Int32)
theorem met_X2_firstMeeting (l : Launch) (m0 : Mem) (t : Int32) (ht : f_X2_firstMeeting m0 = some t) : XMet l yX2_firstMeeting cX2_firstMeeting 3 (some .int) 2 0 0 [.ref 0] SH_H [m0] SH_H (some (.int t), [m0]) := XMet.of (by decide +kernel) (fun _ => Nat.le_of_ble_eq_true rfl) (fun B => xe_X2_firstMeeting B m0) (by rw [ht]; rfl)
/-! X2_strayed: EveryTwentyMinutes$Hall.strayed()I in world H at (0,) -/
abbrev M_X2_strayed : XM := (RX2, cX2_strayed, 6, (some .int), "strayed", 2, 0, 0)
def f_X2_strayed_L21 (m0 : Mem) (v3 : Int32) : Nat → Int32 → Int32 → Option (Int32)
  | 0, _, _ => none
  | n + 1, v4, v5 =>
    if (m0 0 0) ≤ v5 then
      some (v4)
    else
      if v5 = v3 then
        lt (v5 + 1) fun v6 =>
        (f_X2_strayed_L21 m0 v3 n) v4 v6
      else
        (f_X2_meet m0 v3 v5).bind fun t7 =>
        if t7 = 0 then
          lt (v5 + 1) fun v8 =>
          (f_X2_strayed_L21 m0 v3 n) v4 v8
        else
          lt (v4 + 1) fun v9 =>
          lt (v5 + 1) fun v10 =>
          (f_X2_strayed_L21 m0 v3 n) v9 v10
def f_X2_strayed_L7 (m0 : Mem) : Nat → Int32 → Int32 → Int32 → Option (Int32)
  | 0, _, _, _ => none
  | n + 1, v1, v2, v3 =>
    if (m0 0 0) ≤ v3 then
      some (v2)
    else
      (f_X2_strayed_L21 m0 v3 6000 (0 : Int32) (0 : Int32)).bind fun t14 =>
      if t14 ≤ v1 then
        lt (v3 + 1) fun v15 =>
        (f_X2_strayed_L7 m0 n) v1 v2 v15
      else
        lt (v3 + 1) fun v16 =>
        (f_X2_strayed_L7 m0 n) t14 v3 v16
def f_X2_strayed (m0 : Mem) : Option (Int32) :=
  (f_X2_strayed_L7 m0 6000 (0 : Int32) ((-9) : Int32) (0 : Int32)).bind fun t20 =>
  some t20
set_option maxRecDepth 100000 in
theorem f_X2_strayed_L21_x {α R : Type} (B : XB) {Q : R → State → Prop} {k : α → Option R} {r : (Int32) → Option α} (m0 : Mem) (v1 : Int32) (v2 : Int32) (v3 : Int32) (hE : ∀ t0 : (Int32), XE B M_X2_strayed Q 55 [(0, some (.ref 0)), (1, some (.int v1)), (2, some (.int v2)), (3, some (.int v3)), (4, some (.int t0))] [] (0, 0) SH_H [m0] (fun t => (r t).bind k) (some t0)) : ∀ (n : Nat) (v4 : Int32) (v5 : Int32), XE B M_X2_strayed Q 21 [(0, some (.ref 0)), (1, some (.int v1)), (2, some (.int v2)), (3, some (.int v3)), (4, some (.int v4)), (5, some (.int v5))] [] (0, 0) SH_H [m0] (fun t => (r t).bind k) (f_X2_strayed_L21 m0 v3 n v4 v5) := by
  intro n
  induction n with
  | zero => intros; exact XE_none
  | succ n ih =>
    intro v4 v5
    rw [f_X2_strayed_L21]
    refine XE_iload (n := 23) dX2_strayed_21 rfl rfl ?_
    refine XE_aload_n (n := 24) dX2_strayed_23 rfl rfl rfl ?_
    refine XE_getf (v := m0 0 0) (n := 27) xf_X2_9 rfl rfl rfl dX2_strayed_24 rfl ?_
    refine XE_icmp_ge (t := 55) (n := 30) dX2_strayed_27 rfl rfl (fun h13 => ?_) (fun h13 => ?_)
    · refine XE_ls (x_sub_ok (ls' := [(0, some (.ref 0)), (1, some (.int v1)), (2, some (.int v2)), (3, some (.int v3)), (4, some (.int v4))]) ⟨rfl, rfl, rfl, rfl, rfl, trivial⟩) ?_
      exact hE (v4)
    · refine XE_iload (n := 32) dX2_strayed_30 rfl rfl ?_
      refine XE_iload_n (n := 33) dX2_strayed_32 rfl rfl rfl ?_
      refine XE_icmp_eq (t := 49) (n := 36) dX2_strayed_33 rfl rfl (fun h12 => ?_) (fun h12 => ?_)
      · refine XE_iincl (n := 52) dX2_strayed_49 rfl rfl (by decide) (Nat.le_of_ble_eq_true rfl) rfl (fun v6 => ?_)
        refine XE_goto (n := 21) dX2_strayed_52 rfl ?_
        refine XE_ls (x_sub_ok (ls' := [(0, some (.ref 0)), (1, some (.int v1)), (2, some (.int v2)), (3, some (.int v3)), (4, some (.int v4)), (5, some (.int v6))]) ⟨rfl, rfl, rfl, rfl, rfl, rfl, trivial⟩) ?_
        exact ih v4 v6
      · refine XE_aload_n (n := 37) dX2_strayed_36 rfl rfl rfl ?_
        refine XE_iload_n (n := 38) dX2_strayed_37 rfl rfl rfl ?_
        refine XE_iload (n := 40) dX2_strayed_38 rfl rfl ?_
        refine XE_callVi (ni := 2) (As := [.int v3, .int v5]) (st2 := fun t7 => [.int t7]) (n := 43) (b := 0) xc_X2_111 (fun l t ht => met_X2_meet l m0 v3 v5 t ht) rfl rfl rfl rfl dX2_strayed_40 (Nat.le_of_ble_eq_true rfl) ⟨Nat.zero_le _, Nat.zero_le _⟩ (Nat.le_of_ble_eq_true rfl) (Nat.le_of_ble_eq_true rfl) (fun _ => rfl) rfl (fun t7 => ?_)
        refine XE_if_eq (t := 49) (n := 46) dX2_strayed_43 rfl rfl (fun h11 => ?_) (fun h11 => ?_)
        · refine XE_iincl (n := 52) dX2_strayed_49 rfl rfl (by decide) (Nat.le_of_ble_eq_true rfl) rfl (fun v8 => ?_)
          refine XE_goto (n := 21) dX2_strayed_52 rfl ?_
          refine XE_ls (x_sub_ok (ls' := [(0, some (.ref 0)), (1, some (.int v1)), (2, some (.int v2)), (3, some (.int v3)), (4, some (.int v4)), (5, some (.int v8))]) ⟨rfl, rfl, rfl, rfl, rfl, rfl, trivial⟩) ?_
          exact ih v4 v8
        · refine XE_iincl (n := 49) dX2_strayed_46 rfl rfl (by decide) (Nat.le_of_ble_eq_true rfl) rfl (fun v9 => ?_)
          refine XE_iincl (n := 52) dX2_strayed_49 rfl rfl (by decide) (Nat.le_of_ble_eq_true rfl) rfl (fun v10 => ?_)
          refine XE_goto (n := 21) dX2_strayed_52 rfl ?_
          refine XE_ls (x_sub_ok (ls' := [(0, some (.ref 0)), (1, some (.int v1)), (2, some (.int v2)), (3, some (.int v3)), (4, some (.int v9)), (5, some (.int v10))]) ⟨rfl, rfl, rfl, rfl, rfl, rfl, trivial⟩) ?_
          exact ih v9 v10
set_option maxRecDepth 100000 in
theorem f_X2_strayed_L7_x {α R : Type} (B : XB) {Q : R → State → Prop} {k : α → Option R} {r : (Int32) → Option α} (m0 : Mem) (hE : ∀ t0 : (Int32), XE B M_X2_strayed Q 72 [(2, some (.int t0))] [] (0, 0) SH_H [m0] (fun t => (r t).bind k) (some t0)) : ∀ (n : Nat) (v1 : Int32) (v2 : Int32) (v3 : Int32), XE B M_X2_strayed Q 7 [(0, some (.ref 0)), (1, some (.int v1)), (2, some (.int v2)), (3, some (.int v3))] [] (0, 0) SH_H [m0] (fun t => (r t).bind k) (f_X2_strayed_L7 m0 n v1 v2 v3) := by
  intro n
  induction n with
  | zero => intros; exact XE_none
  | succ n ih =>
    intro v1 v2 v3
    rw [f_X2_strayed_L7]
    refine XE_iload_n (n := 8) dX2_strayed_7 rfl rfl rfl ?_
    refine XE_aload_n (n := 9) dX2_strayed_8 rfl rfl rfl ?_
    refine XE_getf (v := m0 0 0) (n := 12) xf_X2_9 rfl rfl rfl dX2_strayed_9 rfl ?_
    refine XE_icmp_ge (t := 72) (n := 15) dX2_strayed_12 rfl rfl (fun h19 => ?_) (fun h19 => ?_)
    · refine XE_ls (x_sub_ok (ls' := [(2, some (.int v2))]) ⟨rfl, trivial⟩) ?_
      exact hE (v2)
    · refine XE_iconst (v := 0) (n := 16) dX2_strayed_15 rfl (by decide) ?_
      refine XE_istore (i := 4) (n := 18) dX2_strayed_16 rfl (Nat.le_of_ble_eq_true rfl) rfl ?_
      refine XE_iconst (v := 0) (n := 19) dX2_strayed_18 rfl (by decide) ?_
      refine XE_istore (i := 5) (n := 21) dX2_strayed_19 rfl (Nat.le_of_ble_eq_true rfl) rfl ?_
      refine XE_ls (x_sub_ok (ls' := [(0, some (.ref 0)), (1, some (.int v1)), (2, some (.int v2)), (3, some (.int v3)), (4, some (.int 0)), (5, some (.int 0))]) ⟨rfl, rfl, rfl, rfl, rfl, rfl, trivial⟩) ?_
      refine XE_reg (J := 55) (lsJ := fun t14 => [(0, some (.ref 0)), (1, some (.int v1)), (2, some (.int v2)), (3, some (.int v3)), (4, some (.int t14))]) (stJ := fun t14 => []) (hsJ := fun t14 => [m0]) (fun t14 => ?_) (fun hJ18 => f_X2_strayed_L21_x B m0 v1 v2 v3 hJ18 6000 (0 : Int32) (0 : Int32))
      refine XE_iload (n := 57) dX2_strayed_55 rfl rfl ?_
      refine XE_iload_n (n := 58) dX2_strayed_57 rfl rfl rfl ?_
      refine XE_icmp_le (t := 66) (n := 61) dX2_strayed_58 rfl rfl (fun h17 => ?_) (fun h17 => ?_)
      · refine XE_iincl (n := 69) dX2_strayed_66 rfl rfl (by decide) (Nat.le_of_ble_eq_true rfl) rfl (fun v15 => ?_)
        refine XE_goto (n := 7) dX2_strayed_69 rfl ?_
        refine XE_ls (x_sub_ok (ls' := [(0, some (.ref 0)), (1, some (.int v1)), (2, some (.int v2)), (3, some (.int v15))]) ⟨rfl, rfl, rfl, rfl, trivial⟩) ?_
        exact ih v1 v2 v15
      · refine XE_iload (n := 63) dX2_strayed_61 rfl rfl ?_
        refine XE_istore_n (i := 1) (n := 64) dX2_strayed_63 rfl rfl (Nat.le_of_ble_eq_true rfl) rfl ?_
        refine XE_iload_n (n := 65) dX2_strayed_64 rfl rfl rfl ?_
        refine XE_istore_n (i := 2) (n := 66) dX2_strayed_65 rfl rfl (Nat.le_of_ble_eq_true rfl) rfl ?_
        refine XE_iincl (n := 69) dX2_strayed_66 rfl rfl (by decide) (Nat.le_of_ble_eq_true rfl) rfl (fun v16 => ?_)
        refine XE_goto (n := 7) dX2_strayed_69 rfl ?_
        refine XE_ls (x_sub_ok (ls' := [(0, some (.ref 0)), (1, some (.int t14)), (2, some (.int v3)), (3, some (.int v16))]) ⟨rfl, rfl, rfl, rfl, trivial⟩) ?_
        exact ih t14 v3 v16
set_option maxRecDepth 100000 in
theorem xe_X2_strayed (B : XB) (m0 : Mem) : XE B M_X2_strayed (XQm B 0 0 SH_H) 0 [(0, some (.ref 0))] [] (0, 0) SH_H [m0] (fun t => some (some (.int t), [m0])) (f_X2_strayed m0) := by
  unfold f_X2_strayed
  refine XE_iconst (v := 0) (n := 1) dX2_strayed_0 rfl (by decide) ?_
  refine XE_istore_n (i := 1) (n := 2) dX2_strayed_1 rfl rfl (Nat.le_of_ble_eq_true rfl) rfl ?_
  refine XE_bipush (v := (-9)) (n := 4) dX2_strayed_2 rfl (by decide) ?_
  refine XE_istore_n (i := 2) (n := 5) dX2_strayed_4 rfl rfl (Nat.le_of_ble_eq_true rfl) rfl ?_
  refine XE_iconst (v := 0) (n := 6) dX2_strayed_5 rfl (by decide) ?_
  refine XE_istore_n (i := 3) (n := 7) dX2_strayed_6 rfl rfl (Nat.le_of_ble_eq_true rfl) rfl ?_
  refine XE_ls (x_sub_ok (ls' := [(0, some (.ref 0)), (1, some (.int 0)), (2, some (.int (-9))), (3, some (.int 0))]) ⟨rfl, rfl, rfl, rfl, trivial⟩) ?_
  refine XE_reg (J := 72) (lsJ := fun t20 => [(2, some (.int t20))]) (stJ := fun t20 => []) (hsJ := fun t20 => [m0]) (fun t20 => ?_) (fun hJ21 => f_X2_strayed_L7_x B m0 hJ21 6000 (0 : Int32) ((-9) : Int32) (0 : Int32))
  refine XE_iload_n (n := 73) dX2_strayed_72 rfl rfl rfl ?_
  exact XE_ireturn rfl dX2_strayed_73 rfl (Nat.le_refl _) (Nat.le_refl _)
theorem met_X2_strayed (l : Launch) (m0 : Mem) (t : Int32) (ht : f_X2_strayed m0 = some t) : XMet l yX2_strayed cX2_strayed 6 (some .int) 2 0 0 [.ref 0] SH_H [m0] SH_H (some (.int t), [m0]) := XMet.of (by decide +kernel) (fun _ => Nat.le_of_ble_eq_true rfl) (fun B => xe_X2_strayed B m0) (by rw [ht]; rfl)
/-! X2_guestsAt: EveryTwentyMinutes$Hall.guestsAt(I)I in world H at (0,) -/
abbrev M_X2_guestsAt : XM := (RX2, cX2_guestsAt, 4, (some .int), "guestsAt", 3, 0, 0)
def f_X2_guestsAt_L4 (a1 : Int32) (m0 : Mem) : Nat → Int32 → Int32 → Option (Int32)
  | 0, _, _ => none
  | n + 1, v1, v2 =>
    if (m0 0 0) ≤ v2 then
      some (v1)
    else
      ck (inb v2 7) <|
      if a1 < (m0 4 (ix v2)) then
        lt (v2 + 1) fun v3 =>
        (f_X2_guestsAt_L4 a1 m0 n) v1 v3
      else
        ck (inb v2 7) <|
        if (m0 5 (ix v2)) ≤ a1 then
          lt (v2 + 1) fun v4 =>
          (f_X2_guestsAt_L4 a1 m0 n) v1 v4
        else
          (f_X2_guestsOf m0 v2).bind fun t5 =>
          lt (v1 + t5) fun v6 =>
          lt (v2 + 1) fun v7 =>
          (f_X2_guestsAt_L4 a1 m0 n) v6 v7
def f_X2_guestsAt (m0 : Mem) (a1 : Int32) : Option (Int32) :=
  (f_X2_guestsAt_L4 a1 m0 6000 (0 : Int32) (0 : Int32)).bind fun t11 =>
  some t11
set_option maxRecDepth 100000 in
theorem f_X2_guestsAt_L4_x {α R : Type} (B : XB) {Q : R → State → Prop} {k : α → Option R} {r : (Int32) → Option α} (a1 : Int32) (m0 : Mem) (hE : ∀ t0 : (Int32), XE B M_X2_guestsAt Q 46 [(2, some (.int t0))] [] (0, 0) SH_H [m0] (fun t => (r t).bind k) (some t0)) : ∀ (n : Nat) (v1 : Int32) (v2 : Int32), XE B M_X2_guestsAt Q 4 [(0, some (.ref 0)), (1, some (.int a1)), (2, some (.int v1)), (3, some (.int v2))] [] (0, 0) SH_H [m0] (fun t => (r t).bind k) (f_X2_guestsAt_L4 a1 m0 n v1 v2) := by
  intro n
  induction n with
  | zero => intros; exact XE_none
  | succ n ih =>
    intro v1 v2
    rw [f_X2_guestsAt_L4]
    refine XE_iload_n (n := 5) dX2_guestsAt_4 rfl rfl rfl ?_
    refine XE_aload_n (n := 6) dX2_guestsAt_5 rfl rfl rfl ?_
    refine XE_getf (v := m0 0 0) (n := 9) xf_X2_9 rfl rfl rfl dX2_guestsAt_6 rfl ?_
    refine XE_icmp_ge (t := 46) (n := 12) dX2_guestsAt_9 rfl rfl (fun h10 => ?_) (fun h10 => ?_)
    · refine XE_ls (x_sub_ok (ls' := [(2, some (.int v1))]) ⟨rfl, trivial⟩) ?_
      exact hE (v1)
    · refine XE_aload_n (n := 13) dX2_guestsAt_12 rfl rfl rfl ?_
      refine XE_getr (b := 4) (n := 16) xf_X2_28 rfl rfl dX2_guestsAt_13 rfl ?_
      refine XE_iload_n (n := 17) dX2_guestsAt_16 rfl rfl rfl ?_
      refine XE_iald (row := m0 4) (n := 18) rfl rfl dX2_guestsAt_17 rfl ?_
      refine XE_iload_n (n := 19) dX2_guestsAt_18 rfl rfl rfl ?_
      refine XE_icmp_gt (t := 40) (n := 22) dX2_guestsAt_19 rfl rfl (fun h9 => ?_) (fun h9 => ?_)
      · refine XE_iincl (n := 43) dX2_guestsAt_40 rfl rfl (by decide) (Nat.le_of_ble_eq_true rfl) rfl (fun v3 => ?_)
        refine XE_goto (n := 4) dX2_guestsAt_43 rfl ?_
        refine XE_ls (x_sub_ok (ls' := [(0, some (.ref 0)), (1, some (.int a1)), (2, some (.int v1)), (3, some (.int v3))]) ⟨rfl, rfl, rfl, rfl, trivial⟩) ?_
        exact ih v1 v3
      · refine XE_iload_n (n := 23) dX2_guestsAt_22 rfl rfl rfl ?_
        refine XE_aload_n (n := 24) dX2_guestsAt_23 rfl rfl rfl ?_
        refine XE_getr (b := 5) (n := 27) xf_X2_31 rfl rfl dX2_guestsAt_24 rfl ?_
        refine XE_iload_n (n := 28) dX2_guestsAt_27 rfl rfl rfl ?_
        refine XE_iald (row := m0 5) (n := 29) rfl rfl dX2_guestsAt_28 rfl ?_
        refine XE_icmp_ge (t := 40) (n := 32) dX2_guestsAt_29 rfl rfl (fun h8 => ?_) (fun h8 => ?_)
        · refine XE_iincl (n := 43) dX2_guestsAt_40 rfl rfl (by decide) (Nat.le_of_ble_eq_true rfl) rfl (fun v4 => ?_)
          refine XE_goto (n := 4) dX2_guestsAt_43 rfl ?_
          refine XE_ls (x_sub_ok (ls' := [(0, some (.ref 0)), (1, some (.int a1)), (2, some (.int v1)), (3, some (.int v4))]) ⟨rfl, rfl, rfl, rfl, trivial⟩) ?_
          exact ih v1 v4
        · refine XE_iload_n (n := 33) dX2_guestsAt_32 rfl rfl rfl ?_
          refine XE_aload_n (n := 34) dX2_guestsAt_33 rfl rfl rfl ?_
          refine XE_iload_n (n := 35) dX2_guestsAt_34 rfl rfl rfl ?_
          refine XE_callVi (ni := 1) (As := [.int v2]) (st2 := fun t5 => [.int t5, .int v1]) (n := 38) (b := 0) xc_X2_115 (fun l t ht => met_X2_guestsOf l m0 v2 t ht) rfl rfl rfl rfl dX2_guestsAt_35 (Nat.le_of_ble_eq_true rfl) ⟨Nat.zero_le _, Nat.zero_le _⟩ (Nat.le_of_ble_eq_true rfl) (Nat.le_of_ble_eq_true rfl) (fun _ => rfl) rfl (fun t5 => ?_)
          refine XE_iadd (n := 39) dX2_guestsAt_38 rfl ?_
          refine XE_topi (fun v6 => ?_)
          refine XE_istore_n (i := 2) (n := 40) dX2_guestsAt_39 rfl rfl (Nat.le_of_ble_eq_true rfl) rfl ?_
          refine XE_iincl (n := 43) dX2_guestsAt_40 rfl rfl (by decide) (Nat.le_of_ble_eq_true rfl) rfl (fun v7 => ?_)
          refine XE_goto (n := 4) dX2_guestsAt_43 rfl ?_
          refine XE_ls (x_sub_ok (ls' := [(0, some (.ref 0)), (1, some (.int a1)), (2, some (.int v6)), (3, some (.int v7))]) ⟨rfl, rfl, rfl, rfl, trivial⟩) ?_
          exact ih v6 v7
set_option maxRecDepth 100000 in
theorem xe_X2_guestsAt (B : XB) (m0 : Mem) (a1 : Int32) : XE B M_X2_guestsAt (XQm B 0 0 SH_H) 0 [(0, some (.ref 0)), (1, some (.int a1))] [] (0, 0) SH_H [m0] (fun t => some (some (.int t), [m0])) (f_X2_guestsAt m0 a1) := by
  unfold f_X2_guestsAt
  refine XE_iconst (v := 0) (n := 1) dX2_guestsAt_0 rfl (by decide) ?_
  refine XE_istore_n (i := 2) (n := 2) dX2_guestsAt_1 rfl rfl (Nat.le_of_ble_eq_true rfl) rfl ?_
  refine XE_iconst (v := 0) (n := 3) dX2_guestsAt_2 rfl (by decide) ?_
  refine XE_istore_n (i := 3) (n := 4) dX2_guestsAt_3 rfl rfl (Nat.le_of_ble_eq_true rfl) rfl ?_
  refine XE_ls (x_sub_ok (ls' := [(0, some (.ref 0)), (1, some (.int a1)), (2, some (.int 0)), (3, some (.int 0))]) ⟨rfl, rfl, rfl, rfl, trivial⟩) ?_
  refine XE_reg (J := 46) (lsJ := fun t11 => [(2, some (.int t11))]) (stJ := fun t11 => []) (hsJ := fun t11 => [m0]) (fun t11 => ?_) (fun hJ12 => f_X2_guestsAt_L4_x B a1 m0 hJ12 6000 (0 : Int32) (0 : Int32))
  refine XE_iload_n (n := 47) dX2_guestsAt_46 rfl rfl rfl ?_
  exact XE_ireturn rfl dX2_guestsAt_47 rfl (Nat.le_refl _) (Nat.le_refl _)
theorem met_X2_guestsAt (l : Launch) (m0 : Mem) (a1 : Int32) (t : Int32) (ht : f_X2_guestsAt m0 a1 = some t) : XMet l yX2_guestsAt cX2_guestsAt 4 (some .int) 3 0 0 [.ref 0, .int a1] SH_H [m0] SH_H (some (.int t), [m0]) := XMet.of (by decide +kernel) (fun _ => Nat.le_of_ble_eq_true rfl) (fun B => xe_X2_guestsAt B m0 a1) (by rw [ht]; rfl)
/-! X2_longestOne: EveryTwentyMinutes$Hall.longestOne()I in world H at (0,) -/
abbrev M_X2_longestOne : XM := (RX2, cX2_longestOne, 4, (some .int), "longestOne", 3, 0, 0)
def f_X2_longestOne_L7 (m0 : Mem) : Nat → Int32 → Int32 → Int32 → Option (Int32)
  | 0, _, _, _ => none
  | n + 1, v1, v2, v3 =>
    if (m0 0 0) ≤ v3 then
      some (v2)
    else
      (f_X2_lastsOf m0 v3).bind fun t4 =>
      if t4 ≤ v1 then
        lt (v3 + 1) fun v5 =>
        (f_X2_longestOne_L7 m0 n) v1 v2 v5
      else
        (f_X2_lastsOf m0 v3).bind fun t6 =>
        lt (v3 + 1) fun v7 =>
        (f_X2_longestOne_L7 m0 n) t6 v3 v7
def f_X2_longestOne (m0 : Mem) : Option (Int32) :=
  (f_X2_longestOne_L7 m0 6000 (0 : Int32) ((-9) : Int32) (0 : Int32)).bind fun t10 =>
  some t10
set_option maxRecDepth 100000 in
theorem f_X2_longestOne_L7_x {α R : Type} (B : XB) {Q : R → State → Prop} {k : α → Option R} {r : (Int32) → Option α} (m0 : Mem) (hE : ∀ t0 : (Int32), XE B M_X2_longestOne Q 38 [(2, some (.int t0))] [] (0, 0) SH_H [m0] (fun t => (r t).bind k) (some t0)) : ∀ (n : Nat) (v1 : Int32) (v2 : Int32) (v3 : Int32), XE B M_X2_longestOne Q 7 [(0, some (.ref 0)), (1, some (.int v1)), (2, some (.int v2)), (3, some (.int v3))] [] (0, 0) SH_H [m0] (fun t => (r t).bind k) (f_X2_longestOne_L7 m0 n v1 v2 v3) := by
  intro n
  induction n with
  | zero => intros; exact XE_none
  | succ n ih =>
    intro v1 v2 v3
    rw [f_X2_longestOne_L7]
    refine XE_iload_n (n := 8) dX2_longestOne_7 rfl rfl rfl ?_
    refine XE_aload_n (n := 9) dX2_longestOne_8 rfl rfl rfl ?_
    refine XE_getf (v := m0 0 0) (n := 12) xf_X2_9 rfl rfl rfl dX2_longestOne_9 rfl ?_
    refine XE_icmp_ge (t := 38) (n := 15) dX2_longestOne_12 rfl rfl (fun h9 => ?_) (fun h9 => ?_)
    · refine XE_ls (x_sub_ok (ls' := [(2, some (.int v2))]) ⟨rfl, trivial⟩) ?_
      exact hE (v2)
    · refine XE_aload_n (n := 16) dX2_longestOne_15 rfl rfl rfl ?_
      refine XE_iload_n (n := 17) dX2_longestOne_16 rfl rfl rfl ?_
      refine XE_callVi (ni := 1) (As := [.int v3]) (st2 := fun t4 => [.int t4]) (n := 20) (b := 0) xc_X2_118 (fun l t ht => met_X2_lastsOf l m0 v3 t ht) rfl rfl rfl rfl dX2_longestOne_17 (Nat.le_of_ble_eq_true rfl) ⟨Nat.zero_le _, Nat.zero_le _⟩ (Nat.le_of_ble_eq_true rfl) (Nat.le_of_ble_eq_true rfl) (fun _ => rfl) rfl (fun t4 => ?_)
      refine XE_iload_n (n := 21) dX2_longestOne_20 rfl rfl rfl ?_
      refine XE_icmp_le (t := 32) (n := 24) dX2_longestOne_21 rfl rfl (fun h8 => ?_) (fun h8 => ?_)
      · refine XE_iincl (n := 35) dX2_longestOne_32 rfl rfl (by decide) (Nat.le_of_ble_eq_true rfl) rfl (fun v5 => ?_)
        refine XE_goto (n := 7) dX2_longestOne_35 rfl ?_
        refine XE_ls (x_sub_ok (ls' := [(0, some (.ref 0)), (1, some (.int v1)), (2, some (.int v2)), (3, some (.int v5))]) ⟨rfl, rfl, rfl, rfl, trivial⟩) ?_
        exact ih v1 v2 v5
      · refine XE_aload_n (n := 25) dX2_longestOne_24 rfl rfl rfl ?_
        refine XE_iload_n (n := 26) dX2_longestOne_25 rfl rfl rfl ?_
        refine XE_callVi (ni := 1) (As := [.int v3]) (st2 := fun t6 => [.int t6]) (n := 29) (b := 0) xc_X2_118 (fun l t ht => met_X2_lastsOf l m0 v3 t ht) rfl rfl rfl rfl dX2_longestOne_26 (Nat.le_of_ble_eq_true rfl) ⟨Nat.zero_le _, Nat.zero_le _⟩ (Nat.le_of_ble_eq_true rfl) (Nat.le_of_ble_eq_true rfl) (fun _ => rfl) rfl (fun t6 => ?_)
        refine XE_istore_n (i := 1) (n := 30) dX2_longestOne_29 rfl rfl (Nat.le_of_ble_eq_true rfl) rfl ?_
        refine XE_iload_n (n := 31) dX2_longestOne_30 rfl rfl rfl ?_
        refine XE_istore_n (i := 2) (n := 32) dX2_longestOne_31 rfl rfl (Nat.le_of_ble_eq_true rfl) rfl ?_
        refine XE_iincl (n := 35) dX2_longestOne_32 rfl rfl (by decide) (Nat.le_of_ble_eq_true rfl) rfl (fun v7 => ?_)
        refine XE_goto (n := 7) dX2_longestOne_35 rfl ?_
        refine XE_ls (x_sub_ok (ls' := [(0, some (.ref 0)), (1, some (.int t6)), (2, some (.int v3)), (3, some (.int v7))]) ⟨rfl, rfl, rfl, rfl, trivial⟩) ?_
        exact ih t6 v3 v7
set_option maxRecDepth 100000 in
theorem xe_X2_longestOne (B : XB) (m0 : Mem) : XE B M_X2_longestOne (XQm B 0 0 SH_H) 0 [(0, some (.ref 0))] [] (0, 0) SH_H [m0] (fun t => some (some (.int t), [m0])) (f_X2_longestOne m0) := by
  unfold f_X2_longestOne
  refine XE_iconst (v := 0) (n := 1) dX2_longestOne_0 rfl (by decide) ?_
  refine XE_istore_n (i := 1) (n := 2) dX2_longestOne_1 rfl rfl (Nat.le_of_ble_eq_true rfl) rfl ?_
  refine XE_bipush (v := (-9)) (n := 4) dX2_longestOne_2 rfl (by decide) ?_
  refine XE_istore_n (i := 2) (n := 5) dX2_longestOne_4 rfl rfl (Nat.le_of_ble_eq_true rfl) rfl ?_
  refine XE_iconst (v := 0) (n := 6) dX2_longestOne_5 rfl (by decide) ?_
  refine XE_istore_n (i := 3) (n := 7) dX2_longestOne_6 rfl rfl (Nat.le_of_ble_eq_true rfl) rfl ?_
  refine XE_ls (x_sub_ok (ls' := [(0, some (.ref 0)), (1, some (.int 0)), (2, some (.int (-9))), (3, some (.int 0))]) ⟨rfl, rfl, rfl, rfl, trivial⟩) ?_
  refine XE_reg (J := 38) (lsJ := fun t10 => [(2, some (.int t10))]) (stJ := fun t10 => []) (hsJ := fun t10 => [m0]) (fun t10 => ?_) (fun hJ11 => f_X2_longestOne_L7_x B m0 hJ11 6000 (0 : Int32) ((-9) : Int32) (0 : Int32))
  refine XE_iload_n (n := 39) dX2_longestOne_38 rfl rfl rfl ?_
  exact XE_ireturn rfl dX2_longestOne_39 rfl (Nat.le_refl _) (Nat.le_refl _)
theorem met_X2_longestOne (l : Launch) (m0 : Mem) (t : Int32) (ht : f_X2_longestOne m0 = some t) : XMet l yX2_longestOne cX2_longestOne 4 (some .int) 3 0 0 [.ref 0] SH_H [m0] SH_H (some (.int t), [m0]) := XMet.of (by decide +kernel) (fun _ => Nat.le_of_ble_eq_true rfl) (fun B => xe_X2_longestOne B m0) (by rw [ht]; rfl)
/-! X2_dearest: EveryTwentyMinutes$Hall.dearest()I in world H at (0,) -/
abbrev M_X2_dearest : XM := (RX2, cX2_dearest, 4, (some .int), "dearest", 3, 0, 0)
def f_X2_dearest_L7 (m0 : Mem) : Nat → Int32 → Int32 → Int32 → Option (Int32)
  | 0, _, _, _ => none
  | n + 1, v1, v2, v3 =>
    if (m0 0 0) ≤ v3 then
      some (v2)
    else
      (f_X2_isWed m0 v3).bind fun t4 =>
      if t4 = 0 then
        (f_X2_guestsOf m0 v3).bind fun t6 =>
        if t6 ≤ v1 then
          lt (v3 + 1) fun v7 =>
          (f_X2_dearest_L7 m0 n) v1 v2 v7
        else
          (f_X2_guestsOf m0 v3).bind fun t8 =>
          lt (v3 + 1) fun v9 =>
          (f_X2_dearest_L7 m0 n) t8 v3 v9
      else
        lt (v3 + 1) fun v5 =>
        (f_X2_dearest_L7 m0 n) v1 v2 v5
def f_X2_dearest (m0 : Mem) : Option (Int32) :=
  (f_X2_dearest_L7 m0 6000 (0 : Int32) ((-9) : Int32) (0 : Int32)).bind fun t13 =>
  some t13
set_option maxRecDepth 100000 in
theorem f_X2_dearest_L7_x {α R : Type} (B : XB) {Q : R → State → Prop} {k : α → Option R} {r : (Int32) → Option α} (m0 : Mem) (hE : ∀ t0 : (Int32), XE B M_X2_dearest Q 46 [(2, some (.int t0))] [] (0, 0) SH_H [m0] (fun t => (r t).bind k) (some t0)) : ∀ (n : Nat) (v1 : Int32) (v2 : Int32) (v3 : Int32), XE B M_X2_dearest Q 7 [(0, some (.ref 0)), (1, some (.int v1)), (2, some (.int v2)), (3, some (.int v3))] [] (0, 0) SH_H [m0] (fun t => (r t).bind k) (f_X2_dearest_L7 m0 n v1 v2 v3) := by
  intro n
  induction n with
  | zero => intros; exact XE_none
  | succ n ih =>
    intro v1 v2 v3
    rw [f_X2_dearest_L7]
    refine XE_iload_n (n := 8) dX2_dearest_7 rfl rfl rfl ?_
    refine XE_aload_n (n := 9) dX2_dearest_8 rfl rfl rfl ?_
    refine XE_getf (v := m0 0 0) (n := 12) xf_X2_9 rfl rfl rfl dX2_dearest_9 rfl ?_
    refine XE_icmp_ge (t := 46) (n := 15) dX2_dearest_12 rfl rfl (fun h12 => ?_) (fun h12 => ?_)
    · refine XE_ls (x_sub_ok (ls' := [(2, some (.int v2))]) ⟨rfl, trivial⟩) ?_
      exact hE (v2)
    · refine XE_aload_n (n := 16) dX2_dearest_15 rfl rfl rfl ?_
      refine XE_iload_n (n := 17) dX2_dearest_16 rfl rfl rfl ?_
      refine XE_callVi (ni := 1) (As := [.int v3]) (st2 := fun t4 => [.int t4]) (n := 20) (b := 0) xc_X2_104 (fun l t ht => met_X2_isWed l m0 v3 t ht) rfl rfl rfl rfl dX2_dearest_17 (Nat.le_of_ble_eq_true rfl) ⟨Nat.zero_le _, Nat.zero_le _⟩ (Nat.le_of_ble_eq_true rfl) (Nat.le_of_ble_eq_true rfl) (fun _ => rfl) rfl (fun t4 => ?_)
      refine XE_if_ne (t := 40) (n := 23) dX2_dearest_20 rfl rfl (fun h11 => ?_) (fun h11 => ?_)
      · refine XE_aload_n (n := 24) dX2_dearest_23 rfl rfl rfl ?_
        refine XE_iload_n (n := 25) dX2_dearest_24 rfl rfl rfl ?_
        refine XE_callVi (ni := 1) (As := [.int v3]) (st2 := fun t6 => [.int t6]) (n := 28) (b := 0) xc_X2_115 (fun l t ht => met_X2_guestsOf l m0 v3 t ht) rfl rfl rfl rfl dX2_dearest_25 (Nat.le_of_ble_eq_true rfl) ⟨Nat.zero_le _, Nat.zero_le _⟩ (Nat.le_of_ble_eq_true rfl) (Nat.le_of_ble_eq_true rfl) (fun _ => rfl) rfl (fun t6 => ?_)
        refine XE_iload_n (n := 29) dX2_dearest_28 rfl rfl rfl ?_
        refine XE_icmp_le (t := 40) (n := 32) dX2_dearest_29 rfl rfl (fun h10 => ?_) (fun h10 => ?_)
        · refine XE_iincl (n := 43) dX2_dearest_40 rfl rfl (by decide) (Nat.le_of_ble_eq_true rfl) rfl (fun v7 => ?_)
          refine XE_goto (n := 7) dX2_dearest_43 rfl ?_
          refine XE_ls (x_sub_ok (ls' := [(0, some (.ref 0)), (1, some (.int v1)), (2, some (.int v2)), (3, some (.int v7))]) ⟨rfl, rfl, rfl, rfl, trivial⟩) ?_
          exact ih v1 v2 v7
        · refine XE_aload_n (n := 33) dX2_dearest_32 rfl rfl rfl ?_
          refine XE_iload_n (n := 34) dX2_dearest_33 rfl rfl rfl ?_
          refine XE_callVi (ni := 1) (As := [.int v3]) (st2 := fun t8 => [.int t8]) (n := 37) (b := 0) xc_X2_115 (fun l t ht => met_X2_guestsOf l m0 v3 t ht) rfl rfl rfl rfl dX2_dearest_34 (Nat.le_of_ble_eq_true rfl) ⟨Nat.zero_le _, Nat.zero_le _⟩ (Nat.le_of_ble_eq_true rfl) (Nat.le_of_ble_eq_true rfl) (fun _ => rfl) rfl (fun t8 => ?_)
          refine XE_istore_n (i := 1) (n := 38) dX2_dearest_37 rfl rfl (Nat.le_of_ble_eq_true rfl) rfl ?_
          refine XE_iload_n (n := 39) dX2_dearest_38 rfl rfl rfl ?_
          refine XE_istore_n (i := 2) (n := 40) dX2_dearest_39 rfl rfl (Nat.le_of_ble_eq_true rfl) rfl ?_
          refine XE_iincl (n := 43) dX2_dearest_40 rfl rfl (by decide) (Nat.le_of_ble_eq_true rfl) rfl (fun v9 => ?_)
          refine XE_goto (n := 7) dX2_dearest_43 rfl ?_
          refine XE_ls (x_sub_ok (ls' := [(0, some (.ref 0)), (1, some (.int t8)), (2, some (.int v3)), (3, some (.int v9))]) ⟨rfl, rfl, rfl, rfl, trivial⟩) ?_
          exact ih t8 v3 v9
      · refine XE_iincl (n := 43) dX2_dearest_40 rfl rfl (by decide) (Nat.le_of_ble_eq_true rfl) rfl (fun v5 => ?_)
        refine XE_goto (n := 7) dX2_dearest_43 rfl ?_
        refine XE_ls (x_sub_ok (ls' := [(0, some (.ref 0)), (1, some (.int v1)), (2, some (.int v2)), (3, some (.int v5))]) ⟨rfl, rfl, rfl, rfl, trivial⟩) ?_
        exact ih v1 v2 v5
set_option maxRecDepth 100000 in
theorem xe_X2_dearest (B : XB) (m0 : Mem) : XE B M_X2_dearest (XQm B 0 0 SH_H) 0 [(0, some (.ref 0))] [] (0, 0) SH_H [m0] (fun t => some (some (.int t), [m0])) (f_X2_dearest m0) := by
  unfold f_X2_dearest
  refine XE_iconst (v := 0) (n := 1) dX2_dearest_0 rfl (by decide) ?_
  refine XE_istore_n (i := 1) (n := 2) dX2_dearest_1 rfl rfl (Nat.le_of_ble_eq_true rfl) rfl ?_
  refine XE_bipush (v := (-9)) (n := 4) dX2_dearest_2 rfl (by decide) ?_
  refine XE_istore_n (i := 2) (n := 5) dX2_dearest_4 rfl rfl (Nat.le_of_ble_eq_true rfl) rfl ?_
  refine XE_iconst (v := 0) (n := 6) dX2_dearest_5 rfl (by decide) ?_
  refine XE_istore_n (i := 3) (n := 7) dX2_dearest_6 rfl rfl (Nat.le_of_ble_eq_true rfl) rfl ?_
  refine XE_ls (x_sub_ok (ls' := [(0, some (.ref 0)), (1, some (.int 0)), (2, some (.int (-9))), (3, some (.int 0))]) ⟨rfl, rfl, rfl, rfl, trivial⟩) ?_
  refine XE_reg (J := 46) (lsJ := fun t13 => [(2, some (.int t13))]) (stJ := fun t13 => []) (hsJ := fun t13 => [m0]) (fun t13 => ?_) (fun hJ14 => f_X2_dearest_L7_x B m0 hJ14 6000 (0 : Int32) ((-9) : Int32) (0 : Int32))
  refine XE_iload_n (n := 47) dX2_dearest_46 rfl rfl rfl ?_
  exact XE_ireturn rfl dX2_dearest_47 rfl (Nat.le_refl _) (Nat.le_refl _)
theorem met_X2_dearest (l : Launch) (m0 : Mem) (t : Int32) (ht : f_X2_dearest m0 = some t) : XMet l yX2_dearest cX2_dearest 4 (some .int) 3 0 0 [.ref 0] SH_H [m0] SH_H (some (.int t), [m0]) := XMet.of (by decide +kernel) (fun _ => Nat.le_of_ble_eq_true rfl) (fun B => xe_X2_dearest B m0) (by rw [ht]; rfl)
/-! X2_bunched: EveryTwentyMinutes$Hall.bunched()I in world H at (0,) -/
abbrev M_X2_bunched : XM := (RX2, cX2_bunched, 4, (some .int), "bunched", 1, 0, 0)
def f_X2_bunched_L16 (m0 : Mem) (v2 : Int32) : Nat → Int32 → Int32 → Option (Int32)
  | 0, _, _ => none
  | n + 1, v4, v5 =>
    if (m0 0 0) ≤ v5 then
      some (v4)
    else
      ck (inb v2 7) <|
      ck (inb v5 7) <|
      if 15 ≤ (iabs ((m0 3 (ix v2)) - (m0 3 (ix v5)))) then
        lt (v5 + 1) fun v6 =>
        (f_X2_bunched_L16 m0 v2 n) v4 v6
      else
        lt (v4 + 1) fun v7 =>
        lt (v5 + 1) fun v8 =>
        (f_X2_bunched_L16 m0 v2 n) v7 v8
def f_X2_bunched_L4 (m0 : Mem) : Nat → Int32 → Int32 → Option (Int32)
  | 0, _, _ => none
  | n + 1, v1, v2 =>
    if (m0 0 0) ≤ v2 then
      some (v1)
    else
      lt (v2 + 1) fun v3 =>
      (f_X2_bunched_L16 m0 v2 6000 v1 v3).bind fun t11 =>
      lt (v2 + 1) fun v12 =>
      (f_X2_bunched_L4 m0 n) t11 v12
def f_X2_bunched (m0 : Mem) : Option (Int32) :=
  (f_X2_bunched_L4 m0 6000 (0 : Int32) (0 : Int32)).bind fun t15 =>
  some t15
set_option maxRecDepth 100000 in
theorem f_X2_bunched_L16_x {α R : Type} (B : XB) {Q : R → State → Prop} {k : α → Option R} {r : (Int32) → Option α} (m0 : Mem) (v2 : Int32) (hE : ∀ t0 : (Int32), XE B M_X2_bunched Q 54 [(0, some (.ref 0)), (1, some (.int t0)), (2, some (.int v2))] [] (0, 0) SH_H [m0] (fun t => (r t).bind k) (some t0)) : ∀ (n : Nat) (v4 : Int32) (v5 : Int32), XE B M_X2_bunched Q 16 [(0, some (.ref 0)), (1, some (.int v4)), (2, some (.int v2)), (3, some (.int v5))] [] (0, 0) SH_H [m0] (fun t => (r t).bind k) (f_X2_bunched_L16 m0 v2 n v4 v5) := by
  intro n
  induction n with
  | zero => intros; exact XE_none
  | succ n ih =>
    intro v4 v5
    rw [f_X2_bunched_L16]
    refine XE_iload_n (n := 17) dX2_bunched_16 rfl rfl rfl ?_
    refine XE_aload_n (n := 18) dX2_bunched_17 rfl rfl rfl ?_
    refine XE_getf (v := m0 0 0) (n := 21) xf_X2_9 rfl rfl rfl dX2_bunched_18 rfl ?_
    refine XE_icmp_ge (t := 54) (n := 24) dX2_bunched_21 rfl rfl (fun h10 => ?_) (fun h10 => ?_)
    · refine XE_ls (x_sub_ok (ls' := [(0, some (.ref 0)), (1, some (.int v4)), (2, some (.int v2))]) ⟨rfl, rfl, rfl, trivial⟩) ?_
      exact hE (v4)
    · refine XE_aload_n (n := 25) dX2_bunched_24 rfl rfl rfl ?_
      refine XE_getr (b := 3) (n := 28) xf_X2_22 rfl rfl dX2_bunched_25 rfl ?_
      refine XE_iload_n (n := 29) dX2_bunched_28 rfl rfl rfl ?_
      refine XE_iald (row := m0 3) (n := 30) rfl rfl dX2_bunched_29 rfl ?_
      refine XE_aload_n (n := 31) dX2_bunched_30 rfl rfl rfl ?_
      refine XE_getr (b := 3) (n := 34) xf_X2_22 rfl rfl dX2_bunched_31 rfl ?_
      refine XE_iload_n (n := 35) dX2_bunched_34 rfl rfl rfl ?_
      refine XE_iald (row := m0 3) (n := 36) rfl rfl dX2_bunched_35 rfl ?_
      refine XE_isub (n := 37) dX2_bunched_36 rfl ?_
      refine XE_mabs (n := 40) xp_X2_108 rfl (Nat.le_of_ble_eq_true rfl) (Nat.le_of_ble_eq_true rfl) dX2_bunched_37 rfl ?_
      refine XE_bipush (v := 15) (n := 42) dX2_bunched_40 rfl (by decide) ?_
      refine XE_icmp_ge (t := 48) (n := 45) dX2_bunched_42 rfl rfl (fun h9 => ?_) (fun h9 => ?_)
      · refine XE_iincl (n := 51) dX2_bunched_48 rfl rfl (by decide) (Nat.le_of_ble_eq_true rfl) rfl (fun v6 => ?_)
        refine XE_goto (n := 16) dX2_bunched_51 rfl ?_
        refine XE_ls (x_sub_ok (ls' := [(0, some (.ref 0)), (1, some (.int v4)), (2, some (.int v2)), (3, some (.int v6))]) ⟨rfl, rfl, rfl, rfl, trivial⟩) ?_
        exact ih v4 v6
      · refine XE_iincl (n := 48) dX2_bunched_45 rfl rfl (by decide) (Nat.le_of_ble_eq_true rfl) rfl (fun v7 => ?_)
        refine XE_iincl (n := 51) dX2_bunched_48 rfl rfl (by decide) (Nat.le_of_ble_eq_true rfl) rfl (fun v8 => ?_)
        refine XE_goto (n := 16) dX2_bunched_51 rfl ?_
        refine XE_ls (x_sub_ok (ls' := [(0, some (.ref 0)), (1, some (.int v7)), (2, some (.int v2)), (3, some (.int v8))]) ⟨rfl, rfl, rfl, rfl, trivial⟩) ?_
        exact ih v7 v8
set_option maxRecDepth 100000 in
theorem f_X2_bunched_L4_x {α R : Type} (B : XB) {Q : R → State → Prop} {k : α → Option R} {r : (Int32) → Option α} (m0 : Mem) (hE : ∀ t0 : (Int32), XE B M_X2_bunched Q 60 [(1, some (.int t0))] [] (0, 0) SH_H [m0] (fun t => (r t).bind k) (some t0)) : ∀ (n : Nat) (v1 : Int32) (v2 : Int32), XE B M_X2_bunched Q 4 [(0, some (.ref 0)), (1, some (.int v1)), (2, some (.int v2))] [] (0, 0) SH_H [m0] (fun t => (r t).bind k) (f_X2_bunched_L4 m0 n v1 v2) := by
  intro n
  induction n with
  | zero => intros; exact XE_none
  | succ n ih =>
    intro v1 v2
    rw [f_X2_bunched_L4]
    refine XE_iload_n (n := 5) dX2_bunched_4 rfl rfl rfl ?_
    refine XE_aload_n (n := 6) dX2_bunched_5 rfl rfl rfl ?_
    refine XE_getf (v := m0 0 0) (n := 9) xf_X2_9 rfl rfl rfl dX2_bunched_6 rfl ?_
    refine XE_icmp_ge (t := 60) (n := 12) dX2_bunched_9 rfl rfl (fun h14 => ?_) (fun h14 => ?_)
    · refine XE_ls (x_sub_ok (ls' := [(1, some (.int v1))]) ⟨rfl, trivial⟩) ?_
      exact hE (v1)
    · refine XE_iload_n (n := 13) dX2_bunched_12 rfl rfl rfl ?_
      refine XE_iconst (v := 1) (n := 14) dX2_bunched_13 rfl (by decide) ?_
      refine XE_iadd (n := 15) dX2_bunched_14 rfl ?_
      refine XE_topi (fun v3 => ?_)
      refine XE_istore_n (i := 3) (n := 16) dX2_bunched_15 rfl rfl (Nat.le_of_ble_eq_true rfl) rfl ?_
      refine XE_ls (x_sub_ok (ls' := [(0, some (.ref 0)), (1, some (.int v1)), (2, some (.int v2)), (3, some (.int v3))]) ⟨rfl, rfl, rfl, rfl, trivial⟩) ?_
      refine XE_reg (J := 54) (lsJ := fun t11 => [(0, some (.ref 0)), (1, some (.int t11)), (2, some (.int v2))]) (stJ := fun t11 => []) (hsJ := fun t11 => [m0]) (fun t11 => ?_) (fun hJ13 => f_X2_bunched_L16_x B m0 v2 hJ13 6000 v1 v3)
      refine XE_iincl (n := 57) dX2_bunched_54 rfl rfl (by decide) (Nat.le_of_ble_eq_true rfl) rfl (fun v12 => ?_)
      refine XE_goto (n := 4) dX2_bunched_57 rfl ?_
      refine XE_ls (x_sub_ok (ls' := [(0, some (.ref 0)), (1, some (.int t11)), (2, some (.int v12))]) ⟨rfl, rfl, rfl, trivial⟩) ?_
      exact ih t11 v12
set_option maxRecDepth 100000 in
theorem xe_X2_bunched (B : XB) (m0 : Mem) : XE B M_X2_bunched (XQm B 0 0 SH_H) 0 [(0, some (.ref 0))] [] (0, 0) SH_H [m0] (fun t => some (some (.int t), [m0])) (f_X2_bunched m0) := by
  unfold f_X2_bunched
  refine XE_iconst (v := 0) (n := 1) dX2_bunched_0 rfl (by decide) ?_
  refine XE_istore_n (i := 1) (n := 2) dX2_bunched_1 rfl rfl (Nat.le_of_ble_eq_true rfl) rfl ?_
  refine XE_iconst (v := 0) (n := 3) dX2_bunched_2 rfl (by decide) ?_
  refine XE_istore_n (i := 2) (n := 4) dX2_bunched_3 rfl rfl (Nat.le_of_ble_eq_true rfl) rfl ?_
  refine XE_ls (x_sub_ok (ls' := [(0, some (.ref 0)), (1, some (.int 0)), (2, some (.int 0))]) ⟨rfl, rfl, rfl, trivial⟩) ?_
  refine XE_reg (J := 60) (lsJ := fun t15 => [(1, some (.int t15))]) (stJ := fun t15 => []) (hsJ := fun t15 => [m0]) (fun t15 => ?_) (fun hJ16 => f_X2_bunched_L4_x B m0 hJ16 6000 (0 : Int32) (0 : Int32))
  refine XE_iload_n (n := 61) dX2_bunched_60 rfl rfl rfl ?_
  exact XE_ireturn rfl dX2_bunched_61 rfl (Nat.le_refl _) (Nat.le_refl _)
theorem met_X2_bunched (l : Launch) (m0 : Mem) (t : Int32) (ht : f_X2_bunched m0 = some t) : XMet l yX2_bunched cX2_bunched 4 (some .int) 1 0 0 [.ref 0] SH_H [m0] SH_H (some (.int t), [m0]) := XMet.of (by decide +kernel) (fun _ => Nat.le_of_ble_eq_true rfl) (fun B => xe_X2_bunched B m0) (by rw [ht]; rfl)
/-! X3_isOne: EveryTwentyMinutes$Kinds.isOne(I)Z in world 0 at () -/
abbrev M_X3_isOne : XM := (RX3, cX3_isOne, 1, (some .boolean), "isOne", 1, 0, 0)
def f_X3_isOne (a0 : Int32) : Option (Int32) :=
  if a0 < 0 then
    some (0 : Int32)
  else
    if 6 ≤ a0 then
      some (0 : Int32)
    else
      some (1 : Int32)
set_option maxRecDepth 100000 in
theorem xe_X3_isOne (B : XB) (a0 : Int32) : XE B M_X3_isOne (XQm B 0 0 SH_0) 0 [(0, some (.int a0))] [] (0, 0) SH_0 [] (fun t => some (some (.int t), [])) (f_X3_isOne a0) := by
  unfold f_X3_isOne
  refine XE_iload_n (n := 1) dX3_isOne_0 rfl rfl rfl ?_
  refine XE_if_lt (t := 14) (n := 4) dX3_isOne_1 rfl rfl (fun h2 => ?_) (fun h2 => ?_)
  · refine XE_iconst (v := 0) (n := 15) dX3_isOne_14 rfl (by decide) ?_
    exact XE_zreturn rfl rfl dX3_isOne_15 rfl (Nat.le_refl _) (Nat.le_refl _)
  · refine XE_iload_n (n := 5) dX3_isOne_4 rfl rfl rfl ?_
    refine XE_bipush (v := 6) (n := 7) dX3_isOne_5 rfl (by decide) ?_
    refine XE_icmp_ge (t := 14) (n := 10) dX3_isOne_7 rfl rfl (fun h1 => ?_) (fun h1 => ?_)
    · refine XE_iconst (v := 0) (n := 15) dX3_isOne_14 rfl (by decide) ?_
      exact XE_zreturn rfl rfl dX3_isOne_15 rfl (Nat.le_refl _) (Nat.le_refl _)
    · refine XE_iconst (v := 1) (n := 11) dX3_isOne_10 rfl (by decide) ?_
      refine XE_goto (n := 15) dX3_isOne_11 rfl ?_
      exact XE_zreturn rfl rfl dX3_isOne_15 rfl (Nat.le_refl _) (Nat.le_refl _)
theorem met_X3_isOne (l : Launch) (a0 : Int32) (t : Int32) (ht : f_X3_isOne a0 = some t) : XMet l yX3_isOne cX3_isOne 1 (some .boolean) 1 0 0 [.int a0] SH_0 [] SH_0 (some (.int t), []) := XMet.of (by decide +kernel) (fun _ => Nat.le_of_ble_eq_true rfl) (fun B => xe_X3_isOne B a0) (by rw [ht]; rfl)
def SH_L : XSs := [(0, .inr (.inr (3, [4, 0]))), (1, .inl 96)]
/-! X4_take: EveryTwentyMinutes$Letters.take(I)Z in world L at (0,) -/
abbrev M_X4_take : XM := (RX4, cX4_take, 2, (some .boolean), "take", 1, 0, 0)
def f_X4_take (m0 : Mem) (a1 : Int32) : Option (Int32 × Mem) :=
  if (m0 0 1) < 96 then
    ck (inb (m0 0 1) 96) <|
    lt (xs m0 1 (ix (m0 0 1)) a1) fun w1 =>
    lt (xs w1 0 1 ((w1 0 1) + 1)) fun w2 =>
    some ((1 : Int32), w2)
  else
    some ((0 : Int32), m0)
set_option maxRecDepth 100000 in
theorem xe_X4_take (B : XB) (m0 : Mem) (a1 : Int32) : XE B M_X4_take (XQm B 0 0 SH_L) 0 [(0, some (.ref 0)), (1, some (.int a1))] [] (0, 0) SH_L [m0] (fun t => some (some (.int t.1), [t.2])) (f_X4_take m0 a1) := by
  unfold f_X4_take
  refine XE_aload_n (n := 1) dX4_take_0 rfl rfl rfl ?_
  refine XE_getf (v := m0 0 1) (n := 4) xf_X4_15 rfl rfl rfl dX4_take_1 rfl ?_
  refine XE_bipush (v := 96) (n := 6) dX4_take_4 rfl (by decide) ?_
  refine XE_icmp_lt (t := 11) (n := 9) dX4_take_6 rfl rfl (fun h3 => ?_) (fun h3 => ?_)
  · refine XE_aload_n (n := 12) dX4_take_11 rfl rfl rfl ?_
    refine XE_getr (b := 1) (n := 15) xf_X4_11 rfl rfl dX4_take_12 rfl ?_
    refine XE_aload_n (n := 16) dX4_take_15 rfl rfl rfl ?_
    refine XE_getf (v := m0 0 1) (n := 19) xf_X4_15 rfl rfl rfl dX4_take_16 rfl ?_
    refine XE_iload_n (n := 20) dX4_take_19 rfl rfl rfl ?_
    refine XE_iast (hs2 := fun w1 => [w1]) (n := 21) rfl rfl rfl (Nat.le_of_ble_eq_true rfl) (fun _ => rfl) dX4_take_20 rfl (fun w1 => ?_)
    refine XE_aload_n (n := 22) dX4_take_21 rfl rfl rfl ?_
    refine XE_dup (n := 23) dX4_take_22 rfl rfl ?_
    refine XE_getf (v := w1 0 1) (n := 26) xf_X4_15 rfl rfl rfl dX4_take_23 rfl ?_
    refine XE_iconst (v := 1) (n := 27) dX4_take_26 rfl (by decide) ?_
    refine XE_iadd (n := 28) dX4_take_27 rfl ?_
    refine XE_putf (hs2 := fun w2 => [w2]) (n := 31) xf_X4_15 rfl rfl rfl rfl (Nat.le_of_ble_eq_true rfl) (fun _ => rfl) dX4_take_28 rfl (fun w2 => ?_)
    refine XE_iconst (v := 1) (n := 32) dX4_take_31 rfl (by decide) ?_
    exact XE_zreturn rfl rfl dX4_take_32 rfl (Nat.le_refl _) (Nat.le_refl _)
  · refine XE_iconst (v := 0) (n := 10) dX4_take_9 rfl (by decide) ?_
    exact XE_zreturn rfl rfl dX4_take_10 rfl (Nat.le_refl _) (Nat.le_refl _)
theorem met_X4_take (l : Launch) (m0 : Mem) (a1 : Int32) (t : Int32 × Mem) (ht : f_X4_take m0 a1 = some t) : XMet l yX4_take cX4_take 2 (some .boolean) 1 0 0 [.ref 0, .int a1] SH_L [m0] SH_L (some (.int t.1), [t.2]) := XMet.of (by decide +kernel) (fun _ => Nat.le_of_ble_eq_true rfl) (fun B => xe_X4_take B m0 a1) (by rw [ht]; rfl)
/-! X4_digitsBehind: EveryTwentyMinutes$Letters.digitsBehind(I)I in world 0 at () -/
abbrev M_X4_digitsBehind : XM := (RX4, cX4_digitsBehind, 1, (some .int), "digitsBehind", 1, 0, 0)
def f_X4_digitsBehind (a0 : Int32) : Option (Int32) :=
  if a0 = 98 then
    some (2 : Int32)
  else
    if a0 = 99 then
      some (5 : Int32)
    else
      if a0 = 102 then
        some (1 : Int32)
      else
        if a0 = 114 then
          some (1 : Int32)
        else
          if a0 = 115 then
            some (1 : Int32)
          else
            if a0 = 119 then
              some (1 : Int32)
            else
              some (0 : Int32)
set_option maxRecDepth 100000 in
theorem xe_X4_digitsBehind (B : XB) (a0 : Int32) : XE B M_X4_digitsBehind (XQm B 0 0 SH_0) 0 [(0, some (.int a0))] [] (0, 0) SH_0 [] (fun t => some (some (.int t), [])) (f_X4_digitsBehind a0) := by
  unfold f_X4_digitsBehind
  refine XE_iload_n (n := 1) dX4_digitsBehind_0 rfl rfl rfl ?_
  refine XE_lsw (c := 98) (t := 64) (off := 63) dX4_digitsBehind_1 (by decide) (by decide) rfl ?_ (fun h1 => ?_)
  · refine XE_iconst (v := 2) (n := 65) dX4_digitsBehind_64 rfl (by decide) ?_
    exact XE_ireturn rfl dX4_digitsBehind_65 rfl (Nat.le_refl _) (Nat.le_refl _)
  refine XE_lsw (c := 99) (t := 60) (off := 59) dX4_digitsBehind_1 (by decide) (by decide) rfl ?_ (fun h2 => ?_)
  · refine XE_iconst (v := 5) (n := 61) dX4_digitsBehind_60 rfl (by decide) ?_
    exact XE_ireturn rfl dX4_digitsBehind_61 rfl (Nat.le_refl _) (Nat.le_refl _)
  refine XE_lsw (c := 102) (t := 62) (off := 61) dX4_digitsBehind_1 (by decide) (by decide) rfl ?_ (fun h3 => ?_)
  · refine XE_iconst (v := 1) (n := 63) dX4_digitsBehind_62 rfl (by decide) ?_
    exact XE_ireturn rfl dX4_digitsBehind_63 rfl (Nat.le_refl _) (Nat.le_refl _)
  refine XE_lsw (c := 114) (t := 62) (off := 61) dX4_digitsBehind_1 (by decide) (by decide) rfl ?_ (fun h4 => ?_)
  · refine XE_iconst (v := 1) (n := 63) dX4_digitsBehind_62 rfl (by decide) ?_
    exact XE_ireturn rfl dX4_digitsBehind_63 rfl (Nat.le_refl _) (Nat.le_refl _)
  refine XE_lsw (c := 115) (t := 62) (off := 61) dX4_digitsBehind_1 (by decide) (by decide) rfl ?_ (fun h5 => ?_)
  · refine XE_iconst (v := 1) (n := 63) dX4_digitsBehind_62 rfl (by decide) ?_
    exact XE_ireturn rfl dX4_digitsBehind_63 rfl (Nat.le_refl _) (Nat.le_refl _)
  refine XE_lsw (c := 119) (t := 62) (off := 61) dX4_digitsBehind_1 (by decide) (by decide) rfl ?_ (fun h6 => ?_)
  · refine XE_iconst (v := 1) (n := 63) dX4_digitsBehind_62 rfl (by decide) ?_
    exact XE_ireturn rfl dX4_digitsBehind_63 rfl (Nat.le_refl _) (Nat.le_refl _)
  refine XE_lswd (t := 66) (off := 65) dX4_digitsBehind_1 (by decide) ((lv_osw h1 rfl).trans ((lv_osw h2 rfl).trans ((lv_osw h3 rfl).trans ((lv_osw h4 rfl).trans ((lv_osw h5 rfl).trans ((lv_osw h6 rfl).trans (rfl))))))) rfl ?_
  refine XE_iconst (v := 0) (n := 67) dX4_digitsBehind_66 rfl (by decide) ?_
  exact XE_ireturn rfl dX4_digitsBehind_67 rfl (Nat.le_refl _) (Nat.le_refl _)
theorem met_X4_digitsBehind (l : Launch) (a0 : Int32) (t : Int32) (ht : f_X4_digitsBehind a0 = some t) : XMet l yX4_digitsBehind cX4_digitsBehind 1 (some .int) 1 0 0 [.int a0] SH_0 [] SH_0 (some (.int t), []) := XMet.of (by decide +kernel) (fun _ => Nat.le_of_ble_eq_true rfl) (fun B => xe_X4_digitsBehind B a0) (by rw [ht]; rfl)
/-! X4_isDigit: EveryTwentyMinutes$Letters.isDigit(I)Z in world L at (0,) -/
abbrev M_X4_isDigit : XM := (RX4, cX4_isDigit, 2, (some .boolean), "isDigit", 1, 0, 0)
def f_X4_isDigit (m0 : Mem) (a1 : Int32) : Option (Int32) :=
  if (m0 0 1) ≤ a1 then
    some (0 : Int32)
  else
    ck (inb a1 96) <|
    if (m0 1 (ix a1)) < 48 then
      some (0 : Int32)
    else
      ck (inb a1 96) <|
      if 57 < (m0 1 (ix a1)) then
        some (0 : Int32)
      else
        some (1 : Int32)
set_option maxRecDepth 100000 in
theorem xe_X4_isDigit (B : XB) (m0 : Mem) (a1 : Int32) : XE B M_X4_isDigit (XQm B 0 0 SH_L) 0 [(0, some (.ref 0)), (1, some (.int a1))] [] (0, 0) SH_L [m0] (fun t => some (some (.int t), [m0])) (f_X4_isDigit m0 a1) := by
  unfold f_X4_isDigit
  refine XE_iload_n (n := 1) dX4_isDigit_0 rfl rfl rfl ?_
  refine XE_aload_n (n := 2) dX4_isDigit_1 rfl rfl rfl ?_
  refine XE_getf (v := m0 0 1) (n := 5) xf_X4_15 rfl rfl rfl dX4_isDigit_2 rfl ?_
  refine XE_icmp_ge (t := 34) (n := 8) dX4_isDigit_5 rfl rfl (fun h3 => ?_) (fun h3 => ?_)
  · refine XE_iconst (v := 0) (n := 35) dX4_isDigit_34 rfl (by decide) ?_
    exact XE_zreturn rfl rfl dX4_isDigit_35 rfl (Nat.le_refl _) (Nat.le_refl _)
  · refine XE_aload_n (n := 9) dX4_isDigit_8 rfl rfl rfl ?_
    refine XE_getr (b := 1) (n := 12) xf_X4_11 rfl rfl dX4_isDigit_9 rfl ?_
    refine XE_iload_n (n := 13) dX4_isDigit_12 rfl rfl rfl ?_
    refine XE_iald (row := m0 1) (n := 14) rfl rfl dX4_isDigit_13 rfl ?_
    refine XE_bipush (v := 48) (n := 16) dX4_isDigit_14 rfl (by decide) ?_
    refine XE_icmp_lt (t := 34) (n := 19) dX4_isDigit_16 rfl rfl (fun h2 => ?_) (fun h2 => ?_)
    · refine XE_iconst (v := 0) (n := 35) dX4_isDigit_34 rfl (by decide) ?_
      exact XE_zreturn rfl rfl dX4_isDigit_35 rfl (Nat.le_refl _) (Nat.le_refl _)
    · refine XE_aload_n (n := 20) dX4_isDigit_19 rfl rfl rfl ?_
      refine XE_getr (b := 1) (n := 23) xf_X4_11 rfl rfl dX4_isDigit_20 rfl ?_
      refine XE_iload_n (n := 24) dX4_isDigit_23 rfl rfl rfl ?_
      refine XE_iald (row := m0 1) (n := 25) rfl rfl dX4_isDigit_24 rfl ?_
      refine XE_bipush (v := 57) (n := 27) dX4_isDigit_25 rfl (by decide) ?_
      refine XE_icmp_gt (t := 34) (n := 30) dX4_isDigit_27 rfl rfl (fun h1 => ?_) (fun h1 => ?_)
      · refine XE_iconst (v := 0) (n := 35) dX4_isDigit_34 rfl (by decide) ?_
        exact XE_zreturn rfl rfl dX4_isDigit_35 rfl (Nat.le_refl _) (Nat.le_refl _)
      · refine XE_iconst (v := 1) (n := 31) dX4_isDigit_30 rfl (by decide) ?_
        refine XE_goto (n := 35) dX4_isDigit_31 rfl ?_
        exact XE_zreturn rfl rfl dX4_isDigit_35 rfl (Nat.le_refl _) (Nat.le_refl _)
theorem met_X4_isDigit (l : Launch) (m0 : Mem) (a1 : Int32) (t : Int32) (ht : f_X4_isDigit m0 a1 = some t) : XMet l yX4_isDigit cX4_isDigit 2 (some .boolean) 1 0 0 [.ref 0, .int a1] SH_L [m0] SH_L (some (.int t), [m0]) := XMet.of (by decide +kernel) (fun _ => Nat.le_of_ble_eq_true rfl) (fun B => xe_X4_isDigit B m0 a1) (by rw [ht]; rfl)
set_option maxRecDepth 100000 in
theorem ok_7 : x_okc [] SH_0 SH_L = true := by decide +kernel
/-! X4_faultyPlace: EveryTwentyMinutes$Letters.faultyPlace()I in world L at (0,) -/
abbrev M_X4_faultyPlace : XM := (RX4, cX4_faultyPlace, 4, (some .int), "faultyPlace", 2, 0, 0)
def f_X4_faultyPlace_L40 (K11 : Int32 → Option (Int32)) (m0 : Mem) (t2 : (Int32)) : Nat → Int32 → Int32 → Option (Int32)
  | 0, _, _ => none
  | n + 1, v4, v5 =>
    if t2 ≤ v5 then
      if (m0 0 1) ≤ v4 then
        some v4
      else
        ck (inb v4 96) <|
        if (m0 1 (ix v4)) = 59 then
          lt (v4 + 1) fun v6 =>
          K11 v6
        else
          some v4
    else
      (f_X4_isDigit m0 v4).bind fun t9 =>
      if t9 = 0 then
        some v4
      else
        lt (v4 + 1) fun v10 =>
        lt (v5 + 1) fun v11 =>
        (f_X4_faultyPlace_L40 K11 m0 t2 n) v10 v11
def f_X4_faultyPlace_L11 (m0 : Mem) : Nat → Int32 → Option (Int32)
  | 0, _ => none
  | n + 1, v1 =>
    if (m0 0 1) ≤ v1 then
      some ((-1) : Int32)
    else
      ck (inb v1 96) <|
      (f_X4_digitsBehind (m0 1 (ix v1))).bind fun t2 =>
      if t2 = 0 then
        some v1
      else
        lt (v1 + 1) fun v3 =>
        f_X4_faultyPlace_L40 (f_X4_faultyPlace_L11 m0 n) m0 t2 6000 v3 (0 : Int32)
def f_X4_faultyPlace (m0 : Mem) : Option (Int32) :=
  if (m0 0 1) = 0 then
    some (0 : Int32)
  else
    f_X4_faultyPlace_L11 m0 6000 (0 : Int32)
set_option maxRecDepth 100000 in
theorem f_X4_faultyPlace_L40_x (B : XB) (K11 : Int32 → Option (Int32)) (m0 : Mem) (t2 : (Int32)) (hK11 : ∀ (v1 : Int32), XE B M_X4_faultyPlace (XQm B 0 0 SH_L) 11 [(0, some (.ref 0)), (1, some (.int v1))] [] (0, 0) SH_L [m0] (fun t => some (some (.int t), [m0])) (K11 v1)) : ∀ (n : Nat) (v4 : Int32) (v5 : Int32), XE B M_X4_faultyPlace (XQm B 0 0 SH_L) 40 [(0, some (.ref 0)), (1, some (.int v4)), (2, some (.int t2)), (3, some (.int v5))] [] (0, 0) SH_L [m0] (fun t => some (some (.int t), [m0])) (f_X4_faultyPlace_L40 K11 m0 t2 n v4 v5) := by
  intro n
  induction n with
  | zero => intros; exact XE_none
  | succ n ih =>
    intro v4 v5
    rw [f_X4_faultyPlace_L40]
    refine XE_iload_n (n := 41) dX4_faultyPlace_40 rfl rfl rfl ?_
    refine XE_iload_n (n := 42) dX4_faultyPlace_41 rfl rfl rfl ?_
    refine XE_icmp_ge (t := 64) (n := 45) dX4_faultyPlace_42 rfl rfl (fun h13 => ?_) (fun h13 => ?_)
    · refine XE_iload_n (n := 65) dX4_faultyPlace_64 rfl rfl rfl ?_
      refine XE_aload_n (n := 66) dX4_faultyPlace_65 rfl rfl rfl ?_
      refine XE_getf (v := m0 0 1) (n := 69) xf_X4_15 rfl rfl rfl dX4_faultyPlace_66 rfl ?_
      refine XE_icmp_ge (t := 83) (n := 72) dX4_faultyPlace_69 rfl rfl (fun h8 => ?_) (fun h8 => ?_)
      · refine XE_iload_n (n := 84) dX4_faultyPlace_83 rfl rfl rfl ?_
        exact XE_ireturn rfl dX4_faultyPlace_84 rfl (Nat.le_refl _) (Nat.le_refl _)
      · refine XE_aload_n (n := 73) dX4_faultyPlace_72 rfl rfl rfl ?_
        refine XE_getr (b := 1) (n := 76) xf_X4_11 rfl rfl dX4_faultyPlace_73 rfl ?_
        refine XE_iload_n (n := 77) dX4_faultyPlace_76 rfl rfl rfl ?_
        refine XE_iald (row := m0 1) (n := 78) rfl rfl dX4_faultyPlace_77 rfl ?_
        refine XE_bipush (v := 59) (n := 80) dX4_faultyPlace_78 rfl (by decide) ?_
        refine XE_icmp_eq (t := 85) (n := 83) dX4_faultyPlace_80 rfl rfl (fun h7 => ?_) (fun h7 => ?_)
        · refine XE_iincl (n := 88) dX4_faultyPlace_85 rfl rfl (by decide) (Nat.le_of_ble_eq_true rfl) rfl (fun v6 => ?_)
          refine XE_goto (n := 11) dX4_faultyPlace_88 rfl ?_
          refine XE_ls (x_sub_ok (ls' := [(0, some (.ref 0)), (1, some (.int v6))]) ⟨rfl, rfl, trivial⟩) ?_
          exact hK11 v6
        · refine XE_iload_n (n := 84) dX4_faultyPlace_83 rfl rfl rfl ?_
          exact XE_ireturn rfl dX4_faultyPlace_84 rfl (Nat.le_refl _) (Nat.le_refl _)
    · refine XE_aload_n (n := 46) dX4_faultyPlace_45 rfl rfl rfl ?_
      refine XE_iload_n (n := 47) dX4_faultyPlace_46 rfl rfl rfl ?_
      refine XE_callVi (ni := 1) (As := [.int v4]) (st2 := fun t9 => [.int t9]) (n := 50) (b := 0) xc_X4_23 (fun l t ht => met_X4_isDigit l m0 v4 t ht) rfl rfl rfl rfl dX4_faultyPlace_47 (Nat.le_of_ble_eq_true rfl) ⟨Nat.zero_le _, Nat.zero_le _⟩ (Nat.le_of_ble_eq_true rfl) (Nat.le_of_ble_eq_true rfl) (fun _ => rfl) rfl (fun t9 => ?_)
      refine XE_if_ne (t := 55) (n := 53) dX4_faultyPlace_50 rfl rfl (fun h12 => ?_) (fun h12 => ?_)
      · refine XE_iload_n (n := 54) dX4_faultyPlace_53 rfl rfl rfl ?_
        exact XE_ireturn rfl dX4_faultyPlace_54 rfl (Nat.le_refl _) (Nat.le_refl _)
      · refine XE_iincl (n := 58) dX4_faultyPlace_55 rfl rfl (by decide) (Nat.le_of_ble_eq_true rfl) rfl (fun v10 => ?_)
        refine XE_iincl (n := 61) dX4_faultyPlace_58 rfl rfl (by decide) (Nat.le_of_ble_eq_true rfl) rfl (fun v11 => ?_)
        refine XE_goto (n := 40) dX4_faultyPlace_61 rfl ?_
        refine XE_ls (x_sub_ok (ls' := [(0, some (.ref 0)), (1, some (.int v10)), (2, some (.int t2)), (3, some (.int v11))]) ⟨rfl, rfl, rfl, rfl, trivial⟩) ?_
        exact ih v10 v11
set_option maxRecDepth 100000 in
theorem f_X4_faultyPlace_L11_x (B : XB) (m0 : Mem) : ∀ (n : Nat) (v1 : Int32), XE B M_X4_faultyPlace (XQm B 0 0 SH_L) 11 [(0, some (.ref 0)), (1, some (.int v1))] [] (0, 0) SH_L [m0] (fun t => some (some (.int t), [m0])) (f_X4_faultyPlace_L11 m0 n v1) := by
  intro n
  induction n with
  | zero => intros; exact XE_none
  | succ n ih =>
    intro v1
    rw [f_X4_faultyPlace_L11]
    refine XE_iload_n (n := 12) dX4_faultyPlace_11 rfl rfl rfl ?_
    refine XE_aload_n (n := 13) dX4_faultyPlace_12 rfl rfl rfl ?_
    refine XE_getf (v := m0 0 1) (n := 16) xf_X4_15 rfl rfl rfl dX4_faultyPlace_13 rfl ?_
    refine XE_icmp_ge (t := 91) (n := 19) dX4_faultyPlace_16 rfl rfl (fun h15 => ?_) (fun h15 => ?_)
    · refine XE_iconst (v := (-1)) (n := 92) dX4_faultyPlace_91 rfl (by decide) ?_
      exact XE_ireturn rfl dX4_faultyPlace_92 rfl (Nat.le_refl _) (Nat.le_refl _)
    · refine XE_aload_n (n := 20) dX4_faultyPlace_19 rfl rfl rfl ?_
      refine XE_getr (b := 1) (n := 23) xf_X4_11 rfl rfl dX4_faultyPlace_20 rfl ?_
      refine XE_iload_n (n := 24) dX4_faultyPlace_23 rfl rfl rfl ?_
      refine XE_iald (row := m0 1) (n := 25) rfl rfl dX4_faultyPlace_24 rfl ?_
      refine XE_callS (ni := 1) (As := [.int (m0 1 (ix v1))]) (π := []) (co := [0]) (cv := [m0]) (nn := 1) (hs2 := fun t2 => [m0]) (st2 := fun t2 => [.int t2]) (n := 28) xc_X4_19 (fun l t ht => met_X4_digitsBehind l (m0 1 (ix v1)) t ht) rfl rfl rfl dX4_faultyPlace_25 (Nat.le_of_ble_eq_true rfl) ⟨Nat.zero_le _, Nat.zero_le _⟩ (Nat.le_of_ble_eq_true rfl) (Nat.le_of_ble_eq_true rfl) ok_7 rfl rfl rfl (fun _ => rfl) (fun _ => rfl) (fun _ => rfl) rfl (fun _ => rfl) rfl (fun t2 => ?_)
      refine XE_istore_n (i := 2) (n := 29) dX4_faultyPlace_28 rfl rfl (Nat.le_of_ble_eq_true rfl) rfl ?_
      refine XE_iload_n (n := 30) dX4_faultyPlace_29 rfl rfl rfl ?_
      refine XE_if_ne (t := 35) (n := 33) dX4_faultyPlace_30 rfl rfl (fun h14 => ?_) (fun h14 => ?_)
      · refine XE_iload_n (n := 34) dX4_faultyPlace_33 rfl rfl rfl ?_
        exact XE_ireturn rfl dX4_faultyPlace_34 rfl (Nat.le_refl _) (Nat.le_refl _)
      · refine XE_iincl (n := 38) dX4_faultyPlace_35 rfl rfl (by decide) (Nat.le_of_ble_eq_true rfl) rfl (fun v3 => ?_)
        refine XE_iconst (v := 0) (n := 39) dX4_faultyPlace_38 rfl (by decide) ?_
        refine XE_istore_n (i := 3) (n := 40) dX4_faultyPlace_39 rfl rfl (Nat.le_of_ble_eq_true rfl) rfl ?_
        refine XE_ls (x_sub_ok (ls' := [(0, some (.ref 0)), (1, some (.int v3)), (2, some (.int t2)), (3, some (.int 0))]) ⟨rfl, rfl, rfl, rfl, trivial⟩) ?_
        exact f_X4_faultyPlace_L40_x B _ m0 t2 ih 6000 v3 (0 : Int32)
set_option maxRecDepth 100000 in
theorem xe_X4_faultyPlace (B : XB) (m0 : Mem) : XE B M_X4_faultyPlace (XQm B 0 0 SH_L) 0 [(0, some (.ref 0))] [] (0, 0) SH_L [m0] (fun t => some (some (.int t), [m0])) (f_X4_faultyPlace m0) := by
  unfold f_X4_faultyPlace
  refine XE_aload_n (n := 1) dX4_faultyPlace_0 rfl rfl rfl ?_
  refine XE_getf (v := m0 0 1) (n := 4) xf_X4_15 rfl rfl rfl dX4_faultyPlace_1 rfl ?_
  refine XE_if_ne (t := 9) (n := 7) dX4_faultyPlace_4 rfl rfl (fun h16 => ?_) (fun h16 => ?_)
  · refine XE_iconst (v := 0) (n := 8) dX4_faultyPlace_7 rfl (by decide) ?_
    exact XE_ireturn rfl dX4_faultyPlace_8 rfl (Nat.le_refl _) (Nat.le_refl _)
  · refine XE_iconst (v := 0) (n := 10) dX4_faultyPlace_9 rfl (by decide) ?_
    refine XE_istore_n (i := 1) (n := 11) dX4_faultyPlace_10 rfl rfl (Nat.le_of_ble_eq_true rfl) rfl ?_
    refine XE_ls (x_sub_ok (ls' := [(0, some (.ref 0)), (1, some (.int 0))]) ⟨rfl, rfl, trivial⟩) ?_
    exact f_X4_faultyPlace_L11_x B m0 6000 (0 : Int32)
theorem met_X4_faultyPlace (l : Launch) (m0 : Mem) (t : Int32) (ht : f_X4_faultyPlace m0 = some t) : XMet l yX4_faultyPlace cX4_faultyPlace 4 (some .int) 2 0 0 [.ref 0] SH_L [m0] SH_L (some (.int t), [m0]) := XMet.of (by decide +kernel) (fun _ => Nat.le_of_ble_eq_true rfl) (fun B => xe_X4_faultyPlace B m0) (by rw [ht]; rfl)
def SH_LH : XSs := [(0, .inr (.inr (3, [4, 0]))), (1, .inl 96), (64, .inr (.inr (2, [0, 68, 69, 70, 0, 71, 72, 73, 0, 74, 0, 75, 0, 0]))), (65, .inl 7), (66, .inl 7), (67, .inl 7), (68, .inl 7), (69, .inl 7), (70, .inl 7), (71, .inl 7), (72, .inl 2)]
/-! X4_number: EveryTwentyMinutes$Letters.number(II)I in world L at (0,) -/
abbrev M_X4_number : XM := (RX4, cX4_number, 5, (some .int), "number", 2, 0, 0)
def f_X4_number_L5 (a1 : Int32) (a2 : Int32) (m0 : Mem) : Nat → Int32 → Int32 → Option (Int32)
  | 0, _, _ => none
  | n + 1, v1, v2 =>
    if (a1 + a2) ≤ v2 then
      some (v1)
    else
      (f_X4_isDigit m0 v2).bind fun t3 =>
      if t3 = 0 then
        some (v1)
      else
        ck (inb v2 96) <|
        lt (((v1 * 10) + (m0 1 (ix v2))) - 48) fun v4 =>
        lt (v2 + 1) fun v5 =>
        (f_X4_number_L5 a1 a2 m0 n) v4 v5
def f_X4_number (m0 : Mem) (a1 : Int32) (a2 : Int32) : Option (Int32) :=
  (f_X4_number_L5 a1 a2 m0 6000 (0 : Int32) a1).bind fun t8 =>
  some t8
set_option maxRecDepth 100000 in
theorem f_X4_number_L5_x {α R : Type} (B : XB) {Q : R → State → Prop} {k : α → Option R} {r : (Int32) → Option α} (a1 : Int32) (a2 : Int32) (m0 : Mem) (hE : ∀ t0 : (Int32), XE B M_X4_number Q 44 [(3, some (.int t0))] [] (0, 0) SH_L [m0] (fun t => (r t).bind k) (some t0)) : ∀ (n : Nat) (v1 : Int32) (v2 : Int32), XE B M_X4_number Q 5 [(0, some (.ref 0)), (1, some (.int a1)), (2, some (.int a2)), (3, some (.int v1)), (4, some (.int v2))] [] (0, 0) SH_L [m0] (fun t => (r t).bind k) (f_X4_number_L5 a1 a2 m0 n v1 v2) := by
  intro n
  induction n with
  | zero => intros; exact XE_none
  | succ n ih =>
    intro v1 v2
    rw [f_X4_number_L5]
    refine XE_iload (n := 7) dX4_number_5 rfl rfl ?_
    refine XE_iload_n (n := 8) dX4_number_7 rfl rfl rfl ?_
    refine XE_iload_n (n := 9) dX4_number_8 rfl rfl rfl ?_
    refine XE_iadd (n := 10) dX4_number_9 rfl ?_
    refine XE_icmp_ge (t := 44) (n := 13) dX4_number_10 rfl rfl (fun h7 => ?_) (fun h7 => ?_)
    · refine XE_ls (x_sub_ok (ls' := [(3, some (.int v1))]) ⟨rfl, trivial⟩) ?_
      exact hE (v1)
    · refine XE_aload_n (n := 14) dX4_number_13 rfl rfl rfl ?_
      refine XE_iload (n := 16) dX4_number_14 rfl rfl ?_
      refine XE_callVi (ni := 1) (As := [.int v2]) (st2 := fun t3 => [.int t3]) (n := 19) (b := 0) xc_X4_23 (fun l t ht => met_X4_isDigit l m0 v2 t ht) rfl rfl rfl rfl dX4_number_16 (Nat.le_of_ble_eq_true rfl) ⟨Nat.zero_le _, Nat.zero_le _⟩ (Nat.le_of_ble_eq_true rfl) (Nat.le_of_ble_eq_true rfl) (fun _ => rfl) rfl (fun t3 => ?_)
      refine XE_if_eq (t := 44) (n := 22) dX4_number_19 rfl rfl (fun h6 => ?_) (fun h6 => ?_)
      · refine XE_ls (x_sub_ok (ls' := [(3, some (.int v1))]) ⟨rfl, trivial⟩) ?_
        exact hE (v1)
      · refine XE_iload_n (n := 23) dX4_number_22 rfl rfl rfl ?_
        refine XE_bipush (v := 10) (n := 25) dX4_number_23 rfl (by decide) ?_
        refine XE_imul (n := 26) dX4_number_25 rfl ?_
        refine XE_aload_n (n := 27) dX4_number_26 rfl rfl rfl ?_
        refine XE_getr (b := 1) (n := 30) xf_X4_11 rfl rfl dX4_number_27 rfl ?_
        refine XE_iload (n := 32) dX4_number_30 rfl rfl ?_
        refine XE_iald (row := m0 1) (n := 33) rfl rfl dX4_number_32 rfl ?_
        refine XE_iadd (n := 34) dX4_number_33 rfl ?_
        refine XE_bipush (v := 48) (n := 36) dX4_number_34 rfl (by decide) ?_
        refine XE_isub (n := 37) dX4_number_36 rfl ?_
        refine XE_topi (fun v4 => ?_)
        refine XE_istore_n (i := 3) (n := 38) dX4_number_37 rfl rfl (Nat.le_of_ble_eq_true rfl) rfl ?_
        refine XE_iincl (n := 41) dX4_number_38 rfl rfl (by decide) (Nat.le_of_ble_eq_true rfl) rfl (fun v5 => ?_)
        refine XE_goto (n := 5) dX4_number_41 rfl ?_
        refine XE_ls (x_sub_ok (ls' := [(0, some (.ref 0)), (1, some (.int a1)), (2, some (.int a2)), (3, some (.int v4)), (4, some (.int v5))]) ⟨rfl, rfl, rfl, rfl, rfl, trivial⟩) ?_
        exact ih v4 v5
set_option maxRecDepth 100000 in
theorem xe_X4_number (B : XB) (m0 : Mem) (a1 : Int32) (a2 : Int32) : XE B M_X4_number (XQm B 0 0 SH_L) 0 [(0, some (.ref 0)), (1, some (.int a1)), (2, some (.int a2))] [] (0, 0) SH_L [m0] (fun t => some (some (.int t), [m0])) (f_X4_number m0 a1 a2) := by
  unfold f_X4_number
  refine XE_iconst (v := 0) (n := 1) dX4_number_0 rfl (by decide) ?_
  refine XE_istore_n (i := 3) (n := 2) dX4_number_1 rfl rfl (Nat.le_of_ble_eq_true rfl) rfl ?_
  refine XE_iload_n (n := 3) dX4_number_2 rfl rfl rfl ?_
  refine XE_istore (i := 4) (n := 5) dX4_number_3 rfl (Nat.le_of_ble_eq_true rfl) rfl ?_
  refine XE_ls (x_sub_ok (ls' := [(0, some (.ref 0)), (1, some (.int a1)), (2, some (.int a2)), (3, some (.int 0)), (4, some (.int a1))]) ⟨rfl, rfl, rfl, rfl, rfl, trivial⟩) ?_
  refine XE_reg (J := 44) (lsJ := fun t8 => [(3, some (.int t8))]) (stJ := fun t8 => []) (hsJ := fun t8 => [m0]) (fun t8 => ?_) (fun hJ9 => f_X4_number_L5_x B a1 a2 m0 hJ9 6000 (0 : Int32) a1)
  refine XE_iload_n (n := 45) dX4_number_44 rfl rfl rfl ?_
  exact XE_ireturn rfl dX4_number_45 rfl (Nat.le_refl _) (Nat.le_refl _)
theorem met_X4_number (l : Launch) (m0 : Mem) (a1 : Int32) (a2 : Int32) (t : Int32) (ht : f_X4_number m0 a1 a2 = some t) : XMet l yX4_number cX4_number 5 (some .int) 2 0 0 [.ref 0, .int a1, .int a2] SH_L [m0] SH_L (some (.int t), [m0]) := XMet.of (by decide +kernel) (fun _ => Nat.le_of_ble_eq_true rfl) (fun B => xe_X4_number B m0 a1 a2) (by rw [ht]; rfl)
set_option maxRecDepth 100000 in
theorem ok_8 : x_okc [0] SH_L SH_LH = true := by decide +kernel
set_option maxRecDepth 100000 in
theorem ok_9 : x_okc [] SH_0 SH_LH = true := by decide +kernel
set_option maxRecDepth 100000 in
theorem ok_10 : x_okc [1] SH_H SH_LH = true := by decide +kernel
/-! X4_coupleComes: EveryTwentyMinutes$Letters.coupleComes(LEveryTwentyMinutes$Hall;I)Z in world LH at (0, 64) -/
abbrev M_X4_coupleComes : XM := (RX4, cX4_coupleComes, 5, (some .boolean), "coupleComes", 3, 0, 0)
def f_X4_coupleComes (m0 : Mem) (m1 : Mem) (a2 : Int32) : Option (Int32 × Mem) :=
  (f_X4_number m0 (a2 + 1) 1).bind fun t1 =>
  (f_X4_number m0 (a2 + 3) 3).bind fun t2 =>
  (f_X3_isOne t1).bind fun t3 =>
  if t3 = 0 then
    some ((0 : Int32), m1)
  else
    if 240 < t2 then
      some ((0 : Int32), m1)
    else
      (f_X2_isFull m1).bind fun t4 =>
      if t4 = 0 then
        (f_X4_number m0 (a2 + 2) 1).bind fun t5 =>
        (f_X2_add m1 t1 t5 t2).bind fun t6 =>
        some ((1 : Int32), t6)
      else
        some ((0 : Int32), m1)
set_option maxRecDepth 100000 in
theorem xe_X4_coupleComes (B : XB) (m0 : Mem) (m1 : Mem) (a2 : Int32) : XE B M_X4_coupleComes (XQm B 0 0 SH_LH) 0 [(0, some (.ref 0)), (1, some (.ref 64)), (2, some (.int a2))] [] (0, 0) SH_LH [m0, m1] (fun t => some (some (.int t.1), [m0, t.2])) (f_X4_coupleComes m0 m1 a2) := by
  unfold f_X4_coupleComes
  refine XE_aload_n (n := 1) dX4_coupleComes_0 rfl rfl rfl ?_
  refine XE_iload_n (n := 2) dX4_coupleComes_1 rfl rfl rfl ?_
  refine XE_iconst (v := 1) (n := 3) dX4_coupleComes_2 rfl (by decide) ?_
  refine XE_iadd (n := 4) dX4_coupleComes_3 rfl ?_
  refine XE_iconst (v := 1) (n := 5) dX4_coupleComes_4 rfl (by decide) ?_
  refine XE_callV (ni := 2) (As := [.int (a2 + 1), .int 1]) (π := [0]) (co := [1]) (cv := [m1]) (nn := 2) (hs2 := fun t1 => [m0, m1]) (st2 := fun t1 => [.int t1]) (n := 8) (b := 0) xc_X4_34 (fun l t ht => met_X4_number l m0 (a2 + 1) 1 t ht) rfl rfl rfl rfl rfl dX4_coupleComes_5 (Nat.le_of_ble_eq_true rfl) ⟨Nat.zero_le _, Nat.zero_le _⟩ (Nat.le_of_ble_eq_true rfl) (Nat.le_of_ble_eq_true rfl) ok_8 rfl rfl rfl (fun _ => rfl) (fun _ => rfl) (fun _ => rfl) rfl (fun _ => rfl) rfl (fun t1 => ?_)
  refine XE_istore_n (i := 3) (n := 9) dX4_coupleComes_8 rfl rfl (Nat.le_of_ble_eq_true rfl) rfl ?_
  refine XE_aload_n (n := 10) dX4_coupleComes_9 rfl rfl rfl ?_
  refine XE_iload_n (n := 11) dX4_coupleComes_10 rfl rfl rfl ?_
  refine XE_iconst (v := 3) (n := 12) dX4_coupleComes_11 rfl (by decide) ?_
  refine XE_iadd (n := 13) dX4_coupleComes_12 rfl ?_
  refine XE_iconst (v := 3) (n := 14) dX4_coupleComes_13 rfl (by decide) ?_
  refine XE_callV (ni := 2) (As := [.int (a2 + 3), .int 3]) (π := [0]) (co := [1]) (cv := [m1]) (nn := 2) (hs2 := fun t2 => [m0, m1]) (st2 := fun t2 => [.int t2]) (n := 17) (b := 0) xc_X4_34 (fun l t ht => met_X4_number l m0 (a2 + 3) 3 t ht) rfl rfl rfl rfl rfl dX4_coupleComes_14 (Nat.le_of_ble_eq_true rfl) ⟨Nat.zero_le _, Nat.zero_le _⟩ (Nat.le_of_ble_eq_true rfl) (Nat.le_of_ble_eq_true rfl) ok_8 rfl rfl rfl (fun _ => rfl) (fun _ => rfl) (fun _ => rfl) rfl (fun _ => rfl) rfl (fun t2 => ?_)
  refine XE_istore (i := 4) (n := 19) dX4_coupleComes_17 rfl (Nat.le_of_ble_eq_true rfl) rfl ?_
  refine XE_iload_n (n := 20) dX4_coupleComes_19 rfl rfl rfl ?_
  refine XE_callS (ni := 1) (As := [.int t1]) (π := []) (co := [0, 1]) (cv := [m0, m1]) (nn := 2) (hs2 := fun t3 => [m0, m1]) (st2 := fun t3 => [.int t3]) (n := 23) xc_X4_55 (fun l t ht => met_X3_isOne l t1 t ht) rfl rfl rfl dX4_coupleComes_20 (Nat.le_of_ble_eq_true rfl) ⟨Nat.zero_le _, Nat.zero_le _⟩ (Nat.le_of_ble_eq_true rfl) (Nat.le_of_ble_eq_true rfl) ok_9 rfl rfl rfl (fun _ => rfl) (fun _ => rfl) (fun _ => rfl) rfl (fun _ => rfl) rfl (fun t3 => ?_)
  refine XE_if_eq (t := 41) (n := 26) dX4_coupleComes_23 rfl rfl (fun h9 => ?_) (fun h9 => ?_)
  · refine XE_iconst (v := 0) (n := 42) dX4_coupleComes_41 rfl (by decide) ?_
    exact XE_zreturn rfl rfl dX4_coupleComes_42 rfl (Nat.le_refl _) (Nat.le_refl _)
  · refine XE_iload (n := 28) dX4_coupleComes_26 rfl rfl ?_
    refine XE_sipush (v := 240) (n := 31) dX4_coupleComes_28 rfl (by decide) ?_
    refine XE_icmp_gt (t := 41) (n := 34) dX4_coupleComes_31 rfl rfl (fun h8 => ?_) (fun h8 => ?_)
    · refine XE_iconst (v := 0) (n := 42) dX4_coupleComes_41 rfl (by decide) ?_
      exact XE_zreturn rfl rfl dX4_coupleComes_42 rfl (Nat.le_refl _) (Nat.le_refl _)
    · refine XE_aload_n (n := 35) dX4_coupleComes_34 rfl rfl rfl ?_
      refine XE_callV (ni := 0) (As := []) (π := [1]) (co := [0]) (cv := [m0]) (nn := 2) (hs2 := fun t4 => [m0, m1]) (st2 := fun t4 => [.int t4]) (n := 38) (b := 64) xc_X4_60 (fun l t ht => met_X2_isFull l m1 t ht) rfl rfl rfl rfl rfl dX4_coupleComes_35 (Nat.le_of_ble_eq_true rfl) ⟨Nat.zero_le _, Nat.zero_le _⟩ (Nat.le_of_ble_eq_true rfl) (Nat.le_of_ble_eq_true rfl) ok_10 rfl rfl rfl (fun _ => rfl) (fun _ => rfl) (fun _ => rfl) rfl (fun _ => rfl) rfl (fun t4 => ?_)
      refine XE_if_eq (t := 43) (n := 41) dX4_coupleComes_38 rfl rfl (fun h7 => ?_) (fun h7 => ?_)
      · refine XE_aload_n (n := 44) dX4_coupleComes_43 rfl rfl rfl ?_
        refine XE_iload_n (n := 45) dX4_coupleComes_44 rfl rfl rfl ?_
        refine XE_aload_n (n := 46) dX4_coupleComes_45 rfl rfl rfl ?_
        refine XE_iload_n (n := 47) dX4_coupleComes_46 rfl rfl rfl ?_
        refine XE_iconst (v := 2) (n := 48) dX4_coupleComes_47 rfl (by decide) ?_
        refine XE_iadd (n := 49) dX4_coupleComes_48 rfl ?_
        refine XE_iconst (v := 1) (n := 50) dX4_coupleComes_49 rfl (by decide) ?_
        refine XE_callV (ni := 2) (As := [.int (a2 + 2), .int 1]) (π := [0]) (co := [1]) (cv := [m1]) (nn := 2) (hs2 := fun t5 => [m0, m1]) (st2 := fun t5 => [.int t5, .int t1, .ref 64]) (n := 53) (b := 0) xc_X4_34 (fun l t ht => met_X4_number l m0 (a2 + 2) 1 t ht) rfl rfl rfl rfl rfl dX4_coupleComes_50 (Nat.le_of_ble_eq_true rfl) ⟨Nat.zero_le _, Nat.zero_le _⟩ (Nat.le_of_ble_eq_true rfl) (Nat.le_of_ble_eq_true rfl) ok_8 rfl rfl rfl (fun _ => rfl) (fun _ => rfl) (fun _ => rfl) rfl (fun _ => rfl) rfl (fun t5 => ?_)
        refine XE_iload (n := 55) dX4_coupleComes_53 rfl rfl ?_
        refine XE_callV (ni := 3) (As := [.int t1, .int t5, .int t2]) (π := [1]) (co := [0]) (cv := [m0]) (nn := 2) (hs2 := fun t6 => [m0, t6]) (st2 := fun t6 => []) (n := 58) (b := 64) xc_X4_64 (fun l t ht => met_X2_add l m1 t1 t5 t2 t ht) rfl rfl rfl rfl rfl dX4_coupleComes_55 (Nat.le_of_ble_eq_true rfl) ⟨Nat.zero_le _, Nat.zero_le _⟩ (Nat.le_of_ble_eq_true rfl) (Nat.le_of_ble_eq_true rfl) ok_10 rfl rfl rfl (fun _ => rfl) (fun _ => rfl) (fun _ => rfl) rfl (fun _ => rfl) rfl (fun t6 => ?_)
        refine XE_iconst (v := 1) (n := 59) dX4_coupleComes_58 rfl (by decide) ?_
        exact XE_zreturn rfl rfl dX4_coupleComes_59 rfl (Nat.le_refl _) (Nat.le_refl _)
      · refine XE_iconst (v := 0) (n := 42) dX4_coupleComes_41 rfl (by decide) ?_
        exact XE_zreturn rfl rfl dX4_coupleComes_42 rfl (Nat.le_refl _) (Nat.le_refl _)
theorem met_X4_coupleComes (l : Launch) (m0 : Mem) (m1 : Mem) (a2 : Int32) (t : Int32 × Mem) (ht : f_X4_coupleComes m0 m1 a2 = some t) : XMet l yX4_coupleComes cX4_coupleComes 5 (some .boolean) 3 0 0 [.ref 0, .ref 64, .int a2] SH_LH [m0, m1] SH_LH (some (.int t.1), [m0, t.2]) := XMet.of (by decide +kernel) (fun _ => Nat.le_of_ble_eq_true rfl) (fun B => xe_X4_coupleComes B m0 m1 a2) (by rw [ht]; rfl)
/-! X4_putFirst: EveryTwentyMinutes$Letters.putFirst(LEveryTwentyMinutes$Hall;I)Z in world H at (0,) -/
abbrev M_X4_putFirst : XM := (RX4, cX4_putFirst, 2, (some .boolean), "putFirst", 3, 0, 0)
def f_X4_putFirst (m0 : Mem) (a1 : Int32) : Option (Int32 × Mem) :=
  (f_X2_has m0 a1).bind fun t1 =>
  if t1 = 0 then
    some ((0 : Int32), m0)
  else
    (f_X2_isWed m0 a1).bind fun t2 =>
    if t2 = 0 then
      (f_X2_putFirst m0 a1).bind fun t3 =>
      some ((1 : Int32), t3)
    else
      some ((0 : Int32), m0)
set_option maxRecDepth 100000 in
theorem xe_X4_putFirst (B : XB) (m0 : Mem) (a1 : Int32) : XE B M_X4_putFirst (XQm B 0 0 SH_H) 0 [(0, some (.ref 0)), (1, some (.int a1))] [] (0, 0) SH_H [m0] (fun t => some (some (.int t.1), [t.2])) (f_X4_putFirst m0 a1) := by
  unfold f_X4_putFirst
  refine XE_aload_n (n := 1) dX4_putFirst_0 rfl rfl rfl ?_
  refine XE_iload_n (n := 2) dX4_putFirst_1 rfl rfl rfl ?_
  refine XE_callVi (ni := 1) (As := [.int a1]) (st2 := fun t1 => [.int t1]) (n := 5) (b := 0) xc_X4_72 (fun l t ht => met_X2_has l m0 a1 t ht) rfl rfl rfl rfl dX4_putFirst_2 (Nat.le_of_ble_eq_true rfl) ⟨Nat.zero_le _, Nat.zero_le _⟩ (Nat.le_of_ble_eq_true rfl) (Nat.le_of_ble_eq_true rfl) (fun _ => rfl) rfl (fun t1 => ?_)
  refine XE_if_eq (t := 16) (n := 8) dX4_putFirst_5 rfl rfl (fun h5 => ?_) (fun h5 => ?_)
  · refine XE_iconst (v := 0) (n := 17) dX4_putFirst_16 rfl (by decide) ?_
    exact XE_zreturn rfl rfl dX4_putFirst_17 rfl (Nat.le_refl _) (Nat.le_refl _)
  · refine XE_aload_n (n := 9) dX4_putFirst_8 rfl rfl rfl ?_
    refine XE_iload_n (n := 10) dX4_putFirst_9 rfl rfl rfl ?_
    refine XE_callVi (ni := 1) (As := [.int a1]) (st2 := fun t2 => [.int t2]) (n := 13) (b := 0) xc_X4_75 (fun l t ht => met_X2_isWed l m0 a1 t ht) rfl rfl rfl rfl dX4_putFirst_10 (Nat.le_of_ble_eq_true rfl) ⟨Nat.zero_le _, Nat.zero_le _⟩ (Nat.le_of_ble_eq_true rfl) (Nat.le_of_ble_eq_true rfl) (fun _ => rfl) rfl (fun t2 => ?_)
    refine XE_if_eq (t := 18) (n := 16) dX4_putFirst_13 rfl rfl (fun h4 => ?_) (fun h4 => ?_)
    · refine XE_aload_n (n := 19) dX4_putFirst_18 rfl rfl rfl ?_
      refine XE_iload_n (n := 20) dX4_putFirst_19 rfl rfl rfl ?_
      refine XE_callVi (ni := 1) (As := [.int a1]) (st2 := fun t3 => []) (n := 23) (b := 0) xc_X4_78 (fun l t ht => met_X2_putFirst l m0 a1 t ht) rfl rfl rfl rfl dX4_putFirst_20 (Nat.le_of_ble_eq_true rfl) ⟨Nat.zero_le _, Nat.zero_le _⟩ (Nat.le_of_ble_eq_true rfl) (Nat.le_of_ble_eq_true rfl) (fun _ => rfl) rfl (fun t3 => ?_)
      refine XE_iconst (v := 1) (n := 24) dX4_putFirst_23 rfl (by decide) ?_
      exact XE_zreturn rfl rfl dX4_putFirst_24 rfl (Nat.le_refl _) (Nat.le_refl _)
    · refine XE_iconst (v := 0) (n := 17) dX4_putFirst_16 rfl (by decide) ?_
      exact XE_zreturn rfl rfl dX4_putFirst_17 rfl (Nat.le_refl _) (Nat.le_refl _)
theorem met_X4_putFirst (l : Launch) (m0 : Mem) (a1 : Int32) (t : Int32 × Mem) (ht : f_X4_putFirst m0 a1 = some t) : XMet l yX4_putFirst cX4_putFirst 2 (some .boolean) 3 0 0 [.ref 0, .int a1] SH_H [m0] SH_H (some (.int t.1), [t.2]) := XMet.of (by decide +kernel) (fun _ => Nat.le_of_ble_eq_true rfl) (fun B => xe_X4_putFirst B m0 a1) (by rw [ht]; rfl)
/-! X4_roomsOpened: EveryTwentyMinutes$Letters.roomsOpened(LEveryTwentyMinutes$Hall;I)Z in world H at (0,) -/
abbrev M_X4_roomsOpened : XM := (RX4, cX4_roomsOpened, 2, (some .boolean), "roomsOpened", 2, 0, 0)
def f_X4_roomsOpened (m0 : Mem) (a1 : Int32) : Option (Int32 × Mem) :=
  if a1 < 1 then
    some ((0 : Int32), m0)
  else
    if a1 ≤ 2 then
      (f_X2_openRooms m0 a1).bind fun t1 =>
      some ((1 : Int32), t1)
    else
      some ((0 : Int32), m0)
set_option maxRecDepth 100000 in
theorem xe_X4_roomsOpened (B : XB) (m0 : Mem) (a1 : Int32) : XE B M_X4_roomsOpened (XQm B 0 0 SH_H) 0 [(0, some (.ref 0)), (1, some (.int a1))] [] (0, 0) SH_H [m0] (fun t => some (some (.int t.1), [t.2])) (f_X4_roomsOpened m0 a1) := by
  unfold f_X4_roomsOpened
  refine XE_iload_n (n := 1) dX4_roomsOpened_0 rfl rfl rfl ?_
  refine XE_iconst (v := 1) (n := 2) dX4_roomsOpened_1 rfl (by decide) ?_
  refine XE_icmp_lt (t := 10) (n := 5) dX4_roomsOpened_2 rfl rfl (fun h3 => ?_) (fun h3 => ?_)
  · refine XE_iconst (v := 0) (n := 11) dX4_roomsOpened_10 rfl (by decide) ?_
    exact XE_zreturn rfl rfl dX4_roomsOpened_11 rfl (Nat.le_refl _) (Nat.le_refl _)
  · refine XE_iload_n (n := 6) dX4_roomsOpened_5 rfl rfl rfl ?_
    refine XE_iconst (v := 2) (n := 7) dX4_roomsOpened_6 rfl (by decide) ?_
    refine XE_icmp_le (t := 12) (n := 10) dX4_roomsOpened_7 rfl rfl (fun h2 => ?_) (fun h2 => ?_)
    · refine XE_aload_n (n := 13) dX4_roomsOpened_12 rfl rfl rfl ?_
      refine XE_iload_n (n := 14) dX4_roomsOpened_13 rfl rfl rfl ?_
      refine XE_callVi (ni := 1) (As := [.int a1]) (st2 := fun t1 => []) (n := 17) (b := 0) xc_X4_68 (fun l t ht => met_X2_openRooms l m0 a1 t ht) rfl rfl rfl rfl dX4_roomsOpened_14 (Nat.le_of_ble_eq_true rfl) ⟨Nat.zero_le _, Nat.zero_le _⟩ (Nat.le_of_ble_eq_true rfl) (Nat.le_of_ble_eq_true rfl) (fun _ => rfl) rfl (fun t1 => ?_)
      refine XE_iconst (v := 1) (n := 18) dX4_roomsOpened_17 rfl (by decide) ?_
      exact XE_zreturn rfl rfl dX4_roomsOpened_18 rfl (Nat.le_refl _) (Nat.le_refl _)
    · refine XE_iconst (v := 0) (n := 11) dX4_roomsOpened_10 rfl (by decide) ?_
      exact XE_zreturn rfl rfl dX4_roomsOpened_11 rfl (Nat.le_refl _) (Nat.le_refl _)
theorem met_X4_roomsOpened (l : Launch) (m0 : Mem) (a1 : Int32) (t : Int32 × Mem) (ht : f_X4_roomsOpened m0 a1 = some t) : XMet l yX4_roomsOpened cX4_roomsOpened 2 (some .boolean) 2 0 0 [.ref 0, .int a1] SH_H [m0] SH_H (some (.int t.1), [t.2]) := XMet.of (by decide +kernel) (fun _ => Nat.le_of_ble_eq_true rfl) (fun B => xe_X4_roomsOpened B m0 a1) (by rw [ht]; rfl)
/-! X4_someWed: EveryTwentyMinutes$Letters.someWed(LEveryTwentyMinutes$Hall;I)Z in world H at (0,) -/
abbrev M_X4_someWed : XM := (RX4, cX4_someWed, 2, (some .boolean), "someWed", 5, 0, 0)
def f_X4_someWed (m0 : Mem) (a1 : Int32) : Option (Int32 × Mem) :=
  if a1 < 1 then
    some ((0 : Int32), m0)
  else
    if a1 ≤ (m0 0 8) then
      (f_X2_wedSome m0 a1).bind fun t1 =>
      some ((1 : Int32), t1)
    else
      some ((0 : Int32), m0)
set_option maxRecDepth 100000 in
theorem xe_X4_someWed (B : XB) (m0 : Mem) (a1 : Int32) : XE B M_X4_someWed (XQm B 0 0 SH_H) 0 [(0, some (.ref 0)), (1, some (.int a1))] [] (0, 0) SH_H [m0] (fun t => some (some (.int t.1), [t.2])) (f_X4_someWed m0 a1) := by
  unfold f_X4_someWed
  refine XE_iload_n (n := 1) dX4_someWed_0 rfl rfl rfl ?_
  refine XE_iconst (v := 1) (n := 2) dX4_someWed_1 rfl (by decide) ?_
  refine XE_icmp_lt (t := 13) (n := 5) dX4_someWed_2 rfl rfl (fun h3 => ?_) (fun h3 => ?_)
  · refine XE_iconst (v := 0) (n := 14) dX4_someWed_13 rfl (by decide) ?_
    exact XE_zreturn rfl rfl dX4_someWed_14 rfl (Nat.le_refl _) (Nat.le_refl _)
  · refine XE_iload_n (n := 6) dX4_someWed_5 rfl rfl rfl ?_
    refine XE_aload_n (n := 7) dX4_someWed_6 rfl rfl rfl ?_
    refine XE_getf (v := m0 0 8) (n := 10) xf_X4_80 rfl rfl rfl dX4_someWed_7 rfl ?_
    refine XE_icmp_le (t := 15) (n := 13) dX4_someWed_10 rfl rfl (fun h2 => ?_) (fun h2 => ?_)
    · refine XE_aload_n (n := 16) dX4_someWed_15 rfl rfl rfl ?_
      refine XE_iload_n (n := 17) dX4_someWed_16 rfl rfl rfl ?_
      refine XE_callVi (ni := 1) (As := [.int a1]) (st2 := fun t1 => []) (n := 20) (b := 0) xc_X4_83 (fun l t ht => met_X2_wedSome l m0 a1 t ht) rfl rfl rfl rfl dX4_someWed_17 (Nat.le_of_ble_eq_true rfl) ⟨Nat.zero_le _, Nat.zero_le _⟩ (Nat.le_of_ble_eq_true rfl) (Nat.le_of_ble_eq_true rfl) (fun _ => rfl) rfl (fun t1 => ?_)
      refine XE_iconst (v := 1) (n := 21) dX4_someWed_20 rfl (by decide) ?_
      exact XE_zreturn rfl rfl dX4_someWed_21 rfl (Nat.le_refl _) (Nat.le_refl _)
    · refine XE_iconst (v := 0) (n := 14) dX4_someWed_13 rfl (by decide) ?_
      exact XE_zreturn rfl rfl dX4_someWed_14 rfl (Nat.le_refl _) (Nat.le_refl _)
theorem met_X4_someWed (l : Launch) (m0 : Mem) (a1 : Int32) (t : Int32 × Mem) (ht : f_X4_someWed m0 a1 = some t) : XMet l yX4_someWed cX4_someWed 2 (some .boolean) 5 0 0 [.ref 0, .int a1] SH_H [m0] SH_H (some (.int t.1), [t.2]) := XMet.of (by decide +kernel) (fun _ => Nat.le_of_ble_eq_true rfl) (fun B => xe_X4_someWed B m0 a1) (by rw [ht]; rfl)
/-! X4_clerkRests: EveryTwentyMinutes$Letters.clerkRests(LEveryTwentyMinutes$Hall;I)Z in world H at (0,) -/
abbrev M_X4_clerkRests : XM := (RX4, cX4_clerkRests, 2, (some .boolean), "clerkRests", 2, 0, 0)
def f_X4_clerkRests (m0 : Mem) (a1 : Int32) : Option (Int32 × Mem) :=
  if a1 < 1 then
    some ((0 : Int32), m0)
  else
    if a1 ≤ 30 then
      (f_X2_restClerk m0 a1).bind fun t1 =>
      some ((1 : Int32), t1)
    else
      some ((0 : Int32), m0)
set_option maxRecDepth 100000 in
theorem xe_X4_clerkRests (B : XB) (m0 : Mem) (a1 : Int32) : XE B M_X4_clerkRests (XQm B 0 0 SH_H) 0 [(0, some (.ref 0)), (1, some (.int a1))] [] (0, 0) SH_H [m0] (fun t => some (some (.int t.1), [t.2])) (f_X4_clerkRests m0 a1) := by
  unfold f_X4_clerkRests
  refine XE_iload_n (n := 1) dX4_clerkRests_0 rfl rfl rfl ?_
  refine XE_iconst (v := 1) (n := 2) dX4_clerkRests_1 rfl (by decide) ?_
  refine XE_icmp_lt (t := 11) (n := 5) dX4_clerkRests_2 rfl rfl (fun h3 => ?_) (fun h3 => ?_)
  · refine XE_iconst (v := 0) (n := 12) dX4_clerkRests_11 rfl (by decide) ?_
    exact XE_zreturn rfl rfl dX4_clerkRests_12 rfl (Nat.le_refl _) (Nat.le_refl _)
  · refine XE_iload_n (n := 6) dX4_clerkRests_5 rfl rfl rfl ?_
    refine XE_bipush (v := 30) (n := 8) dX4_clerkRests_6 rfl (by decide) ?_
    refine XE_icmp_le (t := 13) (n := 11) dX4_clerkRests_8 rfl rfl (fun h2 => ?_) (fun h2 => ?_)
    · refine XE_aload_n (n := 14) dX4_clerkRests_13 rfl rfl rfl ?_
      refine XE_iload_n (n := 15) dX4_clerkRests_14 rfl rfl rfl ?_
      refine XE_callVi (ni := 1) (As := [.int a1]) (st2 := fun t1 => []) (n := 18) (b := 0) xc_X4_86 (fun l t ht => met_X2_restClerk l m0 a1 t ht) rfl rfl rfl rfl dX4_clerkRests_15 (Nat.le_of_ble_eq_true rfl) ⟨Nat.zero_le _, Nat.zero_le _⟩ (Nat.le_of_ble_eq_true rfl) (Nat.le_of_ble_eq_true rfl) (fun _ => rfl) rfl (fun t1 => ?_)
      refine XE_iconst (v := 1) (n := 19) dX4_clerkRests_18 rfl (by decide) ?_
      exact XE_zreturn rfl rfl dX4_clerkRests_19 rfl (Nat.le_refl _) (Nat.le_refl _)
    · refine XE_iconst (v := 0) (n := 12) dX4_clerkRests_11 rfl (by decide) ?_
      exact XE_zreturn rfl rfl dX4_clerkRests_12 rfl (Nat.le_refl _) (Nat.le_refl _)
theorem met_X4_clerkRests (l : Launch) (m0 : Mem) (a1 : Int32) (t : Int32 × Mem) (ht : f_X4_clerkRests m0 a1 = some t) : XMet l yX4_clerkRests cX4_clerkRests 2 (some .boolean) 2 0 0 [.ref 0, .int a1] SH_H [m0] SH_H (some (.int t.1), [t.2]) := XMet.of (by decide +kernel) (fun _ => Nat.le_of_ble_eq_true rfl) (fun B => xe_X4_clerkRests B m0 a1) (by rw [ht]; rfl)
/-! X4_obeyed: EveryTwentyMinutes$Letters.obeyed(LEveryTwentyMinutes$Hall;I)Z in world LH at (0, 64) -/
abbrev M_X4_obeyed : XM := (RX4, cX4_obeyed, 3, (some .boolean), "obeyed", 6, 0, 0)
def f_X4_obeyed (m0 : Mem) (m1 : Mem) (a2 : Int32) : Option (Int32 × Mem) :=
  ck (inb a2 96) <|
  if (m0 1 (ix a2)) = 99 then
    (f_X4_coupleComes m0 m1 a2).bind fun t2 =>
    ck (isb t2.1) <|
    some (t2.1, t2.2)
  else
    if (m0 1 (ix a2)) = 102 then
      (f_X4_number m0 (a2 + 1) 1).bind fun t5 =>
      (f_X4_putFirst m1 t5).bind fun t6 =>
      ck (isb t6.1) <|
      some (t6.1, t6.2)
    else
      if (m0 1 (ix a2)) = 114 then
        (f_X4_number m0 (a2 + 1) 1).bind fun t9 =>
        (f_X4_roomsOpened m1 t9).bind fun t10 =>
        ck (isb t10.1) <|
        some (t10.1, t10.2)
      else
        if (m0 1 (ix a2)) = 115 then
          (f_X4_number m0 (a2 + 1) 1).bind fun t13 =>
          lt (xs m1 0 13 t13) fun w14 =>
          some ((1 : Int32), w14)
        else
          if (m0 1 (ix a2)) = 119 then
            (f_X4_number m0 (a2 + 1) 1).bind fun t16 =>
            (f_X4_someWed m1 t16).bind fun t17 =>
            ck (isb t17.1) <|
            some (t17.1, t17.2)
          else
            (f_X4_number m0 (a2 + 1) 2).bind fun t19 =>
            (f_X4_clerkRests m1 t19).bind fun t20 =>
            ck (isb t20.1) <|
            some (t20.1, t20.2)
set_option maxRecDepth 100000 in
theorem xe_X4_obeyed (B : XB) (m0 : Mem) (m1 : Mem) (a2 : Int32) : XE B M_X4_obeyed (XQm B 0 0 SH_LH) 0 [(0, some (.ref 0)), (1, some (.ref 64)), (2, some (.int a2))] [] (0, 0) SH_LH [m0, m1] (fun t => some (some (.int t.1), [m0, t.2])) (f_X4_obeyed m0 m1 a2) := by
  unfold f_X4_obeyed
  refine XE_aload_n (n := 1) dX4_obeyed_0 rfl rfl rfl ?_
  refine XE_getr (b := 1) (n := 4) xf_X4_11 rfl rfl dX4_obeyed_1 rfl ?_
  refine XE_iload_n (n := 5) dX4_obeyed_4 rfl rfl rfl ?_
  refine XE_iald (row := m0 1) (n := 6) rfl rfl dX4_obeyed_5 rfl ?_
  refine XE_lsw (c := 99) (t := 56) (off := 50) dX4_obeyed_6 (by decide) (by decide) rfl ?_ (fun h1 => ?_)
  · refine XE_aload_n (n := 57) dX4_obeyed_56 rfl rfl rfl ?_
    refine XE_aload_n (n := 58) dX4_obeyed_57 rfl rfl rfl ?_
    refine XE_iload_n (n := 59) dX4_obeyed_58 rfl rfl rfl ?_
    refine XE_callVi (ni := 2) (As := [.ref 64, .int a2]) (st2 := fun t2 => [.int t2.1]) (n := 62) (b := 0) xc_X4_31 (fun l t ht => met_X4_coupleComes l m0 m1 a2 t ht) rfl rfl rfl rfl dX4_obeyed_59 (Nat.le_of_ble_eq_true rfl) ⟨Nat.zero_le _, Nat.zero_le _⟩ (Nat.le_of_ble_eq_true rfl) (Nat.le_of_ble_eq_true rfl) (fun _ => rfl) rfl (fun t2 => ?_)
    refine XE_ck (fun h3 => ?_)
    exact XE_zreturn h3 rfl dX4_obeyed_62 rfl (Nat.le_refl _) (Nat.le_refl _)
  refine XE_lsw (c := 102) (t := 90) (off := 84) dX4_obeyed_6 (by decide) (by decide) rfl ?_ (fun h4 => ?_)
  · refine XE_aload_n (n := 91) dX4_obeyed_90 rfl rfl rfl ?_
    refine XE_aload_n (n := 92) dX4_obeyed_91 rfl rfl rfl ?_
    refine XE_iload_n (n := 93) dX4_obeyed_92 rfl rfl rfl ?_
    refine XE_iconst (v := 1) (n := 94) dX4_obeyed_93 rfl (by decide) ?_
    refine XE_iadd (n := 95) dX4_obeyed_94 rfl ?_
    refine XE_iconst (v := 1) (n := 96) dX4_obeyed_95 rfl (by decide) ?_
    refine XE_callV (ni := 2) (As := [.int (a2 + 1), .int 1]) (π := [0]) (co := [1]) (cv := [m1]) (nn := 2) (hs2 := fun t5 => [m0, m1]) (st2 := fun t5 => [.int t5, .ref 64]) (n := 99) (b := 0) xc_X4_34 (fun l t ht => met_X4_number l m0 (a2 + 1) 1 t ht) rfl rfl rfl rfl rfl dX4_obeyed_96 (Nat.le_of_ble_eq_true rfl) ⟨Nat.zero_le _, Nat.zero_le _⟩ (Nat.le_of_ble_eq_true rfl) (Nat.le_of_ble_eq_true rfl) ok_8 rfl rfl rfl (fun _ => rfl) (fun _ => rfl) (fun _ => rfl) rfl (fun _ => rfl) rfl (fun t5 => ?_)
    refine XE_callS (ni := 2) (As := [.ref 64, .int t5]) (π := [1]) (co := [0]) (cv := [m0]) (nn := 2) (hs2 := fun t6 => [m0, t6.2]) (st2 := fun t6 => [.int t6.1]) (n := 102) xc_X4_46 (fun l t ht => met_X4_putFirst l m1 t5 t ht) rfl rfl rfl dX4_obeyed_99 (Nat.le_of_ble_eq_true rfl) ⟨Nat.zero_le _, Nat.zero_le _⟩ (Nat.le_of_ble_eq_true rfl) (Nat.le_of_ble_eq_true rfl) ok_10 rfl rfl rfl (fun _ => rfl) (fun _ => rfl) (fun _ => rfl) rfl (fun _ => rfl) rfl (fun t6 => ?_)
    refine XE_ck (fun h7 => ?_)
    exact XE_zreturn h7 rfl dX4_obeyed_102 rfl (Nat.le_refl _) (Nat.le_refl _)
  refine XE_lsw (c := 114) (t := 77) (off := 71) dX4_obeyed_6 (by decide) (by decide) rfl ?_ (fun h8 => ?_)
  · refine XE_aload_n (n := 78) dX4_obeyed_77 rfl rfl rfl ?_
    refine XE_aload_n (n := 79) dX4_obeyed_78 rfl rfl rfl ?_
    refine XE_iload_n (n := 80) dX4_obeyed_79 rfl rfl rfl ?_
    refine XE_iconst (v := 1) (n := 81) dX4_obeyed_80 rfl (by decide) ?_
    refine XE_iadd (n := 82) dX4_obeyed_81 rfl ?_
    refine XE_iconst (v := 1) (n := 83) dX4_obeyed_82 rfl (by decide) ?_
    refine XE_callV (ni := 2) (As := [.int (a2 + 1), .int 1]) (π := [0]) (co := [1]) (cv := [m1]) (nn := 2) (hs2 := fun t9 => [m0, m1]) (st2 := fun t9 => [.int t9, .ref 64]) (n := 86) (b := 0) xc_X4_34 (fun l t ht => met_X4_number l m0 (a2 + 1) 1 t ht) rfl rfl rfl rfl rfl dX4_obeyed_83 (Nat.le_of_ble_eq_true rfl) ⟨Nat.zero_le _, Nat.zero_le _⟩ (Nat.le_of_ble_eq_true rfl) (Nat.le_of_ble_eq_true rfl) ok_8 rfl rfl rfl (fun _ => rfl) (fun _ => rfl) (fun _ => rfl) rfl (fun _ => rfl) rfl (fun t9 => ?_)
    refine XE_callS (ni := 2) (As := [.ref 64, .int t9]) (π := [1]) (co := [0]) (cv := [m0]) (nn := 2) (hs2 := fun t10 => [m0, t10.2]) (st2 := fun t10 => [.int t10.1]) (n := 89) xc_X4_43 (fun l t ht => met_X4_roomsOpened l m1 t9 t ht) rfl rfl rfl dX4_obeyed_86 (Nat.le_of_ble_eq_true rfl) ⟨Nat.zero_le _, Nat.zero_le _⟩ (Nat.le_of_ble_eq_true rfl) (Nat.le_of_ble_eq_true rfl) ok_10 rfl rfl rfl (fun _ => rfl) (fun _ => rfl) (fun _ => rfl) rfl (fun _ => rfl) rfl (fun t10 => ?_)
    refine XE_ck (fun h11 => ?_)
    exact XE_zreturn h11 rfl dX4_obeyed_89 rfl (Nat.le_refl _) (Nat.le_refl _)
  refine XE_lsw (c := 115) (t := 63) (off := 57) dX4_obeyed_6 (by decide) (by decide) rfl ?_ (fun h12 => ?_)
  · refine XE_aload_n (n := 64) dX4_obeyed_63 rfl rfl rfl ?_
    refine XE_aload_n (n := 65) dX4_obeyed_64 rfl rfl rfl ?_
    refine XE_iload_n (n := 66) dX4_obeyed_65 rfl rfl rfl ?_
    refine XE_iconst (v := 1) (n := 67) dX4_obeyed_66 rfl (by decide) ?_
    refine XE_iadd (n := 68) dX4_obeyed_67 rfl ?_
    refine XE_iconst (v := 1) (n := 69) dX4_obeyed_68 rfl (by decide) ?_
    refine XE_callV (ni := 2) (As := [.int (a2 + 1), .int 1]) (π := [0]) (co := [1]) (cv := [m1]) (nn := 2) (hs2 := fun t13 => [m0, m1]) (st2 := fun t13 => [.int t13, .ref 64]) (n := 72) (b := 0) xc_X4_34 (fun l t ht => met_X4_number l m0 (a2 + 1) 1 t ht) rfl rfl rfl rfl rfl dX4_obeyed_69 (Nat.le_of_ble_eq_true rfl) ⟨Nat.zero_le _, Nat.zero_le _⟩ (Nat.le_of_ble_eq_true rfl) (Nat.le_of_ble_eq_true rfl) ok_8 rfl rfl rfl (fun _ => rfl) (fun _ => rfl) (fun _ => rfl) rfl (fun _ => rfl) rfl (fun t13 => ?_)
    refine XE_putf (hs2 := fun w14 => [m0, w14]) (n := 75) xf_X4_38 rfl rfl rfl rfl (Nat.le_of_ble_eq_true rfl) (fun _ => rfl) dX4_obeyed_72 rfl (fun w14 => ?_)
    refine XE_iconst (v := 1) (n := 76) dX4_obeyed_75 rfl (by decide) ?_
    exact XE_zreturn rfl rfl dX4_obeyed_76 rfl (Nat.le_refl _) (Nat.le_refl _)
  refine XE_lsw (c := 119) (t := 103) (off := 97) dX4_obeyed_6 (by decide) (by decide) rfl ?_ (fun h15 => ?_)
  · refine XE_aload_n (n := 104) dX4_obeyed_103 rfl rfl rfl ?_
    refine XE_aload_n (n := 105) dX4_obeyed_104 rfl rfl rfl ?_
    refine XE_iload_n (n := 106) dX4_obeyed_105 rfl rfl rfl ?_
    refine XE_iconst (v := 1) (n := 107) dX4_obeyed_106 rfl (by decide) ?_
    refine XE_iadd (n := 108) dX4_obeyed_107 rfl ?_
    refine XE_iconst (v := 1) (n := 109) dX4_obeyed_108 rfl (by decide) ?_
    refine XE_callV (ni := 2) (As := [.int (a2 + 1), .int 1]) (π := [0]) (co := [1]) (cv := [m1]) (nn := 2) (hs2 := fun t16 => [m0, m1]) (st2 := fun t16 => [.int t16, .ref 64]) (n := 112) (b := 0) xc_X4_34 (fun l t ht => met_X4_number l m0 (a2 + 1) 1 t ht) rfl rfl rfl rfl rfl dX4_obeyed_109 (Nat.le_of_ble_eq_true rfl) ⟨Nat.zero_le _, Nat.zero_le _⟩ (Nat.le_of_ble_eq_true rfl) (Nat.le_of_ble_eq_true rfl) ok_8 rfl rfl rfl (fun _ => rfl) (fun _ => rfl) (fun _ => rfl) rfl (fun _ => rfl) rfl (fun t16 => ?_)
    refine XE_callS (ni := 2) (As := [.ref 64, .int t16]) (π := [1]) (co := [0]) (cv := [m0]) (nn := 2) (hs2 := fun t17 => [m0, t17.2]) (st2 := fun t17 => [.int t17.1]) (n := 115) xc_X4_49 (fun l t ht => met_X4_someWed l m1 t16 t ht) rfl rfl rfl dX4_obeyed_112 (Nat.le_of_ble_eq_true rfl) ⟨Nat.zero_le _, Nat.zero_le _⟩ (Nat.le_of_ble_eq_true rfl) (Nat.le_of_ble_eq_true rfl) ok_10 rfl rfl rfl (fun _ => rfl) (fun _ => rfl) (fun _ => rfl) rfl (fun _ => rfl) rfl (fun t17 => ?_)
    refine XE_ck (fun h18 => ?_)
    exact XE_zreturn h18 rfl dX4_obeyed_115 rfl (Nat.le_refl _) (Nat.le_refl _)
  refine XE_lswd (t := 116) (off := 110) dX4_obeyed_6 (by decide) ((lv_osw h1 rfl).trans ((lv_osw h4 rfl).trans ((lv_osw h8 rfl).trans ((lv_osw h12 rfl).trans ((lv_osw h15 rfl).trans (rfl)))))) rfl ?_
  refine XE_aload_n (n := 117) dX4_obeyed_116 rfl rfl rfl ?_
  refine XE_aload_n (n := 118) dX4_obeyed_117 rfl rfl rfl ?_
  refine XE_iload_n (n := 119) dX4_obeyed_118 rfl rfl rfl ?_
  refine XE_iconst (v := 1) (n := 120) dX4_obeyed_119 rfl (by decide) ?_
  refine XE_iadd (n := 121) dX4_obeyed_120 rfl ?_
  refine XE_iconst (v := 2) (n := 122) dX4_obeyed_121 rfl (by decide) ?_
  refine XE_callV (ni := 2) (As := [.int (a2 + 1), .int 2]) (π := [0]) (co := [1]) (cv := [m1]) (nn := 2) (hs2 := fun t19 => [m0, m1]) (st2 := fun t19 => [.int t19, .ref 64]) (n := 125) (b := 0) xc_X4_34 (fun l t ht => met_X4_number l m0 (a2 + 1) 2 t ht) rfl rfl rfl rfl rfl dX4_obeyed_122 (Nat.le_of_ble_eq_true rfl) ⟨Nat.zero_le _, Nat.zero_le _⟩ (Nat.le_of_ble_eq_true rfl) (Nat.le_of_ble_eq_true rfl) ok_8 rfl rfl rfl (fun _ => rfl) (fun _ => rfl) (fun _ => rfl) rfl (fun _ => rfl) rfl (fun t19 => ?_)
  refine XE_callS (ni := 2) (As := [.ref 64, .int t19]) (π := [1]) (co := [0]) (cv := [m0]) (nn := 2) (hs2 := fun t20 => [m0, t20.2]) (st2 := fun t20 => [.int t20.1]) (n := 128) xc_X4_52 (fun l t ht => met_X4_clerkRests l m1 t19 t ht) rfl rfl rfl dX4_obeyed_125 (Nat.le_of_ble_eq_true rfl) ⟨Nat.zero_le _, Nat.zero_le _⟩ (Nat.le_of_ble_eq_true rfl) (Nat.le_of_ble_eq_true rfl) ok_10 rfl rfl rfl (fun _ => rfl) (fun _ => rfl) (fun _ => rfl) rfl (fun _ => rfl) rfl (fun t20 => ?_)
  refine XE_ck (fun h21 => ?_)
  exact XE_zreturn h21 rfl dX4_obeyed_128 rfl (Nat.le_refl _) (Nat.le_refl _)
theorem met_X4_obeyed (l : Launch) (m0 : Mem) (m1 : Mem) (a2 : Int32) (t : Int32 × Mem) (ht : f_X4_obeyed m0 m1 a2 = some t) : XMet l yX4_obeyed cX4_obeyed 3 (some .boolean) 6 0 0 [.ref 0, .ref 64, .int a2] SH_LH [m0, m1] SH_LH (some (.int t.1), [m0, t.2]) := XMet.of (by decide +kernel) (fun _ => Nat.le_of_ble_eq_true rfl) (fun B => xe_X4_obeyed B m0 m1 a2) (by rw [ht]; rfl)
/-! X4_tellTo: EveryTwentyMinutes$Letters.tellTo(LEveryTwentyMinutes$Hall;)I in world LH at (0, 64) -/
abbrev M_X4_tellTo : XM := (RX4, cX4_tellTo, 4, (some .int), "tellTo", 7, 0, 0)
def f_X4_tellTo_L4 (m0 : Mem) : Nat → Int32 → Int32 → Mem → Option (Int32 × Mem)
  | 0, _, _, _ => none
  | n + 1, v1, v2, w3 =>
    if (m0 0 1) ≤ v2 then
      some (v1, w3)
    else
      (f_X4_obeyed m0 w3 v2).bind fun t4 =>
      if t4.1 = 0 then
        some (((-2000) - v2), t4.2)
      else
        lt (v1 + 1) fun v5 =>
        ck (inb v2 96) <|
        (f_X4_digitsBehind (m0 1 (ix v2))).bind fun t6 =>
        lt (v2 + (t6 + 2)) fun v7 =>
        (f_X4_tellTo_L4 m0 n) v5 v7 t4.2
def f_X4_tellTo (m0 : Mem) (m1 : Mem) : Option (Int32 × Mem) :=
  f_X4_tellTo_L4 m0 6000 (0 : Int32) (0 : Int32) m1
set_option maxRecDepth 100000 in
theorem f_X4_tellTo_L4_x (B : XB) (m0 : Mem) : ∀ (n : Nat) (v1 : Int32) (v2 : Int32) (w3 : Mem), XE B M_X4_tellTo (XQm B 0 0 SH_LH) 4 [(0, some (.ref 0)), (1, some (.ref 64)), (2, some (.int v1)), (3, some (.int v2))] [] (0, 0) SH_LH [m0, w3] (fun t => some (some (.int t.1), [m0, t.2])) (f_X4_tellTo_L4 m0 n v1 v2 w3) := by
  intro n
  induction n with
  | zero => intros; exact XE_none
  | succ n ih =>
    intro v1 v2 w3
    rw [f_X4_tellTo_L4]
    refine XE_iload_n (n := 5) dX4_tellTo_4 rfl rfl rfl ?_
    refine XE_aload_n (n := 6) dX4_tellTo_5 rfl rfl rfl ?_
    refine XE_getf (v := m0 0 1) (n := 9) xf_X4_15 rfl rfl rfl dX4_tellTo_6 rfl ?_
    refine XE_icmp_ge (t := 47) (n := 12) dX4_tellTo_9 rfl rfl (fun h9 => ?_) (fun h9 => ?_)
    · refine XE_iload_n (n := 48) dX4_tellTo_47 rfl rfl rfl ?_
      exact XE_ireturn rfl dX4_tellTo_48 rfl (Nat.le_refl _) (Nat.le_refl _)
    · refine XE_aload_n (n := 13) dX4_tellTo_12 rfl rfl rfl ?_
      refine XE_aload_n (n := 14) dX4_tellTo_13 rfl rfl rfl ?_
      refine XE_iload_n (n := 15) dX4_tellTo_14 rfl rfl rfl ?_
      refine XE_callVi (ni := 2) (As := [.ref 64, .int v2]) (st2 := fun t4 => [.int t4.1]) (n := 18) (b := 0) xc_X4_27 (fun l t ht => met_X4_obeyed l m0 w3 v2 t ht) rfl rfl rfl rfl dX4_tellTo_15 (Nat.le_of_ble_eq_true rfl) ⟨Nat.zero_le _, Nat.zero_le _⟩ (Nat.le_of_ble_eq_true rfl) (Nat.le_of_ble_eq_true rfl) (fun _ => rfl) rfl (fun t4 => ?_)
      refine XE_if_ne (t := 27) (n := 21) dX4_tellTo_18 rfl rfl (fun h8 => ?_) (fun h8 => ?_)
      · refine XE_sipush (v := (-2000)) (n := 24) dX4_tellTo_21 rfl (by decide) ?_
        refine XE_iload_n (n := 25) dX4_tellTo_24 rfl rfl rfl ?_
        refine XE_isub (n := 26) dX4_tellTo_25 rfl ?_
        exact XE_ireturn rfl dX4_tellTo_26 rfl (Nat.le_refl _) (Nat.le_refl _)
      · refine XE_iincl (n := 30) dX4_tellTo_27 rfl rfl (by decide) (Nat.le_of_ble_eq_true rfl) rfl (fun v5 => ?_)
        refine XE_iload_n (n := 31) dX4_tellTo_30 rfl rfl rfl ?_
        refine XE_aload_n (n := 32) dX4_tellTo_31 rfl rfl rfl ?_
        refine XE_getr (b := 1) (n := 35) xf_X4_11 rfl rfl dX4_tellTo_32 rfl ?_
        refine XE_iload_n (n := 36) dX4_tellTo_35 rfl rfl rfl ?_
        refine XE_iald (row := m0 1) (n := 37) rfl rfl dX4_tellTo_36 rfl ?_
        refine XE_callS (ni := 1) (As := [.int (m0 1 (ix v2))]) (π := []) (co := [0, 1]) (cv := [m0, t4.2]) (nn := 2) (hs2 := fun t6 => [m0, t4.2]) (st2 := fun t6 => [.int t6, .int v2]) (n := 40) xc_X4_19 (fun l t ht => met_X4_digitsBehind l (m0 1 (ix v2)) t ht) rfl rfl rfl dX4_tellTo_37 (Nat.le_of_ble_eq_true rfl) ⟨Nat.zero_le _, Nat.zero_le _⟩ (Nat.le_of_ble_eq_true rfl) (Nat.le_of_ble_eq_true rfl) ok_9 rfl rfl rfl (fun _ => rfl) (fun _ => rfl) (fun _ => rfl) rfl (fun _ => rfl) rfl (fun t6 => ?_)
        refine XE_iconst (v := 2) (n := 41) dX4_tellTo_40 rfl (by decide) ?_
        refine XE_iadd (n := 42) dX4_tellTo_41 rfl ?_
        refine XE_iadd (n := 43) dX4_tellTo_42 rfl ?_
        refine XE_topi (fun v7 => ?_)
        refine XE_istore_n (i := 3) (n := 44) dX4_tellTo_43 rfl rfl (Nat.le_of_ble_eq_true rfl) rfl ?_
        refine XE_goto (n := 4) dX4_tellTo_44 rfl ?_
        refine XE_ls (x_sub_ok (ls' := [(0, some (.ref 0)), (1, some (.ref 64)), (2, some (.int v5)), (3, some (.int v7))]) ⟨rfl, rfl, rfl, rfl, trivial⟩) ?_
        exact ih v5 v7 t4.2
set_option maxRecDepth 100000 in
theorem xe_X4_tellTo (B : XB) (m0 : Mem) (m1 : Mem) : XE B M_X4_tellTo (XQm B 0 0 SH_LH) 0 [(0, some (.ref 0)), (1, some (.ref 64))] [] (0, 0) SH_LH [m0, m1] (fun t => some (some (.int t.1), [m0, t.2])) (f_X4_tellTo m0 m1) := by
  unfold f_X4_tellTo
  refine XE_iconst (v := 0) (n := 1) dX4_tellTo_0 rfl (by decide) ?_
  refine XE_istore_n (i := 2) (n := 2) dX4_tellTo_1 rfl rfl (Nat.le_of_ble_eq_true rfl) rfl ?_
  refine XE_iconst (v := 0) (n := 3) dX4_tellTo_2 rfl (by decide) ?_
  refine XE_istore_n (i := 3) (n := 4) dX4_tellTo_3 rfl rfl (Nat.le_of_ble_eq_true rfl) rfl ?_
  refine XE_ls (x_sub_ok (ls' := [(0, some (.ref 0)), (1, some (.ref 64)), (2, some (.int 0)), (3, some (.int 0))]) ⟨rfl, rfl, rfl, rfl, trivial⟩) ?_
  exact f_X4_tellTo_L4_x B m0 6000 (0 : Int32) (0 : Int32) m1
theorem met_X4_tellTo (l : Launch) (m0 : Mem) (m1 : Mem) (t : Int32 × Mem) (ht : f_X4_tellTo m0 m1 = some t) : XMet l yX4_tellTo cX4_tellTo 4 (some .int) 7 0 0 [.ref 0, .ref 64] SH_LH [m0, m1] SH_LH (some (.int t.1), [m0, t.2]) := XMet.of (by decide +kernel) (fun _ => Nat.le_of_ble_eq_true rfl) (fun B => xe_X4_tellTo B m0 m1) (by rw [ht]; rfl)
def SH_PH : XSs := [(0, .inr (.inr (4, [4, 0, 0]))), (1, .inr (.inl [65, 129, 193, 257, 321, 385, 449, 513])), (64, .inr (.inr (2, [0, 68, 69, 70, 0, 71, 72, 73, 0, 74, 0, 75, 0, 0]))), (65, .inl 7), (66, .inl 7), (67, .inl 7), (68, .inl 7), (69, .inl 7), (70, .inl 7), (71, .inl 7), (72, .inl 2), (128, .inr (.inr (2, [0, 132, 133, 134, 0, 135, 136, 137, 0, 138, 0, 139, 0, 0]))), (129, .inl 7), (130, .inl 7), (131, .inl 7), (132, .inl 7), (133, .inl 7), (134, .inl 7), (135, .inl 7), (136, .inl 2), (192, .inr (.inr (2, [0, 196, 197, 198, 0, 199, 200, 201, 0, 202, 0, 203, 0, 0]))), (193, .inl 7), (194, .inl 7), (195, .inl 7), (196, .inl 7), (197, .inl 7), (198, .inl 7), (199, .inl 7), (200, .inl 2), (256, .inr (.inr (2, [0, 260, 261, 262, 0, 263, 264, 265, 0, 266, 0, 267, 0, 0]))), (257, .inl 7), (258, .inl 7), (259, .inl 7), (260, .inl 7), (261, .inl 7), (262, .inl 7), (263, .inl 7), (264, .inl 2), (320, .inr (.inr (2, [0, 324, 325, 326, 0, 327, 328, 329, 0, 330, 0, 331, 0, 0]))), (321, .inl 7), (322, .inl 7), (323, .inl 7), (324, .inl 7), (325, .inl 7), (326, .inl 7), (327, .inl 7), (328, .inl 2), (384, .inr (.inr (2, [0, 388, 389, 390, 0, 391, 392, 393, 0, 394, 0, 395, 0, 0]))), (385, .inl 7), (386, .inl 7), (387, .inl 7), (388, .inl 7), (389, .inl 7), (390, .inl 7), (391, .inl 7), (392, .inl 2), (448, .inr (.inr (2, [0, 452, 453, 454, 0, 455, 456, 457, 0, 458, 0, 459, 0, 0]))), (449, .inl 7), (450, .inl 7), (451, .inl 7), (452, .inl 7), (453, .inl 7), (454, .inl 7), (455, .inl 7), (456, .inl 2), (512, .inr (.inr (2, [0, 516, 517, 518, 0, 519, 520, 521, 0, 522, 0, 523, 0, 0]))), (513, .inl 7), (514, .inl 7), (515, .inl 7), (516, .inl 7), (517, .inl 7), (518, .inl 7), (519, .inl 7), (520, .inl 2), (576, .inr (.inr (2, [0, 580, 581, 582, 0, 583, 584, 585, 0, 586, 0, 587, 0, 0]))), (577, .inl 7), (578, .inl 7), (579, .inl 7), (580, .inl 7), (581, .inl 7), (582, .inl 7), (583, .inl 7), (584, .inl 2)]
set_option maxRecDepth 100000 in
theorem ok_11 : x_okc [1, 9] SH_HH SH_PH = true := by decide +kernel
set_option maxRecDepth 100000 in
theorem ok_12 : x_okc [2, 9] SH_HH SH_PH = true := by decide +kernel
set_option maxRecDepth 100000 in
theorem ok_13 : x_okc [3, 9] SH_HH SH_PH = true := by decide +kernel
set_option maxRecDepth 100000 in
theorem ok_14 : x_okc [4, 9] SH_HH SH_PH = true := by decide +kernel
set_option maxRecDepth 100000 in
theorem ok_15 : x_okc [5, 9] SH_HH SH_PH = true := by decide +kernel
set_option maxRecDepth 100000 in
theorem ok_16 : x_okc [6, 9] SH_HH SH_PH = true := by decide +kernel
set_option maxRecDepth 100000 in
theorem ok_17 : x_okc [7, 9] SH_HH SH_PH = true := by decide +kernel
set_option maxRecDepth 100000 in
theorem ok_18 : x_okc [8, 9] SH_HH SH_PH = true := by decide +kernel
