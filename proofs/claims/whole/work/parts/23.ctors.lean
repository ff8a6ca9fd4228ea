/-! THE CONSTRUCTORS, walked: what each makes -/
abbrev z_ : Mem := fun _ _ => 0
theorem xn_L_7 : XN RL 7 5 11 [1, 1, 1, 0, 1, 1, 1, 1, 1, 0, 1] := ⟨RX6, TX6, tyX6, rfl, xT_m1 12 (by decide +kernel) rfl, xT_m1 13 (by decide +kernel) rfl, xT_m1 1 (by decide +kernel) rfl, iwX6, tyX6_ok, fun ad g j hj => by
  rcases (show j = 0 ∨ j = 1 ∨ j = 2 ∨ j = 3 ∨ j = 4 ∨ j = 5 ∨ j = 6 ∨ j = 7 ∨ j = 8 ∨ j = 9 ∨ j = 10 by omega) with rfl | rfl | rfl | rfl | rfl | rfl | rfl | rfl | rfl | rfl | rfl <;> rfl⟩
theorem xl_L_7 : Cond.classLink RL 7 RX6 ∈ xT := xT_m1 12 (by decide +kernel) rfl
theorem xn_X6_7 : XN RX6 7 2 14 [0, 1, 1, 1, 0, 1, 1, 1, 0, 1, 0, 1, 0, 0] := ⟨RX2, TX2, tyX2, rfl, xT_m1 20 (by decide +kernel) rfl, xT_m1 21 (by decide +kernel) rfl, xT_m1 2 (by decide +kernel) rfl, iwX2, tyX2_ok, fun ad g j hj => by
  rcases (show j = 0 ∨ j = 1 ∨ j = 2 ∨ j = 3 ∨ j = 4 ∨ j = 5 ∨ j = 6 ∨ j = 7 ∨ j = 8 ∨ j = 9 ∨ j = 10 ∨ j = 11 ∨ j = 12 ∨ j = 13 by omega) with rfl | rfl | rfl | rfl | rfl | rfl | rfl | rfl | rfl | rfl | rfl | rfl | rfl | rfl <;> rfl⟩
theorem xl_X6_7 : Cond.classLink RX6 7 RX2 ∈ xT := xT_m1 20 (by decide +kernel) rfl
theorem xn_X6_26 : XN RX6 26 4 3 [1, 0, 0] := ⟨RX5, TX5, tyX5, rfl, xT_m1 95 (by decide +kernel) rfl, xT_m1 96 (by decide +kernel) rfl, xT_m1 3 (by decide +kernel) rfl, iwX5, tyX5_ok, fun ad g j hj => by
  rcases (show j = 0 ∨ j = 1 ∨ j = 2 by omega) with rfl | rfl | rfl <;> rfl⟩
theorem xl_X6_26 : Cond.classLink RX6 26 RX5 ∈ xT := xT_m1 95 (by decide +kernel) rfl
theorem xn_X5_9 : XN RX5 9 2 14 [0, 1, 1, 1, 0, 1, 1, 1, 0, 1, 0, 1, 0, 0] := ⟨RX2, TX2, tyX2, rfl, xT_m1 101 (by decide +kernel) rfl, xT_m1 21 (by decide +kernel) rfl, xT_m1 2 (by decide +kernel) rfl, iwX2, tyX2_ok, fun ad g j hj => by
  rcases (show j = 0 ∨ j = 1 ∨ j = 2 ∨ j = 3 ∨ j = 4 ∨ j = 5 ∨ j = 6 ∨ j = 7 ∨ j = 8 ∨ j = 9 ∨ j = 10 ∨ j = 11 ∨ j = 12 ∨ j = 13 by omega) with rfl | rfl | rfl | rfl | rfl | rfl | rfl | rfl | rfl | rfl | rfl | rfl | rfl | rfl <;> rfl⟩
theorem xl_X5_9 : Cond.classLink RX5 9 RX2 ∈ xT := xT_m1 101 (by decide +kernel) rfl
theorem xn_X6_33 : XN RX6 33 3 2 [1, 0] := ⟨RX4, TX4, tyX4, rfl, xT_m1 115 (by decide +kernel) rfl, xT_m1 116 (by decide +kernel) rfl, xT_m1 4 (by decide +kernel) rfl, iwX4, tyX4_ok, fun ad g j hj => by
  rcases (show j = 0 ∨ j = 1 by omega) with rfl | rfl <;> rfl⟩
theorem xl_X6_33 : Cond.classLink RX6 33 RX4 ∈ xT := xT_m1 115 (by decide +kernel) rfl
theorem xn_X6_40 : XN RX6 40 0 5 [1, 1, 1, 0, 0] := ⟨RX0, TX0, tyX0, rfl, xT_m1 129 (by decide +kernel) rfl, xT_m1 130 (by decide +kernel) rfl, xT_m1 5 (by decide +kernel) rfl, iwX0, tyX0_ok, fun ad g j hj => by
  rcases (show j = 0 ∨ j = 1 ∨ j = 2 ∨ j = 3 ∨ j = 4 by omega) with rfl | rfl | rfl | rfl | rfl <;> rfl⟩
theorem xl_X6_40 : Cond.classLink RX6 40 RX0 ∈ xT := xT_m1 129 (by decide +kernel) rfl
theorem xn_X0_9 : XN RX0 9 2 14 [0, 1, 1, 1, 0, 1, 1, 1, 0, 1, 0, 1, 0, 0] := ⟨RX2, TX2, tyX2, rfl, xT_m1 135 (by decide +kernel) rfl, xT_m1 21 (by decide +kernel) rfl, xT_m1 2 (by decide +kernel) rfl, iwX2, tyX2_ok, fun ad g j hj => by
  rcases (show j = 0 ∨ j = 1 ∨ j = 2 ∨ j = 3 ∨ j = 4 ∨ j = 5 ∨ j = 6 ∨ j = 7 ∨ j = 8 ∨ j = 9 ∨ j = 10 ∨ j = 11 ∨ j = 12 ∨ j = 13 by omega) with rfl | rfl | rfl | rfl | rfl | rfl | rfl | rfl | rfl | rfl | rfl | rfl | rfl | rfl <;> rfl⟩
theorem xl_X0_9 : Cond.classLink RX0 9 RX2 ∈ xT := xT_m1 135 (by decide +kernel) rfl
theorem xn_X6_47 : XN RX6 47 1 3 [1, 0, 0] := ⟨RX1, TX1, tyX1, rfl, xT_m1 156 (by decide +kernel) rfl, xT_m1 157 (by decide +kernel) rfl, xT_m1 6 (by decide +kernel) rfl, iwX1, tyX1_ok, fun ad g j hj => by
  rcases (show j = 0 ∨ j = 1 ∨ j = 2 by omega) with rfl | rfl | rfl <;> rfl⟩
theorem xl_X6_47 : Cond.classLink RX6 47 RX1 ∈ xT := xT_m1 156 (by decide +kernel) rfl
theorem xn_L_10 : XN RL 10 6 39 [0, 1, 1, 1, 1, 1, 1, 1, 1, 0, 0, 1, 0, 0, 0, 1, 1, 0, 0, 0, 0, 1, 1, 1, 1, 1, 0, 0, 0, 1, 1, 1, 0, 1, 1, 1, 1, 0, 0] := ⟨RX7, TX7, tyX7, rfl, xT_m3 221 (by decide +kernel) rfl, xT_m3 222 (by decide +kernel) rfl, xT_m1 7 (by decide +kernel) rfl, iwX7, tyX7_ok, fun ad g j hj => by
  rcases (show j = 0 ∨ j = 1 ∨ j = 2 ∨ j = 3 ∨ j = 4 ∨ j = 5 ∨ j = 6 ∨ j = 7 ∨ j = 8 ∨ j = 9 ∨ j = 10 ∨ j = 11 ∨ j = 12 ∨ j = 13 ∨ j = 14 ∨ j = 15 ∨ j = 16 ∨ j = 17 ∨ j = 18 ∨ j = 19 ∨ j = 20 ∨ j = 21 ∨ j = 22 ∨ j = 23 ∨ j = 24 ∨ j = 25 ∨ j = 26 ∨ j = 27 ∨ j = 28 ∨ j = 29 ∨ j = 30 ∨ j = 31 ∨ j = 32 ∨ j = 33 ∨ j = 34 ∨ j = 35 ∨ j = 36 ∨ j = 37 ∨ j = 38 by omega) with rfl | rfl | rfl | rfl | rfl | rfl | rfl | rfl | rfl | rfl | rfl | rfl | rfl | rfl | rfl | rfl | rfl | rfl | rfl | rfl | rfl | rfl | rfl | rfl | rfl | rfl | rfl | rfl | rfl | rfl | rfl | rfl | rfl | rfl | rfl | rfl | rfl | rfl | rfl <;> rfl⟩
theorem xl_L_10 : Cond.classLink RL 10 RX7 ∈ xT := xT_m3 221 (by decide +kernel) rfl
theorem xa_int : Cond.arrayClass .int ∈ xT := xT_m1 94 (by decide +kernel) rfl
theorem xo_i : Cond.instanceMethod Lib.objectInit ∈ xT := xT_m1 18 (by decide +kernel) rfl
theorem xo_c : Cond.code Lib.objectInit ⟨#[0xb1]⟩ 1 none ∈ xT := xT_m1 19 (by decide +kernel) rfl
theorem xo_X6_1 : Cond.methodLink RX6 1 Lib.objectInit ∈ xT := xT_m1 17 (by decide +kernel) rfl
theorem xo_X2_3 : Cond.methodLink RX2 3 Lib.objectInit ∈ xT := xT_m1 25 (by decide +kernel) rfl
theorem xo_X5_1 : Cond.methodLink RX5 1 Lib.objectInit ∈ xT := xT_m1 100 (by decide +kernel) rfl
theorem xo_X4_3 : Cond.methodLink RX4 3 Lib.objectInit ∈ xT := xT_m1 120 (by decide +kernel) rfl
theorem xo_X0_3 : Cond.methodLink RX0 3 Lib.objectInit ∈ xT := xT_m1 134 (by decide +kernel) rfl
theorem xo_X1_3 : Cond.methodLink RX1 3 Lib.objectInit ∈ xT := xT_m1 161 (by decide +kernel) rfl
theorem xo_X7_1 : Cond.methodLink RX7 1 Lib.objectInit ∈ xT := xT_m3 226 (by decide +kernel) rfl
theorem xm_X2_init : Cond.instanceMethod yX2_init ∈ xT ∧ Cond.initialized yX2_init.cls ∈ xT ∧ Cond.code yX2_init cX2_init 1 none ∈ xT ∧ yX2_init.name = "<init>" ∧ (yX2_init.cls ≠ "java/lang/invoke/MethodHandle" ∧ yX2_init.cls ≠ "java/lang/invoke/VarHandle" ∧ (parseMethodDescriptor yX2_init.desc).map (fun d => d.parameters.length) = some 0) := ⟨xT_m1 23 (by decide +kernel) rfl, xT_m1 2 (by decide +kernel) rfl, xT_m1 24 (by decide +kernel) rfl, rfl, by decide +kernel⟩
theorem xi_X6_9 : XCIN RX6 9 yX2_init cX2_init 1 := ⟨by decide +kernel, xm_X2_init.1, xm_X2_init.2.1, xm_X2_init.2.2.1, xm_X2_init.2.2.2.1, xm_X2_init.2.2.2.2⟩
theorem xi_X5_22 : XCIN RX5 22 yX2_init cX2_init 1 := ⟨by decide +kernel, xm_X2_init.1, xm_X2_init.2.1, xm_X2_init.2.2.1, xm_X2_init.2.2.2.1, xm_X2_init.2.2.2.2⟩
theorem xm_X4_init : Cond.instanceMethod yX4_init ∈ xT ∧ Cond.initialized yX4_init.cls ∈ xT ∧ Cond.code yX4_init cX4_init 1 none ∈ xT ∧ yX4_init.name = "<init>" ∧ (yX4_init.cls ≠ "java/lang/invoke/MethodHandle" ∧ yX4_init.cls ≠ "java/lang/invoke/VarHandle" ∧ (parseMethodDescriptor yX4_init.desc).map (fun d => d.parameters.length) = some 0) := ⟨xT_m1 118 (by decide +kernel) rfl, xT_m1 4 (by decide +kernel) rfl, xT_m1 119 (by decide +kernel) rfl, rfl, by decide +kernel⟩
theorem xi_X6_35 : XCIN RX6 35 yX4_init cX4_init 1 := ⟨by decide +kernel, xm_X4_init.1, xm_X4_init.2.1, xm_X4_init.2.2.1, xm_X4_init.2.2.2.1, xm_X4_init.2.2.2.2⟩
theorem xm_X0_init : Cond.instanceMethod yX0_init ∈ xT ∧ Cond.initialized yX0_init.cls ∈ xT ∧ Cond.code yX0_init cX0_init 1 none ∈ xT ∧ yX0_init.name = "<init>" ∧ (yX0_init.cls ≠ "java/lang/invoke/MethodHandle" ∧ yX0_init.cls ≠ "java/lang/invoke/VarHandle" ∧ (parseMethodDescriptor yX0_init.desc).map (fun d => d.parameters.length) = some 0) := ⟨xT_m1 132 (by decide +kernel) rfl, xT_m1 5 (by decide +kernel) rfl, xT_m1 133 (by decide +kernel) rfl, rfl, by decide +kernel⟩
theorem xi_X6_42 : XCIN RX6 42 yX0_init cX0_init 1 := ⟨by decide +kernel, xm_X0_init.1, xm_X0_init.2.1, xm_X0_init.2.2.1, xm_X0_init.2.2.2.1, xm_X0_init.2.2.2.2⟩
theorem xi_X0_11 : XCIN RX0 11 yX2_init cX2_init 1 := ⟨by decide +kernel, xm_X2_init.1, xm_X2_init.2.1, xm_X2_init.2.2.1, xm_X2_init.2.2.2.1, xm_X2_init.2.2.2.2⟩
theorem xm_X1_init : Cond.instanceMethod yX1_init ∈ xT ∧ Cond.initialized yX1_init.cls ∈ xT ∧ Cond.code yX1_init cX1_init 1 none ∈ xT ∧ yX1_init.name = "<init>" ∧ (yX1_init.cls ≠ "java/lang/invoke/MethodHandle" ∧ yX1_init.cls ≠ "java/lang/invoke/VarHandle" ∧ (parseMethodDescriptor yX1_init.desc).map (fun d => d.parameters.length) = some 0) := ⟨xT_m1 159 (by decide +kernel) rfl, xT_m1 6 (by decide +kernel) rfl, xT_m1 160 (by decide +kernel) rfl, rfl, by decide +kernel⟩
theorem xi_X6_49 : XCIN RX6 49 yX1_init cX1_init 1 := ⟨by decide +kernel, xm_X1_init.1, xm_X1_init.2.1, xm_X1_init.2.2.1, xm_X1_init.2.2.2.1, xm_X1_init.2.2.2.2⟩
theorem xi_L_9 : XCI RL 9 yX6_init cX6_init 1 := ⟨xc_L_9, xm_X6_init.1, xm_X6_init.2.1, xm_X6_init.2.2.1, xm_X6_init.2.2.2.1, xm_X6_init.2.2.2.2⟩
theorem xi_X6_28 : XCI RX6 28 yX5_init cX5_init 2 := ⟨xc_X6_28, xm_X5_init.1, xm_X5_init.2.1, xm_X5_init.2.2.1, xm_X5_init.2.2.2.1, xm_X5_init.2.2.2.2⟩
theorem xi_L_12 : XCI RL 12 yX7_init cX7_init 1 := ⟨xc_L_12, xm_X7_init.1, xm_X7_init.2.1, xm_X7_init.2.2.1, xm_X7_init.2.2.2.1, xm_X7_init.2.2.2.2⟩
/-! X2_init -/
def SI_X2 : XSs := [(0, .inr (.inr (2, [0, 4, 5, 6, 0, 7, 8, 9, 0, 10, 0, 11, 0, 0]))), (1, .inl 7), (2, .inl 7), (3, .inl 7), (4, .inl 7), (5, .inl 7), (6, .inl 7), (7, .inl 7), (8, .inl 2)]
abbrev MI_X2_0 : Mem := (xs (xs (xs (xs (xs (xs z_ 0 0 0) 0 4 0) 0 8 0) 0 10 1) 0 12 0) 0 13 0)
abbrev MI_X2 : List Mem := [MI_X2_0]
abbrev M_X2_init : XM := (RX2, cX2_init, 1, none, "<init>", 1, 8, 51)
def SG_X2_1 : XSs := [(0, .inr (.inr (2, [0, 1, 1, 1, 0, 1, 1, 1, 0, 1, 0, 1, 0, 0])))]
def SG_X2_2 : XSs := [(0, .inr (.inr (2, [0, 1, 1, 1, 0, 1, 1, 1, 0, 1, 0, 1, 0, 0]))), (1, .inl 7)]
def SG_X2_3 : XSs := [(0, .inr (.inr (2, [0, 4, 1, 1, 0, 1, 1, 1, 0, 1, 0, 1, 0, 0]))), (1, .inl 7)]
def SG_X2_4 : XSs := [(0, .inr (.inr (2, [0, 4, 1, 1, 0, 1, 1, 1, 0, 1, 0, 1, 0, 0]))), (1, .inl 7), (2, .inl 7)]
def SG_X2_5 : XSs := [(0, .inr (.inr (2, [0, 4, 5, 1, 0, 1, 1, 1, 0, 1, 0, 1, 0, 0]))), (1, .inl 7), (2, .inl 7)]
def SG_X2_6 : XSs := [(0, .inr (.inr (2, [0, 4, 5, 1, 0, 1, 1, 1, 0, 1, 0, 1, 0, 0]))), (1, .inl 7), (2, .inl 7), (3, .inl 7)]
def SG_X2_7 : XSs := [(0, .inr (.inr (2, [0, 4, 5, 6, 0, 1, 1, 1, 0, 1, 0, 1, 0, 0]))), (1, .inl 7), (2, .inl 7), (3, .inl 7)]
def SG_X2_8 : XSs := [(0, .inr (.inr (2, [0, 4, 5, 6, 0, 1, 1, 1, 0, 1, 0, 1, 0, 0]))), (1, .inl 7), (2, .inl 7), (3, .inl 7), (4, .inl 7)]
def SG_X2_9 : XSs := [(0, .inr (.inr (2, [0, 4, 5, 6, 0, 7, 1, 1, 0, 1, 0, 1, 0, 0]))), (1, .inl 7), (2, .inl 7), (3, .inl 7), (4, .inl 7)]
def SG_X2_10 : XSs := [(0, .inr (.inr (2, [0, 4, 5, 6, 0, 7, 1, 1, 0, 1, 0, 1, 0, 0]))), (1, .inl 7), (2, .inl 7), (3, .inl 7), (4, .inl 7), (5, .inl 7)]
def SG_X2_11 : XSs := [(0, .inr (.inr (2, [0, 4, 5, 6, 0, 7, 8, 1, 0, 1, 0, 1, 0, 0]))), (1, .inl 7), (2, .inl 7), (3, .inl 7), (4, .inl 7), (5, .inl 7)]
def SG_X2_12 : XSs := [(0, .inr (.inr (2, [0, 4, 5, 6, 0, 7, 8, 1, 0, 1, 0, 1, 0, 0]))), (1, .inl 7), (2, .inl 7), (3, .inl 7), (4, .inl 7), (5, .inl 7), (6, .inl 7)]
def SG_X2_13 : XSs := [(0, .inr (.inr (2, [0, 4, 5, 6, 0, 7, 8, 9, 0, 1, 0, 1, 0, 0]))), (1, .inl 7), (2, .inl 7), (3, .inl 7), (4, .inl 7), (5, .inl 7), (6, .inl 7)]
def SG_X2_14 : XSs := [(0, .inr (.inr (2, [0, 4, 5, 6, 0, 7, 8, 9, 0, 1, 0, 1, 0, 0]))), (1, .inl 7), (2, .inl 7), (3, .inl 7), (4, .inl 7), (5, .inl 7), (6, .inl 7), (7, .inl 7)]
def SG_X2_15 : XSs := [(0, .inr (.inr (2, [0, 4, 5, 6, 0, 7, 8, 9, 0, 10, 0, 1, 0, 0]))), (1, .inl 7), (2, .inl 7), (3, .inl 7), (4, .inl 7), (5, .inl 7), (6, .inl 7), (7, .inl 7)]
def SG_X2_16 : XSs := [(0, .inr (.inr (2, [0, 4, 5, 6, 0, 7, 8, 9, 0, 10, 0, 1, 0, 0]))), (1, .inl 7), (2, .inl 7), (3, .inl 7), (4, .inl 7), (5, .inl 7), (6, .inl 7), (7, .inl 7), (8, .inl 2)]
def SG_X2_17 : XSs := [(0, .inr (.inr (2, [0, 4, 5, 6, 0, 7, 8, 9, 0, 10, 0, 11, 0, 0]))), (1, .inl 7), (2, .inl 7), (3, .inl 7), (4, .inl 7), (5, .inl 7), (6, .inl 7), (7, .inl 7), (8, .inl 2)]
set_option maxRecDepth 100000 in
theorem xs_X2_init_15 (B : XB) (hN : XNb B) : XE B M_X2_init (XQm B 8 51 SI_X2) 97 [(0, some (.ref 0))] [] (8, 51) SG_X2_17 [(xs (xs (xs (xs (xs (xs z_ 0 0 0) 0 4 0) 0 8 0) 0 10 1) 0 12 0) 0 13 0)] (fun _ : Unit => some (none, MI_X2)) (some ()) := by
  exact XE_cvret (shsF := SI_X2) (mr := MI_X2) (x_sse_eq (by decide +kernel)) rfl ⟨Nat.le_refl _, Nat.le_refl _⟩ rfl dX2_init_97 rfl
set_option maxRecDepth 100000 in
theorem xs_X2_init_14 (B : XB) (hN : XNb B) : XE B M_X2_init (XQm B 8 51 SI_X2) 92 [(0, some (.ref 0))] [] (8, 51) SG_X2_17 [(xs (xs (xs (xs (xs z_ 0 0 0) 0 4 0) 0 8 0) 0 10 1) 0 12 0)] (fun _ : Unit => some (none, MI_X2)) (some ()) := by
  refine XE_aload_n (n := 93) dX2_init_92 rfl rfl rfl ?_
  refine XE_iconst (v := 0) (n := 94) dX2_init_93 rfl (by decide) ?_
  refine XE_cputf (κs := [0, 4, 5, 6, 0, 7, 8, 9, 0, 10, 0, 11, 0, 0]) (hs2 := [(xs (xs (xs (xs (xs (xs z_ 0 0 0) 0 4 0) 0 8 0) 0 10 1) 0 12 0) 0 13 0)]) xf_X2_52 (x_lkb_eq (by decide +kernel)) rfl rfl rfl (Nat.le_of_ble_eq_true rfl) rfl dX2_init_94 (n := 97) rfl ?_
  exact xs_X2_init_15 B hN
set_option maxRecDepth 100000 in
theorem xs_X2_init_13 (B : XB) (hN : XNb B) : XE B M_X2_init (XQm B 8 51 SI_X2) 87 [(0, some (.ref 0))] [] (8, 51) SG_X2_17 [(xs (xs (xs (xs z_ 0 0 0) 0 4 0) 0 8 0) 0 10 1)] (fun _ : Unit => some (none, MI_X2)) (some ()) := by
  refine XE_aload_n (n := 88) dX2_init_87 rfl rfl rfl ?_
  refine XE_iconst (v := 0) (n := 89) dX2_init_88 rfl (by decide) ?_
  refine XE_cputf (κs := [0, 4, 5, 6, 0, 7, 8, 9, 0, 10, 0, 11, 0, 0]) (hs2 := [(xs (xs (xs (xs (xs z_ 0 0 0) 0 4 0) 0 8 0) 0 10 1) 0 12 0)]) xf_X2_49 (x_lkb_eq (by decide +kernel)) rfl rfl rfl (Nat.le_of_ble_eq_true rfl) rfl dX2_init_89 (n := 92) rfl ?_
  exact xs_X2_init_14 B hN
set_option maxRecDepth 100000 in
theorem xs_X2_init_12 (B : XB) (hN : XNb B) : XE B M_X2_init (XQm B 8 51 SI_X2) 80 [(0, some (.ref 0))] [] (7, 49) SG_X2_15 [(xs (xs (xs (xs z_ 0 0 0) 0 4 0) 0 8 0) 0 10 1)] (fun _ : Unit => some (none, MI_X2)) (some ()) := by
  refine XE_aload_n (n := 81) dX2_init_80 rfl rfl rfl ?_
  refine XE_iconst (v := 2) (n := 82) dX2_init_81 rfl (by decide) ?_
  refine XE_newa (key := 8) (N := 2) (shs2 := SG_X2_16) xa_int rfl (by decide +kernel) (by decide +kernel) (by decide) (by decide) ⟨Nat.le_of_ble_eq_true rfl, Nat.le_of_ble_eq_true rfl⟩ (Nat.le_of_ble_eq_true rfl) (x_sse_eq (by decide +kernel)) dX2_init_82 rfl ?_
  refine XE_cputr (i := 0) (κs := [0, 4, 5, 6, 0, 7, 8, 9, 0, 10, 0, 1, 0, 0]) (shs2 := SG_X2_17) xf_X2_46 (Or.inl ⟨_, rfl⟩) (x_atb_eq (by decide +kernel)) (Nat.le_of_ble_eq_true rfl) rfl (x_sse_eq (by decide +kernel)) dX2_init_84 (n := 87) rfl ?_
  exact xs_X2_init_13 B hN
set_option maxRecDepth 100000 in
theorem xs_X2_init_11 (B : XB) (hN : XNb B) : XE B M_X2_init (XQm B 8 51 SI_X2) 75 [(0, some (.ref 0))] [] (7, 49) SG_X2_15 [(xs (xs (xs z_ 0 0 0) 0 4 0) 0 8 0)] (fun _ : Unit => some (none, MI_X2)) (some ()) := by
  refine XE_aload_n (n := 76) dX2_init_75 rfl rfl rfl ?_
  refine XE_iconst (v := 1) (n := 77) dX2_init_76 rfl (by decide) ?_
  refine XE_cputf (κs := [0, 4, 5, 6, 0, 7, 8, 9, 0, 10, 0, 1, 0, 0]) (hs2 := [(xs (xs (xs (xs z_ 0 0 0) 0 4 0) 0 8 0) 0 10 1)]) xf_X2_43 (x_lkb_eq (by decide +kernel)) rfl rfl rfl (Nat.le_of_ble_eq_true rfl) rfl dX2_init_77 (n := 80) rfl ?_
  exact xs_X2_init_12 B hN
set_option maxRecDepth 100000 in
theorem xs_X2_init_10 (B : XB) (hN : XNb B) : XE B M_X2_init (XQm B 8 51 SI_X2) 67 [(0, some (.ref 0))] [] (6, 42) SG_X2_13 [(xs (xs (xs z_ 0 0 0) 0 4 0) 0 8 0)] (fun _ : Unit => some (none, MI_X2)) (some ()) := by
  refine XE_aload_n (n := 68) dX2_init_67 rfl rfl rfl ?_
  refine XE_bipush (v := 7) (n := 70) dX2_init_68 rfl (by decide) ?_
  refine XE_newa (key := 7) (N := 7) (shs2 := SG_X2_14) xa_int rfl (by decide +kernel) (by decide +kernel) (by decide) (by decide) ⟨Nat.le_of_ble_eq_true rfl, Nat.le_of_ble_eq_true rfl⟩ (Nat.le_of_ble_eq_true rfl) (x_sse_eq (by decide +kernel)) dX2_init_70 rfl ?_
  refine XE_cputr (i := 0) (κs := [0, 4, 5, 6, 0, 7, 8, 9, 0, 1, 0, 1, 0, 0]) (shs2 := SG_X2_15) xf_X2_40 (Or.inl ⟨_, rfl⟩) (x_atb_eq (by decide +kernel)) (Nat.le_of_ble_eq_true rfl) rfl (x_sse_eq (by decide +kernel)) dX2_init_72 (n := 75) rfl ?_
  exact xs_X2_init_11 B hN
set_option maxRecDepth 100000 in
theorem xs_X2_init_9 (B : XB) (hN : XNb B) : XE B M_X2_init (XQm B 8 51 SI_X2) 62 [(0, some (.ref 0))] [] (6, 42) SG_X2_13 [(xs (xs z_ 0 0 0) 0 4 0)] (fun _ : Unit => some (none, MI_X2)) (some ()) := by
  refine XE_aload_n (n := 63) dX2_init_62 rfl rfl rfl ?_
  refine XE_iconst (v := 0) (n := 64) dX2_init_63 rfl (by decide) ?_
  refine XE_cputf (κs := [0, 4, 5, 6, 0, 7, 8, 9, 0, 1, 0, 1, 0, 0]) (hs2 := [(xs (xs (xs z_ 0 0 0) 0 4 0) 0 8 0)]) xf_X2_37 (x_lkb_eq (by decide +kernel)) rfl rfl rfl (Nat.le_of_ble_eq_true rfl) rfl dX2_init_64 (n := 67) rfl ?_
  exact xs_X2_init_10 B hN
set_option maxRecDepth 100000 in
theorem xs_X2_init_8 (B : XB) (hN : XNb B) : XE B M_X2_init (XQm B 8 51 SI_X2) 54 [(0, some (.ref 0))] [] (5, 35) SG_X2_11 [(xs (xs z_ 0 0 0) 0 4 0)] (fun _ : Unit => some (none, MI_X2)) (some ()) := by
  refine XE_aload_n (n := 55) dX2_init_54 rfl rfl rfl ?_
  refine XE_bipush (v := 7) (n := 57) dX2_init_55 rfl (by decide) ?_
  refine XE_newa (key := 6) (N := 7) (shs2 := SG_X2_12) xa_int rfl (by decide +kernel) (by decide +kernel) (by decide) (by decide) ⟨Nat.le_of_ble_eq_true rfl, Nat.le_of_ble_eq_true rfl⟩ (Nat.le_of_ble_eq_true rfl) (x_sse_eq (by decide +kernel)) dX2_init_57 rfl ?_
  refine XE_cputr (i := 0) (κs := [0, 4, 5, 6, 0, 7, 8, 1, 0, 1, 0, 1, 0, 0]) (shs2 := SG_X2_13) xf_X2_34 (Or.inl ⟨_, rfl⟩) (x_atb_eq (by decide +kernel)) (Nat.le_of_ble_eq_true rfl) rfl (x_sse_eq (by decide +kernel)) dX2_init_59 (n := 62) rfl ?_
  exact xs_X2_init_9 B hN
set_option maxRecDepth 100000 in
theorem xs_X2_init_7 (B : XB) (hN : XNb B) : XE B M_X2_init (XQm B 8 51 SI_X2) 46 [(0, some (.ref 0))] [] (4, 28) SG_X2_9 [(xs (xs z_ 0 0 0) 0 4 0)] (fun _ : Unit => some (none, MI_X2)) (some ()) := by
  refine XE_aload_n (n := 47) dX2_init_46 rfl rfl rfl ?_
  refine XE_bipush (v := 7) (n := 49) dX2_init_47 rfl (by decide) ?_
  refine XE_newa (key := 5) (N := 7) (shs2 := SG_X2_10) xa_int rfl (by decide +kernel) (by decide +kernel) (by decide) (by decide) ⟨Nat.le_of_ble_eq_true rfl, Nat.le_of_ble_eq_true rfl⟩ (Nat.le_of_ble_eq_true rfl) (x_sse_eq (by decide +kernel)) dX2_init_49 rfl ?_
  refine XE_cputr (i := 0) (κs := [0, 4, 5, 6, 0, 7, 1, 1, 0, 1, 0, 1, 0, 0]) (shs2 := SG_X2_11) xf_X2_31 (Or.inl ⟨_, rfl⟩) (x_atb_eq (by decide +kernel)) (Nat.le_of_ble_eq_true rfl) rfl (x_sse_eq (by decide +kernel)) dX2_init_51 (n := 54) rfl ?_
  exact xs_X2_init_8 B hN
set_option maxRecDepth 100000 in
theorem xs_X2_init_6 (B : XB) (hN : XNb B) : XE B M_X2_init (XQm B 8 51 SI_X2) 38 [(0, some (.ref 0))] [] (3, 21) SG_X2_7 [(xs (xs z_ 0 0 0) 0 4 0)] (fun _ : Unit => some (none, MI_X2)) (some ()) := by
  refine XE_aload_n (n := 39) dX2_init_38 rfl rfl rfl ?_
  refine XE_bipush (v := 7) (n := 41) dX2_init_39 rfl (by decide) ?_
  refine XE_newa (key := 4) (N := 7) (shs2 := SG_X2_8) xa_int rfl (by decide +kernel) (by decide +kernel) (by decide) (by decide) ⟨Nat.le_of_ble_eq_true rfl, Nat.le_of_ble_eq_true rfl⟩ (Nat.le_of_ble_eq_true rfl) (x_sse_eq (by decide +kernel)) dX2_init_41 rfl ?_
  refine XE_cputr (i := 0) (κs := [0, 4, 5, 6, 0, 1, 1, 1, 0, 1, 0, 1, 0, 0]) (shs2 := SG_X2_9) xf_X2_28 (Or.inl ⟨_, rfl⟩) (x_atb_eq (by decide +kernel)) (Nat.le_of_ble_eq_true rfl) rfl (x_sse_eq (by decide +kernel)) dX2_init_43 (n := 46) rfl ?_
  exact xs_X2_init_7 B hN
set_option maxRecDepth 100000 in
theorem xs_X2_init_5 (B : XB) (hN : XNb B) : XE B M_X2_init (XQm B 8 51 SI_X2) 33 [(0, some (.ref 0))] [] (3, 21) SG_X2_7 [(xs z_ 0 0 0)] (fun _ : Unit => some (none, MI_X2)) (some ()) := by
  refine XE_aload_n (n := 34) dX2_init_33 rfl rfl rfl ?_
  refine XE_iconst (v := 0) (n := 35) dX2_init_34 rfl (by decide) ?_
  refine XE_cputf (κs := [0, 4, 5, 6, 0, 1, 1, 1, 0, 1, 0, 1, 0, 0]) (hs2 := [(xs (xs z_ 0 0 0) 0 4 0)]) xf_X2_25 (x_lkb_eq (by decide +kernel)) rfl rfl rfl (Nat.le_of_ble_eq_true rfl) rfl dX2_init_35 (n := 38) rfl ?_
  exact xs_X2_init_6 B hN
set_option maxRecDepth 100000 in
theorem xs_X2_init_4 (B : XB) (hN : XNb B) : XE B M_X2_init (XQm B 8 51 SI_X2) 25 [(0, some (.ref 0))] [] (2, 14) SG_X2_5 [(xs z_ 0 0 0)] (fun _ : Unit => some (none, MI_X2)) (some ()) := by
  refine XE_aload_n (n := 26) dX2_init_25 rfl rfl rfl ?_
  refine XE_bipush (v := 7) (n := 28) dX2_init_26 rfl (by decide) ?_
  refine XE_newa (key := 3) (N := 7) (shs2 := SG_X2_6) xa_int rfl (by decide +kernel) (by decide +kernel) (by decide) (by decide) ⟨Nat.le_of_ble_eq_true rfl, Nat.le_of_ble_eq_true rfl⟩ (Nat.le_of_ble_eq_true rfl) (x_sse_eq (by decide +kernel)) dX2_init_28 rfl ?_
  refine XE_cputr (i := 0) (κs := [0, 4, 5, 1, 0, 1, 1, 1, 0, 1, 0, 1, 0, 0]) (shs2 := SG_X2_7) xf_X2_22 (Or.inl ⟨_, rfl⟩) (x_atb_eq (by decide +kernel)) (Nat.le_of_ble_eq_true rfl) rfl (x_sse_eq (by decide +kernel)) dX2_init_30 (n := 33) rfl ?_
  exact xs_X2_init_5 B hN
set_option maxRecDepth 100000 in
theorem xs_X2_init_3 (B : XB) (hN : XNb B) : XE B M_X2_init (XQm B 8 51 SI_X2) 17 [(0, some (.ref 0))] [] (1, 7) SG_X2_3 [(xs z_ 0 0 0)] (fun _ : Unit => some (none, MI_X2)) (some ()) := by
  refine XE_aload_n (n := 18) dX2_init_17 rfl rfl rfl ?_
  refine XE_bipush (v := 7) (n := 20) dX2_init_18 rfl (by decide) ?_
  refine XE_newa (key := 2) (N := 7) (shs2 := SG_X2_4) xa_int rfl (by decide +kernel) (by decide +kernel) (by decide) (by decide) ⟨Nat.le_of_ble_eq_true rfl, Nat.le_of_ble_eq_true rfl⟩ (Nat.le_of_ble_eq_true rfl) (x_sse_eq (by decide +kernel)) dX2_init_20 rfl ?_
  refine XE_cputr (i := 0) (κs := [0, 4, 1, 1, 0, 1, 1, 1, 0, 1, 0, 1, 0, 0]) (shs2 := SG_X2_5) xf_X2_19 (Or.inl ⟨_, rfl⟩) (x_atb_eq (by decide +kernel)) (Nat.le_of_ble_eq_true rfl) rfl (x_sse_eq (by decide +kernel)) dX2_init_22 (n := 25) rfl ?_
  exact xs_X2_init_4 B hN
set_option maxRecDepth 100000 in
theorem xs_X2_init_2 (B : XB) (hN : XNb B) : XE B M_X2_init (XQm B 8 51 SI_X2) 9 [(0, some (.ref 0))] [] (0, 0) SG_X2_1 [(xs z_ 0 0 0)] (fun _ : Unit => some (none, MI_X2)) (some ()) := by
  refine XE_aload_n (n := 10) dX2_init_9 rfl rfl rfl ?_
  refine XE_bipush (v := 7) (n := 12) dX2_init_10 rfl (by decide) ?_
  refine XE_newa (key := 1) (N := 7) (shs2 := SG_X2_2) xa_int rfl (by decide +kernel) (by decide +kernel) (by decide) (by decide) ⟨Nat.le_of_ble_eq_true rfl, Nat.le_of_ble_eq_true rfl⟩ (Nat.le_of_ble_eq_true rfl) (x_sse_eq (by decide +kernel)) dX2_init_12 rfl ?_
  refine XE_cputr (i := 0) (κs := [0, 1, 1, 1, 0, 1, 1, 1, 0, 1, 0, 1, 0, 0]) (shs2 := SG_X2_3) xf_X2_15 (Or.inl ⟨_, rfl⟩) (x_atb_eq (by decide +kernel)) (Nat.le_of_ble_eq_true rfl) rfl (x_sse_eq (by decide +kernel)) dX2_init_14 (n := 17) rfl ?_
  exact xs_X2_init_3 B hN
set_option maxRecDepth 100000 in
theorem xs_X2_init_1 (B : XB) (hN : XNb B) : XE B M_X2_init (XQm B 8 51 SI_X2) 4 [(0, some (.ref 0))] [] (0, 0) SG_X2_1 [z_] (fun _ : Unit => some (none, MI_X2)) (some ()) := by
  refine XE_aload_n (n := 5) dX2_init_4 rfl rfl rfl ?_
  refine XE_iconst (v := 0) (n := 6) dX2_init_5 rfl (by decide) ?_
  refine XE_cputf (κs := [0, 1, 1, 1, 0, 1, 1, 1, 0, 1, 0, 1, 0, 0]) (hs2 := [(xs z_ 0 0 0)]) xf_X2_9 (x_lkb_eq (by decide +kernel)) rfl rfl rfl (Nat.le_of_ble_eq_true rfl) rfl dX2_init_6 (n := 9) rfl ?_
  exact xs_X2_init_2 B hN
set_option maxRecDepth 100000 in
theorem xs_X2_init_0 (B : XB) (hN : XNb B) : XE B M_X2_init (XQm B 8 51 SI_X2) 0 [(0, some (.ref 0))] [] (0, 0) SG_X2_1 [z_] (fun _ : Unit => some (none, MI_X2)) (some ()) := by
  refine XE_aload_n (n := 1) dX2_init_0 rfl rfl rfl ?_
  refine XE_objInit (n := 4) xo_X2_3 xo_i xo_c (Nat.le_of_ble_eq_true rfl) (Nat.le_of_ble_eq_true rfl) dX2_init_1 rfl ?_
  exact xs_X2_init_1 B hN
theorem xe_X2_init (B : XB) (hN : XNb B) : XE B M_X2_init (XQm B 8 51 SI_X2) 0 [(0, some (.ref 0))] [] (0, 0) [(0, .inr (.inr (2, [0, 1, 1, 1, 0, 1, 1, 1, 0, 1, 0, 1, 0, 0])))] [z_] (fun _ : Unit => some (none, MI_X2)) (some ()) := xs_X2_init_0 B hN
theorem met_X2_init (l : Launch) : XMetA l yX2_init cX2_init 1 1 8 51 [.ref 0] [(0, .inr (.inr (2, [0, 1, 1, 1, 0, 1, 1, 1, 0, 1, 0, 1, 0, 0])))] [z_] SI_X2 (none, MI_X2) := XMetA.of (k := fun _ : Unit => some (none, MI_X2)) (o := some ()) (by decide +kernel) (fun _ => Nat.le_of_ble_eq_true rfl) (fun B hN => xe_X2_init B hN) rfl
/-! X4_init -/
def SI_X4 : XSs := [(0, .inr (.inr (3, [4, 0]))), (1, .inl 96)]
abbrev MI_X4_0 : Mem := (xs z_ 0 1 0)
abbrev MI_X4 : List Mem := [MI_X4_0]
abbrev M_X4_init : XM := (RX4, cX4_init, 1, none, "<init>", 1, 1, 96)
def SG_X4_1 : XSs := [(0, .inr (.inr (3, [1, 0])))]
def SG_X4_2 : XSs := [(0, .inr (.inr (3, [1, 0]))), (1, .inl 96)]
def SG_X4_3 : XSs := [(0, .inr (.inr (3, [4, 0]))), (1, .inl 96)]
set_option maxRecDepth 100000 in
theorem xs_X4_init_3 (B : XB) (hN : XNb B) : XE B M_X4_init (XQm B 1 96 SI_X4) 17 [(0, some (.ref 0))] [] (1, 96) SG_X4_3 [(xs z_ 0 1 0)] (fun _ : Unit => some (none, MI_X4)) (some ()) := by
  exact XE_cvret (shsF := SI_X4) (mr := MI_X4) (x_sse_eq (by decide +kernel)) rfl ⟨Nat.le_refl _, Nat.le_refl _⟩ rfl dX4_init_17 rfl
set_option maxRecDepth 100000 in
theorem xs_X4_init_2 (B : XB) (hN : XNb B) : XE B M_X4_init (XQm B 1 96 SI_X4) 12 [(0, some (.ref 0))] [] (1, 96) SG_X4_3 [z_] (fun _ : Unit => some (none, MI_X4)) (some ()) := by
  refine XE_aload_n (n := 13) dX4_init_12 rfl rfl rfl ?_
  refine XE_iconst (v := 0) (n := 14) dX4_init_13 rfl (by decide) ?_
  refine XE_cputf (κs := [4, 0]) (hs2 := [(xs z_ 0 1 0)]) xf_X4_15 (x_lkb_eq (by decide +kernel)) rfl rfl rfl (Nat.le_of_ble_eq_true rfl) rfl dX4_init_14 (n := 17) rfl ?_
  exact xs_X4_init_3 B hN
set_option maxRecDepth 100000 in
theorem xs_X4_init_1 (B : XB) (hN : XNb B) : XE B M_X4_init (XQm B 1 96 SI_X4) 4 [(0, some (.ref 0))] [] (0, 0) SG_X4_1 [z_] (fun _ : Unit => some (none, MI_X4)) (some ()) := by
  refine XE_aload_n (n := 5) dX4_init_4 rfl rfl rfl ?_
  refine XE_bipush (v := 96) (n := 7) dX4_init_5 rfl (by decide) ?_
  refine XE_newa (key := 1) (N := 96) (shs2 := SG_X4_2) xa_int rfl (by decide +kernel) (by decide +kernel) (by decide) (by decide) ⟨Nat.le_of_ble_eq_true rfl, Nat.le_of_ble_eq_true rfl⟩ (Nat.le_of_ble_eq_true rfl) (x_sse_eq (by decide +kernel)) dX4_init_7 rfl ?_
  refine XE_cputr (i := 0) (κs := [1, 0]) (shs2 := SG_X4_3) xf_X4_11 (Or.inl ⟨_, rfl⟩) (x_atb_eq (by decide +kernel)) (Nat.le_of_ble_eq_true rfl) rfl (x_sse_eq (by decide +kernel)) dX4_init_9 (n := 12) rfl ?_
  exact xs_X4_init_2 B hN
set_option maxRecDepth 100000 in
theorem xs_X4_init_0 (B : XB) (hN : XNb B) : XE B M_X4_init (XQm B 1 96 SI_X4) 0 [(0, some (.ref 0))] [] (0, 0) SG_X4_1 [z_] (fun _ : Unit => some (none, MI_X4)) (some ()) := by
  refine XE_aload_n (n := 1) dX4_init_0 rfl rfl rfl ?_
  refine XE_objInit (n := 4) xo_X4_3 xo_i xo_c (Nat.le_of_ble_eq_true rfl) (Nat.le_of_ble_eq_true rfl) dX4_init_1 rfl ?_
  exact xs_X4_init_1 B hN
theorem xe_X4_init (B : XB) (hN : XNb B) : XE B M_X4_init (XQm B 1 96 SI_X4) 0 [(0, some (.ref 0))] [] (0, 0) [(0, .inr (.inr (3, [1, 0])))] [z_] (fun _ : Unit => some (none, MI_X4)) (some ()) := xs_X4_init_0 B hN
theorem met_X4_init (l : Launch) : XMetA l yX4_init cX4_init 1 1 1 96 [.ref 0] [(0, .inr (.inr (3, [1, 0])))] [z_] SI_X4 (none, MI_X4) := XMetA.of (k := fun _ : Unit => some (none, MI_X4)) (o := some ()) (by decide +kernel) (fun _ => Nat.le_of_ble_eq_true rfl) (fun B hN => xe_X4_init B hN) rfl
/-! X1_init -/
def SI_X1 : XSs := [(0, .inr (.inr (1, [4, 0, 0]))), (1, .inl 7)]
abbrev MI_X1_0 : Mem := (xs (xs z_ 0 1 (-9)) 0 2 0)
abbrev MI_X1 : List Mem := [MI_X1_0]
abbrev M_X1_init : XM := (RX1, cX1_init, 1, none, "<init>", 1, 1, 7)
def SG_X1_1 : XSs := [(0, .inr (.inr (1, [1, 0, 0])))]
def SG_X1_2 : XSs := [(0, .inr (.inr (1, [1, 0, 0]))), (1, .inl 7)]
def SG_X1_3 : XSs := [(0, .inr (.inr (1, [4, 0, 0]))), (1, .inl 7)]
set_option maxRecDepth 100000 in
theorem xs_X1_init_4 (B : XB) (hN : XNb B) : XE B M_X1_init (XQm B 1 7 SI_X1) 23 [(0, some (.ref 0))] [] (1, 7) SG_X1_3 [(xs (xs z_ 0 1 (-9)) 0 2 0)] (fun _ : Unit => some (none, MI_X1)) (some ()) := by
  exact XE_cvret (shsF := SI_X1) (mr := MI_X1) (x_sse_eq (by decide +kernel)) rfl ⟨Nat.le_refl _, Nat.le_refl _⟩ rfl dX1_init_23 rfl
set_option maxRecDepth 100000 in
theorem xs_X1_init_3 (B : XB) (hN : XNb B) : XE B M_X1_init (XQm B 1 7 SI_X1) 18 [(0, some (.ref 0))] [] (1, 7) SG_X1_3 [(xs z_ 0 1 (-9))] (fun _ : Unit => some (none, MI_X1)) (some ()) := by
  refine XE_aload_n (n := 19) dX1_init_18 rfl rfl rfl ?_
  refine XE_iconst (v := 0) (n := 20) dX1_init_19 rfl (by decide) ?_
  refine XE_cputf (κs := [4, 0, 0]) (hs2 := [(xs (xs z_ 0 1 (-9)) 0 2 0)]) xf_X1_21 (x_lkb_eq (by decide +kernel)) rfl rfl rfl (Nat.le_of_ble_eq_true rfl) rfl dX1_init_20 (n := 23) rfl ?_
  exact xs_X1_init_4 B hN
set_option maxRecDepth 100000 in
theorem xs_X1_init_2 (B : XB) (hN : XNb B) : XE B M_X1_init (XQm B 1 7 SI_X1) 12 [(0, some (.ref 0))] [] (1, 7) SG_X1_3 [z_] (fun _ : Unit => some (none, MI_X1)) (some ()) := by
  refine XE_aload_n (n := 13) dX1_init_12 rfl rfl rfl ?_
  refine XE_bipush (v := (-9)) (n := 15) dX1_init_13 rfl (by decide) ?_
  refine XE_cputf (κs := [4, 0, 0]) (hs2 := [(xs z_ 0 1 (-9))]) xf_X1_17 (x_lkb_eq (by decide +kernel)) rfl rfl rfl (Nat.le_of_ble_eq_true rfl) rfl dX1_init_15 (n := 18) rfl ?_
  exact xs_X1_init_3 B hN
set_option maxRecDepth 100000 in
theorem xs_X1_init_1 (B : XB) (hN : XNb B) : XE B M_X1_init (XQm B 1 7 SI_X1) 4 [(0, some (.ref 0))] [] (0, 0) SG_X1_1 [z_] (fun _ : Unit => some (none, MI_X1)) (some ()) := by
  refine XE_aload_n (n := 5) dX1_init_4 rfl rfl rfl ?_
  refine XE_bipush (v := 7) (n := 7) dX1_init_5 rfl (by decide) ?_
  refine XE_newa (key := 1) (N := 7) (shs2 := SG_X1_2) xa_int rfl (by decide +kernel) (by decide +kernel) (by decide) (by decide) ⟨Nat.le_of_ble_eq_true rfl, Nat.le_of_ble_eq_true rfl⟩ (Nat.le_of_ble_eq_true rfl) (x_sse_eq (by decide +kernel)) dX1_init_7 rfl ?_
  refine XE_cputr (i := 0) (κs := [1, 0, 0]) (shs2 := SG_X1_3) xf_X1_11 (Or.inl ⟨_, rfl⟩) (x_atb_eq (by decide +kernel)) (Nat.le_of_ble_eq_true rfl) rfl (x_sse_eq (by decide +kernel)) dX1_init_9 (n := 12) rfl ?_
  exact xs_X1_init_2 B hN
set_option maxRecDepth 100000 in
theorem xs_X1_init_0 (B : XB) (hN : XNb B) : XE B M_X1_init (XQm B 1 7 SI_X1) 0 [(0, some (.ref 0))] [] (0, 0) SG_X1_1 [z_] (fun _ : Unit => some (none, MI_X1)) (some ()) := by
  refine XE_aload_n (n := 1) dX1_init_0 rfl rfl rfl ?_
  refine XE_objInit (n := 4) xo_X1_3 xo_i xo_c (Nat.le_of_ble_eq_true rfl) (Nat.le_of_ble_eq_true rfl) dX1_init_1 rfl ?_
  exact xs_X1_init_1 B hN
theorem xe_X1_init (B : XB) (hN : XNb B) : XE B M_X1_init (XQm B 1 7 SI_X1) 0 [(0, some (.ref 0))] [] (0, 0) [(0, .inr (.inr (1, [1, 0, 0])))] [z_] (fun _ : Unit => some (none, MI_X1)) (some ()) := xs_X1_init_0 B hN
theorem met_X1_init (l : Launch) : XMetA l yX1_init cX1_init 1 1 1 7 [.ref 0] [(0, .inr (.inr (1, [1, 0, 0])))] [z_] SI_X1 (none, MI_X1) := XMetA.of (k := fun _ : Unit => some (none, MI_X1)) (o := some ()) (by decide +kernel) (fun _ => Nat.le_of_ble_eq_true rfl) (fun B hN => xe_X1_init B hN) rfl
/-! X5_init -/
def SI_X5 : XSs := [(0, .inr (.inr (4, [4, 0, 0]))), (1, .inr (.inl [65, 129, 193, 257, 321, 385, 449, 513])), (64, .inr (.inr (2, [0, 68, 69, 70, 0, 71, 72, 73, 0, 74, 0, 75, 0, 0]))), (65, .inl 7), (66, .inl 7), (67, .inl 7), (68, .inl 7), (69, .inl 7), (70, .inl 7), (71, .inl 7), (72, .inl 2), (128, .inr (.inr (2, [0, 132, 133, 134, 0, 135, 136, 137, 0, 138, 0, 139, 0, 0]))), (129, .inl 7), (130, .inl 7), (131, .inl 7), (132, .inl 7), (133, .inl 7), (134, .inl 7), (135, .inl 7), (136, .inl 2), (192, .inr (.inr (2, [0, 196, 197, 198, 0, 199, 200, 201, 0, 202, 0, 203, 0, 0]))), (193, .inl 7), (194, .inl 7), (195, .inl 7), (196, .inl 7), (197, .inl 7), (198, .inl 7), (199, .inl 7), (200, .inl 2), (256, .inr (.inr (2, [0, 260, 261, 262, 0, 263, 264, 265, 0, 266, 0, 267, 0, 0]))), (257, .inl 7), (258, .inl 7), (259, .inl 7), (260, .inl 7), (261, .inl 7), (262, .inl 7), (263, .inl 7), (264, .inl 2), (320, .inr (.inr (2, [0, 324, 325, 326, 0, 327, 328, 329, 0, 330, 0, 331, 0, 0]))), (321, .inl 7), (322, .inl 7), (323, .inl 7), (324, .inl 7), (325, .inl 7), (326, .inl 7), (327, .inl 7), (328, .inl 2), (384, .inr (.inr (2, [0, 388, 389, 390, 0, 391, 392, 393, 0, 394, 0, 395, 0, 0]))), (385, .inl 7), (386, .inl 7), (387, .inl 7), (388, .inl 7), (389, .inl 7), (390, .inl 7), (391, .inl 7), (392, .inl 2), (448, .inr (.inr (2, [0, 452, 453, 454, 0, 455, 456, 457, 0, 458, 0, 459, 0, 0]))), (449, .inl 7), (450, .inl 7), (451, .inl 7), (452, .inl 7), (453, .inl 7), (454, .inl 7), (455, .inl 7), (456, .inl 2), (512, .inr (.inr (2, [0, 516, 517, 518, 0, 519, 520, 521, 0, 522, 0, 523, 0, 0]))), (513, .inl 7), (514, .inl 7), (515, .inl 7), (516, .inl 7), (517, .inl 7), (518, .inl 7), (519, .inl 7), (520, .inl 2)]
abbrev MI_X5_0 : Mem := (xs (xs z_ 0 1 0) 0 2 0)
abbrev MI_X5_1 : Mem := MI_X2_0
abbrev MI_X5_2 : Mem := MI_X2_0
abbrev MI_X5_3 : Mem := MI_X2_0
abbrev MI_X5_4 : Mem := MI_X2_0
abbrev MI_X5_5 : Mem := MI_X2_0
abbrev MI_X5_6 : Mem := MI_X2_0
abbrev MI_X5_7 : Mem := MI_X2_0
abbrev MI_X5_8 : Mem := MI_X2_0
abbrev MI_X5 : List Mem := [MI_X5_0, MI_X5_1, MI_X5_2, MI_X5_3, MI_X5_4, MI_X5_5, MI_X5_6, MI_X5_7, MI_X5_8]
abbrev M_X5_init : XM := (RX5, cX5_init, 2, none, "<init>", 2, 73, 528)
def SG_X5_1 : XSs := [(0, .inr (.inr (4, [1, 0, 0])))]
def SG_X5_2 : XSs := [(0, .inr (.inr (4, [1, 0, 0]))), (1, .inr (.inl [0, 0, 0, 0, 0, 0, 0, 0]))]
def SG_X5_3 : XSs := [(0, .inr (.inr (4, [4, 0, 0]))), (1, .inr (.inl [0, 0, 0, 0, 0, 0, 0, 0]))]
def SG_X5_4 : XSs := [(0, .inr (.inr (4, [4, 0, 0]))), (1, .inr (.inl [0, 0, 0, 0, 0, 0, 0, 0])), (64, .inr (.inr (2, [0, 1, 1, 1, 0, 1, 1, 1, 0, 1, 0, 1, 0, 0])))]
def SG_X5_5 : XSs := [(0, .inr (.inr (4, [4, 0, 0]))), (1, .inr (.inl [0, 0, 0, 0, 0, 0, 0, 0])), (64, .inr (.inr (2, [0, 68, 69, 70, 0, 71, 72, 73, 0, 74, 0, 75, 0, 0]))), (65, .inl 7), (66, .inl 7), (67, .inl 7), (68, .inl 7), (69, .inl 7), (70, .inl 7), (71, .inl 7), (72, .inl 2)]
def SG_X5_6 : XSs := [(0, .inr (.inr (4, [4, 0, 0]))), (1, .inr (.inl [65, 0, 0, 0, 0, 0, 0, 0])), (64, .inr (.inr (2, [0, 68, 69, 70, 0, 71, 72, 73, 0, 74, 0, 75, 0, 0]))), (65, .inl 7), (66, .inl 7), (67, .inl 7), (68, .inl 7), (69, .inl 7), (70, .inl 7), (71, .inl 7), (72, .inl 2)]
def SG_X5_7 : XSs := [(0, .inr (.inr (4, [4, 0, 0]))), (1, .inr (.inl [65, 0, 0, 0, 0, 0, 0, 0])), (64, .inr (.inr (2, [0, 68, 69, 70, 0, 71, 72, 73, 0, 74, 0, 75, 0, 0]))), (65, .inl 7), (66, .inl 7), (67, .inl 7), (68, .inl 7), (69, .inl 7), (70, .inl 7), (71, .inl 7), (72, .inl 2), (128, .inr (.inr (2, [0, 1, 1, 1, 0, 1, 1, 1, 0, 1, 0, 1, 0, 0])))]
def SG_X5_8 : XSs := [(0, .inr (.inr (4, [4, 0, 0]))), (1, .inr (.inl [65, 0, 0, 0, 0, 0, 0, 0])), (64, .inr (.inr (2, [0, 68, 69, 70, 0, 71, 72, 73, 0, 74, 0, 75, 0, 0]))), (65, .inl 7), (66, .inl 7), (67, .inl 7), (68, .inl 7), (69, .inl 7), (70, .inl 7), (71, .inl 7), (72, .inl 2), (128, .inr (.inr (2, [0, 132, 133, 134, 0, 135, 136, 137, 0, 138, 0, 139, 0, 0]))), (129, .inl 7), (130, .inl 7), (131, .inl 7), (132, .inl 7), (133, .inl 7), (134, .inl 7), (135, .inl 7), (136, .inl 2)]
def SG_X5_9 : XSs := [(0, .inr (.inr (4, [4, 0, 0]))), (1, .inr (.inl [65, 129, 0, 0, 0, 0, 0, 0])), (64, .inr (.inr (2, [0, 68, 69, 70, 0, 71, 72, 73, 0, 74, 0, 75, 0, 0]))), (65, .inl 7), (66, .inl 7), (67, .inl 7), (68, .inl 7), (69, .inl 7), (70, .inl 7), (71, .inl 7), (72, .inl 2), (128, .inr (.inr (2, [0, 132, 133, 134, 0, 135, 136, 137, 0, 138, 0, 139, 0, 0]))), (129, .inl 7), (130, .inl 7), (131, .inl 7), (132, .inl 7), (133, .inl 7), (134, .inl 7), (135, .inl 7), (136, .inl 2)]
def SG_X5_10 : XSs := [(0, .inr (.inr (4, [4, 0, 0]))), (1, .inr (.inl [65, 129, 0, 0, 0, 0, 0, 0])), (64, .inr (.inr (2, [0, 68, 69, 70, 0, 71, 72, 73, 0, 74, 0, 75, 0, 0]))), (65, .inl 7), (66, .inl 7), (67, .inl 7), (68, .inl 7), (69, .inl 7), (70, .inl 7), (71, .inl 7), (72, .inl 2), (128, .inr (.inr (2, [0, 132, 133, 134, 0, 135, 136, 137, 0, 138, 0, 139, 0, 0]))), (129, .inl 7), (130, .inl 7), (131, .inl 7), (132, .inl 7), (133, .inl 7), (134, .inl 7), (135, .inl 7), (136, .inl 2), (192, .inr (.inr (2, [0, 1, 1, 1, 0, 1, 1, 1, 0, 1, 0, 1, 0, 0])))]
def SG_X5_11 : XSs := [(0, .inr (.inr (4, [4, 0, 0]))), (1, .inr (.inl [65, 129, 0, 0, 0, 0, 0, 0])), (64, .inr (.inr (2, [0, 68, 69, 70, 0, 71, 72, 73, 0, 74, 0, 75, 0, 0]))), (65, .inl 7), (66, .inl 7), (67, .inl 7), (68, .inl 7), (69, .inl 7), (70, .inl 7), (71, .inl 7), (72, .inl 2), (128, .inr (.inr (2, [0, 132, 133, 134, 0, 135, 136, 137, 0, 138, 0, 139, 0, 0]))), (129, .inl 7), (130, .inl 7), (131, .inl 7), (132, .inl 7), (133, .inl 7), (134, .inl 7), (135, .inl 7), (136, .inl 2), (192, .inr (.inr (2, [0, 196, 197, 198, 0, 199, 200, 201, 0, 202, 0, 203, 0, 0]))), (193, .inl 7), (194, .inl 7), (195, .inl 7), (196, .inl 7), (197, .inl 7), (198, .inl 7), (199, .inl 7), (200, .inl 2)]
def SG_X5_12 : XSs := [(0, .inr (.inr (4, [4, 0, 0]))), (1, .inr (.inl [65, 129, 193, 0, 0, 0, 0, 0])), (64, .inr (.inr (2, [0, 68, 69, 70, 0, 71, 72, 73, 0, 74, 0, 75, 0, 0]))), (65, .inl 7), (66, .inl 7), (67, .inl 7), (68, .inl 7), (69, .inl 7), (70, .inl 7), (71, .inl 7), (72, .inl 2), (128, .inr (.inr (2, [0, 132, 133, 134, 0, 135, 136, 137, 0, 138, 0, 139, 0, 0]))), (129, .inl 7), (130, .inl 7), (131, .inl 7), (132, .inl 7), (133, .inl 7), (134, .inl 7), (135, .inl 7), (136, .inl 2), (192, .inr (.inr (2, [0, 196, 197, 198, 0, 199, 200, 201, 0, 202, 0, 203, 0, 0]))), (193, .inl 7), (194, .inl 7), (195, .inl 7), (196, .inl 7), (197, .inl 7), (198, .inl 7), (199, .inl 7), (200, .inl 2)]
def SG_X5_13 : XSs := [(0, .inr (.inr (4, [4, 0, 0]))), (1, .inr (.inl [65, 129, 193, 0, 0, 0, 0, 0])), (64, .inr (.inr (2, [0, 68, 69, 70, 0, 71, 72, 73, 0, 74, 0, 75, 0, 0]))), (65, .inl 7), (66, .inl 7), (67, .inl 7), (68, .inl 7), (69, .inl 7), (70, .inl 7), (71, .inl 7), (72, .inl 2), (128, .inr (.inr (2, [0, 132, 133, 134, 0, 135, 136, 137, 0, 138, 0, 139, 0, 0]))), (129, .inl 7), (130, .inl 7), (131, .inl 7), (132, .inl 7), (133, .inl 7), (134, .inl 7), (135, .inl 7), (136, .inl 2), (192, .inr (.inr (2, [0, 196, 197, 198, 0, 199, 200, 201, 0, 202, 0, 203, 0, 0]))), (193, .inl 7), (194, .inl 7), (195, .inl 7), (196, .inl 7), (197, .inl 7), (198, .inl 7), (199, .inl 7), (200, .inl 2), (256, .inr (.inr (2, [0, 1, 1, 1, 0, 1, 1, 1, 0, 1, 0, 1, 0, 0])))]
def SG_X5_14 : XSs := [(0, .inr (.inr (4, [4, 0, 0]))), (1, .inr (.inl [65, 129, 193, 0, 0, 0, 0, 0])), (64, .inr (.inr (2, [0, 68, 69, 70, 0, 71, 72, 73, 0, 74, 0, 75, 0, 0]))), (65, .inl 7), (66, .inl 7), (67, .inl 7), (68, .inl 7), (69, .inl 7), (70, .inl 7), (71, .inl 7), (72, .inl 2), (128, .inr (.inr (2, [0, 132, 133, 134, 0, 135, 136, 137, 0, 138, 0, 139, 0, 0]))), (129, .inl 7), (130, .inl 7), (131, .inl 7), (132, .inl 7), (133, .inl 7), (134, .inl 7), (135, .inl 7), (136, .inl 2), (192, .inr (.inr (2, [0, 196, 197, 198, 0, 199, 200, 201, 0, 202, 0, 203, 0, 0]))), (193, .inl 7), (194, .inl 7), (195, .inl 7), (196, .inl 7), (197, .inl 7), (198, .inl 7), (199, .inl 7), (200, .inl 2), (256, .inr (.inr (2, [0, 260, 261, 262, 0, 263, 264, 265, 0, 266, 0, 267, 0, 0]))), (257, .inl 7), (258, .inl 7), (259, .inl 7), (260, .inl 7), (261, .inl 7), (262, .inl 7), (263, .inl 7), (264, .inl 2)]
def SG_X5_15 : XSs := [(0, .inr (.inr (4, [4, 0, 0]))), (1, .inr (.inl [65, 129, 193, 257, 0, 0, 0, 0])), (64, .inr (.inr (2, [0, 68, 69, 70, 0, 71, 72, 73, 0, 74, 0, 75, 0, 0]))), (65, .inl 7), (66, .inl 7), (67, .inl 7), (68, .inl 7), (69, .inl 7), (70, .inl 7), (71, .inl 7), (72, .inl 2), (128, .inr (.inr (2, [0, 132, 133, 134, 0, 135, 136, 137, 0, 138, 0, 139, 0, 0]))), (129, .inl 7), (130, .inl 7), (131, .inl 7), (132, .inl 7), (133, .inl 7), (134, .inl 7), (135, .inl 7), (136, .inl 2), (192, .inr (.inr (2, [0, 196, 197, 198, 0, 199, 200, 201, 0, 202, 0, 203, 0, 0]))), (193, .inl 7), (194, .inl 7), (195, .inl 7), (196, .inl 7), (197, .inl 7), (198, .inl 7), (199, .inl 7), (200, .inl 2), (256, .inr (.inr (2, [0, 260, 261, 262, 0, 263, 264, 265, 0, 266, 0, 267, 0, 0]))), (257, .inl 7), (258, .inl 7), (259, .inl 7), (260, .inl 7), (261, .inl 7), (262, .inl 7), (263, .inl 7), (264, .inl 2)]
def SG_X5_16 : XSs := [(0, .inr (.inr (4, [4, 0, 0]))), (1, .inr (.inl [65, 129, 193, 257, 0, 0, 0, 0])), (64, .inr (.inr (2, [0, 68, 69, 70, 0, 71, 72, 73, 0, 74, 0, 75, 0, 0]))), (65, .inl 7), (66, .inl 7), (67, .inl 7), (68, .inl 7), (69, .inl 7), (70, .inl 7), (71, .inl 7), (72, .inl 2), (128, .inr (.inr (2, [0, 132, 133, 134, 0, 135, 136, 137, 0, 138, 0, 139, 0, 0]))), (129, .inl 7), (130, .inl 7), (131, .inl 7), (132, .inl 7), (133, .inl 7), (134, .inl 7), (135, .inl 7), (136, .inl 2), (192, .inr (.inr (2, [0, 196, 197, 198, 0, 199, 200, 201, 0, 202, 0, 203, 0, 0]))), (193, .inl 7), (194, .inl 7), (195, .inl 7), (196, .inl 7), (197, .inl 7), (198, .inl 7), (199, .inl 7), (200, .inl 2), (256, .inr (.inr (2, [0, 260, 261, 262, 0, 263, 264, 265, 0, 266, 0, 267, 0, 0]))), (257, .inl 7), (258, .inl 7), (259, .inl 7), (260, .inl 7), (261, .inl 7), (262, .inl 7), (263, .inl 7), (264, .inl 2), (320, .inr (.inr (2, [0, 1, 1, 1, 0, 1, 1, 1, 0, 1, 0, 1, 0, 0])))]
def SG_X5_17 : XSs := [(0, .inr (.inr (4, [4, 0, 0]))), (1, .inr (.inl [65, 129, 193, 257, 0, 0, 0, 0])), (64, .inr (.inr (2, [0, 68, 69, 70, 0, 71, 72, 73, 0, 74, 0, 75, 0, 0]))), (65, .inl 7), (66, .inl 7), (67, .inl 7), (68, .inl 7), (69, .inl 7), (70, .inl 7), (71, .inl 7), (72, .inl 2), (128, .inr (.inr (2, [0, 132, 133, 134, 0, 135, 136, 137, 0, 138, 0, 139, 0, 0]))), (129, .inl 7), (130, .inl 7), (131, .inl 7), (132, .inl 7), (133, .inl 7), (134, .inl 7), (135, .inl 7), (136, .inl 2), (192, .inr (.inr (2, [0, 196, 197, 198, 0, 199, 200, 201, 0, 202, 0, 203, 0, 0]))), (193, .inl 7), (194, .inl 7), (195, .inl 7), (196, .inl 7), (197, .inl 7), (198, .inl 7), (199, .inl 7), (200, .inl 2), (256, .inr (.inr (2, [0, 260, 261, 262, 0, 263, 264, 265, 0, 266, 0, 267, 0, 0]))), (257, .inl 7), (258, .inl 7), (259, .inl 7), (260, .inl 7), (261, .inl 7), (262, .inl 7), (263, .inl 7), (264, .inl 2), (320, .inr (.inr (2, [0, 324, 325, 326, 0, 327, 328, 329, 0, 330, 0, 331, 0, 0]))), (321, .inl 7), (322, .inl 7), (323, .inl 7), (324, .inl 7), (325, .inl 7), (326, .inl 7), (327, .inl 7), (328, .inl 2)]
def SG_X5_18 : XSs := [(0, .inr (.inr (4, [4, 0, 0]))), (1, .inr (.inl [65, 129, 193, 257, 321, 0, 0, 0])), (64, .inr (.inr (2, [0, 68, 69, 70, 0, 71, 72, 73, 0, 74, 0, 75, 0, 0]))), (65, .inl 7), (66, .inl 7), (67, .inl 7), (68, .inl 7), (69, .inl 7), (70, .inl 7), (71, .inl 7), (72, .inl 2), (128, .inr (.inr (2, [0, 132, 133, 134, 0, 135, 136, 137, 0, 138, 0, 139, 0, 0]))), (129, .inl 7), (130, .inl 7), (131, .inl 7), (132, .inl 7), (133, .inl 7), (134, .inl 7), (135, .inl 7), (136, .inl 2), (192, .inr (.inr (2, [0, 196, 197, 198, 0, 199, 200, 201, 0, 202, 0, 203, 0, 0]))), (193, .inl 7), (194, .inl 7), (195, .inl 7), (196, .inl 7), (197, .inl 7), (198, .inl 7), (199, .inl 7), (200, .inl 2), (256, .inr (.inr (2, [0, 260, 261, 262, 0, 263, 264, 265, 0, 266, 0, 267, 0, 0]))), (257, .inl 7), (258, .inl 7), (259, .inl 7), (260, .inl 7), (261, .inl 7), (262, .inl 7), (263, .inl 7), (264, .inl 2), (320, .inr (.inr (2, [0, 324, 325, 326, 0, 327, 328, 329, 0, 330, 0, 331, 0, 0]))), (321, .inl 7), (322, .inl 7), (323, .inl 7), (324, .inl 7), (325, .inl 7), (326, .inl 7), (327, .inl 7), (328, .inl 2)]
def SG_X5_19 : XSs := [(0, .inr (.inr (4, [4, 0, 0]))), (1, .inr (.inl [65, 129, 193, 257, 321, 0, 0, 0])), (64, .inr (.inr (2, [0, 68, 69, 70, 0, 71, 72, 73, 0, 74, 0, 75, 0, 0]))), (65, .inl 7), (66, .inl 7), (67, .inl 7), (68, .inl 7), (69, .inl 7), (70, .inl 7), (71, .inl 7), (72, .inl 2), (128, .inr (.inr (2, [0, 132, 133, 134, 0, 135, 136, 137, 0, 138, 0, 139, 0, 0]))), (129, .inl 7), (130, .inl 7), (131, .inl 7), (132, .inl 7), (133, .inl 7), (134, .inl 7), (135, .inl 7), (136, .inl 2), (192, .inr (.inr (2, [0, 196, 197, 198, 0, 199, 200, 201, 0, 202, 0, 203, 0, 0]))), (193, .inl 7), (194, .inl 7), (195, .inl 7), (196, .inl 7), (197, .inl 7), (198, .inl 7), (199, .inl 7), (200, .inl 2), (256, .inr (.inr (2, [0, 260, 261, 262, 0, 263, 264, 265, 0, 266, 0, 267, 0, 0]))), (257, .inl 7), (258, .inl 7), (259, .inl 7), (260, .inl 7), (261, .inl 7), (262, .inl 7), (263, .inl 7), (264, .inl 2), (320, .inr (.inr (2, [0, 324, 325, 326, 0, 327, 328, 329, 0, 330, 0, 331, 0, 0]))), (321, .inl 7), (322, .inl 7), (323, .inl 7), (324, .inl 7), (325, .inl 7), (326, .inl 7), (327, .inl 7), (328, .inl 2), (384, .inr (.inr (2, [0, 1, 1, 1, 0, 1, 1, 1, 0, 1, 0, 1, 0, 0])))]
def SG_X5_20 : XSs := [(0, .inr (.inr (4, [4, 0, 0]))), (1, .inr (.inl [65, 129, 193, 257, 321, 0, 0, 0])), (64, .inr (.inr (2, [0, 68, 69, 70, 0, 71, 72, 73, 0, 74, 0, 75, 0, 0]))), (65, .inl 7), (66, .inl 7), (67, .inl 7), (68, .inl 7), (69, .inl 7), (70, .inl 7), (71, .inl 7), (72, .inl 2), (128, .inr (.inr (2, [0, 132, 133, 134, 0, 135, 136, 137, 0, 138, 0, 139, 0, 0]))), (129, .inl 7), (130, .inl 7), (131, .inl 7), (132, .inl 7), (133, .inl 7), (134, .inl 7), (135, .inl 7), (136, .inl 2), (192, .inr (.inr (2, [0, 196, 197, 198, 0, 199, 200, 201, 0, 202, 0, 203, 0, 0]))), (193, .inl 7), (194, .inl 7), (195, .inl 7), (196, .inl 7), (197, .inl 7), (198, .inl 7), (199, .inl 7), (200, .inl 2), (256, .inr (.inr (2, [0, 260, 261, 262, 0, 263, 264, 265, 0, 266, 0, 267, 0, 0]))), (257, .inl 7), (258, .inl 7), (259, .inl 7), (260, .inl 7), (261, .inl 7), (262, .inl 7), (263, .inl 7), (264, .inl 2), (320, .inr (.inr (2, [0, 324, 325, 326, 0, 327, 328, 329, 0, 330, 0, 331, 0, 0]))), (321, .inl 7), (322, .inl 7), (323, .inl 7), (324, .inl 7), (325, .inl 7), (326, .inl 7), (327, .inl 7), (328, .inl 2), (384, .inr (.inr (2, [0, 388, 389, 390, 0, 391, 392, 393, 0, 394, 0, 395, 0, 0]))), (385, .inl 7), (386, .inl 7), (387, .inl 7), (388, .inl 7), (389, .inl 7), (390, .inl 7), (391, .inl 7), (392, .inl 2)]
def SG_X5_21 : XSs := [(0, .inr (.inr (4, [4, 0, 0]))), (1, .inr (.inl [65, 129, 193, 257, 321, 385, 0, 0])), (64, .inr (.inr (2, [0, 68, 69, 70, 0, 71, 72, 73, 0, 74, 0, 75, 0, 0]))), (65, .inl 7), (66, .inl 7), (67, .inl 7), (68, .inl 7), (69, .inl 7), (70, .inl 7), (71, .inl 7), (72, .inl 2), (128, .inr (.inr (2, [0, 132, 133, 134, 0, 135, 136, 137, 0, 138, 0, 139, 0, 0]))), (129, .inl 7), (130, .inl 7), (131, .inl 7), (132, .inl 7), (133, .inl 7), (134, .inl 7), (135, .inl 7), (136, .inl 2), (192, .inr (.inr (2, [0, 196, 197, 198, 0, 199, 200, 201, 0, 202, 0, 203, 0, 0]))), (193, .inl 7), (194, .inl 7), (195, .inl 7), (196, .inl 7), (197, .inl 7), (198, .inl 7), (199, .inl 7), (200, .inl 2), (256, .inr (.inr (2, [0, 260, 261, 262, 0, 263, 264, 265, 0, 266, 0, 267, 0, 0]))), (257, .inl 7), (258, .inl 7), (259, .inl 7), (260, .inl 7), (261, .inl 7), (262, .inl 7), (263, .inl 7), (264, .inl 2), (320, .inr (.inr (2, [0, 324, 325, 326, 0, 327, 328, 329, 0, 330, 0, 331, 0, 0]))), (321, .inl 7), (322, .inl 7), (323, .inl 7), (324, .inl 7), (325, .inl 7), (326, .inl 7), (327, .inl 7), (328, .inl 2), (384, .inr (.inr (2, [0, 388, 389, 390, 0, 391, 392, 393, 0, 394, 0, 395, 0, 0]))), (385, .inl 7), (386, .inl 7), (387, .inl 7), (388, .inl 7), (389, .inl 7), (390, .inl 7), (391, .inl 7), (392, .inl 2)]
def SG_X5_22 : XSs := [(0, .inr (.inr (4, [4, 0, 0]))), (1, .inr (.inl [65, 129, 193, 257, 321, 385, 0, 0])), (64, .inr (.inr (2, [0, 68, 69, 70, 0, 71, 72, 73, 0, 74, 0, 75, 0, 0]))), (65, .inl 7), (66, .inl 7), (67, .inl 7), (68, .inl 7), (69, .inl 7), (70, .inl 7), (71, .inl 7), (72, .inl 2), (128, .inr (.inr (2, [0, 132, 133, 134, 0, 135, 136, 137, 0, 138, 0, 139, 0, 0]))), (129, .inl 7), (130, .inl 7), (131, .inl 7), (132, .inl 7), (133, .inl 7), (134, .inl 7), (135, .inl 7), (136, .inl 2), (192, .inr (.inr (2, [0, 196, 197, 198, 0, 199, 200, 201, 0, 202, 0, 203, 0, 0]))), (193, .inl 7), (194, .inl 7), (195, .inl 7), (196, .inl 7), (197, .inl 7), (198, .inl 7), (199, .inl 7), (200, .inl 2), (256, .inr (.inr (2, [0, 260, 261, 262, 0, 263, 264, 265, 0, 266, 0, 267, 0, 0]))), (257, .inl 7), (258, .inl 7), (259, .inl 7), (260, .inl 7), (261, .inl 7), (262, .inl 7), (263, .inl 7), (264, .inl 2), (320, .inr (.inr (2, [0, 324, 325, 326, 0, 327, 328, 329, 0, 330, 0, 331, 0, 0]))), (321, .inl 7), (322, .inl 7), (323, .inl 7), (324, .inl 7), (325, .inl 7), (326, .inl 7), (327, .inl 7), (328, .inl 2), (384, .inr (.inr (2, [0, 388, 389, 390, 0, 391, 392, 393, 0, 394, 0, 395, 0, 0]))), (385, .inl 7), (386, .inl 7), (387, .inl 7), (388, .inl 7), (389, .inl 7), (390, .inl 7), (391, .inl 7), (392, .inl 2), (448, .inr (.inr (2, [0, 1, 1, 1, 0, 1, 1, 1, 0, 1, 0, 1, 0, 0])))]
def SG_X5_23 : XSs := [(0, .inr (.inr (4, [4, 0, 0]))), (1, .inr (.inl [65, 129, 193, 257, 321, 385, 0, 0])), (64, .inr (.inr (2, [0, 68, 69, 70, 0, 71, 72, 73, 0, 74, 0, 75, 0, 0]))), (65, .inl 7), (66, .inl 7), (67, .inl 7), (68, .inl 7), (69, .inl 7), (70, .inl 7), (71, .inl 7), (72, .inl 2), (128, .inr (.inr (2, [0, 132, 133, 134, 0, 135, 136, 137, 0, 138, 0, 139, 0, 0]))), (129, .inl 7), (130, .inl 7), (131, .inl 7), (132, .inl 7), (133, .inl 7), (134, .inl 7), (135, .inl 7), (136, .inl 2), (192, .inr (.inr (2, [0, 196, 197, 198, 0, 199, 200, 201, 0, 202, 0, 203, 0, 0]))), (193, .inl 7), (194, .inl 7), (195, .inl 7), (196, .inl 7), (197, .inl 7), (198, .inl 7), (199, .inl 7), (200, .inl 2), (256, .inr (.inr (2, [0, 260, 261, 262, 0, 263, 264, 265, 0, 266, 0, 267, 0, 0]))), (257, .inl 7), (258, .inl 7), (259, .inl 7), (260, .inl 7), (261, .inl 7), (262, .inl 7), (263, .inl 7), (264, .inl 2), (320, .inr (.inr (2, [0, 324, 325, 326, 0, 327, 328, 329, 0, 330, 0, 331, 0, 0]))), (321, .inl 7), (322, .inl 7), (323, .inl 7), (324, .inl 7), (325, .inl 7), (326, .inl 7), (327, .inl 7), (328, .inl 2), (384, .inr (.inr (2, [0, 388, 389, 390, 0, 391, 392, 393, 0, 394, 0, 395, 0, 0]))), (385, .inl 7), (386, .inl 7), (387, .inl 7), (388, .inl 7), (389, .inl 7), (390, .inl 7), (391, .inl 7), (392, .inl 2), (448, .inr (.inr (2, [0, 452, 453, 454, 0, 455, 456, 457, 0, 458, 0, 459, 0, 0]))), (449, .inl 7), (450, .inl 7), (451, .inl 7), (452, .inl 7), (453, .inl 7), (454, .inl 7), (455, .inl 7), (456, .inl 2)]
def SG_X5_24 : XSs := [(0, .inr (.inr (4, [4, 0, 0]))), (1, .inr (.inl [65, 129, 193, 257, 321, 385, 449, 0])), (64, .inr (.inr (2, [0, 68, 69, 70, 0, 71, 72, 73, 0, 74, 0, 75, 0, 0]))), (65, .inl 7), (66, .inl 7), (67, .inl 7), (68, .inl 7), (69, .inl 7), (70, .inl 7), (71, .inl 7), (72, .inl 2), (128, .inr (.inr (2, [0, 132, 133, 134, 0, 135, 136, 137, 0, 138, 0, 139, 0, 0]))), (129, .inl 7), (130, .inl 7), (131, .inl 7), (132, .inl 7), (133, .inl 7), (134, .inl 7), (135, .inl 7), (136, .inl 2), (192, .inr (.inr (2, [0, 196, 197, 198, 0, 199, 200, 201, 0, 202, 0, 203, 0, 0]))), (193, .inl 7), (194, .inl 7), (195, .inl 7), (196, .inl 7), (197, .inl 7), (198, .inl 7), (199, .inl 7), (200, .inl 2), (256, .inr (.inr (2, [0, 260, 261, 262, 0, 263, 264, 265, 0, 266, 0, 267, 0, 0]))), (257, .inl 7), (258, .inl 7), (259, .inl 7), (260, .inl 7), (261, .inl 7), (262, .inl 7), (263, .inl 7), (264, .inl 2), (320, .inr (.inr (2, [0, 324, 325, 326, 0, 327, 328, 329, 0, 330, 0, 331, 0, 0]))), (321, .inl 7), (322, .inl 7), (323, .inl 7), (324, .inl 7), (325, .inl 7), (326, .inl 7), (327, .inl 7), (328, .inl 2), (384, .inr (.inr (2, [0, 388, 389, 390, 0, 391, 392, 393, 0, 394, 0, 395, 0, 0]))), (385, .inl 7), (386, .inl 7), (387, .inl 7), (388, .inl 7), (389, .inl 7), (390, .inl 7), (391, .inl 7), (392, .inl 2), (448, .inr (.inr (2, [0, 452, 453, 454, 0, 455, 456, 457, 0, 458, 0, 459, 0, 0]))), (449, .inl 7), (450, .inl 7), (451, .inl 7), (452, .inl 7), (453, .inl 7), (454, .inl 7), (455, .inl 7), (456, .inl 2)]
def SG_X5_25 : XSs := [(0, .inr (.inr (4, [4, 0, 0]))), (1, .inr (.inl [65, 129, 193, 257, 321, 385, 449, 0])), (64, .inr (.inr (2, [0, 68, 69, 70, 0, 71, 72, 73, 0, 74, 0, 75, 0, 0]))), (65, .inl 7), (66, .inl 7), (67, .inl 7), (68, .inl 7), (69, .inl 7), (70, .inl 7), (71, .inl 7), (72, .inl 2), (128, .inr (.inr (2, [0, 132, 133, 134, 0, 135, 136, 137, 0, 138, 0, 139, 0, 0]))), (129, .inl 7), (130, .inl 7), (131, .inl 7), (132, .inl 7), (133, .inl 7), (134, .inl 7), (135, .inl 7), (136, .inl 2), (192, .inr (.inr (2, [0, 196, 197, 198, 0, 199, 200, 201, 0, 202, 0, 203, 0, 0]))), (193, .inl 7), (194, .inl 7), (195, .inl 7), (196, .inl 7), (197, .inl 7), (198, .inl 7), (199, .inl 7), (200, .inl 2), (256, .inr (.inr (2, [0, 260, 261, 262, 0, 263, 264, 265, 0, 266, 0, 267, 0, 0]))), (257, .inl 7), (258, .inl 7), (259, .inl 7), (260, .inl 7), (261, .inl 7), (262, .inl 7), (263, .inl 7), (264, .inl 2), (320, .inr (.inr (2, [0, 324, 325, 326, 0, 327, 328, 329, 0, 330, 0, 331, 0, 0]))), (321, .inl 7), (322, .inl 7), (323, .inl 7), (324, .inl 7), (325, .inl 7), (326, .inl 7), (327, .inl 7), (328, .inl 2), (384, .inr (.inr (2, [0, 388, 389, 390, 0, 391, 392, 393, 0, 394, 0, 395, 0, 0]))), (385, .inl 7), (386, .inl 7), (387, .inl 7), (388, .inl 7), (389, .inl 7), (390, .inl 7), (391, .inl 7), (392, .inl 2), (448, .inr (.inr (2, [0, 452, 453, 454, 0, 455, 456, 457, 0, 458, 0, 459, 0, 0]))), (449, .inl 7), (450, .inl 7), (451, .inl 7), (452, .inl 7), (453, .inl 7), (454, .inl 7), (455, .inl 7), (456, .inl 2), (512, .inr (.inr (2, [0, 1, 1, 1, 0, 1, 1, 1, 0, 1, 0, 1, 0, 0])))]
def SG_X5_26 : XSs := [(0, .inr (.inr (4, [4, 0, 0]))), (1, .inr (.inl [65, 129, 193, 257, 321, 385, 449, 0])), (64, .inr (.inr (2, [0, 68, 69, 70, 0, 71, 72, 73, 0, 74, 0, 75, 0, 0]))), (65, .inl 7), (66, .inl 7), (67, .inl 7), (68, .inl 7), (69, .inl 7), (70, .inl 7), (71, .inl 7), (72, .inl 2), (128, .inr (.inr (2, [0, 132, 133, 134, 0, 135, 136, 137, 0, 138, 0, 139, 0, 0]))), (129, .inl 7), (130, .inl 7), (131, .inl 7), (132, .inl 7), (133, .inl 7), (134, .inl 7), (135, .inl 7), (136, .inl 2), (192, .inr (.inr (2, [0, 196, 197, 198, 0, 199, 200, 201, 0, 202, 0, 203, 0, 0]))), (193, .inl 7), (194, .inl 7), (195, .inl 7), (196, .inl 7), (197, .inl 7), (198, .inl 7), (199, .inl 7), (200, .inl 2), (256, .inr (.inr (2, [0, 260, 261, 262, 0, 263, 264, 265, 0, 266, 0, 267, 0, 0]))), (257, .inl 7), (258, .inl 7), (259, .inl 7), (260, .inl 7), (261, .inl 7), (262, .inl 7), (263, .inl 7), (264, .inl 2), (320, .inr (.inr (2, [0, 324, 325, 326, 0, 327, 328, 329, 0, 330, 0, 331, 0, 0]))), (321, .inl 7), (322, .inl 7), (323, .inl 7), (324, .inl 7), (325, .inl 7), (326, .inl 7), (327, .inl 7), (328, .inl 2), (384, .inr (.inr (2, [0, 388, 389, 390, 0, 391, 392, 393, 0, 394, 0, 395, 0, 0]))), (385, .inl 7), (386, .inl 7), (387, .inl 7), (388, .inl 7), (389, .inl 7), (390, .inl 7), (391, .inl 7), (392, .inl 2), (448, .inr (.inr (2, [0, 452, 453, 454, 0, 455, 456, 457, 0, 458, 0, 459, 0, 0]))), (449, .inl 7), (450, .inl 7), (451, .inl 7), (452, .inl 7), (453, .inl 7), (454, .inl 7), (455, .inl 7), (456, .inl 2), (512, .inr (.inr (2, [0, 516, 517, 518, 0, 519, 520, 521, 0, 522, 0, 523, 0, 0]))), (513, .inl 7), (514, .inl 7), (515, .inl 7), (516, .inl 7), (517, .inl 7), (518, .inl 7), (519, .inl 7), (520, .inl 2)]
def SG_X5_27 : XSs := [(0, .inr (.inr (4, [4, 0, 0]))), (1, .inr (.inl [65, 129, 193, 257, 321, 385, 449, 513])), (64, .inr (.inr (2, [0, 68, 69, 70, 0, 71, 72, 73, 0, 74, 0, 75, 0, 0]))), (65, .inl 7), (66, .inl 7), (67, .inl 7), (68, .inl 7), (69, .inl 7), (70, .inl 7), (71, .inl 7), (72, .inl 2), (128, .inr (.inr (2, [0, 132, 133, 134, 0, 135, 136, 137, 0, 138, 0, 139, 0, 0]))), (129, .inl 7), (130, .inl 7), (131, .inl 7), (132, .inl 7), (133, .inl 7), (134, .inl 7), (135, .inl 7), (136, .inl 2), (192, .inr (.inr (2, [0, 196, 197, 198, 0, 199, 200, 201, 0, 202, 0, 203, 0, 0]))), (193, .inl 7), (194, .inl 7), (195, .inl 7), (196, .inl 7), (197, .inl 7), (198, .inl 7), (199, .inl 7), (200, .inl 2), (256, .inr (.inr (2, [0, 260, 261, 262, 0, 263, 264, 265, 0, 266, 0, 267, 0, 0]))), (257, .inl 7), (258, .inl 7), (259, .inl 7), (260, .inl 7), (261, .inl 7), (262, .inl 7), (263, .inl 7), (264, .inl 2), (320, .inr (.inr (2, [0, 324, 325, 326, 0, 327, 328, 329, 0, 330, 0, 331, 0, 0]))), (321, .inl 7), (322, .inl 7), (323, .inl 7), (324, .inl 7), (325, .inl 7), (326, .inl 7), (327, .inl 7), (328, .inl 2), (384, .inr (.inr (2, [0, 388, 389, 390, 0, 391, 392, 393, 0, 394, 0, 395, 0, 0]))), (385, .inl 7), (386, .inl 7), (387, .inl 7), (388, .inl 7), (389, .inl 7), (390, .inl 7), (391, .inl 7), (392, .inl 2), (448, .inr (.inr (2, [0, 452, 453, 454, 0, 455, 456, 457, 0, 458, 0, 459, 0, 0]))), (449, .inl 7), (450, .inl 7), (451, .inl 7), (452, .inl 7), (453, .inl 7), (454, .inl 7), (455, .inl 7), (456, .inl 2), (512, .inr (.inr (2, [0, 516, 517, 518, 0, 519, 520, 521, 0, 522, 0, 523, 0, 0]))), (513, .inl 7), (514, .inl 7), (515, .inl 7), (516, .inl 7), (517, .inl 7), (518, .inl 7), (519, .inl 7), (520, .inl 2)]
set_option maxRecDepth 100000 in
theorem xs_X5_init_38 (B : XB) (hN : XNb B) : XE B M_X5_init (XQm B 73 528 SI_X5) 50 [(0, some (.ref 0)), (1, some (.int 8))] [] (73, 528) SG_X5_27 [(xs (xs z_ 0 1 0) 0 2 0), MI_X2_0, MI_X2_0, MI_X2_0, MI_X2_0, MI_X2_0, MI_X2_0, MI_X2_0, MI_X2_0] (fun _ : Unit => some (none, MI_X5)) (some ()) := by
  exact XE_cvret (shsF := SI_X5) (mr := MI_X5) (x_sse_eq (by decide +kernel)) rfl ⟨Nat.le_refl _, Nat.le_refl _⟩ rfl dX5_init_50 rfl
set_option maxRecDepth 100000 in
theorem xs_X5_init_37 (B : XB) (hN : XNb B) : XE B M_X5_init (XQm B 73 528 SI_X5) 25 [(0, some (.ref 0)), (1, some (.int 8))] [] (73, 528) SG_X5_27 [(xs (xs z_ 0 1 0) 0 2 0), MI_X2_0, MI_X2_0, MI_X2_0, MI_X2_0, MI_X2_0, MI_X2_0, MI_X2_0, MI_X2_0] (fun _ : Unit => some (none, MI_X5)) (some ()) := by
  refine XE_iload_n (n := 26) dX5_init_25 rfl rfl rfl ?_
  refine XE_bipush (v := 8) (n := 28) dX5_init_26 rfl (by decide) ?_
  refine XE_icmp_ge_T (t := 50) dX5_init_28 rfl (by decide) ?_
  exact xs_X5_init_38 B hN
set_option maxRecDepth 100000 in
theorem xs_X5_init_36 (B : XB) (hN : XNb B) : XE B M_X5_init (XQm B 73 528 SI_X5) 47 [(0, some (.ref 0)), (1, some (.int 8))] [] (73, 528) SG_X5_27 [(xs (xs z_ 0 1 0) 0 2 0), MI_X2_0, MI_X2_0, MI_X2_0, MI_X2_0, MI_X2_0, MI_X2_0, MI_X2_0, MI_X2_0] (fun _ : Unit => some (none, MI_X5)) (some ()) := by
  refine XE_goto (n := 25) dX5_init_47 rfl ?_
  exact xs_X5_init_37 B hN
set_option maxRecDepth 100000 in
theorem xs_X5_init_35 (B : XB) (hN : XNb B) : XE B M_X5_init (XQm B 73 528 SI_X5) 44 [(0, some (.ref 0)), (1, some (.int 7))] [] (73, 528) SG_X5_27 [(xs (xs z_ 0 1 0) 0 2 0), MI_X2_0, MI_X2_0, MI_X2_0, MI_X2_0, MI_X2_0, MI_X2_0, MI_X2_0, MI_X2_0] (fun _ : Unit => some (none, MI_X5)) (some ()) := by
  refine XE_iinc (v := 8) (n := 47) dX5_init_44 rfl rfl (by decide) (Nat.le_of_ble_eq_true rfl) rfl ?_
  refine XE_ls (x_sub_ok (ls' := [(0, some (.ref 0)), (1, some (.int 8))]) ⟨rfl, rfl, trivial⟩) ?_
  exact xs_X5_init_36 B hN
set_option maxRecDepth 100000 in
theorem xs_X5_init_34 (B : XB) (hN : XNb B) : XE B M_X5_init (XQm B 73 528 SI_X5) 31 [(0, some (.ref 0)), (1, some (.int 7))] [] (64, 463) SG_X5_24 [(xs (xs z_ 0 1 0) 0 2 0), MI_X2_0, MI_X2_0, MI_X2_0, MI_X2_0, MI_X2_0, MI_X2_0, MI_X2_0] (fun _ : Unit => some (none, MI_X5)) (some ()) := by
  refine XE_aload_n (n := 32) dX5_init_31 rfl rfl rfl ?_
  refine XE_getr (b := 1) (κs := [4, 0, 0]) (n := 35) xf_X5_11 (x_lkb_eq (by decide +kernel)) rfl dX5_init_32 rfl ?_
  refine XE_iload_n (n := 36) dX5_init_35 rfl rfl rfl ?_
  refine XE_new (key := 512) (shs2 := SG_X5_25) (hs2 := [(xs (xs z_ 0 1 0) 0 2 0), MI_X2_0, MI_X2_0, MI_X2_0, MI_X2_0, MI_X2_0, MI_X2_0, MI_X2_0, z_]) xn_X5_9 (by decide +kernel) (by decide +kernel) ⟨Nat.le_of_ble_eq_true rfl, Nat.le_of_ble_eq_true rfl⟩ (x_sse_eq (by decide +kernel)) rfl rfl (by decide +kernel) (by decide +kernel) dX5_init_36 rfl ?_
  refine XE_dup (n := 40) dX5_init_39 rfl rfl ?_
  refine XE_callN (π := [8]) (π2 := [8]) (co := [0, 1, 2, 3, 4, 5, 6, 7]) (cv := [(xs (xs z_ 0 1 0) 0 2 0), MI_X2_0, MI_X2_0, MI_X2_0, MI_X2_0, MI_X2_0, MI_X2_0, MI_X2_0]) (KF := [512, 513, 514, 515, 516, 517, 518, 519, 520]) (NK := [513, 514, 515, 516, 517, 518, 519, 520]) (d := 1) (mc := 8) (ms := 51) (shsF := SI_X2) (mr := MI_X2) (shs2 := SG_X5_26) (hs2 := [(xs (xs z_ 0 1 0) 0 2 0), MI_X2_0, MI_X2_0, MI_X2_0, MI_X2_0, MI_X2_0, MI_X2_0, MI_X2_0, MI_X2_0]) (c1 := 73) (s1 := 528) xi_X5_22 hN met_X2_init rfl dX5_init_40 (Nat.le_of_ble_eq_true rfl) ⟨Nat.le_of_ble_eq_true rfl, Nat.le_of_ble_eq_true rfl⟩ (Nat.le_of_ble_eq_true rfl) (Nat.le_of_ble_eq_true rfl) (by decide +kernel) (by decide +kernel) (by decide +kernel) (by decide +kernel) rfl rfl rfl rfl rfl rfl (n := 43) rfl ?_
  refine XE_aast (i := 1) (j0 := 65) (jn := 7) (ks := [65, 129, 193, 257, 321, 385, 449, 0]) (κs := [0, 516, 517, 518, 0, 519, 520, 521, 0, 522, 0, 523, 0, 0]) (shs2 := SG_X5_27) (x_atb_eq (by decide +kernel)) (x_atb_eq (by decide +kernel)) rfl (by decide) (by decide) (x_sse_eq (by decide +kernel)) dX5_init_43 (n := 44) rfl ?_
  exact xs_X5_init_35 B hN
set_option maxRecDepth 100000 in
theorem xs_X5_init_33 (B : XB) (hN : XNb B) : XE B M_X5_init (XQm B 73 528 SI_X5) 25 [(0, some (.ref 0)), (1, some (.int 7))] [] (64, 463) SG_X5_24 [(xs (xs z_ 0 1 0) 0 2 0), MI_X2_0, MI_X2_0, MI_X2_0, MI_X2_0, MI_X2_0, MI_X2_0, MI_X2_0] (fun _ : Unit => some (none, MI_X5)) (some ()) := by
  refine XE_iload_n (n := 26) dX5_init_25 rfl rfl rfl ?_
  refine XE_bipush (v := 8) (n := 28) dX5_init_26 rfl (by decide) ?_
  refine XE_icmp_ge_F (t := 50) (n := 31) dX5_init_28 rfl rfl (by decide) ?_
  exact xs_X5_init_34 B hN
set_option maxRecDepth 100000 in
theorem xs_X5_init_32 (B : XB) (hN : XNb B) : XE B M_X5_init (XQm B 73 528 SI_X5) 47 [(0, some (.ref 0)), (1, some (.int 7))] [] (64, 463) SG_X5_24 [(xs (xs z_ 0 1 0) 0 2 0), MI_X2_0, MI_X2_0, MI_X2_0, MI_X2_0, MI_X2_0, MI_X2_0, MI_X2_0] (fun _ : Unit => some (none, MI_X5)) (some ()) := by
  refine XE_goto (n := 25) dX5_init_47 rfl ?_
  exact xs_X5_init_33 B hN
set_option maxRecDepth 100000 in
theorem xs_X5_init_31 (B : XB) (hN : XNb B) : XE B M_X5_init (XQm B 73 528 SI_X5) 44 [(0, some (.ref 0)), (1, some (.int 6))] [] (64, 463) SG_X5_24 [(xs (xs z_ 0 1 0) 0 2 0), MI_X2_0, MI_X2_0, MI_X2_0, MI_X2_0, MI_X2_0, MI_X2_0, MI_X2_0] (fun _ : Unit => some (none, MI_X5)) (some ()) := by
  refine XE_iinc (v := 7) (n := 47) dX5_init_44 rfl rfl (by decide) (Nat.le_of_ble_eq_true rfl) rfl ?_
  refine XE_ls (x_sub_ok (ls' := [(0, some (.ref 0)), (1, some (.int 7))]) ⟨rfl, rfl, trivial⟩) ?_
  exact xs_X5_init_32 B hN
set_option maxRecDepth 100000 in
theorem xs_X5_init_30 (B : XB) (hN : XNb B) : XE B M_X5_init (XQm B 73 528 SI_X5) 31 [(0, some (.ref 0)), (1, some (.int 6))] [] (55, 398) SG_X5_21 [(xs (xs z_ 0 1 0) 0 2 0), MI_X2_0, MI_X2_0, MI_X2_0, MI_X2_0, MI_X2_0, MI_X2_0] (fun _ : Unit => some (none, MI_X5)) (some ()) := by
  refine XE_aload_n (n := 32) dX5_init_31 rfl rfl rfl ?_
  refine XE_getr (b := 1) (κs := [4, 0, 0]) (n := 35) xf_X5_11 (x_lkb_eq (by decide +kernel)) rfl dX5_init_32 rfl ?_
  refine XE_iload_n (n := 36) dX5_init_35 rfl rfl rfl ?_
  refine XE_new (key := 448) (shs2 := SG_X5_22) (hs2 := [(xs (xs z_ 0 1 0) 0 2 0), MI_X2_0, MI_X2_0, MI_X2_0, MI_X2_0, MI_X2_0, MI_X2_0, z_]) xn_X5_9 (by decide +kernel) (by decide +kernel) ⟨Nat.le_of_ble_eq_true rfl, Nat.le_of_ble_eq_true rfl⟩ (x_sse_eq (by decide +kernel)) rfl rfl (by decide +kernel) (by decide +kernel) dX5_init_36 rfl ?_
  refine XE_dup (n := 40) dX5_init_39 rfl rfl ?_
  refine XE_callN (π := [7]) (π2 := [7]) (co := [0, 1, 2, 3, 4, 5, 6]) (cv := [(xs (xs z_ 0 1 0) 0 2 0), MI_X2_0, MI_X2_0, MI_X2_0, MI_X2_0, MI_X2_0, MI_X2_0]) (KF := [448, 449, 450, 451, 452, 453, 454, 455, 456]) (NK := [449, 450, 451, 452, 453, 454, 455, 456]) (d := 1) (mc := 8) (ms := 51) (shsF := SI_X2) (mr := MI_X2) (shs2 := SG_X5_23) (hs2 := [(xs (xs z_ 0 1 0) 0 2 0), MI_X2_0, MI_X2_0, MI_X2_0, MI_X2_0, MI_X2_0, MI_X2_0, MI_X2_0]) (c1 := 64) (s1 := 463) xi_X5_22 hN met_X2_init rfl dX5_init_40 (Nat.le_of_ble_eq_true rfl) ⟨Nat.le_of_ble_eq_true rfl, Nat.le_of_ble_eq_true rfl⟩ (Nat.le_of_ble_eq_true rfl) (Nat.le_of_ble_eq_true rfl) (by decide +kernel) (by decide +kernel) (by decide +kernel) (by decide +kernel) rfl rfl rfl rfl rfl rfl (n := 43) rfl ?_
  refine XE_aast (i := 1) (j0 := 56) (jn := 6) (ks := [65, 129, 193, 257, 321, 385, 0, 0]) (κs := [0, 452, 453, 454, 0, 455, 456, 457, 0, 458, 0, 459, 0, 0]) (shs2 := SG_X5_24) (x_atb_eq (by decide +kernel)) (x_atb_eq (by decide +kernel)) rfl (by decide) (by decide) (x_sse_eq (by decide +kernel)) dX5_init_43 (n := 44) rfl ?_
  exact xs_X5_init_31 B hN
set_option maxRecDepth 100000 in
theorem xs_X5_init_29 (B : XB) (hN : XNb B) : XE B M_X5_init (XQm B 73 528 SI_X5) 25 [(0, some (.ref 0)), (1, some (.int 6))] [] (55, 398) SG_X5_21 [(xs (xs z_ 0 1 0) 0 2 0), MI_X2_0, MI_X2_0, MI_X2_0, MI_X2_0, MI_X2_0, MI_X2_0] (fun _ : Unit => some (none, MI_X5)) (some ()) := by
  refine XE_iload_n (n := 26) dX5_init_25 rfl rfl rfl ?_
  refine XE_bipush (v := 8) (n := 28) dX5_init_26 rfl (by decide) ?_
  refine XE_icmp_ge_F (t := 50) (n := 31) dX5_init_28 rfl rfl (by decide) ?_
  exact xs_X5_init_30 B hN
set_option maxRecDepth 100000 in
theorem xs_X5_init_28 (B : XB) (hN : XNb B) : XE B M_X5_init (XQm B 73 528 SI_X5) 47 [(0, some (.ref 0)), (1, some (.int 6))] [] (55, 398) SG_X5_21 [(xs (xs z_ 0 1 0) 0 2 0), MI_X2_0, MI_X2_0, MI_X2_0, MI_X2_0, MI_X2_0, MI_X2_0] (fun _ : Unit => some (none, MI_X5)) (some ()) := by
  refine XE_goto (n := 25) dX5_init_47 rfl ?_
  exact xs_X5_init_29 B hN
set_option maxRecDepth 100000 in
theorem xs_X5_init_27 (B : XB) (hN : XNb B) : XE B M_X5_init (XQm B 73 528 SI_X5) 44 [(0, some (.ref 0)), (1, some (.int 5))] [] (55, 398) SG_X5_21 [(xs (xs z_ 0 1 0) 0 2 0), MI_X2_0, MI_X2_0, MI_X2_0, MI_X2_0, MI_X2_0, MI_X2_0] (fun _ : Unit => some (none, MI_X5)) (some ()) := by
  refine XE_iinc (v := 6) (n := 47) dX5_init_44 rfl rfl (by decide) (Nat.le_of_ble_eq_true rfl) rfl ?_
  refine XE_ls (x_sub_ok (ls' := [(0, some (.ref 0)), (1, some (.int 6))]) ⟨rfl, rfl, trivial⟩) ?_
  exact xs_X5_init_28 B hN
set_option maxRecDepth 100000 in
theorem xs_X5_init_26 (B : XB) (hN : XNb B) : XE B M_X5_init (XQm B 73 528 SI_X5) 31 [(0, some (.ref 0)), (1, some (.int 5))] [] (46, 333) SG_X5_18 [(xs (xs z_ 0 1 0) 0 2 0), MI_X2_0, MI_X2_0, MI_X2_0, MI_X2_0, MI_X2_0] (fun _ : Unit => some (none, MI_X5)) (some ()) := by
  refine XE_aload_n (n := 32) dX5_init_31 rfl rfl rfl ?_
  refine XE_getr (b := 1) (κs := [4, 0, 0]) (n := 35) xf_X5_11 (x_lkb_eq (by decide +kernel)) rfl dX5_init_32 rfl ?_
  refine XE_iload_n (n := 36) dX5_init_35 rfl rfl rfl ?_
  refine XE_new (key := 384) (shs2 := SG_X5_19) (hs2 := [(xs (xs z_ 0 1 0) 0 2 0), MI_X2_0, MI_X2_0, MI_X2_0, MI_X2_0, MI_X2_0, z_]) xn_X5_9 (by decide +kernel) (by decide +kernel) ⟨Nat.le_of_ble_eq_true rfl, Nat.le_of_ble_eq_true rfl⟩ (x_sse_eq (by decide +kernel)) rfl rfl (by decide +kernel) (by decide +kernel) dX5_init_36 rfl ?_
  refine XE_dup (n := 40) dX5_init_39 rfl rfl ?_
  refine XE_callN (π := [6]) (π2 := [6]) (co := [0, 1, 2, 3, 4, 5]) (cv := [(xs (xs z_ 0 1 0) 0 2 0), MI_X2_0, MI_X2_0, MI_X2_0, MI_X2_0, MI_X2_0]) (KF := [384, 385, 386, 387, 388, 389, 390, 391, 392]) (NK := [385, 386, 387, 388, 389, 390, 391, 392]) (d := 1) (mc := 8) (ms := 51) (shsF := SI_X2) (mr := MI_X2) (shs2 := SG_X5_20) (hs2 := [(xs (xs z_ 0 1 0) 0 2 0), MI_X2_0, MI_X2_0, MI_X2_0, MI_X2_0, MI_X2_0, MI_X2_0]) (c1 := 55) (s1 := 398) xi_X5_22 hN met_X2_init rfl dX5_init_40 (Nat.le_of_ble_eq_true rfl) ⟨Nat.le_of_ble_eq_true rfl, Nat.le_of_ble_eq_true rfl⟩ (Nat.le_of_ble_eq_true rfl) (Nat.le_of_ble_eq_true rfl) (by decide +kernel) (by decide +kernel) (by decide +kernel) (by decide +kernel) rfl rfl rfl rfl rfl rfl (n := 43) rfl ?_
  refine XE_aast (i := 1) (j0 := 47) (jn := 5) (ks := [65, 129, 193, 257, 321, 0, 0, 0]) (κs := [0, 388, 389, 390, 0, 391, 392, 393, 0, 394, 0, 395, 0, 0]) (shs2 := SG_X5_21) (x_atb_eq (by decide +kernel)) (x_atb_eq (by decide +kernel)) rfl (by decide) (by decide) (x_sse_eq (by decide +kernel)) dX5_init_43 (n := 44) rfl ?_
  exact xs_X5_init_27 B hN
set_option maxRecDepth 100000 in
theorem xs_X5_init_25 (B : XB) (hN : XNb B) : XE B M_X5_init (XQm B 73 528 SI_X5) 25 [(0, some (.ref 0)), (1, some (.int 5))] [] (46, 333) SG_X5_18 [(xs (xs z_ 0 1 0) 0 2 0), MI_X2_0, MI_X2_0, MI_X2_0, MI_X2_0, MI_X2_0] (fun _ : Unit => some (none, MI_X5)) (some ()) := by
  refine XE_iload_n (n := 26) dX5_init_25 rfl rfl rfl ?_
  refine XE_bipush (v := 8) (n := 28) dX5_init_26 rfl (by decide) ?_
  refine XE_icmp_ge_F (t := 50) (n := 31) dX5_init_28 rfl rfl (by decide) ?_
  exact xs_X5_init_26 B hN
set_option maxRecDepth 100000 in
theorem xs_X5_init_24 (B : XB) (hN : XNb B) : XE B M_X5_init (XQm B 73 528 SI_X5) 47 [(0, some (.ref 0)), (1, some (.int 5))] [] (46, 333) SG_X5_18 [(xs (xs z_ 0 1 0) 0 2 0), MI_X2_0, MI_X2_0, MI_X2_0, MI_X2_0, MI_X2_0] (fun _ : Unit => some (none, MI_X5)) (some ()) := by
  refine XE_goto (n := 25) dX5_init_47 rfl ?_
  exact xs_X5_init_25 B hN
set_option maxRecDepth 100000 in
theorem xs_X5_init_23 (B : XB) (hN : XNb B) : XE B M_X5_init (XQm B 73 528 SI_X5) 44 [(0, some (.ref 0)), (1, some (.int 4))] [] (46, 333) SG_X5_18 [(xs (xs z_ 0 1 0) 0 2 0), MI_X2_0, MI_X2_0, MI_X2_0, MI_X2_0, MI_X2_0] (fun _ : Unit => some (none, MI_X5)) (some ()) := by
  refine XE_iinc (v := 5) (n := 47) dX5_init_44 rfl rfl (by decide) (Nat.le_of_ble_eq_true rfl) rfl ?_
  refine XE_ls (x_sub_ok (ls' := [(0, some (.ref 0)), (1, some (.int 5))]) ⟨rfl, rfl, trivial⟩) ?_
  exact xs_X5_init_24 B hN
set_option maxRecDepth 100000 in
theorem xs_X5_init_22 (B : XB) (hN : XNb B) : XE B M_X5_init (XQm B 73 528 SI_X5) 31 [(0, some (.ref 0)), (1, some (.int 4))] [] (37, 268) SG_X5_15 [(xs (xs z_ 0 1 0) 0 2 0), MI_X2_0, MI_X2_0, MI_X2_0, MI_X2_0] (fun _ : Unit => some (none, MI_X5)) (some ()) := by
  refine XE_aload_n (n := 32) dX5_init_31 rfl rfl rfl ?_
  refine XE_getr (b := 1) (κs := [4, 0, 0]) (n := 35) xf_X5_11 (x_lkb_eq (by decide +kernel)) rfl dX5_init_32 rfl ?_
  refine XE_iload_n (n := 36) dX5_init_35 rfl rfl rfl ?_
  refine XE_new (key := 320) (shs2 := SG_X5_16) (hs2 := [(xs (xs z_ 0 1 0) 0 2 0), MI_X2_0, MI_X2_0, MI_X2_0, MI_X2_0, z_]) xn_X5_9 (by decide +kernel) (by decide +kernel) ⟨Nat.le_of_ble_eq_true rfl, Nat.le_of_ble_eq_true rfl⟩ (x_sse_eq (by decide +kernel)) rfl rfl (by decide +kernel) (by decide +kernel) dX5_init_36 rfl ?_
  refine XE_dup (n := 40) dX5_init_39 rfl rfl ?_
  refine XE_callN (π := [5]) (π2 := [5]) (co := [0, 1, 2, 3, 4]) (cv := [(xs (xs z_ 0 1 0) 0 2 0), MI_X2_0, MI_X2_0, MI_X2_0, MI_X2_0]) (KF := [320, 321, 322, 323, 324, 325, 326, 327, 328]) (NK := [321, 322, 323, 324, 325, 326, 327, 328]) (d := 1) (mc := 8) (ms := 51) (shsF := SI_X2) (mr := MI_X2) (shs2 := SG_X5_17) (hs2 := [(xs (xs z_ 0 1 0) 0 2 0), MI_X2_0, MI_X2_0, MI_X2_0, MI_X2_0, MI_X2_0]) (c1 := 46) (s1 := 333) xi_X5_22 hN met_X2_init rfl dX5_init_40 (Nat.le_of_ble_eq_true rfl) ⟨Nat.le_of_ble_eq_true rfl, Nat.le_of_ble_eq_true rfl⟩ (Nat.le_of_ble_eq_true rfl) (Nat.le_of_ble_eq_true rfl) (by decide +kernel) (by decide +kernel) (by decide +kernel) (by decide +kernel) rfl rfl rfl rfl rfl rfl (n := 43) rfl ?_
  refine XE_aast (i := 1) (j0 := 38) (jn := 4) (ks := [65, 129, 193, 257, 0, 0, 0, 0]) (κs := [0, 324, 325, 326, 0, 327, 328, 329, 0, 330, 0, 331, 0, 0]) (shs2 := SG_X5_18) (x_atb_eq (by decide +kernel)) (x_atb_eq (by decide +kernel)) rfl (by decide) (by decide) (x_sse_eq (by decide +kernel)) dX5_init_43 (n := 44) rfl ?_
  exact xs_X5_init_23 B hN
set_option maxRecDepth 100000 in
theorem xs_X5_init_21 (B : XB) (hN : XNb B) : XE B M_X5_init (XQm B 73 528 SI_X5) 25 [(0, some (.ref 0)), (1, some (.int 4))] [] (37, 268) SG_X5_15 [(xs (xs z_ 0 1 0) 0 2 0), MI_X2_0, MI_X2_0, MI_X2_0, MI_X2_0] (fun _ : Unit => some (none, MI_X5)) (some ()) := by
  refine XE_iload_n (n := 26) dX5_init_25 rfl rfl rfl ?_
  refine XE_bipush (v := 8) (n := 28) dX5_init_26 rfl (by decide) ?_
  refine XE_icmp_ge_F (t := 50) (n := 31) dX5_init_28 rfl rfl (by decide) ?_
  exact xs_X5_init_22 B hN
set_option maxRecDepth 100000 in
theorem xs_X5_init_20 (B : XB) (hN : XNb B) : XE B M_X5_init (XQm B 73 528 SI_X5) 47 [(0, some (.ref 0)), (1, some (.int 4))] [] (37, 268) SG_X5_15 [(xs (xs z_ 0 1 0) 0 2 0), MI_X2_0, MI_X2_0, MI_X2_0, MI_X2_0] (fun _ : Unit => some (none, MI_X5)) (some ()) := by
  refine XE_goto (n := 25) dX5_init_47 rfl ?_
  exact xs_X5_init_21 B hN
set_option maxRecDepth 100000 in
theorem xs_X5_init_19 (B : XB) (hN : XNb B) : XE B M_X5_init (XQm B 73 528 SI_X5) 44 [(0, some (.ref 0)), (1, some (.int 3))] [] (37, 268) SG_X5_15 [(xs (xs z_ 0 1 0) 0 2 0), MI_X2_0, MI_X2_0, MI_X2_0, MI_X2_0] (fun _ : Unit => some (none, MI_X5)) (some ()) := by
  refine XE_iinc (v := 4) (n := 47) dX5_init_44 rfl rfl (by decide) (Nat.le_of_ble_eq_true rfl) rfl ?_
  refine XE_ls (x_sub_ok (ls' := [(0, some (.ref 0)), (1, some (.int 4))]) ⟨rfl, rfl, trivial⟩) ?_
  exact xs_X5_init_20 B hN
set_option maxRecDepth 100000 in
theorem xs_X5_init_18 (B : XB) (hN : XNb B) : XE B M_X5_init (XQm B 73 528 SI_X5) 31 [(0, some (.ref 0)), (1, some (.int 3))] [] (28, 203) SG_X5_12 [(xs (xs z_ 0 1 0) 0 2 0), MI_X2_0, MI_X2_0, MI_X2_0] (fun _ : Unit => some (none, MI_X5)) (some ()) := by
  refine XE_aload_n (n := 32) dX5_init_31 rfl rfl rfl ?_
  refine XE_getr (b := 1) (κs := [4, 0, 0]) (n := 35) xf_X5_11 (x_lkb_eq (by decide +kernel)) rfl dX5_init_32 rfl ?_
  refine XE_iload_n (n := 36) dX5_init_35 rfl rfl rfl ?_
  refine XE_new (key := 256) (shs2 := SG_X5_13) (hs2 := [(xs (xs z_ 0 1 0) 0 2 0), MI_X2_0, MI_X2_0, MI_X2_0, z_]) xn_X5_9 (by decide +kernel) (by decide +kernel) ⟨Nat.le_of_ble_eq_true rfl, Nat.le_of_ble_eq_true rfl⟩ (x_sse_eq (by decide +kernel)) rfl rfl (by decide +kernel) (by decide +kernel) dX5_init_36 rfl ?_
  refine XE_dup (n := 40) dX5_init_39 rfl rfl ?_
  refine XE_callN (π := [4]) (π2 := [4]) (co := [0, 1, 2, 3]) (cv := [(xs (xs z_ 0 1 0) 0 2 0), MI_X2_0, MI_X2_0, MI_X2_0]) (KF := [256, 257, 258, 259, 260, 261, 262, 263, 264]) (NK := [257, 258, 259, 260, 261, 262, 263, 264]) (d := 1) (mc := 8) (ms := 51) (shsF := SI_X2) (mr := MI_X2) (shs2 := SG_X5_14) (hs2 := [(xs (xs z_ 0 1 0) 0 2 0), MI_X2_0, MI_X2_0, MI_X2_0, MI_X2_0]) (c1 := 37) (s1 := 268) xi_X5_22 hN met_X2_init rfl dX5_init_40 (Nat.le_of_ble_eq_true rfl) ⟨Nat.le_of_ble_eq_true rfl, Nat.le_of_ble_eq_true rfl⟩ (Nat.le_of_ble_eq_true rfl) (Nat.le_of_ble_eq_true rfl) (by decide +kernel) (by decide +kernel) (by decide +kernel) (by decide +kernel) rfl rfl rfl rfl rfl rfl (n := 43) rfl ?_
  refine XE_aast (i := 1) (j0 := 29) (jn := 3) (ks := [65, 129, 193, 0, 0, 0, 0, 0]) (κs := [0, 260, 261, 262, 0, 263, 264, 265, 0, 266, 0, 267, 0, 0]) (shs2 := SG_X5_15) (x_atb_eq (by decide +kernel)) (x_atb_eq (by decide +kernel)) rfl (by decide) (by decide) (x_sse_eq (by decide +kernel)) dX5_init_43 (n := 44) rfl ?_
  exact xs_X5_init_19 B hN
set_option maxRecDepth 100000 in
theorem xs_X5_init_17 (B : XB) (hN : XNb B) : XE B M_X5_init (XQm B 73 528 SI_X5) 25 [(0, some (.ref 0)), (1, some (.int 3))] [] (28, 203) SG_X5_12 [(xs (xs z_ 0 1 0) 0 2 0), MI_X2_0, MI_X2_0, MI_X2_0] (fun _ : Unit => some (none, MI_X5)) (some ()) := by
  refine XE_iload_n (n := 26) dX5_init_25 rfl rfl rfl ?_
  refine XE_bipush (v := 8) (n := 28) dX5_init_26 rfl (by decide) ?_
  refine XE_icmp_ge_F (t := 50) (n := 31) dX5_init_28 rfl rfl (by decide) ?_
  exact xs_X5_init_18 B hN
set_option maxRecDepth 100000 in
theorem xs_X5_init_16 (B : XB) (hN : XNb B) : XE B M_X5_init (XQm B 73 528 SI_X5) 47 [(0, some (.ref 0)), (1, some (.int 3))] [] (28, 203) SG_X5_12 [(xs (xs z_ 0 1 0) 0 2 0), MI_X2_0, MI_X2_0, MI_X2_0] (fun _ : Unit => some (none, MI_X5)) (some ()) := by
  refine XE_goto (n := 25) dX5_init_47 rfl ?_
  exact xs_X5_init_17 B hN
set_option maxRecDepth 100000 in
theorem xs_X5_init_15 (B : XB) (hN : XNb B) : XE B M_X5_init (XQm B 73 528 SI_X5) 44 [(0, some (.ref 0)), (1, some (.int 2))] [] (28, 203) SG_X5_12 [(xs (xs z_ 0 1 0) 0 2 0), MI_X2_0, MI_X2_0, MI_X2_0] (fun _ : Unit => some (none, MI_X5)) (some ()) := by
  refine XE_iinc (v := 3) (n := 47) dX5_init_44 rfl rfl (by decide) (Nat.le_of_ble_eq_true rfl) rfl ?_
  refine XE_ls (x_sub_ok (ls' := [(0, some (.ref 0)), (1, some (.int 3))]) ⟨rfl, rfl, trivial⟩) ?_
  exact xs_X5_init_16 B hN
set_option maxRecDepth 100000 in
theorem xs_X5_init_14 (B : XB) (hN : XNb B) : XE B M_X5_init (XQm B 73 528 SI_X5) 31 [(0, some (.ref 0)), (1, some (.int 2))] [] (19, 138) SG_X5_9 [(xs (xs z_ 0 1 0) 0 2 0), MI_X2_0, MI_X2_0] (fun _ : Unit => some (none, MI_X5)) (some ()) := by
  refine XE_aload_n (n := 32) dX5_init_31 rfl rfl rfl ?_
  refine XE_getr (b := 1) (κs := [4, 0, 0]) (n := 35) xf_X5_11 (x_lkb_eq (by decide +kernel)) rfl dX5_init_32 rfl ?_
  refine XE_iload_n (n := 36) dX5_init_35 rfl rfl rfl ?_
  refine XE_new (key := 192) (shs2 := SG_X5_10) (hs2 := [(xs (xs z_ 0 1 0) 0 2 0), MI_X2_0, MI_X2_0, z_]) xn_X5_9 (by decide +kernel) (by decide +kernel) ⟨Nat.le_of_ble_eq_true rfl, Nat.le_of_ble_eq_true rfl⟩ (x_sse_eq (by decide +kernel)) rfl rfl (by decide +kernel) (by decide +kernel) dX5_init_36 rfl ?_
  refine XE_dup (n := 40) dX5_init_39 rfl rfl ?_
  refine XE_callN (π := [3]) (π2 := [3]) (co := [0, 1, 2]) (cv := [(xs (xs z_ 0 1 0) 0 2 0), MI_X2_0, MI_X2_0]) (KF := [192, 193, 194, 195, 196, 197, 198, 199, 200]) (NK := [193, 194, 195, 196, 197, 198, 199, 200]) (d := 1) (mc := 8) (ms := 51) (shsF := SI_X2) (mr := MI_X2) (shs2 := SG_X5_11) (hs2 := [(xs (xs z_ 0 1 0) 0 2 0), MI_X2_0, MI_X2_0, MI_X2_0]) (c1 := 28) (s1 := 203) xi_X5_22 hN met_X2_init rfl dX5_init_40 (Nat.le_of_ble_eq_true rfl) ⟨Nat.le_of_ble_eq_true rfl, Nat.le_of_ble_eq_true rfl⟩ (Nat.le_of_ble_eq_true rfl) (Nat.le_of_ble_eq_true rfl) (by decide +kernel) (by decide +kernel) (by decide +kernel) (by decide +kernel) rfl rfl rfl rfl rfl rfl (n := 43) rfl ?_
  refine XE_aast (i := 1) (j0 := 20) (jn := 2) (ks := [65, 129, 0, 0, 0, 0, 0, 0]) (κs := [0, 196, 197, 198, 0, 199, 200, 201, 0, 202, 0, 203, 0, 0]) (shs2 := SG_X5_12) (x_atb_eq (by decide +kernel)) (x_atb_eq (by decide +kernel)) rfl (by decide) (by decide) (x_sse_eq (by decide +kernel)) dX5_init_43 (n := 44) rfl ?_
  exact xs_X5_init_15 B hN
set_option maxRecDepth 100000 in
theorem xs_X5_init_13 (B : XB) (hN : XNb B) : XE B M_X5_init (XQm B 73 528 SI_X5) 25 [(0, some (.ref 0)), (1, some (.int 2))] [] (19, 138) SG_X5_9 [(xs (xs z_ 0 1 0) 0 2 0), MI_X2_0, MI_X2_0] (fun _ : Unit => some (none, MI_X5)) (some ()) := by
  refine XE_iload_n (n := 26) dX5_init_25 rfl rfl rfl ?_
  refine XE_bipush (v := 8) (n := 28) dX5_init_26 rfl (by decide) ?_
  refine XE_icmp_ge_F (t := 50) (n := 31) dX5_init_28 rfl rfl (by decide) ?_
  exact xs_X5_init_14 B hN
set_option maxRecDepth 100000 in
theorem xs_X5_init_12 (B : XB) (hN : XNb B) : XE B M_X5_init (XQm B 73 528 SI_X5) 47 [(0, some (.ref 0)), (1, some (.int 2))] [] (19, 138) SG_X5_9 [(xs (xs z_ 0 1 0) 0 2 0), MI_X2_0, MI_X2_0] (fun _ : Unit => some (none, MI_X5)) (some ()) := by
  refine XE_goto (n := 25) dX5_init_47 rfl ?_
  exact xs_X5_init_13 B hN
set_option maxRecDepth 100000 in
theorem xs_X5_init_11 (B : XB) (hN : XNb B) : XE B M_X5_init (XQm B 73 528 SI_X5) 44 [(0, some (.ref 0)), (1, some (.int 1))] [] (19, 138) SG_X5_9 [(xs (xs z_ 0 1 0) 0 2 0), MI_X2_0, MI_X2_0] (fun _ : Unit => some (none, MI_X5)) (some ()) := by
  refine XE_iinc (v := 2) (n := 47) dX5_init_44 rfl rfl (by decide) (Nat.le_of_ble_eq_true rfl) rfl ?_
  refine XE_ls (x_sub_ok (ls' := [(0, some (.ref 0)), (1, some (.int 2))]) ⟨rfl, rfl, trivial⟩) ?_
  exact xs_X5_init_12 B hN
set_option maxRecDepth 100000 in
theorem xs_X5_init_10 (B : XB) (hN : XNb B) : XE B M_X5_init (XQm B 73 528 SI_X5) 31 [(0, some (.ref 0)), (1, some (.int 1))] [] (10, 73) SG_X5_6 [(xs (xs z_ 0 1 0) 0 2 0), MI_X2_0] (fun _ : Unit => some (none, MI_X5)) (some ()) := by
  refine XE_aload_n (n := 32) dX5_init_31 rfl rfl rfl ?_
  refine XE_getr (b := 1) (κs := [4, 0, 0]) (n := 35) xf_X5_11 (x_lkb_eq (by decide +kernel)) rfl dX5_init_32 rfl ?_
  refine XE_iload_n (n := 36) dX5_init_35 rfl rfl rfl ?_
  refine XE_new (key := 128) (shs2 := SG_X5_7) (hs2 := [(xs (xs z_ 0 1 0) 0 2 0), MI_X2_0, z_]) xn_X5_9 (by decide +kernel) (by decide +kernel) ⟨Nat.le_of_ble_eq_true rfl, Nat.le_of_ble_eq_true rfl⟩ (x_sse_eq (by decide +kernel)) rfl rfl (by decide +kernel) (by decide +kernel) dX5_init_36 rfl ?_
  refine XE_dup (n := 40) dX5_init_39 rfl rfl ?_
  refine XE_callN (π := [2]) (π2 := [2]) (co := [0, 1]) (cv := [(xs (xs z_ 0 1 0) 0 2 0), MI_X2_0]) (KF := [128, 129, 130, 131, 132, 133, 134, 135, 136]) (NK := [129, 130, 131, 132, 133, 134, 135, 136]) (d := 1) (mc := 8) (ms := 51) (shsF := SI_X2) (mr := MI_X2) (shs2 := SG_X5_8) (hs2 := [(xs (xs z_ 0 1 0) 0 2 0), MI_X2_0, MI_X2_0]) (c1 := 19) (s1 := 138) xi_X5_22 hN met_X2_init rfl dX5_init_40 (Nat.le_of_ble_eq_true rfl) ⟨Nat.le_of_ble_eq_true rfl, Nat.le_of_ble_eq_true rfl⟩ (Nat.le_of_ble_eq_true rfl) (Nat.le_of_ble_eq_true rfl) (by decide +kernel) (by decide +kernel) (by decide +kernel) (by decide +kernel) rfl rfl rfl rfl rfl rfl (n := 43) rfl ?_
  refine XE_aast (i := 1) (j0 := 11) (jn := 1) (ks := [65, 0, 0, 0, 0, 0, 0, 0]) (κs := [0, 132, 133, 134, 0, 135, 136, 137, 0, 138, 0, 139, 0, 0]) (shs2 := SG_X5_9) (x_atb_eq (by decide +kernel)) (x_atb_eq (by decide +kernel)) rfl (by decide) (by decide) (x_sse_eq (by decide +kernel)) dX5_init_43 (n := 44) rfl ?_
  exact xs_X5_init_11 B hN
set_option maxRecDepth 100000 in
theorem xs_X5_init_9 (B : XB) (hN : XNb B) : XE B M_X5_init (XQm B 73 528 SI_X5) 25 [(0, some (.ref 0)), (1, some (.int 1))] [] (10, 73) SG_X5_6 [(xs (xs z_ 0 1 0) 0 2 0), MI_X2_0] (fun _ : Unit => some (none, MI_X5)) (some ()) := by
  refine XE_iload_n (n := 26) dX5_init_25 rfl rfl rfl ?_
  refine XE_bipush (v := 8) (n := 28) dX5_init_26 rfl (by decide) ?_
  refine XE_icmp_ge_F (t := 50) (n := 31) dX5_init_28 rfl rfl (by decide) ?_
  exact xs_X5_init_10 B hN
set_option maxRecDepth 100000 in
theorem xs_X5_init_8 (B : XB) (hN : XNb B) : XE B M_X5_init (XQm B 73 528 SI_X5) 47 [(0, some (.ref 0)), (1, some (.int 1))] [] (10, 73) SG_X5_6 [(xs (xs z_ 0 1 0) 0 2 0), MI_X2_0] (fun _ : Unit => some (none, MI_X5)) (some ()) := by
  refine XE_goto (n := 25) dX5_init_47 rfl ?_
  exact xs_X5_init_9 B hN
set_option maxRecDepth 100000 in
theorem xs_X5_init_7 (B : XB) (hN : XNb B) : XE B M_X5_init (XQm B 73 528 SI_X5) 44 [(0, some (.ref 0)), (1, some (.int 0))] [] (10, 73) SG_X5_6 [(xs (xs z_ 0 1 0) 0 2 0), MI_X2_0] (fun _ : Unit => some (none, MI_X5)) (some ()) := by
  refine XE_iinc (v := 1) (n := 47) dX5_init_44 rfl rfl (by decide) (Nat.le_of_ble_eq_true rfl) rfl ?_
  refine XE_ls (x_sub_ok (ls' := [(0, some (.ref 0)), (1, some (.int 1))]) ⟨rfl, rfl, trivial⟩) ?_
  exact xs_X5_init_8 B hN
set_option maxRecDepth 100000 in
theorem xs_X5_init_6 (B : XB) (hN : XNb B) : XE B M_X5_init (XQm B 73 528 SI_X5) 31 [(0, some (.ref 0)), (1, some (.int 0))] [] (1, 8) SG_X5_3 [(xs (xs z_ 0 1 0) 0 2 0)] (fun _ : Unit => some (none, MI_X5)) (some ()) := by
  refine XE_aload_n (n := 32) dX5_init_31 rfl rfl rfl ?_
  refine XE_getr (b := 1) (κs := [4, 0, 0]) (n := 35) xf_X5_11 (x_lkb_eq (by decide +kernel)) rfl dX5_init_32 rfl ?_
  refine XE_iload_n (n := 36) dX5_init_35 rfl rfl rfl ?_
  refine XE_new (key := 64) (shs2 := SG_X5_4) (hs2 := [(xs (xs z_ 0 1 0) 0 2 0), z_]) xn_X5_9 (by decide +kernel) (by decide +kernel) ⟨Nat.le_of_ble_eq_true rfl, Nat.le_of_ble_eq_true rfl⟩ (x_sse_eq (by decide +kernel)) rfl rfl (by decide +kernel) (by decide +kernel) dX5_init_36 rfl ?_
  refine XE_dup (n := 40) dX5_init_39 rfl rfl ?_
  refine XE_callN (π := [1]) (π2 := [1]) (co := [0]) (cv := [(xs (xs z_ 0 1 0) 0 2 0)]) (KF := [64, 65, 66, 67, 68, 69, 70, 71, 72]) (NK := [65, 66, 67, 68, 69, 70, 71, 72]) (d := 1) (mc := 8) (ms := 51) (shsF := SI_X2) (mr := MI_X2) (shs2 := SG_X5_5) (hs2 := [(xs (xs z_ 0 1 0) 0 2 0), MI_X2_0]) (c1 := 10) (s1 := 73) xi_X5_22 hN met_X2_init rfl dX5_init_40 (Nat.le_of_ble_eq_true rfl) ⟨Nat.le_of_ble_eq_true rfl, Nat.le_of_ble_eq_true rfl⟩ (Nat.le_of_ble_eq_true rfl) (Nat.le_of_ble_eq_true rfl) (by decide +kernel) (by decide +kernel) (by decide +kernel) (by decide +kernel) rfl rfl rfl rfl rfl rfl (n := 43) rfl ?_
  refine XE_aast (i := 1) (j0 := 2) (jn := 0) (ks := [0, 0, 0, 0, 0, 0, 0, 0]) (κs := [0, 68, 69, 70, 0, 71, 72, 73, 0, 74, 0, 75, 0, 0]) (shs2 := SG_X5_6) (x_atb_eq (by decide +kernel)) (x_atb_eq (by decide +kernel)) rfl (by decide) (by decide) (x_sse_eq (by decide +kernel)) dX5_init_43 (n := 44) rfl ?_
  exact xs_X5_init_7 B hN
set_option maxRecDepth 100000 in
theorem xs_X5_init_5 (B : XB) (hN : XNb B) : XE B M_X5_init (XQm B 73 528 SI_X5) 25 [(0, some (.ref 0)), (1, some (.int 0))] [] (1, 8) SG_X5_3 [(xs (xs z_ 0 1 0) 0 2 0)] (fun _ : Unit => some (none, MI_X5)) (some ()) := by
  refine XE_iload_n (n := 26) dX5_init_25 rfl rfl rfl ?_
  refine XE_bipush (v := 8) (n := 28) dX5_init_26 rfl (by decide) ?_
  refine XE_icmp_ge_F (t := 50) (n := 31) dX5_init_28 rfl rfl (by decide) ?_
  exact xs_X5_init_6 B hN
set_option maxRecDepth 100000 in
theorem xs_X5_init_4 (B : XB) (hN : XNb B) : XE B M_X5_init (XQm B 73 528 SI_X5) 23 [(0, some (.ref 0))] [] (1, 8) SG_X5_3 [(xs (xs z_ 0 1 0) 0 2 0)] (fun _ : Unit => some (none, MI_X5)) (some ()) := by
  refine XE_iconst (v := 0) (n := 24) dX5_init_23 rfl (by decide) ?_
  refine XE_istore_n (i := 1) (n := 25) dX5_init_24 rfl rfl (Nat.le_of_ble_eq_true rfl) rfl ?_
  refine XE_ls (x_sub_ok (ls' := [(0, some (.ref 0)), (1, some (.int 0))]) ⟨rfl, rfl, trivial⟩) ?_
  exact xs_X5_init_5 B hN
set_option maxRecDepth 100000 in
theorem xs_X5_init_3 (B : XB) (hN : XNb B) : XE B M_X5_init (XQm B 73 528 SI_X5) 18 [(0, some (.ref 0))] [] (1, 8) SG_X5_3 [(xs z_ 0 1 0)] (fun _ : Unit => some (none, MI_X5)) (some ()) := by
  refine XE_aload_n (n := 19) dX5_init_18 rfl rfl rfl ?_
  refine XE_iconst (v := 0) (n := 20) dX5_init_19 rfl (by decide) ?_
  refine XE_cputf (κs := [4, 0, 0]) (hs2 := [(xs (xs z_ 0 1 0) 0 2 0)]) xf_X5_19 (x_lkb_eq (by decide +kernel)) rfl rfl rfl (Nat.le_of_ble_eq_true rfl) rfl dX5_init_20 (n := 23) rfl ?_
  exact xs_X5_init_4 B hN
set_option maxRecDepth 100000 in
theorem xs_X5_init_2 (B : XB) (hN : XNb B) : XE B M_X5_init (XQm B 73 528 SI_X5) 13 [(0, some (.ref 0))] [] (1, 8) SG_X5_3 [z_] (fun _ : Unit => some (none, MI_X5)) (some ()) := by
  refine XE_aload_n (n := 14) dX5_init_13 rfl rfl rfl ?_
  refine XE_iconst (v := 0) (n := 15) dX5_init_14 rfl (by decide) ?_
  refine XE_cputf (κs := [4, 0, 0]) (hs2 := [(xs z_ 0 1 0)]) xf_X5_15 (x_lkb_eq (by decide +kernel)) rfl rfl rfl (Nat.le_of_ble_eq_true rfl) rfl dX5_init_15 (n := 18) rfl ?_
  exact xs_X5_init_3 B hN
set_option maxRecDepth 100000 in
theorem xs_X5_init_1 (B : XB) (hN : XNb B) : XE B M_X5_init (XQm B 73 528 SI_X5) 4 [(0, some (.ref 0))] [] (0, 0) SG_X5_1 [z_] (fun _ : Unit => some (none, MI_X5)) (some ()) := by
  refine XE_aload_n (n := 5) dX5_init_4 rfl rfl rfl ?_
  refine XE_bipush (v := 8) (n := 7) dX5_init_5 rfl (by decide) ?_
  refine XE_anewN (key := 1) (N := 8) (shs2 := SG_X5_2) xl_X5_9 hN (by decide +kernel) (by decide +kernel) (by decide) (by decide) ⟨Nat.le_of_ble_eq_true rfl, Nat.le_of_ble_eq_true rfl⟩ (Nat.le_of_ble_eq_true rfl) (x_sse_eq (by decide +kernel)) dX5_init_7 rfl ?_
  refine XE_cputr (i := 0) (κs := [1, 0, 0]) (shs2 := SG_X5_3) xf_X5_11 (Or.inl ⟨_, rfl⟩) (x_atb_eq (by decide +kernel)) (Nat.le_of_ble_eq_true rfl) rfl (x_sse_eq (by decide +kernel)) dX5_init_10 (n := 13) rfl ?_
  exact xs_X5_init_2 B hN
set_option maxRecDepth 100000 in
theorem xs_X5_init_0 (B : XB) (hN : XNb B) : XE B M_X5_init (XQm B 73 528 SI_X5) 0 [(0, some (.ref 0))] [] (0, 0) SG_X5_1 [z_] (fun _ : Unit => some (none, MI_X5)) (some ()) := by
  refine XE_aload_n (n := 1) dX5_init_0 rfl rfl rfl ?_
  refine XE_objInit (n := 4) xo_X5_1 xo_i xo_c (Nat.le_of_ble_eq_true rfl) (Nat.le_of_ble_eq_true rfl) dX5_init_1 rfl ?_
  exact xs_X5_init_1 B hN
theorem xe_X5_init (B : XB) (hN : XNb B) : XE B M_X5_init (XQm B 73 528 SI_X5) 0 [(0, some (.ref 0))] [] (0, 0) [(0, .inr (.inr (4, [1, 0, 0])))] [z_] (fun _ : Unit => some (none, MI_X5)) (some ()) := xs_X5_init_0 B hN
theorem met_X5_init (l : Launch) : XMetA l yX5_init cX5_init 2 2 73 528 [.ref 0] [(0, .inr (.inr (4, [1, 0, 0])))] [z_] SI_X5 (none, MI_X5) := XMetA.of (k := fun _ : Unit => some (none, MI_X5)) (o := some ()) (by decide +kernel) (fun _ => Nat.le_of_ble_eq_true rfl) (fun B hN => xe_X5_init B hN) rfl
/-! X0_init -/
def SI_X0 : XSs := [(0, .inr (.inr (0, [67, 4, 5, 0, 0]))), (64, .inr (.inr (2, [0, 68, 69, 70, 0, 71, 72, 73, 0, 74, 0, 75, 0, 0]))), (65, .inl 7), (66, .inl 7), (67, .inl 7), (68, .inl 7), (69, .inl 7), (70, .inl 7), (71, .inl 7), (72, .inl 2), (1, .inl 7), (2, .inl 7)]
abbrev MI_X0_0 : Mem := (xs (xs z_ 0 3 0) 0 4 0)
abbrev MI_X0_1 : Mem := MI_X2_0
abbrev MI_X0 : List Mem := [MI_X0_0, MI_X0_1]
abbrev M_X0_init : XM := (RX0, cX0_init, 1, none, "<init>", 2, 11, 79)
def SG_X0_1 : XSs := [(0, .inr (.inr (0, [1, 1, 1, 0, 0])))]
def SG_X0_2 : XSs := [(0, .inr (.inr (0, [1, 1, 1, 0, 0]))), (64, .inr (.inr (2, [0, 1, 1, 1, 0, 1, 1, 1, 0, 1, 0, 1, 0, 0])))]
def SG_X0_3 : XSs := [(0, .inr (.inr (0, [1, 1, 1, 0, 0]))), (64, .inr (.inr (2, [0, 68, 69, 70, 0, 71, 72, 73, 0, 74, 0, 75, 0, 0]))), (65, .inl 7), (66, .inl 7), (67, .inl 7), (68, .inl 7), (69, .inl 7), (70, .inl 7), (71, .inl 7), (72, .inl 2)]
def SG_X0_4 : XSs := [(0, .inr (.inr (0, [67, 1, 1, 0, 0]))), (64, .inr (.inr (2, [0, 68, 69, 70, 0, 71, 72, 73, 0, 74, 0, 75, 0, 0]))), (65, .inl 7), (66, .inl 7), (67, .inl 7), (68, .inl 7), (69, .inl 7), (70, .inl 7), (71, .inl 7), (72, .inl 2)]
def SG_X0_5 : XSs := [(0, .inr (.inr (0, [67, 1, 1, 0, 0]))), (64, .inr (.inr (2, [0, 68, 69, 70, 0, 71, 72, 73, 0, 74, 0, 75, 0, 0]))), (65, .inl 7), (66, .inl 7), (67, .inl 7), (68, .inl 7), (69, .inl 7), (70, .inl 7), (71, .inl 7), (72, .inl 2), (1, .inl 7)]
def SG_X0_6 : XSs := [(0, .inr (.inr (0, [67, 4, 1, 0, 0]))), (64, .inr (.inr (2, [0, 68, 69, 70, 0, 71, 72, 73, 0, 74, 0, 75, 0, 0]))), (65, .inl 7), (66, .inl 7), (67, .inl 7), (68, .inl 7), (69, .inl 7), (70, .inl 7), (71, .inl 7), (72, .inl 2), (1, .inl 7)]
def SG_X0_7 : XSs := [(0, .inr (.inr (0, [67, 4, 1, 0, 0]))), (64, .inr (.inr (2, [0, 68, 69, 70, 0, 71, 72, 73, 0, 74, 0, 75, 0, 0]))), (65, .inl 7), (66, .inl 7), (67, .inl 7), (68, .inl 7), (69, .inl 7), (70, .inl 7), (71, .inl 7), (72, .inl 2), (1, .inl 7), (2, .inl 7)]
def SG_X0_8 : XSs := [(0, .inr (.inr (0, [67, 4, 5, 0, 0]))), (64, .inr (.inr (2, [0, 68, 69, 70, 0, 71, 72, 73, 0, 74, 0, 75, 0, 0]))), (65, .inl 7), (66, .inl 7), (67, .inl 7), (68, .inl 7), (69, .inl 7), (70, .inl 7), (71, .inl 7), (72, .inl 2), (1, .inl 7), (2, .inl 7)]
set_option maxRecDepth 100000 in
theorem xs_X0_init_6 (B : XB) (hN : XNb B) : XE B M_X0_init (XQm B 11 79 SI_X0) 41 [(0, some (.ref 0))] [] (11, 79) SG_X0_8 [(xs (xs z_ 0 3 0) 0 4 0), MI_X2_0] (fun _ : Unit => some (none, MI_X0)) (some ()) := by
  exact XE_cvret (shsF := SI_X0) (mr := MI_X0) (x_sse_eq (by decide +kernel)) rfl ⟨Nat.le_refl _, Nat.le_refl _⟩ rfl dX0_init_41 rfl
set_option maxRecDepth 100000 in
theorem xs_X0_init_5 (B : XB) (hN : XNb B) : XE B M_X0_init (XQm B 11 79 SI_X0) 36 [(0, some (.ref 0))] [] (11, 79) SG_X0_8 [(xs z_ 0 3 0), MI_X2_0] (fun _ : Unit => some (none, MI_X0)) (some ()) := by
  refine XE_aload_n (n := 37) dX0_init_36 rfl rfl rfl ?_
  refine XE_iconst (v := 0) (n := 38) dX0_init_37 rfl (by decide) ?_
  refine XE_cputf (κs := [67, 4, 5, 0, 0]) (hs2 := [(xs (xs z_ 0 3 0) 0 4 0), MI_X2_0]) xf_X0_29 (x_lkb_eq (by decide +kernel)) rfl rfl rfl (Nat.le_of_ble_eq_true rfl) rfl dX0_init_38 (n := 41) rfl ?_
  exact xs_X0_init_6 B hN
set_option maxRecDepth 100000 in
theorem xs_X0_init_4 (B : XB) (hN : XNb B) : XE B M_X0_init (XQm B 11 79 SI_X0) 31 [(0, some (.ref 0))] [] (11, 79) SG_X0_8 [z_, MI_X2_0] (fun _ : Unit => some (none, MI_X0)) (some ()) := by
  refine XE_aload_n (n := 32) dX0_init_31 rfl rfl rfl ?_
  refine XE_iconst (v := 0) (n := 33) dX0_init_32 rfl (by decide) ?_
  refine XE_cputf (κs := [67, 4, 5, 0, 0]) (hs2 := [(xs z_ 0 3 0), MI_X2_0]) xf_X0_25 (x_lkb_eq (by decide +kernel)) rfl rfl rfl (Nat.le_of_ble_eq_true rfl) rfl dX0_init_33 (n := 36) rfl ?_
  exact xs_X0_init_5 B hN
set_option maxRecDepth 100000 in
theorem xs_X0_init_3 (B : XB) (hN : XNb B) : XE B M_X0_init (XQm B 11 79 SI_X0) 23 [(0, some (.ref 0))] [] (10, 72) SG_X0_6 [z_, MI_X2_0] (fun _ : Unit => some (none, MI_X0)) (some ()) := by
  refine XE_aload_n (n := 24) dX0_init_23 rfl rfl rfl ?_
  refine XE_bipush (v := 7) (n := 26) dX0_init_24 rfl (by decide) ?_
  refine XE_newa (key := 2) (N := 7) (shs2 := SG_X0_7) xa_int rfl (by decide +kernel) (by decide +kernel) (by decide) (by decide) ⟨Nat.le_of_ble_eq_true rfl, Nat.le_of_ble_eq_true rfl⟩ (Nat.le_of_ble_eq_true rfl) (x_sse_eq (by decide +kernel)) dX0_init_26 rfl ?_
  refine XE_cputr (i := 0) (κs := [67, 4, 1, 0, 0]) (shs2 := SG_X0_8) xf_X0_22 (Or.inl ⟨_, rfl⟩) (x_atb_eq (by decide +kernel)) (Nat.le_of_ble_eq_true rfl) rfl (x_sse_eq (by decide +kernel)) dX0_init_28 (n := 31) rfl ?_
  exact xs_X0_init_4 B hN
set_option maxRecDepth 100000 in
theorem xs_X0_init_2 (B : XB) (hN : XNb B) : XE B M_X0_init (XQm B 11 79 SI_X0) 15 [(0, some (.ref 0))] [] (9, 65) SG_X0_4 [z_, MI_X2_0] (fun _ : Unit => some (none, MI_X0)) (some ()) := by
  refine XE_aload_n (n := 16) dX0_init_15 rfl rfl rfl ?_
  refine XE_bipush (v := 7) (n := 18) dX0_init_16 rfl (by decide) ?_
  refine XE_newa (key := 1) (N := 7) (shs2 := SG_X0_5) xa_int rfl (by decide +kernel) (by decide +kernel) (by decide) (by decide) ⟨Nat.le_of_ble_eq_true rfl, Nat.le_of_ble_eq_true rfl⟩ (Nat.le_of_ble_eq_true rfl) (x_sse_eq (by decide +kernel)) dX0_init_18 rfl ?_
  refine XE_cputr (i := 0) (κs := [67, 1, 1, 0, 0]) (shs2 := SG_X0_6) xf_X0_18 (Or.inl ⟨_, rfl⟩) (x_atb_eq (by decide +kernel)) (Nat.le_of_ble_eq_true rfl) rfl (x_sse_eq (by decide +kernel)) dX0_init_20 (n := 23) rfl ?_
  exact xs_X0_init_3 B hN
set_option maxRecDepth 100000 in
theorem xs_X0_init_1 (B : XB) (hN : XNb B) : XE B M_X0_init (XQm B 11 79 SI_X0) 4 [(0, some (.ref 0))] [] (0, 0) SG_X0_1 [z_] (fun _ : Unit => some (none, MI_X0)) (some ()) := by
  refine XE_aload_n (n := 5) dX0_init_4 rfl rfl rfl ?_
  refine XE_new (key := 64) (shs2 := SG_X0_2) (hs2 := [z_, z_]) xn_X0_9 (by decide +kernel) (by decide +kernel) ⟨Nat.le_of_ble_eq_true rfl, Nat.le_of_ble_eq_true rfl⟩ (x_sse_eq (by decide +kernel)) rfl rfl (by decide +kernel) (by decide +kernel) dX0_init_5 rfl ?_
  refine XE_dup (n := 9) dX0_init_8 rfl rfl ?_
  refine XE_callN (π := [1]) (π2 := [1]) (co := [0]) (cv := [z_]) (KF := [64, 65, 66, 67, 68, 69, 70, 71, 72]) (NK := [65, 66, 67, 68, 69, 70, 71, 72]) (d := 1) (mc := 8) (ms := 51) (shsF := SI_X2) (mr := MI_X2) (shs2 := SG_X0_3) (hs2 := [z_, MI_X2_0]) (c1 := 9) (s1 := 65) xi_X0_11 hN met_X2_init rfl dX0_init_9 (Nat.le_of_ble_eq_true rfl) ⟨Nat.le_of_ble_eq_true rfl, Nat.le_of_ble_eq_true rfl⟩ (Nat.le_of_ble_eq_true rfl) (Nat.le_of_ble_eq_true rfl) (by decide +kernel) (by decide +kernel) (by decide +kernel) (by decide +kernel) rfl rfl rfl rfl rfl rfl (n := 12) rfl ?_
  refine XE_cputr (i := 0) (κs := [1, 1, 1, 0, 0]) (shs2 := SG_X0_4) xf_X0_12 (Or.inr ⟨_, rfl⟩) (x_atb_eq (by decide +kernel)) (Nat.le_of_ble_eq_true rfl) rfl (x_sse_eq (by decide +kernel)) dX0_init_12 (n := 15) rfl ?_
  exact xs_X0_init_2 B hN
set_option maxRecDepth 100000 in
theorem xs_X0_init_0 (B : XB) (hN : XNb B) : XE B M_X0_init (XQm B 11 79 SI_X0) 0 [(0, some (.ref 0))] [] (0, 0) SG_X0_1 [z_] (fun _ : Unit => some (none, MI_X0)) (some ()) := by
  refine XE_aload_n (n := 1) dX0_init_0 rfl rfl rfl ?_
  refine XE_objInit (n := 4) xo_X0_3 xo_i xo_c (Nat.le_of_ble_eq_true rfl) (Nat.le_of_ble_eq_true rfl) dX0_init_1 rfl ?_
  exact xs_X0_init_1 B hN
theorem xe_X0_init (B : XB) (hN : XNb B) : XE B M_X0_init (XQm B 11 79 SI_X0) 0 [(0, some (.ref 0))] [] (0, 0) [(0, .inr (.inr (0, [1, 1, 1, 0, 0])))] [z_] (fun _ : Unit => some (none, MI_X0)) (some ()) := xs_X0_init_0 B hN
theorem met_X0_init (l : Launch) : XMetA l yX0_init cX0_init 1 2 11 79 [.ref 0] [(0, .inr (.inr (0, [1, 1, 1, 0, 0])))] [z_] SI_X0 (none, MI_X0) := XMetA.of (k := fun _ : Unit => some (none, MI_X0)) (o := some ()) (by decide +kernel) (fun _ => Nat.le_of_ble_eq_true rfl) (fun B hN => xe_X0_init B hN) rfl
/-! X7_init -/
def SI_X7 : XSs := [(0, .inr (.inr (6, [0, 4, 5, 6, 7, 8, 9, 10, 11, 0, 0, 12, 0, 0, 0, 13, 14, 0, 0, 0, 0, 15, 16, 17, 18, 19, 0, 0, 0, 1, 20, 21, 0, 22, 23, 24, 25, 0, 0]))), (1, .inl 7), (2, .inl 7), (3, .inl 7), (4, .inl 7), (5, .inl 7), (6, .inl 7), (7, .inl 7), (8, .inl 7), (9, .inl 2), (10, .inl 7), (11, .inl 96), (12, .inl 49), (13, .inl 49), (14, .inl 147), (15, .inl 63), (16, .inl 63), (17, .inl 504), (18, .inl 63), (19, .inl 7), (20, .inl 7), (21, .inl 8), (22, .inl 12)]
abbrev MI_X7_0 : Mem := (xs (xs z_ 0 14 0) 0 10 1)
abbrev MI_X7 : List Mem := [MI_X7_0]
abbrev M_X7_init : XM := (RX7, cX7_init, 1, none, "<init>", 1, 22, 1133)
def SG_X7_1 : XSs := [(0, .inr (.inr (6, [0, 1, 1, 1, 1, 1, 1, 1, 1, 0, 0, 1, 0, 0, 0, 1, 1, 0, 0, 0, 0, 1, 1, 1, 1, 1, 0, 0, 0, 1, 1, 1, 0, 1, 1, 1, 1, 0, 0])))]
def SG_X7_2 : XSs := [(0, .inr (.inr (6, [0, 1, 1, 1, 1, 1, 1, 1, 1, 0, 0, 1, 0, 0, 0, 1, 1, 0, 0, 0, 0, 1, 1, 1, 1, 1, 0, 0, 0, 1, 1, 1, 0, 1, 1, 1, 1, 0, 0]))), (1, .inl 7)]
def SG_X7_3 : XSs := [(0, .inr (.inr (6, [0, 4, 1, 1, 1, 1, 1, 1, 1, 0, 0, 1, 0, 0, 0, 1, 1, 0, 0, 0, 0, 1, 1, 1, 1, 1, 0, 0, 0, 1, 1, 1, 0, 1, 1, 1, 1, 0, 0]))), (1, .inl 7)]
def SG_X7_4 : XSs := [(0, .inr (.inr (6, [0, 4, 1, 1, 1, 1, 1, 1, 1, 0, 0, 1, 0, 0, 0, 1, 1, 0, 0, 0, 0, 1, 1, 1, 1, 1, 0, 0, 0, 1, 1, 1, 0, 1, 1, 1, 1, 0, 0]))), (1, .inl 7), (2, .inl 7)]
def SG_X7_5 : XSs := [(0, .inr (.inr (6, [0, 4, 5, 1, 1, 1, 1, 1, 1, 0, 0, 1, 0, 0, 0, 1, 1, 0, 0, 0, 0, 1, 1, 1, 1, 1, 0, 0, 0, 1, 1, 1, 0, 1, 1, 1, 1, 0, 0]))), (1, .inl 7), (2, .inl 7)]
def SG_X7_6 : XSs := [(0, .inr (.inr (6, [0, 4, 5, 1, 1, 1, 1, 1, 1, 0, 0, 1, 0, 0, 0, 1, 1, 0, 0, 0, 0, 1, 1, 1, 1, 1, 0, 0, 0, 1, 1, 1, 0, 1, 1, 1, 1, 0, 0]))), (1, .inl 7), (2, .inl 7), (3, .inl 7)]
def SG_X7_7 : XSs := [(0, .inr (.inr (6, [0, 4, 5, 6, 1, 1, 1, 1, 1, 0, 0, 1, 0, 0, 0, 1, 1, 0, 0, 0, 0, 1, 1, 1, 1, 1, 0, 0, 0, 1, 1, 1, 0, 1, 1, 1, 1, 0, 0]))), (1, .inl 7), (2, .inl 7), (3, .inl 7)]
def SG_X7_8 : XSs := [(0, .inr (.inr (6, [0, 4, 5, 6, 1, 1, 1, 1, 1, 0, 0, 1, 0, 0, 0, 1, 1, 0, 0, 0, 0, 1, 1, 1, 1, 1, 0, 0, 0, 1, 1, 1, 0, 1, 1, 1, 1, 0, 0]))), (1, .inl 7), (2, .inl 7), (3, .inl 7), (4, .inl 7)]
def SG_X7_9 : XSs := [(0, .inr (.inr (6, [0, 4, 5, 6, 7, 1, 1, 1, 1, 0, 0, 1, 0, 0, 0, 1, 1, 0, 0, 0, 0, 1, 1, 1, 1, 1, 0, 0, 0, 1, 1, 1, 0, 1, 1, 1, 1, 0, 0]))), (1, .inl 7), (2, .inl 7), (3, .inl 7), (4, .inl 7)]
def SG_X7_10 : XSs := [(0, .inr (.inr (6, [0, 4, 5, 6, 7, 1, 1, 1, 1, 0, 0, 1, 0, 0, 0, 1, 1, 0, 0, 0, 0, 1, 1, 1, 1, 1, 0, 0, 0, 1, 1, 1, 0, 1, 1, 1, 1, 0, 0]))), (1, .inl 7), (2, .inl 7), (3, .inl 7), (4, .inl 7), (5, .inl 7)]
def SG_X7_11 : XSs := [(0, .inr (.inr (6, [0, 4, 5, 6, 7, 8, 1, 1, 1, 0, 0, 1, 0, 0, 0, 1, 1, 0, 0, 0, 0, 1, 1, 1, 1, 1, 0, 0, 0, 1, 1, 1, 0, 1, 1, 1, 1, 0, 0]))), (1, .inl 7), (2, .inl 7), (3, .inl 7), (4, .inl 7), (5, .inl 7)]
def SG_X7_12 : XSs := [(0, .inr (.inr (6, [0, 4, 5, 6, 7, 8, 1, 1, 1, 0, 0, 1, 0, 0, 0, 1, 1, 0, 0, 0, 0, 1, 1, 1, 1, 1, 0, 0, 0, 1, 1, 1, 0, 1, 1, 1, 1, 0, 0]))), (1, .inl 7), (2, .inl 7), (3, .inl 7), (4, .inl 7), (5, .inl 7), (6, .inl 7)]
def SG_X7_13 : XSs := [(0, .inr (.inr (6, [0, 4, 5, 6, 7, 8, 9, 1, 1, 0, 0, 1, 0, 0, 0, 1, 1, 0, 0, 0, 0, 1, 1, 1, 1, 1, 0, 0, 0, 1, 1, 1, 0, 1, 1, 1, 1, 0, 0]))), (1, .inl 7), (2, .inl 7), (3, .inl 7), (4, .inl 7), (5, .inl 7), (6, .inl 7)]
def SG_X7_14 : XSs := [(0, .inr (.inr (6, [0, 4, 5, 6, 7, 8, 9, 1, 1, 0, 0, 1, 0, 0, 0, 1, 1, 0, 0, 0, 0, 1, 1, 1, 1, 1, 0, 0, 0, 1, 1, 1, 0, 1, 1, 1, 1, 0, 0]))), (1, .inl 7), (2, .inl 7), (3, .inl 7), (4, .inl 7), (5, .inl 7), (6, .inl 7), (7, .inl 7)]
def SG_X7_15 : XSs := [(0, .inr (.inr (6, [0, 4, 5, 6, 7, 8, 9, 10, 1, 0, 0, 1, 0, 0, 0, 1, 1, 0, 0, 0, 0, 1, 1, 1, 1, 1, 0, 0, 0, 1, 1, 1, 0, 1, 1, 1, 1, 0, 0]))), (1, .inl 7), (2, .inl 7), (3, .inl 7), (4, .inl 7), (5, .inl 7), (6, .inl 7), (7, .inl 7)]
def SG_X7_16 : XSs := [(0, .inr (.inr (6, [0, 4, 5, 6, 7, 8, 9, 10, 1, 0, 0, 1, 0, 0, 0, 1, 1, 0, 0, 0, 0, 1, 1, 1, 1, 1, 0, 0, 0, 1, 1, 1, 0, 1, 1, 1, 1, 0, 0]))), (1, .inl 7), (2, .inl 7), (3, .inl 7), (4, .inl 7), (5, .inl 7), (6, .inl 7), (7, .inl 7), (8, .inl 7)]
def SG_X7_17 : XSs := [(0, .inr (.inr (6, [0, 4, 5, 6, 7, 8, 9, 10, 11, 0, 0, 1, 0, 0, 0, 1, 1, 0, 0, 0, 0, 1, 1, 1, 1, 1, 0, 0, 0, 1, 1, 1, 0, 1, 1, 1, 1, 0, 0]))), (1, .inl 7), (2, .inl 7), (3, .inl 7), (4, .inl 7), (5, .inl 7), (6, .inl 7), (7, .inl 7), (8, .inl 7)]
def SG_X7_18 : XSs := [(0, .inr (.inr (6, [0, 4, 5, 6, 7, 8, 9, 10, 11, 0, 0, 1, 0, 0, 0, 1, 1, 0, 0, 0, 0, 1, 1, 1, 1, 1, 0, 0, 0, 1, 1, 1, 0, 1, 1, 1, 1, 0, 0]))), (1, .inl 7), (2, .inl 7), (3, .inl 7), (4, .inl 7), (5, .inl 7), (6, .inl 7), (7, .inl 7), (8, .inl 7), (9, .inl 2)]
def SG_X7_19 : XSs := [(0, .inr (.inr (6, [0, 4, 5, 6, 7, 8, 9, 10, 11, 0, 0, 12, 0, 0, 0, 1, 1, 0, 0, 0, 0, 1, 1, 1, 1, 1, 0, 0, 0, 1, 1, 1, 0, 1, 1, 1, 1, 0, 0]))), (1, .inl 7), (2, .inl 7), (3, .inl 7), (4, .inl 7), (5, .inl 7), (6, .inl 7), (7, .inl 7), (8, .inl 7), (9, .inl 2)]
def SG_X7_20 : XSs := [(0, .inr (.inr (6, [0, 4, 5, 6, 7, 8, 9, 10, 11, 0, 0, 12, 0, 0, 0, 1, 1, 0, 0, 0, 0, 1, 1, 1, 1, 1, 0, 0, 0, 1, 1, 1, 0, 1, 1, 1, 1, 0, 0]))), (1, .inl 7), (2, .inl 7), (3, .inl 7), (4, .inl 7), (5, .inl 7), (6, .inl 7), (7, .inl 7), (8, .inl 7), (9, .inl 2), (10, .inl 7)]
def SG_X7_21 : XSs := [(0, .inr (.inr (6, [0, 4, 5, 6, 7, 8, 9, 10, 11, 0, 0, 12, 0, 0, 0, 13, 1, 0, 0, 0, 0, 1, 1, 1, 1, 1, 0, 0, 0, 1, 1, 1, 0, 1, 1, 1, 1, 0, 0]))), (1, .inl 7), (2, .inl 7), (3, .inl 7), (4, .inl 7), (5, .inl 7), (6, .inl 7), (7, .inl 7), (8, .inl 7), (9, .inl 2), (10, .inl 7)]
def SG_X7_22 : XSs := [(0, .inr (.inr (6, [0, 4, 5, 6, 7, 8, 9, 10, 11, 0, 0, 12, 0, 0, 0, 13, 1, 0, 0, 0, 0, 1, 1, 1, 1, 1, 0, 0, 0, 1, 1, 1, 0, 1, 1, 1, 1, 0, 0]))), (1, .inl 7), (2, .inl 7), (3, .inl 7), (4, .inl 7), (5, .inl 7), (6, .inl 7), (7, .inl 7), (8, .inl 7), (9, .inl 2), (10, .inl 7), (11, .inl 96)]
def SG_X7_23 : XSs := [(0, .inr (.inr (6, [0, 4, 5, 6, 7, 8, 9, 10, 11, 0, 0, 12, 0, 0, 0, 13, 14, 0, 0, 0, 0, 1, 1, 1, 1, 1, 0, 0, 0, 1, 1, 1, 0, 1, 1, 1, 1, 0, 0]))), (1, .inl 7), (2, .inl 7), (3, .inl 7), (4, .inl 7), (5, .inl 7), (6, .inl 7), (7, .inl 7), (8, .inl 7), (9, .inl 2), (10, .inl 7), (11, .inl 96)]
def SG_X7_24 : XSs := [(0, .inr (.inr (6, [0, 4, 5, 6, 7, 8, 9, 10, 11, 0, 0, 12, 0, 0, 0, 13, 14, 0, 0, 0, 0, 1, 1, 1, 1, 1, 0, 0, 0, 1, 1, 1, 0, 1, 1, 1, 1, 0, 0]))), (1, .inl 7), (2, .inl 7), (3, .inl 7), (4, .inl 7), (5, .inl 7), (6, .inl 7), (7, .inl 7), (8, .inl 7), (9, .inl 2), (10, .inl 7), (11, .inl 96), (12, .inl 49)]
def SG_X7_25 : XSs := [(0, .inr (.inr (6, [0, 4, 5, 6, 7, 8, 9, 10, 11, 0, 0, 12, 0, 0, 0, 13, 14, 0, 0, 0, 0, 15, 1, 1, 1, 1, 0, 0, 0, 1, 1, 1, 0, 1, 1, 1, 1, 0, 0]))), (1, .inl 7), (2, .inl 7), (3, .inl 7), (4, .inl 7), (5, .inl 7), (6, .inl 7), (7, .inl 7), (8, .inl 7), (9, .inl 2), (10, .inl 7), (11, .inl 96), (12, .inl 49)]
def SG_X7_26 : XSs := [(0, .inr (.inr (6, [0, 4, 5, 6, 7, 8, 9, 10, 11, 0, 0, 12, 0, 0, 0, 13, 14, 0, 0, 0, 0, 15, 1, 1, 1, 1, 0, 0, 0, 1, 1, 1, 0, 1, 1, 1, 1, 0, 0]))), (1, .inl 7), (2, .inl 7), (3, .inl 7), (4, .inl 7), (5, .inl 7), (6, .inl 7), (7, .inl 7), (8, .inl 7), (9, .inl 2), (10, .inl 7), (11, .inl 96), (12, .inl 49), (13, .inl 49)]
def SG_X7_27 : XSs := [(0, .inr (.inr (6, [0, 4, 5, 6, 7, 8, 9, 10, 11, 0, 0, 12, 0, 0, 0, 13, 14, 0, 0, 0, 0, 15, 16, 1, 1, 1, 0, 0, 0, 1, 1, 1, 0, 1, 1, 1, 1, 0, 0]))), (1, .inl 7), (2, .inl 7), (3, .inl 7), (4, .inl 7), (5, .inl 7), (6, .inl 7), (7, .inl 7), (8, .inl 7), (9, .inl 2), (10, .inl 7), (11, .inl 96), (12, .inl 49), (13, .inl 49)]
def SG_X7_28 : XSs := [(0, .inr (.inr (6, [0, 4, 5, 6, 7, 8, 9, 10, 11, 0, 0, 12, 0, 0, 0, 13, 14, 0, 0, 0, 0, 15, 16, 1, 1, 1, 0, 0, 0, 1, 1, 1, 0, 1, 1, 1, 1, 0, 0]))), (1, .inl 7), (2, .inl 7), (3, .inl 7), (4, .inl 7), (5, .inl 7), (6, .inl 7), (7, .inl 7), (8, .inl 7), (9, .inl 2), (10, .inl 7), (11, .inl 96), (12, .inl 49), (13, .inl 49), (14, .inl 147)]
def SG_X7_29 : XSs := [(0, .inr (.inr (6, [0, 4, 5, 6, 7, 8, 9, 10, 11, 0, 0, 12, 0, 0, 0, 13, 14, 0, 0, 0, 0, 15, 16, 17, 1, 1, 0, 0, 0, 1, 1, 1, 0, 1, 1, 1, 1, 0, 0]))), (1, .inl 7), (2, .inl 7), (3, .inl 7), (4, .inl 7), (5, .inl 7), (6, .inl 7), (7, .inl 7), (8, .inl 7), (9, .inl 2), (10, .inl 7), (11, .inl 96), (12, .inl 49), (13, .inl 49), (14, .inl 147)]
def SG_X7_30 : XSs := [(0, .inr (.inr (6, [0, 4, 5, 6, 7, 8, 9, 10, 11, 0, 0, 12, 0, 0, 0, 13, 14, 0, 0, 0, 0, 15, 16, 17, 1, 1, 0, 0, 0, 1, 1, 1, 0, 1, 1, 1, 1, 0, 0]))), (1, .inl 7), (2, .inl 7), (3, .inl 7), (4, .inl 7), (5, .inl 7), (6, .inl 7), (7, .inl 7), (8, .inl 7), (9, .inl 2), (10, .inl 7), (11, .inl 96), (12, .inl 49), (13, .inl 49), (14, .inl 147), (15, .inl 63)]
def SG_X7_31 : XSs := [(0, .inr (.inr (6, [0, 4, 5, 6, 7, 8, 9, 10, 11, 0, 0, 12, 0, 0, 0, 13, 14, 0, 0, 0, 0, 15, 16, 17, 18, 1, 0, 0, 0, 1, 1, 1, 0, 1, 1, 1, 1, 0, 0]))), (1, .inl 7), (2, .inl 7), (3, .inl 7), (4, .inl 7), (5, .inl 7), (6, .inl 7), (7, .inl 7), (8, .inl 7), (9, .inl 2), (10, .inl 7), (11, .inl 96), (12, .inl 49), (13, .inl 49), (14, .inl 147), (15, .inl 63)]
def SG_X7_32 : XSs := [(0, .inr (.inr (6, [0, 4, 5, 6, 7, 8, 9, 10, 11, 0, 0, 12, 0, 0, 0, 13, 14, 0, 0, 0, 0, 15, 16, 17, 18, 1, 0, 0, 0, 1, 1, 1, 0, 1, 1, 1, 1, 0, 0]))), (1, .inl 7), (2, .inl 7), (3, .inl 7), (4, .inl 7), (5, .inl 7), (6, .inl 7), (7, .inl 7), (8, .inl 7), (9, .inl 2), (10, .inl 7), (11, .inl 96), (12, .inl 49), (13, .inl 49), (14, .inl 147), (15, .inl 63), (16, .inl 63)]
def SG_X7_33 : XSs := [(0, .inr (.inr (6, [0, 4, 5, 6, 7, 8, 9, 10, 11, 0, 0, 12, 0, 0, 0, 13, 14, 0, 0, 0, 0, 15, 16, 17, 18, 19, 0, 0, 0, 1, 1, 1, 0, 1, 1, 1, 1, 0, 0]))), (1, .inl 7), (2, .inl 7), (3, .inl 7), (4, .inl 7), (5, .inl 7), (6, .inl 7), (7, .inl 7), (8, .inl 7), (9, .inl 2), (10, .inl 7), (11, .inl 96), (12, .inl 49), (13, .inl 49), (14, .inl 147), (15, .inl 63), (16, .inl 63)]
def SG_X7_34 : XSs := [(0, .inr (.inr (6, [0, 4, 5, 6, 7, 8, 9, 10, 11, 0, 0, 12, 0, 0, 0, 13, 14, 0, 0, 0, 0, 15, 16, 17, 18, 19, 0, 0, 0, 1, 1, 1, 0, 1, 1, 1, 1, 0, 0]))), (1, .inl 7), (2, .inl 7), (3, .inl 7), (4, .inl 7), (5, .inl 7), (6, .inl 7), (7, .inl 7), (8, .inl 7), (9, .inl 2), (10, .inl 7), (11, .inl 96), (12, .inl 49), (13, .inl 49), (14, .inl 147), (15, .inl 63), (16, .inl 63), (17, .inl 504)]
def SG_X7_35 : XSs := [(0, .inr (.inr (6, [0, 4, 5, 6, 7, 8, 9, 10, 11, 0, 0, 12, 0, 0, 0, 13, 14, 0, 0, 0, 0, 15, 16, 17, 18, 19, 0, 0, 0, 1, 20, 1, 0, 1, 1, 1, 1, 0, 0]))), (1, .inl 7), (2, .inl 7), (3, .inl 7), (4, .inl 7), (5, .inl 7), (6, .inl 7), (7, .inl 7), (8, .inl 7), (9, .inl 2), (10, .inl 7), (11, .inl 96), (12, .inl 49), (13, .inl 49), (14, .inl 147), (15, .inl 63), (16, .inl 63), (17, .inl 504)]
def SG_X7_36 : XSs := [(0, .inr (.inr (6, [0, 4, 5, 6, 7, 8, 9, 10, 11, 0, 0, 12, 0, 0, 0, 13, 14, 0, 0, 0, 0, 15, 16, 17, 18, 19, 0, 0, 0, 1, 20, 1, 0, 1, 1, 1, 1, 0, 0]))), (1, .inl 7), (2, .inl 7), (3, .inl 7), (4, .inl 7), (5, .inl 7), (6, .inl 7), (7, .inl 7), (8, .inl 7), (9, .inl 2), (10, .inl 7), (11, .inl 96), (12, .inl 49), (13, .inl 49), (14, .inl 147), (15, .inl 63), (16, .inl 63), (17, .inl 504), (18, .inl 63)]
def SG_X7_37 : XSs := [(0, .inr (.inr (6, [0, 4, 5, 6, 7, 8, 9, 10, 11, 0, 0, 12, 0, 0, 0, 13, 14, 0, 0, 0, 0, 15, 16, 17, 18, 19, 0, 0, 0, 1, 20, 21, 0, 1, 1, 1, 1, 0, 0]))), (1, .inl 7), (2, .inl 7), (3, .inl 7), (4, .inl 7), (5, .inl 7), (6, .inl 7), (7, .inl 7), (8, .inl 7), (9, .inl 2), (10, .inl 7), (11, .inl 96), (12, .inl 49), (13, .inl 49), (14, .inl 147), (15, .inl 63), (16, .inl 63), (17, .inl 504), (18, .inl 63)]
def SG_X7_38 : XSs := [(0, .inr (.inr (6, [0, 4, 5, 6, 7, 8, 9, 10, 11, 0, 0, 12, 0, 0, 0, 13, 14, 0, 0, 0, 0, 15, 16, 17, 18, 19, 0, 0, 0, 1, 20, 21, 0, 1, 1, 1, 1, 0, 0]))), (1, .inl 7), (2, .inl 7), (3, .inl 7), (4, .inl 7), (5, .inl 7), (6, .inl 7), (7, .inl 7), (8, .inl 7), (9, .inl 2), (10, .inl 7), (11, .inl 96), (12, .inl 49), (13, .inl 49), (14, .inl 147), (15, .inl 63), (16, .inl 63), (17, .inl 504), (18, .inl 63), (19, .inl 7)]
def SG_X7_39 : XSs := [(0, .inr (.inr (6, [0, 4, 5, 6, 7, 8, 9, 10, 11, 0, 0, 12, 0, 0, 0, 13, 14, 0, 0, 0, 0, 15, 16, 17, 18, 19, 0, 0, 0, 1, 20, 21, 0, 22, 1, 1, 1, 0, 0]))), (1, .inl 7), (2, .inl 7), (3, .inl 7), (4, .inl 7), (5, .inl 7), (6, .inl 7), (7, .inl 7), (8, .inl 7), (9, .inl 2), (10, .inl 7), (11, .inl 96), (12, .inl 49), (13, .inl 49), (14, .inl 147), (15, .inl 63), (16, .inl 63), (17, .inl 504), (18, .inl 63), (19, .inl 7)]
def SG_X7_40 : XSs := [(0, .inr (.inr (6, [0, 4, 5, 6, 7, 8, 9, 10, 11, 0, 0, 12, 0, 0, 0, 13, 14, 0, 0, 0, 0, 15, 16, 17, 18, 19, 0, 0, 0, 1, 20, 21, 0, 22, 1, 1, 1, 0, 0]))), (1, .inl 7), (2, .inl 7), (3, .inl 7), (4, .inl 7), (5, .inl 7), (6, .inl 7), (7, .inl 7), (8, .inl 7), (9, .inl 2), (10, .inl 7), (11, .inl 96), (12, .inl 49), (13, .inl 49), (14, .inl 147), (15, .inl 63), (16, .inl 63), (17, .inl 504), (18, .inl 63), (19, .inl 7), (20, .inl 7)]
def SG_X7_41 : XSs := [(0, .inr (.inr (6, [0, 4, 5, 6, 7, 8, 9, 10, 11, 0, 0, 12, 0, 0, 0, 13, 14, 0, 0, 0, 0, 15, 16, 17, 18, 19, 0, 0, 0, 1, 20, 21, 0, 22, 23, 1, 1, 0, 0]))), (1, .inl 7), (2, .inl 7), (3, .inl 7), (4, .inl 7), (5, .inl 7), (6, .inl 7), (7, .inl 7), (8, .inl 7), (9, .inl 2), (10, .inl 7), (11, .inl 96), (12, .inl 49), (13, .inl 49), (14, .inl 147), (15, .inl 63), (16, .inl 63), (17, .inl 504), (18, .inl 63), (19, .inl 7), (20, .inl 7)]
def SG_X7_42 : XSs := [(0, .inr (.inr (6, [0, 4, 5, 6, 7, 8, 9, 10, 11, 0, 0, 12, 0, 0, 0, 13, 14, 0, 0, 0, 0, 15, 16, 17, 18, 19, 0, 0, 0, 1, 20, 21, 0, 22, 23, 1, 1, 0, 0]))), (1, .inl 7), (2, .inl 7), (3, .inl 7), (4, .inl 7), (5, .inl 7), (6, .inl 7), (7, .inl 7), (8, .inl 7), (9, .inl 2), (10, .inl 7), (11, .inl 96), (12, .inl 49), (13, .inl 49), (14, .inl 147), (15, .inl 63), (16, .inl 63), (17, .inl 504), (18, .inl 63), (19, .inl 7), (20, .inl 7), (21, .inl 8)]
def SG_X7_43 : XSs := [(0, .inr (.inr (6, [0, 4, 5, 6, 7, 8, 9, 10, 11, 0, 0, 12, 0, 0, 0, 13, 14, 0, 0, 0, 0, 15, 16, 17, 18, 19, 0, 0, 0, 1, 20, 21, 0, 22, 23, 24, 1, 0, 0]))), (1, .inl 7), (2, .inl 7), (3, .inl 7), (4, .inl 7), (5, .inl 7), (6, .inl 7), (7, .inl 7), (8, .inl 7), (9, .inl 2), (10, .inl 7), (11, .inl 96), (12, .inl 49), (13, .inl 49), (14, .inl 147), (15, .inl 63), (16, .inl 63), (17, .inl 504), (18, .inl 63), (19, .inl 7), (20, .inl 7), (21, .inl 8)]
def SG_X7_44 : XSs := [(0, .inr (.inr (6, [0, 4, 5, 6, 7, 8, 9, 10, 11, 0, 0, 12, 0, 0, 0, 13, 14, 0, 0, 0, 0, 15, 16, 17, 18, 19, 0, 0, 0, 1, 20, 21, 0, 22, 23, 24, 1, 0, 0]))), (1, .inl 7), (2, .inl 7), (3, .inl 7), (4, .inl 7), (5, .inl 7), (6, .inl 7), (7, .inl 7), (8, .inl 7), (9, .inl 2), (10, .inl 7), (11, .inl 96), (12, .inl 49), (13, .inl 49), (14, .inl 147), (15, .inl 63), (16, .inl 63), (17, .inl 504), (18, .inl 63), (19, .inl 7), (20, .inl 7), (21, .inl 8), (22, .inl 12)]
def SG_X7_45 : XSs := [(0, .inr (.inr (6, [0, 4, 5, 6, 7, 8, 9, 10, 11, 0, 0, 12, 0, 0, 0, 13, 14, 0, 0, 0, 0, 15, 16, 17, 18, 19, 0, 0, 0, 1, 20, 21, 0, 22, 23, 24, 25, 0, 0]))), (1, .inl 7), (2, .inl 7), (3, .inl 7), (4, .inl 7), (5, .inl 7), (6, .inl 7), (7, .inl 7), (8, .inl 7), (9, .inl 2), (10, .inl 7), (11, .inl 96), (12, .inl 49), (13, .inl 49), (14, .inl 147), (15, .inl 63), (16, .inl 63), (17, .inl 504), (18, .inl 63), (19, .inl 7), (20, .inl 7), (21, .inl 8), (22, .inl 12)]
set_option maxRecDepth 100000 in
theorem xs_X7_init_25 (B : XB) (hN : XNb B) : XE B M_X7_init (XQm B 22 1133 SI_X7) 191 [(0, some (.ref 0))] [] (22, 1133) SG_X7_45 [(xs (xs z_ 0 14 0) 0 10 1)] (fun _ : Unit => some (none, MI_X7)) (some ()) := by
  exact XE_cvret (shsF := SI_X7) (mr := MI_X7) (x_sse_eq (by decide +kernel)) rfl ⟨Nat.le_refl _, Nat.le_refl _⟩ rfl dX7_init_191 rfl
set_option maxRecDepth 100000 in
theorem xs_X7_init_24 (B : XB) (hN : XNb B) : XE B M_X7_init (XQm B 22 1133 SI_X7) 186 [(0, some (.ref 0))] [] (22, 1133) SG_X7_45 [(xs z_ 0 14 0)] (fun _ : Unit => some (none, MI_X7)) (some ()) := by
  refine XE_aload_n (n := 187) dX7_init_186 rfl rfl rfl ?_
  refine XE_iconst (v := 1) (n := 188) dX7_init_187 rfl (by decide) ?_
  refine XE_cputf (κs := [0, 4, 5, 6, 7, 8, 9, 10, 11, 0, 0, 12, 0, 0, 0, 13, 14, 0, 0, 0, 0, 15, 16, 17, 18, 19, 0, 0, 0, 1, 20, 21, 0, 22, 23, 24, 25, 0, 0]) (hs2 := [(xs (xs z_ 0 14 0) 0 10 1)]) xf_X7_80 (x_lkb_eq (by decide +kernel)) rfl rfl rfl (Nat.le_of_ble_eq_true rfl) rfl dX7_init_188 (n := 191) rfl ?_
  exact xs_X7_init_25 B hN
set_option maxRecDepth 100000 in
theorem xs_X7_init_23 (B : XB) (hN : XNb B) : XE B M_X7_init (XQm B 22 1133 SI_X7) 181 [(0, some (.ref 0))] [] (22, 1133) SG_X7_45 [z_] (fun _ : Unit => some (none, MI_X7)) (some ()) := by
  refine XE_aload_n (n := 182) dX7_init_181 rfl rfl rfl ?_
  refine XE_iconst (v := 0) (n := 183) dX7_init_182 rfl (by decide) ?_
  refine XE_cputf (κs := [0, 4, 5, 6, 7, 8, 9, 10, 11, 0, 0, 12, 0, 0, 0, 13, 14, 0, 0, 0, 0, 15, 16, 17, 18, 19, 0, 0, 0, 1, 20, 21, 0, 22, 23, 24, 25, 0, 0]) (hs2 := [(xs z_ 0 14 0)]) xf_X7_76 (x_lkb_eq (by decide +kernel)) rfl rfl rfl (Nat.le_of_ble_eq_true rfl) rfl dX7_init_183 (n := 186) rfl ?_
  exact xs_X7_init_24 B hN
set_option maxRecDepth 100000 in
theorem xs_X7_init_22 (B : XB) (hN : XNb B) : XE B M_X7_init (XQm B 22 1133 SI_X7) 173 [(0, some (.ref 0))] [] (21, 1121) SG_X7_43 [z_] (fun _ : Unit => some (none, MI_X7)) (some ()) := by
  refine XE_aload_n (n := 174) dX7_init_173 rfl rfl rfl ?_
  refine XE_bipush (v := 12) (n := 176) dX7_init_174 rfl (by decide) ?_
  refine XE_newa (key := 22) (N := 12) (shs2 := SG_X7_44) xa_int rfl (by decide +kernel) (by decide +kernel) (by decide) (by decide) ⟨Nat.le_of_ble_eq_true rfl, Nat.le_of_ble_eq_true rfl⟩ (Nat.le_of_ble_eq_true rfl) (x_sse_eq (by decide +kernel)) dX7_init_176 rfl ?_
  refine XE_cputr (i := 0) (κs := [0, 4, 5, 6, 7, 8, 9, 10, 11, 0, 0, 12, 0, 0, 0, 13, 14, 0, 0, 0, 0, 15, 16, 17, 18, 19, 0, 0, 0, 1, 20, 21, 0, 22, 23, 24, 1, 0, 0]) (shs2 := SG_X7_45) xf_X7_73 (Or.inl ⟨_, rfl⟩) (x_atb_eq (by decide +kernel)) (Nat.le_of_ble_eq_true rfl) rfl (x_sse_eq (by decide +kernel)) dX7_init_178 (n := 181) rfl ?_
  exact xs_X7_init_23 B hN
set_option maxRecDepth 100000 in
theorem xs_X7_init_21 (B : XB) (hN : XNb B) : XE B M_X7_init (XQm B 22 1133 SI_X7) 165 [(0, some (.ref 0))] [] (20, 1113) SG_X7_41 [z_] (fun _ : Unit => some (none, MI_X7)) (some ()) := by
  refine XE_aload_n (n := 166) dX7_init_165 rfl rfl rfl ?_
  refine XE_bipush (v := 8) (n := 168) dX7_init_166 rfl (by decide) ?_
  refine XE_newa (key := 21) (N := 8) (shs2 := SG_X7_42) xa_int rfl (by decide +kernel) (by decide +kernel) (by decide) (by decide) ⟨Nat.le_of_ble_eq_true rfl, Nat.le_of_ble_eq_true rfl⟩ (Nat.le_of_ble_eq_true rfl) (x_sse_eq (by decide +kernel)) dX7_init_168 rfl ?_
  refine XE_cputr (i := 0) (κs := [0, 4, 5, 6, 7, 8, 9, 10, 11, 0, 0, 12, 0, 0, 0, 13, 14, 0, 0, 0, 0, 15, 16, 17, 18, 19, 0, 0, 0, 1, 20, 21, 0, 22, 23, 1, 1, 0, 0]) (shs2 := SG_X7_43) xf_X7_70 (Or.inl ⟨_, rfl⟩) (x_atb_eq (by decide +kernel)) (Nat.le_of_ble_eq_true rfl) rfl (x_sse_eq (by decide +kernel)) dX7_init_170 (n := 173) rfl ?_
  exact xs_X7_init_22 B hN
set_option maxRecDepth 100000 in
theorem xs_X7_init_20 (B : XB) (hN : XNb B) : XE B M_X7_init (XQm B 22 1133 SI_X7) 157 [(0, some (.ref 0))] [] (19, 1106) SG_X7_39 [z_] (fun _ : Unit => some (none, MI_X7)) (some ()) := by
  refine XE_aload_n (n := 158) dX7_init_157 rfl rfl rfl ?_
  refine XE_bipush (v := 7) (n := 160) dX7_init_158 rfl (by decide) ?_
  refine XE_newa (key := 20) (N := 7) (shs2 := SG_X7_40) xa_int rfl (by decide +kernel) (by decide +kernel) (by decide) (by decide) ⟨Nat.le_of_ble_eq_true rfl, Nat.le_of_ble_eq_true rfl⟩ (Nat.le_of_ble_eq_true rfl) (x_sse_eq (by decide +kernel)) dX7_init_160 rfl ?_
  refine XE_cputr (i := 0) (κs := [0, 4, 5, 6, 7, 8, 9, 10, 11, 0, 0, 12, 0, 0, 0, 13, 14, 0, 0, 0, 0, 15, 16, 17, 18, 19, 0, 0, 0, 1, 20, 21, 0, 22, 1, 1, 1, 0, 0]) (shs2 := SG_X7_41) xf_X7_67 (Or.inl ⟨_, rfl⟩) (x_atb_eq (by decide +kernel)) (Nat.le_of_ble_eq_true rfl) rfl (x_sse_eq (by decide +kernel)) dX7_init_162 (n := 165) rfl ?_
  exact xs_X7_init_21 B hN
set_option maxRecDepth 100000 in
theorem xs_X7_init_19 (B : XB) (hN : XNb B) : XE B M_X7_init (XQm B 22 1133 SI_X7) 149 [(0, some (.ref 0))] [] (18, 1099) SG_X7_37 [z_] (fun _ : Unit => some (none, MI_X7)) (some ()) := by
  refine XE_aload_n (n := 150) dX7_init_149 rfl rfl rfl ?_
  refine XE_bipush (v := 7) (n := 152) dX7_init_150 rfl (by decide) ?_
  refine XE_newa (key := 19) (N := 7) (shs2 := SG_X7_38) xa_int rfl (by decide +kernel) (by decide +kernel) (by decide) (by decide) ⟨Nat.le_of_ble_eq_true rfl, Nat.le_of_ble_eq_true rfl⟩ (Nat.le_of_ble_eq_true rfl) (x_sse_eq (by decide +kernel)) dX7_init_152 rfl ?_
  refine XE_cputr (i := 0) (κs := [0, 4, 5, 6, 7, 8, 9, 10, 11, 0, 0, 12, 0, 0, 0, 13, 14, 0, 0, 0, 0, 15, 16, 17, 18, 19, 0, 0, 0, 1, 20, 21, 0, 1, 1, 1, 1, 0, 0]) (shs2 := SG_X7_39) xf_X7_64 (Or.inl ⟨_, rfl⟩) (x_atb_eq (by decide +kernel)) (Nat.le_of_ble_eq_true rfl) rfl (x_sse_eq (by decide +kernel)) dX7_init_154 (n := 157) rfl ?_
  exact xs_X7_init_20 B hN
set_option maxRecDepth 100000 in
theorem xs_X7_init_18 (B : XB) (hN : XNb B) : XE B M_X7_init (XQm B 22 1133 SI_X7) 141 [(0, some (.ref 0))] [] (17, 1036) SG_X7_35 [z_] (fun _ : Unit => some (none, MI_X7)) (some ()) := by
  refine XE_aload_n (n := 142) dX7_init_141 rfl rfl rfl ?_
  refine XE_bipush (v := 63) (n := 144) dX7_init_142 rfl (by decide) ?_
  refine XE_newa (key := 18) (N := 63) (shs2 := SG_X7_36) xa_int rfl (by decide +kernel) (by decide +kernel) (by decide) (by decide) ⟨Nat.le_of_ble_eq_true rfl, Nat.le_of_ble_eq_true rfl⟩ (Nat.le_of_ble_eq_true rfl) (x_sse_eq (by decide +kernel)) dX7_init_144 rfl ?_
  refine XE_cputr (i := 0) (κs := [0, 4, 5, 6, 7, 8, 9, 10, 11, 0, 0, 12, 0, 0, 0, 13, 14, 0, 0, 0, 0, 15, 16, 17, 18, 19, 0, 0, 0, 1, 20, 1, 0, 1, 1, 1, 1, 0, 0]) (shs2 := SG_X7_37) xf_X7_61 (Or.inl ⟨_, rfl⟩) (x_atb_eq (by decide +kernel)) (Nat.le_of_ble_eq_true rfl) rfl (x_sse_eq (by decide +kernel)) dX7_init_146 (n := 149) rfl ?_
  exact xs_X7_init_19 B hN
set_option maxRecDepth 100000 in
theorem xs_X7_init_17 (B : XB) (hN : XNb B) : XE B M_X7_init (XQm B 22 1133 SI_X7) 132 [(0, some (.ref 0))] [] (16, 532) SG_X7_33 [z_] (fun _ : Unit => some (none, MI_X7)) (some ()) := by
  refine XE_aload_n (n := 133) dX7_init_132 rfl rfl rfl ?_
  refine XE_sipush (v := 504) (n := 136) dX7_init_133 rfl (by decide) ?_
  refine XE_newa (key := 17) (N := 504) (shs2 := SG_X7_34) xa_int rfl (by decide +kernel) (by decide +kernel) (by decide) (by decide) ⟨Nat.le_of_ble_eq_true rfl, Nat.le_of_ble_eq_true rfl⟩ (Nat.le_of_ble_eq_true rfl) (x_sse_eq (by decide +kernel)) dX7_init_136 rfl ?_
  refine XE_cputr (i := 0) (κs := [0, 4, 5, 6, 7, 8, 9, 10, 11, 0, 0, 12, 0, 0, 0, 13, 14, 0, 0, 0, 0, 15, 16, 17, 18, 19, 0, 0, 0, 1, 1, 1, 0, 1, 1, 1, 1, 0, 0]) (shs2 := SG_X7_35) xf_X7_58 (Or.inl ⟨_, rfl⟩) (x_atb_eq (by decide +kernel)) (Nat.le_of_ble_eq_true rfl) rfl (x_sse_eq (by decide +kernel)) dX7_init_138 (n := 141) rfl ?_
  exact xs_X7_init_18 B hN
set_option maxRecDepth 100000 in
theorem xs_X7_init_16 (B : XB) (hN : XNb B) : XE B M_X7_init (XQm B 22 1133 SI_X7) 124 [(0, some (.ref 0))] [] (15, 469) SG_X7_31 [z_] (fun _ : Unit => some (none, MI_X7)) (some ()) := by
  refine XE_aload_n (n := 125) dX7_init_124 rfl rfl rfl ?_
  refine XE_bipush (v := 63) (n := 127) dX7_init_125 rfl (by decide) ?_
  refine XE_newa (key := 16) (N := 63) (shs2 := SG_X7_32) xa_int rfl (by decide +kernel) (by decide +kernel) (by decide) (by decide) ⟨Nat.le_of_ble_eq_true rfl, Nat.le_of_ble_eq_true rfl⟩ (Nat.le_of_ble_eq_true rfl) (x_sse_eq (by decide +kernel)) dX7_init_127 rfl ?_
  refine XE_cputr (i := 0) (κs := [0, 4, 5, 6, 7, 8, 9, 10, 11, 0, 0, 12, 0, 0, 0, 13, 14, 0, 0, 0, 0, 15, 16, 17, 18, 1, 0, 0, 0, 1, 1, 1, 0, 1, 1, 1, 1, 0, 0]) (shs2 := SG_X7_33) xf_X7_55 (Or.inl ⟨_, rfl⟩) (x_atb_eq (by decide +kernel)) (Nat.le_of_ble_eq_true rfl) rfl (x_sse_eq (by decide +kernel)) dX7_init_129 (n := 132) rfl ?_
  exact xs_X7_init_17 B hN
set_option maxRecDepth 100000 in
theorem xs_X7_init_15 (B : XB) (hN : XNb B) : XE B M_X7_init (XQm B 22 1133 SI_X7) 116 [(0, some (.ref 0))] [] (14, 406) SG_X7_29 [z_] (fun _ : Unit => some (none, MI_X7)) (some ()) := by
  refine XE_aload_n (n := 117) dX7_init_116 rfl rfl rfl ?_
  refine XE_bipush (v := 63) (n := 119) dX7_init_117 rfl (by decide) ?_
  refine XE_newa (key := 15) (N := 63) (shs2 := SG_X7_30) xa_int rfl (by decide +kernel) (by decide +kernel) (by decide) (by decide) ⟨Nat.le_of_ble_eq_true rfl, Nat.le_of_ble_eq_true rfl⟩ (Nat.le_of_ble_eq_true rfl) (x_sse_eq (by decide +kernel)) dX7_init_119 rfl ?_
  refine XE_cputr (i := 0) (κs := [0, 4, 5, 6, 7, 8, 9, 10, 11, 0, 0, 12, 0, 0, 0, 13, 14, 0, 0, 0, 0, 15, 16, 17, 1, 1, 0, 0, 0, 1, 1, 1, 0, 1, 1, 1, 1, 0, 0]) (shs2 := SG_X7_31) xf_X7_52 (Or.inl ⟨_, rfl⟩) (x_atb_eq (by decide +kernel)) (Nat.le_of_ble_eq_true rfl) rfl (x_sse_eq (by decide +kernel)) dX7_init_121 (n := 124) rfl ?_
  exact xs_X7_init_16 B hN
set_option maxRecDepth 100000 in
theorem xs_X7_init_14 (B : XB) (hN : XNb B) : XE B M_X7_init (XQm B 22 1133 SI_X7) 107 [(0, some (.ref 0))] [] (13, 259) SG_X7_27 [z_] (fun _ : Unit => some (none, MI_X7)) (some ()) := by
  refine XE_aload_n (n := 108) dX7_init_107 rfl rfl rfl ?_
  refine XE_sipush (v := 147) (n := 111) dX7_init_108 rfl (by decide) ?_
  refine XE_newa (key := 14) (N := 147) (shs2 := SG_X7_28) xa_int rfl (by decide +kernel) (by decide +kernel) (by decide) (by decide) ⟨Nat.le_of_ble_eq_true rfl, Nat.le_of_ble_eq_true rfl⟩ (Nat.le_of_ble_eq_true rfl) (x_sse_eq (by decide +kernel)) dX7_init_111 rfl ?_
  refine XE_cputr (i := 0) (κs := [0, 4, 5, 6, 7, 8, 9, 10, 11, 0, 0, 12, 0, 0, 0, 13, 14, 0, 0, 0, 0, 15, 16, 1, 1, 1, 0, 0, 0, 1, 1, 1, 0, 1, 1, 1, 1, 0, 0]) (shs2 := SG_X7_29) xf_X7_49 (Or.inl ⟨_, rfl⟩) (x_atb_eq (by decide +kernel)) (Nat.le_of_ble_eq_true rfl) rfl (x_sse_eq (by decide +kernel)) dX7_init_113 (n := 116) rfl ?_
  exact xs_X7_init_15 B hN
set_option maxRecDepth 100000 in
theorem xs_X7_init_13 (B : XB) (hN : XNb B) : XE B M_X7_init (XQm B 22 1133 SI_X7) 99 [(0, some (.ref 0))] [] (12, 210) SG_X7_25 [z_] (fun _ : Unit => some (none, MI_X7)) (some ()) := by
  refine XE_aload_n (n := 100) dX7_init_99 rfl rfl rfl ?_
  refine XE_bipush (v := 49) (n := 102) dX7_init_100 rfl (by decide) ?_
  refine XE_newa (key := 13) (N := 49) (shs2 := SG_X7_26) xa_int rfl (by decide +kernel) (by decide +kernel) (by decide) (by decide) ⟨Nat.le_of_ble_eq_true rfl, Nat.le_of_ble_eq_true rfl⟩ (Nat.le_of_ble_eq_true rfl) (x_sse_eq (by decide +kernel)) dX7_init_102 rfl ?_
  refine XE_cputr (i := 0) (κs := [0, 4, 5, 6, 7, 8, 9, 10, 11, 0, 0, 12, 0, 0, 0, 13, 14, 0, 0, 0, 0, 15, 1, 1, 1, 1, 0, 0, 0, 1, 1, 1, 0, 1, 1, 1, 1, 0, 0]) (shs2 := SG_X7_27) xf_X7_46 (Or.inl ⟨_, rfl⟩) (x_atb_eq (by decide +kernel)) (Nat.le_of_ble_eq_true rfl) rfl (x_sse_eq (by decide +kernel)) dX7_init_104 (n := 107) rfl ?_
  exact xs_X7_init_14 B hN
set_option maxRecDepth 100000 in
theorem xs_X7_init_12 (B : XB) (hN : XNb B) : XE B M_X7_init (XQm B 22 1133 SI_X7) 91 [(0, some (.ref 0))] [] (11, 161) SG_X7_23 [z_] (fun _ : Unit => some (none, MI_X7)) (some ()) := by
  refine XE_aload_n (n := 92) dX7_init_91 rfl rfl rfl ?_
  refine XE_bipush (v := 49) (n := 94) dX7_init_92 rfl (by decide) ?_
  refine XE_newa (key := 12) (N := 49) (shs2 := SG_X7_24) xa_int rfl (by decide +kernel) (by decide +kernel) (by decide) (by decide) ⟨Nat.le_of_ble_eq_true rfl, Nat.le_of_ble_eq_true rfl⟩ (Nat.le_of_ble_eq_true rfl) (x_sse_eq (by decide +kernel)) dX7_init_94 rfl ?_
  refine XE_cputr (i := 0) (κs := [0, 4, 5, 6, 7, 8, 9, 10, 11, 0, 0, 12, 0, 0, 0, 13, 14, 0, 0, 0, 0, 1, 1, 1, 1, 1, 0, 0, 0, 1, 1, 1, 0, 1, 1, 1, 1, 0, 0]) (shs2 := SG_X7_25) xf_X7_43 (Or.inl ⟨_, rfl⟩) (x_atb_eq (by decide +kernel)) (Nat.le_of_ble_eq_true rfl) rfl (x_sse_eq (by decide +kernel)) dX7_init_96 (n := 99) rfl ?_
  exact xs_X7_init_13 B hN
set_option maxRecDepth 100000 in
theorem xs_X7_init_11 (B : XB) (hN : XNb B) : XE B M_X7_init (XQm B 22 1133 SI_X7) 83 [(0, some (.ref 0))] [] (10, 65) SG_X7_21 [z_] (fun _ : Unit => some (none, MI_X7)) (some ()) := by
  refine XE_aload_n (n := 84) dX7_init_83 rfl rfl rfl ?_
  refine XE_bipush (v := 96) (n := 86) dX7_init_84 rfl (by decide) ?_
  refine XE_newa (key := 11) (N := 96) (shs2 := SG_X7_22) xa_int rfl (by decide +kernel) (by decide +kernel) (by decide) (by decide) ⟨Nat.le_of_ble_eq_true rfl, Nat.le_of_ble_eq_true rfl⟩ (Nat.le_of_ble_eq_true rfl) (x_sse_eq (by decide +kernel)) dX7_init_86 rfl ?_
  refine XE_cputr (i := 0) (κs := [0, 4, 5, 6, 7, 8, 9, 10, 11, 0, 0, 12, 0, 0, 0, 13, 1, 0, 0, 0, 0, 1, 1, 1, 1, 1, 0, 0, 0, 1, 1, 1, 0, 1, 1, 1, 1, 0, 0]) (shs2 := SG_X7_23) xf_X7_40 (Or.inl ⟨_, rfl⟩) (x_atb_eq (by decide +kernel)) (Nat.le_of_ble_eq_true rfl) rfl (x_sse_eq (by decide +kernel)) dX7_init_88 (n := 91) rfl ?_
  exact xs_X7_init_12 B hN
set_option maxRecDepth 100000 in
theorem xs_X7_init_10 (B : XB) (hN : XNb B) : XE B M_X7_init (XQm B 22 1133 SI_X7) 75 [(0, some (.ref 0))] [] (9, 58) SG_X7_19 [z_] (fun _ : Unit => some (none, MI_X7)) (some ()) := by
  refine XE_aload_n (n := 76) dX7_init_75 rfl rfl rfl ?_
  refine XE_bipush (v := 7) (n := 78) dX7_init_76 rfl (by decide) ?_
  refine XE_newa (key := 10) (N := 7) (shs2 := SG_X7_20) xa_int rfl (by decide +kernel) (by decide +kernel) (by decide) (by decide) ⟨Nat.le_of_ble_eq_true rfl, Nat.le_of_ble_eq_true rfl⟩ (Nat.le_of_ble_eq_true rfl) (x_sse_eq (by decide +kernel)) dX7_init_78 rfl ?_
  refine XE_cputr (i := 0) (κs := [0, 4, 5, 6, 7, 8, 9, 10, 11, 0, 0, 12, 0, 0, 0, 1, 1, 0, 0, 0, 0, 1, 1, 1, 1, 1, 0, 0, 0, 1, 1, 1, 0, 1, 1, 1, 1, 0, 0]) (shs2 := SG_X7_21) xf_X7_37 (Or.inl ⟨_, rfl⟩) (x_atb_eq (by decide +kernel)) (Nat.le_of_ble_eq_true rfl) rfl (x_sse_eq (by decide +kernel)) dX7_init_80 (n := 83) rfl ?_
  exact xs_X7_init_11 B hN
set_option maxRecDepth 100000 in
theorem xs_X7_init_9 (B : XB) (hN : XNb B) : XE B M_X7_init (XQm B 22 1133 SI_X7) 68 [(0, some (.ref 0))] [] (8, 56) SG_X7_17 [z_] (fun _ : Unit => some (none, MI_X7)) (some ()) := by
  refine XE_aload_n (n := 69) dX7_init_68 rfl rfl rfl ?_
  refine XE_iconst (v := 2) (n := 70) dX7_init_69 rfl (by decide) ?_
  refine XE_newa (key := 9) (N := 2) (shs2 := SG_X7_18) xa_int rfl (by decide +kernel) (by decide +kernel) (by decide) (by decide) ⟨Nat.le_of_ble_eq_true rfl, Nat.le_of_ble_eq_true rfl⟩ (Nat.le_of_ble_eq_true rfl) (x_sse_eq (by decide +kernel)) dX7_init_70 rfl ?_
  refine XE_cputr (i := 0) (κs := [0, 4, 5, 6, 7, 8, 9, 10, 11, 0, 0, 1, 0, 0, 0, 1, 1, 0, 0, 0, 0, 1, 1, 1, 1, 1, 0, 0, 0, 1, 1, 1, 0, 1, 1, 1, 1, 0, 0]) (shs2 := SG_X7_19) xf_X7_34 (Or.inl ⟨_, rfl⟩) (x_atb_eq (by decide +kernel)) (Nat.le_of_ble_eq_true rfl) rfl (x_sse_eq (by decide +kernel)) dX7_init_72 (n := 75) rfl ?_
  exact xs_X7_init_10 B hN
set_option maxRecDepth 100000 in
theorem xs_X7_init_8 (B : XB) (hN : XNb B) : XE B M_X7_init (XQm B 22 1133 SI_X7) 60 [(0, some (.ref 0))] [] (7, 49) SG_X7_15 [z_] (fun _ : Unit => some (none, MI_X7)) (some ()) := by
  refine XE_aload_n (n := 61) dX7_init_60 rfl rfl rfl ?_
  refine XE_bipush (v := 7) (n := 63) dX7_init_61 rfl (by decide) ?_
  refine XE_newa (key := 8) (N := 7) (shs2 := SG_X7_16) xa_int rfl (by decide +kernel) (by decide +kernel) (by decide) (by decide) ⟨Nat.le_of_ble_eq_true rfl, Nat.le_of_ble_eq_true rfl⟩ (Nat.le_of_ble_eq_true rfl) (x_sse_eq (by decide +kernel)) dX7_init_63 rfl ?_
  refine XE_cputr (i := 0) (κs := [0, 4, 5, 6, 7, 8, 9, 10, 1, 0, 0, 1, 0, 0, 0, 1, 1, 0, 0, 0, 0, 1, 1, 1, 1, 1, 0, 0, 0, 1, 1, 1, 0, 1, 1, 1, 1, 0, 0]) (shs2 := SG_X7_17) xf_X7_31 (Or.inl ⟨_, rfl⟩) (x_atb_eq (by decide +kernel)) (Nat.le_of_ble_eq_true rfl) rfl (x_sse_eq (by decide +kernel)) dX7_init_65 (n := 68) rfl ?_
  exact xs_X7_init_9 B hN
set_option maxRecDepth 100000 in
theorem xs_X7_init_7 (B : XB) (hN : XNb B) : XE B M_X7_init (XQm B 22 1133 SI_X7) 52 [(0, some (.ref 0))] [] (6, 42) SG_X7_13 [z_] (fun _ : Unit => some (none, MI_X7)) (some ()) := by
  refine XE_aload_n (n := 53) dX7_init_52 rfl rfl rfl ?_
  refine XE_bipush (v := 7) (n := 55) dX7_init_53 rfl (by decide) ?_
  refine XE_newa (key := 7) (N := 7) (shs2 := SG_X7_14) xa_int rfl (by decide +kernel) (by decide +kernel) (by decide) (by decide) ⟨Nat.le_of_ble_eq_true rfl, Nat.le_of_ble_eq_true rfl⟩ (Nat.le_of_ble_eq_true rfl) (x_sse_eq (by decide +kernel)) dX7_init_55 rfl ?_
  refine XE_cputr (i := 0) (κs := [0, 4, 5, 6, 7, 8, 9, 1, 1, 0, 0, 1, 0, 0, 0, 1, 1, 0, 0, 0, 0, 1, 1, 1, 1, 1, 0, 0, 0, 1, 1, 1, 0, 1, 1, 1, 1, 0, 0]) (shs2 := SG_X7_15) xf_X7_28 (Or.inl ⟨_, rfl⟩) (x_atb_eq (by decide +kernel)) (Nat.le_of_ble_eq_true rfl) rfl (x_sse_eq (by decide +kernel)) dX7_init_57 (n := 60) rfl ?_
  exact xs_X7_init_8 B hN
set_option maxRecDepth 100000 in
theorem xs_X7_init_6 (B : XB) (hN : XNb B) : XE B M_X7_init (XQm B 22 1133 SI_X7) 44 [(0, some (.ref 0))] [] (5, 35) SG_X7_11 [z_] (fun _ : Unit => some (none, MI_X7)) (some ()) := by
  refine XE_aload_n (n := 45) dX7_init_44 rfl rfl rfl ?_
  refine XE_bipush (v := 7) (n := 47) dX7_init_45 rfl (by decide) ?_
  refine XE_newa (key := 6) (N := 7) (shs2 := SG_X7_12) xa_int rfl (by decide +kernel) (by decide +kernel) (by decide) (by decide) ⟨Nat.le_of_ble_eq_true rfl, Nat.le_of_ble_eq_true rfl⟩ (Nat.le_of_ble_eq_true rfl) (x_sse_eq (by decide +kernel)) dX7_init_47 rfl ?_
  refine XE_cputr (i := 0) (κs := [0, 4, 5, 6, 7, 8, 1, 1, 1, 0, 0, 1, 0, 0, 0, 1, 1, 0, 0, 0, 0, 1, 1, 1, 1, 1, 0, 0, 0, 1, 1, 1, 0, 1, 1, 1, 1, 0, 0]) (shs2 := SG_X7_13) xf_X7_25 (Or.inl ⟨_, rfl⟩) (x_atb_eq (by decide +kernel)) (Nat.le_of_ble_eq_true rfl) rfl (x_sse_eq (by decide +kernel)) dX7_init_49 (n := 52) rfl ?_
  exact xs_X7_init_7 B hN
set_option maxRecDepth 100000 in
theorem xs_X7_init_5 (B : XB) (hN : XNb B) : XE B M_X7_init (XQm B 22 1133 SI_X7) 36 [(0, some (.ref 0))] [] (4, 28) SG_X7_9 [z_] (fun _ : Unit => some (none, MI_X7)) (some ()) := by
  refine XE_aload_n (n := 37) dX7_init_36 rfl rfl rfl ?_
  refine XE_bipush (v := 7) (n := 39) dX7_init_37 rfl (by decide) ?_
  refine XE_newa (key := 5) (N := 7) (shs2 := SG_X7_10) xa_int rfl (by decide +kernel) (by decide +kernel) (by decide) (by decide) ⟨Nat.le_of_ble_eq_true rfl, Nat.le_of_ble_eq_true rfl⟩ (Nat.le_of_ble_eq_true rfl) (x_sse_eq (by decide +kernel)) dX7_init_39 rfl ?_
  refine XE_cputr (i := 0) (κs := [0, 4, 5, 6, 7, 1, 1, 1, 1, 0, 0, 1, 0, 0, 0, 1, 1, 0, 0, 0, 0, 1, 1, 1, 1, 1, 0, 0, 0, 1, 1, 1, 0, 1, 1, 1, 1, 0, 0]) (shs2 := SG_X7_11) xf_X7_22 (Or.inl ⟨_, rfl⟩) (x_atb_eq (by decide +kernel)) (Nat.le_of_ble_eq_true rfl) rfl (x_sse_eq (by decide +kernel)) dX7_init_41 (n := 44) rfl ?_
  exact xs_X7_init_6 B hN
set_option maxRecDepth 100000 in
theorem xs_X7_init_4 (B : XB) (hN : XNb B) : XE B M_X7_init (XQm B 22 1133 SI_X7) 28 [(0, some (.ref 0))] [] (3, 21) SG_X7_7 [z_] (fun _ : Unit => some (none, MI_X7)) (some ()) := by
  refine XE_aload_n (n := 29) dX7_init_28 rfl rfl rfl ?_
  refine XE_bipush (v := 7) (n := 31) dX7_init_29 rfl (by decide) ?_
  refine XE_newa (key := 4) (N := 7) (shs2 := SG_X7_8) xa_int rfl (by decide +kernel) (by decide +kernel) (by decide) (by decide) ⟨Nat.le_of_ble_eq_true rfl, Nat.le_of_ble_eq_true rfl⟩ (Nat.le_of_ble_eq_true rfl) (x_sse_eq (by decide +kernel)) dX7_init_31 rfl ?_
  refine XE_cputr (i := 0) (κs := [0, 4, 5, 6, 1, 1, 1, 1, 1, 0, 0, 1, 0, 0, 0, 1, 1, 0, 0, 0, 0, 1, 1, 1, 1, 1, 0, 0, 0, 1, 1, 1, 0, 1, 1, 1, 1, 0, 0]) (shs2 := SG_X7_9) xf_X7_19 (Or.inl ⟨_, rfl⟩) (x_atb_eq (by decide +kernel)) (Nat.le_of_ble_eq_true rfl) rfl (x_sse_eq (by decide +kernel)) dX7_init_33 (n := 36) rfl ?_
  exact xs_X7_init_5 B hN
set_option maxRecDepth 100000 in
theorem xs_X7_init_3 (B : XB) (hN : XNb B) : XE B M_X7_init (XQm B 22 1133 SI_X7) 20 [(0, some (.ref 0))] [] (2, 14) SG_X7_5 [z_] (fun _ : Unit => some (none, MI_X7)) (some ()) := by
  refine XE_aload_n (n := 21) dX7_init_20 rfl rfl rfl ?_
  refine XE_bipush (v := 7) (n := 23) dX7_init_21 rfl (by decide) ?_
  refine XE_newa (key := 3) (N := 7) (shs2 := SG_X7_6) xa_int rfl (by decide +kernel) (by decide +kernel) (by decide) (by decide) ⟨Nat.le_of_ble_eq_true rfl, Nat.le_of_ble_eq_true rfl⟩ (Nat.le_of_ble_eq_true rfl) (x_sse_eq (by decide +kernel)) dX7_init_23 rfl ?_
  refine XE_cputr (i := 0) (κs := [0, 4, 5, 1, 1, 1, 1, 1, 1, 0, 0, 1, 0, 0, 0, 1, 1, 0, 0, 0, 0, 1, 1, 1, 1, 1, 0, 0, 0, 1, 1, 1, 0, 1, 1, 1, 1, 0, 0]) (shs2 := SG_X7_7) xf_X7_16 (Or.inl ⟨_, rfl⟩) (x_atb_eq (by decide +kernel)) (Nat.le_of_ble_eq_true rfl) rfl (x_sse_eq (by decide +kernel)) dX7_init_25 (n := 28) rfl ?_
  exact xs_X7_init_4 B hN
set_option maxRecDepth 100000 in
theorem xs_X7_init_2 (B : XB) (hN : XNb B) : XE B M_X7_init (XQm B 22 1133 SI_X7) 12 [(0, some (.ref 0))] [] (1, 7) SG_X7_3 [z_] (fun _ : Unit => some (none, MI_X7)) (some ()) := by
  refine XE_aload_n (n := 13) dX7_init_12 rfl rfl rfl ?_
  refine XE_bipush (v := 7) (n := 15) dX7_init_13 rfl (by decide) ?_
  refine XE_newa (key := 2) (N := 7) (shs2 := SG_X7_4) xa_int rfl (by decide +kernel) (by decide +kernel) (by decide) (by decide) ⟨Nat.le_of_ble_eq_true rfl, Nat.le_of_ble_eq_true rfl⟩ (Nat.le_of_ble_eq_true rfl) (x_sse_eq (by decide +kernel)) dX7_init_15 rfl ?_
  refine XE_cputr (i := 0) (κs := [0, 4, 1, 1, 1, 1, 1, 1, 1, 0, 0, 1, 0, 0, 0, 1, 1, 0, 0, 0, 0, 1, 1, 1, 1, 1, 0, 0, 0, 1, 1, 1, 0, 1, 1, 1, 1, 0, 0]) (shs2 := SG_X7_5) xf_X7_13 (Or.inl ⟨_, rfl⟩) (x_atb_eq (by decide +kernel)) (Nat.le_of_ble_eq_true rfl) rfl (x_sse_eq (by decide +kernel)) dX7_init_17 (n := 20) rfl ?_
  exact xs_X7_init_3 B hN
set_option maxRecDepth 100000 in
theorem xs_X7_init_1 (B : XB) (hN : XNb B) : XE B M_X7_init (XQm B 22 1133 SI_X7) 4 [(0, some (.ref 0))] [] (0, 0) SG_X7_1 [z_] (fun _ : Unit => some (none, MI_X7)) (some ()) := by
  refine XE_aload_n (n := 5) dX7_init_4 rfl rfl rfl ?_
  refine XE_bipush (v := 7) (n := 7) dX7_init_5 rfl (by decide) ?_
  refine XE_newa (key := 1) (N := 7) (shs2 := SG_X7_2) xa_int rfl (by decide +kernel) (by decide +kernel) (by decide) (by decide) ⟨Nat.le_of_ble_eq_true rfl, Nat.le_of_ble_eq_true rfl⟩ (Nat.le_of_ble_eq_true rfl) (x_sse_eq (by decide +kernel)) dX7_init_7 rfl ?_
  refine XE_cputr (i := 0) (κs := [0, 1, 1, 1, 1, 1, 1, 1, 1, 0, 0, 1, 0, 0, 0, 1, 1, 0, 0, 0, 0, 1, 1, 1, 1, 1, 0, 0, 0, 1, 1, 1, 0, 1, 1, 1, 1, 0, 0]) (shs2 := SG_X7_3) xf_X7_7 (Or.inl ⟨_, rfl⟩) (x_atb_eq (by decide +kernel)) (Nat.le_of_ble_eq_true rfl) rfl (x_sse_eq (by decide +kernel)) dX7_init_9 (n := 12) rfl ?_
  exact xs_X7_init_2 B hN
set_option maxRecDepth 100000 in
theorem xs_X7_init_0 (B : XB) (hN : XNb B) : XE B M_X7_init (XQm B 22 1133 SI_X7) 0 [(0, some (.ref 0))] [] (0, 0) SG_X7_1 [z_] (fun _ : Unit => some (none, MI_X7)) (some ()) := by
  refine XE_aload_n (n := 1) dX7_init_0 rfl rfl rfl ?_
  refine XE_objInit (n := 4) xo_X7_1 xo_i xo_c (Nat.le_of_ble_eq_true rfl) (Nat.le_of_ble_eq_true rfl) dX7_init_1 rfl ?_
  exact xs_X7_init_1 B hN
theorem xe_X7_init (B : XB) (hN : XNb B) : XE B M_X7_init (XQm B 22 1133 SI_X7) 0 [(0, some (.ref 0))] [] (0, 0) [(0, .inr (.inr (6, [0, 1, 1, 1, 1, 1, 1, 1, 1, 0, 0, 1, 0, 0, 0, 1, 1, 0, 0, 0, 0, 1, 1, 1, 1, 1, 0, 0, 0, 1, 1, 1, 0, 1, 1, 1, 1, 0, 0])))] [z_] (fun _ : Unit => some (none, MI_X7)) (some ()) := xs_X7_init_0 B hN
theorem met_X7_init (l : Launch) : XMetA l yX7_init cX7_init 1 1 22 1133 [.ref 0] [(0, .inr (.inr (6, [0, 1, 1, 1, 1, 1, 1, 1, 1, 0, 0, 1, 0, 0, 0, 1, 1, 0, 0, 0, 0, 1, 1, 1, 1, 1, 0, 0, 0, 1, 1, 1, 0, 1, 1, 1, 1, 0, 0])))] [z_] SI_X7 (none, MI_X7) := XMetA.of (k := fun _ : Unit => some (none, MI_X7)) (o := some ()) (by decide +kernel) (fun _ => Nat.le_of_ble_eq_true rfl) (fun B hN => xe_X7_init B hN) rfl
