/-! THE CLAIM OUT OF ONE WALK OF THE LAW'S BODY. Your part is whole_start (and what it stands on); all else here is the same for every law, but numbers. -/
def R_law : String := "EveryTwentyMinutesLaw"
def lw_P (b : Addr) (xs : List Int32) (args : Array Value) (s : State) : Prop := args = #[.ref b] ∧ s.IntsAt b xs ∧ xs.length ≤ 2560 ∧ (Jvm.Cond.and given_1 narrow_1).before args s = true
def lw_Q (_ : Array Value) (s : State) (o : Outcome) (t : State) : Prop := o = .returned (some (.int 1)) ∧ Framed s o t [] 600000 7302250
def lw_Z (below : List Frame) (a : Array Value) (s : State) : State → Prop := fun t => ∃ o, t.status = .running ∧ Ended t below o ∧ lw_Q a s o t
/-- the law's own end, with 1 on the stack, nothing written that was there before, its room as the claim has it -/
theorem lw_ret {p : Program} {l : Launch} {e : Env} {s : State} {m : MethodId} {below : List Frame} {meth : Method} {c : Code} {b : Nat} (hx : p.tables.exec = Jvm.exec) (hb : c.code = code) (hr : meth.sig.returnType = ret) (hlocks : meth.locks = false) {pc : Nat} {H : Heap} {ls : Array Slot} (hdg : decode code pc = .ok (.ireturn, 1)) : W p l e room_1 s m #[Value.ref b] below meth c H [] 600000 7302250 (lw_Z below #[Value.ref b] s) (F0 m pc ls [.int 1]) := by
  intro T hT X
  obtain ⟨fs, hret, hrun, hended, hW, hframe⟩ := X.leave (v := some (.int 1)) (hlocks := hlocks) (fun h => by rw [hr] at h; cases h)
  have hmeth' : T.vm.method? m = some meth := X.method'
  refine ⟨T.setFrames fs, ?_, .returned (some (.int 1)), hrun, hended, rfl, ⟨_, rfl⟩, hW, hframe⟩
  jvm_step X.here [X.here.top, hx, hb, hdg, hmeth', hr, ret, narrow_b1]
  (try refine ⟨rfl, ?_⟩); (try refine ⟨rfl, ?_⟩)
  first | (intro acts; rw [hret _ acts rfl rfl rfl]) | rw [hret _ _ rfl rfl rfl]
  exact Steps.refl _
/-- what holds at the law's entry: the machine, the code, the tables' words (any of lw_tbl by 'hts w (by decide +kernel)'), the script of L ints xs at the cell b, what the Statement gives of the start (any of its parts by flat_of_before) -/
def lw_At (p : Program) (s : State) (m : MethodId) (meth : Method) (c : Code) (b L : Nat) (xs : Nat → Int32) : Prop :=
  p.tables.exec = Jvm.exec ∧ c.code = code ∧ meth.sig.returnType = ret ∧ c.maxLocals = 4 ∧ s.vm.findClass R_law = some m.cls ∧ (∀ w ∈ lw_tbl, w.before #[Value.ref b] s = true) ∧ va_X b L xs s s.heap ∧ b < s.heap.size ∧ meth.locks = false ∧ (Jvm.Cond.and given_1 narrow_1).before #[Value.ref b] s = true
/-! THE LAW: its calls, its loop, its start -/
def SH_XM : XSs := [(0, .inr (.inr (5, [67, 131, 195, 0, 259, 835, 899, 1027, 4, 0, 5]))), (1, .inl 12), (2, .inl 7), (64, .inr (.inr (2, [0, 68, 69, 70, 0, 71, 72, 73, 0, 74, 0, 75, 0, 0]))), (65, .inl 7), (66, .inl 7), (67, .inl 7), (68, .inl 7), (69, .inl 7), (70, .inl 7), (71, .inl 7), (72, .inl 2), (128, .inr (.inr (2, [0, 132, 133, 134, 0, 135, 136, 137, 0, 138, 0, 139, 0, 0]))), (129, .inl 7), (130, .inl 7), (131, .inl 7), (132, .inl 7), (133, .inl 7), (134, .inl 7), (135, .inl 7), (136, .inl 2), (192, .inr (.inr (2, [0, 196, 197, 198, 0, 199, 200, 201, 0, 202, 0, 203, 0, 0]))), (193, .inl 7), (194, .inl 7), (195, .inl 7), (196, .inl 7), (197, .inl 7), (198, .inl 7), (199, .inl 7), (200, .inl 2), (256, .inr (.inr (4, [260, 0, 0]))), (257, .inr (.inl [321, 385, 449, 513, 577, 641, 705, 769])), (320, .inr (.inr (2, [0, 324, 325, 326, 0, 327, 328, 329, 0, 330, 0, 331, 0, 0]))), (321, .inl 7), (322, .inl 7), (323, .inl 7), (324, .inl 7), (325, .inl 7), (326, .inl 7), (327, .inl 7), (328, .inl 2), (384, .inr (.inr (2, [0, 388, 389, 390, 0, 391, 392, 393, 0, 394, 0, 395, 0, 0]))), (385, .inl 7), (386, .inl 7), (387, .inl 7), (388, .inl 7), (389, .inl 7), (390, .inl 7), (391, .inl 7), (392, .inl 2), (448, .inr (.inr (2, [0, 452, 453, 454, 0, 455, 456, 457, 0, 458, 0, 459, 0, 0]))), (449, .inl 7), (450, .inl 7), (451, .inl 7), (452, .inl 7), (453, .inl 7), (454, .inl 7), (455, .inl 7), (456, .inl 2), (512, .inr (.inr (2, [0, 516, 517, 518, 0, 519, 520, 521, 0, 522, 0, 523, 0, 0]))), (513, .inl 7), (514, .inl 7), (515, .inl 7), (516, .inl 7), (517, .inl 7), (518, .inl 7), (519, .inl 7), (520, .inl 2), (576, .inr (.inr (2, [0, 580, 581, 582, 0, 583, 584, 585, 0, 586, 0, 587, 0, 0]))), (577, .inl 7), (578, .inl 7), (579, .inl 7), (580, .inl 7), (581, .inl 7), (582, .inl 7), (583, .inl 7), (584, .inl 2), (640, .inr (.inr (2, [0, 644, 645, 646, 0, 647, 648, 649, 0, 650, 0, 651, 0, 0]))), (641, .inl 7), (642, .inl 7), (643, .inl 7), (644, .inl 7), (645, .inl 7), (646, .inl 7), (647, .inl 7), (648, .inl 2), (704, .inr (.inr (2, [0, 708, 709, 710, 0, 711, 712, 713, 0, 714, 0, 715, 0, 0]))), (705, .inl 7), (706, .inl 7), (707, .inl 7), (708, .inl 7), (709, .inl 7), (710, .inl 7), (711, .inl 7), (712, .inl 2), (768, .inr (.inr (2, [0, 772, 773, 774, 0, 775, 776, 777, 0, 778, 0, 779, 0, 0]))), (769, .inl 7), (770, .inl 7), (771, .inl 7), (772, .inl 7), (773, .inl 7), (774, .inl 7), (775, .inl 7), (776, .inl 2), (832, .inr (.inr (3, [836, 0]))), (833, .inl 96), (896, .inr (.inr (0, [963, 900, 901, 0, 0]))), (897, .inl 7), (898, .inl 7), (960, .inr (.inr (2, [0, 964, 965, 966, 0, 967, 968, 969, 0, 970, 0, 971, 0, 0]))), (961, .inl 7), (962, .inl 7), (963, .inl 7), (964, .inl 7), (965, .inl 7), (966, .inl 7), (967, .inl 7), (968, .inl 2), (1024, .inr (.inr (1, [1028, 0, 0]))), (1025, .inl 7), (1088, .inr (.inr (6, [0, 1092, 1093, 1094, 1095, 1096, 1097, 1098, 1099, 0, 0, 1100, 0, 0, 0, 1101, 1102, 0, 0, 0, 0, 1103, 1104, 1105, 1106, 1107, 0, 0, 0, 2, 1108, 1109, 0, 1110, 1111, 1112, 1113, 0, 0]))), (1089, .inl 7), (1090, .inl 7), (1091, .inl 7), (1092, .inl 7), (1093, .inl 7), (1094, .inl 7), (1095, .inl 7), (1096, .inl 7), (1097, .inl 2), (1098, .inl 7), (1099, .inl 96), (1100, .inl 49), (1101, .inl 49), (1102, .inl 147), (1103, .inl 63), (1104, .inl 63), (1105, .inl 504), (1106, .inl 63), (1107, .inl 7), (1108, .inl 7), (1109, .inl 8), (1110, .inl 12)]
/-- what the law's own frame knows: the script, and that nothing older changes -/
def XSc (B : XB) (L : Nat) (sc : Nat → Int32) : Prop := match B with
  | (_, _, _, Rm, s, _, args, _, _, _, _, _, A, H0, ad0, shs0) => args = #[.ref (ad0 4095)] ∧ Rm = room_1 ∧ (∀ q, A q → s.heap.size ≤ q) ∧ va_X (ad0 4095) L sc s H0 ∧ ad0 4095 < H0.size ∧ H0 = s.heap
def XZ (B : XB) : State → Prop := match B with
  | (_, _, _, _, s, _, args, below, _, _, _, _, _, _, _, _) => lw_Z below args s
theorem XE_sld {α R : Type} {B : XB} {M : XM} {Q : R → State → Prop} {pc n : Nat} {ls : XLs} {st : List Value} {cs : Nat × Nat} {shs : XSs} {hs : List Mem} {k : α → Option R} {o : Option α} {L : Nat} {sc : Nat → Int32} {i : Int32} (hSc : XSc B L sc) (h4 : x_lk shs 4095 = none) (hd : decode M.2.1 pc = .ok (.iaload, 1)) (hn : pc + 1 = n) (kk : XE B M Q n ls (.int (sc (ix i)) :: st) cs shs hs k o) : XE B M Q pc ls (.int i :: .ref 4095 :: st) cs shs hs k (ck (inb i L) o) := by
  subst hn
  refine XE_ck (fun hi => ?_)
  obtain ⟨p, l, e, Rm, s, m, args, below, meth, c, D, cc, A, H0, ad0, shs0⟩ := B
  obtain ⟨-, -, hAq, hX, hbl, hH0⟩ := hSc
  intro hO ad H locs lsA hP hD hS hA hL r hr
  have h4' : ad 4095 = ad0 4095 := hA.2 4095 (Or.inr h4)
  show W _ _ _ _ _ _ _ _ _ _ _ _ _ _ _ (F0 m pc lsA (.int i :: .ref (ad 4095) :: st.map (x_cv ad)))
  rw [h4']
  exact va_sld hO.1 hO.2.1 hX hbl (fun h => absurd (hAq _ h) (by rw [← hH0]; omega)) hS (inb_in hi) hd (kk hO ad H locs lsA hP hD hS hA hL r hr)
theorem XE_slen {α R : Type} {B : XB} {M : XM} {Q : R → State → Prop} {pc n : Nat} {ls : XLs} {st : List Value} {cs : Nat × Nat} {shs : XSs} {hs : List Mem} {k : α → Option R} {o : Option α} {L : Nat} {sc : Nat → Int32} (hSc : XSc B L sc) (h4 : x_lk shs 4095 = none) (hd : decode M.2.1 pc = .ok (.arraylength, 1)) (hn : pc + 1 = n) (kk : XE B M Q n ls (.int (Int32.ofNat L) :: st) cs shs hs k o) : XE B M Q pc ls (.ref 4095 :: st) cs shs hs k o := by
  subst hn
  obtain ⟨p, l, e, Rm, s, m, args, below, meth, c, D, cc, A, H0, ad0, shs0⟩ := B
  obtain ⟨-, -, hAq, hX, hbl, hH0⟩ := hSc
  intro hO ad H locs lsA hP hD hS hA hL r hr
  have h4' : ad 4095 = ad0 4095 := hA.2 4095 (Or.inr h4)
  show W _ _ _ _ _ _ _ _ _ _ _ _ _ _ _ (F0 m pc lsA (.ref (ad 4095) :: st.map (x_cv ad)))
  rw [h4']
  exact va_slen hO.1 hO.2.1 hX hbl (fun h => absurd (hAq _ h) (by rw [← hH0]; omega)) hS hd (kk hO ad H locs lsA hP hD hS hA hL r hr)
theorem XE_lawend {B : XB} {M : XM} {pc : Nat} {ls : XLs} {c0 s0 : Nat} {shs : XSs} {hs : List Mem} {L : Nat} {sc : Nat → Int32} (hSc : XSc B L sc) (hM : M.2.1 = code) (hR : M.2.2.2.1 = ret) (hc : c0 ≤ 600000 ∧ s0 ≤ 7302250) (hd : decode code pc = .ok (.ireturn, 1)) : XE B M (fun _ : Unit => XZ B) pc ls [.int 1] (c0, s0) shs hs (fun t : Unit => some t) (some ()) := by
  obtain ⟨p, l, e, Rm, s, m, args, below, meth, c, D, cc, A, H0, ad0, shs0⟩ := B
  obtain ⟨hargs, hroom, hAq, hX, hbl, hH0⟩ := hSc
  intro hO ad H locs lsA hP hD hS hA hL r hr
  subst hargs
  subst hroom
  refine va_forget (fun q hq => hAq _ (hS.2.2 q hq)) ?_
  refine W.widen (k := 600000) (n := 7302250) hc.1 hc.2 ?_
  exact lw_ret hO.1 (hO.2.1.trans hM) (hO.2.2.2.2.2.2.2.1.trans hR) hO.2.2.2.2.2.2.2.2.2.1 hd
set_option maxRecDepth 100000 in
theorem ok_41 : x_okc [0, 1, 2, 3, 4, 5, 6, 7, 8, 9, 10, 11, 12, 13, 14, 15, 16] SH_X SH_XM = true := by decide +kernel
set_option maxRecDepth 100000 in
theorem ok_42 : x_okc [17] SH_M SH_XM = true := by decide +kernel
abbrev M_law (nm : String) : XM := (RL, cL_law, 4, ret, nm, 15, 143, 2120)
set_option maxRecDepth 100000 in
theorem law_next {K : Int32 → Mem → Mem → Mem → Mem → Mem → Mem → Mem → Mem → Mem → Mem → Mem → Mem → Mem → Mem → Mem → Mem → Mem → Mem → Option Unit} (B : XB) (nm : String) (hK : ∀ (v3 : Int32) (m0 : Mem) (m1 : Mem) (m2 : Mem) (m3 : Mem) (m4 : Mem) (m5 : Mem) (m6 : Mem) (m7 : Mem) (m8 : Mem) (m9 : Mem) (m10 : Mem) (m11 : Mem) (m12 : Mem) (m13 : Mem) (m14 : Mem) (m15 : Mem) (m16 : Mem) (m17 : Mem), XE B (M_law nm) (fun _ : Unit => XZ B) 18 [(0, some (.ref 4095)), (1, some (.ref 0)), (2, some (.ref 1088)), (3, some (.int v3))] [] (143, 2120) SH_XM [m0, m1, m2, m3, m4, m5, m6, m7, m8, m9, m10, m11, m12, m13, m14, m15, m16, m17] (fun t : Unit => some t) (K v3 m0 m1 m2 m3 m4 m5 m6 m7 m8 m9 m10 m11 m12 m13 m14 m15 m16 m17)) (v3 : Int32) (m0 : Mem) (m1 : Mem) (m2 : Mem) (m3 : Mem) (m4 : Mem) (m5 : Mem) (m6 : Mem) (m7 : Mem) (m8 : Mem) (m9 : Mem) (m10 : Mem) (m11 : Mem) (m12 : Mem) (m13 : Mem) (m14 : Mem) (m15 : Mem) (m16 : Mem) (m17 : Mem) : XE B (M_law nm) (fun _ : Unit => XZ B) 1252 [(0, some (.ref 4095)), (1, some (.ref 0)), (2, some (.ref 1088)), (3, some (.int v3))] [] (143, 2120) SH_XM [m0, m1, m2, m3, m4, m5, m6, m7, m8, m9, m10, m11, m12, m13, m14, m15, m16, m17] (fun t : Unit => some t) (lt (v3 + 5) fun v4 => K v4 m0 m1 m2 m3 m4 m5 m6 m7 m8 m9 m10 m11 m12 m13 m14 m15 m16 m17) := by
  refine XE_iincl (n := 1255) dL_law_1252 rfl rfl (by decide) (Nat.le_of_ble_eq_true rfl) rfl (fun v4 => ?_)
  refine XE_ls (x_sub_ok (ls' := [(0, some (.ref 4095)), (1, some (.ref 0)), (2, some (.ref 1088)), (3, some (.int v4))]) ⟨rfl, rfl, rfl, rfl, trivial⟩) ?_
  refine XE_goto (n := 18) dL_law_1255 rfl ?_
  exact hK v4 m0 m1 m2 m3 m4 m5 m6 m7 m8 m9 m10 m11 m12 m13 m14 m15 m16 m17
def f_law_C0 (K : Int32 → Mem → Mem → Mem → Mem → Mem → Mem → Mem → Mem → Mem → Mem → Mem → Mem → Mem → Mem → Mem → Mem → Mem → Mem → Option Unit) (L : Nat) (sc : Nat → Int32) (v3 : Int32) (m0 : Mem) (m1 : Mem) (m2 : Mem) (m3 : Mem) (m4 : Mem) (m5 : Mem) (m6 : Mem) (m7 : Mem) (m8 : Mem) (m9 : Mem) (m10 : Mem) (m11 : Mem) (m12 : Mem) (m13 : Mem) (m14 : Mem) (m15 : Mem) (m16 : Mem) (m17 : Mem) : Option Unit :=
  ck (inb (v3 + 1) L) <|
  (f_X6_feed m0 m13 (sc (ix (v3 + 1)))).bind fun t1 =>
  ck (inb (v3 + 1) L) <|
  (f_X7_feed m17 (sc (ix (v3 + 1)))).bind fun t2 =>
  if t1.1 = t2.1 then lt (v3 + 5) fun v4 => K v4 t1.2.1 m1 m2 m3 m4 m5 m6 m7 m8 m9 m10 m11 m12 t1.2.2 m14 m15 m16 t2.2 else none
def f_law_C1 (K : Int32 → Mem → Mem → Mem → Mem → Mem → Mem → Mem → Mem → Mem → Mem → Mem → Mem → Mem → Mem → Mem → Mem → Mem → Mem → Option Unit) (L : Nat) (sc : Nat → Int32) (v3 : Int32) (m0 : Mem) (m1 : Mem) (m2 : Mem) (m3 : Mem) (m4 : Mem) (m5 : Mem) (m6 : Mem) (m7 : Mem) (m8 : Mem) (m9 : Mem) (m10 : Mem) (m11 : Mem) (m12 : Mem) (m13 : Mem) (m14 : Mem) (m15 : Mem) (m16 : Mem) (m17 : Mem) : Option Unit :=
  (f_X6_hall m0 m1 m2 m4 m13).bind fun t1 =>
  (f_X7_hall m17).bind fun t2 =>
  if t1.1 = t2.1 then lt (v3 + 5) fun v4 => K v4 m0 t1.2.1 t1.2.2.1 m3 t1.2.2.2.1 m5 m6 m7 m8 m9 m10 m11 m12 t1.2.2.2.2 m14 m15 m16 t2.2 else none
def f_law_C2 (K : Int32 → Mem → Mem → Mem → Mem → Mem → Mem → Mem → Mem → Mem → Mem → Mem → Mem → Mem → Mem → Mem → Mem → Mem → Mem → Option Unit) (L : Nat) (sc : Nat → Int32) (v3 : Int32) (m0 : Mem) (m1 : Mem) (m2 : Mem) (m3 : Mem) (m4 : Mem) (m5 : Mem) (m6 : Mem) (m7 : Mem) (m8 : Mem) (m9 : Mem) (m10 : Mem) (m11 : Mem) (m12 : Mem) (m13 : Mem) (m14 : Mem) (m15 : Mem) (m16 : Mem) (m17 : Mem) : Option Unit :=
  ck (inb (v3 + 1) L) <|
  ck (inb (v3 + 2) L) <|
  (f_X6_coupleOf m0 m1 (sc (ix (v3 + 1))) (sc (ix (v3 + 2)))).bind fun t1 =>
  ck (inb (v3 + 1) L) <|
  ck (inb (v3 + 2) L) <|
  (f_X7_coupleOf m17 (sc (ix (v3 + 1))) (sc (ix (v3 + 2)))).bind fun t2 =>
  if t1.1 = t2.1 then lt (v3 + 5) fun v4 => K v4 t1.2 m1 m2 m3 m4 m5 m6 m7 m8 m9 m10 m11 m12 m13 m14 m15 m16 t2.2 else none
def f_law_C3 (K : Int32 → Mem → Mem → Mem → Mem → Mem → Mem → Mem → Mem → Mem → Mem → Mem → Mem → Mem → Mem → Mem → Mem → Mem → Mem → Option Unit) (L : Nat) (sc : Nat → Int32) (v3 : Int32) (m0 : Mem) (m1 : Mem) (m2 : Mem) (m3 : Mem) (m4 : Mem) (m5 : Mem) (m6 : Mem) (m7 : Mem) (m8 : Mem) (m9 : Mem) (m10 : Mem) (m11 : Mem) (m12 : Mem) (m13 : Mem) (m14 : Mem) (m15 : Mem) (m16 : Mem) (m17 : Mem) : Option Unit :=
  ck (inb (v3 + 1) L) <|
  (f_X6_order m0 m1 (sc (ix (v3 + 1)))).bind fun t1 =>
  ck (inb (v3 + 1) L) <|
  (f_X7_order m17 (sc (ix (v3 + 1)))).bind fun t2 =>
  if t1.1 = t2.1 then lt (v3 + 5) fun v4 => K v4 t1.2 m1 m2 m3 m4 m5 m6 m7 m8 m9 m10 m11 m12 m13 m14 m15 m16 t2.2 else none
def f_law_C4 (K : Int32 → Mem → Mem → Mem → Mem → Mem → Mem → Mem → Mem → Mem → Mem → Mem → Mem → Mem → Mem → Mem → Mem → Mem → Mem → Option Unit) (L : Nat) (sc : Nat → Int32) (v3 : Int32) (m0 : Mem) (m1 : Mem) (m2 : Mem) (m3 : Mem) (m4 : Mem) (m5 : Mem) (m6 : Mem) (m7 : Mem) (m8 : Mem) (m9 : Mem) (m10 : Mem) (m11 : Mem) (m12 : Mem) (m13 : Mem) (m14 : Mem) (m15 : Mem) (m16 : Mem) (m17 : Mem) : Option Unit :=
  ck (inb (v3 + 1) L) <|
  (f_X6_free m0 m1 (sc (ix (v3 + 1)))).bind fun t1 =>
  ck (inb (v3 + 1) L) <|
  (f_X7_free m17 (sc (ix (v3 + 1)))).bind fun t2 =>
  if t1.1 = t2.1 then lt (v3 + 5) fun v4 => K v4 t1.2 m1 m2 m3 m4 m5 m6 m7 m8 m9 m10 m11 m12 m13 m14 m15 m16 t2.2 else none
def f_law_C5 (K : Int32 → Mem → Mem → Mem → Mem → Mem → Mem → Mem → Mem → Mem → Mem → Mem → Mem → Mem → Mem → Mem → Mem → Mem → Mem → Option Unit) (L : Nat) (sc : Nat → Int32) (v3 : Int32) (m0 : Mem) (m1 : Mem) (m2 : Mem) (m3 : Mem) (m4 : Mem) (m5 : Mem) (m6 : Mem) (m7 : Mem) (m8 : Mem) (m9 : Mem) (m10 : Mem) (m11 : Mem) (m12 : Mem) (m13 : Mem) (m14 : Mem) (m15 : Mem) (m16 : Mem) (m17 : Mem) : Option Unit :=
  ck (inb (v3 + 1) L) <|
  ck (inb (v3 + 2) L) <|
  ck (inb (v3 + 3) L) <|
  (f_X6_couple m0 m1 m4 (sc (ix (v3 + 1))) (sc (ix (v3 + 2))) (sc (ix (v3 + 3)))).bind fun t1 =>
  ck (inb (v3 + 1) L) <|
  ck (inb (v3 + 2) L) <|
  ck (inb (v3 + 3) L) <|
  (f_X7_couple m17 (sc (ix (v3 + 1))) (sc (ix (v3 + 2))) (sc (ix (v3 + 3)))).bind fun t2 =>
  if t1.1 = t2.1 then lt (v3 + 5) fun v4 => K v4 t1.2.1 t1.2.2.1 m2 m3 t1.2.2.2 m5 m6 m7 m8 m9 m10 m11 m12 m13 m14 m15 m16 t2.2 else none
def f_law_C6 (K : Int32 → Mem → Mem → Mem → Mem → Mem → Mem → Mem → Mem → Mem → Mem → Mem → Mem → Mem → Mem → Mem → Mem → Mem → Mem → Option Unit) (L : Nat) (sc : Nat → Int32) (v3 : Int32) (m0 : Mem) (m1 : Mem) (m2 : Mem) (m3 : Mem) (m4 : Mem) (m5 : Mem) (m6 : Mem) (m7 : Mem) (m8 : Mem) (m9 : Mem) (m10 : Mem) (m11 : Mem) (m12 : Mem) (m13 : Mem) (m14 : Mem) (m15 : Mem) (m16 : Mem) (m17 : Mem) : Option Unit :=
  ck (inb (v3 + 1) L) <|
  (f_X6_rooms m0 m1 m4 (sc (ix (v3 + 1)))).bind fun t1 =>
  ck (inb (v3 + 1) L) <|
  (f_X7_rooms m17 (sc (ix (v3 + 1)))).bind fun t2 =>
  if t1.1 = t2.1 then lt (v3 + 5) fun v4 => K v4 t1.2.1 t1.2.2.1 m2 m3 t1.2.2.2 m5 m6 m7 m8 m9 m10 m11 m12 m13 m14 m15 m16 t2.2 else none
def f_law_C7 (K : Int32 → Mem → Mem → Mem → Mem → Mem → Mem → Mem → Mem → Mem → Mem → Mem → Mem → Mem → Mem → Mem → Mem → Mem → Mem → Option Unit) (L : Nat) (sc : Nat → Int32) (v3 : Int32) (m0 : Mem) (m1 : Mem) (m2 : Mem) (m3 : Mem) (m4 : Mem) (m5 : Mem) (m6 : Mem) (m7 : Mem) (m8 : Mem) (m9 : Mem) (m10 : Mem) (m11 : Mem) (m12 : Mem) (m13 : Mem) (m14 : Mem) (m15 : Mem) (m16 : Mem) (m17 : Mem) : Option Unit :=
  ck (inb (v3 + 1) L) <|
  (f_X6_weds m0 m1 m4 m5 m6 m7 m8 m9 m10 m11 m12 (sc (ix (v3 + 1)))).bind fun t1 =>
  ck (inb (v3 + 1) L) <|
  (f_X7_weds m17 (sc (ix (v3 + 1)))).bind fun t2 =>
  if t1.1 = t2.1 then lt (v3 + 5) fun v4 => K v4 t1.2.1 t1.2.2.1 m2 m3 t1.2.2.2.1 t1.2.2.2.2.1 t1.2.2.2.2.2.1 t1.2.2.2.2.2.2.1 t1.2.2.2.2.2.2.2.1 t1.2.2.2.2.2.2.2.2.1 t1.2.2.2.2.2.2.2.2.2.1 t1.2.2.2.2.2.2.2.2.2.2.1 t1.2.2.2.2.2.2.2.2.2.2.2 m13 m14 m15 m16 t2.2 else none
def f_law_C8 (K : Int32 → Mem → Mem → Mem → Mem → Mem → Mem → Mem → Mem → Mem → Mem → Mem → Mem → Mem → Mem → Mem → Mem → Mem → Mem → Option Unit) (L : Nat) (sc : Nat → Int32) (v3 : Int32) (m0 : Mem) (m1 : Mem) (m2 : Mem) (m3 : Mem) (m4 : Mem) (m5 : Mem) (m6 : Mem) (m7 : Mem) (m8 : Mem) (m9 : Mem) (m10 : Mem) (m11 : Mem) (m12 : Mem) (m13 : Mem) (m14 : Mem) (m15 : Mem) (m16 : Mem) (m17 : Mem) : Option Unit :=
  ck (inb (v3 + 1) L) <|
  (f_X6_pulls m0 m1 m4 m5 m6 m7 m8 m9 m10 m11 m12 (sc (ix (v3 + 1)))).bind fun t1 =>
  ck (inb (v3 + 1) L) <|
  (f_X7_pulls m17 (sc (ix (v3 + 1)))).bind fun t2 =>
  if t1.1 = t2.1 then lt (v3 + 5) fun v4 => K v4 t1.2.1 t1.2.2.1 m2 m3 t1.2.2.2.1 t1.2.2.2.2.1 t1.2.2.2.2.2.1 t1.2.2.2.2.2.2.1 t1.2.2.2.2.2.2.2.1 t1.2.2.2.2.2.2.2.2.1 t1.2.2.2.2.2.2.2.2.2.1 t1.2.2.2.2.2.2.2.2.2.2.1 t1.2.2.2.2.2.2.2.2.2.2.2 m13 m14 m15 m16 t2.2 else none
def f_law_C9 (K : Int32 → Mem → Mem → Mem → Mem → Mem → Mem → Mem → Mem → Mem → Mem → Mem → Mem → Mem → Mem → Mem → Mem → Mem → Mem → Option Unit) (L : Nat) (sc : Nat → Int32) (v3 : Int32) (m0 : Mem) (m1 : Mem) (m2 : Mem) (m3 : Mem) (m4 : Mem) (m5 : Mem) (m6 : Mem) (m7 : Mem) (m8 : Mem) (m9 : Mem) (m10 : Mem) (m11 : Mem) (m12 : Mem) (m13 : Mem) (m14 : Mem) (m15 : Mem) (m16 : Mem) (m17 : Mem) : Option Unit :=
  ck (inb (v3 + 1) L) <|
  (f_X6_slack m0 m1 m4 m5 m6 m7 m8 m9 m10 m11 m12 (sc (ix (v3 + 1)))).bind fun t1 =>
  ck (inb (v3 + 1) L) <|
  (f_X7_slack m17 (sc (ix (v3 + 1)))).bind fun t2 =>
  if t1.1 = t2.1 then lt (v3 + 5) fun v4 => K v4 t1.2.1 t1.2.2.1 m2 m3 t1.2.2.2.1 t1.2.2.2.2.1 t1.2.2.2.2.2.1 t1.2.2.2.2.2.2.1 t1.2.2.2.2.2.2.2.1 t1.2.2.2.2.2.2.2.2.1 t1.2.2.2.2.2.2.2.2.2.1 t1.2.2.2.2.2.2.2.2.2.2.1 t1.2.2.2.2.2.2.2.2.2.2.2 m13 m14 m15 m16 t2.2 else none
def f_law_C10 (K : Int32 → Mem → Mem → Mem → Mem → Mem → Mem → Mem → Mem → Mem → Mem → Mem → Mem → Mem → Mem → Mem → Mem → Mem → Mem → Option Unit) (L : Nat) (sc : Nat → Int32) (v3 : Int32) (m0 : Mem) (m1 : Mem) (m2 : Mem) (m3 : Mem) (m4 : Mem) (m5 : Mem) (m6 : Mem) (m7 : Mem) (m8 : Mem) (m9 : Mem) (m10 : Mem) (m11 : Mem) (m12 : Mem) (m13 : Mem) (m14 : Mem) (m15 : Mem) (m16 : Mem) (m17 : Mem) : Option Unit :=
  ck (inb (v3 + 1) L) <|
  (f_X6_rests m0 m1 m4 m5 m6 m7 m8 m9 m10 m11 m12 (sc (ix (v3 + 1)))).bind fun t1 =>
  ck (inb (v3 + 1) L) <|
  (f_X7_rests m17 (sc (ix (v3 + 1)))).bind fun t2 =>
  if t1.1 = t2.1 then lt (v3 + 5) fun v4 => K v4 t1.2.1 t1.2.2.1 m2 m3 t1.2.2.2.1 t1.2.2.2.2.1 t1.2.2.2.2.2.1 t1.2.2.2.2.2.2.1 t1.2.2.2.2.2.2.2.1 t1.2.2.2.2.2.2.2.2.1 t1.2.2.2.2.2.2.2.2.2.1 t1.2.2.2.2.2.2.2.2.2.2.1 t1.2.2.2.2.2.2.2.2.2.2.2 m13 m14 m15 m16 t2.2 else none
def f_law_C11 (K : Int32 → Mem → Mem → Mem → Mem → Mem → Mem → Mem → Mem → Mem → Mem → Mem → Mem → Mem → Mem → Mem → Mem → Mem → Mem → Option Unit) (L : Nat) (sc : Nat → Int32) (v3 : Int32) (m0 : Mem) (m1 : Mem) (m2 : Mem) (m3 : Mem) (m4 : Mem) (m5 : Mem) (m6 : Mem) (m7 : Mem) (m8 : Mem) (m9 : Mem) (m10 : Mem) (m11 : Mem) (m12 : Mem) (m13 : Mem) (m14 : Mem) (m15 : Mem) (m16 : Mem) (m17 : Mem) : Option Unit :=
  (f_X6_back m0 m1 m4 m5 m6 m7 m8 m9 m10 m11 m12).bind fun t1 =>
  (f_X7_back m17).bind fun t2 =>
  if t1.1 = t2.1 then lt (v3 + 5) fun v4 => K v4 t1.2.1 t1.2.2.1 m2 m3 t1.2.2.2 m5 m6 m7 m8 m9 m10 m11 m12 m13 m14 m15 m16 t2.2 else none
def f_law_C12 (K : Int32 → Mem → Mem → Mem → Mem → Mem → Mem → Mem → Mem → Mem → Mem → Mem → Mem → Mem → Mem → Mem → Mem → Mem → Mem → Option Unit) (L : Nat) (sc : Nat → Int32) (v3 : Int32) (m0 : Mem) (m1 : Mem) (m2 : Mem) (m3 : Mem) (m4 : Mem) (m5 : Mem) (m6 : Mem) (m7 : Mem) (m8 : Mem) (m9 : Mem) (m10 : Mem) (m11 : Mem) (m12 : Mem) (m13 : Mem) (m14 : Mem) (m15 : Mem) (m16 : Mem) (m17 : Mem) : Option Unit :=
  ck (inb (v3 + 1) L) <|
  ck (inb (v3 + 2) L) <|
  (f_X6_when m0 m1 m2 (sc (ix (v3 + 1))) (sc (ix (v3 + 2)))).bind fun t1 =>
  ck (inb (v3 + 1) L) <|
  ck (inb (v3 + 2) L) <|
  (f_X7_when m17 (sc (ix (v3 + 1))) (sc (ix (v3 + 2)))).bind fun t2 =>
  if t1.1 = t2.1 then lt (v3 + 5) fun v4 => K v4 t1.2.1 m1 t1.2.2 m3 m4 m5 m6 m7 m8 m9 m10 m11 m12 m13 m14 m15 m16 t2.2 else none
def f_law_C13 (K : Int32 → Mem → Mem → Mem → Mem → Mem → Mem → Mem → Mem → Mem → Mem → Mem → Mem → Mem → Mem → Mem → Mem → Mem → Mem → Option Unit) (L : Nat) (sc : Nat → Int32) (v3 : Int32) (m0 : Mem) (m1 : Mem) (m2 : Mem) (m3 : Mem) (m4 : Mem) (m5 : Mem) (m6 : Mem) (m7 : Mem) (m8 : Mem) (m9 : Mem) (m10 : Mem) (m11 : Mem) (m12 : Mem) (m13 : Mem) (m14 : Mem) (m15 : Mem) (m16 : Mem) (m17 : Mem) : Option Unit :=
  ck (inb (v3 + 1) L) <|
  (f_X6_waits m0 m1 m2 (sc (ix (v3 + 1)))).bind fun t1 =>
  ck (inb (v3 + 1) L) <|
  (f_X7_waits m17 (sc (ix (v3 + 1)))).bind fun t2 =>
  if t1.1 = t2.1 then lt (v3 + 5) fun v4 => K v4 t1.2.1 m1 t1.2.2 m3 m4 m5 m6 m7 m8 m9 m10 m11 m12 m13 m14 m15 m16 t2.2 else none
def f_law_C14 (K : Int32 → Mem → Mem → Mem → Mem → Mem → Mem → Mem → Mem → Mem → Mem → Mem → Mem → Mem → Mem → Mem → Mem → Mem → Mem → Option Unit) (L : Nat) (sc : Nat → Int32) (v3 : Int32) (m0 : Mem) (m1 : Mem) (m2 : Mem) (m3 : Mem) (m4 : Mem) (m5 : Mem) (m6 : Mem) (m7 : Mem) (m8 : Mem) (m9 : Mem) (m10 : Mem) (m11 : Mem) (m12 : Mem) (m13 : Mem) (m14 : Mem) (m15 : Mem) (m16 : Mem) (m17 : Mem) : Option Unit :=
  ck (inb (v3 + 1) L) <|
  (f_X6_all m0 m1 m2 (sc (ix (v3 + 1)))).bind fun t1 =>
  ck (inb (v3 + 1) L) <|
  (f_X7_all m17 (sc (ix (v3 + 1)))).bind fun t2 =>
  if t1.1 = t2.1 then lt (v3 + 5) fun v4 => K v4 t1.2.1 m1 t1.2.2 m3 m4 m5 m6 m7 m8 m9 m10 m11 m12 m13 m14 m15 m16 t2.2 else none
def f_law_C15 (K : Int32 → Mem → Mem → Mem → Mem → Mem → Mem → Mem → Mem → Mem → Mem → Mem → Mem → Mem → Mem → Mem → Mem → Mem → Mem → Option Unit) (L : Nat) (sc : Nat → Int32) (v3 : Int32) (m0 : Mem) (m1 : Mem) (m2 : Mem) (m3 : Mem) (m4 : Mem) (m5 : Mem) (m6 : Mem) (m7 : Mem) (m8 : Mem) (m9 : Mem) (m10 : Mem) (m11 : Mem) (m12 : Mem) (m13 : Mem) (m14 : Mem) (m15 : Mem) (m16 : Mem) (m17 : Mem) : Option Unit :=
  ck (inb (v3 + 1) L) <|
  (f_X6_met m0 m1 m2 (sc (ix (v3 + 1)))).bind fun t1 =>
  ck (inb (v3 + 1) L) <|
  (f_X7_met m17 (sc (ix (v3 + 1)))).bind fun t2 =>
  if t1.1 = t2.1 then lt (v3 + 5) fun v4 => K v4 t1.2.1 m1 t1.2.2 m3 m4 m5 m6 m7 m8 m9 m10 m11 m12 m13 m14 m15 m16 t2.2 else none
def f_law_C16 (K : Int32 → Mem → Mem → Mem → Mem → Mem → Mem → Mem → Mem → Mem → Mem → Mem → Mem → Mem → Mem → Mem → Mem → Mem → Mem → Option Unit) (L : Nat) (sc : Nat → Int32) (v3 : Int32) (m0 : Mem) (m1 : Mem) (m2 : Mem) (m3 : Mem) (m4 : Mem) (m5 : Mem) (m6 : Mem) (m7 : Mem) (m8 : Mem) (m9 : Mem) (m10 : Mem) (m11 : Mem) (m12 : Mem) (m13 : Mem) (m14 : Mem) (m15 : Mem) (m16 : Mem) (m17 : Mem) : Option Unit :=
  ck (inb (v3 + 1) L) <|
  (f_X6_best m0 m1 m14 m15 (sc (ix (v3 + 1)))).bind fun t1 =>
  ck (inb (v3 + 1) L) <|
  (f_X7_best m17 (sc (ix (v3 + 1)))).bind fun t2 =>
  if t1.1 = t2.1 then lt (v3 + 5) fun v4 => K v4 t1.2.1 m1 m2 m3 m4 m5 m6 m7 m8 m9 m10 m11 m12 m13 t1.2.2.1 t1.2.2.2 m16 t2.2 else none
def f_law_C17 (K : Int32 → Mem → Mem → Mem → Mem → Mem → Mem → Mem → Mem → Mem → Mem → Mem → Mem → Mem → Mem → Mem → Mem → Mem → Mem → Option Unit) (L : Nat) (sc : Nat → Int32) (v3 : Int32) (m0 : Mem) (m1 : Mem) (m2 : Mem) (m3 : Mem) (m4 : Mem) (m5 : Mem) (m6 : Mem) (m7 : Mem) (m8 : Mem) (m9 : Mem) (m10 : Mem) (m11 : Mem) (m12 : Mem) (m13 : Mem) (m14 : Mem) (m15 : Mem) (m16 : Mem) (m17 : Mem) : Option Unit :=
  (f_X6_pull m0 m1 m2).bind fun t1 =>
  (f_X7_pull m17).bind fun t2 =>
  if t1.1 = t2.1 then lt (v3 + 5) fun v4 => K v4 m0 m1 t1.2 m3 m4 m5 m6 m7 m8 m9 m10 m11 m12 m13 m14 m15 m16 t2.2 else none
def f_law_C18 (K : Int32 → Mem → Mem → Mem → Mem → Mem → Mem → Mem → Mem → Mem → Mem → Mem → Mem → Mem → Mem → Mem → Mem → Mem → Mem → Option Unit) (L : Nat) (sc : Nat → Int32) (v3 : Int32) (m0 : Mem) (m1 : Mem) (m2 : Mem) (m3 : Mem) (m4 : Mem) (m5 : Mem) (m6 : Mem) (m7 : Mem) (m8 : Mem) (m9 : Mem) (m10 : Mem) (m11 : Mem) (m12 : Mem) (m13 : Mem) (m14 : Mem) (m15 : Mem) (m16 : Mem) (m17 : Mem) : Option Unit :=
  ck (inb (v3 + 1) L) <|
  (f_X6_bestSlack m0 m1 m2 (sc (ix (v3 + 1)))).bind fun t1 =>
  ck (inb (v3 + 1) L) <|
  (f_X7_bestSlack m17 (sc (ix (v3 + 1)))).bind fun t2 =>
  if t1.1 = t2.1 then lt (v3 + 5) fun v4 => K v4 t1.2.1 m1 t1.2.2 m3 m4 m5 m6 m7 m8 m9 m10 m11 m12 m13 m14 m15 m16 t2.2 else none
def f_law_C19 (K : Int32 → Mem → Mem → Mem → Mem → Mem → Mem → Mem → Mem → Mem → Mem → Mem → Mem → Mem → Mem → Mem → Mem → Mem → Mem → Option Unit) (L : Nat) (sc : Nat → Int32) (v3 : Int32) (m0 : Mem) (m1 : Mem) (m2 : Mem) (m3 : Mem) (m4 : Mem) (m5 : Mem) (m6 : Mem) (m7 : Mem) (m8 : Mem) (m9 : Mem) (m10 : Mem) (m11 : Mem) (m12 : Mem) (m13 : Mem) (m14 : Mem) (m15 : Mem) (m16 : Mem) (m17 : Mem) : Option Unit :=
  (f_X6_rest m0 m1 m2).bind fun t1 =>
  (f_X7_rest m17).bind fun t2 =>
  if t1.1 = t2.1 then lt (v3 + 5) fun v4 => K v4 m0 m1 t1.2 m3 m4 m5 m6 m7 m8 m9 m10 m11 m12 m13 m14 m15 m16 t2.2 else none
def f_law_C20 (K : Int32 → Mem → Mem → Mem → Mem → Mem → Mem → Mem → Mem → Mem → Mem → Mem → Mem → Mem → Mem → Mem → Mem → Mem → Mem → Option Unit) (L : Nat) (sc : Nat → Int32) (v3 : Int32) (m0 : Mem) (m1 : Mem) (m2 : Mem) (m3 : Mem) (m4 : Mem) (m5 : Mem) (m6 : Mem) (m7 : Mem) (m8 : Mem) (m9 : Mem) (m10 : Mem) (m11 : Mem) (m12 : Mem) (m13 : Mem) (m14 : Mem) (m15 : Mem) (m16 : Mem) (m17 : Mem) : Option Unit :=
  (f_X6_saved m0 m1 m2).bind fun t1 =>
  (f_X7_saved m17).bind fun t2 =>
  if t1.1 = t2.1 then lt (v3 + 5) fun v4 => K v4 t1.2.1 m1 t1.2.2 m3 m4 m5 m6 m7 m8 m9 m10 m11 m12 m13 m14 m15 m16 t2.2 else none
def f_law_C21 (K : Int32 → Mem → Mem → Mem → Mem → Mem → Mem → Mem → Mem → Mem → Mem → Mem → Mem → Mem → Mem → Mem → Mem → Mem → Mem → Option Unit) (L : Nat) (sc : Nat → Int32) (v3 : Int32) (m0 : Mem) (m1 : Mem) (m2 : Mem) (m3 : Mem) (m4 : Mem) (m5 : Mem) (m6 : Mem) (m7 : Mem) (m8 : Mem) (m9 : Mem) (m10 : Mem) (m11 : Mem) (m12 : Mem) (m13 : Mem) (m14 : Mem) (m15 : Mem) (m16 : Mem) (m17 : Mem) : Option Unit :=
  ck (inb (v3 + 1) L) <|
  ck (inb (v3 + 2) L) <|
  ck (inb (v3 + 3) L) <|
  (f_X6_can m0 m1 m2 (sc (ix (v3 + 1))) (sc (ix (v3 + 2))) (sc (ix (v3 + 3)))).bind fun t1 =>
  ck (inb (v3 + 1) L) <|
  ck (inb (v3 + 2) L) <|
  ck (inb (v3 + 3) L) <|
  (f_X7_can m17 (sc (ix (v3 + 1))) (sc (ix (v3 + 2))) (sc (ix (v3 + 3)))).bind fun t2 =>
  if t1.1 = t2.1 then lt (v3 + 5) fun v4 => K v4 t1.2.1 m1 t1.2.2 m3 m4 m5 m6 m7 m8 m9 m10 m11 m12 m13 m14 m15 m16 t2.2 else none
def f_law_C22 (K : Int32 → Mem → Mem → Mem → Mem → Mem → Mem → Mem → Mem → Mem → Mem → Mem → Mem → Mem → Mem → Mem → Mem → Mem → Mem → Option Unit) (L : Nat) (sc : Nat → Int32) (v3 : Int32) (m0 : Mem) (m1 : Mem) (m2 : Mem) (m3 : Mem) (m4 : Mem) (m5 : Mem) (m6 : Mem) (m7 : Mem) (m8 : Mem) (m9 : Mem) (m10 : Mem) (m11 : Mem) (m12 : Mem) (m13 : Mem) (m14 : Mem) (m15 : Mem) (m16 : Mem) (m17 : Mem) : Option Unit :=
  ck (inb (v3 + 1) L) <|
  (f_X6_fountain m0 m1 m2 m16 (sc (ix (v3 + 1)))).bind fun t1 =>
  ck (inb (v3 + 1) L) <|
  (f_X7_fountain m17 (sc (ix (v3 + 1)))).bind fun t2 =>
  if t1.1 = t2.1 then lt (v3 + 5) fun v4 => K v4 t1.2.1 m1 t1.2.2.1 m3 m4 m5 m6 m7 m8 m9 m10 m11 m12 m13 m14 m15 t1.2.2.2 t2.2 else none
def f_law_C23 (K : Int32 → Mem → Mem → Mem → Mem → Mem → Mem → Mem → Mem → Mem → Mem → Mem → Mem → Mem → Mem → Mem → Mem → Mem → Mem → Option Unit) (L : Nat) (sc : Nat → Int32) (v3 : Int32) (m0 : Mem) (m1 : Mem) (m2 : Mem) (m3 : Mem) (m4 : Mem) (m5 : Mem) (m6 : Mem) (m7 : Mem) (m8 : Mem) (m9 : Mem) (m10 : Mem) (m11 : Mem) (m12 : Mem) (m13 : Mem) (m14 : Mem) (m15 : Mem) (m16 : Mem) (m17 : Mem) : Option Unit :=
  ck (inb (v3 + 1) L) <|
  (f_X6_fountains m0 m1 m2 m16 (sc (ix (v3 + 1)))).bind fun t1 =>
  ck (inb (v3 + 1) L) <|
  (f_X7_fountains m17 (sc (ix (v3 + 1)))).bind fun t2 =>
  if t1.1 = t2.1 then lt (v3 + 5) fun v4 => K v4 t1.2.1 m1 t1.2.2.1 m3 m4 m5 m6 m7 m8 m9 m10 m11 m12 m13 m14 m15 t1.2.2.2 t2.2 else none
def f_law_C24 (K : Int32 → Mem → Mem → Mem → Mem → Mem → Mem → Mem → Mem → Mem → Mem → Mem → Mem → Mem → Mem → Mem → Mem → Mem → Mem → Option Unit) (L : Nat) (sc : Nat → Int32) (v3 : Int32) (m0 : Mem) (m1 : Mem) (m2 : Mem) (m3 : Mem) (m4 : Mem) (m5 : Mem) (m6 : Mem) (m7 : Mem) (m8 : Mem) (m9 : Mem) (m10 : Mem) (m11 : Mem) (m12 : Mem) (m13 : Mem) (m14 : Mem) (m15 : Mem) (m16 : Mem) (m17 : Mem) : Option Unit :=
  ck (inb (v3 + 1) L) <|
  (f_X6_inside m0 m1 m2 (sc (ix (v3 + 1)))).bind fun t1 =>
  ck (inb (v3 + 1) L) <|
  (f_X7_inside m17 (sc (ix (v3 + 1)))).bind fun t2 =>
  if t1.1 = t2.1 then lt (v3 + 5) fun v4 => K v4 t1.2.1 m1 t1.2.2 m3 m4 m5 m6 m7 m8 m9 m10 m11 m12 m13 m14 m15 m16 t2.2 else none
def f_law_C25 (K : Int32 → Mem → Mem → Mem → Mem → Mem → Mem → Mem → Mem → Mem → Mem → Mem → Mem → Mem → Mem → Mem → Mem → Mem → Mem → Option Unit) (L : Nat) (sc : Nat → Int32) (v3 : Int32) (m0 : Mem) (m1 : Mem) (m2 : Mem) (m3 : Mem) (m4 : Mem) (m5 : Mem) (m6 : Mem) (m7 : Mem) (m8 : Mem) (m9 : Mem) (m10 : Mem) (m11 : Mem) (m12 : Mem) (m13 : Mem) (m14 : Mem) (m15 : Mem) (m16 : Mem) (m17 : Mem) : Option Unit :=
  (f_X6_crowded m0 m1 m2).bind fun t1 =>
  (f_X7_crowded m17).bind fun t2 =>
  if t1.1 = t2.1 then lt (v3 + 5) fun v4 => K v4 m0 m1 t1.2 m3 m4 m5 m6 m7 m8 m9 m10 m11 m12 m13 m14 m15 m16 t2.2 else none
def f_law_C26 (K : Int32 → Mem → Mem → Mem → Mem → Mem → Mem → Mem → Mem → Mem → Mem → Mem → Mem → Mem → Mem → Mem → Mem → Mem → Mem → Option Unit) (L : Nat) (sc : Nat → Int32) (v3 : Int32) (m0 : Mem) (m1 : Mem) (m2 : Mem) (m3 : Mem) (m4 : Mem) (m5 : Mem) (m6 : Mem) (m7 : Mem) (m8 : Mem) (m9 : Mem) (m10 : Mem) (m11 : Mem) (m12 : Mem) (m13 : Mem) (m14 : Mem) (m15 : Mem) (m16 : Mem) (m17 : Mem) : Option Unit :=
  ck (inb (v3 + 1) L) <|
  (f_X6_price m0 m1 (sc (ix (v3 + 1)))).bind fun t1 =>
  ck (inb (v3 + 1) L) <|
  (f_X7_price m17 (sc (ix (v3 + 1)))).bind fun t2 =>
  if t1.1 = t2.1 then lt (v3 + 5) fun v4 => K v4 t1.2 m1 m2 m3 m4 m5 m6 m7 m8 m9 m10 m11 m12 m13 m14 m15 m16 t2.2 else none
def f_law_C27 (K : Int32 → Mem → Mem → Mem → Mem → Mem → Mem → Mem → Mem → Mem → Mem → Mem → Mem → Mem → Mem → Mem → Mem → Mem → Mem → Option Unit) (L : Nat) (sc : Nat → Int32) (v3 : Int32) (m0 : Mem) (m1 : Mem) (m2 : Mem) (m3 : Mem) (m4 : Mem) (m5 : Mem) (m6 : Mem) (m7 : Mem) (m8 : Mem) (m9 : Mem) (m10 : Mem) (m11 : Mem) (m12 : Mem) (m13 : Mem) (m14 : Mem) (m15 : Mem) (m16 : Mem) (m17 : Mem) : Option Unit :=
  ck (inb (v3 + 1) L) <|
  ck (inb (v3 + 2) L) <|
  ck (inb (v3 + 3) L) <|
  ck (inb (v3 + 4) L) <|
  (f_X6_odds m0 m1 m2 (sc (ix (v3 + 1))) (sc (ix (v3 + 2))) (sc (ix (v3 + 3))) (sc (ix (v3 + 4)))).bind fun t1 =>
  ck (inb (v3 + 1) L) <|
  ck (inb (v3 + 2) L) <|
  ck (inb (v3 + 3) L) <|
  ck (inb (v3 + 4) L) <|
  (f_X7_odds m17 (sc (ix (v3 + 1))) (sc (ix (v3 + 2))) (sc (ix (v3 + 3))) (sc (ix (v3 + 4)))).bind fun t2 =>
  if (lg_cmp t1.1 t2.1) = 0 then lt (v3 + 5) fun v4 => K v4 t1.2.1 m1 t1.2.2 m3 m4 m5 m6 m7 m8 m9 m10 m11 m12 m13 m14 m15 m16 t2.2 else none
def f_law_C28 (K : Int32 → Mem → Mem → Mem → Mem → Mem → Mem → Mem → Mem → Mem → Mem → Mem → Mem → Mem → Mem → Mem → Mem → Mem → Mem → Option Unit) (L : Nat) (sc : Nat → Int32) (v3 : Int32) (m0 : Mem) (m1 : Mem) (m2 : Mem) (m3 : Mem) (m4 : Mem) (m5 : Mem) (m6 : Mem) (m7 : Mem) (m8 : Mem) (m9 : Mem) (m10 : Mem) (m11 : Mem) (m12 : Mem) (m13 : Mem) (m14 : Mem) (m15 : Mem) (m16 : Mem) (m17 : Mem) : Option Unit :=
  ck (inb (v3 + 1) L) <|
  ck (inb (v3 + 2) L) <|
  (f_X6_two m0 m1 m2 (sc (ix (v3 + 1))) (sc (ix (v3 + 2)))).bind fun t1 =>
  ck (inb (v3 + 1) L) <|
  ck (inb (v3 + 2) L) <|
  (f_X7_two m17 (sc (ix (v3 + 1))) (sc (ix (v3 + 2)))).bind fun t2 =>
  if t1.1 = t2.1 then lt (v3 + 5) fun v4 => K v4 t1.2.1 m1 t1.2.2 m3 m4 m5 m6 m7 m8 m9 m10 m11 m12 m13 m14 m15 m16 t2.2 else none
def f_law_C29 (K : Int32 → Mem → Mem → Mem → Mem → Mem → Mem → Mem → Mem → Mem → Mem → Mem → Mem → Mem → Mem → Mem → Mem → Mem → Mem → Option Unit) (L : Nat) (sc : Nat → Int32) (v3 : Int32) (m0 : Mem) (m1 : Mem) (m2 : Mem) (m3 : Mem) (m4 : Mem) (m5 : Mem) (m6 : Mem) (m7 : Mem) (m8 : Mem) (m9 : Mem) (m10 : Mem) (m11 : Mem) (m12 : Mem) (m13 : Mem) (m14 : Mem) (m15 : Mem) (m16 : Mem) (m17 : Mem) : Option Unit :=
  ck (inb (v3 + 1) L) <|
  ck (inb (v3 + 2) L) <|
  (f_X6_whatWas m0 m1 m2 (sc (ix (v3 + 1))) (sc (ix (v3 + 2)))).bind fun t1 =>
  ck (inb (v3 + 1) L) <|
  ck (inb (v3 + 2) L) <|
  (f_X7_whatWas m17 (sc (ix (v3 + 1))) (sc (ix (v3 + 2)))).bind fun t2 =>
  if t1.1 = t2.1 then lt (v3 + 5) fun v4 => K v4 t1.2.1 m1 t1.2.2 m3 m4 m5 m6 m7 m8 m9 m10 m11 m12 m13 m14 m15 m16 t2.2 else none
def f_law_C30 (K : Int32 → Mem → Mem → Mem → Mem → Mem → Mem → Mem → Mem → Mem → Mem → Mem → Mem → Mem → Mem → Mem → Mem → Mem → Mem → Option Unit) (L : Nat) (sc : Nat → Int32) (v3 : Int32) (m0 : Mem) (m1 : Mem) (m2 : Mem) (m3 : Mem) (m4 : Mem) (m5 : Mem) (m6 : Mem) (m7 : Mem) (m8 : Mem) (m9 : Mem) (m10 : Mem) (m11 : Mem) (m12 : Mem) (m13 : Mem) (m14 : Mem) (m15 : Mem) (m16 : Mem) (m17 : Mem) : Option Unit :=
  ck (inb (v3 + 1) L) <|
  (f_X6_longest m0 m1 (sc (ix (v3 + 1)))).bind fun t1 =>
  ck (inb (v3 + 1) L) <|
  (f_X7_longest m17 (sc (ix (v3 + 1)))).bind fun t2 =>
  if t1.1 = t2.1 then lt (v3 + 5) fun v4 => K v4 t1.2 m1 m2 m3 m4 m5 m6 m7 m8 m9 m10 m11 m12 m13 m14 m15 m16 t2.2 else none
def f_law_C31 (K : Int32 → Mem → Mem → Mem → Mem → Mem → Mem → Mem → Mem → Mem → Mem → Mem → Mem → Mem → Mem → Mem → Mem → Mem → Mem → Option Unit) (L : Nat) (sc : Nat → Int32) (v3 : Int32) (m0 : Mem) (m1 : Mem) (m2 : Mem) (m3 : Mem) (m4 : Mem) (m5 : Mem) (m6 : Mem) (m7 : Mem) (m8 : Mem) (m9 : Mem) (m10 : Mem) (m11 : Mem) (m12 : Mem) (m13 : Mem) (m14 : Mem) (m15 : Mem) (m16 : Mem) (m17 : Mem) : Option Unit :=
  ck (inb (v3 + 1) L) <|
  (f_X6_mean m0 m1 m2 (sc (ix (v3 + 1)))).bind fun t1 =>
  ck (inb (v3 + 1) L) <|
  (f_X7_mean m17 (sc (ix (v3 + 1)))).bind fun t2 =>
  if (lg_cmp t1.1 t2.1) = 0 then lt (v3 + 5) fun v4 => K v4 t1.2.1 m1 t1.2.2 m3 m4 m5 m6 m7 m8 m9 m10 m11 m12 m13 m14 m15 m16 t2.2 else none
def f_law_C32 (K : Int32 → Mem → Mem → Mem → Mem → Mem → Mem → Mem → Mem → Mem → Mem → Mem → Mem → Mem → Mem → Mem → Mem → Mem → Mem → Option Unit) (L : Nat) (sc : Nat → Int32) (v3 : Int32) (m0 : Mem) (m1 : Mem) (m2 : Mem) (m3 : Mem) (m4 : Mem) (m5 : Mem) (m6 : Mem) (m7 : Mem) (m8 : Mem) (m9 : Mem) (m10 : Mem) (m11 : Mem) (m12 : Mem) (m13 : Mem) (m14 : Mem) (m15 : Mem) (m16 : Mem) (m17 : Mem) : Option Unit :=
  (f_X6_early m0 m1 m2).bind fun t1 =>
  (f_X7_early m17).bind fun t2 =>
  if t1.1 = t2.1 then lt (v3 + 5) fun v4 => K v4 m0 m1 t1.2 m3 m4 m5 m6 m7 m8 m9 m10 m11 m12 m13 m14 m15 m16 t2.2 else none
def f_law_C33 (K : Int32 → Mem → Mem → Mem → Mem → Mem → Mem → Mem → Mem → Mem → Mem → Mem → Mem → Mem → Mem → Mem → Mem → Mem → Mem → Option Unit) (L : Nat) (sc : Nat → Int32) (v3 : Int32) (m0 : Mem) (m1 : Mem) (m2 : Mem) (m3 : Mem) (m4 : Mem) (m5 : Mem) (m6 : Mem) (m7 : Mem) (m8 : Mem) (m9 : Mem) (m10 : Mem) (m11 : Mem) (m12 : Mem) (m13 : Mem) (m14 : Mem) (m15 : Mem) (m16 : Mem) (m17 : Mem) : Option Unit :=
  (f_X6_worst m0 m1 m2).bind fun t1 =>
  (f_X7_worst m17).bind fun t2 =>
  if t1.1 = t2.1 then lt (v3 + 5) fun v4 => K v4 m0 m1 t1.2 m3 m4 m5 m6 m7 m8 m9 m10 m11 m12 m13 m14 m15 m16 t2.2 else none
def f_law_C34 (K : Int32 → Mem → Mem → Mem → Mem → Mem → Mem → Mem → Mem → Mem → Mem → Mem → Mem → Mem → Mem → Mem → Mem → Mem → Mem → Option Unit) (L : Nat) (sc : Nat → Int32) (v3 : Int32) (m0 : Mem) (m1 : Mem) (m2 : Mem) (m3 : Mem) (m4 : Mem) (m5 : Mem) (m6 : Mem) (m7 : Mem) (m8 : Mem) (m9 : Mem) (m10 : Mem) (m11 : Mem) (m12 : Mem) (m13 : Mem) (m14 : Mem) (m15 : Mem) (m16 : Mem) (m17 : Mem) : Option Unit :=
  (f_X6_idle m0 m1 m2).bind fun t1 =>
  (f_X7_idle m17).bind fun t2 =>
  if t1.1 = t2.1 then lt (v3 + 5) fun v4 => K v4 m0 m1 t1.2 m3 m4 m5 m6 m7 m8 m9 m10 m11 m12 m13 m14 m15 m16 t2.2 else none
def f_law_C35 (K : Int32 → Mem → Mem → Mem → Mem → Mem → Mem → Mem → Mem → Mem → Mem → Mem → Mem → Mem → Mem → Mem → Mem → Mem → Mem → Option Unit) (L : Nat) (sc : Nat → Int32) (v3 : Int32) (m0 : Mem) (m1 : Mem) (m2 : Mem) (m3 : Mem) (m4 : Mem) (m5 : Mem) (m6 : Mem) (m7 : Mem) (m8 : Mem) (m9 : Mem) (m10 : Mem) (m11 : Mem) (m12 : Mem) (m13 : Mem) (m14 : Mem) (m15 : Mem) (m16 : Mem) (m17 : Mem) : Option Unit :=
  (f_X6_span m0 m1 m2).bind fun t1 =>
  (f_X7_span m17).bind fun t2 =>
  if t1.1 = t2.1 then lt (v3 + 5) fun v4 => K v4 m0 m1 t1.2 m3 m4 m5 m6 m7 m8 m9 m10 m11 m12 m13 m14 m15 m16 t2.2 else none
def f_law_C36 (K : Int32 → Mem → Mem → Mem → Mem → Mem → Mem → Mem → Mem → Mem → Mem → Mem → Mem → Mem → Mem → Mem → Mem → Mem → Mem → Option Unit) (L : Nat) (sc : Nat → Int32) (v3 : Int32) (m0 : Mem) (m1 : Mem) (m2 : Mem) (m3 : Mem) (m4 : Mem) (m5 : Mem) (m6 : Mem) (m7 : Mem) (m8 : Mem) (m9 : Mem) (m10 : Mem) (m11 : Mem) (m12 : Mem) (m13 : Mem) (m14 : Mem) (m15 : Mem) (m16 : Mem) (m17 : Mem) : Option Unit :=
  (f_X6_swap m0 m1 m2).bind fun t1 =>
  (f_X7_swap m17).bind fun t2 =>
  if t1.1 = t2.1 then lt (v3 + 5) fun v4 => K v4 m0 m1 t1.2 m3 m4 m5 m6 m7 m8 m9 m10 m11 m12 m13 m14 m15 m16 t2.2 else none
def f_law_C37 (K : Int32 → Mem → Mem → Mem → Mem → Mem → Mem → Mem → Mem → Mem → Mem → Mem → Mem → Mem → Mem → Mem → Mem → Mem → Mem → Option Unit) (L : Nat) (sc : Nat → Int32) (v3 : Int32) (m0 : Mem) (m1 : Mem) (m2 : Mem) (m3 : Mem) (m4 : Mem) (m5 : Mem) (m6 : Mem) (m7 : Mem) (m8 : Mem) (m9 : Mem) (m10 : Mem) (m11 : Mem) (m12 : Mem) (m13 : Mem) (m14 : Mem) (m15 : Mem) (m16 : Mem) (m17 : Mem) : Option Unit :=
  (f_X6_turned m0 m1 m2).bind fun t1 =>
  (f_X7_turned m17).bind fun t2 =>
  if t1.1 = t2.1 then lt (v3 + 5) fun v4 => K v4 m0 m1 t1.2 m3 m4 m5 m6 m7 m8 m9 m10 m11 m12 m13 m14 m15 m16 t2.2 else none
def f_law_C38 (K : Int32 → Mem → Mem → Mem → Mem → Mem → Mem → Mem → Mem → Mem → Mem → Mem → Mem → Mem → Mem → Mem → Mem → Mem → Mem → Option Unit) (L : Nat) (sc : Nat → Int32) (v3 : Int32) (m0 : Mem) (m1 : Mem) (m2 : Mem) (m3 : Mem) (m4 : Mem) (m5 : Mem) (m6 : Mem) (m7 : Mem) (m8 : Mem) (m9 : Mem) (m10 : Mem) (m11 : Mem) (m12 : Mem) (m13 : Mem) (m14 : Mem) (m15 : Mem) (m16 : Mem) (m17 : Mem) : Option Unit :=
  (f_X6_shift m0 m1 m2).bind fun t1 =>
  (f_X7_shift m17).bind fun t2 =>
  if t1.1 = t2.1 then lt (v3 + 5) fun v4 => K v4 m0 m1 t1.2 m3 m4 m5 m6 m7 m8 m9 m10 m11 m12 m13 m14 m15 m16 t2.2 else none
def f_law_C39 (K : Int32 → Mem → Mem → Mem → Mem → Mem → Mem → Mem → Mem → Mem → Mem → Mem → Mem → Mem → Mem → Mem → Mem → Mem → Mem → Option Unit) (L : Nat) (sc : Nat → Int32) (v3 : Int32) (m0 : Mem) (m1 : Mem) (m2 : Mem) (m3 : Mem) (m4 : Mem) (m5 : Mem) (m6 : Mem) (m7 : Mem) (m8 : Mem) (m9 : Mem) (m10 : Mem) (m11 : Mem) (m12 : Mem) (m13 : Mem) (m14 : Mem) (m15 : Mem) (m16 : Mem) (m17 : Mem) : Option Unit :=
  ck (inb (v3 + 1) L) <|
  (f_X6_row m0 (sc (ix (v3 + 1)))).bind fun t1 =>
  ck (inb (v3 + 1) L) <|
  (f_X7_row m17 (sc (ix (v3 + 1)))).bind fun t2 =>
  if t1.1 = t2.1 then lt (v3 + 5) fun v4 => K v4 t1.2 m1 m2 m3 m4 m5 m6 m7 m8 m9 m10 m11 m12 m13 m14 m15 m16 t2.2 else none
def f_law_C40 (K : Int32 → Mem → Mem → Mem → Mem → Mem → Mem → Mem → Mem → Mem → Mem → Mem → Mem → Mem → Mem → Mem → Mem → Mem → Mem → Option Unit) (L : Nat) (sc : Nat → Int32) (v3 : Int32) (m0 : Mem) (m1 : Mem) (m2 : Mem) (m3 : Mem) (m4 : Mem) (m5 : Mem) (m6 : Mem) (m7 : Mem) (m8 : Mem) (m9 : Mem) (m10 : Mem) (m11 : Mem) (m12 : Mem) (m13 : Mem) (m14 : Mem) (m15 : Mem) (m16 : Mem) (m17 : Mem) : Option Unit :=
  (f_X6_judge m0 m1 m2).bind fun t1 =>
  (f_X7_judge m17).bind fun t2 =>
  if t1.1 = t2.1 then lt (v3 + 5) fun v4 => K v4 t1.2.1 m1 t1.2.2 m3 m4 m5 m6 m7 m8 m9 m10 m11 m12 m13 m14 m15 m16 t2.2 else none
def f_law_C41 (K : Int32 → Mem → Mem → Mem → Mem → Mem → Mem → Mem → Mem → Mem → Mem → Mem → Mem → Mem → Mem → Mem → Mem → Mem → Mem → Option Unit) (L : Nat) (sc : Nat → Int32) (v3 : Int32) (m0 : Mem) (m1 : Mem) (m2 : Mem) (m3 : Mem) (m4 : Mem) (m5 : Mem) (m6 : Mem) (m7 : Mem) (m8 : Mem) (m9 : Mem) (m10 : Mem) (m11 : Mem) (m12 : Mem) (m13 : Mem) (m14 : Mem) (m15 : Mem) (m16 : Mem) (m17 : Mem) : Option Unit :=
  (f_X6_clear m0).bind fun t1 =>
  (f_X7_clear m17).bind fun t2 =>
  if t1.1 = t2.1 then lt (v3 + 5) fun v4 => K v4 t1.2 m1 m2 m3 m4 m5 m6 m7 m8 m9 m10 m11 m12 m13 m14 m15 m16 t2.2 else none
def f_law_C42 (K : Int32 → Mem → Mem → Mem → Mem → Mem → Mem → Mem → Mem → Mem → Mem → Mem → Mem → Mem → Mem → Mem → Mem → Mem → Mem → Option Unit) (L : Nat) (sc : Nat → Int32) (v3 : Int32) (m0 : Mem) (m1 : Mem) (m2 : Mem) (m3 : Mem) (m4 : Mem) (m5 : Mem) (m6 : Mem) (m7 : Mem) (m8 : Mem) (m9 : Mem) (m10 : Mem) (m11 : Mem) (m12 : Mem) (m13 : Mem) (m14 : Mem) (m15 : Mem) (m16 : Mem) (m17 : Mem) : Option Unit :=
  ck (inb (v3 + 1) L) <|
  ck (inb (v3 + 2) L) <|
  ck (inb (v3 + 3) L) <|
  (f_X6_lots m0 m1 m2 (sc (ix (v3 + 1))) (sc (ix (v3 + 2))) (sc (ix (v3 + 3)))).bind fun t1 =>
  ck (inb (v3 + 1) L) <|
  ck (inb (v3 + 2) L) <|
  ck (inb (v3 + 3) L) <|
  (f_X7_lots m17 (sc (ix (v3 + 1))) (sc (ix (v3 + 2))) (sc (ix (v3 + 3)))).bind fun t2 =>
  if t1.1 = t2.1 then lt (v3 + 5) fun v4 => K v4 t1.2.1 m1 t1.2.2 m3 m4 m5 m6 m7 m8 m9 m10 m11 m12 m13 m14 m15 m16 t2.2 else none
def f_law_C43 (K : Int32 → Mem → Mem → Mem → Mem → Mem → Mem → Mem → Mem → Mem → Mem → Mem → Mem → Mem → Mem → Mem → Mem → Mem → Mem → Option Unit) (L : Nat) (sc : Nat → Int32) (v3 : Int32) (m0 : Mem) (m1 : Mem) (m2 : Mem) (m3 : Mem) (m4 : Mem) (m5 : Mem) (m6 : Mem) (m7 : Mem) (m8 : Mem) (m9 : Mem) (m10 : Mem) (m11 : Mem) (m12 : Mem) (m13 : Mem) (m14 : Mem) (m15 : Mem) (m16 : Mem) (m17 : Mem) : Option Unit :=
  (f_X6_image m0 m1 m3).bind fun t1 =>
  (f_X7_image m17).bind fun t2 =>
  if t1.1 = t2.1 then lt (v3 + 5) fun v4 => K v4 t1.2.1 m1 m2 t1.2.2 m4 m5 m6 m7 m8 m9 m10 m11 m12 m13 m14 m15 m16 t2.2 else none
def f_law_C44 (K : Int32 → Mem → Mem → Mem → Mem → Mem → Mem → Mem → Mem → Mem → Mem → Mem → Mem → Mem → Mem → Mem → Mem → Mem → Mem → Option Unit) (L : Nat) (sc : Nat → Int32) (v3 : Int32) (m0 : Mem) (m1 : Mem) (m2 : Mem) (m3 : Mem) (m4 : Mem) (m5 : Mem) (m6 : Mem) (m7 : Mem) (m8 : Mem) (m9 : Mem) (m10 : Mem) (m11 : Mem) (m12 : Mem) (m13 : Mem) (m14 : Mem) (m15 : Mem) (m16 : Mem) (m17 : Mem) : Option Unit :=
  (f_X6_restore m0 m1 m3 m4).bind fun t1 =>
  (f_X7_restore m17).bind fun t2 =>
  if t1.1 = t2.1 then lt (v3 + 5) fun v4 => K v4 t1.2.1 t1.2.2.1 m2 m3 t1.2.2.2 m5 m6 m7 m8 m9 m10 m11 m12 m13 m14 m15 m16 t2.2 else none
def f_law_C45 (K : Int32 → Mem → Mem → Mem → Mem → Mem → Mem → Mem → Mem → Mem → Mem → Mem → Mem → Mem → Mem → Mem → Mem → Mem → Mem → Option Unit) (L : Nat) (sc : Nat → Int32) (v3 : Int32) (m0 : Mem) (m1 : Mem) (m2 : Mem) (m3 : Mem) (m4 : Mem) (m5 : Mem) (m6 : Mem) (m7 : Mem) (m8 : Mem) (m9 : Mem) (m10 : Mem) (m11 : Mem) (m12 : Mem) (m13 : Mem) (m14 : Mem) (m15 : Mem) (m16 : Mem) (m17 : Mem) : Option Unit :=
  ck (inb (v3 + 1) L) <|
  (f_X6_count m0 m1 m4 m13 (sc (ix (v3 + 1)))).bind fun t1 =>
  ck (inb (v3 + 1) L) <|
  (f_X7_count m17 (sc (ix (v3 + 1)))).bind fun t2 =>
  if t1 = t2.1 then lt (v3 + 5) fun v4 => K v4 m0 m1 m2 m3 m4 m5 m6 m7 m8 m9 m10 m11 m12 m13 m14 m15 m16 t2.2 else none
set_option maxRecDepth 100000 in
theorem law_C0 {K : Int32 → Mem → Mem → Mem → Mem → Mem → Mem → Mem → Mem → Mem → Mem → Mem → Mem → Mem → Mem → Mem → Mem → Mem → Mem → Option Unit} (B : XB) (nm : String) {L : Nat} {sc : Nat → Int32} (hSc : XSc B L sc) (hK : ∀ (v3 : Int32) (m0 : Mem) (m1 : Mem) (m2 : Mem) (m3 : Mem) (m4 : Mem) (m5 : Mem) (m6 : Mem) (m7 : Mem) (m8 : Mem) (m9 : Mem) (m10 : Mem) (m11 : Mem) (m12 : Mem) (m13 : Mem) (m14 : Mem) (m15 : Mem) (m16 : Mem) (m17 : Mem), XE B (M_law nm) (fun _ : Unit => XZ B) 18 [(0, some (.ref 4095)), (1, some (.ref 0)), (2, some (.ref 1088)), (3, some (.int v3))] [] (143, 2120) SH_XM [m0, m1, m2, m3, m4, m5, m6, m7, m8, m9, m10, m11, m12, m13, m14, m15, m16, m17] (fun t : Unit => some t) (K v3 m0 m1 m2 m3 m4 m5 m6 m7 m8 m9 m10 m11 m12 m13 m14 m15 m16 m17)) (v3 : Int32) (m0 : Mem) (m1 : Mem) (m2 : Mem) (m3 : Mem) (m4 : Mem) (m5 : Mem) (m6 : Mem) (m7 : Mem) (m8 : Mem) (m9 : Mem) (m10 : Mem) (m11 : Mem) (m12 : Mem) (m13 : Mem) (m14 : Mem) (m15 : Mem) (m16 : Mem) (m17 : Mem) : XE B (M_law nm) (fun _ : Unit => XZ B) 232 [(0, some (.ref 4095)), (1, some (.ref 0)), (2, some (.ref 1088)), (3, some (.int v3))] [] (143, 2120) SH_XM [m0, m1, m2, m3, m4, m5, m6, m7, m8, m9, m10, m11, m12, m13, m14, m15, m16, m17] (fun t : Unit => some t) (f_law_C0 K L sc v3 m0 m1 m2 m3 m4 m5 m6 m7 m8 m9 m10 m11 m12 m13 m14 m15 m16 m17) := by
  unfold f_law_C0
  refine XE_aload_n (n := 233) dL_law_232 rfl rfl rfl ?_
  refine XE_aload_n (n := 234) dL_law_233 rfl rfl rfl ?_
  refine XE_iload_n (n := 235) dL_law_234 rfl rfl rfl ?_
  refine XE_iconst (v := 1) (n := 236) dL_law_235 rfl (by decide) ?_
  refine XE_iadd (n := 237) dL_law_236 rfl ?_
  refine XE_sld (n := 238) hSc rfl dL_law_237 rfl ?_
  refine XE_callV (ni := 1) (As := [.int (sc (ix (v3 + 1)))]) (π := [0, 1, 2, 3, 4, 5, 6, 7, 8, 9, 10, 11, 12, 13, 14, 15, 16]) (co := [17]) (cv := [m17]) (nn := 18) (hs2 := fun t1 => [t1.2.1, m1, m2, m3, m4, m5, m6, m7, m8, m9, m10, m11, m12, t1.2.2, m14, m15, m16, m17]) (st2 := fun t1 => [.int t1.1]) (n := 241) (b := 0) xc_L_13 (fun l t ht => met_X6_feed l m0 m1 m2 m3 m4 m5 m6 m7 m8 m9 m10 m11 m12 m13 m14 m15 m16 (sc (ix (v3 + 1))) t ht) rfl rfl rfl rfl rfl dL_law_238 (Nat.le_of_ble_eq_true rfl) ⟨Nat.le_refl _, Nat.le_refl _⟩ (Nat.le_of_ble_eq_true rfl) (Nat.le_of_ble_eq_true rfl) ok_41 rfl rfl rfl (fun _ => rfl) (fun _ => rfl) (fun _ => rfl) rfl (fun _ => rfl) rfl (fun t1 => ?_)
  refine XE_aload_n (n := 242) dL_law_241 rfl rfl rfl ?_
  refine XE_aload_n (n := 243) dL_law_242 rfl rfl rfl ?_
  refine XE_iload_n (n := 244) dL_law_243 rfl rfl rfl ?_
  refine XE_iconst (v := 1) (n := 245) dL_law_244 rfl (by decide) ?_
  refine XE_iadd (n := 246) dL_law_245 rfl ?_
  refine XE_sld (n := 247) hSc rfl dL_law_246 rfl ?_
  refine XE_callV (ni := 1) (As := [.int (sc (ix (v3 + 1)))]) (π := [17]) (co := [0, 1, 2, 3, 4, 5, 6, 7, 8, 9, 10, 11, 12, 13, 14, 15, 16]) (cv := [t1.2.1, m1, m2, m3, m4, m5, m6, m7, m8, m9, m10, m11, m12, t1.2.2, m14, m15, m16]) (nn := 18) (hs2 := fun t2 => [t1.2.1, m1, m2, m3, m4, m5, m6, m7, m8, m9, m10, m11, m12, t1.2.2, m14, m15, m16, t2.2]) (st2 := fun t2 => [.int t2.1, .int t1.1]) (n := 250) (b := 1088) xc_L_17 (fun l t ht => met_X7_feed l m17 (sc (ix (v3 + 1))) t ht) rfl rfl rfl rfl rfl dL_law_247 (Nat.le_of_ble_eq_true rfl) ⟨Nat.le_refl _, Nat.le_refl _⟩ (Nat.le_of_ble_eq_true rfl) (Nat.le_of_ble_eq_true rfl) ok_42 rfl rfl rfl (fun _ => rfl) (fun _ => rfl) (fun _ => rfl) rfl (fun _ => rfl) rfl (fun t2 => ?_)
  refine XE_icmp_eq (t := 1252) (n := 253) dL_law_250 rfl rfl (fun _ => ?_) (fun _ => XE_none)
  exact law_next B nm hK v3 t1.2.1 m1 m2 m3 m4 m5 m6 m7 m8 m9 m10 m11 m12 t1.2.2 m14 m15 m16 t2.2
set_option maxRecDepth 100000 in
theorem law_C1 {K : Int32 → Mem → Mem → Mem → Mem → Mem → Mem → Mem → Mem → Mem → Mem → Mem → Mem → Mem → Mem → Mem → Mem → Mem → Mem → Option Unit} (B : XB) (nm : String) {L : Nat} {sc : Nat → Int32} (hSc : XSc B L sc) (hK : ∀ (v3 : Int32) (m0 : Mem) (m1 : Mem) (m2 : Mem) (m3 : Mem) (m4 : Mem) (m5 : Mem) (m6 : Mem) (m7 : Mem) (m8 : Mem) (m9 : Mem) (m10 : Mem) (m11 : Mem) (m12 : Mem) (m13 : Mem) (m14 : Mem) (m15 : Mem) (m16 : Mem) (m17 : Mem), XE B (M_law nm) (fun _ : Unit => XZ B) 18 [(0, some (.ref 4095)), (1, some (.ref 0)), (2, some (.ref 1088)), (3, some (.int v3))] [] (143, 2120) SH_XM [m0, m1, m2, m3, m4, m5, m6, m7, m8, m9, m10, m11, m12, m13, m14, m15, m16, m17] (fun t : Unit => some t) (K v3 m0 m1 m2 m3 m4 m5 m6 m7 m8 m9 m10 m11 m12 m13 m14 m15 m16 m17)) (v3 : Int32) (m0 : Mem) (m1 : Mem) (m2 : Mem) (m3 : Mem) (m4 : Mem) (m5 : Mem) (m6 : Mem) (m7 : Mem) (m8 : Mem) (m9 : Mem) (m10 : Mem) (m11 : Mem) (m12 : Mem) (m13 : Mem) (m14 : Mem) (m15 : Mem) (m16 : Mem) (m17 : Mem) : XE B (M_law nm) (fun _ : Unit => XZ B) 255 [(0, some (.ref 4095)), (1, some (.ref 0)), (2, some (.ref 1088)), (3, some (.int v3))] [] (143, 2120) SH_XM [m0, m1, m2, m3, m4, m5, m6, m7, m8, m9, m10, m11, m12, m13, m14, m15, m16, m17] (fun t : Unit => some t) (f_law_C1 K L sc v3 m0 m1 m2 m3 m4 m5 m6 m7 m8 m9 m10 m11 m12 m13 m14 m15 m16 m17) := by
  unfold f_law_C1
  refine XE_aload_n (n := 256) dL_law_255 rfl rfl rfl ?_
  refine XE_callV (ni := 0) (As := []) (π := [0, 1, 2, 3, 4, 5, 6, 7, 8, 9, 10, 11, 12, 13, 14, 15, 16]) (co := [17]) (cv := [m17]) (nn := 18) (hs2 := fun t1 => [m0, t1.2.1, t1.2.2.1, m3, t1.2.2.2.1, m5, m6, m7, m8, m9, m10, m11, m12, t1.2.2.2.2, m14, m15, m16, m17]) (st2 := fun t1 => [.int t1.1]) (n := 259) (b := 0) xc_L_18 (fun l t ht => met_X6_hall l m0 m1 m2 m3 m4 m5 m6 m7 m8 m9 m10 m11 m12 m13 m14 m15 m16 t ht) rfl rfl rfl rfl rfl dL_law_256 (Nat.le_of_ble_eq_true rfl) ⟨Nat.le_refl _, Nat.le_refl _⟩ (Nat.le_of_ble_eq_true rfl) (Nat.le_of_ble_eq_true rfl) ok_41 rfl rfl rfl (fun _ => rfl) (fun _ => rfl) (fun _ => rfl) rfl (fun _ => rfl) rfl (fun t1 => ?_)
  refine XE_aload_n (n := 260) dL_law_259 rfl rfl rfl ?_
  refine XE_callV (ni := 0) (As := []) (π := [17]) (co := [0, 1, 2, 3, 4, 5, 6, 7, 8, 9, 10, 11, 12, 13, 14, 15, 16]) (cv := [m0, t1.2.1, t1.2.2.1, m3, t1.2.2.2.1, m5, m6, m7, m8, m9, m10, m11, m12, t1.2.2.2.2, m14, m15, m16]) (nn := 18) (hs2 := fun t2 => [m0, t1.2.1, t1.2.2.1, m3, t1.2.2.2.1, m5, m6, m7, m8, m9, m10, m11, m12, t1.2.2.2.2, m14, m15, m16, t2.2]) (st2 := fun t2 => [.int t2.1, .int t1.1]) (n := 263) (b := 1088) xc_L_22 (fun l t ht => met_X7_hall l m17 t ht) rfl rfl rfl rfl rfl dL_law_260 (Nat.le_of_ble_eq_true rfl) ⟨Nat.le_refl _, Nat.le_refl _⟩ (Nat.le_of_ble_eq_true rfl) (Nat.le_of_ble_eq_true rfl) ok_42 rfl rfl rfl (fun _ => rfl) (fun _ => rfl) (fun _ => rfl) rfl (fun _ => rfl) rfl (fun t2 => ?_)
  refine XE_icmp_eq (t := 1252) (n := 266) dL_law_263 rfl rfl (fun _ => ?_) (fun _ => XE_none)
  exact law_next B nm hK v3 m0 t1.2.1 t1.2.2.1 m3 t1.2.2.2.1 m5 m6 m7 m8 m9 m10 m11 m12 t1.2.2.2.2 m14 m15 m16 t2.2
set_option maxRecDepth 100000 in
theorem law_C2 {K : Int32 → Mem → Mem → Mem → Mem → Mem → Mem → Mem → Mem → Mem → Mem → Mem → Mem → Mem → Mem → Mem → Mem → Mem → Mem → Option Unit} (B : XB) (nm : String) {L : Nat} {sc : Nat → Int32} (hSc : XSc B L sc) (hK : ∀ (v3 : Int32) (m0 : Mem) (m1 : Mem) (m2 : Mem) (m3 : Mem) (m4 : Mem) (m5 : Mem) (m6 : Mem) (m7 : Mem) (m8 : Mem) (m9 : Mem) (m10 : Mem) (m11 : Mem) (m12 : Mem) (m13 : Mem) (m14 : Mem) (m15 : Mem) (m16 : Mem) (m17 : Mem), XE B (M_law nm) (fun _ : Unit => XZ B) 18 [(0, some (.ref 4095)), (1, some (.ref 0)), (2, some (.ref 1088)), (3, some (.int v3))] [] (143, 2120) SH_XM [m0, m1, m2, m3, m4, m5, m6, m7, m8, m9, m10, m11, m12, m13, m14, m15, m16, m17] (fun t : Unit => some t) (K v3 m0 m1 m2 m3 m4 m5 m6 m7 m8 m9 m10 m11 m12 m13 m14 m15 m16 m17)) (v3 : Int32) (m0 : Mem) (m1 : Mem) (m2 : Mem) (m3 : Mem) (m4 : Mem) (m5 : Mem) (m6 : Mem) (m7 : Mem) (m8 : Mem) (m9 : Mem) (m10 : Mem) (m11 : Mem) (m12 : Mem) (m13 : Mem) (m14 : Mem) (m15 : Mem) (m16 : Mem) (m17 : Mem) : XE B (M_law nm) (fun _ : Unit => XZ B) 268 [(0, some (.ref 4095)), (1, some (.ref 0)), (2, some (.ref 1088)), (3, some (.int v3))] [] (143, 2120) SH_XM [m0, m1, m2, m3, m4, m5, m6, m7, m8, m9, m10, m11, m12, m13, m14, m15, m16, m17] (fun t : Unit => some t) (f_law_C2 K L sc v3 m0 m1 m2 m3 m4 m5 m6 m7 m8 m9 m10 m11 m12 m13 m14 m15 m16 m17) := by
  unfold f_law_C2
  refine XE_aload_n (n := 269) dL_law_268 rfl rfl rfl ?_
  refine XE_aload_n (n := 270) dL_law_269 rfl rfl rfl ?_
  refine XE_iload_n (n := 271) dL_law_270 rfl rfl rfl ?_
  refine XE_iconst (v := 1) (n := 272) dL_law_271 rfl (by decide) ?_
  refine XE_iadd (n := 273) dL_law_272 rfl ?_
  refine XE_sld (n := 274) hSc rfl dL_law_273 rfl ?_
  refine XE_aload_n (n := 275) dL_law_274 rfl rfl rfl ?_
  refine XE_iload_n (n := 276) dL_law_275 rfl rfl rfl ?_
  refine XE_iconst (v := 2) (n := 277) dL_law_276 rfl (by decide) ?_
  refine XE_iadd (n := 278) dL_law_277 rfl ?_
  refine XE_sld (n := 279) hSc rfl dL_law_278 rfl ?_
  refine XE_callV (ni := 2) (As := [.int (sc (ix (v3 + 1))), .int (sc (ix (v3 + 2)))]) (π := [0, 1, 2, 3, 4, 5, 6, 7, 8, 9, 10, 11, 12, 13, 14, 15, 16]) (co := [17]) (cv := [m17]) (nn := 18) (hs2 := fun t1 => [t1.2, m1, m2, m3, m4, m5, m6, m7, m8, m9, m10, m11, m12, m13, m14, m15, m16, m17]) (st2 := fun t1 => [.int t1.1]) (n := 282) (b := 0) xc_L_23 (fun l t ht => met_X6_coupleOf l m0 m1 m2 m3 m4 m5 m6 m7 m8 m9 m10 m11 m12 m13 m14 m15 m16 (sc (ix (v3 + 1))) (sc (ix (v3 + 2))) t ht) rfl rfl rfl rfl rfl dL_law_279 (Nat.le_of_ble_eq_true rfl) ⟨Nat.le_refl _, Nat.le_refl _⟩ (Nat.le_of_ble_eq_true rfl) (Nat.le_of_ble_eq_true rfl) ok_41 rfl rfl rfl (fun _ => rfl) (fun _ => rfl) (fun _ => rfl) rfl (fun _ => rfl) rfl (fun t1 => ?_)
  refine XE_aload_n (n := 283) dL_law_282 rfl rfl rfl ?_
  refine XE_aload_n (n := 284) dL_law_283 rfl rfl rfl ?_
  refine XE_iload_n (n := 285) dL_law_284 rfl rfl rfl ?_
  refine XE_iconst (v := 1) (n := 286) dL_law_285 rfl (by decide) ?_
  refine XE_iadd (n := 287) dL_law_286 rfl ?_
  refine XE_sld (n := 288) hSc rfl dL_law_287 rfl ?_
  refine XE_aload_n (n := 289) dL_law_288 rfl rfl rfl ?_
  refine XE_iload_n (n := 290) dL_law_289 rfl rfl rfl ?_
  refine XE_iconst (v := 2) (n := 291) dL_law_290 rfl (by decide) ?_
  refine XE_iadd (n := 292) dL_law_291 rfl ?_
  refine XE_sld (n := 293) hSc rfl dL_law_292 rfl ?_
  refine XE_callV (ni := 2) (As := [.int (sc (ix (v3 + 1))), .int (sc (ix (v3 + 2)))]) (π := [17]) (co := [0, 1, 2, 3, 4, 5, 6, 7, 8, 9, 10, 11, 12, 13, 14, 15, 16]) (cv := [t1.2, m1, m2, m3, m4, m5, m6, m7, m8, m9, m10, m11, m12, m13, m14, m15, m16]) (nn := 18) (hs2 := fun t2 => [t1.2, m1, m2, m3, m4, m5, m6, m7, m8, m9, m10, m11, m12, m13, m14, m15, m16, t2.2]) (st2 := fun t2 => [.int t2.1, .int t1.1]) (n := 296) (b := 1088) xc_L_27 (fun l t ht => met_X7_coupleOf l m17 (sc (ix (v3 + 1))) (sc (ix (v3 + 2))) t ht) rfl rfl rfl rfl rfl dL_law_293 (Nat.le_of_ble_eq_true rfl) ⟨Nat.le_refl _, Nat.le_refl _⟩ (Nat.le_of_ble_eq_true rfl) (Nat.le_of_ble_eq_true rfl) ok_42 rfl rfl rfl (fun _ => rfl) (fun _ => rfl) (fun _ => rfl) rfl (fun _ => rfl) rfl (fun t2 => ?_)
  refine XE_icmp_eq (t := 1252) (n := 299) dL_law_296 rfl rfl (fun _ => ?_) (fun _ => XE_none)
  exact law_next B nm hK v3 t1.2 m1 m2 m3 m4 m5 m6 m7 m8 m9 m10 m11 m12 m13 m14 m15 m16 t2.2
set_option maxRecDepth 100000 in
theorem law_C3 {K : Int32 → Mem → Mem → Mem → Mem → Mem → Mem → Mem → Mem → Mem → Mem → Mem → Mem → Mem → Mem → Mem → Mem → Mem → Mem → Option Unit} (B : XB) (nm : String) {L : Nat} {sc : Nat → Int32} (hSc : XSc B L sc) (hK : ∀ (v3 : Int32) (m0 : Mem) (m1 : Mem) (m2 : Mem) (m3 : Mem) (m4 : Mem) (m5 : Mem) (m6 : Mem) (m7 : Mem) (m8 : Mem) (m9 : Mem) (m10 : Mem) (m11 : Mem) (m12 : Mem) (m13 : Mem) (m14 : Mem) (m15 : Mem) (m16 : Mem) (m17 : Mem), XE B (M_law nm) (fun _ : Unit => XZ B) 18 [(0, some (.ref 4095)), (1, some (.ref 0)), (2, some (.ref 1088)), (3, some (.int v3))] [] (143, 2120) SH_XM [m0, m1, m2, m3, m4, m5, m6, m7, m8, m9, m10, m11, m12, m13, m14, m15, m16, m17] (fun t : Unit => some t) (K v3 m0 m1 m2 m3 m4 m5 m6 m7 m8 m9 m10 m11 m12 m13 m14 m15 m16 m17)) (v3 : Int32) (m0 : Mem) (m1 : Mem) (m2 : Mem) (m3 : Mem) (m4 : Mem) (m5 : Mem) (m6 : Mem) (m7 : Mem) (m8 : Mem) (m9 : Mem) (m10 : Mem) (m11 : Mem) (m12 : Mem) (m13 : Mem) (m14 : Mem) (m15 : Mem) (m16 : Mem) (m17 : Mem) : XE B (M_law nm) (fun _ : Unit => XZ B) 301 [(0, some (.ref 4095)), (1, some (.ref 0)), (2, some (.ref 1088)), (3, some (.int v3))] [] (143, 2120) SH_XM [m0, m1, m2, m3, m4, m5, m6, m7, m8, m9, m10, m11, m12, m13, m14, m15, m16, m17] (fun t : Unit => some t) (f_law_C3 K L sc v3 m0 m1 m2 m3 m4 m5 m6 m7 m8 m9 m10 m11 m12 m13 m14 m15 m16 m17) := by
  unfold f_law_C3
  refine XE_aload_n (n := 302) dL_law_301 rfl rfl rfl ?_
  refine XE_aload_n (n := 303) dL_law_302 rfl rfl rfl ?_
  refine XE_iload_n (n := 304) dL_law_303 rfl rfl rfl ?_
  refine XE_iconst (v := 1) (n := 305) dL_law_304 rfl (by decide) ?_
  refine XE_iadd (n := 306) dL_law_305 rfl ?_
  refine XE_sld (n := 307) hSc rfl dL_law_306 rfl ?_
  refine XE_callV (ni := 1) (As := [.int (sc (ix (v3 + 1)))]) (π := [0, 1, 2, 3, 4, 5, 6, 7, 8, 9, 10, 11, 12, 13, 14, 15, 16]) (co := [17]) (cv := [m17]) (nn := 18) (hs2 := fun t1 => [t1.2, m1, m2, m3, m4, m5, m6, m7, m8, m9, m10, m11, m12, m13, m14, m15, m16, m17]) (st2 := fun t1 => [.int t1.1]) (n := 310) (b := 0) xc_L_28 (fun l t ht => met_X6_order l m0 m1 m2 m3 m4 m5 m6 m7 m8 m9 m10 m11 m12 m13 m14 m15 m16 (sc (ix (v3 + 1))) t ht) rfl rfl rfl rfl rfl dL_law_307 (Nat.le_of_ble_eq_true rfl) ⟨Nat.le_refl _, Nat.le_refl _⟩ (Nat.le_of_ble_eq_true rfl) (Nat.le_of_ble_eq_true rfl) ok_41 rfl rfl rfl (fun _ => rfl) (fun _ => rfl) (fun _ => rfl) rfl (fun _ => rfl) rfl (fun t1 => ?_)
  refine XE_aload_n (n := 311) dL_law_310 rfl rfl rfl ?_
  refine XE_aload_n (n := 312) dL_law_311 rfl rfl rfl ?_
  refine XE_iload_n (n := 313) dL_law_312 rfl rfl rfl ?_
  refine XE_iconst (v := 1) (n := 314) dL_law_313 rfl (by decide) ?_
  refine XE_iadd (n := 315) dL_law_314 rfl ?_
  refine XE_sld (n := 316) hSc rfl dL_law_315 rfl ?_
  refine XE_callV (ni := 1) (As := [.int (sc (ix (v3 + 1)))]) (π := [17]) (co := [0, 1, 2, 3, 4, 5, 6, 7, 8, 9, 10, 11, 12, 13, 14, 15, 16]) (cv := [t1.2, m1, m2, m3, m4, m5, m6, m7, m8, m9, m10, m11, m12, m13, m14, m15, m16]) (nn := 18) (hs2 := fun t2 => [t1.2, m1, m2, m3, m4, m5, m6, m7, m8, m9, m10, m11, m12, m13, m14, m15, m16, t2.2]) (st2 := fun t2 => [.int t2.1, .int t1.1]) (n := 319) (b := 1088) xc_L_31 (fun l t ht => met_X7_order l m17 (sc (ix (v3 + 1))) t ht) rfl rfl rfl rfl rfl dL_law_316 (Nat.le_of_ble_eq_true rfl) ⟨Nat.le_refl _, Nat.le_refl _⟩ (Nat.le_of_ble_eq_true rfl) (Nat.le_of_ble_eq_true rfl) ok_42 rfl rfl rfl (fun _ => rfl) (fun _ => rfl) (fun _ => rfl) rfl (fun _ => rfl) rfl (fun t2 => ?_)
  refine XE_icmp_eq (t := 1252) (n := 322) dL_law_319 rfl rfl (fun _ => ?_) (fun _ => XE_none)
  exact law_next B nm hK v3 t1.2 m1 m2 m3 m4 m5 m6 m7 m8 m9 m10 m11 m12 m13 m14 m15 m16 t2.2
set_option maxRecDepth 100000 in
theorem law_C4 {K : Int32 → Mem → Mem → Mem → Mem → Mem → Mem → Mem → Mem → Mem → Mem → Mem → Mem → Mem → Mem → Mem → Mem → Mem → Mem → Option Unit} (B : XB) (nm : String) {L : Nat} {sc : Nat → Int32} (hSc : XSc B L sc) (hK : ∀ (v3 : Int32) (m0 : Mem) (m1 : Mem) (m2 : Mem) (m3 : Mem) (m4 : Mem) (m5 : Mem) (m6 : Mem) (m7 : Mem) (m8 : Mem) (m9 : Mem) (m10 : Mem) (m11 : Mem) (m12 : Mem) (m13 : Mem) (m14 : Mem) (m15 : Mem) (m16 : Mem) (m17 : Mem), XE B (M_law nm) (fun _ : Unit => XZ B) 18 [(0, some (.ref 4095)), (1, some (.ref 0)), (2, some (.ref 1088)), (3, some (.int v3))] [] (143, 2120) SH_XM [m0, m1, m2, m3, m4, m5, m6, m7, m8, m9, m10, m11, m12, m13, m14, m15, m16, m17] (fun t : Unit => some t) (K v3 m0 m1 m2 m3 m4 m5 m6 m7 m8 m9 m10 m11 m12 m13 m14 m15 m16 m17)) (v3 : Int32) (m0 : Mem) (m1 : Mem) (m2 : Mem) (m3 : Mem) (m4 : Mem) (m5 : Mem) (m6 : Mem) (m7 : Mem) (m8 : Mem) (m9 : Mem) (m10 : Mem) (m11 : Mem) (m12 : Mem) (m13 : Mem) (m14 : Mem) (m15 : Mem) (m16 : Mem) (m17 : Mem) : XE B (M_law nm) (fun _ : Unit => XZ B) 324 [(0, some (.ref 4095)), (1, some (.ref 0)), (2, some (.ref 1088)), (3, some (.int v3))] [] (143, 2120) SH_XM [m0, m1, m2, m3, m4, m5, m6, m7, m8, m9, m10, m11, m12, m13, m14, m15, m16, m17] (fun t : Unit => some t) (f_law_C4 K L sc v3 m0 m1 m2 m3 m4 m5 m6 m7 m8 m9 m10 m11 m12 m13 m14 m15 m16 m17) := by
  unfold f_law_C4
  refine XE_aload_n (n := 325) dL_law_324 rfl rfl rfl ?_
  refine XE_aload_n (n := 326) dL_law_325 rfl rfl rfl ?_
  refine XE_iload_n (n := 327) dL_law_326 rfl rfl rfl ?_
  refine XE_iconst (v := 1) (n := 328) dL_law_327 rfl (by decide) ?_
  refine XE_iadd (n := 329) dL_law_328 rfl ?_
  refine XE_sld (n := 330) hSc rfl dL_law_329 rfl ?_
  refine XE_callV (ni := 1) (As := [.int (sc (ix (v3 + 1)))]) (π := [0, 1, 2, 3, 4, 5, 6, 7, 8, 9, 10, 11, 12, 13, 14, 15, 16]) (co := [17]) (cv := [m17]) (nn := 18) (hs2 := fun t1 => [t1.2, m1, m2, m3, m4, m5, m6, m7, m8, m9, m10, m11, m12, m13, m14, m15, m16, m17]) (st2 := fun t1 => [.int t1.1]) (n := 333) (b := 0) xc_L_32 (fun l t ht => met_X6_free l m0 m1 m2 m3 m4 m5 m6 m7 m8 m9 m10 m11 m12 m13 m14 m15 m16 (sc (ix (v3 + 1))) t ht) rfl rfl rfl rfl rfl dL_law_330 (Nat.le_of_ble_eq_true rfl) ⟨Nat.le_refl _, Nat.le_refl _⟩ (Nat.le_of_ble_eq_true rfl) (Nat.le_of_ble_eq_true rfl) ok_41 rfl rfl rfl (fun _ => rfl) (fun _ => rfl) (fun _ => rfl) rfl (fun _ => rfl) rfl (fun t1 => ?_)
  refine XE_aload_n (n := 334) dL_law_333 rfl rfl rfl ?_
  refine XE_aload_n (n := 335) dL_law_334 rfl rfl rfl ?_
  refine XE_iload_n (n := 336) dL_law_335 rfl rfl rfl ?_
  refine XE_iconst (v := 1) (n := 337) dL_law_336 rfl (by decide) ?_
  refine XE_iadd (n := 338) dL_law_337 rfl ?_
  refine XE_sld (n := 339) hSc rfl dL_law_338 rfl ?_
  refine XE_callV (ni := 1) (As := [.int (sc (ix (v3 + 1)))]) (π := [17]) (co := [0, 1, 2, 3, 4, 5, 6, 7, 8, 9, 10, 11, 12, 13, 14, 15, 16]) (cv := [t1.2, m1, m2, m3, m4, m5, m6, m7, m8, m9, m10, m11, m12, m13, m14, m15, m16]) (nn := 18) (hs2 := fun t2 => [t1.2, m1, m2, m3, m4, m5, m6, m7, m8, m9, m10, m11, m12, m13, m14, m15, m16, t2.2]) (st2 := fun t2 => [.int t2.1, .int t1.1]) (n := 342) (b := 1088) xc_L_35 (fun l t ht => met_X7_free l m17 (sc (ix (v3 + 1))) t ht) rfl rfl rfl rfl rfl dL_law_339 (Nat.le_of_ble_eq_true rfl) ⟨Nat.le_refl _, Nat.le_refl _⟩ (Nat.le_of_ble_eq_true rfl) (Nat.le_of_ble_eq_true rfl) ok_42 rfl rfl rfl (fun _ => rfl) (fun _ => rfl) (fun _ => rfl) rfl (fun _ => rfl) rfl (fun t2 => ?_)
  refine XE_icmp_eq (t := 1252) (n := 345) dL_law_342 rfl rfl (fun _ => ?_) (fun _ => XE_none)
  exact law_next B nm hK v3 t1.2 m1 m2 m3 m4 m5 m6 m7 m8 m9 m10 m11 m12 m13 m14 m15 m16 t2.2
set_option maxRecDepth 100000 in
theorem law_C5 {K : Int32 → Mem → Mem → Mem → Mem → Mem → Mem → Mem → Mem → Mem → Mem → Mem → Mem → Mem → Mem → Mem → Mem → Mem → Mem → Option Unit} (B : XB) (nm : String) {L : Nat} {sc : Nat → Int32} (hSc : XSc B L sc) (hK : ∀ (v3 : Int32) (m0 : Mem) (m1 : Mem) (m2 : Mem) (m3 : Mem) (m4 : Mem) (m5 : Mem) (m6 : Mem) (m7 : Mem) (m8 : Mem) (m9 : Mem) (m10 : Mem) (m11 : Mem) (m12 : Mem) (m13 : Mem) (m14 : Mem) (m15 : Mem) (m16 : Mem) (m17 : Mem), XE B (M_law nm) (fun _ : Unit => XZ B) 18 [(0, some (.ref 4095)), (1, some (.ref 0)), (2, some (.ref 1088)), (3, some (.int v3))] [] (143, 2120) SH_XM [m0, m1, m2, m3, m4, m5, m6, m7, m8, m9, m10, m11, m12, m13, m14, m15, m16, m17] (fun t : Unit => some t) (K v3 m0 m1 m2 m3 m4 m5 m6 m7 m8 m9 m10 m11 m12 m13 m14 m15 m16 m17)) (v3 : Int32) (m0 : Mem) (m1 : Mem) (m2 : Mem) (m3 : Mem) (m4 : Mem) (m5 : Mem) (m6 : Mem) (m7 : Mem) (m8 : Mem) (m9 : Mem) (m10 : Mem) (m11 : Mem) (m12 : Mem) (m13 : Mem) (m14 : Mem) (m15 : Mem) (m16 : Mem) (m17 : Mem) : XE B (M_law nm) (fun _ : Unit => XZ B) 347 [(0, some (.ref 4095)), (1, some (.ref 0)), (2, some (.ref 1088)), (3, some (.int v3))] [] (143, 2120) SH_XM [m0, m1, m2, m3, m4, m5, m6, m7, m8, m9, m10, m11, m12, m13, m14, m15, m16, m17] (fun t : Unit => some t) (f_law_C5 K L sc v3 m0 m1 m2 m3 m4 m5 m6 m7 m8 m9 m10 m11 m12 m13 m14 m15 m16 m17) := by
  unfold f_law_C5
  refine XE_aload_n (n := 348) dL_law_347 rfl rfl rfl ?_
  refine XE_aload_n (n := 349) dL_law_348 rfl rfl rfl ?_
  refine XE_iload_n (n := 350) dL_law_349 rfl rfl rfl ?_
  refine XE_iconst (v := 1) (n := 351) dL_law_350 rfl (by decide) ?_
  refine XE_iadd (n := 352) dL_law_351 rfl ?_
  refine XE_sld (n := 353) hSc rfl dL_law_352 rfl ?_
  refine XE_aload_n (n := 354) dL_law_353 rfl rfl rfl ?_
  refine XE_iload_n (n := 355) dL_law_354 rfl rfl rfl ?_
  refine XE_iconst (v := 2) (n := 356) dL_law_355 rfl (by decide) ?_
  refine XE_iadd (n := 357) dL_law_356 rfl ?_
  refine XE_sld (n := 358) hSc rfl dL_law_357 rfl ?_
  refine XE_aload_n (n := 359) dL_law_358 rfl rfl rfl ?_
  refine XE_iload_n (n := 360) dL_law_359 rfl rfl rfl ?_
  refine XE_iconst (v := 3) (n := 361) dL_law_360 rfl (by decide) ?_
  refine XE_iadd (n := 362) dL_law_361 rfl ?_
  refine XE_sld (n := 363) hSc rfl dL_law_362 rfl ?_
  refine XE_callV (ni := 3) (As := [.int (sc (ix (v3 + 1))), .int (sc (ix (v3 + 2))), .int (sc (ix (v3 + 3)))]) (π := [0, 1, 2, 3, 4, 5, 6, 7, 8, 9, 10, 11, 12, 13, 14, 15, 16]) (co := [17]) (cv := [m17]) (nn := 18) (hs2 := fun t1 => [t1.2.1, t1.2.2.1, m2, m3, t1.2.2.2, m5, m6, m7, m8, m9, m10, m11, m12, m13, m14, m15, m16, m17]) (st2 := fun t1 => [.int t1.1]) (n := 366) (b := 0) xc_L_36 (fun l t ht => met_X6_couple l m0 m1 m2 m3 m4 m5 m6 m7 m8 m9 m10 m11 m12 m13 m14 m15 m16 (sc (ix (v3 + 1))) (sc (ix (v3 + 2))) (sc (ix (v3 + 3))) t ht) rfl rfl rfl rfl rfl dL_law_363 (Nat.le_of_ble_eq_true rfl) ⟨Nat.le_refl _, Nat.le_refl _⟩ (Nat.le_of_ble_eq_true rfl) (Nat.le_of_ble_eq_true rfl) ok_41 rfl rfl rfl (fun _ => rfl) (fun _ => rfl) (fun _ => rfl) rfl (fun _ => rfl) rfl (fun t1 => ?_)
  refine XE_aload_n (n := 367) dL_law_366 rfl rfl rfl ?_
  refine XE_aload_n (n := 368) dL_law_367 rfl rfl rfl ?_
  refine XE_iload_n (n := 369) dL_law_368 rfl rfl rfl ?_
  refine XE_iconst (v := 1) (n := 370) dL_law_369 rfl (by decide) ?_
  refine XE_iadd (n := 371) dL_law_370 rfl ?_
  refine XE_sld (n := 372) hSc rfl dL_law_371 rfl ?_
  refine XE_aload_n (n := 373) dL_law_372 rfl rfl rfl ?_
  refine XE_iload_n (n := 374) dL_law_373 rfl rfl rfl ?_
  refine XE_iconst (v := 2) (n := 375) dL_law_374 rfl (by decide) ?_
  refine XE_iadd (n := 376) dL_law_375 rfl ?_
  refine XE_sld (n := 377) hSc rfl dL_law_376 rfl ?_
  refine XE_aload_n (n := 378) dL_law_377 rfl rfl rfl ?_
  refine XE_iload_n (n := 379) dL_law_378 rfl rfl rfl ?_
  refine XE_iconst (v := 3) (n := 380) dL_law_379 rfl (by decide) ?_
  refine XE_iadd (n := 381) dL_law_380 rfl ?_
  refine XE_sld (n := 382) hSc rfl dL_law_381 rfl ?_
  refine XE_callV (ni := 3) (As := [.int (sc (ix (v3 + 1))), .int (sc (ix (v3 + 2))), .int (sc (ix (v3 + 3)))]) (π := [17]) (co := [0, 1, 2, 3, 4, 5, 6, 7, 8, 9, 10, 11, 12, 13, 14, 15, 16]) (cv := [t1.2.1, t1.2.2.1, m2, m3, t1.2.2.2, m5, m6, m7, m8, m9, m10, m11, m12, m13, m14, m15, m16]) (nn := 18) (hs2 := fun t2 => [t1.2.1, t1.2.2.1, m2, m3, t1.2.2.2, m5, m6, m7, m8, m9, m10, m11, m12, m13, m14, m15, m16, t2.2]) (st2 := fun t2 => [.int t2.1, .int t1.1]) (n := 385) (b := 1088) xc_L_40 (fun l t ht => met_X7_couple l m17 (sc (ix (v3 + 1))) (sc (ix (v3 + 2))) (sc (ix (v3 + 3))) t ht) rfl rfl rfl rfl rfl dL_law_382 (Nat.le_of_ble_eq_true rfl) ⟨Nat.le_refl _, Nat.le_refl _⟩ (Nat.le_of_ble_eq_true rfl) (Nat.le_of_ble_eq_true rfl) ok_42 rfl rfl rfl (fun _ => rfl) (fun _ => rfl) (fun _ => rfl) rfl (fun _ => rfl) rfl (fun t2 => ?_)
  refine XE_icmp_eq (t := 1252) (n := 388) dL_law_385 rfl rfl (fun _ => ?_) (fun _ => XE_none)
  exact law_next B nm hK v3 t1.2.1 t1.2.2.1 m2 m3 t1.2.2.2 m5 m6 m7 m8 m9 m10 m11 m12 m13 m14 m15 m16 t2.2
set_option maxRecDepth 100000 in
theorem law_C6 {K : Int32 → Mem → Mem → Mem → Mem → Mem → Mem → Mem → Mem → Mem → Mem → Mem → Mem → Mem → Mem → Mem → Mem → Mem → Mem → Option Unit} (B : XB) (nm : String) {L : Nat} {sc : Nat → Int32} (hSc : XSc B L sc) (hK : ∀ (v3 : Int32) (m0 : Mem) (m1 : Mem) (m2 : Mem) (m3 : Mem) (m4 : Mem) (m5 : Mem) (m6 : Mem) (m7 : Mem) (m8 : Mem) (m9 : Mem) (m10 : Mem) (m11 : Mem) (m12 : Mem) (m13 : Mem) (m14 : Mem) (m15 : Mem) (m16 : Mem) (m17 : Mem), XE B (M_law nm) (fun _ : Unit => XZ B) 18 [(0, some (.ref 4095)), (1, some (.ref 0)), (2, some (.ref 1088)), (3, some (.int v3))] [] (143, 2120) SH_XM [m0, m1, m2, m3, m4, m5, m6, m7, m8, m9, m10, m11, m12, m13, m14, m15, m16, m17] (fun t : Unit => some t) (K v3 m0 m1 m2 m3 m4 m5 m6 m7 m8 m9 m10 m11 m12 m13 m14 m15 m16 m17)) (v3 : Int32) (m0 : Mem) (m1 : Mem) (m2 : Mem) (m3 : Mem) (m4 : Mem) (m5 : Mem) (m6 : Mem) (m7 : Mem) (m8 : Mem) (m9 : Mem) (m10 : Mem) (m11 : Mem) (m12 : Mem) (m13 : Mem) (m14 : Mem) (m15 : Mem) (m16 : Mem) (m17 : Mem) : XE B (M_law nm) (fun _ : Unit => XZ B) 390 [(0, some (.ref 4095)), (1, some (.ref 0)), (2, some (.ref 1088)), (3, some (.int v3))] [] (143, 2120) SH_XM [m0, m1, m2, m3, m4, m5, m6, m7, m8, m9, m10, m11, m12, m13, m14, m15, m16, m17] (fun t : Unit => some t) (f_law_C6 K L sc v3 m0 m1 m2 m3 m4 m5 m6 m7 m8 m9 m10 m11 m12 m13 m14 m15 m16 m17) := by
  unfold f_law_C6
  refine XE_aload_n (n := 391) dL_law_390 rfl rfl rfl ?_
  refine XE_aload_n (n := 392) dL_law_391 rfl rfl rfl ?_
  refine XE_iload_n (n := 393) dL_law_392 rfl rfl rfl ?_
  refine XE_iconst (v := 1) (n := 394) dL_law_393 rfl (by decide) ?_
  refine XE_iadd (n := 395) dL_law_394 rfl ?_
  refine XE_sld (n := 396) hSc rfl dL_law_395 rfl ?_
  refine XE_callV (ni := 1) (As := [.int (sc (ix (v3 + 1)))]) (π := [0, 1, 2, 3, 4, 5, 6, 7, 8, 9, 10, 11, 12, 13, 14, 15, 16]) (co := [17]) (cv := [m17]) (nn := 18) (hs2 := fun t1 => [t1.2.1, t1.2.2.1, m2, m3, t1.2.2.2, m5, m6, m7, m8, m9, m10, m11, m12, m13, m14, m15, m16, m17]) (st2 := fun t1 => [.int t1.1]) (n := 399) (b := 0) xc_L_41 (fun l t ht => met_X6_rooms l m0 m1 m2 m3 m4 m5 m6 m7 m8 m9 m10 m11 m12 m13 m14 m15 m16 (sc (ix (v3 + 1))) t ht) rfl rfl rfl rfl rfl dL_law_396 (Nat.le_of_ble_eq_true rfl) ⟨Nat.le_refl _, Nat.le_refl _⟩ (Nat.le_of_ble_eq_true rfl) (Nat.le_of_ble_eq_true rfl) ok_41 rfl rfl rfl (fun _ => rfl) (fun _ => rfl) (fun _ => rfl) rfl (fun _ => rfl) rfl (fun t1 => ?_)
  refine XE_aload_n (n := 400) dL_law_399 rfl rfl rfl ?_
  refine XE_aload_n (n := 401) dL_law_400 rfl rfl rfl ?_
  refine XE_iload_n (n := 402) dL_law_401 rfl rfl rfl ?_
  refine XE_iconst (v := 1) (n := 403) dL_law_402 rfl (by decide) ?_
  refine XE_iadd (n := 404) dL_law_403 rfl ?_
  refine XE_sld (n := 405) hSc rfl dL_law_404 rfl ?_
  refine XE_callV (ni := 1) (As := [.int (sc (ix (v3 + 1)))]) (π := [17]) (co := [0, 1, 2, 3, 4, 5, 6, 7, 8, 9, 10, 11, 12, 13, 14, 15, 16]) (cv := [t1.2.1, t1.2.2.1, m2, m3, t1.2.2.2, m5, m6, m7, m8, m9, m10, m11, m12, m13, m14, m15, m16]) (nn := 18) (hs2 := fun t2 => [t1.2.1, t1.2.2.1, m2, m3, t1.2.2.2, m5, m6, m7, m8, m9, m10, m11, m12, m13, m14, m15, m16, t2.2]) (st2 := fun t2 => [.int t2.1, .int t1.1]) (n := 408) (b := 1088) xc_L_44 (fun l t ht => met_X7_rooms l m17 (sc (ix (v3 + 1))) t ht) rfl rfl rfl rfl rfl dL_law_405 (Nat.le_of_ble_eq_true rfl) ⟨Nat.le_refl _, Nat.le_refl _⟩ (Nat.le_of_ble_eq_true rfl) (Nat.le_of_ble_eq_true rfl) ok_42 rfl rfl rfl (fun _ => rfl) (fun _ => rfl) (fun _ => rfl) rfl (fun _ => rfl) rfl (fun t2 => ?_)
  refine XE_icmp_eq (t := 1252) (n := 411) dL_law_408 rfl rfl (fun _ => ?_) (fun _ => XE_none)
  exact law_next B nm hK v3 t1.2.1 t1.2.2.1 m2 m3 t1.2.2.2 m5 m6 m7 m8 m9 m10 m11 m12 m13 m14 m15 m16 t2.2
set_option maxRecDepth 100000 in
theorem law_C7 {K : Int32 → Mem → Mem → Mem → Mem → Mem → Mem → Mem → Mem → Mem → Mem → Mem → Mem → Mem → Mem → Mem → Mem → Mem → Mem → Option Unit} (B : XB) (nm : String) {L : Nat} {sc : Nat → Int32} (hSc : XSc B L sc) (hK : ∀ (v3 : Int32) (m0 : Mem) (m1 : Mem) (m2 : Mem) (m3 : Mem) (m4 : Mem) (m5 : Mem) (m6 : Mem) (m7 : Mem) (m8 : Mem) (m9 : Mem) (m10 : Mem) (m11 : Mem) (m12 : Mem) (m13 : Mem) (m14 : Mem) (m15 : Mem) (m16 : Mem) (m17 : Mem), XE B (M_law nm) (fun _ : Unit => XZ B) 18 [(0, some (.ref 4095)), (1, some (.ref 0)), (2, some (.ref 1088)), (3, some (.int v3))] [] (143, 2120) SH_XM [m0, m1, m2, m3, m4, m5, m6, m7, m8, m9, m10, m11, m12, m13, m14, m15, m16, m17] (fun t : Unit => some t) (K v3 m0 m1 m2 m3 m4 m5 m6 m7 m8 m9 m10 m11 m12 m13 m14 m15 m16 m17)) (v3 : Int32) (m0 : Mem) (m1 : Mem) (m2 : Mem) (m3 : Mem) (m4 : Mem) (m5 : Mem) (m6 : Mem) (m7 : Mem) (m8 : Mem) (m9 : Mem) (m10 : Mem) (m11 : Mem) (m12 : Mem) (m13 : Mem) (m14 : Mem) (m15 : Mem) (m16 : Mem) (m17 : Mem) : XE B (M_law nm) (fun _ : Unit => XZ B) 413 [(0, some (.ref 4095)), (1, some (.ref 0)), (2, some (.ref 1088)), (3, some (.int v3))] [] (143, 2120) SH_XM [m0, m1, m2, m3, m4, m5, m6, m7, m8, m9, m10, m11, m12, m13, m14, m15, m16, m17] (fun t : Unit => some t) (f_law_C7 K L sc v3 m0 m1 m2 m3 m4 m5 m6 m7 m8 m9 m10 m11 m12 m13 m14 m15 m16 m17) := by
  unfold f_law_C7
  refine XE_aload_n (n := 414) dL_law_413 rfl rfl rfl ?_
  refine XE_aload_n (n := 415) dL_law_414 rfl rfl rfl ?_
  refine XE_iload_n (n := 416) dL_law_415 rfl rfl rfl ?_
  refine XE_iconst (v := 1) (n := 417) dL_law_416 rfl (by decide) ?_
  refine XE_iadd (n := 418) dL_law_417 rfl ?_
  refine XE_sld (n := 419) hSc rfl dL_law_418 rfl ?_
  refine XE_callV (ni := 1) (As := [.int (sc (ix (v3 + 1)))]) (π := [0, 1, 2, 3, 4, 5, 6, 7, 8, 9, 10, 11, 12, 13, 14, 15, 16]) (co := [17]) (cv := [m17]) (nn := 18) (hs2 := fun t1 => [t1.2.1, t1.2.2.1, m2, m3, t1.2.2.2.1, t1.2.2.2.2.1, t1.2.2.2.2.2.1, t1.2.2.2.2.2.2.1, t1.2.2.2.2.2.2.2.1, t1.2.2.2.2.2.2.2.2.1, t1.2.2.2.2.2.2.2.2.2.1, t1.2.2.2.2.2.2.2.2.2.2.1, t1.2.2.2.2.2.2.2.2.2.2.2, m13, m14, m15, m16, m17]) (st2 := fun t1 => [.int t1.1]) (n := 422) (b := 0) xc_L_45 (fun l t ht => met_X6_weds l m0 m1 m2 m3 m4 m5 m6 m7 m8 m9 m10 m11 m12 m13 m14 m15 m16 (sc (ix (v3 + 1))) t ht) rfl rfl rfl rfl rfl dL_law_419 (Nat.le_of_ble_eq_true rfl) ⟨Nat.le_refl _, Nat.le_refl _⟩ (Nat.le_of_ble_eq_true rfl) (Nat.le_of_ble_eq_true rfl) ok_41 rfl rfl rfl (fun _ => rfl) (fun _ => rfl) (fun _ => rfl) rfl (fun _ => rfl) rfl (fun t1 => ?_)
  refine XE_aload_n (n := 423) dL_law_422 rfl rfl rfl ?_
  refine XE_aload_n (n := 424) dL_law_423 rfl rfl rfl ?_
  refine XE_iload_n (n := 425) dL_law_424 rfl rfl rfl ?_
  refine XE_iconst (v := 1) (n := 426) dL_law_425 rfl (by decide) ?_
  refine XE_iadd (n := 427) dL_law_426 rfl ?_
  refine XE_sld (n := 428) hSc rfl dL_law_427 rfl ?_
  refine XE_callV (ni := 1) (As := [.int (sc (ix (v3 + 1)))]) (π := [17]) (co := [0, 1, 2, 3, 4, 5, 6, 7, 8, 9, 10, 11, 12, 13, 14, 15, 16]) (cv := [t1.2.1, t1.2.2.1, m2, m3, t1.2.2.2.1, t1.2.2.2.2.1, t1.2.2.2.2.2.1, t1.2.2.2.2.2.2.1, t1.2.2.2.2.2.2.2.1, t1.2.2.2.2.2.2.2.2.1, t1.2.2.2.2.2.2.2.2.2.1, t1.2.2.2.2.2.2.2.2.2.2.1, t1.2.2.2.2.2.2.2.2.2.2.2, m13, m14, m15, m16]) (nn := 18) (hs2 := fun t2 => [t1.2.1, t1.2.2.1, m2, m3, t1.2.2.2.1, t1.2.2.2.2.1, t1.2.2.2.2.2.1, t1.2.2.2.2.2.2.1, t1.2.2.2.2.2.2.2.1, t1.2.2.2.2.2.2.2.2.1, t1.2.2.2.2.2.2.2.2.2.1, t1.2.2.2.2.2.2.2.2.2.2.1, t1.2.2.2.2.2.2.2.2.2.2.2, m13, m14, m15, m16, t2.2]) (st2 := fun t2 => [.int t2.1, .int t1.1]) (n := 431) (b := 1088) xc_L_48 (fun l t ht => met_X7_weds l m17 (sc (ix (v3 + 1))) t ht) rfl rfl rfl rfl rfl dL_law_428 (Nat.le_of_ble_eq_true rfl) ⟨Nat.le_refl _, Nat.le_refl _⟩ (Nat.le_of_ble_eq_true rfl) (Nat.le_of_ble_eq_true rfl) ok_42 rfl rfl rfl (fun _ => rfl) (fun _ => rfl) (fun _ => rfl) rfl (fun _ => rfl) rfl (fun t2 => ?_)
  refine XE_icmp_eq (t := 1252) (n := 434) dL_law_431 rfl rfl (fun _ => ?_) (fun _ => XE_none)
  exact law_next B nm hK v3 t1.2.1 t1.2.2.1 m2 m3 t1.2.2.2.1 t1.2.2.2.2.1 t1.2.2.2.2.2.1 t1.2.2.2.2.2.2.1 t1.2.2.2.2.2.2.2.1 t1.2.2.2.2.2.2.2.2.1 t1.2.2.2.2.2.2.2.2.2.1 t1.2.2.2.2.2.2.2.2.2.2.1 t1.2.2.2.2.2.2.2.2.2.2.2 m13 m14 m15 m16 t2.2
set_option maxRecDepth 100000 in
theorem law_C8 {K : Int32 → Mem → Mem → Mem → Mem → Mem → Mem → Mem → Mem → Mem → Mem → Mem → Mem → Mem → Mem → Mem → Mem → Mem → Mem → Option Unit} (B : XB) (nm : String) {L : Nat} {sc : Nat → Int32} (hSc : XSc B L sc) (hK : ∀ (v3 : Int32) (m0 : Mem) (m1 : Mem) (m2 : Mem) (m3 : Mem) (m4 : Mem) (m5 : Mem) (m6 : Mem) (m7 : Mem) (m8 : Mem) (m9 : Mem) (m10 : Mem) (m11 : Mem) (m12 : Mem) (m13 : Mem) (m14 : Mem) (m15 : Mem) (m16 : Mem) (m17 : Mem), XE B (M_law nm) (fun _ : Unit => XZ B) 18 [(0, some (.ref 4095)), (1, some (.ref 0)), (2, some (.ref 1088)), (3, some (.int v3))] [] (143, 2120) SH_XM [m0, m1, m2, m3, m4, m5, m6, m7, m8, m9, m10, m11, m12, m13, m14, m15, m16, m17] (fun t : Unit => some t) (K v3 m0 m1 m2 m3 m4 m5 m6 m7 m8 m9 m10 m11 m12 m13 m14 m15 m16 m17)) (v3 : Int32) (m0 : Mem) (m1 : Mem) (m2 : Mem) (m3 : Mem) (m4 : Mem) (m5 : Mem) (m6 : Mem) (m7 : Mem) (m8 : Mem) (m9 : Mem) (m10 : Mem) (m11 : Mem) (m12 : Mem) (m13 : Mem) (m14 : Mem) (m15 : Mem) (m16 : Mem) (m17 : Mem) : XE B (M_law nm) (fun _ : Unit => XZ B) 436 [(0, some (.ref 4095)), (1, some (.ref 0)), (2, some (.ref 1088)), (3, some (.int v3))] [] (143, 2120) SH_XM [m0, m1, m2, m3, m4, m5, m6, m7, m8, m9, m10, m11, m12, m13, m14, m15, m16, m17] (fun t : Unit => some t) (f_law_C8 K L sc v3 m0 m1 m2 m3 m4 m5 m6 m7 m8 m9 m10 m11 m12 m13 m14 m15 m16 m17) := by
  unfold f_law_C8
  refine XE_aload_n (n := 437) dL_law_436 rfl rfl rfl ?_
  refine XE_aload_n (n := 438) dL_law_437 rfl rfl rfl ?_
  refine XE_iload_n (n := 439) dL_law_438 rfl rfl rfl ?_
  refine XE_iconst (v := 1) (n := 440) dL_law_439 rfl (by decide) ?_
  refine XE_iadd (n := 441) dL_law_440 rfl ?_
  refine XE_sld (n := 442) hSc rfl dL_law_441 rfl ?_
  refine XE_callV (ni := 1) (As := [.int (sc (ix (v3 + 1)))]) (π := [0, 1, 2, 3, 4, 5, 6, 7, 8, 9, 10, 11, 12, 13, 14, 15, 16]) (co := [17]) (cv := [m17]) (nn := 18) (hs2 := fun t1 => [t1.2.1, t1.2.2.1, m2, m3, t1.2.2.2.1, t1.2.2.2.2.1, t1.2.2.2.2.2.1, t1.2.2.2.2.2.2.1, t1.2.2.2.2.2.2.2.1, t1.2.2.2.2.2.2.2.2.1, t1.2.2.2.2.2.2.2.2.2.1, t1.2.2.2.2.2.2.2.2.2.2.1, t1.2.2.2.2.2.2.2.2.2.2.2, m13, m14, m15, m16, m17]) (st2 := fun t1 => [.int t1.1]) (n := 445) (b := 0) xc_L_49 (fun l t ht => met_X6_pulls l m0 m1 m2 m3 m4 m5 m6 m7 m8 m9 m10 m11 m12 m13 m14 m15 m16 (sc (ix (v3 + 1))) t ht) rfl rfl rfl rfl rfl dL_law_442 (Nat.le_of_ble_eq_true rfl) ⟨Nat.le_refl _, Nat.le_refl _⟩ (Nat.le_of_ble_eq_true rfl) (Nat.le_of_ble_eq_true rfl) ok_41 rfl rfl rfl (fun _ => rfl) (fun _ => rfl) (fun _ => rfl) rfl (fun _ => rfl) rfl (fun t1 => ?_)
  refine XE_aload_n (n := 446) dL_law_445 rfl rfl rfl ?_
  refine XE_aload_n (n := 447) dL_law_446 rfl rfl rfl ?_
  refine XE_iload_n (n := 448) dL_law_447 rfl rfl rfl ?_
  refine XE_iconst (v := 1) (n := 449) dL_law_448 rfl (by decide) ?_
  refine XE_iadd (n := 450) dL_law_449 rfl ?_
  refine XE_sld (n := 451) hSc rfl dL_law_450 rfl ?_
  refine XE_callV (ni := 1) (As := [.int (sc (ix (v3 + 1)))]) (π := [17]) (co := [0, 1, 2, 3, 4, 5, 6, 7, 8, 9, 10, 11, 12, 13, 14, 15, 16]) (cv := [t1.2.1, t1.2.2.1, m2, m3, t1.2.2.2.1, t1.2.2.2.2.1, t1.2.2.2.2.2.1, t1.2.2.2.2.2.2.1, t1.2.2.2.2.2.2.2.1, t1.2.2.2.2.2.2.2.2.1, t1.2.2.2.2.2.2.2.2.2.1, t1.2.2.2.2.2.2.2.2.2.2.1, t1.2.2.2.2.2.2.2.2.2.2.2, m13, m14, m15, m16]) (nn := 18) (hs2 := fun t2 => [t1.2.1, t1.2.2.1, m2, m3, t1.2.2.2.1, t1.2.2.2.2.1, t1.2.2.2.2.2.1, t1.2.2.2.2.2.2.1, t1.2.2.2.2.2.2.2.1, t1.2.2.2.2.2.2.2.2.1, t1.2.2.2.2.2.2.2.2.2.1, t1.2.2.2.2.2.2.2.2.2.2.1, t1.2.2.2.2.2.2.2.2.2.2.2, m13, m14, m15, m16, t2.2]) (st2 := fun t2 => [.int t2.1, .int t1.1]) (n := 454) (b := 1088) xc_L_52 (fun l t ht => met_X7_pulls l m17 (sc (ix (v3 + 1))) t ht) rfl rfl rfl rfl rfl dL_law_451 (Nat.le_of_ble_eq_true rfl) ⟨Nat.le_refl _, Nat.le_refl _⟩ (Nat.le_of_ble_eq_true rfl) (Nat.le_of_ble_eq_true rfl) ok_42 rfl rfl rfl (fun _ => rfl) (fun _ => rfl) (fun _ => rfl) rfl (fun _ => rfl) rfl (fun t2 => ?_)
  refine XE_icmp_eq (t := 1252) (n := 457) dL_law_454 rfl rfl (fun _ => ?_) (fun _ => XE_none)
  exact law_next B nm hK v3 t1.2.1 t1.2.2.1 m2 m3 t1.2.2.2.1 t1.2.2.2.2.1 t1.2.2.2.2.2.1 t1.2.2.2.2.2.2.1 t1.2.2.2.2.2.2.2.1 t1.2.2.2.2.2.2.2.2.1 t1.2.2.2.2.2.2.2.2.2.1 t1.2.2.2.2.2.2.2.2.2.2.1 t1.2.2.2.2.2.2.2.2.2.2.2 m13 m14 m15 m16 t2.2
set_option maxRecDepth 100000 in
theorem law_C9 {K : Int32 → Mem → Mem → Mem → Mem → Mem → Mem → Mem → Mem → Mem → Mem → Mem → Mem → Mem → Mem → Mem → Mem → Mem → Mem → Option Unit} (B : XB) (nm : String) {L : Nat} {sc : Nat → Int32} (hSc : XSc B L sc) (hK : ∀ (v3 : Int32) (m0 : Mem) (m1 : Mem) (m2 : Mem) (m3 : Mem) (m4 : Mem) (m5 : Mem) (m6 : Mem) (m7 : Mem) (m8 : Mem) (m9 : Mem) (m10 : Mem) (m11 : Mem) (m12 : Mem) (m13 : Mem) (m14 : Mem) (m15 : Mem) (m16 : Mem) (m17 : Mem), XE B (M_law nm) (fun _ : Unit => XZ B) 18 [(0, some (.ref 4095)), (1, some (.ref 0)), (2, some (.ref 1088)), (3, some (.int v3))] [] (143, 2120) SH_XM [m0, m1, m2, m3, m4, m5, m6, m7, m8, m9, m10, m11, m12, m13, m14, m15, m16, m17] (fun t : Unit => some t) (K v3 m0 m1 m2 m3 m4 m5 m6 m7 m8 m9 m10 m11 m12 m13 m14 m15 m16 m17)) (v3 : Int32) (m0 : Mem) (m1 : Mem) (m2 : Mem) (m3 : Mem) (m4 : Mem) (m5 : Mem) (m6 : Mem) (m7 : Mem) (m8 : Mem) (m9 : Mem) (m10 : Mem) (m11 : Mem) (m12 : Mem) (m13 : Mem) (m14 : Mem) (m15 : Mem) (m16 : Mem) (m17 : Mem) : XE B (M_law nm) (fun _ : Unit => XZ B) 459 [(0, some (.ref 4095)), (1, some (.ref 0)), (2, some (.ref 1088)), (3, some (.int v3))] [] (143, 2120) SH_XM [m0, m1, m2, m3, m4, m5, m6, m7, m8, m9, m10, m11, m12, m13, m14, m15, m16, m17] (fun t : Unit => some t) (f_law_C9 K L sc v3 m0 m1 m2 m3 m4 m5 m6 m7 m8 m9 m10 m11 m12 m13 m14 m15 m16 m17) := by
  unfold f_law_C9
  refine XE_aload_n (n := 460) dL_law_459 rfl rfl rfl ?_
  refine XE_aload_n (n := 461) dL_law_460 rfl rfl rfl ?_
  refine XE_iload_n (n := 462) dL_law_461 rfl rfl rfl ?_
  refine XE_iconst (v := 1) (n := 463) dL_law_462 rfl (by decide) ?_
  refine XE_iadd (n := 464) dL_law_463 rfl ?_
  refine XE_sld (n := 465) hSc rfl dL_law_464 rfl ?_
  refine XE_callV (ni := 1) (As := [.int (sc (ix (v3 + 1)))]) (π := [0, 1, 2, 3, 4, 5, 6, 7, 8, 9, 10, 11, 12, 13, 14, 15, 16]) (co := [17]) (cv := [m17]) (nn := 18) (hs2 := fun t1 => [t1.2.1, t1.2.2.1, m2, m3, t1.2.2.2.1, t1.2.2.2.2.1, t1.2.2.2.2.2.1, t1.2.2.2.2.2.2.1, t1.2.2.2.2.2.2.2.1, t1.2.2.2.2.2.2.2.2.1, t1.2.2.2.2.2.2.2.2.2.1, t1.2.2.2.2.2.2.2.2.2.2.1, t1.2.2.2.2.2.2.2.2.2.2.2, m13, m14, m15, m16, m17]) (st2 := fun t1 => [.int t1.1]) (n := 468) (b := 0) xc_L_53 (fun l t ht => met_X6_slack l m0 m1 m2 m3 m4 m5 m6 m7 m8 m9 m10 m11 m12 m13 m14 m15 m16 (sc (ix (v3 + 1))) t ht) rfl rfl rfl rfl rfl dL_law_465 (Nat.le_of_ble_eq_true rfl) ⟨Nat.le_refl _, Nat.le_refl _⟩ (Nat.le_of_ble_eq_true rfl) (Nat.le_of_ble_eq_true rfl) ok_41 rfl rfl rfl (fun _ => rfl) (fun _ => rfl) (fun _ => rfl) rfl (fun _ => rfl) rfl (fun t1 => ?_)
  refine XE_aload_n (n := 469) dL_law_468 rfl rfl rfl ?_
  refine XE_aload_n (n := 470) dL_law_469 rfl rfl rfl ?_
  refine XE_iload_n (n := 471) dL_law_470 rfl rfl rfl ?_
  refine XE_iconst (v := 1) (n := 472) dL_law_471 rfl (by decide) ?_
  refine XE_iadd (n := 473) dL_law_472 rfl ?_
  refine XE_sld (n := 474) hSc rfl dL_law_473 rfl ?_
  refine XE_callV (ni := 1) (As := [.int (sc (ix (v3 + 1)))]) (π := [17]) (co := [0, 1, 2, 3, 4, 5, 6, 7, 8, 9, 10, 11, 12, 13, 14, 15, 16]) (cv := [t1.2.1, t1.2.2.1, m2, m3, t1.2.2.2.1, t1.2.2.2.2.1, t1.2.2.2.2.2.1, t1.2.2.2.2.2.2.1, t1.2.2.2.2.2.2.2.1, t1.2.2.2.2.2.2.2.2.1, t1.2.2.2.2.2.2.2.2.2.1, t1.2.2.2.2.2.2.2.2.2.2.1, t1.2.2.2.2.2.2.2.2.2.2.2, m13, m14, m15, m16]) (nn := 18) (hs2 := fun t2 => [t1.2.1, t1.2.2.1, m2, m3, t1.2.2.2.1, t1.2.2.2.2.1, t1.2.2.2.2.2.1, t1.2.2.2.2.2.2.1, t1.2.2.2.2.2.2.2.1, t1.2.2.2.2.2.2.2.2.1, t1.2.2.2.2.2.2.2.2.2.1, t1.2.2.2.2.2.2.2.2.2.2.1, t1.2.2.2.2.2.2.2.2.2.2.2, m13, m14, m15, m16, t2.2]) (st2 := fun t2 => [.int t2.1, .int t1.1]) (n := 477) (b := 1088) xc_L_56 (fun l t ht => met_X7_slack l m17 (sc (ix (v3 + 1))) t ht) rfl rfl rfl rfl rfl dL_law_474 (Nat.le_of_ble_eq_true rfl) ⟨Nat.le_refl _, Nat.le_refl _⟩ (Nat.le_of_ble_eq_true rfl) (Nat.le_of_ble_eq_true rfl) ok_42 rfl rfl rfl (fun _ => rfl) (fun _ => rfl) (fun _ => rfl) rfl (fun _ => rfl) rfl (fun t2 => ?_)
  refine XE_icmp_eq (t := 1252) (n := 480) dL_law_477 rfl rfl (fun _ => ?_) (fun _ => XE_none)
  exact law_next B nm hK v3 t1.2.1 t1.2.2.1 m2 m3 t1.2.2.2.1 t1.2.2.2.2.1 t1.2.2.2.2.2.1 t1.2.2.2.2.2.2.1 t1.2.2.2.2.2.2.2.1 t1.2.2.2.2.2.2.2.2.1 t1.2.2.2.2.2.2.2.2.2.1 t1.2.2.2.2.2.2.2.2.2.2.1 t1.2.2.2.2.2.2.2.2.2.2.2 m13 m14 m15 m16 t2.2
set_option maxRecDepth 100000 in
theorem law_C10 {K : Int32 → Mem → Mem → Mem → Mem → Mem → Mem → Mem → Mem → Mem → Mem → Mem → Mem → Mem → Mem → Mem → Mem → Mem → Mem → Option Unit} (B : XB) (nm : String) {L : Nat} {sc : Nat → Int32} (hSc : XSc B L sc) (hK : ∀ (v3 : Int32) (m0 : Mem) (m1 : Mem) (m2 : Mem) (m3 : Mem) (m4 : Mem) (m5 : Mem) (m6 : Mem) (m7 : Mem) (m8 : Mem) (m9 : Mem) (m10 : Mem) (m11 : Mem) (m12 : Mem) (m13 : Mem) (m14 : Mem) (m15 : Mem) (m16 : Mem) (m17 : Mem), XE B (M_law nm) (fun _ : Unit => XZ B) 18 [(0, some (.ref 4095)), (1, some (.ref 0)), (2, some (.ref 1088)), (3, some (.int v3))] [] (143, 2120) SH_XM [m0, m1, m2, m3, m4, m5, m6, m7, m8, m9, m10, m11, m12, m13, m14, m15, m16, m17] (fun t : Unit => some t) (K v3 m0 m1 m2 m3 m4 m5 m6 m7 m8 m9 m10 m11 m12 m13 m14 m15 m16 m17)) (v3 : Int32) (m0 : Mem) (m1 : Mem) (m2 : Mem) (m3 : Mem) (m4 : Mem) (m5 : Mem) (m6 : Mem) (m7 : Mem) (m8 : Mem) (m9 : Mem) (m10 : Mem) (m11 : Mem) (m12 : Mem) (m13 : Mem) (m14 : Mem) (m15 : Mem) (m16 : Mem) (m17 : Mem) : XE B (M_law nm) (fun _ : Unit => XZ B) 482 [(0, some (.ref 4095)), (1, some (.ref 0)), (2, some (.ref 1088)), (3, some (.int v3))] [] (143, 2120) SH_XM [m0, m1, m2, m3, m4, m5, m6, m7, m8, m9, m10, m11, m12, m13, m14, m15, m16, m17] (fun t : Unit => some t) (f_law_C10 K L sc v3 m0 m1 m2 m3 m4 m5 m6 m7 m8 m9 m10 m11 m12 m13 m14 m15 m16 m17) := by
  unfold f_law_C10
  refine XE_aload_n (n := 483) dL_law_482 rfl rfl rfl ?_
  refine XE_aload_n (n := 484) dL_law_483 rfl rfl rfl ?_
  refine XE_iload_n (n := 485) dL_law_484 rfl rfl rfl ?_
  refine XE_iconst (v := 1) (n := 486) dL_law_485 rfl (by decide) ?_
  refine XE_iadd (n := 487) dL_law_486 rfl ?_
  refine XE_sld (n := 488) hSc rfl dL_law_487 rfl ?_
  refine XE_callV (ni := 1) (As := [.int (sc (ix (v3 + 1)))]) (π := [0, 1, 2, 3, 4, 5, 6, 7, 8, 9, 10, 11, 12, 13, 14, 15, 16]) (co := [17]) (cv := [m17]) (nn := 18) (hs2 := fun t1 => [t1.2.1, t1.2.2.1, m2, m3, t1.2.2.2.1, t1.2.2.2.2.1, t1.2.2.2.2.2.1, t1.2.2.2.2.2.2.1, t1.2.2.2.2.2.2.2.1, t1.2.2.2.2.2.2.2.2.1, t1.2.2.2.2.2.2.2.2.2.1, t1.2.2.2.2.2.2.2.2.2.2.1, t1.2.2.2.2.2.2.2.2.2.2.2, m13, m14, m15, m16, m17]) (st2 := fun t1 => [.int t1.1]) (n := 491) (b := 0) xc_L_57 (fun l t ht => met_X6_rests l m0 m1 m2 m3 m4 m5 m6 m7 m8 m9 m10 m11 m12 m13 m14 m15 m16 (sc (ix (v3 + 1))) t ht) rfl rfl rfl rfl rfl dL_law_488 (Nat.le_of_ble_eq_true rfl) ⟨Nat.le_refl _, Nat.le_refl _⟩ (Nat.le_of_ble_eq_true rfl) (Nat.le_of_ble_eq_true rfl) ok_41 rfl rfl rfl (fun _ => rfl) (fun _ => rfl) (fun _ => rfl) rfl (fun _ => rfl) rfl (fun t1 => ?_)
  refine XE_aload_n (n := 492) dL_law_491 rfl rfl rfl ?_
  refine XE_aload_n (n := 493) dL_law_492 rfl rfl rfl ?_
  refine XE_iload_n (n := 494) dL_law_493 rfl rfl rfl ?_
  refine XE_iconst (v := 1) (n := 495) dL_law_494 rfl (by decide) ?_
  refine XE_iadd (n := 496) dL_law_495 rfl ?_
  refine XE_sld (n := 497) hSc rfl dL_law_496 rfl ?_
  refine XE_callV (ni := 1) (As := [.int (sc (ix (v3 + 1)))]) (π := [17]) (co := [0, 1, 2, 3, 4, 5, 6, 7, 8, 9, 10, 11, 12, 13, 14, 15, 16]) (cv := [t1.2.1, t1.2.2.1, m2, m3, t1.2.2.2.1, t1.2.2.2.2.1, t1.2.2.2.2.2.1, t1.2.2.2.2.2.2.1, t1.2.2.2.2.2.2.2.1, t1.2.2.2.2.2.2.2.2.1, t1.2.2.2.2.2.2.2.2.2.1, t1.2.2.2.2.2.2.2.2.2.2.1, t1.2.2.2.2.2.2.2.2.2.2.2, m13, m14, m15, m16]) (nn := 18) (hs2 := fun t2 => [t1.2.1, t1.2.2.1, m2, m3, t1.2.2.2.1, t1.2.2.2.2.1, t1.2.2.2.2.2.1, t1.2.2.2.2.2.2.1, t1.2.2.2.2.2.2.2.1, t1.2.2.2.2.2.2.2.2.1, t1.2.2.2.2.2.2.2.2.2.1, t1.2.2.2.2.2.2.2.2.2.2.1, t1.2.2.2.2.2.2.2.2.2.2.2, m13, m14, m15, m16, t2.2]) (st2 := fun t2 => [.int t2.1, .int t1.1]) (n := 500) (b := 1088) xc_L_60 (fun l t ht => met_X7_rests l m17 (sc (ix (v3 + 1))) t ht) rfl rfl rfl rfl rfl dL_law_497 (Nat.le_of_ble_eq_true rfl) ⟨Nat.le_refl _, Nat.le_refl _⟩ (Nat.le_of_ble_eq_true rfl) (Nat.le_of_ble_eq_true rfl) ok_42 rfl rfl rfl (fun _ => rfl) (fun _ => rfl) (fun _ => rfl) rfl (fun _ => rfl) rfl (fun t2 => ?_)
  refine XE_icmp_eq (t := 1252) (n := 503) dL_law_500 rfl rfl (fun _ => ?_) (fun _ => XE_none)
  exact law_next B nm hK v3 t1.2.1 t1.2.2.1 m2 m3 t1.2.2.2.1 t1.2.2.2.2.1 t1.2.2.2.2.2.1 t1.2.2.2.2.2.2.1 t1.2.2.2.2.2.2.2.1 t1.2.2.2.2.2.2.2.2.1 t1.2.2.2.2.2.2.2.2.2.1 t1.2.2.2.2.2.2.2.2.2.2.1 t1.2.2.2.2.2.2.2.2.2.2.2 m13 m14 m15 m16 t2.2
set_option maxRecDepth 100000 in
theorem law_C11 {K : Int32 → Mem → Mem → Mem → Mem → Mem → Mem → Mem → Mem → Mem → Mem → Mem → Mem → Mem → Mem → Mem → Mem → Mem → Mem → Option Unit} (B : XB) (nm : String) {L : Nat} {sc : Nat → Int32} (hSc : XSc B L sc) (hK : ∀ (v3 : Int32) (m0 : Mem) (m1 : Mem) (m2 : Mem) (m3 : Mem) (m4 : Mem) (m5 : Mem) (m6 : Mem) (m7 : Mem) (m8 : Mem) (m9 : Mem) (m10 : Mem) (m11 : Mem) (m12 : Mem) (m13 : Mem) (m14 : Mem) (m15 : Mem) (m16 : Mem) (m17 : Mem), XE B (M_law nm) (fun _ : Unit => XZ B) 18 [(0, some (.ref 4095)), (1, some (.ref 0)), (2, some (.ref 1088)), (3, some (.int v3))] [] (143, 2120) SH_XM [m0, m1, m2, m3, m4, m5, m6, m7, m8, m9, m10, m11, m12, m13, m14, m15, m16, m17] (fun t : Unit => some t) (K v3 m0 m1 m2 m3 m4 m5 m6 m7 m8 m9 m10 m11 m12 m13 m14 m15 m16 m17)) (v3 : Int32) (m0 : Mem) (m1 : Mem) (m2 : Mem) (m3 : Mem) (m4 : Mem) (m5 : Mem) (m6 : Mem) (m7 : Mem) (m8 : Mem) (m9 : Mem) (m10 : Mem) (m11 : Mem) (m12 : Mem) (m13 : Mem) (m14 : Mem) (m15 : Mem) (m16 : Mem) (m17 : Mem) : XE B (M_law nm) (fun _ : Unit => XZ B) 505 [(0, some (.ref 4095)), (1, some (.ref 0)), (2, some (.ref 1088)), (3, some (.int v3))] [] (143, 2120) SH_XM [m0, m1, m2, m3, m4, m5, m6, m7, m8, m9, m10, m11, m12, m13, m14, m15, m16, m17] (fun t : Unit => some t) (f_law_C11 K L sc v3 m0 m1 m2 m3 m4 m5 m6 m7 m8 m9 m10 m11 m12 m13 m14 m15 m16 m17) := by
  unfold f_law_C11
  refine XE_aload_n (n := 506) dL_law_505 rfl rfl rfl ?_
  refine XE_callV (ni := 0) (As := []) (π := [0, 1, 2, 3, 4, 5, 6, 7, 8, 9, 10, 11, 12, 13, 14, 15, 16]) (co := [17]) (cv := [m17]) (nn := 18) (hs2 := fun t1 => [t1.2.1, t1.2.2.1, m2, m3, t1.2.2.2, m5, m6, m7, m8, m9, m10, m11, m12, m13, m14, m15, m16, m17]) (st2 := fun t1 => [.int t1.1]) (n := 509) (b := 0) xc_L_61 (fun l t ht => met_X6_back l m0 m1 m2 m3 m4 m5 m6 m7 m8 m9 m10 m11 m12 m13 m14 m15 m16 t ht) rfl rfl rfl rfl rfl dL_law_506 (Nat.le_of_ble_eq_true rfl) ⟨Nat.le_refl _, Nat.le_refl _⟩ (Nat.le_of_ble_eq_true rfl) (Nat.le_of_ble_eq_true rfl) ok_41 rfl rfl rfl (fun _ => rfl) (fun _ => rfl) (fun _ => rfl) rfl (fun _ => rfl) rfl (fun t1 => ?_)
  refine XE_aload_n (n := 510) dL_law_509 rfl rfl rfl ?_
  refine XE_callV (ni := 0) (As := []) (π := [17]) (co := [0, 1, 2, 3, 4, 5, 6, 7, 8, 9, 10, 11, 12, 13, 14, 15, 16]) (cv := [t1.2.1, t1.2.2.1, m2, m3, t1.2.2.2, m5, m6, m7, m8, m9, m10, m11, m12, m13, m14, m15, m16]) (nn := 18) (hs2 := fun t2 => [t1.2.1, t1.2.2.1, m2, m3, t1.2.2.2, m5, m6, m7, m8, m9, m10, m11, m12, m13, m14, m15, m16, t2.2]) (st2 := fun t2 => [.int t2.1, .int t1.1]) (n := 513) (b := 1088) xc_L_64 (fun l t ht => met_X7_back l m17 t ht) rfl rfl rfl rfl rfl dL_law_510 (Nat.le_of_ble_eq_true rfl) ⟨Nat.le_refl _, Nat.le_refl _⟩ (Nat.le_of_ble_eq_true rfl) (Nat.le_of_ble_eq_true rfl) ok_42 rfl rfl rfl (fun _ => rfl) (fun _ => rfl) (fun _ => rfl) rfl (fun _ => rfl) rfl (fun t2 => ?_)
  refine XE_icmp_eq (t := 1252) (n := 516) dL_law_513 rfl rfl (fun _ => ?_) (fun _ => XE_none)
  exact law_next B nm hK v3 t1.2.1 t1.2.2.1 m2 m3 t1.2.2.2 m5 m6 m7 m8 m9 m10 m11 m12 m13 m14 m15 m16 t2.2
set_option maxRecDepth 100000 in
theorem law_C12 {K : Int32 → Mem → Mem → Mem → Mem → Mem → Mem → Mem → Mem → Mem → Mem → Mem → Mem → Mem → Mem → Mem → Mem → Mem → Mem → Option Unit} (B : XB) (nm : String) {L : Nat} {sc : Nat → Int32} (hSc : XSc B L sc) (hK : ∀ (v3 : Int32) (m0 : Mem) (m1 : Mem) (m2 : Mem) (m3 : Mem) (m4 : Mem) (m5 : Mem) (m6 : Mem) (m7 : Mem) (m8 : Mem) (m9 : Mem) (m10 : Mem) (m11 : Mem) (m12 : Mem) (m13 : Mem) (m14 : Mem) (m15 : Mem) (m16 : Mem) (m17 : Mem), XE B (M_law nm) (fun _ : Unit => XZ B) 18 [(0, some (.ref 4095)), (1, some (.ref 0)), (2, some (.ref 1088)), (3, some (.int v3))] [] (143, 2120) SH_XM [m0, m1, m2, m3, m4, m5, m6, m7, m8, m9, m10, m11, m12, m13, m14, m15, m16, m17] (fun t : Unit => some t) (K v3 m0 m1 m2 m3 m4 m5 m6 m7 m8 m9 m10 m11 m12 m13 m14 m15 m16 m17)) (v3 : Int32) (m0 : Mem) (m1 : Mem) (m2 : Mem) (m3 : Mem) (m4 : Mem) (m5 : Mem) (m6 : Mem) (m7 : Mem) (m8 : Mem) (m9 : Mem) (m10 : Mem) (m11 : Mem) (m12 : Mem) (m13 : Mem) (m14 : Mem) (m15 : Mem) (m16 : Mem) (m17 : Mem) : XE B (M_law nm) (fun _ : Unit => XZ B) 518 [(0, some (.ref 4095)), (1, some (.ref 0)), (2, some (.ref 1088)), (3, some (.int v3))] [] (143, 2120) SH_XM [m0, m1, m2, m3, m4, m5, m6, m7, m8, m9, m10, m11, m12, m13, m14, m15, m16, m17] (fun t : Unit => some t) (f_law_C12 K L sc v3 m0 m1 m2 m3 m4 m5 m6 m7 m8 m9 m10 m11 m12 m13 m14 m15 m16 m17) := by
  unfold f_law_C12
  refine XE_aload_n (n := 519) dL_law_518 rfl rfl rfl ?_
  refine XE_aload_n (n := 520) dL_law_519 rfl rfl rfl ?_
  refine XE_iload_n (n := 521) dL_law_520 rfl rfl rfl ?_
  refine XE_iconst (v := 1) (n := 522) dL_law_521 rfl (by decide) ?_
  refine XE_iadd (n := 523) dL_law_522 rfl ?_
  refine XE_sld (n := 524) hSc rfl dL_law_523 rfl ?_
  refine XE_aload_n (n := 525) dL_law_524 rfl rfl rfl ?_
  refine XE_iload_n (n := 526) dL_law_525 rfl rfl rfl ?_
  refine XE_iconst (v := 2) (n := 527) dL_law_526 rfl (by decide) ?_
  refine XE_iadd (n := 528) dL_law_527 rfl ?_
  refine XE_sld (n := 529) hSc rfl dL_law_528 rfl ?_
  refine XE_callV (ni := 2) (As := [.int (sc (ix (v3 + 1))), .int (sc (ix (v3 + 2)))]) (π := [0, 1, 2, 3, 4, 5, 6, 7, 8, 9, 10, 11, 12, 13, 14, 15, 16]) (co := [17]) (cv := [m17]) (nn := 18) (hs2 := fun t1 => [t1.2.1, m1, t1.2.2, m3, m4, m5, m6, m7, m8, m9, m10, m11, m12, m13, m14, m15, m16, m17]) (st2 := fun t1 => [.int t1.1]) (n := 532) (b := 0) xc_L_65 (fun l t ht => met_X6_when l m0 m1 m2 m3 m4 m5 m6 m7 m8 m9 m10 m11 m12 m13 m14 m15 m16 (sc (ix (v3 + 1))) (sc (ix (v3 + 2))) t ht) rfl rfl rfl rfl rfl dL_law_529 (Nat.le_of_ble_eq_true rfl) ⟨Nat.le_refl _, Nat.le_refl _⟩ (Nat.le_of_ble_eq_true rfl) (Nat.le_of_ble_eq_true rfl) ok_41 rfl rfl rfl (fun _ => rfl) (fun _ => rfl) (fun _ => rfl) rfl (fun _ => rfl) rfl (fun t1 => ?_)
  refine XE_aload_n (n := 533) dL_law_532 rfl rfl rfl ?_
  refine XE_aload_n (n := 534) dL_law_533 rfl rfl rfl ?_
  refine XE_iload_n (n := 535) dL_law_534 rfl rfl rfl ?_
  refine XE_iconst (v := 1) (n := 536) dL_law_535 rfl (by decide) ?_
  refine XE_iadd (n := 537) dL_law_536 rfl ?_
  refine XE_sld (n := 538) hSc rfl dL_law_537 rfl ?_
  refine XE_aload_n (n := 539) dL_law_538 rfl rfl rfl ?_
  refine XE_iload_n (n := 540) dL_law_539 rfl rfl rfl ?_
  refine XE_iconst (v := 2) (n := 541) dL_law_540 rfl (by decide) ?_
  refine XE_iadd (n := 542) dL_law_541 rfl ?_
  refine XE_sld (n := 543) hSc rfl dL_law_542 rfl ?_
  refine XE_callV (ni := 2) (As := [.int (sc (ix (v3 + 1))), .int (sc (ix (v3 + 2)))]) (π := [17]) (co := [0, 1, 2, 3, 4, 5, 6, 7, 8, 9, 10, 11, 12, 13, 14, 15, 16]) (cv := [t1.2.1, m1, t1.2.2, m3, m4, m5, m6, m7, m8, m9, m10, m11, m12, m13, m14, m15, m16]) (nn := 18) (hs2 := fun t2 => [t1.2.1, m1, t1.2.2, m3, m4, m5, m6, m7, m8, m9, m10, m11, m12, m13, m14, m15, m16, t2.2]) (st2 := fun t2 => [.int t2.1, .int t1.1]) (n := 546) (b := 1088) xc_L_68 (fun l t ht => met_X7_when l m17 (sc (ix (v3 + 1))) (sc (ix (v3 + 2))) t ht) rfl rfl rfl rfl rfl dL_law_543 (Nat.le_of_ble_eq_true rfl) ⟨Nat.le_refl _, Nat.le_refl _⟩ (Nat.le_of_ble_eq_true rfl) (Nat.le_of_ble_eq_true rfl) ok_42 rfl rfl rfl (fun _ => rfl) (fun _ => rfl) (fun _ => rfl) rfl (fun _ => rfl) rfl (fun t2 => ?_)
  refine XE_icmp_eq (t := 1252) (n := 549) dL_law_546 rfl rfl (fun _ => ?_) (fun _ => XE_none)
  exact law_next B nm hK v3 t1.2.1 m1 t1.2.2 m3 m4 m5 m6 m7 m8 m9 m10 m11 m12 m13 m14 m15 m16 t2.2
set_option maxRecDepth 100000 in
theorem law_C13 {K : Int32 → Mem → Mem → Mem → Mem → Mem → Mem → Mem → Mem → Mem → Mem → Mem → Mem → Mem → Mem → Mem → Mem → Mem → Mem → Option Unit} (B : XB) (nm : String) {L : Nat} {sc : Nat → Int32} (hSc : XSc B L sc) (hK : ∀ (v3 : Int32) (m0 : Mem) (m1 : Mem) (m2 : Mem) (m3 : Mem) (m4 : Mem) (m5 : Mem) (m6 : Mem) (m7 : Mem) (m8 : Mem) (m9 : Mem) (m10 : Mem) (m11 : Mem) (m12 : Mem) (m13 : Mem) (m14 : Mem) (m15 : Mem) (m16 : Mem) (m17 : Mem), XE B (M_law nm) (fun _ : Unit => XZ B) 18 [(0, some (.ref 4095)), (1, some (.ref 0)), (2, some (.ref 1088)), (3, some (.int v3))] [] (143, 2120) SH_XM [m0, m1, m2, m3, m4, m5, m6, m7, m8, m9, m10, m11, m12, m13, m14, m15, m16, m17] (fun t : Unit => some t) (K v3 m0 m1 m2 m3 m4 m5 m6 m7 m8 m9 m10 m11 m12 m13 m14 m15 m16 m17)) (v3 : Int32) (m0 : Mem) (m1 : Mem) (m2 : Mem) (m3 : Mem) (m4 : Mem) (m5 : Mem) (m6 : Mem) (m7 : Mem) (m8 : Mem) (m9 : Mem) (m10 : Mem) (m11 : Mem) (m12 : Mem) (m13 : Mem) (m14 : Mem) (m15 : Mem) (m16 : Mem) (m17 : Mem) : XE B (M_law nm) (fun _ : Unit => XZ B) 551 [(0, some (.ref 4095)), (1, some (.ref 0)), (2, some (.ref 1088)), (3, some (.int v3))] [] (143, 2120) SH_XM [m0, m1, m2, m3, m4, m5, m6, m7, m8, m9, m10, m11, m12, m13, m14, m15, m16, m17] (fun t : Unit => some t) (f_law_C13 K L sc v3 m0 m1 m2 m3 m4 m5 m6 m7 m8 m9 m10 m11 m12 m13 m14 m15 m16 m17) := by
  unfold f_law_C13
  refine XE_aload_n (n := 552) dL_law_551 rfl rfl rfl ?_
  refine XE_aload_n (n := 553) dL_law_552 rfl rfl rfl ?_
  refine XE_iload_n (n := 554) dL_law_553 rfl rfl rfl ?_
  refine XE_iconst (v := 1) (n := 555) dL_law_554 rfl (by decide) ?_
  refine XE_iadd (n := 556) dL_law_555 rfl ?_
  refine XE_sld (n := 557) hSc rfl dL_law_556 rfl ?_
  refine XE_callV (ni := 1) (As := [.int (sc (ix (v3 + 1)))]) (π := [0, 1, 2, 3, 4, 5, 6, 7, 8, 9, 10, 11, 12, 13, 14, 15, 16]) (co := [17]) (cv := [m17]) (nn := 18) (hs2 := fun t1 => [t1.2.1, m1, t1.2.2, m3, m4, m5, m6, m7, m8, m9, m10, m11, m12, m13, m14, m15, m16, m17]) (st2 := fun t1 => [.int t1.1]) (n := 560) (b := 0) xc_L_69 (fun l t ht => met_X6_waits l m0 m1 m2 m3 m4 m5 m6 m7 m8 m9 m10 m11 m12 m13 m14 m15 m16 (sc (ix (v3 + 1))) t ht) rfl rfl rfl rfl rfl dL_law_557 (Nat.le_of_ble_eq_true rfl) ⟨Nat.le_refl _, Nat.le_refl _⟩ (Nat.le_of_ble_eq_true rfl) (Nat.le_of_ble_eq_true rfl) ok_41 rfl rfl rfl (fun _ => rfl) (fun _ => rfl) (fun _ => rfl) rfl (fun _ => rfl) rfl (fun t1 => ?_)
  refine XE_aload_n (n := 561) dL_law_560 rfl rfl rfl ?_
  refine XE_aload_n (n := 562) dL_law_561 rfl rfl rfl ?_
  refine XE_iload_n (n := 563) dL_law_562 rfl rfl rfl ?_
  refine XE_iconst (v := 1) (n := 564) dL_law_563 rfl (by decide) ?_
  refine XE_iadd (n := 565) dL_law_564 rfl ?_
  refine XE_sld (n := 566) hSc rfl dL_law_565 rfl ?_
  refine XE_callV (ni := 1) (As := [.int (sc (ix (v3 + 1)))]) (π := [17]) (co := [0, 1, 2, 3, 4, 5, 6, 7, 8, 9, 10, 11, 12, 13, 14, 15, 16]) (cv := [t1.2.1, m1, t1.2.2, m3, m4, m5, m6, m7, m8, m9, m10, m11, m12, m13, m14, m15, m16]) (nn := 18) (hs2 := fun t2 => [t1.2.1, m1, t1.2.2, m3, m4, m5, m6, m7, m8, m9, m10, m11, m12, m13, m14, m15, m16, t2.2]) (st2 := fun t2 => [.int t2.1, .int t1.1]) (n := 569) (b := 1088) xc_L_72 (fun l t ht => met_X7_waits l m17 (sc (ix (v3 + 1))) t ht) rfl rfl rfl rfl rfl dL_law_566 (Nat.le_of_ble_eq_true rfl) ⟨Nat.le_refl _, Nat.le_refl _⟩ (Nat.le_of_ble_eq_true rfl) (Nat.le_of_ble_eq_true rfl) ok_42 rfl rfl rfl (fun _ => rfl) (fun _ => rfl) (fun _ => rfl) rfl (fun _ => rfl) rfl (fun t2 => ?_)
  refine XE_icmp_eq (t := 1252) (n := 572) dL_law_569 rfl rfl (fun _ => ?_) (fun _ => XE_none)
  exact law_next B nm hK v3 t1.2.1 m1 t1.2.2 m3 m4 m5 m6 m7 m8 m9 m10 m11 m12 m13 m14 m15 m16 t2.2
set_option maxRecDepth 100000 in
theorem law_C14 {K : Int32 → Mem → Mem → Mem → Mem → Mem → Mem → Mem → Mem → Mem → Mem → Mem → Mem → Mem → Mem → Mem → Mem → Mem → Mem → Option Unit} (B : XB) (nm : String) {L : Nat} {sc : Nat → Int32} (hSc : XSc B L sc) (hK : ∀ (v3 : Int32) (m0 : Mem) (m1 : Mem) (m2 : Mem) (m3 : Mem) (m4 : Mem) (m5 : Mem) (m6 : Mem) (m7 : Mem) (m8 : Mem) (m9 : Mem) (m10 : Mem) (m11 : Mem) (m12 : Mem) (m13 : Mem) (m14 : Mem) (m15 : Mem) (m16 : Mem) (m17 : Mem), XE B (M_law nm) (fun _ : Unit => XZ B) 18 [(0, some (.ref 4095)), (1, some (.ref 0)), (2, some (.ref 1088)), (3, some (.int v3))] [] (143, 2120) SH_XM [m0, m1, m2, m3, m4, m5, m6, m7, m8, m9, m10, m11, m12, m13, m14, m15, m16, m17] (fun t : Unit => some t) (K v3 m0 m1 m2 m3 m4 m5 m6 m7 m8 m9 m10 m11 m12 m13 m14 m15 m16 m17)) (v3 : Int32) (m0 : Mem) (m1 : Mem) (m2 : Mem) (m3 : Mem) (m4 : Mem) (m5 : Mem) (m6 : Mem) (m7 : Mem) (m8 : Mem) (m9 : Mem) (m10 : Mem) (m11 : Mem) (m12 : Mem) (m13 : Mem) (m14 : Mem) (m15 : Mem) (m16 : Mem) (m17 : Mem) : XE B (M_law nm) (fun _ : Unit => XZ B) 574 [(0, some (.ref 4095)), (1, some (.ref 0)), (2, some (.ref 1088)), (3, some (.int v3))] [] (143, 2120) SH_XM [m0, m1, m2, m3, m4, m5, m6, m7, m8, m9, m10, m11, m12, m13, m14, m15, m16, m17] (fun t : Unit => some t) (f_law_C14 K L sc v3 m0 m1 m2 m3 m4 m5 m6 m7 m8 m9 m10 m11 m12 m13 m14 m15 m16 m17) := by
  unfold f_law_C14
  refine XE_aload_n (n := 575) dL_law_574 rfl rfl rfl ?_
  refine XE_aload_n (n := 576) dL_law_575 rfl rfl rfl ?_
  refine XE_iload_n (n := 577) dL_law_576 rfl rfl rfl ?_
  refine XE_iconst (v := 1) (n := 578) dL_law_577 rfl (by decide) ?_
  refine XE_iadd (n := 579) dL_law_578 rfl ?_
  refine XE_sld (n := 580) hSc rfl dL_law_579 rfl ?_
  refine XE_callV (ni := 1) (As := [.int (sc (ix (v3 + 1)))]) (π := [0, 1, 2, 3, 4, 5, 6, 7, 8, 9, 10, 11, 12, 13, 14, 15, 16]) (co := [17]) (cv := [m17]) (nn := 18) (hs2 := fun t1 => [t1.2.1, m1, t1.2.2, m3, m4, m5, m6, m7, m8, m9, m10, m11, m12, m13, m14, m15, m16, m17]) (st2 := fun t1 => [.int t1.1]) (n := 583) (b := 0) xc_L_73 (fun l t ht => met_X6_all l m0 m1 m2 m3 m4 m5 m6 m7 m8 m9 m10 m11 m12 m13 m14 m15 m16 (sc (ix (v3 + 1))) t ht) rfl rfl rfl rfl rfl dL_law_580 (Nat.le_of_ble_eq_true rfl) ⟨Nat.le_refl _, Nat.le_refl _⟩ (Nat.le_of_ble_eq_true rfl) (Nat.le_of_ble_eq_true rfl) ok_41 rfl rfl rfl (fun _ => rfl) (fun _ => rfl) (fun _ => rfl) rfl (fun _ => rfl) rfl (fun t1 => ?_)
  refine XE_aload_n (n := 584) dL_law_583 rfl rfl rfl ?_
  refine XE_aload_n (n := 585) dL_law_584 rfl rfl rfl ?_
  refine XE_iload_n (n := 586) dL_law_585 rfl rfl rfl ?_
  refine XE_iconst (v := 1) (n := 587) dL_law_586 rfl (by decide) ?_
  refine XE_iadd (n := 588) dL_law_587 rfl ?_
  refine XE_sld (n := 589) hSc rfl dL_law_588 rfl ?_
  refine XE_callV (ni := 1) (As := [.int (sc (ix (v3 + 1)))]) (π := [17]) (co := [0, 1, 2, 3, 4, 5, 6, 7, 8, 9, 10, 11, 12, 13, 14, 15, 16]) (cv := [t1.2.1, m1, t1.2.2, m3, m4, m5, m6, m7, m8, m9, m10, m11, m12, m13, m14, m15, m16]) (nn := 18) (hs2 := fun t2 => [t1.2.1, m1, t1.2.2, m3, m4, m5, m6, m7, m8, m9, m10, m11, m12, m13, m14, m15, m16, t2.2]) (st2 := fun t2 => [.int t2.1, .int t1.1]) (n := 592) (b := 1088) xc_L_76 (fun l t ht => met_X7_all l m17 (sc (ix (v3 + 1))) t ht) rfl rfl rfl rfl rfl dL_law_589 (Nat.le_of_ble_eq_true rfl) ⟨Nat.le_refl _, Nat.le_refl _⟩ (Nat.le_of_ble_eq_true rfl) (Nat.le_of_ble_eq_true rfl) ok_42 rfl rfl rfl (fun _ => rfl) (fun _ => rfl) (fun _ => rfl) rfl (fun _ => rfl) rfl (fun t2 => ?_)
  refine XE_icmp_eq (t := 1252) (n := 595) dL_law_592 rfl rfl (fun _ => ?_) (fun _ => XE_none)
  exact law_next B nm hK v3 t1.2.1 m1 t1.2.2 m3 m4 m5 m6 m7 m8 m9 m10 m11 m12 m13 m14 m15 m16 t2.2
set_option maxRecDepth 100000 in
theorem law_C15 {K : Int32 → Mem → Mem → Mem → Mem → Mem → Mem → Mem → Mem → Mem → Mem → Mem → Mem → Mem → Mem → Mem → Mem → Mem → Mem → Option Unit} (B : XB) (nm : String) {L : Nat} {sc : Nat → Int32} (hSc : XSc B L sc) (hK : ∀ (v3 : Int32) (m0 : Mem) (m1 : Mem) (m2 : Mem) (m3 : Mem) (m4 : Mem) (m5 : Mem) (m6 : Mem) (m7 : Mem) (m8 : Mem) (m9 : Mem) (m10 : Mem) (m11 : Mem) (m12 : Mem) (m13 : Mem) (m14 : Mem) (m15 : Mem) (m16 : Mem) (m17 : Mem), XE B (M_law nm) (fun _ : Unit => XZ B) 18 [(0, some (.ref 4095)), (1, some (.ref 0)), (2, some (.ref 1088)), (3, some (.int v3))] [] (143, 2120) SH_XM [m0, m1, m2, m3, m4, m5, m6, m7, m8, m9, m10, m11, m12, m13, m14, m15, m16, m17] (fun t : Unit => some t) (K v3 m0 m1 m2 m3 m4 m5 m6 m7 m8 m9 m10 m11 m12 m13 m14 m15 m16 m17)) (v3 : Int32) (m0 : Mem) (m1 : Mem) (m2 : Mem) (m3 : Mem) (m4 : Mem) (m5 : Mem) (m6 : Mem) (m7 : Mem) (m8 : Mem) (m9 : Mem) (m10 : Mem) (m11 : Mem) (m12 : Mem) (m13 : Mem) (m14 : Mem) (m15 : Mem) (m16 : Mem) (m17 : Mem) : XE B (M_law nm) (fun _ : Unit => XZ B) 597 [(0, some (.ref 4095)), (1, some (.ref 0)), (2, some (.ref 1088)), (3, some (.int v3))] [] (143, 2120) SH_XM [m0, m1, m2, m3, m4, m5, m6, m7, m8, m9, m10, m11, m12, m13, m14, m15, m16, m17] (fun t : Unit => some t) (f_law_C15 K L sc v3 m0 m1 m2 m3 m4 m5 m6 m7 m8 m9 m10 m11 m12 m13 m14 m15 m16 m17) := by
  unfold f_law_C15
  refine XE_aload_n (n := 598) dL_law_597 rfl rfl rfl ?_
  refine XE_aload_n (n := 599) dL_law_598 rfl rfl rfl ?_
  refine XE_iload_n (n := 600) dL_law_599 rfl rfl rfl ?_
  refine XE_iconst (v := 1) (n := 601) dL_law_600 rfl (by decide) ?_
  refine XE_iadd (n := 602) dL_law_601 rfl ?_
  refine XE_sld (n := 603) hSc rfl dL_law_602 rfl ?_
  refine XE_callV (ni := 1) (As := [.int (sc (ix (v3 + 1)))]) (π := [0, 1, 2, 3, 4, 5, 6, 7, 8, 9, 10, 11, 12, 13, 14, 15, 16]) (co := [17]) (cv := [m17]) (nn := 18) (hs2 := fun t1 => [t1.2.1, m1, t1.2.2, m3, m4, m5, m6, m7, m8, m9, m10, m11, m12, m13, m14, m15, m16, m17]) (st2 := fun t1 => [.int t1.1]) (n := 606) (b := 0) xc_L_77 (fun l t ht => met_X6_met l m0 m1 m2 m3 m4 m5 m6 m7 m8 m9 m10 m11 m12 m13 m14 m15 m16 (sc (ix (v3 + 1))) t ht) rfl rfl rfl rfl rfl dL_law_603 (Nat.le_of_ble_eq_true rfl) ⟨Nat.le_refl _, Nat.le_refl _⟩ (Nat.le_of_ble_eq_true rfl) (Nat.le_of_ble_eq_true rfl) ok_41 rfl rfl rfl (fun _ => rfl) (fun _ => rfl) (fun _ => rfl) rfl (fun _ => rfl) rfl (fun t1 => ?_)
  refine XE_aload_n (n := 607) dL_law_606 rfl rfl rfl ?_
  refine XE_aload_n (n := 608) dL_law_607 rfl rfl rfl ?_
  refine XE_iload_n (n := 609) dL_law_608 rfl rfl rfl ?_
  refine XE_iconst (v := 1) (n := 610) dL_law_609 rfl (by decide) ?_
  refine XE_iadd (n := 611) dL_law_610 rfl ?_
  refine XE_sld (n := 612) hSc rfl dL_law_611 rfl ?_
  refine XE_callV (ni := 1) (As := [.int (sc (ix (v3 + 1)))]) (π := [17]) (co := [0, 1, 2, 3, 4, 5, 6, 7, 8, 9, 10, 11, 12, 13, 14, 15, 16]) (cv := [t1.2.1, m1, t1.2.2, m3, m4, m5, m6, m7, m8, m9, m10, m11, m12, m13, m14, m15, m16]) (nn := 18) (hs2 := fun t2 => [t1.2.1, m1, t1.2.2, m3, m4, m5, m6, m7, m8, m9, m10, m11, m12, m13, m14, m15, m16, t2.2]) (st2 := fun t2 => [.int t2.1, .int t1.1]) (n := 615) (b := 1088) xc_L_80 (fun l t ht => met_X7_met l m17 (sc (ix (v3 + 1))) t ht) rfl rfl rfl rfl rfl dL_law_612 (Nat.le_of_ble_eq_true rfl) ⟨Nat.le_refl _, Nat.le_refl _⟩ (Nat.le_of_ble_eq_true rfl) (Nat.le_of_ble_eq_true rfl) ok_42 rfl rfl rfl (fun _ => rfl) (fun _ => rfl) (fun _ => rfl) rfl (fun _ => rfl) rfl (fun t2 => ?_)
  refine XE_icmp_eq (t := 1252) (n := 618) dL_law_615 rfl rfl (fun _ => ?_) (fun _ => XE_none)
  exact law_next B nm hK v3 t1.2.1 m1 t1.2.2 m3 m4 m5 m6 m7 m8 m9 m10 m11 m12 m13 m14 m15 m16 t2.2
set_option maxRecDepth 100000 in
theorem law_C16 {K : Int32 → Mem → Mem → Mem → Mem → Mem → Mem → Mem → Mem → Mem → Mem → Mem → Mem → Mem → Mem → Mem → Mem → Mem → Mem → Option Unit} (B : XB) (nm : String) {L : Nat} {sc : Nat → Int32} (hSc : XSc B L sc) (hK : ∀ (v3 : Int32) (m0 : Mem) (m1 : Mem) (m2 : Mem) (m3 : Mem) (m4 : Mem) (m5 : Mem) (m6 : Mem) (m7 : Mem) (m8 : Mem) (m9 : Mem) (m10 : Mem) (m11 : Mem) (m12 : Mem) (m13 : Mem) (m14 : Mem) (m15 : Mem) (m16 : Mem) (m17 : Mem), XE B (M_law nm) (fun _ : Unit => XZ B) 18 [(0, some (.ref 4095)), (1, some (.ref 0)), (2, some (.ref 1088)), (3, some (.int v3))] [] (143, 2120) SH_XM [m0, m1, m2, m3, m4, m5, m6, m7, m8, m9, m10, m11, m12, m13, m14, m15, m16, m17] (fun t : Unit => some t) (K v3 m0 m1 m2 m3 m4 m5 m6 m7 m8 m9 m10 m11 m12 m13 m14 m15 m16 m17)) (v3 : Int32) (m0 : Mem) (m1 : Mem) (m2 : Mem) (m3 : Mem) (m4 : Mem) (m5 : Mem) (m6 : Mem) (m7 : Mem) (m8 : Mem) (m9 : Mem) (m10 : Mem) (m11 : Mem) (m12 : Mem) (m13 : Mem) (m14 : Mem) (m15 : Mem) (m16 : Mem) (m17 : Mem) : XE B (M_law nm) (fun _ : Unit => XZ B) 620 [(0, some (.ref 4095)), (1, some (.ref 0)), (2, some (.ref 1088)), (3, some (.int v3))] [] (143, 2120) SH_XM [m0, m1, m2, m3, m4, m5, m6, m7, m8, m9, m10, m11, m12, m13, m14, m15, m16, m17] (fun t : Unit => some t) (f_law_C16 K L sc v3 m0 m1 m2 m3 m4 m5 m6 m7 m8 m9 m10 m11 m12 m13 m14 m15 m16 m17) := by
  unfold f_law_C16
  refine XE_aload_n (n := 621) dL_law_620 rfl rfl rfl ?_
  refine XE_aload_n (n := 622) dL_law_621 rfl rfl rfl ?_
  refine XE_iload_n (n := 623) dL_law_622 rfl rfl rfl ?_
  refine XE_iconst (v := 1) (n := 624) dL_law_623 rfl (by decide) ?_
  refine XE_iadd (n := 625) dL_law_624 rfl ?_
  refine XE_sld (n := 626) hSc rfl dL_law_625 rfl ?_
  refine XE_callV (ni := 1) (As := [.int (sc (ix (v3 + 1)))]) (π := [0, 1, 2, 3, 4, 5, 6, 7, 8, 9, 10, 11, 12, 13, 14, 15, 16]) (co := [17]) (cv := [m17]) (nn := 18) (hs2 := fun t1 => [t1.2.1, m1, m2, m3, m4, m5, m6, m7, m8, m9, m10, m11, m12, m13, t1.2.2.1, t1.2.2.2, m16, m17]) (st2 := fun t1 => [.int t1.1]) (n := 629) (b := 0) xc_L_81 (fun l t ht => met_X6_best l m0 m1 m2 m3 m4 m5 m6 m7 m8 m9 m10 m11 m12 m13 m14 m15 m16 (sc (ix (v3 + 1))) t ht) rfl rfl rfl rfl rfl dL_law_626 (Nat.le_of_ble_eq_true rfl) ⟨Nat.le_refl _, Nat.le_refl _⟩ (Nat.le_of_ble_eq_true rfl) (Nat.le_of_ble_eq_true rfl) ok_41 rfl rfl rfl (fun _ => rfl) (fun _ => rfl) (fun _ => rfl) rfl (fun _ => rfl) rfl (fun t1 => ?_)
  refine XE_aload_n (n := 630) dL_law_629 rfl rfl rfl ?_
  refine XE_aload_n (n := 631) dL_law_630 rfl rfl rfl ?_
  refine XE_iload_n (n := 632) dL_law_631 rfl rfl rfl ?_
  refine XE_iconst (v := 1) (n := 633) dL_law_632 rfl (by decide) ?_
  refine XE_iadd (n := 634) dL_law_633 rfl ?_
  refine XE_sld (n := 635) hSc rfl dL_law_634 rfl ?_
  refine XE_callV (ni := 1) (As := [.int (sc (ix (v3 + 1)))]) (π := [17]) (co := [0, 1, 2, 3, 4, 5, 6, 7, 8, 9, 10, 11, 12, 13, 14, 15, 16]) (cv := [t1.2.1, m1, m2, m3, m4, m5, m6, m7, m8, m9, m10, m11, m12, m13, t1.2.2.1, t1.2.2.2, m16]) (nn := 18) (hs2 := fun t2 => [t1.2.1, m1, m2, m3, m4, m5, m6, m7, m8, m9, m10, m11, m12, m13, t1.2.2.1, t1.2.2.2, m16, t2.2]) (st2 := fun t2 => [.int t2.1, .int t1.1]) (n := 638) (b := 1088) xc_L_84 (fun l t ht => met_X7_best l m17 (sc (ix (v3 + 1))) t ht) rfl rfl rfl rfl rfl dL_law_635 (Nat.le_of_ble_eq_true rfl) ⟨Nat.le_refl _, Nat.le_refl _⟩ (Nat.le_of_ble_eq_true rfl) (Nat.le_of_ble_eq_true rfl) ok_42 rfl rfl rfl (fun _ => rfl) (fun _ => rfl) (fun _ => rfl) rfl (fun _ => rfl) rfl (fun t2 => ?_)
  refine XE_icmp_eq (t := 1252) (n := 641) dL_law_638 rfl rfl (fun _ => ?_) (fun _ => XE_none)
  exact law_next B nm hK v3 t1.2.1 m1 m2 m3 m4 m5 m6 m7 m8 m9 m10 m11 m12 m13 t1.2.2.1 t1.2.2.2 m16 t2.2
set_option maxRecDepth 100000 in
theorem law_C17 {K : Int32 → Mem → Mem → Mem → Mem → Mem → Mem → Mem → Mem → Mem → Mem → Mem → Mem → Mem → Mem → Mem → Mem → Mem → Mem → Option Unit} (B : XB) (nm : String) {L : Nat} {sc : Nat → Int32} (hSc : XSc B L sc) (hK : ∀ (v3 : Int32) (m0 : Mem) (m1 : Mem) (m2 : Mem) (m3 : Mem) (m4 : Mem) (m5 : Mem) (m6 : Mem) (m7 : Mem) (m8 : Mem) (m9 : Mem) (m10 : Mem) (m11 : Mem) (m12 : Mem) (m13 : Mem) (m14 : Mem) (m15 : Mem) (m16 : Mem) (m17 : Mem), XE B (M_law nm) (fun _ : Unit => XZ B) 18 [(0, some (.ref 4095)), (1, some (.ref 0)), (2, some (.ref 1088)), (3, some (.int v3))] [] (143, 2120) SH_XM [m0, m1, m2, m3, m4, m5, m6, m7, m8, m9, m10, m11, m12, m13, m14, m15, m16, m17] (fun t : Unit => some t) (K v3 m0 m1 m2 m3 m4 m5 m6 m7 m8 m9 m10 m11 m12 m13 m14 m15 m16 m17)) (v3 : Int32) (m0 : Mem) (m1 : Mem) (m2 : Mem) (m3 : Mem) (m4 : Mem) (m5 : Mem) (m6 : Mem) (m7 : Mem) (m8 : Mem) (m9 : Mem) (m10 : Mem) (m11 : Mem) (m12 : Mem) (m13 : Mem) (m14 : Mem) (m15 : Mem) (m16 : Mem) (m17 : Mem) : XE B (M_law nm) (fun _ : Unit => XZ B) 643 [(0, some (.ref 4095)), (1, some (.ref 0)), (2, some (.ref 1088)), (3, some (.int v3))] [] (143, 2120) SH_XM [m0, m1, m2, m3, m4, m5, m6, m7, m8, m9, m10, m11, m12, m13, m14, m15, m16, m17] (fun t : Unit => some t) (f_law_C17 K L sc v3 m0 m1 m2 m3 m4 m5 m6 m7 m8 m9 m10 m11 m12 m13 m14 m15 m16 m17) := by
  unfold f_law_C17
  refine XE_aload_n (n := 644) dL_law_643 rfl rfl rfl ?_
  refine XE_callV (ni := 0) (As := []) (π := [0, 1, 2, 3, 4, 5, 6, 7, 8, 9, 10, 11, 12, 13, 14, 15, 16]) (co := [17]) (cv := [m17]) (nn := 18) (hs2 := fun t1 => [m0, m1, t1.2, m3, m4, m5, m6, m7, m8, m9, m10, m11, m12, m13, m14, m15, m16, m17]) (st2 := fun t1 => [.int t1.1]) (n := 647) (b := 0) xc_L_85 (fun l t ht => met_X6_pull l m0 m1 m2 m3 m4 m5 m6 m7 m8 m9 m10 m11 m12 m13 m14 m15 m16 t ht) rfl rfl rfl rfl rfl dL_law_644 (Nat.le_of_ble_eq_true rfl) ⟨Nat.le_refl _, Nat.le_refl _⟩ (Nat.le_of_ble_eq_true rfl) (Nat.le_of_ble_eq_true rfl) ok_41 rfl rfl rfl (fun _ => rfl) (fun _ => rfl) (fun _ => rfl) rfl (fun _ => rfl) rfl (fun t1 => ?_)
  refine XE_aload_n (n := 648) dL_law_647 rfl rfl rfl ?_
  refine XE_callV (ni := 0) (As := []) (π := [17]) (co := [0, 1, 2, 3, 4, 5, 6, 7, 8, 9, 10, 11, 12, 13, 14, 15, 16]) (cv := [m0, m1, t1.2, m3, m4, m5, m6, m7, m8, m9, m10, m11, m12, m13, m14, m15, m16]) (nn := 18) (hs2 := fun t2 => [m0, m1, t1.2, m3, m4, m5, m6, m7, m8, m9, m10, m11, m12, m13, m14, m15, m16, t2.2]) (st2 := fun t2 => [.int t2.1, .int t1.1]) (n := 651) (b := 1088) xc_L_88 (fun l t ht => met_X7_pull l m17 t ht) rfl rfl rfl rfl rfl dL_law_648 (Nat.le_of_ble_eq_true rfl) ⟨Nat.le_refl _, Nat.le_refl _⟩ (Nat.le_of_ble_eq_true rfl) (Nat.le_of_ble_eq_true rfl) ok_42 rfl rfl rfl (fun _ => rfl) (fun _ => rfl) (fun _ => rfl) rfl (fun _ => rfl) rfl (fun t2 => ?_)
  refine XE_icmp_eq (t := 1252) (n := 654) dL_law_651 rfl rfl (fun _ => ?_) (fun _ => XE_none)
  exact law_next B nm hK v3 m0 m1 t1.2 m3 m4 m5 m6 m7 m8 m9 m10 m11 m12 m13 m14 m15 m16 t2.2
set_option maxRecDepth 100000 in
theorem law_C18 {K : Int32 → Mem → Mem → Mem → Mem → Mem → Mem → Mem → Mem → Mem → Mem → Mem → Mem → Mem → Mem → Mem → Mem → Mem → Mem → Option Unit} (B : XB) (nm : String) {L : Nat} {sc : Nat → Int32} (hSc : XSc B L sc) (hK : ∀ (v3 : Int32) (m0 : Mem) (m1 : Mem) (m2 : Mem) (m3 : Mem) (m4 : Mem) (m5 : Mem) (m6 : Mem) (m7 : Mem) (m8 : Mem) (m9 : Mem) (m10 : Mem) (m11 : Mem) (m12 : Mem) (m13 : Mem) (m14 : Mem) (m15 : Mem) (m16 : Mem) (m17 : Mem), XE B (M_law nm) (fun _ : Unit => XZ B) 18 [(0, some (.ref 4095)), (1, some (.ref 0)), (2, some (.ref 1088)), (3, some (.int v3))] [] (143, 2120) SH_XM [m0, m1, m2, m3, m4, m5, m6, m7, m8, m9, m10, m11, m12, m13, m14, m15, m16, m17] (fun t : Unit => some t) (K v3 m0 m1 m2 m3 m4 m5 m6 m7 m8 m9 m10 m11 m12 m13 m14 m15 m16 m17)) (v3 : Int32) (m0 : Mem) (m1 : Mem) (m2 : Mem) (m3 : Mem) (m4 : Mem) (m5 : Mem) (m6 : Mem) (m7 : Mem) (m8 : Mem) (m9 : Mem) (m10 : Mem) (m11 : Mem) (m12 : Mem) (m13 : Mem) (m14 : Mem) (m15 : Mem) (m16 : Mem) (m17 : Mem) : XE B (M_law nm) (fun _ : Unit => XZ B) 656 [(0, some (.ref 4095)), (1, some (.ref 0)), (2, some (.ref 1088)), (3, some (.int v3))] [] (143, 2120) SH_XM [m0, m1, m2, m3, m4, m5, m6, m7, m8, m9, m10, m11, m12, m13, m14, m15, m16, m17] (fun t : Unit => some t) (f_law_C18 K L sc v3 m0 m1 m2 m3 m4 m5 m6 m7 m8 m9 m10 m11 m12 m13 m14 m15 m16 m17) := by
  unfold f_law_C18
  refine XE_aload_n (n := 657) dL_law_656 rfl rfl rfl ?_
  refine XE_aload_n (n := 658) dL_law_657 rfl rfl rfl ?_
  refine XE_iload_n (n := 659) dL_law_658 rfl rfl rfl ?_
  refine XE_iconst (v := 1) (n := 660) dL_law_659 rfl (by decide) ?_
  refine XE_iadd (n := 661) dL_law_660 rfl ?_
  refine XE_sld (n := 662) hSc rfl dL_law_661 rfl ?_
  refine XE_callV (ni := 1) (As := [.int (sc (ix (v3 + 1)))]) (π := [0, 1, 2, 3, 4, 5, 6, 7, 8, 9, 10, 11, 12, 13, 14, 15, 16]) (co := [17]) (cv := [m17]) (nn := 18) (hs2 := fun t1 => [t1.2.1, m1, t1.2.2, m3, m4, m5, m6, m7, m8, m9, m10, m11, m12, m13, m14, m15, m16, m17]) (st2 := fun t1 => [.int t1.1]) (n := 665) (b := 0) xc_L_89 (fun l t ht => met_X6_bestSlack l m0 m1 m2 m3 m4 m5 m6 m7 m8 m9 m10 m11 m12 m13 m14 m15 m16 (sc (ix (v3 + 1))) t ht) rfl rfl rfl rfl rfl dL_law_662 (Nat.le_of_ble_eq_true rfl) ⟨Nat.le_refl _, Nat.le_refl _⟩ (Nat.le_of_ble_eq_true rfl) (Nat.le_of_ble_eq_true rfl) ok_41 rfl rfl rfl (fun _ => rfl) (fun _ => rfl) (fun _ => rfl) rfl (fun _ => rfl) rfl (fun t1 => ?_)
  refine XE_aload_n (n := 666) dL_law_665 rfl rfl rfl ?_
  refine XE_aload_n (n := 667) dL_law_666 rfl rfl rfl ?_
  refine XE_iload_n (n := 668) dL_law_667 rfl rfl rfl ?_
  refine XE_iconst (v := 1) (n := 669) dL_law_668 rfl (by decide) ?_
  refine XE_iadd (n := 670) dL_law_669 rfl ?_
  refine XE_sld (n := 671) hSc rfl dL_law_670 rfl ?_
  refine XE_callV (ni := 1) (As := [.int (sc (ix (v3 + 1)))]) (π := [17]) (co := [0, 1, 2, 3, 4, 5, 6, 7, 8, 9, 10, 11, 12, 13, 14, 15, 16]) (cv := [t1.2.1, m1, t1.2.2, m3, m4, m5, m6, m7, m8, m9, m10, m11, m12, m13, m14, m15, m16]) (nn := 18) (hs2 := fun t2 => [t1.2.1, m1, t1.2.2, m3, m4, m5, m6, m7, m8, m9, m10, m11, m12, m13, m14, m15, m16, t2.2]) (st2 := fun t2 => [.int t2.1, .int t1.1]) (n := 674) (b := 1088) xc_L_92 (fun l t ht => met_X7_bestSlack l m17 (sc (ix (v3 + 1))) t ht) rfl rfl rfl rfl rfl dL_law_671 (Nat.le_of_ble_eq_true rfl) ⟨Nat.le_refl _, Nat.le_refl _⟩ (Nat.le_of_ble_eq_true rfl) (Nat.le_of_ble_eq_true rfl) ok_42 rfl rfl rfl (fun _ => rfl) (fun _ => rfl) (fun _ => rfl) rfl (fun _ => rfl) rfl (fun t2 => ?_)
  refine XE_icmp_eq (t := 1252) (n := 677) dL_law_674 rfl rfl (fun _ => ?_) (fun _ => XE_none)
  exact law_next B nm hK v3 t1.2.1 m1 t1.2.2 m3 m4 m5 m6 m7 m8 m9 m10 m11 m12 m13 m14 m15 m16 t2.2
set_option maxRecDepth 100000 in
theorem law_C19 {K : Int32 → Mem → Mem → Mem → Mem → Mem → Mem → Mem → Mem → Mem → Mem → Mem → Mem → Mem → Mem → Mem → Mem → Mem → Mem → Option Unit} (B : XB) (nm : String) {L : Nat} {sc : Nat → Int32} (hSc : XSc B L sc) (hK : ∀ (v3 : Int32) (m0 : Mem) (m1 : Mem) (m2 : Mem) (m3 : Mem) (m4 : Mem) (m5 : Mem) (m6 : Mem) (m7 : Mem) (m8 : Mem) (m9 : Mem) (m10 : Mem) (m11 : Mem) (m12 : Mem) (m13 : Mem) (m14 : Mem) (m15 : Mem) (m16 : Mem) (m17 : Mem), XE B (M_law nm) (fun _ : Unit => XZ B) 18 [(0, some (.ref 4095)), (1, some (.ref 0)), (2, some (.ref 1088)), (3, some (.int v3))] [] (143, 2120) SH_XM [m0, m1, m2, m3, m4, m5, m6, m7, m8, m9, m10, m11, m12, m13, m14, m15, m16, m17] (fun t : Unit => some t) (K v3 m0 m1 m2 m3 m4 m5 m6 m7 m8 m9 m10 m11 m12 m13 m14 m15 m16 m17)) (v3 : Int32) (m0 : Mem) (m1 : Mem) (m2 : Mem) (m3 : Mem) (m4 : Mem) (m5 : Mem) (m6 : Mem) (m7 : Mem) (m8 : Mem) (m9 : Mem) (m10 : Mem) (m11 : Mem) (m12 : Mem) (m13 : Mem) (m14 : Mem) (m15 : Mem) (m16 : Mem) (m17 : Mem) : XE B (M_law nm) (fun _ : Unit => XZ B) 679 [(0, some (.ref 4095)), (1, some (.ref 0)), (2, some (.ref 1088)), (3, some (.int v3))] [] (143, 2120) SH_XM [m0, m1, m2, m3, m4, m5, m6, m7, m8, m9, m10, m11, m12, m13, m14, m15, m16, m17] (fun t : Unit => some t) (f_law_C19 K L sc v3 m0 m1 m2 m3 m4 m5 m6 m7 m8 m9 m10 m11 m12 m13 m14 m15 m16 m17) := by
  unfold f_law_C19
  refine XE_aload_n (n := 680) dL_law_679 rfl rfl rfl ?_
  refine XE_callV (ni := 0) (As := []) (π := [0, 1, 2, 3, 4, 5, 6, 7, 8, 9, 10, 11, 12, 13, 14, 15, 16]) (co := [17]) (cv := [m17]) (nn := 18) (hs2 := fun t1 => [m0, m1, t1.2, m3, m4, m5, m6, m7, m8, m9, m10, m11, m12, m13, m14, m15, m16, m17]) (st2 := fun t1 => [.int t1.1]) (n := 683) (b := 0) xc_L_93 (fun l t ht => met_X6_rest l m0 m1 m2 m3 m4 m5 m6 m7 m8 m9 m10 m11 m12 m13 m14 m15 m16 t ht) rfl rfl rfl rfl rfl dL_law_680 (Nat.le_of_ble_eq_true rfl) ⟨Nat.le_refl _, Nat.le_refl _⟩ (Nat.le_of_ble_eq_true rfl) (Nat.le_of_ble_eq_true rfl) ok_41 rfl rfl rfl (fun _ => rfl) (fun _ => rfl) (fun _ => rfl) rfl (fun _ => rfl) rfl (fun t1 => ?_)
  refine XE_aload_n (n := 684) dL_law_683 rfl rfl rfl ?_
  refine XE_callV (ni := 0) (As := []) (π := [17]) (co := [0, 1, 2, 3, 4, 5, 6, 7, 8, 9, 10, 11, 12, 13, 14, 15, 16]) (cv := [m0, m1, t1.2, m3, m4, m5, m6, m7, m8, m9, m10, m11, m12, m13, m14, m15, m16]) (nn := 18) (hs2 := fun t2 => [m0, m1, t1.2, m3, m4, m5, m6, m7, m8, m9, m10, m11, m12, m13, m14, m15, m16, t2.2]) (st2 := fun t2 => [.int t2.1, .int t1.1]) (n := 687) (b := 1088) xc_L_96 (fun l t ht => met_X7_rest l m17 t ht) rfl rfl rfl rfl rfl dL_law_684 (Nat.le_of_ble_eq_true rfl) ⟨Nat.le_refl _, Nat.le_refl _⟩ (Nat.le_of_ble_eq_true rfl) (Nat.le_of_ble_eq_true rfl) ok_42 rfl rfl rfl (fun _ => rfl) (fun _ => rfl) (fun _ => rfl) rfl (fun _ => rfl) rfl (fun t2 => ?_)
  refine XE_icmp_eq (t := 1252) (n := 690) dL_law_687 rfl rfl (fun _ => ?_) (fun _ => XE_none)
  exact law_next B nm hK v3 m0 m1 t1.2 m3 m4 m5 m6 m7 m8 m9 m10 m11 m12 m13 m14 m15 m16 t2.2
set_option maxRecDepth 100000 in
theorem law_C20 {K : Int32 → Mem → Mem → Mem → Mem → Mem → Mem → Mem → Mem → Mem → Mem → Mem → Mem → Mem → Mem → Mem → Mem → Mem → Mem → Option Unit} (B : XB) (nm : String) {L : Nat} {sc : Nat → Int32} (hSc : XSc B L sc) (hK : ∀ (v3 : Int32) (m0 : Mem) (m1 : Mem) (m2 : Mem) (m3 : Mem) (m4 : Mem) (m5 : Mem) (m6 : Mem) (m7 : Mem) (m8 : Mem) (m9 : Mem) (m10 : Mem) (m11 : Mem) (m12 : Mem) (m13 : Mem) (m14 : Mem) (m15 : Mem) (m16 : Mem) (m17 : Mem), XE B (M_law nm) (fun _ : Unit => XZ B) 18 [(0, some (.ref 4095)), (1, some (.ref 0)), (2, some (.ref 1088)), (3, some (.int v3))] [] (143, 2120) SH_XM [m0, m1, m2, m3, m4, m5, m6, m7, m8, m9, m10, m11, m12, m13, m14, m15, m16, m17] (fun t : Unit => some t) (K v3 m0 m1 m2 m3 m4 m5 m6 m7 m8 m9 m10 m11 m12 m13 m14 m15 m16 m17)) (v3 : Int32) (m0 : Mem) (m1 : Mem) (m2 : Mem) (m3 : Mem) (m4 : Mem) (m5 : Mem) (m6 : Mem) (m7 : Mem) (m8 : Mem) (m9 : Mem) (m10 : Mem) (m11 : Mem) (m12 : Mem) (m13 : Mem) (m14 : Mem) (m15 : Mem) (m16 : Mem) (m17 : Mem) : XE B (M_law nm) (fun _ : Unit => XZ B) 692 [(0, some (.ref 4095)), (1, some (.ref 0)), (2, some (.ref 1088)), (3, some (.int v3))] [] (143, 2120) SH_XM [m0, m1, m2, m3, m4, m5, m6, m7, m8, m9, m10, m11, m12, m13, m14, m15, m16, m17] (fun t : Unit => some t) (f_law_C20 K L sc v3 m0 m1 m2 m3 m4 m5 m6 m7 m8 m9 m10 m11 m12 m13 m14 m15 m16 m17) := by
  unfold f_law_C20
  refine XE_aload_n (n := 693) dL_law_692 rfl rfl rfl ?_
  refine XE_callV (ni := 0) (As := []) (π := [0, 1, 2, 3, 4, 5, 6, 7, 8, 9, 10, 11, 12, 13, 14, 15, 16]) (co := [17]) (cv := [m17]) (nn := 18) (hs2 := fun t1 => [t1.2.1, m1, t1.2.2, m3, m4, m5, m6, m7, m8, m9, m10, m11, m12, m13, m14, m15, m16, m17]) (st2 := fun t1 => [.int t1.1]) (n := 696) (b := 0) xc_L_97 (fun l t ht => met_X6_saved l m0 m1 m2 m3 m4 m5 m6 m7 m8 m9 m10 m11 m12 m13 m14 m15 m16 t ht) rfl rfl rfl rfl rfl dL_law_693 (Nat.le_of_ble_eq_true rfl) ⟨Nat.le_refl _, Nat.le_refl _⟩ (Nat.le_of_ble_eq_true rfl) (Nat.le_of_ble_eq_true rfl) ok_41 rfl rfl rfl (fun _ => rfl) (fun _ => rfl) (fun _ => rfl) rfl (fun _ => rfl) rfl (fun t1 => ?_)
  refine XE_aload_n (n := 697) dL_law_696 rfl rfl rfl ?_
  refine XE_callV (ni := 0) (As := []) (π := [17]) (co := [0, 1, 2, 3, 4, 5, 6, 7, 8, 9, 10, 11, 12, 13, 14, 15, 16]) (cv := [t1.2.1, m1, t1.2.2, m3, m4, m5, m6, m7, m8, m9, m10, m11, m12, m13, m14, m15, m16]) (nn := 18) (hs2 := fun t2 => [t1.2.1, m1, t1.2.2, m3, m4, m5, m6, m7, m8, m9, m10, m11, m12, m13, m14, m15, m16, t2.2]) (st2 := fun t2 => [.int t2.1, .int t1.1]) (n := 700) (b := 1088) xc_L_100 (fun l t ht => met_X7_saved l m17 t ht) rfl rfl rfl rfl rfl dL_law_697 (Nat.le_of_ble_eq_true rfl) ⟨Nat.le_refl _, Nat.le_refl _⟩ (Nat.le_of_ble_eq_true rfl) (Nat.le_of_ble_eq_true rfl) ok_42 rfl rfl rfl (fun _ => rfl) (fun _ => rfl) (fun _ => rfl) rfl (fun _ => rfl) rfl (fun t2 => ?_)
  refine XE_icmp_eq (t := 1252) (n := 703) dL_law_700 rfl rfl (fun _ => ?_) (fun _ => XE_none)
  exact law_next B nm hK v3 t1.2.1 m1 t1.2.2 m3 m4 m5 m6 m7 m8 m9 m10 m11 m12 m13 m14 m15 m16 t2.2
set_option maxRecDepth 100000 in
theorem law_C21 {K : Int32 → Mem → Mem → Mem → Mem → Mem → Mem → Mem → Mem → Mem → Mem → Mem → Mem → Mem → Mem → Mem → Mem → Mem → Mem → Option Unit} (B : XB) (nm : String) {L : Nat} {sc : Nat → Int32} (hSc : XSc B L sc) (hK : ∀ (v3 : Int32) (m0 : Mem) (m1 : Mem) (m2 : Mem) (m3 : Mem) (m4 : Mem) (m5 : Mem) (m6 : Mem) (m7 : Mem) (m8 : Mem) (m9 : Mem) (m10 : Mem) (m11 : Mem) (m12 : Mem) (m13 : Mem) (m14 : Mem) (m15 : Mem) (m16 : Mem) (m17 : Mem), XE B (M_law nm) (fun _ : Unit => XZ B) 18 [(0, some (.ref 4095)), (1, some (.ref 0)), (2, some (.ref 1088)), (3, some (.int v3))] [] (143, 2120) SH_XM [m0, m1, m2, m3, m4, m5, m6, m7, m8, m9, m10, m11, m12, m13, m14, m15, m16, m17] (fun t : Unit => some t) (K v3 m0 m1 m2 m3 m4 m5 m6 m7 m8 m9 m10 m11 m12 m13 m14 m15 m16 m17)) (v3 : Int32) (m0 : Mem) (m1 : Mem) (m2 : Mem) (m3 : Mem) (m4 : Mem) (m5 : Mem) (m6 : Mem) (m7 : Mem) (m8 : Mem) (m9 : Mem) (m10 : Mem) (m11 : Mem) (m12 : Mem) (m13 : Mem) (m14 : Mem) (m15 : Mem) (m16 : Mem) (m17 : Mem) : XE B (M_law nm) (fun _ : Unit => XZ B) 705 [(0, some (.ref 4095)), (1, some (.ref 0)), (2, some (.ref 1088)), (3, some (.int v3))] [] (143, 2120) SH_XM [m0, m1, m2, m3, m4, m5, m6, m7, m8, m9, m10, m11, m12, m13, m14, m15, m16, m17] (fun t : Unit => some t) (f_law_C21 K L sc v3 m0 m1 m2 m3 m4 m5 m6 m7 m8 m9 m10 m11 m12 m13 m14 m15 m16 m17) := by
  unfold f_law_C21
  refine XE_aload_n (n := 706) dL_law_705 rfl rfl rfl ?_
  refine XE_aload_n (n := 707) dL_law_706 rfl rfl rfl ?_
  refine XE_iload_n (n := 708) dL_law_707 rfl rfl rfl ?_
  refine XE_iconst (v := 1) (n := 709) dL_law_708 rfl (by decide) ?_
  refine XE_iadd (n := 710) dL_law_709 rfl ?_
  refine XE_sld (n := 711) hSc rfl dL_law_710 rfl ?_
  refine XE_aload_n (n := 712) dL_law_711 rfl rfl rfl ?_
  refine XE_iload_n (n := 713) dL_law_712 rfl rfl rfl ?_
  refine XE_iconst (v := 2) (n := 714) dL_law_713 rfl (by decide) ?_
  refine XE_iadd (n := 715) dL_law_714 rfl ?_
  refine XE_sld (n := 716) hSc rfl dL_law_715 rfl ?_
  refine XE_aload_n (n := 717) dL_law_716 rfl rfl rfl ?_
  refine XE_iload_n (n := 718) dL_law_717 rfl rfl rfl ?_
  refine XE_iconst (v := 3) (n := 719) dL_law_718 rfl (by decide) ?_
  refine XE_iadd (n := 720) dL_law_719 rfl ?_
  refine XE_sld (n := 721) hSc rfl dL_law_720 rfl ?_
  refine XE_callV (ni := 3) (As := [.int (sc (ix (v3 + 1))), .int (sc (ix (v3 + 2))), .int (sc (ix (v3 + 3)))]) (π := [0, 1, 2, 3, 4, 5, 6, 7, 8, 9, 10, 11, 12, 13, 14, 15, 16]) (co := [17]) (cv := [m17]) (nn := 18) (hs2 := fun t1 => [t1.2.1, m1, t1.2.2, m3, m4, m5, m6, m7, m8, m9, m10, m11, m12, m13, m14, m15, m16, m17]) (st2 := fun t1 => [.int t1.1]) (n := 724) (b := 0) xc_L_101 (fun l t ht => met_X6_can l m0 m1 m2 m3 m4 m5 m6 m7 m8 m9 m10 m11 m12 m13 m14 m15 m16 (sc (ix (v3 + 1))) (sc (ix (v3 + 2))) (sc (ix (v3 + 3))) t ht) rfl rfl rfl rfl rfl dL_law_721 (Nat.le_of_ble_eq_true rfl) ⟨Nat.le_refl _, Nat.le_refl _⟩ (Nat.le_of_ble_eq_true rfl) (Nat.le_of_ble_eq_true rfl) ok_41 rfl rfl rfl (fun _ => rfl) (fun _ => rfl) (fun _ => rfl) rfl (fun _ => rfl) rfl (fun t1 => ?_)
  refine XE_aload_n (n := 725) dL_law_724 rfl rfl rfl ?_
  refine XE_aload_n (n := 726) dL_law_725 rfl rfl rfl ?_
  refine XE_iload_n (n := 727) dL_law_726 rfl rfl rfl ?_
  refine XE_iconst (v := 1) (n := 728) dL_law_727 rfl (by decide) ?_
  refine XE_iadd (n := 729) dL_law_728 rfl ?_
  refine XE_sld (n := 730) hSc rfl dL_law_729 rfl ?_
  refine XE_aload_n (n := 731) dL_law_730 rfl rfl rfl ?_
  refine XE_iload_n (n := 732) dL_law_731 rfl rfl rfl ?_
  refine XE_iconst (v := 2) (n := 733) dL_law_732 rfl (by decide) ?_
  refine XE_iadd (n := 734) dL_law_733 rfl ?_
  refine XE_sld (n := 735) hSc rfl dL_law_734 rfl ?_
  refine XE_aload_n (n := 736) dL_law_735 rfl rfl rfl ?_
  refine XE_iload_n (n := 737) dL_law_736 rfl rfl rfl ?_
  refine XE_iconst (v := 3) (n := 738) dL_law_737 rfl (by decide) ?_
  refine XE_iadd (n := 739) dL_law_738 rfl ?_
  refine XE_sld (n := 740) hSc rfl dL_law_739 rfl ?_
  refine XE_callV (ni := 3) (As := [.int (sc (ix (v3 + 1))), .int (sc (ix (v3 + 2))), .int (sc (ix (v3 + 3)))]) (π := [17]) (co := [0, 1, 2, 3, 4, 5, 6, 7, 8, 9, 10, 11, 12, 13, 14, 15, 16]) (cv := [t1.2.1, m1, t1.2.2, m3, m4, m5, m6, m7, m8, m9, m10, m11, m12, m13, m14, m15, m16]) (nn := 18) (hs2 := fun t2 => [t1.2.1, m1, t1.2.2, m3, m4, m5, m6, m7, m8, m9, m10, m11, m12, m13, m14, m15, m16, t2.2]) (st2 := fun t2 => [.int t2.1, .int t1.1]) (n := 743) (b := 1088) xc_L_104 (fun l t ht => met_X7_can l m17 (sc (ix (v3 + 1))) (sc (ix (v3 + 2))) (sc (ix (v3 + 3))) t ht) rfl rfl rfl rfl rfl dL_law_740 (Nat.le_of_ble_eq_true rfl) ⟨Nat.le_refl _, Nat.le_refl _⟩ (Nat.le_of_ble_eq_true rfl) (Nat.le_of_ble_eq_true rfl) ok_42 rfl rfl rfl (fun _ => rfl) (fun _ => rfl) (fun _ => rfl) rfl (fun _ => rfl) rfl (fun t2 => ?_)
  refine XE_icmp_eq (t := 1252) (n := 746) dL_law_743 rfl rfl (fun _ => ?_) (fun _ => XE_none)
  exact law_next B nm hK v3 t1.2.1 m1 t1.2.2 m3 m4 m5 m6 m7 m8 m9 m10 m11 m12 m13 m14 m15 m16 t2.2
set_option maxRecDepth 100000 in
theorem law_C22 {K : Int32 → Mem → Mem → Mem → Mem → Mem → Mem → Mem → Mem → Mem → Mem → Mem → Mem → Mem → Mem → Mem → Mem → Mem → Mem → Option Unit} (B : XB) (nm : String) {L : Nat} {sc : Nat → Int32} (hSc : XSc B L sc) (hK : ∀ (v3 : Int32) (m0 : Mem) (m1 : Mem) (m2 : Mem) (m3 : Mem) (m4 : Mem) (m5 : Mem) (m6 : Mem) (m7 : Mem) (m8 : Mem) (m9 : Mem) (m10 : Mem) (m11 : Mem) (m12 : Mem) (m13 : Mem) (m14 : Mem) (m15 : Mem) (m16 : Mem) (m17 : Mem), XE B (M_law nm) (fun _ : Unit => XZ B) 18 [(0, some (.ref 4095)), (1, some (.ref 0)), (2, some (.ref 1088)), (3, some (.int v3))] [] (143, 2120) SH_XM [m0, m1, m2, m3, m4, m5, m6, m7, m8, m9, m10, m11, m12, m13, m14, m15, m16, m17] (fun t : Unit => some t) (K v3 m0 m1 m2 m3 m4 m5 m6 m7 m8 m9 m10 m11 m12 m13 m14 m15 m16 m17)) (v3 : Int32) (m0 : Mem) (m1 : Mem) (m2 : Mem) (m3 : Mem) (m4 : Mem) (m5 : Mem) (m6 : Mem) (m7 : Mem) (m8 : Mem) (m9 : Mem) (m10 : Mem) (m11 : Mem) (m12 : Mem) (m13 : Mem) (m14 : Mem) (m15 : Mem) (m16 : Mem) (m17 : Mem) : XE B (M_law nm) (fun _ : Unit => XZ B) 748 [(0, some (.ref 4095)), (1, some (.ref 0)), (2, some (.ref 1088)), (3, some (.int v3))] [] (143, 2120) SH_XM [m0, m1, m2, m3, m4, m5, m6, m7, m8, m9, m10, m11, m12, m13, m14, m15, m16, m17] (fun t : Unit => some t) (f_law_C22 K L sc v3 m0 m1 m2 m3 m4 m5 m6 m7 m8 m9 m10 m11 m12 m13 m14 m15 m16 m17) := by
  unfold f_law_C22
  refine XE_aload_n (n := 749) dL_law_748 rfl rfl rfl ?_
  refine XE_aload_n (n := 750) dL_law_749 rfl rfl rfl ?_
  refine XE_iload_n (n := 751) dL_law_750 rfl rfl rfl ?_
  refine XE_iconst (v := 1) (n := 752) dL_law_751 rfl (by decide) ?_
  refine XE_iadd (n := 753) dL_law_752 rfl ?_
  refine XE_sld (n := 754) hSc rfl dL_law_753 rfl ?_
  refine XE_callV (ni := 1) (As := [.int (sc (ix (v3 + 1)))]) (π := [0, 1, 2, 3, 4, 5, 6, 7, 8, 9, 10, 11, 12, 13, 14, 15, 16]) (co := [17]) (cv := [m17]) (nn := 18) (hs2 := fun t1 => [t1.2.1, m1, t1.2.2.1, m3, m4, m5, m6, m7, m8, m9, m10, m11, m12, m13, m14, m15, t1.2.2.2, m17]) (st2 := fun t1 => [.int t1.1]) (n := 757) (b := 0) xc_L_105 (fun l t ht => met_X6_fountain l m0 m1 m2 m3 m4 m5 m6 m7 m8 m9 m10 m11 m12 m13 m14 m15 m16 (sc (ix (v3 + 1))) t ht) rfl rfl rfl rfl rfl dL_law_754 (Nat.le_of_ble_eq_true rfl) ⟨Nat.le_refl _, Nat.le_refl _⟩ (Nat.le_of_ble_eq_true rfl) (Nat.le_of_ble_eq_true rfl) ok_41 rfl rfl rfl (fun _ => rfl) (fun _ => rfl) (fun _ => rfl) rfl (fun _ => rfl) rfl (fun t1 => ?_)
  refine XE_aload_n (n := 758) dL_law_757 rfl rfl rfl ?_
  refine XE_aload_n (n := 759) dL_law_758 rfl rfl rfl ?_
  refine XE_iload_n (n := 760) dL_law_759 rfl rfl rfl ?_
  refine XE_iconst (v := 1) (n := 761) dL_law_760 rfl (by decide) ?_
  refine XE_iadd (n := 762) dL_law_761 rfl ?_
  refine XE_sld (n := 763) hSc rfl dL_law_762 rfl ?_
  refine XE_callV (ni := 1) (As := [.int (sc (ix (v3 + 1)))]) (π := [17]) (co := [0, 1, 2, 3, 4, 5, 6, 7, 8, 9, 10, 11, 12, 13, 14, 15, 16]) (cv := [t1.2.1, m1, t1.2.2.1, m3, m4, m5, m6, m7, m8, m9, m10, m11, m12, m13, m14, m15, t1.2.2.2]) (nn := 18) (hs2 := fun t2 => [t1.2.1, m1, t1.2.2.1, m3, m4, m5, m6, m7, m8, m9, m10, m11, m12, m13, m14, m15, t1.2.2.2, t2.2]) (st2 := fun t2 => [.int t2.1, .int t1.1]) (n := 766) (b := 1088) xc_L_108 (fun l t ht => met_X7_fountain l m17 (sc (ix (v3 + 1))) t ht) rfl rfl rfl rfl rfl dL_law_763 (Nat.le_of_ble_eq_true rfl) ⟨Nat.le_refl _, Nat.le_refl _⟩ (Nat.le_of_ble_eq_true rfl) (Nat.le_of_ble_eq_true rfl) ok_42 rfl rfl rfl (fun _ => rfl) (fun _ => rfl) (fun _ => rfl) rfl (fun _ => rfl) rfl (fun t2 => ?_)
  refine XE_icmp_eq (t := 1252) (n := 769) dL_law_766 rfl rfl (fun _ => ?_) (fun _ => XE_none)
  exact law_next B nm hK v3 t1.2.1 m1 t1.2.2.1 m3 m4 m5 m6 m7 m8 m9 m10 m11 m12 m13 m14 m15 t1.2.2.2 t2.2
set_option maxRecDepth 100000 in
theorem law_C23 {K : Int32 → Mem → Mem → Mem → Mem → Mem → Mem → Mem → Mem → Mem → Mem → Mem → Mem → Mem → Mem → Mem → Mem → Mem → Mem → Option Unit} (B : XB) (nm : String) {L : Nat} {sc : Nat → Int32} (hSc : XSc B L sc) (hK : ∀ (v3 : Int32) (m0 : Mem) (m1 : Mem) (m2 : Mem) (m3 : Mem) (m4 : Mem) (m5 : Mem) (m6 : Mem) (m7 : Mem) (m8 : Mem) (m9 : Mem) (m10 : Mem) (m11 : Mem) (m12 : Mem) (m13 : Mem) (m14 : Mem) (m15 : Mem) (m16 : Mem) (m17 : Mem), XE B (M_law nm) (fun _ : Unit => XZ B) 18 [(0, some (.ref 4095)), (1, some (.ref 0)), (2, some (.ref 1088)), (3, some (.int v3))] [] (143, 2120) SH_XM [m0, m1, m2, m3, m4, m5, m6, m7, m8, m9, m10, m11, m12, m13, m14, m15, m16, m17] (fun t : Unit => some t) (K v3 m0 m1 m2 m3 m4 m5 m6 m7 m8 m9 m10 m11 m12 m13 m14 m15 m16 m17)) (v3 : Int32) (m0 : Mem) (m1 : Mem) (m2 : Mem) (m3 : Mem) (m4 : Mem) (m5 : Mem) (m6 : Mem) (m7 : Mem) (m8 : Mem) (m9 : Mem) (m10 : Mem) (m11 : Mem) (m12 : Mem) (m13 : Mem) (m14 : Mem) (m15 : Mem) (m16 : Mem) (m17 : Mem) : XE B (M_law nm) (fun _ : Unit => XZ B) 771 [(0, some (.ref 4095)), (1, some (.ref 0)), (2, some (.ref 1088)), (3, some (.int v3))] [] (143, 2120) SH_XM [m0, m1, m2, m3, m4, m5, m6, m7, m8, m9, m10, m11, m12, m13, m14, m15, m16, m17] (fun t : Unit => some t) (f_law_C23 K L sc v3 m0 m1 m2 m3 m4 m5 m6 m7 m8 m9 m10 m11 m12 m13 m14 m15 m16 m17) := by
  unfold f_law_C23
  refine XE_aload_n (n := 772) dL_law_771 rfl rfl rfl ?_
  refine XE_aload_n (n := 773) dL_law_772 rfl rfl rfl ?_
  refine XE_iload_n (n := 774) dL_law_773 rfl rfl rfl ?_
  refine XE_iconst (v := 1) (n := 775) dL_law_774 rfl (by decide) ?_
  refine XE_iadd (n := 776) dL_law_775 rfl ?_
  refine XE_sld (n := 777) hSc rfl dL_law_776 rfl ?_
  refine XE_callV (ni := 1) (As := [.int (sc (ix (v3 + 1)))]) (π := [0, 1, 2, 3, 4, 5, 6, 7, 8, 9, 10, 11, 12, 13, 14, 15, 16]) (co := [17]) (cv := [m17]) (nn := 18) (hs2 := fun t1 => [t1.2.1, m1, t1.2.2.1, m3, m4, m5, m6, m7, m8, m9, m10, m11, m12, m13, m14, m15, t1.2.2.2, m17]) (st2 := fun t1 => [.int t1.1]) (n := 780) (b := 0) xc_L_109 (fun l t ht => met_X6_fountains l m0 m1 m2 m3 m4 m5 m6 m7 m8 m9 m10 m11 m12 m13 m14 m15 m16 (sc (ix (v3 + 1))) t ht) rfl rfl rfl rfl rfl dL_law_777 (Nat.le_of_ble_eq_true rfl) ⟨Nat.le_refl _, Nat.le_refl _⟩ (Nat.le_of_ble_eq_true rfl) (Nat.le_of_ble_eq_true rfl) ok_41 rfl rfl rfl (fun _ => rfl) (fun _ => rfl) (fun _ => rfl) rfl (fun _ => rfl) rfl (fun t1 => ?_)
  refine XE_aload_n (n := 781) dL_law_780 rfl rfl rfl ?_
  refine XE_aload_n (n := 782) dL_law_781 rfl rfl rfl ?_
  refine XE_iload_n (n := 783) dL_law_782 rfl rfl rfl ?_
  refine XE_iconst (v := 1) (n := 784) dL_law_783 rfl (by decide) ?_
  refine XE_iadd (n := 785) dL_law_784 rfl ?_
  refine XE_sld (n := 786) hSc rfl dL_law_785 rfl ?_
  refine XE_callV (ni := 1) (As := [.int (sc (ix (v3 + 1)))]) (π := [17]) (co := [0, 1, 2, 3, 4, 5, 6, 7, 8, 9, 10, 11, 12, 13, 14, 15, 16]) (cv := [t1.2.1, m1, t1.2.2.1, m3, m4, m5, m6, m7, m8, m9, m10, m11, m12, m13, m14, m15, t1.2.2.2]) (nn := 18) (hs2 := fun t2 => [t1.2.1, m1, t1.2.2.1, m3, m4, m5, m6, m7, m8, m9, m10, m11, m12, m13, m14, m15, t1.2.2.2, t2.2]) (st2 := fun t2 => [.int t2.1, .int t1.1]) (n := 789) (b := 1088) xc_L_112 (fun l t ht => met_X7_fountains l m17 (sc (ix (v3 + 1))) t ht) rfl rfl rfl rfl rfl dL_law_786 (Nat.le_of_ble_eq_true rfl) ⟨Nat.le_refl _, Nat.le_refl _⟩ (Nat.le_of_ble_eq_true rfl) (Nat.le_of_ble_eq_true rfl) ok_42 rfl rfl rfl (fun _ => rfl) (fun _ => rfl) (fun _ => rfl) rfl (fun _ => rfl) rfl (fun t2 => ?_)
  refine XE_icmp_eq (t := 1252) (n := 792) dL_law_789 rfl rfl (fun _ => ?_) (fun _ => XE_none)
  exact law_next B nm hK v3 t1.2.1 m1 t1.2.2.1 m3 m4 m5 m6 m7 m8 m9 m10 m11 m12 m13 m14 m15 t1.2.2.2 t2.2
set_option maxRecDepth 100000 in
theorem law_C24 {K : Int32 → Mem → Mem → Mem → Mem → Mem → Mem → Mem → Mem → Mem → Mem → Mem → Mem → Mem → Mem → Mem → Mem → Mem → Mem → Option Unit} (B : XB) (nm : String) {L : Nat} {sc : Nat → Int32} (hSc : XSc B L sc) (hK : ∀ (v3 : Int32) (m0 : Mem) (m1 : Mem) (m2 : Mem) (m3 : Mem) (m4 : Mem) (m5 : Mem) (m6 : Mem) (m7 : Mem) (m8 : Mem) (m9 : Mem) (m10 : Mem) (m11 : Mem) (m12 : Mem) (m13 : Mem) (m14 : Mem) (m15 : Mem) (m16 : Mem) (m17 : Mem), XE B (M_law nm) (fun _ : Unit => XZ B) 18 [(0, some (.ref 4095)), (1, some (.ref 0)), (2, some (.ref 1088)), (3, some (.int v3))] [] (143, 2120) SH_XM [m0, m1, m2, m3, m4, m5, m6, m7, m8, m9, m10, m11, m12, m13, m14, m15, m16, m17] (fun t : Unit => some t) (K v3 m0 m1 m2 m3 m4 m5 m6 m7 m8 m9 m10 m11 m12 m13 m14 m15 m16 m17)) (v3 : Int32) (m0 : Mem) (m1 : Mem) (m2 : Mem) (m3 : Mem) (m4 : Mem) (m5 : Mem) (m6 : Mem) (m7 : Mem) (m8 : Mem) (m9 : Mem) (m10 : Mem) (m11 : Mem) (m12 : Mem) (m13 : Mem) (m14 : Mem) (m15 : Mem) (m16 : Mem) (m17 : Mem) : XE B (M_law nm) (fun _ : Unit => XZ B) 794 [(0, some (.ref 4095)), (1, some (.ref 0)), (2, some (.ref 1088)), (3, some (.int v3))] [] (143, 2120) SH_XM [m0, m1, m2, m3, m4, m5, m6, m7, m8, m9, m10, m11, m12, m13, m14, m15, m16, m17] (fun t : Unit => some t) (f_law_C24 K L sc v3 m0 m1 m2 m3 m4 m5 m6 m7 m8 m9 m10 m11 m12 m13 m14 m15 m16 m17) := by
  unfold f_law_C24
  refine XE_aload_n (n := 795) dL_law_794 rfl rfl rfl ?_
  refine XE_aload_n (n := 796) dL_law_795 rfl rfl rfl ?_
  refine XE_iload_n (n := 797) dL_law_796 rfl rfl rfl ?_
  refine XE_iconst (v := 1) (n := 798) dL_law_797 rfl (by decide) ?_
  refine XE_iadd (n := 799) dL_law_798 rfl ?_
  refine XE_sld (n := 800) hSc rfl dL_law_799 rfl ?_
  refine XE_callV (ni := 1) (As := [.int (sc (ix (v3 + 1)))]) (π := [0, 1, 2, 3, 4, 5, 6, 7, 8, 9, 10, 11, 12, 13, 14, 15, 16]) (co := [17]) (cv := [m17]) (nn := 18) (hs2 := fun t1 => [t1.2.1, m1, t1.2.2, m3, m4, m5, m6, m7, m8, m9, m10, m11, m12, m13, m14, m15, m16, m17]) (st2 := fun t1 => [.int t1.1]) (n := 803) (b := 0) xc_L_113 (fun l t ht => met_X6_inside l m0 m1 m2 m3 m4 m5 m6 m7 m8 m9 m10 m11 m12 m13 m14 m15 m16 (sc (ix (v3 + 1))) t ht) rfl rfl rfl rfl rfl dL_law_800 (Nat.le_of_ble_eq_true rfl) ⟨Nat.le_refl _, Nat.le_refl _⟩ (Nat.le_of_ble_eq_true rfl) (Nat.le_of_ble_eq_true rfl) ok_41 rfl rfl rfl (fun _ => rfl) (fun _ => rfl) (fun _ => rfl) rfl (fun _ => rfl) rfl (fun t1 => ?_)
  refine XE_aload_n (n := 804) dL_law_803 rfl rfl rfl ?_
  refine XE_aload_n (n := 805) dL_law_804 rfl rfl rfl ?_
  refine XE_iload_n (n := 806) dL_law_805 rfl rfl rfl ?_
  refine XE_iconst (v := 1) (n := 807) dL_law_806 rfl (by decide) ?_
  refine XE_iadd (n := 808) dL_law_807 rfl ?_
  refine XE_sld (n := 809) hSc rfl dL_law_808 rfl ?_
  refine XE_callV (ni := 1) (As := [.int (sc (ix (v3 + 1)))]) (π := [17]) (co := [0, 1, 2, 3, 4, 5, 6, 7, 8, 9, 10, 11, 12, 13, 14, 15, 16]) (cv := [t1.2.1, m1, t1.2.2, m3, m4, m5, m6, m7, m8, m9, m10, m11, m12, m13, m14, m15, m16]) (nn := 18) (hs2 := fun t2 => [t1.2.1, m1, t1.2.2, m3, m4, m5, m6, m7, m8, m9, m10, m11, m12, m13, m14, m15, m16, t2.2]) (st2 := fun t2 => [.int t2.1, .int t1.1]) (n := 812) (b := 1088) xc_L_116 (fun l t ht => met_X7_inside l m17 (sc (ix (v3 + 1))) t ht) rfl rfl rfl rfl rfl dL_law_809 (Nat.le_of_ble_eq_true rfl) ⟨Nat.le_refl _, Nat.le_refl _⟩ (Nat.le_of_ble_eq_true rfl) (Nat.le_of_ble_eq_true rfl) ok_42 rfl rfl rfl (fun _ => rfl) (fun _ => rfl) (fun _ => rfl) rfl (fun _ => rfl) rfl (fun t2 => ?_)
  refine XE_icmp_eq (t := 1252) (n := 815) dL_law_812 rfl rfl (fun _ => ?_) (fun _ => XE_none)
  exact law_next B nm hK v3 t1.2.1 m1 t1.2.2 m3 m4 m5 m6 m7 m8 m9 m10 m11 m12 m13 m14 m15 m16 t2.2
set_option maxRecDepth 100000 in
theorem law_C25 {K : Int32 → Mem → Mem → Mem → Mem → Mem → Mem → Mem → Mem → Mem → Mem → Mem → Mem → Mem → Mem → Mem → Mem → Mem → Mem → Option Unit} (B : XB) (nm : String) {L : Nat} {sc : Nat → Int32} (hSc : XSc B L sc) (hK : ∀ (v3 : Int32) (m0 : Mem) (m1 : Mem) (m2 : Mem) (m3 : Mem) (m4 : Mem) (m5 : Mem) (m6 : Mem) (m7 : Mem) (m8 : Mem) (m9 : Mem) (m10 : Mem) (m11 : Mem) (m12 : Mem) (m13 : Mem) (m14 : Mem) (m15 : Mem) (m16 : Mem) (m17 : Mem), XE B (M_law nm) (fun _ : Unit => XZ B) 18 [(0, some (.ref 4095)), (1, some (.ref 0)), (2, some (.ref 1088)), (3, some (.int v3))] [] (143, 2120) SH_XM [m0, m1, m2, m3, m4, m5, m6, m7, m8, m9, m10, m11, m12, m13, m14, m15, m16, m17] (fun t : Unit => some t) (K v3 m0 m1 m2 m3 m4 m5 m6 m7 m8 m9 m10 m11 m12 m13 m14 m15 m16 m17)) (v3 : Int32) (m0 : Mem) (m1 : Mem) (m2 : Mem) (m3 : Mem) (m4 : Mem) (m5 : Mem) (m6 : Mem) (m7 : Mem) (m8 : Mem) (m9 : Mem) (m10 : Mem) (m11 : Mem) (m12 : Mem) (m13 : Mem) (m14 : Mem) (m15 : Mem) (m16 : Mem) (m17 : Mem) : XE B (M_law nm) (fun _ : Unit => XZ B) 817 [(0, some (.ref 4095)), (1, some (.ref 0)), (2, some (.ref 1088)), (3, some (.int v3))] [] (143, 2120) SH_XM [m0, m1, m2, m3, m4, m5, m6, m7, m8, m9, m10, m11, m12, m13, m14, m15, m16, m17] (fun t : Unit => some t) (f_law_C25 K L sc v3 m0 m1 m2 m3 m4 m5 m6 m7 m8 m9 m10 m11 m12 m13 m14 m15 m16 m17) := by
  unfold f_law_C25
  refine XE_aload_n (n := 818) dL_law_817 rfl rfl rfl ?_
  refine XE_callV (ni := 0) (As := []) (π := [0, 1, 2, 3, 4, 5, 6, 7, 8, 9, 10, 11, 12, 13, 14, 15, 16]) (co := [17]) (cv := [m17]) (nn := 18) (hs2 := fun t1 => [m0, m1, t1.2, m3, m4, m5, m6, m7, m8, m9, m10, m11, m12, m13, m14, m15, m16, m17]) (st2 := fun t1 => [.int t1.1]) (n := 821) (b := 0) xc_L_117 (fun l t ht => met_X6_crowded l m0 m1 m2 m3 m4 m5 m6 m7 m8 m9 m10 m11 m12 m13 m14 m15 m16 t ht) rfl rfl rfl rfl rfl dL_law_818 (Nat.le_of_ble_eq_true rfl) ⟨Nat.le_refl _, Nat.le_refl _⟩ (Nat.le_of_ble_eq_true rfl) (Nat.le_of_ble_eq_true rfl) ok_41 rfl rfl rfl (fun _ => rfl) (fun _ => rfl) (fun _ => rfl) rfl (fun _ => rfl) rfl (fun t1 => ?_)
  refine XE_aload_n (n := 822) dL_law_821 rfl rfl rfl ?_
  refine XE_callV (ni := 0) (As := []) (π := [17]) (co := [0, 1, 2, 3, 4, 5, 6, 7, 8, 9, 10, 11, 12, 13, 14, 15, 16]) (cv := [m0, m1, t1.2, m3, m4, m5, m6, m7, m8, m9, m10, m11, m12, m13, m14, m15, m16]) (nn := 18) (hs2 := fun t2 => [m0, m1, t1.2, m3, m4, m5, m6, m7, m8, m9, m10, m11, m12, m13, m14, m15, m16, t2.2]) (st2 := fun t2 => [.int t2.1, .int t1.1]) (n := 825) (b := 1088) xc_L_120 (fun l t ht => met_X7_crowded l m17 t ht) rfl rfl rfl rfl rfl dL_law_822 (Nat.le_of_ble_eq_true rfl) ⟨Nat.le_refl _, Nat.le_refl _⟩ (Nat.le_of_ble_eq_true rfl) (Nat.le_of_ble_eq_true rfl) ok_42 rfl rfl rfl (fun _ => rfl) (fun _ => rfl) (fun _ => rfl) rfl (fun _ => rfl) rfl (fun t2 => ?_)
  refine XE_icmp_eq (t := 1252) (n := 828) dL_law_825 rfl rfl (fun _ => ?_) (fun _ => XE_none)
  exact law_next B nm hK v3 m0 m1 t1.2 m3 m4 m5 m6 m7 m8 m9 m10 m11 m12 m13 m14 m15 m16 t2.2
set_option maxRecDepth 100000 in
theorem law_C26 {K : Int32 → Mem → Mem → Mem → Mem → Mem → Mem → Mem → Mem → Mem → Mem → Mem → Mem → Mem → Mem → Mem → Mem → Mem → Mem → Option Unit} (B : XB) (nm : String) {L : Nat} {sc : Nat → Int32} (hSc : XSc B L sc) (hK : ∀ (v3 : Int32) (m0 : Mem) (m1 : Mem) (m2 : Mem) (m3 : Mem) (m4 : Mem) (m5 : Mem) (m6 : Mem) (m7 : Mem) (m8 : Mem) (m9 : Mem) (m10 : Mem) (m11 : Mem) (m12 : Mem) (m13 : Mem) (m14 : Mem) (m15 : Mem) (m16 : Mem) (m17 : Mem), XE B (M_law nm) (fun _ : Unit => XZ B) 18 [(0, some (.ref 4095)), (1, some (.ref 0)), (2, some (.ref 1088)), (3, some (.int v3))] [] (143, 2120) SH_XM [m0, m1, m2, m3, m4, m5, m6, m7, m8, m9, m10, m11, m12, m13, m14, m15, m16, m17] (fun t : Unit => some t) (K v3 m0 m1 m2 m3 m4 m5 m6 m7 m8 m9 m10 m11 m12 m13 m14 m15 m16 m17)) (v3 : Int32) (m0 : Mem) (m1 : Mem) (m2 : Mem) (m3 : Mem) (m4 : Mem) (m5 : Mem) (m6 : Mem) (m7 : Mem) (m8 : Mem) (m9 : Mem) (m10 : Mem) (m11 : Mem) (m12 : Mem) (m13 : Mem) (m14 : Mem) (m15 : Mem) (m16 : Mem) (m17 : Mem) : XE B (M_law nm) (fun _ : Unit => XZ B) 830 [(0, some (.ref 4095)), (1, some (.ref 0)), (2, some (.ref 1088)), (3, some (.int v3))] [] (143, 2120) SH_XM [m0, m1, m2, m3, m4, m5, m6, m7, m8, m9, m10, m11, m12, m13, m14, m15, m16, m17] (fun t : Unit => some t) (f_law_C26 K L sc v3 m0 m1 m2 m3 m4 m5 m6 m7 m8 m9 m10 m11 m12 m13 m14 m15 m16 m17) := by
  unfold f_law_C26
  refine XE_aload_n (n := 831) dL_law_830 rfl rfl rfl ?_
  refine XE_aload_n (n := 832) dL_law_831 rfl rfl rfl ?_
  refine XE_iload_n (n := 833) dL_law_832 rfl rfl rfl ?_
  refine XE_iconst (v := 1) (n := 834) dL_law_833 rfl (by decide) ?_
  refine XE_iadd (n := 835) dL_law_834 rfl ?_
  refine XE_sld (n := 836) hSc rfl dL_law_835 rfl ?_
  refine XE_callV (ni := 1) (As := [.int (sc (ix (v3 + 1)))]) (π := [0, 1, 2, 3, 4, 5, 6, 7, 8, 9, 10, 11, 12, 13, 14, 15, 16]) (co := [17]) (cv := [m17]) (nn := 18) (hs2 := fun t1 => [t1.2, m1, m2, m3, m4, m5, m6, m7, m8, m9, m10, m11, m12, m13, m14, m15, m16, m17]) (st2 := fun t1 => [.int t1.1]) (n := 839) (b := 0) xc_L_121 (fun l t ht => met_X6_price l m0 m1 m2 m3 m4 m5 m6 m7 m8 m9 m10 m11 m12 m13 m14 m15 m16 (sc (ix (v3 + 1))) t ht) rfl rfl rfl rfl rfl dL_law_836 (Nat.le_of_ble_eq_true rfl) ⟨Nat.le_refl _, Nat.le_refl _⟩ (Nat.le_of_ble_eq_true rfl) (Nat.le_of_ble_eq_true rfl) ok_41 rfl rfl rfl (fun _ => rfl) (fun _ => rfl) (fun _ => rfl) rfl (fun _ => rfl) rfl (fun t1 => ?_)
  refine XE_aload_n (n := 840) dL_law_839 rfl rfl rfl ?_
  refine XE_aload_n (n := 841) dL_law_840 rfl rfl rfl ?_
  refine XE_iload_n (n := 842) dL_law_841 rfl rfl rfl ?_
  refine XE_iconst (v := 1) (n := 843) dL_law_842 rfl (by decide) ?_
  refine XE_iadd (n := 844) dL_law_843 rfl ?_
  refine XE_sld (n := 845) hSc rfl dL_law_844 rfl ?_
  refine XE_callV (ni := 1) (As := [.int (sc (ix (v3 + 1)))]) (π := [17]) (co := [0, 1, 2, 3, 4, 5, 6, 7, 8, 9, 10, 11, 12, 13, 14, 15, 16]) (cv := [t1.2, m1, m2, m3, m4, m5, m6, m7, m8, m9, m10, m11, m12, m13, m14, m15, m16]) (nn := 18) (hs2 := fun t2 => [t1.2, m1, m2, m3, m4, m5, m6, m7, m8, m9, m10, m11, m12, m13, m14, m15, m16, t2.2]) (st2 := fun t2 => [.int t2.1, .int t1.1]) (n := 848) (b := 1088) xc_L_124 (fun l t ht => met_X7_price l m17 (sc (ix (v3 + 1))) t ht) rfl rfl rfl rfl rfl dL_law_845 (Nat.le_of_ble_eq_true rfl) ⟨Nat.le_refl _, Nat.le_refl _⟩ (Nat.le_of_ble_eq_true rfl) (Nat.le_of_ble_eq_true rfl) ok_42 rfl rfl rfl (fun _ => rfl) (fun _ => rfl) (fun _ => rfl) rfl (fun _ => rfl) rfl (fun t2 => ?_)
  refine XE_icmp_eq (t := 1252) (n := 851) dL_law_848 rfl rfl (fun _ => ?_) (fun _ => XE_none)
  exact law_next B nm hK v3 t1.2 m1 m2 m3 m4 m5 m6 m7 m8 m9 m10 m11 m12 m13 m14 m15 m16 t2.2
set_option maxRecDepth 100000 in
theorem law_C27 {K : Int32 → Mem → Mem → Mem → Mem → Mem → Mem → Mem → Mem → Mem → Mem → Mem → Mem → Mem → Mem → Mem → Mem → Mem → Mem → Option Unit} (B : XB) (nm : String) {L : Nat} {sc : Nat → Int32} (hSc : XSc B L sc) (hK : ∀ (v3 : Int32) (m0 : Mem) (m1 : Mem) (m2 : Mem) (m3 : Mem) (m4 : Mem) (m5 : Mem) (m6 : Mem) (m7 : Mem) (m8 : Mem) (m9 : Mem) (m10 : Mem) (m11 : Mem) (m12 : Mem) (m13 : Mem) (m14 : Mem) (m15 : Mem) (m16 : Mem) (m17 : Mem), XE B (M_law nm) (fun _ : Unit => XZ B) 18 [(0, some (.ref 4095)), (1, some (.ref 0)), (2, some (.ref 1088)), (3, some (.int v3))] [] (143, 2120) SH_XM [m0, m1, m2, m3, m4, m5, m6, m7, m8, m9, m10, m11, m12, m13, m14, m15, m16, m17] (fun t : Unit => some t) (K v3 m0 m1 m2 m3 m4 m5 m6 m7 m8 m9 m10 m11 m12 m13 m14 m15 m16 m17)) (v3 : Int32) (m0 : Mem) (m1 : Mem) (m2 : Mem) (m3 : Mem) (m4 : Mem) (m5 : Mem) (m6 : Mem) (m7 : Mem) (m8 : Mem) (m9 : Mem) (m10 : Mem) (m11 : Mem) (m12 : Mem) (m13 : Mem) (m14 : Mem) (m15 : Mem) (m16 : Mem) (m17 : Mem) : XE B (M_law nm) (fun _ : Unit => XZ B) 853 [(0, some (.ref 4095)), (1, some (.ref 0)), (2, some (.ref 1088)), (3, some (.int v3))] [] (143, 2120) SH_XM [m0, m1, m2, m3, m4, m5, m6, m7, m8, m9, m10, m11, m12, m13, m14, m15, m16, m17] (fun t : Unit => some t) (f_law_C27 K L sc v3 m0 m1 m2 m3 m4 m5 m6 m7 m8 m9 m10 m11 m12 m13 m14 m15 m16 m17) := by
  unfold f_law_C27
  refine XE_aload_n (n := 854) dL_law_853 rfl rfl rfl ?_
  refine XE_aload_n (n := 855) dL_law_854 rfl rfl rfl ?_
  refine XE_iload_n (n := 856) dL_law_855 rfl rfl rfl ?_
  refine XE_iconst (v := 1) (n := 857) dL_law_856 rfl (by decide) ?_
  refine XE_iadd (n := 858) dL_law_857 rfl ?_
  refine XE_sld (n := 859) hSc rfl dL_law_858 rfl ?_
  refine XE_aload_n (n := 860) dL_law_859 rfl rfl rfl ?_
  refine XE_iload_n (n := 861) dL_law_860 rfl rfl rfl ?_
  refine XE_iconst (v := 2) (n := 862) dL_law_861 rfl (by decide) ?_
  refine XE_iadd (n := 863) dL_law_862 rfl ?_
  refine XE_sld (n := 864) hSc rfl dL_law_863 rfl ?_
  refine XE_aload_n (n := 865) dL_law_864 rfl rfl rfl ?_
  refine XE_iload_n (n := 866) dL_law_865 rfl rfl rfl ?_
  refine XE_iconst (v := 3) (n := 867) dL_law_866 rfl (by decide) ?_
  refine XE_iadd (n := 868) dL_law_867 rfl ?_
  refine XE_sld (n := 869) hSc rfl dL_law_868 rfl ?_
  refine XE_aload_n (n := 870) dL_law_869 rfl rfl rfl ?_
  refine XE_iload_n (n := 871) dL_law_870 rfl rfl rfl ?_
  refine XE_iconst (v := 4) (n := 872) dL_law_871 rfl (by decide) ?_
  refine XE_iadd (n := 873) dL_law_872 rfl ?_
  refine XE_sld (n := 874) hSc rfl dL_law_873 rfl ?_
  refine XE_callV (ni := 4) (As := [.int (sc (ix (v3 + 1))), .int (sc (ix (v3 + 2))), .int (sc (ix (v3 + 3))), .int (sc (ix (v3 + 4)))]) (π := [0, 1, 2, 3, 4, 5, 6, 7, 8, 9, 10, 11, 12, 13, 14, 15, 16]) (co := [17]) (cv := [m17]) (nn := 18) (hs2 := fun t1 => [t1.2.1, m1, t1.2.2, m3, m4, m5, m6, m7, m8, m9, m10, m11, m12, m13, m14, m15, m16, m17]) (st2 := fun t1 => [.long t1.1]) (n := 877) (b := 0) xc_L_125 (fun l t ht => met_X6_odds l m0 m1 m2 m3 m4 m5 m6 m7 m8 m9 m10 m11 m12 m13 m14 m15 m16 (sc (ix (v3 + 1))) (sc (ix (v3 + 2))) (sc (ix (v3 + 3))) (sc (ix (v3 + 4))) t ht) rfl rfl rfl rfl rfl dL_law_874 (Nat.le_of_ble_eq_true rfl) ⟨Nat.le_refl _, Nat.le_refl _⟩ (Nat.le_of_ble_eq_true rfl) (Nat.le_of_ble_eq_true rfl) ok_41 rfl rfl rfl (fun _ => rfl) (fun _ => rfl) (fun _ => rfl) rfl (fun _ => rfl) rfl (fun t1 => ?_)
  refine XE_aload_n (n := 878) dL_law_877 rfl rfl rfl ?_
  refine XE_aload_n (n := 879) dL_law_878 rfl rfl rfl ?_
  refine XE_iload_n (n := 880) dL_law_879 rfl rfl rfl ?_
  refine XE_iconst (v := 1) (n := 881) dL_law_880 rfl (by decide) ?_
  refine XE_iadd (n := 882) dL_law_881 rfl ?_
  refine XE_sld (n := 883) hSc rfl dL_law_882 rfl ?_
  refine XE_aload_n (n := 884) dL_law_883 rfl rfl rfl ?_
  refine XE_iload_n (n := 885) dL_law_884 rfl rfl rfl ?_
  refine XE_iconst (v := 2) (n := 886) dL_law_885 rfl (by decide) ?_
  refine XE_iadd (n := 887) dL_law_886 rfl ?_
  refine XE_sld (n := 888) hSc rfl dL_law_887 rfl ?_
  refine XE_aload_n (n := 889) dL_law_888 rfl rfl rfl ?_
  refine XE_iload_n (n := 890) dL_law_889 rfl rfl rfl ?_
  refine XE_iconst (v := 3) (n := 891) dL_law_890 rfl (by decide) ?_
  refine XE_iadd (n := 892) dL_law_891 rfl ?_
  refine XE_sld (n := 893) hSc rfl dL_law_892 rfl ?_
  refine XE_aload_n (n := 894) dL_law_893 rfl rfl rfl ?_
  refine XE_iload_n (n := 895) dL_law_894 rfl rfl rfl ?_
  refine XE_iconst (v := 4) (n := 896) dL_law_895 rfl (by decide) ?_
  refine XE_iadd (n := 897) dL_law_896 rfl ?_
  refine XE_sld (n := 898) hSc rfl dL_law_897 rfl ?_
  refine XE_callV (ni := 4) (As := [.int (sc (ix (v3 + 1))), .int (sc (ix (v3 + 2))), .int (sc (ix (v3 + 3))), .int (sc (ix (v3 + 4)))]) (π := [17]) (co := [0, 1, 2, 3, 4, 5, 6, 7, 8, 9, 10, 11, 12, 13, 14, 15, 16]) (cv := [t1.2.1, m1, t1.2.2, m3, m4, m5, m6, m7, m8, m9, m10, m11, m12, m13, m14, m15, m16]) (nn := 18) (hs2 := fun t2 => [t1.2.1, m1, t1.2.2, m3, m4, m5, m6, m7, m8, m9, m10, m11, m12, m13, m14, m15, m16, t2.2]) (st2 := fun t2 => [.long t2.1, .long t1.1]) (n := 901) (b := 1088) xc_L_129 (fun l t ht => met_X7_odds l m17 (sc (ix (v3 + 1))) (sc (ix (v3 + 2))) (sc (ix (v3 + 3))) (sc (ix (v3 + 4))) t ht) rfl rfl rfl rfl rfl dL_law_898 (Nat.le_of_ble_eq_true rfl) ⟨Nat.le_refl _, Nat.le_refl _⟩ (Nat.le_of_ble_eq_true rfl) (Nat.le_of_ble_eq_true rfl) ok_42 rfl rfl rfl (fun _ => rfl) (fun _ => rfl) (fun _ => rfl) rfl (fun _ => rfl) rfl (fun t2 => ?_)
  refine XE_lcmp (n := 902) dL_law_901 rfl ?_
  refine XE_if_eq (t := 1252) (n := 905) dL_law_902 rfl rfl (fun _ => ?_) (fun _ => XE_none)
  exact law_next B nm hK v3 t1.2.1 m1 t1.2.2 m3 m4 m5 m6 m7 m8 m9 m10 m11 m12 m13 m14 m15 m16 t2.2
set_option maxRecDepth 100000 in
theorem law_C28 {K : Int32 → Mem → Mem → Mem → Mem → Mem → Mem → Mem → Mem → Mem → Mem → Mem → Mem → Mem → Mem → Mem → Mem → Mem → Mem → Option Unit} (B : XB) (nm : String) {L : Nat} {sc : Nat → Int32} (hSc : XSc B L sc) (hK : ∀ (v3 : Int32) (m0 : Mem) (m1 : Mem) (m2 : Mem) (m3 : Mem) (m4 : Mem) (m5 : Mem) (m6 : Mem) (m7 : Mem) (m8 : Mem) (m9 : Mem) (m10 : Mem) (m11 : Mem) (m12 : Mem) (m13 : Mem) (m14 : Mem) (m15 : Mem) (m16 : Mem) (m17 : Mem), XE B (M_law nm) (fun _ : Unit => XZ B) 18 [(0, some (.ref 4095)), (1, some (.ref 0)), (2, some (.ref 1088)), (3, some (.int v3))] [] (143, 2120) SH_XM [m0, m1, m2, m3, m4, m5, m6, m7, m8, m9, m10, m11, m12, m13, m14, m15, m16, m17] (fun t : Unit => some t) (K v3 m0 m1 m2 m3 m4 m5 m6 m7 m8 m9 m10 m11 m12 m13 m14 m15 m16 m17)) (v3 : Int32) (m0 : Mem) (m1 : Mem) (m2 : Mem) (m3 : Mem) (m4 : Mem) (m5 : Mem) (m6 : Mem) (m7 : Mem) (m8 : Mem) (m9 : Mem) (m10 : Mem) (m11 : Mem) (m12 : Mem) (m13 : Mem) (m14 : Mem) (m15 : Mem) (m16 : Mem) (m17 : Mem) : XE B (M_law nm) (fun _ : Unit => XZ B) 907 [(0, some (.ref 4095)), (1, some (.ref 0)), (2, some (.ref 1088)), (3, some (.int v3))] [] (143, 2120) SH_XM [m0, m1, m2, m3, m4, m5, m6, m7, m8, m9, m10, m11, m12, m13, m14, m15, m16, m17] (fun t : Unit => some t) (f_law_C28 K L sc v3 m0 m1 m2 m3 m4 m5 m6 m7 m8 m9 m10 m11 m12 m13 m14 m15 m16 m17) := by
  unfold f_law_C28
  refine XE_aload_n (n := 908) dL_law_907 rfl rfl rfl ?_
  refine XE_aload_n (n := 909) dL_law_908 rfl rfl rfl ?_
  refine XE_iload_n (n := 910) dL_law_909 rfl rfl rfl ?_
  refine XE_iconst (v := 1) (n := 911) dL_law_910 rfl (by decide) ?_
  refine XE_iadd (n := 912) dL_law_911 rfl ?_
  refine XE_sld (n := 913) hSc rfl dL_law_912 rfl ?_
  refine XE_aload_n (n := 914) dL_law_913 rfl rfl rfl ?_
  refine XE_iload_n (n := 915) dL_law_914 rfl rfl rfl ?_
  refine XE_iconst (v := 2) (n := 916) dL_law_915 rfl (by decide) ?_
  refine XE_iadd (n := 917) dL_law_916 rfl ?_
  refine XE_sld (n := 918) hSc rfl dL_law_917 rfl ?_
  refine XE_callV (ni := 2) (As := [.int (sc (ix (v3 + 1))), .int (sc (ix (v3 + 2)))]) (π := [0, 1, 2, 3, 4, 5, 6, 7, 8, 9, 10, 11, 12, 13, 14, 15, 16]) (co := [17]) (cv := [m17]) (nn := 18) (hs2 := fun t1 => [t1.2.1, m1, t1.2.2, m3, m4, m5, m6, m7, m8, m9, m10, m11, m12, m13, m14, m15, m16, m17]) (st2 := fun t1 => [.int t1.1]) (n := 921) (b := 0) xc_L_130 (fun l t ht => met_X6_two l m0 m1 m2 m3 m4 m5 m6 m7 m8 m9 m10 m11 m12 m13 m14 m15 m16 (sc (ix (v3 + 1))) (sc (ix (v3 + 2))) t ht) rfl rfl rfl rfl rfl dL_law_918 (Nat.le_of_ble_eq_true rfl) ⟨Nat.le_refl _, Nat.le_refl _⟩ (Nat.le_of_ble_eq_true rfl) (Nat.le_of_ble_eq_true rfl) ok_41 rfl rfl rfl (fun _ => rfl) (fun _ => rfl) (fun _ => rfl) rfl (fun _ => rfl) rfl (fun t1 => ?_)
  refine XE_aload_n (n := 922) dL_law_921 rfl rfl rfl ?_
  refine XE_aload_n (n := 923) dL_law_922 rfl rfl rfl ?_
  refine XE_iload_n (n := 924) dL_law_923 rfl rfl rfl ?_
  refine XE_iconst (v := 1) (n := 925) dL_law_924 rfl (by decide) ?_
  refine XE_iadd (n := 926) dL_law_925 rfl ?_
  refine XE_sld (n := 927) hSc rfl dL_law_926 rfl ?_
  refine XE_aload_n (n := 928) dL_law_927 rfl rfl rfl ?_
  refine XE_iload_n (n := 929) dL_law_928 rfl rfl rfl ?_
  refine XE_iconst (v := 2) (n := 930) dL_law_929 rfl (by decide) ?_
  refine XE_iadd (n := 931) dL_law_930 rfl ?_
  refine XE_sld (n := 932) hSc rfl dL_law_931 rfl ?_
  refine XE_callV (ni := 2) (As := [.int (sc (ix (v3 + 1))), .int (sc (ix (v3 + 2)))]) (π := [17]) (co := [0, 1, 2, 3, 4, 5, 6, 7, 8, 9, 10, 11, 12, 13, 14, 15, 16]) (cv := [t1.2.1, m1, t1.2.2, m3, m4, m5, m6, m7, m8, m9, m10, m11, m12, m13, m14, m15, m16]) (nn := 18) (hs2 := fun t2 => [t1.2.1, m1, t1.2.2, m3, m4, m5, m6, m7, m8, m9, m10, m11, m12, m13, m14, m15, m16, t2.2]) (st2 := fun t2 => [.int t2.1, .int t1.1]) (n := 935) (b := 1088) xc_L_133 (fun l t ht => met_X7_two l m17 (sc (ix (v3 + 1))) (sc (ix (v3 + 2))) t ht) rfl rfl rfl rfl rfl dL_law_932 (Nat.le_of_ble_eq_true rfl) ⟨Nat.le_refl _, Nat.le_refl _⟩ (Nat.le_of_ble_eq_true rfl) (Nat.le_of_ble_eq_true rfl) ok_42 rfl rfl rfl (fun _ => rfl) (fun _ => rfl) (fun _ => rfl) rfl (fun _ => rfl) rfl (fun t2 => ?_)
  refine XE_icmp_eq (t := 1252) (n := 938) dL_law_935 rfl rfl (fun _ => ?_) (fun _ => XE_none)
  exact law_next B nm hK v3 t1.2.1 m1 t1.2.2 m3 m4 m5 m6 m7 m8 m9 m10 m11 m12 m13 m14 m15 m16 t2.2
set_option maxRecDepth 100000 in
theorem law_C29 {K : Int32 → Mem → Mem → Mem → Mem → Mem → Mem → Mem → Mem → Mem → Mem → Mem → Mem → Mem → Mem → Mem → Mem → Mem → Mem → Option Unit} (B : XB) (nm : String) {L : Nat} {sc : Nat → Int32} (hSc : XSc B L sc) (hK : ∀ (v3 : Int32) (m0 : Mem) (m1 : Mem) (m2 : Mem) (m3 : Mem) (m4 : Mem) (m5 : Mem) (m6 : Mem) (m7 : Mem) (m8 : Mem) (m9 : Mem) (m10 : Mem) (m11 : Mem) (m12 : Mem) (m13 : Mem) (m14 : Mem) (m15 : Mem) (m16 : Mem) (m17 : Mem), XE B (M_law nm) (fun _ : Unit => XZ B) 18 [(0, some (.ref 4095)), (1, some (.ref 0)), (2, some (.ref 1088)), (3, some (.int v3))] [] (143, 2120) SH_XM [m0, m1, m2, m3, m4, m5, m6, m7, m8, m9, m10, m11, m12, m13, m14, m15, m16, m17] (fun t : Unit => some t) (K v3 m0 m1 m2 m3 m4 m5 m6 m7 m8 m9 m10 m11 m12 m13 m14 m15 m16 m17)) (v3 : Int32) (m0 : Mem) (m1 : Mem) (m2 : Mem) (m3 : Mem) (m4 : Mem) (m5 : Mem) (m6 : Mem) (m7 : Mem) (m8 : Mem) (m9 : Mem) (m10 : Mem) (m11 : Mem) (m12 : Mem) (m13 : Mem) (m14 : Mem) (m15 : Mem) (m16 : Mem) (m17 : Mem) : XE B (M_law nm) (fun _ : Unit => XZ B) 940 [(0, some (.ref 4095)), (1, some (.ref 0)), (2, some (.ref 1088)), (3, some (.int v3))] [] (143, 2120) SH_XM [m0, m1, m2, m3, m4, m5, m6, m7, m8, m9, m10, m11, m12, m13, m14, m15, m16, m17] (fun t : Unit => some t) (f_law_C29 K L sc v3 m0 m1 m2 m3 m4 m5 m6 m7 m8 m9 m10 m11 m12 m13 m14 m15 m16 m17) := by
  unfold f_law_C29
  refine XE_aload_n (n := 941) dL_law_940 rfl rfl rfl ?_
  refine XE_aload_n (n := 942) dL_law_941 rfl rfl rfl ?_
  refine XE_iload_n (n := 943) dL_law_942 rfl rfl rfl ?_
  refine XE_iconst (v := 1) (n := 944) dL_law_943 rfl (by decide) ?_
  refine XE_iadd (n := 945) dL_law_944 rfl ?_
  refine XE_sld (n := 946) hSc rfl dL_law_945 rfl ?_
  refine XE_aload_n (n := 947) dL_law_946 rfl rfl rfl ?_
  refine XE_iload_n (n := 948) dL_law_947 rfl rfl rfl ?_
  refine XE_iconst (v := 2) (n := 949) dL_law_948 rfl (by decide) ?_
  refine XE_iadd (n := 950) dL_law_949 rfl ?_
  refine XE_sld (n := 951) hSc rfl dL_law_950 rfl ?_
  refine XE_callV (ni := 2) (As := [.int (sc (ix (v3 + 1))), .int (sc (ix (v3 + 2)))]) (π := [0, 1, 2, 3, 4, 5, 6, 7, 8, 9, 10, 11, 12, 13, 14, 15, 16]) (co := [17]) (cv := [m17]) (nn := 18) (hs2 := fun t1 => [t1.2.1, m1, t1.2.2, m3, m4, m5, m6, m7, m8, m9, m10, m11, m12, m13, m14, m15, m16, m17]) (st2 := fun t1 => [.int t1.1]) (n := 954) (b := 0) xc_L_134 (fun l t ht => met_X6_whatWas l m0 m1 m2 m3 m4 m5 m6 m7 m8 m9 m10 m11 m12 m13 m14 m15 m16 (sc (ix (v3 + 1))) (sc (ix (v3 + 2))) t ht) rfl rfl rfl rfl rfl dL_law_951 (Nat.le_of_ble_eq_true rfl) ⟨Nat.le_refl _, Nat.le_refl _⟩ (Nat.le_of_ble_eq_true rfl) (Nat.le_of_ble_eq_true rfl) ok_41 rfl rfl rfl (fun _ => rfl) (fun _ => rfl) (fun _ => rfl) rfl (fun _ => rfl) rfl (fun t1 => ?_)
  refine XE_aload_n (n := 955) dL_law_954 rfl rfl rfl ?_
  refine XE_aload_n (n := 956) dL_law_955 rfl rfl rfl ?_
  refine XE_iload_n (n := 957) dL_law_956 rfl rfl rfl ?_
  refine XE_iconst (v := 1) (n := 958) dL_law_957 rfl (by decide) ?_
  refine XE_iadd (n := 959) dL_law_958 rfl ?_
  refine XE_sld (n := 960) hSc rfl dL_law_959 rfl ?_
  refine XE_aload_n (n := 961) dL_law_960 rfl rfl rfl ?_
  refine XE_iload_n (n := 962) dL_law_961 rfl rfl rfl ?_
  refine XE_iconst (v := 2) (n := 963) dL_law_962 rfl (by decide) ?_
  refine XE_iadd (n := 964) dL_law_963 rfl ?_
  refine XE_sld (n := 965) hSc rfl dL_law_964 rfl ?_
  refine XE_callV (ni := 2) (As := [.int (sc (ix (v3 + 1))), .int (sc (ix (v3 + 2)))]) (π := [17]) (co := [0, 1, 2, 3, 4, 5, 6, 7, 8, 9, 10, 11, 12, 13, 14, 15, 16]) (cv := [t1.2.1, m1, t1.2.2, m3, m4, m5, m6, m7, m8, m9, m10, m11, m12, m13, m14, m15, m16]) (nn := 18) (hs2 := fun t2 => [t1.2.1, m1, t1.2.2, m3, m4, m5, m6, m7, m8, m9, m10, m11, m12, m13, m14, m15, m16, t2.2]) (st2 := fun t2 => [.int t2.1, .int t1.1]) (n := 968) (b := 1088) xc_L_137 (fun l t ht => met_X7_whatWas l m17 (sc (ix (v3 + 1))) (sc (ix (v3 + 2))) t ht) rfl rfl rfl rfl rfl dL_law_965 (Nat.le_of_ble_eq_true rfl) ⟨Nat.le_refl _, Nat.le_refl _⟩ (Nat.le_of_ble_eq_true rfl) (Nat.le_of_ble_eq_true rfl) ok_42 rfl rfl rfl (fun _ => rfl) (fun _ => rfl) (fun _ => rfl) rfl (fun _ => rfl) rfl (fun t2 => ?_)
  refine XE_icmp_eq (t := 1252) (n := 971) dL_law_968 rfl rfl (fun _ => ?_) (fun _ => XE_none)
  exact law_next B nm hK v3 t1.2.1 m1 t1.2.2 m3 m4 m5 m6 m7 m8 m9 m10 m11 m12 m13 m14 m15 m16 t2.2
set_option maxRecDepth 100000 in
theorem law_C30 {K : Int32 → Mem → Mem → Mem → Mem → Mem → Mem → Mem → Mem → Mem → Mem → Mem → Mem → Mem → Mem → Mem → Mem → Mem → Mem → Option Unit} (B : XB) (nm : String) {L : Nat} {sc : Nat → Int32} (hSc : XSc B L sc) (hK : ∀ (v3 : Int32) (m0 : Mem) (m1 : Mem) (m2 : Mem) (m3 : Mem) (m4 : Mem) (m5 : Mem) (m6 : Mem) (m7 : Mem) (m8 : Mem) (m9 : Mem) (m10 : Mem) (m11 : Mem) (m12 : Mem) (m13 : Mem) (m14 : Mem) (m15 : Mem) (m16 : Mem) (m17 : Mem), XE B (M_law nm) (fun _ : Unit => XZ B) 18 [(0, some (.ref 4095)), (1, some (.ref 0)), (2, some (.ref 1088)), (3, some (.int v3))] [] (143, 2120) SH_XM [m0, m1, m2, m3, m4, m5, m6, m7, m8, m9, m10, m11, m12, m13, m14, m15, m16, m17] (fun t : Unit => some t) (K v3 m0 m1 m2 m3 m4 m5 m6 m7 m8 m9 m10 m11 m12 m13 m14 m15 m16 m17)) (v3 : Int32) (m0 : Mem) (m1 : Mem) (m2 : Mem) (m3 : Mem) (m4 : Mem) (m5 : Mem) (m6 : Mem) (m7 : Mem) (m8 : Mem) (m9 : Mem) (m10 : Mem) (m11 : Mem) (m12 : Mem) (m13 : Mem) (m14 : Mem) (m15 : Mem) (m16 : Mem) (m17 : Mem) : XE B (M_law nm) (fun _ : Unit => XZ B) 973 [(0, some (.ref 4095)), (1, some (.ref 0)), (2, some (.ref 1088)), (3, some (.int v3))] [] (143, 2120) SH_XM [m0, m1, m2, m3, m4, m5, m6, m7, m8, m9, m10, m11, m12, m13, m14, m15, m16, m17] (fun t : Unit => some t) (f_law_C30 K L sc v3 m0 m1 m2 m3 m4 m5 m6 m7 m8 m9 m10 m11 m12 m13 m14 m15 m16 m17) := by
  unfold f_law_C30
  refine XE_aload_n (n := 974) dL_law_973 rfl rfl rfl ?_
  refine XE_aload_n (n := 975) dL_law_974 rfl rfl rfl ?_
  refine XE_iload_n (n := 976) dL_law_975 rfl rfl rfl ?_
  refine XE_iconst (v := 1) (n := 977) dL_law_976 rfl (by decide) ?_
  refine XE_iadd (n := 978) dL_law_977 rfl ?_
  refine XE_sld (n := 979) hSc rfl dL_law_978 rfl ?_
  refine XE_callV (ni := 1) (As := [.int (sc (ix (v3 + 1)))]) (π := [0, 1, 2, 3, 4, 5, 6, 7, 8, 9, 10, 11, 12, 13, 14, 15, 16]) (co := [17]) (cv := [m17]) (nn := 18) (hs2 := fun t1 => [t1.2, m1, m2, m3, m4, m5, m6, m7, m8, m9, m10, m11, m12, m13, m14, m15, m16, m17]) (st2 := fun t1 => [.int t1.1]) (n := 982) (b := 0) xc_L_138 (fun l t ht => met_X6_longest l m0 m1 m2 m3 m4 m5 m6 m7 m8 m9 m10 m11 m12 m13 m14 m15 m16 (sc (ix (v3 + 1))) t ht) rfl rfl rfl rfl rfl dL_law_979 (Nat.le_of_ble_eq_true rfl) ⟨Nat.le_refl _, Nat.le_refl _⟩ (Nat.le_of_ble_eq_true rfl) (Nat.le_of_ble_eq_true rfl) ok_41 rfl rfl rfl (fun _ => rfl) (fun _ => rfl) (fun _ => rfl) rfl (fun _ => rfl) rfl (fun t1 => ?_)
  refine XE_aload_n (n := 983) dL_law_982 rfl rfl rfl ?_
  refine XE_aload_n (n := 984) dL_law_983 rfl rfl rfl ?_
  refine XE_iload_n (n := 985) dL_law_984 rfl rfl rfl ?_
  refine XE_iconst (v := 1) (n := 986) dL_law_985 rfl (by decide) ?_
  refine XE_iadd (n := 987) dL_law_986 rfl ?_
  refine XE_sld (n := 988) hSc rfl dL_law_987 rfl ?_
  refine XE_callV (ni := 1) (As := [.int (sc (ix (v3 + 1)))]) (π := [17]) (co := [0, 1, 2, 3, 4, 5, 6, 7, 8, 9, 10, 11, 12, 13, 14, 15, 16]) (cv := [t1.2, m1, m2, m3, m4, m5, m6, m7, m8, m9, m10, m11, m12, m13, m14, m15, m16]) (nn := 18) (hs2 := fun t2 => [t1.2, m1, m2, m3, m4, m5, m6, m7, m8, m9, m10, m11, m12, m13, m14, m15, m16, t2.2]) (st2 := fun t2 => [.int t2.1, .int t1.1]) (n := 991) (b := 1088) xc_L_141 (fun l t ht => met_X7_longest l m17 (sc (ix (v3 + 1))) t ht) rfl rfl rfl rfl rfl dL_law_988 (Nat.le_of_ble_eq_true rfl) ⟨Nat.le_refl _, Nat.le_refl _⟩ (Nat.le_of_ble_eq_true rfl) (Nat.le_of_ble_eq_true rfl) ok_42 rfl rfl rfl (fun _ => rfl) (fun _ => rfl) (fun _ => rfl) rfl (fun _ => rfl) rfl (fun t2 => ?_)
  refine XE_icmp_eq (t := 1252) (n := 994) dL_law_991 rfl rfl (fun _ => ?_) (fun _ => XE_none)
  exact law_next B nm hK v3 t1.2 m1 m2 m3 m4 m5 m6 m7 m8 m9 m10 m11 m12 m13 m14 m15 m16 t2.2
set_option maxRecDepth 100000 in
theorem law_C31 {K : Int32 → Mem → Mem → Mem → Mem → Mem → Mem → Mem → Mem → Mem → Mem → Mem → Mem → Mem → Mem → Mem → Mem → Mem → Mem → Option Unit} (B : XB) (nm : String) {L : Nat} {sc : Nat → Int32} (hSc : XSc B L sc) (hK : ∀ (v3 : Int32) (m0 : Mem) (m1 : Mem) (m2 : Mem) (m3 : Mem) (m4 : Mem) (m5 : Mem) (m6 : Mem) (m7 : Mem) (m8 : Mem) (m9 : Mem) (m10 : Mem) (m11 : Mem) (m12 : Mem) (m13 : Mem) (m14 : Mem) (m15 : Mem) (m16 : Mem) (m17 : Mem), XE B (M_law nm) (fun _ : Unit => XZ B) 18 [(0, some (.ref 4095)), (1, some (.ref 0)), (2, some (.ref 1088)), (3, some (.int v3))] [] (143, 2120) SH_XM [m0, m1, m2, m3, m4, m5, m6, m7, m8, m9, m10, m11, m12, m13, m14, m15, m16, m17] (fun t : Unit => some t) (K v3 m0 m1 m2 m3 m4 m5 m6 m7 m8 m9 m10 m11 m12 m13 m14 m15 m16 m17)) (v3 : Int32) (m0 : Mem) (m1 : Mem) (m2 : Mem) (m3 : Mem) (m4 : Mem) (m5 : Mem) (m6 : Mem) (m7 : Mem) (m8 : Mem) (m9 : Mem) (m10 : Mem) (m11 : Mem) (m12 : Mem) (m13 : Mem) (m14 : Mem) (m15 : Mem) (m16 : Mem) (m17 : Mem) : XE B (M_law nm) (fun _ : Unit => XZ B) 996 [(0, some (.ref 4095)), (1, some (.ref 0)), (2, some (.ref 1088)), (3, some (.int v3))] [] (143, 2120) SH_XM [m0, m1, m2, m3, m4, m5, m6, m7, m8, m9, m10, m11, m12, m13, m14, m15, m16, m17] (fun t : Unit => some t) (f_law_C31 K L sc v3 m0 m1 m2 m3 m4 m5 m6 m7 m8 m9 m10 m11 m12 m13 m14 m15 m16 m17) := by
  unfold f_law_C31
  refine XE_aload_n (n := 997) dL_law_996 rfl rfl rfl ?_
  refine XE_aload_n (n := 998) dL_law_997 rfl rfl rfl ?_
  refine XE_iload_n (n := 999) dL_law_998 rfl rfl rfl ?_
  refine XE_iconst (v := 1) (n := 1000) dL_law_999 rfl (by decide) ?_
  refine XE_iadd (n := 1001) dL_law_1000 rfl ?_
  refine XE_sld (n := 1002) hSc rfl dL_law_1001 rfl ?_
  refine XE_callV (ni := 1) (As := [.int (sc (ix (v3 + 1)))]) (π := [0, 1, 2, 3, 4, 5, 6, 7, 8, 9, 10, 11, 12, 13, 14, 15, 16]) (co := [17]) (cv := [m17]) (nn := 18) (hs2 := fun t1 => [t1.2.1, m1, t1.2.2, m3, m4, m5, m6, m7, m8, m9, m10, m11, m12, m13, m14, m15, m16, m17]) (st2 := fun t1 => [.long t1.1]) (n := 1005) (b := 0) xc_L_142 (fun l t ht => met_X6_mean l m0 m1 m2 m3 m4 m5 m6 m7 m8 m9 m10 m11 m12 m13 m14 m15 m16 (sc (ix (v3 + 1))) t ht) rfl rfl rfl rfl rfl dL_law_1002 (Nat.le_of_ble_eq_true rfl) ⟨Nat.le_refl _, Nat.le_refl _⟩ (Nat.le_of_ble_eq_true rfl) (Nat.le_of_ble_eq_true rfl) ok_41 rfl rfl rfl (fun _ => rfl) (fun _ => rfl) (fun _ => rfl) rfl (fun _ => rfl) rfl (fun t1 => ?_)
  refine XE_aload_n (n := 1006) dL_law_1005 rfl rfl rfl ?_
  refine XE_aload_n (n := 1007) dL_law_1006 rfl rfl rfl ?_
  refine XE_iload_n (n := 1008) dL_law_1007 rfl rfl rfl ?_
  refine XE_iconst (v := 1) (n := 1009) dL_law_1008 rfl (by decide) ?_
  refine XE_iadd (n := 1010) dL_law_1009 rfl ?_
  refine XE_sld (n := 1011) hSc rfl dL_law_1010 rfl ?_
  refine XE_callV (ni := 1) (As := [.int (sc (ix (v3 + 1)))]) (π := [17]) (co := [0, 1, 2, 3, 4, 5, 6, 7, 8, 9, 10, 11, 12, 13, 14, 15, 16]) (cv := [t1.2.1, m1, t1.2.2, m3, m4, m5, m6, m7, m8, m9, m10, m11, m12, m13, m14, m15, m16]) (nn := 18) (hs2 := fun t2 => [t1.2.1, m1, t1.2.2, m3, m4, m5, m6, m7, m8, m9, m10, m11, m12, m13, m14, m15, m16, t2.2]) (st2 := fun t2 => [.long t2.1, .long t1.1]) (n := 1014) (b := 1088) xc_L_146 (fun l t ht => met_X7_mean l m17 (sc (ix (v3 + 1))) t ht) rfl rfl rfl rfl rfl dL_law_1011 (Nat.le_of_ble_eq_true rfl) ⟨Nat.le_refl _, Nat.le_refl _⟩ (Nat.le_of_ble_eq_true rfl) (Nat.le_of_ble_eq_true rfl) ok_42 rfl rfl rfl (fun _ => rfl) (fun _ => rfl) (fun _ => rfl) rfl (fun _ => rfl) rfl (fun t2 => ?_)
  refine XE_lcmp (n := 1015) dL_law_1014 rfl ?_
  refine XE_if_eq (t := 1252) (n := 1018) dL_law_1015 rfl rfl (fun _ => ?_) (fun _ => XE_none)
  exact law_next B nm hK v3 t1.2.1 m1 t1.2.2 m3 m4 m5 m6 m7 m8 m9 m10 m11 m12 m13 m14 m15 m16 t2.2
set_option maxRecDepth 100000 in
theorem law_C32 {K : Int32 → Mem → Mem → Mem → Mem → Mem → Mem → Mem → Mem → Mem → Mem → Mem → Mem → Mem → Mem → Mem → Mem → Mem → Mem → Option Unit} (B : XB) (nm : String) {L : Nat} {sc : Nat → Int32} (hSc : XSc B L sc) (hK : ∀ (v3 : Int32) (m0 : Mem) (m1 : Mem) (m2 : Mem) (m3 : Mem) (m4 : Mem) (m5 : Mem) (m6 : Mem) (m7 : Mem) (m8 : Mem) (m9 : Mem) (m10 : Mem) (m11 : Mem) (m12 : Mem) (m13 : Mem) (m14 : Mem) (m15 : Mem) (m16 : Mem) (m17 : Mem), XE B (M_law nm) (fun _ : Unit => XZ B) 18 [(0, some (.ref 4095)), (1, some (.ref 0)), (2, some (.ref 1088)), (3, some (.int v3))] [] (143, 2120) SH_XM [m0, m1, m2, m3, m4, m5, m6, m7, m8, m9, m10, m11, m12, m13, m14, m15, m16, m17] (fun t : Unit => some t) (K v3 m0 m1 m2 m3 m4 m5 m6 m7 m8 m9 m10 m11 m12 m13 m14 m15 m16 m17)) (v3 : Int32) (m0 : Mem) (m1 : Mem) (m2 : Mem) (m3 : Mem) (m4 : Mem) (m5 : Mem) (m6 : Mem) (m7 : Mem) (m8 : Mem) (m9 : Mem) (m10 : Mem) (m11 : Mem) (m12 : Mem) (m13 : Mem) (m14 : Mem) (m15 : Mem) (m16 : Mem) (m17 : Mem) : XE B (M_law nm) (fun _ : Unit => XZ B) 1020 [(0, some (.ref 4095)), (1, some (.ref 0)), (2, some (.ref 1088)), (3, some (.int v3))] [] (143, 2120) SH_XM [m0, m1, m2, m3, m4, m5, m6, m7, m8, m9, m10, m11, m12, m13, m14, m15, m16, m17] (fun t : Unit => some t) (f_law_C32 K L sc v3 m0 m1 m2 m3 m4 m5 m6 m7 m8 m9 m10 m11 m12 m13 m14 m15 m16 m17) := by
  unfold f_law_C32
  refine XE_aload_n (n := 1021) dL_law_1020 rfl rfl rfl ?_
  refine XE_callV (ni := 0) (As := []) (π := [0, 1, 2, 3, 4, 5, 6, 7, 8, 9, 10, 11, 12, 13, 14, 15, 16]) (co := [17]) (cv := [m17]) (nn := 18) (hs2 := fun t1 => [m0, m1, t1.2, m3, m4, m5, m6, m7, m8, m9, m10, m11, m12, m13, m14, m15, m16, m17]) (st2 := fun t1 => [.int t1.1]) (n := 1024) (b := 0) xc_L_147 (fun l t ht => met_X6_early l m0 m1 m2 m3 m4 m5 m6 m7 m8 m9 m10 m11 m12 m13 m14 m15 m16 t ht) rfl rfl rfl rfl rfl dL_law_1021 (Nat.le_of_ble_eq_true rfl) ⟨Nat.le_refl _, Nat.le_refl _⟩ (Nat.le_of_ble_eq_true rfl) (Nat.le_of_ble_eq_true rfl) ok_41 rfl rfl rfl (fun _ => rfl) (fun _ => rfl) (fun _ => rfl) rfl (fun _ => rfl) rfl (fun t1 => ?_)
  refine XE_aload_n (n := 1025) dL_law_1024 rfl rfl rfl ?_
  refine XE_callV (ni := 0) (As := []) (π := [17]) (co := [0, 1, 2, 3, 4, 5, 6, 7, 8, 9, 10, 11, 12, 13, 14, 15, 16]) (cv := [m0, m1, t1.2, m3, m4, m5, m6, m7, m8, m9, m10, m11, m12, m13, m14, m15, m16]) (nn := 18) (hs2 := fun t2 => [m0, m1, t1.2, m3, m4, m5, m6, m7, m8, m9, m10, m11, m12, m13, m14, m15, m16, t2.2]) (st2 := fun t2 => [.int t2.1, .int t1.1]) (n := 1028) (b := 1088) xc_L_150 (fun l t ht => met_X7_early l m17 t ht) rfl rfl rfl rfl rfl dL_law_1025 (Nat.le_of_ble_eq_true rfl) ⟨Nat.le_refl _, Nat.le_refl _⟩ (Nat.le_of_ble_eq_true rfl) (Nat.le_of_ble_eq_true rfl) ok_42 rfl rfl rfl (fun _ => rfl) (fun _ => rfl) (fun _ => rfl) rfl (fun _ => rfl) rfl (fun t2 => ?_)
  refine XE_icmp_eq (t := 1252) (n := 1031) dL_law_1028 rfl rfl (fun _ => ?_) (fun _ => XE_none)
  exact law_next B nm hK v3 m0 m1 t1.2 m3 m4 m5 m6 m7 m8 m9 m10 m11 m12 m13 m14 m15 m16 t2.2
set_option maxRecDepth 100000 in
theorem law_C33 {K : Int32 → Mem → Mem → Mem → Mem → Mem → Mem → Mem → Mem → Mem → Mem → Mem → Mem → Mem → Mem → Mem → Mem → Mem → Mem → Option Unit} (B : XB) (nm : String) {L : Nat} {sc : Nat → Int32} (hSc : XSc B L sc) (hK : ∀ (v3 : Int32) (m0 : Mem) (m1 : Mem) (m2 : Mem) (m3 : Mem) (m4 : Mem) (m5 : Mem) (m6 : Mem) (m7 : Mem) (m8 : Mem) (m9 : Mem) (m10 : Mem) (m11 : Mem) (m12 : Mem) (m13 : Mem) (m14 : Mem) (m15 : Mem) (m16 : Mem) (m17 : Mem), XE B (M_law nm) (fun _ : Unit => XZ B) 18 [(0, some (.ref 4095)), (1, some (.ref 0)), (2, some (.ref 1088)), (3, some (.int v3))] [] (143, 2120) SH_XM [m0, m1, m2, m3, m4, m5, m6, m7, m8, m9, m10, m11, m12, m13, m14, m15, m16, m17] (fun t : Unit => some t) (K v3 m0 m1 m2 m3 m4 m5 m6 m7 m8 m9 m10 m11 m12 m13 m14 m15 m16 m17)) (v3 : Int32) (m0 : Mem) (m1 : Mem) (m2 : Mem) (m3 : Mem) (m4 : Mem) (m5 : Mem) (m6 : Mem) (m7 : Mem) (m8 : Mem) (m9 : Mem) (m10 : Mem) (m11 : Mem) (m12 : Mem) (m13 : Mem) (m14 : Mem) (m15 : Mem) (m16 : Mem) (m17 : Mem) : XE B (M_law nm) (fun _ : Unit => XZ B) 1033 [(0, some (.ref 4095)), (1, some (.ref 0)), (2, some (.ref 1088)), (3, some (.int v3))] [] (143, 2120) SH_XM [m0, m1, m2, m3, m4, m5, m6, m7, m8, m9, m10, m11, m12, m13, m14, m15, m16, m17] (fun t : Unit => some t) (f_law_C33 K L sc v3 m0 m1 m2 m3 m4 m5 m6 m7 m8 m9 m10 m11 m12 m13 m14 m15 m16 m17) := by
  unfold f_law_C33
  refine XE_aload_n (n := 1034) dL_law_1033 rfl rfl rfl ?_
  refine XE_callV (ni := 0) (As := []) (π := [0, 1, 2, 3, 4, 5, 6, 7, 8, 9, 10, 11, 12, 13, 14, 15, 16]) (co := [17]) (cv := [m17]) (nn := 18) (hs2 := fun t1 => [m0, m1, t1.2, m3, m4, m5, m6, m7, m8, m9, m10, m11, m12, m13, m14, m15, m16, m17]) (st2 := fun t1 => [.int t1.1]) (n := 1037) (b := 0) xc_L_151 (fun l t ht => met_X6_worst l m0 m1 m2 m3 m4 m5 m6 m7 m8 m9 m10 m11 m12 m13 m14 m15 m16 t ht) rfl rfl rfl rfl rfl dL_law_1034 (Nat.le_of_ble_eq_true rfl) ⟨Nat.le_refl _, Nat.le_refl _⟩ (Nat.le_of_ble_eq_true rfl) (Nat.le_of_ble_eq_true rfl) ok_41 rfl rfl rfl (fun _ => rfl) (fun _ => rfl) (fun _ => rfl) rfl (fun _ => rfl) rfl (fun t1 => ?_)
  refine XE_aload_n (n := 1038) dL_law_1037 rfl rfl rfl ?_
  refine XE_callV (ni := 0) (As := []) (π := [17]) (co := [0, 1, 2, 3, 4, 5, 6, 7, 8, 9, 10, 11, 12, 13, 14, 15, 16]) (cv := [m0, m1, t1.2, m3, m4, m5, m6, m7, m8, m9, m10, m11, m12, m13, m14, m15, m16]) (nn := 18) (hs2 := fun t2 => [m0, m1, t1.2, m3, m4, m5, m6, m7, m8, m9, m10, m11, m12, m13, m14, m15, m16, t2.2]) (st2 := fun t2 => [.int t2.1, .int t1.1]) (n := 1041) (b := 1088) xc_L_154 (fun l t ht => met_X7_worst l m17 t ht) rfl rfl rfl rfl rfl dL_law_1038 (Nat.le_of_ble_eq_true rfl) ⟨Nat.le_refl _, Nat.le_refl _⟩ (Nat.le_of_ble_eq_true rfl) (Nat.le_of_ble_eq_true rfl) ok_42 rfl rfl rfl (fun _ => rfl) (fun _ => rfl) (fun _ => rfl) rfl (fun _ => rfl) rfl (fun t2 => ?_)
  refine XE_icmp_eq (t := 1252) (n := 1044) dL_law_1041 rfl rfl (fun _ => ?_) (fun _ => XE_none)
  exact law_next B nm hK v3 m0 m1 t1.2 m3 m4 m5 m6 m7 m8 m9 m10 m11 m12 m13 m14 m15 m16 t2.2
set_option maxRecDepth 100000 in
theorem law_C34 {K : Int32 → Mem → Mem → Mem → Mem → Mem → Mem → Mem → Mem → Mem → Mem → Mem → Mem → Mem → Mem → Mem → Mem → Mem → Mem → Option Unit} (B : XB) (nm : String) {L : Nat} {sc : Nat → Int32} (hSc : XSc B L sc) (hK : ∀ (v3 : Int32) (m0 : Mem) (m1 : Mem) (m2 : Mem) (m3 : Mem) (m4 : Mem) (m5 : Mem) (m6 : Mem) (m7 : Mem) (m8 : Mem) (m9 : Mem) (m10 : Mem) (m11 : Mem) (m12 : Mem) (m13 : Mem) (m14 : Mem) (m15 : Mem) (m16 : Mem) (m17 : Mem), XE B (M_law nm) (fun _ : Unit => XZ B) 18 [(0, some (.ref 4095)), (1, some (.ref 0)), (2, some (.ref 1088)), (3, some (.int v3))] [] (143, 2120) SH_XM [m0, m1, m2, m3, m4, m5, m6, m7, m8, m9, m10, m11, m12, m13, m14, m15, m16, m17] (fun t : Unit => some t) (K v3 m0 m1 m2 m3 m4 m5 m6 m7 m8 m9 m10 m11 m12 m13 m14 m15 m16 m17)) (v3 : Int32) (m0 : Mem) (m1 : Mem) (m2 : Mem) (m3 : Mem) (m4 : Mem) (m5 : Mem) (m6 : Mem) (m7 : Mem) (m8 : Mem) (m9 : Mem) (m10 : Mem) (m11 : Mem) (m12 : Mem) (m13 : Mem) (m14 : Mem) (m15 : Mem) (m16 : Mem) (m17 : Mem) : XE B (M_law nm) (fun _ : Unit => XZ B) 1046 [(0, some (.ref 4095)), (1, some (.ref 0)), (2, some (.ref 1088)), (3, some (.int v3))] [] (143, 2120) SH_XM [m0, m1, m2, m3, m4, m5, m6, m7, m8, m9, m10, m11, m12, m13, m14, m15, m16, m17] (fun t : Unit => some t) (f_law_C34 K L sc v3 m0 m1 m2 m3 m4 m5 m6 m7 m8 m9 m10 m11 m12 m13 m14 m15 m16 m17) := by
  unfold f_law_C34
  refine XE_aload_n (n := 1047) dL_law_1046 rfl rfl rfl ?_
  refine XE_callV (ni := 0) (As := []) (π := [0, 1, 2, 3, 4, 5, 6, 7, 8, 9, 10, 11, 12, 13, 14, 15, 16]) (co := [17]) (cv := [m17]) (nn := 18) (hs2 := fun t1 => [m0, m1, t1.2, m3, m4, m5, m6, m7, m8, m9, m10, m11, m12, m13, m14, m15, m16, m17]) (st2 := fun t1 => [.int t1.1]) (n := 1050) (b := 0) xc_L_155 (fun l t ht => met_X6_idle l m0 m1 m2 m3 m4 m5 m6 m7 m8 m9 m10 m11 m12 m13 m14 m15 m16 t ht) rfl rfl rfl rfl rfl dL_law_1047 (Nat.le_of_ble_eq_true rfl) ⟨Nat.le_refl _, Nat.le_refl _⟩ (Nat.le_of_ble_eq_true rfl) (Nat.le_of_ble_eq_true rfl) ok_41 rfl rfl rfl (fun _ => rfl) (fun _ => rfl) (fun _ => rfl) rfl (fun _ => rfl) rfl (fun t1 => ?_)
  refine XE_aload_n (n := 1051) dL_law_1050 rfl rfl rfl ?_
  refine XE_callV (ni := 0) (As := []) (π := [17]) (co := [0, 1, 2, 3, 4, 5, 6, 7, 8, 9, 10, 11, 12, 13, 14, 15, 16]) (cv := [m0, m1, t1.2, m3, m4, m5, m6, m7, m8, m9, m10, m11, m12, m13, m14, m15, m16]) (nn := 18) (hs2 := fun t2 => [m0, m1, t1.2, m3, m4, m5, m6, m7, m8, m9, m10, m11, m12, m13, m14, m15, m16, t2.2]) (st2 := fun t2 => [.int t2.1, .int t1.1]) (n := 1054) (b := 1088) xc_L_158 (fun l t ht => met_X7_idle l m17 t ht) rfl rfl rfl rfl rfl dL_law_1051 (Nat.le_of_ble_eq_true rfl) ⟨Nat.le_refl _, Nat.le_refl _⟩ (Nat.le_of_ble_eq_true rfl) (Nat.le_of_ble_eq_true rfl) ok_42 rfl rfl rfl (fun _ => rfl) (fun _ => rfl) (fun _ => rfl) rfl (fun _ => rfl) rfl (fun t2 => ?_)
  refine XE_icmp_eq (t := 1252) (n := 1057) dL_law_1054 rfl rfl (fun _ => ?_) (fun _ => XE_none)
  exact law_next B nm hK v3 m0 m1 t1.2 m3 m4 m5 m6 m7 m8 m9 m10 m11 m12 m13 m14 m15 m16 t2.2
set_option maxRecDepth 100000 in
theorem law_C35 {K : Int32 → Mem → Mem → Mem → Mem → Mem → Mem → Mem → Mem → Mem → Mem → Mem → Mem → Mem → Mem → Mem → Mem → Mem → Mem → Option Unit} (B : XB) (nm : String) {L : Nat} {sc : Nat → Int32} (hSc : XSc B L sc) (hK : ∀ (v3 : Int32) (m0 : Mem) (m1 : Mem) (m2 : Mem) (m3 : Mem) (m4 : Mem) (m5 : Mem) (m6 : Mem) (m7 : Mem) (m8 : Mem) (m9 : Mem) (m10 : Mem) (m11 : Mem) (m12 : Mem) (m13 : Mem) (m14 : Mem) (m15 : Mem) (m16 : Mem) (m17 : Mem), XE B (M_law nm) (fun _ : Unit => XZ B) 18 [(0, some (.ref 4095)), (1, some (.ref 0)), (2, some (.ref 1088)), (3, some (.int v3))] [] (143, 2120) SH_XM [m0, m1, m2, m3, m4, m5, m6, m7, m8, m9, m10, m11, m12, m13, m14, m15, m16, m17] (fun t : Unit => some t) (K v3 m0 m1 m2 m3 m4 m5 m6 m7 m8 m9 m10 m11 m12 m13 m14 m15 m16 m17)) (v3 : Int32) (m0 : Mem) (m1 : Mem) (m2 : Mem) (m3 : Mem) (m4 : Mem) (m5 : Mem) (m6 : Mem) (m7 : Mem) (m8 : Mem) (m9 : Mem) (m10 : Mem) (m11 : Mem) (m12 : Mem) (m13 : Mem) (m14 : Mem) (m15 : Mem) (m16 : Mem) (m17 : Mem) : XE B (M_law nm) (fun _ : Unit => XZ B) 1059 [(0, some (.ref 4095)), (1, some (.ref 0)), (2, some (.ref 1088)), (3, some (.int v3))] [] (143, 2120) SH_XM [m0, m1, m2, m3, m4, m5, m6, m7, m8, m9, m10, m11, m12, m13, m14, m15, m16, m17] (fun t : Unit => some t) (f_law_C35 K L sc v3 m0 m1 m2 m3 m4 m5 m6 m7 m8 m9 m10 m11 m12 m13 m14 m15 m16 m17) := by
  unfold f_law_C35
  refine XE_aload_n (n := 1060) dL_law_1059 rfl rfl rfl ?_
  refine XE_callV (ni := 0) (As := []) (π := [0, 1, 2, 3, 4, 5, 6, 7, 8, 9, 10, 11, 12, 13, 14, 15, 16]) (co := [17]) (cv := [m17]) (nn := 18) (hs2 := fun t1 => [m0, m1, t1.2, m3, m4, m5, m6, m7, m8, m9, m10, m11, m12, m13, m14, m15, m16, m17]) (st2 := fun t1 => [.int t1.1]) (n := 1063) (b := 0) xc_L_159 (fun l t ht => met_X6_span l m0 m1 m2 m3 m4 m5 m6 m7 m8 m9 m10 m11 m12 m13 m14 m15 m16 t ht) rfl rfl rfl rfl rfl dL_law_1060 (Nat.le_of_ble_eq_true rfl) ⟨Nat.le_refl _, Nat.le_refl _⟩ (Nat.le_of_ble_eq_true rfl) (Nat.le_of_ble_eq_true rfl) ok_41 rfl rfl rfl (fun _ => rfl) (fun _ => rfl) (fun _ => rfl) rfl (fun _ => rfl) rfl (fun t1 => ?_)
  refine XE_aload_n (n := 1064) dL_law_1063 rfl rfl rfl ?_
  refine XE_callV (ni := 0) (As := []) (π := [17]) (co := [0, 1, 2, 3, 4, 5, 6, 7, 8, 9, 10, 11, 12, 13, 14, 15, 16]) (cv := [m0, m1, t1.2, m3, m4, m5, m6, m7, m8, m9, m10, m11, m12, m13, m14, m15, m16]) (nn := 18) (hs2 := fun t2 => [m0, m1, t1.2, m3, m4, m5, m6, m7, m8, m9, m10, m11, m12, m13, m14, m15, m16, t2.2]) (st2 := fun t2 => [.int t2.1, .int t1.1]) (n := 1067) (b := 1088) xc_L_162 (fun l t ht => met_X7_span l m17 t ht) rfl rfl rfl rfl rfl dL_law_1064 (Nat.le_of_ble_eq_true rfl) ⟨Nat.le_refl _, Nat.le_refl _⟩ (Nat.le_of_ble_eq_true rfl) (Nat.le_of_ble_eq_true rfl) ok_42 rfl rfl rfl (fun _ => rfl) (fun _ => rfl) (fun _ => rfl) rfl (fun _ => rfl) rfl (fun t2 => ?_)
  refine XE_icmp_eq (t := 1252) (n := 1070) dL_law_1067 rfl rfl (fun _ => ?_) (fun _ => XE_none)
  exact law_next B nm hK v3 m0 m1 t1.2 m3 m4 m5 m6 m7 m8 m9 m10 m11 m12 m13 m14 m15 m16 t2.2
set_option maxRecDepth 100000 in
theorem law_C36 {K : Int32 → Mem → Mem → Mem → Mem → Mem → Mem → Mem → Mem → Mem → Mem → Mem → Mem → Mem → Mem → Mem → Mem → Mem → Mem → Option Unit} (B : XB) (nm : String) {L : Nat} {sc : Nat → Int32} (hSc : XSc B L sc) (hK : ∀ (v3 : Int32) (m0 : Mem) (m1 : Mem) (m2 : Mem) (m3 : Mem) (m4 : Mem) (m5 : Mem) (m6 : Mem) (m7 : Mem) (m8 : Mem) (m9 : Mem) (m10 : Mem) (m11 : Mem) (m12 : Mem) (m13 : Mem) (m14 : Mem) (m15 : Mem) (m16 : Mem) (m17 : Mem), XE B (M_law nm) (fun _ : Unit => XZ B) 18 [(0, some (.ref 4095)), (1, some (.ref 0)), (2, some (.ref 1088)), (3, some (.int v3))] [] (143, 2120) SH_XM [m0, m1, m2, m3, m4, m5, m6, m7, m8, m9, m10, m11, m12, m13, m14, m15, m16, m17] (fun t : Unit => some t) (K v3 m0 m1 m2 m3 m4 m5 m6 m7 m8 m9 m10 m11 m12 m13 m14 m15 m16 m17)) (v3 : Int32) (m0 : Mem) (m1 : Mem) (m2 : Mem) (m3 : Mem) (m4 : Mem) (m5 : Mem) (m6 : Mem) (m7 : Mem) (m8 : Mem) (m9 : Mem) (m10 : Mem) (m11 : Mem) (m12 : Mem) (m13 : Mem) (m14 : Mem) (m15 : Mem) (m16 : Mem) (m17 : Mem) : XE B (M_law nm) (fun _ : Unit => XZ B) 1072 [(0, some (.ref 4095)), (1, some (.ref 0)), (2, some (.ref 1088)), (3, some (.int v3))] [] (143, 2120) SH_XM [m0, m1, m2, m3, m4, m5, m6, m7, m8, m9, m10, m11, m12, m13, m14, m15, m16, m17] (fun t : Unit => some t) (f_law_C36 K L sc v3 m0 m1 m2 m3 m4 m5 m6 m7 m8 m9 m10 m11 m12 m13 m14 m15 m16 m17) := by
  unfold f_law_C36
  refine XE_aload_n (n := 1073) dL_law_1072 rfl rfl rfl ?_
  refine XE_callV (ni := 0) (As := []) (π := [0, 1, 2, 3, 4, 5, 6, 7, 8, 9, 10, 11, 12, 13, 14, 15, 16]) (co := [17]) (cv := [m17]) (nn := 18) (hs2 := fun t1 => [m0, m1, t1.2, m3, m4, m5, m6, m7, m8, m9, m10, m11, m12, m13, m14, m15, m16, m17]) (st2 := fun t1 => [.int t1.1]) (n := 1076) (b := 0) xc_L_163 (fun l t ht => met_X6_swap l m0 m1 m2 m3 m4 m5 m6 m7 m8 m9 m10 m11 m12 m13 m14 m15 m16 t ht) rfl rfl rfl rfl rfl dL_law_1073 (Nat.le_of_ble_eq_true rfl) ⟨Nat.le_refl _, Nat.le_refl _⟩ (Nat.le_of_ble_eq_true rfl) (Nat.le_of_ble_eq_true rfl) ok_41 rfl rfl rfl (fun _ => rfl) (fun _ => rfl) (fun _ => rfl) rfl (fun _ => rfl) rfl (fun t1 => ?_)
  refine XE_aload_n (n := 1077) dL_law_1076 rfl rfl rfl ?_
  refine XE_callV (ni := 0) (As := []) (π := [17]) (co := [0, 1, 2, 3, 4, 5, 6, 7, 8, 9, 10, 11, 12, 13, 14, 15, 16]) (cv := [m0, m1, t1.2, m3, m4, m5, m6, m7, m8, m9, m10, m11, m12, m13, m14, m15, m16]) (nn := 18) (hs2 := fun t2 => [m0, m1, t1.2, m3, m4, m5, m6, m7, m8, m9, m10, m11, m12, m13, m14, m15, m16, t2.2]) (st2 := fun t2 => [.int t2.1, .int t1.1]) (n := 1080) (b := 1088) xc_L_166 (fun l t ht => met_X7_swap l m17 t ht) rfl rfl rfl rfl rfl dL_law_1077 (Nat.le_of_ble_eq_true rfl) ⟨Nat.le_refl _, Nat.le_refl _⟩ (Nat.le_of_ble_eq_true rfl) (Nat.le_of_ble_eq_true rfl) ok_42 rfl rfl rfl (fun _ => rfl) (fun _ => rfl) (fun _ => rfl) rfl (fun _ => rfl) rfl (fun t2 => ?_)
  refine XE_icmp_eq (t := 1252) (n := 1083) dL_law_1080 rfl rfl (fun _ => ?_) (fun _ => XE_none)
  exact law_next B nm hK v3 m0 m1 t1.2 m3 m4 m5 m6 m7 m8 m9 m10 m11 m12 m13 m14 m15 m16 t2.2
set_option maxRecDepth 100000 in
theorem law_C37 {K : Int32 → Mem → Mem → Mem → Mem → Mem → Mem → Mem → Mem → Mem → Mem → Mem → Mem → Mem → Mem → Mem → Mem → Mem → Mem → Option Unit} (B : XB) (nm : String) {L : Nat} {sc : Nat → Int32} (hSc : XSc B L sc) (hK : ∀ (v3 : Int32) (m0 : Mem) (m1 : Mem) (m2 : Mem) (m3 : Mem) (m4 : Mem) (m5 : Mem) (m6 : Mem) (m7 : Mem) (m8 : Mem) (m9 : Mem) (m10 : Mem) (m11 : Mem) (m12 : Mem) (m13 : Mem) (m14 : Mem) (m15 : Mem) (m16 : Mem) (m17 : Mem), XE B (M_law nm) (fun _ : Unit => XZ B) 18 [(0, some (.ref 4095)), (1, some (.ref 0)), (2, some (.ref 1088)), (3, some (.int v3))] [] (143, 2120) SH_XM [m0, m1, m2, m3, m4, m5, m6, m7, m8, m9, m10, m11, m12, m13, m14, m15, m16, m17] (fun t : Unit => some t) (K v3 m0 m1 m2 m3 m4 m5 m6 m7 m8 m9 m10 m11 m12 m13 m14 m15 m16 m17)) (v3 : Int32) (m0 : Mem) (m1 : Mem) (m2 : Mem) (m3 : Mem) (m4 : Mem) (m5 : Mem) (m6 : Mem) (m7 : Mem) (m8 : Mem) (m9 : Mem) (m10 : Mem) (m11 : Mem) (m12 : Mem) (m13 : Mem) (m14 : Mem) (m15 : Mem) (m16 : Mem) (m17 : Mem) : XE B (M_law nm) (fun _ : Unit => XZ B) 1085 [(0, some (.ref 4095)), (1, some (.ref 0)), (2, some (.ref 1088)), (3, some (.int v3))] [] (143, 2120) SH_XM [m0, m1, m2, m3, m4, m5, m6, m7, m8, m9, m10, m11, m12, m13, m14, m15, m16, m17] (fun t : Unit => some t) (f_law_C37 K L sc v3 m0 m1 m2 m3 m4 m5 m6 m7 m8 m9 m10 m11 m12 m13 m14 m15 m16 m17) := by
  unfold f_law_C37
  refine XE_aload_n (n := 1086) dL_law_1085 rfl rfl rfl ?_
  refine XE_callV (ni := 0) (As := []) (π := [0, 1, 2, 3, 4, 5, 6, 7, 8, 9, 10, 11, 12, 13, 14, 15, 16]) (co := [17]) (cv := [m17]) (nn := 18) (hs2 := fun t1 => [m0, m1, t1.2, m3, m4, m5, m6, m7, m8, m9, m10, m11, m12, m13, m14, m15, m16, m17]) (st2 := fun t1 => [.int t1.1]) (n := 1089) (b := 0) xc_L_167 (fun l t ht => met_X6_turned l m0 m1 m2 m3 m4 m5 m6 m7 m8 m9 m10 m11 m12 m13 m14 m15 m16 t ht) rfl rfl rfl rfl rfl dL_law_1086 (Nat.le_of_ble_eq_true rfl) ⟨Nat.le_refl _, Nat.le_refl _⟩ (Nat.le_of_ble_eq_true rfl) (Nat.le_of_ble_eq_true rfl) ok_41 rfl rfl rfl (fun _ => rfl) (fun _ => rfl) (fun _ => rfl) rfl (fun _ => rfl) rfl (fun t1 => ?_)
  refine XE_aload_n (n := 1090) dL_law_1089 rfl rfl rfl ?_
  refine XE_callV (ni := 0) (As := []) (π := [17]) (co := [0, 1, 2, 3, 4, 5, 6, 7, 8, 9, 10, 11, 12, 13, 14, 15, 16]) (cv := [m0, m1, t1.2, m3, m4, m5, m6, m7, m8, m9, m10, m11, m12, m13, m14, m15, m16]) (nn := 18) (hs2 := fun t2 => [m0, m1, t1.2, m3, m4, m5, m6, m7, m8, m9, m10, m11, m12, m13, m14, m15, m16, t2.2]) (st2 := fun t2 => [.int t2.1, .int t1.1]) (n := 1093) (b := 1088) xc_L_170 (fun l t ht => met_X7_turned l m17 t ht) rfl rfl rfl rfl rfl dL_law_1090 (Nat.le_of_ble_eq_true rfl) ⟨Nat.le_refl _, Nat.le_refl _⟩ (Nat.le_of_ble_eq_true rfl) (Nat.le_of_ble_eq_true rfl) ok_42 rfl rfl rfl (fun _ => rfl) (fun _ => rfl) (fun _ => rfl) rfl (fun _ => rfl) rfl (fun t2 => ?_)
  refine XE_icmp_eq (t := 1252) (n := 1096) dL_law_1093 rfl rfl (fun _ => ?_) (fun _ => XE_none)
  exact law_next B nm hK v3 m0 m1 t1.2 m3 m4 m5 m6 m7 m8 m9 m10 m11 m12 m13 m14 m15 m16 t2.2
set_option maxRecDepth 100000 in
theorem law_C38 {K : Int32 → Mem → Mem → Mem → Mem → Mem → Mem → Mem → Mem → Mem → Mem → Mem → Mem → Mem → Mem → Mem → Mem → Mem → Mem → Option Unit} (B : XB) (nm : String) {L : Nat} {sc : Nat → Int32} (hSc : XSc B L sc) (hK : ∀ (v3 : Int32) (m0 : Mem) (m1 : Mem) (m2 : Mem) (m3 : Mem) (m4 : Mem) (m5 : Mem) (m6 : Mem) (m7 : Mem) (m8 : Mem) (m9 : Mem) (m10 : Mem) (m11 : Mem) (m12 : Mem) (m13 : Mem) (m14 : Mem) (m15 : Mem) (m16 : Mem) (m17 : Mem), XE B (M_law nm) (fun _ : Unit => XZ B) 18 [(0, some (.ref 4095)), (1, some (.ref 0)), (2, some (.ref 1088)), (3, some (.int v3))] [] (143, 2120) SH_XM [m0, m1, m2, m3, m4, m5, m6, m7, m8, m9, m10, m11, m12, m13, m14, m15, m16, m17] (fun t : Unit => some t) (K v3 m0 m1 m2 m3 m4 m5 m6 m7 m8 m9 m10 m11 m12 m13 m14 m15 m16 m17)) (v3 : Int32) (m0 : Mem) (m1 : Mem) (m2 : Mem) (m3 : Mem) (m4 : Mem) (m5 : Mem) (m6 : Mem) (m7 : Mem) (m8 : Mem) (m9 : Mem) (m10 : Mem) (m11 : Mem) (m12 : Mem) (m13 : Mem) (m14 : Mem) (m15 : Mem) (m16 : Mem) (m17 : Mem) : XE B (M_law nm) (fun _ : Unit => XZ B) 1098 [(0, some (.ref 4095)), (1, some (.ref 0)), (2, some (.ref 1088)), (3, some (.int v3))] [] (143, 2120) SH_XM [m0, m1, m2, m3, m4, m5, m6, m7, m8, m9, m10, m11, m12, m13, m14, m15, m16, m17] (fun t : Unit => some t) (f_law_C38 K L sc v3 m0 m1 m2 m3 m4 m5 m6 m7 m8 m9 m10 m11 m12 m13 m14 m15 m16 m17) := by
  unfold f_law_C38
  refine XE_aload_n (n := 1099) dL_law_1098 rfl rfl rfl ?_
  refine XE_callV (ni := 0) (As := []) (π := [0, 1, 2, 3, 4, 5, 6, 7, 8, 9, 10, 11, 12, 13, 14, 15, 16]) (co := [17]) (cv := [m17]) (nn := 18) (hs2 := fun t1 => [m0, m1, t1.2, m3, m4, m5, m6, m7, m8, m9, m10, m11, m12, m13, m14, m15, m16, m17]) (st2 := fun t1 => [.int t1.1]) (n := 1102) (b := 0) xc_L_171 (fun l t ht => met_X6_shift l m0 m1 m2 m3 m4 m5 m6 m7 m8 m9 m10 m11 m12 m13 m14 m15 m16 t ht) rfl rfl rfl rfl rfl dL_law_1099 (Nat.le_of_ble_eq_true rfl) ⟨Nat.le_refl _, Nat.le_refl _⟩ (Nat.le_of_ble_eq_true rfl) (Nat.le_of_ble_eq_true rfl) ok_41 rfl rfl rfl (fun _ => rfl) (fun _ => rfl) (fun _ => rfl) rfl (fun _ => rfl) rfl (fun t1 => ?_)
  refine XE_aload_n (n := 1103) dL_law_1102 rfl rfl rfl ?_
  refine XE_callV (ni := 0) (As := []) (π := [17]) (co := [0, 1, 2, 3, 4, 5, 6, 7, 8, 9, 10, 11, 12, 13, 14, 15, 16]) (cv := [m0, m1, t1.2, m3, m4, m5, m6, m7, m8, m9, m10, m11, m12, m13, m14, m15, m16]) (nn := 18) (hs2 := fun t2 => [m0, m1, t1.2, m3, m4, m5, m6, m7, m8, m9, m10, m11, m12, m13, m14, m15, m16, t2.2]) (st2 := fun t2 => [.int t2.1, .int t1.1]) (n := 1106) (b := 1088) xc_L_174 (fun l t ht => met_X7_shift l m17 t ht) rfl rfl rfl rfl rfl dL_law_1103 (Nat.le_of_ble_eq_true rfl) ⟨Nat.le_refl _, Nat.le_refl _⟩ (Nat.le_of_ble_eq_true rfl) (Nat.le_of_ble_eq_true rfl) ok_42 rfl rfl rfl (fun _ => rfl) (fun _ => rfl) (fun _ => rfl) rfl (fun _ => rfl) rfl (fun t2 => ?_)
  refine XE_icmp_eq (t := 1252) (n := 1109) dL_law_1106 rfl rfl (fun _ => ?_) (fun _ => XE_none)
  exact law_next B nm hK v3 m0 m1 t1.2 m3 m4 m5 m6 m7 m8 m9 m10 m11 m12 m13 m14 m15 m16 t2.2
set_option maxRecDepth 100000 in
theorem law_C39 {K : Int32 → Mem → Mem → Mem → Mem → Mem → Mem → Mem → Mem → Mem → Mem → Mem → Mem → Mem → Mem → Mem → Mem → Mem → Mem → Option Unit} (B : XB) (nm : String) {L : Nat} {sc : Nat → Int32} (hSc : XSc B L sc) (hK : ∀ (v3 : Int32) (m0 : Mem) (m1 : Mem) (m2 : Mem) (m3 : Mem) (m4 : Mem) (m5 : Mem) (m6 : Mem) (m7 : Mem) (m8 : Mem) (m9 : Mem) (m10 : Mem) (m11 : Mem) (m12 : Mem) (m13 : Mem) (m14 : Mem) (m15 : Mem) (m16 : Mem) (m17 : Mem), XE B (M_law nm) (fun _ : Unit => XZ B) 18 [(0, some (.ref 4095)), (1, some (.ref 0)), (2, some (.ref 1088)), (3, some (.int v3))] [] (143, 2120) SH_XM [m0, m1, m2, m3, m4, m5, m6, m7, m8, m9, m10, m11, m12, m13, m14, m15, m16, m17] (fun t : Unit => some t) (K v3 m0 m1 m2 m3 m4 m5 m6 m7 m8 m9 m10 m11 m12 m13 m14 m15 m16 m17)) (v3 : Int32) (m0 : Mem) (m1 : Mem) (m2 : Mem) (m3 : Mem) (m4 : Mem) (m5 : Mem) (m6 : Mem) (m7 : Mem) (m8 : Mem) (m9 : Mem) (m10 : Mem) (m11 : Mem) (m12 : Mem) (m13 : Mem) (m14 : Mem) (m15 : Mem) (m16 : Mem) (m17 : Mem) : XE B (M_law nm) (fun _ : Unit => XZ B) 1111 [(0, some (.ref 4095)), (1, some (.ref 0)), (2, some (.ref 1088)), (3, some (.int v3))] [] (143, 2120) SH_XM [m0, m1, m2, m3, m4, m5, m6, m7, m8, m9, m10, m11, m12, m13, m14, m15, m16, m17] (fun t : Unit => some t) (f_law_C39 K L sc v3 m0 m1 m2 m3 m4 m5 m6 m7 m8 m9 m10 m11 m12 m13 m14 m15 m16 m17) := by
  unfold f_law_C39
  refine XE_aload_n (n := 1112) dL_law_1111 rfl rfl rfl ?_
  refine XE_aload_n (n := 1113) dL_law_1112 rfl rfl rfl ?_
  refine XE_iload_n (n := 1114) dL_law_1113 rfl rfl rfl ?_
  refine XE_iconst (v := 1) (n := 1115) dL_law_1114 rfl (by decide) ?_
  refine XE_iadd (n := 1116) dL_law_1115 rfl ?_
  refine XE_sld (n := 1117) hSc rfl dL_law_1116 rfl ?_
  refine XE_callV (ni := 1) (As := [.int (sc (ix (v3 + 1)))]) (π := [0, 1, 2, 3, 4, 5, 6, 7, 8, 9, 10, 11, 12, 13, 14, 15, 16]) (co := [17]) (cv := [m17]) (nn := 18) (hs2 := fun t1 => [t1.2, m1, m2, m3, m4, m5, m6, m7, m8, m9, m10, m11, m12, m13, m14, m15, m16, m17]) (st2 := fun t1 => [.int t1.1]) (n := 1120) (b := 0) xc_L_175 (fun l t ht => met_X6_row l m0 m1 m2 m3 m4 m5 m6 m7 m8 m9 m10 m11 m12 m13 m14 m15 m16 (sc (ix (v3 + 1))) t ht) rfl rfl rfl rfl rfl dL_law_1117 (Nat.le_of_ble_eq_true rfl) ⟨Nat.le_refl _, Nat.le_refl _⟩ (Nat.le_of_ble_eq_true rfl) (Nat.le_of_ble_eq_true rfl) ok_41 rfl rfl rfl (fun _ => rfl) (fun _ => rfl) (fun _ => rfl) rfl (fun _ => rfl) rfl (fun t1 => ?_)
  refine XE_aload_n (n := 1121) dL_law_1120 rfl rfl rfl ?_
  refine XE_aload_n (n := 1122) dL_law_1121 rfl rfl rfl ?_
  refine XE_iload_n (n := 1123) dL_law_1122 rfl rfl rfl ?_
  refine XE_iconst (v := 1) (n := 1124) dL_law_1123 rfl (by decide) ?_
  refine XE_iadd (n := 1125) dL_law_1124 rfl ?_
  refine XE_sld (n := 1126) hSc rfl dL_law_1125 rfl ?_
  refine XE_callV (ni := 1) (As := [.int (sc (ix (v3 + 1)))]) (π := [17]) (co := [0, 1, 2, 3, 4, 5, 6, 7, 8, 9, 10, 11, 12, 13, 14, 15, 16]) (cv := [t1.2, m1, m2, m3, m4, m5, m6, m7, m8, m9, m10, m11, m12, m13, m14, m15, m16]) (nn := 18) (hs2 := fun t2 => [t1.2, m1, m2, m3, m4, m5, m6, m7, m8, m9, m10, m11, m12, m13, m14, m15, m16, t2.2]) (st2 := fun t2 => [.int t2.1, .int t1.1]) (n := 1129) (b := 1088) xc_L_178 (fun l t ht => met_X7_row l m17 (sc (ix (v3 + 1))) t ht) rfl rfl rfl rfl rfl dL_law_1126 (Nat.le_of_ble_eq_true rfl) ⟨Nat.le_refl _, Nat.le_refl _⟩ (Nat.le_of_ble_eq_true rfl) (Nat.le_of_ble_eq_true rfl) ok_42 rfl rfl rfl (fun _ => rfl) (fun _ => rfl) (fun _ => rfl) rfl (fun _ => rfl) rfl (fun t2 => ?_)
  refine XE_icmp_eq (t := 1252) (n := 1132) dL_law_1129 rfl rfl (fun _ => ?_) (fun _ => XE_none)
  exact law_next B nm hK v3 t1.2 m1 m2 m3 m4 m5 m6 m7 m8 m9 m10 m11 m12 m13 m14 m15 m16 t2.2
set_option maxRecDepth 100000 in
theorem law_C40 {K : Int32 → Mem → Mem → Mem → Mem → Mem → Mem → Mem → Mem → Mem → Mem → Mem → Mem → Mem → Mem → Mem → Mem → Mem → Mem → Option Unit} (B : XB) (nm : String) {L : Nat} {sc : Nat → Int32} (hSc : XSc B L sc) (hK : ∀ (v3 : Int32) (m0 : Mem) (m1 : Mem) (m2 : Mem) (m3 : Mem) (m4 : Mem) (m5 : Mem) (m6 : Mem) (m7 : Mem) (m8 : Mem) (m9 : Mem) (m10 : Mem) (m11 : Mem) (m12 : Mem) (m13 : Mem) (m14 : Mem) (m15 : Mem) (m16 : Mem) (m17 : Mem), XE B (M_law nm) (fun _ : Unit => XZ B) 18 [(0, some (.ref 4095)), (1, some (.ref 0)), (2, some (.ref 1088)), (3, some (.int v3))] [] (143, 2120) SH_XM [m0, m1, m2, m3, m4, m5, m6, m7, m8, m9, m10, m11, m12, m13, m14, m15, m16, m17] (fun t : Unit => some t) (K v3 m0 m1 m2 m3 m4 m5 m6 m7 m8 m9 m10 m11 m12 m13 m14 m15 m16 m17)) (v3 : Int32) (m0 : Mem) (m1 : Mem) (m2 : Mem) (m3 : Mem) (m4 : Mem) (m5 : Mem) (m6 : Mem) (m7 : Mem) (m8 : Mem) (m9 : Mem) (m10 : Mem) (m11 : Mem) (m12 : Mem) (m13 : Mem) (m14 : Mem) (m15 : Mem) (m16 : Mem) (m17 : Mem) : XE B (M_law nm) (fun _ : Unit => XZ B) 1134 [(0, some (.ref 4095)), (1, some (.ref 0)), (2, some (.ref 1088)), (3, some (.int v3))] [] (143, 2120) SH_XM [m0, m1, m2, m3, m4, m5, m6, m7, m8, m9, m10, m11, m12, m13, m14, m15, m16, m17] (fun t : Unit => some t) (f_law_C40 K L sc v3 m0 m1 m2 m3 m4 m5 m6 m7 m8 m9 m10 m11 m12 m13 m14 m15 m16 m17) := by
  unfold f_law_C40
  refine XE_aload_n (n := 1135) dL_law_1134 rfl rfl rfl ?_
  refine XE_callV (ni := 0) (As := []) (π := [0, 1, 2, 3, 4, 5, 6, 7, 8, 9, 10, 11, 12, 13, 14, 15, 16]) (co := [17]) (cv := [m17]) (nn := 18) (hs2 := fun t1 => [t1.2.1, m1, t1.2.2, m3, m4, m5, m6, m7, m8, m9, m10, m11, m12, m13, m14, m15, m16, m17]) (st2 := fun t1 => [.int t1.1]) (n := 1138) (b := 0) xc_L_179 (fun l t ht => met_X6_judge l m0 m1 m2 m3 m4 m5 m6 m7 m8 m9 m10 m11 m12 m13 m14 m15 m16 t ht) rfl rfl rfl rfl rfl dL_law_1135 (Nat.le_of_ble_eq_true rfl) ⟨Nat.le_refl _, Nat.le_refl _⟩ (Nat.le_of_ble_eq_true rfl) (Nat.le_of_ble_eq_true rfl) ok_41 rfl rfl rfl (fun _ => rfl) (fun _ => rfl) (fun _ => rfl) rfl (fun _ => rfl) rfl (fun t1 => ?_)
  refine XE_aload_n (n := 1139) dL_law_1138 rfl rfl rfl ?_
  refine XE_callV (ni := 0) (As := []) (π := [17]) (co := [0, 1, 2, 3, 4, 5, 6, 7, 8, 9, 10, 11, 12, 13, 14, 15, 16]) (cv := [t1.2.1, m1, t1.2.2, m3, m4, m5, m6, m7, m8, m9, m10, m11, m12, m13, m14, m15, m16]) (nn := 18) (hs2 := fun t2 => [t1.2.1, m1, t1.2.2, m3, m4, m5, m6, m7, m8, m9, m10, m11, m12, m13, m14, m15, m16, t2.2]) (st2 := fun t2 => [.int t2.1, .int t1.1]) (n := 1142) (b := 1088) xc_L_182 (fun l t ht => met_X7_judge l m17 t ht) rfl rfl rfl rfl rfl dL_law_1139 (Nat.le_of_ble_eq_true rfl) ⟨Nat.le_refl _, Nat.le_refl _⟩ (Nat.le_of_ble_eq_true rfl) (Nat.le_of_ble_eq_true rfl) ok_42 rfl rfl rfl (fun _ => rfl) (fun _ => rfl) (fun _ => rfl) rfl (fun _ => rfl) rfl (fun t2 => ?_)
  refine XE_icmp_eq (t := 1252) (n := 1145) dL_law_1142 rfl rfl (fun _ => ?_) (fun _ => XE_none)
  exact law_next B nm hK v3 t1.2.1 m1 t1.2.2 m3 m4 m5 m6 m7 m8 m9 m10 m11 m12 m13 m14 m15 m16 t2.2
set_option maxRecDepth 100000 in
theorem law_C41 {K : Int32 → Mem → Mem → Mem → Mem → Mem → Mem → Mem → Mem → Mem → Mem → Mem → Mem → Mem → Mem → Mem → Mem → Mem → Mem → Option Unit} (B : XB) (nm : String) {L : Nat} {sc : Nat → Int32} (hSc : XSc B L sc) (hK : ∀ (v3 : Int32) (m0 : Mem) (m1 : Mem) (m2 : Mem) (m3 : Mem) (m4 : Mem) (m5 : Mem) (m6 : Mem) (m7 : Mem) (m8 : Mem) (m9 : Mem) (m10 : Mem) (m11 : Mem) (m12 : Mem) (m13 : Mem) (m14 : Mem) (m15 : Mem) (m16 : Mem) (m17 : Mem), XE B (M_law nm) (fun _ : Unit => XZ B) 18 [(0, some (.ref 4095)), (1, some (.ref 0)), (2, some (.ref 1088)), (3, some (.int v3))] [] (143, 2120) SH_XM [m0, m1, m2, m3, m4, m5, m6, m7, m8, m9, m10, m11, m12, m13, m14, m15, m16, m17] (fun t : Unit => some t) (K v3 m0 m1 m2 m3 m4 m5 m6 m7 m8 m9 m10 m11 m12 m13 m14 m15 m16 m17)) (v3 : Int32) (m0 : Mem) (m1 : Mem) (m2 : Mem) (m3 : Mem) (m4 : Mem) (m5 : Mem) (m6 : Mem) (m7 : Mem) (m8 : Mem) (m9 : Mem) (m10 : Mem) (m11 : Mem) (m12 : Mem) (m13 : Mem) (m14 : Mem) (m15 : Mem) (m16 : Mem) (m17 : Mem) : XE B (M_law nm) (fun _ : Unit => XZ B) 1147 [(0, some (.ref 4095)), (1, some (.ref 0)), (2, some (.ref 1088)), (3, some (.int v3))] [] (143, 2120) SH_XM [m0, m1, m2, m3, m4, m5, m6, m7, m8, m9, m10, m11, m12, m13, m14, m15, m16, m17] (fun t : Unit => some t) (f_law_C41 K L sc v3 m0 m1 m2 m3 m4 m5 m6 m7 m8 m9 m10 m11 m12 m13 m14 m15 m16 m17) := by
  unfold f_law_C41
  refine XE_aload_n (n := 1148) dL_law_1147 rfl rfl rfl ?_
  refine XE_callV (ni := 0) (As := []) (π := [0, 1, 2, 3, 4, 5, 6, 7, 8, 9, 10, 11, 12, 13, 14, 15, 16]) (co := [17]) (cv := [m17]) (nn := 18) (hs2 := fun t1 => [t1.2, m1, m2, m3, m4, m5, m6, m7, m8, m9, m10, m11, m12, m13, m14, m15, m16, m17]) (st2 := fun t1 => [.int t1.1]) (n := 1151) (b := 0) xc_L_183 (fun l t ht => met_X6_clear l m0 m1 m2 m3 m4 m5 m6 m7 m8 m9 m10 m11 m12 m13 m14 m15 m16 t ht) rfl rfl rfl rfl rfl dL_law_1148 (Nat.le_of_ble_eq_true rfl) ⟨Nat.le_refl _, Nat.le_refl _⟩ (Nat.le_of_ble_eq_true rfl) (Nat.le_of_ble_eq_true rfl) ok_41 rfl rfl rfl (fun _ => rfl) (fun _ => rfl) (fun _ => rfl) rfl (fun _ => rfl) rfl (fun t1 => ?_)
  refine XE_aload_n (n := 1152) dL_law_1151 rfl rfl rfl ?_
  refine XE_callV (ni := 0) (As := []) (π := [17]) (co := [0, 1, 2, 3, 4, 5, 6, 7, 8, 9, 10, 11, 12, 13, 14, 15, 16]) (cv := [t1.2, m1, m2, m3, m4, m5, m6, m7, m8, m9, m10, m11, m12, m13, m14, m15, m16]) (nn := 18) (hs2 := fun t2 => [t1.2, m1, m2, m3, m4, m5, m6, m7, m8, m9, m10, m11, m12, m13, m14, m15, m16, t2.2]) (st2 := fun t2 => [.int t2.1, .int t1.1]) (n := 1155) (b := 1088) xc_L_186 (fun l t ht => met_X7_clear l m17 t ht) rfl rfl rfl rfl rfl dL_law_1152 (Nat.le_of_ble_eq_true rfl) ⟨Nat.le_refl _, Nat.le_refl _⟩ (Nat.le_of_ble_eq_true rfl) (Nat.le_of_ble_eq_true rfl) ok_42 rfl rfl rfl (fun _ => rfl) (fun _ => rfl) (fun _ => rfl) rfl (fun _ => rfl) rfl (fun t2 => ?_)
  refine XE_icmp_eq (t := 1252) (n := 1158) dL_law_1155 rfl rfl (fun _ => ?_) (fun _ => XE_none)
  exact law_next B nm hK v3 t1.2 m1 m2 m3 m4 m5 m6 m7 m8 m9 m10 m11 m12 m13 m14 m15 m16 t2.2
set_option maxRecDepth 100000 in
theorem law_C42 {K : Int32 → Mem → Mem → Mem → Mem → Mem → Mem → Mem → Mem → Mem → Mem → Mem → Mem → Mem → Mem → Mem → Mem → Mem → Mem → Option Unit} (B : XB) (nm : String) {L : Nat} {sc : Nat → Int32} (hSc : XSc B L sc) (hK : ∀ (v3 : Int32) (m0 : Mem) (m1 : Mem) (m2 : Mem) (m3 : Mem) (m4 : Mem) (m5 : Mem) (m6 : Mem) (m7 : Mem) (m8 : Mem) (m9 : Mem) (m10 : Mem) (m11 : Mem) (m12 : Mem) (m13 : Mem) (m14 : Mem) (m15 : Mem) (m16 : Mem) (m17 : Mem), XE B (M_law nm) (fun _ : Unit => XZ B) 18 [(0, some (.ref 4095)), (1, some (.ref 0)), (2, some (.ref 1088)), (3, some (.int v3))] [] (143, 2120) SH_XM [m0, m1, m2, m3, m4, m5, m6, m7, m8, m9, m10, m11, m12, m13, m14, m15, m16, m17] (fun t : Unit => some t) (K v3 m0 m1 m2 m3 m4 m5 m6 m7 m8 m9 m10 m11 m12 m13 m14 m15 m16 m17)) (v3 : Int32) (m0 : Mem) (m1 : Mem) (m2 : Mem) (m3 : Mem) (m4 : Mem) (m5 : Mem) (m6 : Mem) (m7 : Mem) (m8 : Mem) (m9 : Mem) (m10 : Mem) (m11 : Mem) (m12 : Mem) (m13 : Mem) (m14 : Mem) (m15 : Mem) (m16 : Mem) (m17 : Mem) : XE B (M_law nm) (fun _ : Unit => XZ B) 1160 [(0, some (.ref 4095)), (1, some (.ref 0)), (2, some (.ref 1088)), (3, some (.int v3))] [] (143, 2120) SH_XM [m0, m1, m2, m3, m4, m5, m6, m7, m8, m9, m10, m11, m12, m13, m14, m15, m16, m17] (fun t : Unit => some t) (f_law_C42 K L sc v3 m0 m1 m2 m3 m4 m5 m6 m7 m8 m9 m10 m11 m12 m13 m14 m15 m16 m17) := by
  unfold f_law_C42
  refine XE_aload_n (n := 1161) dL_law_1160 rfl rfl rfl ?_
  refine XE_aload_n (n := 1162) dL_law_1161 rfl rfl rfl ?_
  refine XE_iload_n (n := 1163) dL_law_1162 rfl rfl rfl ?_
  refine XE_iconst (v := 1) (n := 1164) dL_law_1163 rfl (by decide) ?_
  refine XE_iadd (n := 1165) dL_law_1164 rfl ?_
  refine XE_sld (n := 1166) hSc rfl dL_law_1165 rfl ?_
  refine XE_aload_n (n := 1167) dL_law_1166 rfl rfl rfl ?_
  refine XE_iload_n (n := 1168) dL_law_1167 rfl rfl rfl ?_
  refine XE_iconst (v := 2) (n := 1169) dL_law_1168 rfl (by decide) ?_
  refine XE_iadd (n := 1170) dL_law_1169 rfl ?_
  refine XE_sld (n := 1171) hSc rfl dL_law_1170 rfl ?_
  refine XE_aload_n (n := 1172) dL_law_1171 rfl rfl rfl ?_
  refine XE_iload_n (n := 1173) dL_law_1172 rfl rfl rfl ?_
  refine XE_iconst (v := 3) (n := 1174) dL_law_1173 rfl (by decide) ?_
  refine XE_iadd (n := 1175) dL_law_1174 rfl ?_
  refine XE_sld (n := 1176) hSc rfl dL_law_1175 rfl ?_
  refine XE_callV (ni := 3) (As := [.int (sc (ix (v3 + 1))), .int (sc (ix (v3 + 2))), .int (sc (ix (v3 + 3)))]) (π := [0, 1, 2, 3, 4, 5, 6, 7, 8, 9, 10, 11, 12, 13, 14, 15, 16]) (co := [17]) (cv := [m17]) (nn := 18) (hs2 := fun t1 => [t1.2.1, m1, t1.2.2, m3, m4, m5, m6, m7, m8, m9, m10, m11, m12, m13, m14, m15, m16, m17]) (st2 := fun t1 => [.int t1.1]) (n := 1179) (b := 0) xc_L_187 (fun l t ht => met_X6_lots l m0 m1 m2 m3 m4 m5 m6 m7 m8 m9 m10 m11 m12 m13 m14 m15 m16 (sc (ix (v3 + 1))) (sc (ix (v3 + 2))) (sc (ix (v3 + 3))) t ht) rfl rfl rfl rfl rfl dL_law_1176 (Nat.le_of_ble_eq_true rfl) ⟨Nat.le_refl _, Nat.le_refl _⟩ (Nat.le_of_ble_eq_true rfl) (Nat.le_of_ble_eq_true rfl) ok_41 rfl rfl rfl (fun _ => rfl) (fun _ => rfl) (fun _ => rfl) rfl (fun _ => rfl) rfl (fun t1 => ?_)
  refine XE_aload_n (n := 1180) dL_law_1179 rfl rfl rfl ?_
  refine XE_aload_n (n := 1181) dL_law_1180 rfl rfl rfl ?_
  refine XE_iload_n (n := 1182) dL_law_1181 rfl rfl rfl ?_
  refine XE_iconst (v := 1) (n := 1183) dL_law_1182 rfl (by decide) ?_
  refine XE_iadd (n := 1184) dL_law_1183 rfl ?_
  refine XE_sld (n := 1185) hSc rfl dL_law_1184 rfl ?_
  refine XE_aload_n (n := 1186) dL_law_1185 rfl rfl rfl ?_
  refine XE_iload_n (n := 1187) dL_law_1186 rfl rfl rfl ?_
  refine XE_iconst (v := 2) (n := 1188) dL_law_1187 rfl (by decide) ?_
  refine XE_iadd (n := 1189) dL_law_1188 rfl ?_
  refine XE_sld (n := 1190) hSc rfl dL_law_1189 rfl ?_
  refine XE_aload_n (n := 1191) dL_law_1190 rfl rfl rfl ?_
  refine XE_iload_n (n := 1192) dL_law_1191 rfl rfl rfl ?_
  refine XE_iconst (v := 3) (n := 1193) dL_law_1192 rfl (by decide) ?_
  refine XE_iadd (n := 1194) dL_law_1193 rfl ?_
  refine XE_sld (n := 1195) hSc rfl dL_law_1194 rfl ?_
  refine XE_callV (ni := 3) (As := [.int (sc (ix (v3 + 1))), .int (sc (ix (v3 + 2))), .int (sc (ix (v3 + 3)))]) (π := [17]) (co := [0, 1, 2, 3, 4, 5, 6, 7, 8, 9, 10, 11, 12, 13, 14, 15, 16]) (cv := [t1.2.1, m1, t1.2.2, m3, m4, m5, m6, m7, m8, m9, m10, m11, m12, m13, m14, m15, m16]) (nn := 18) (hs2 := fun t2 => [t1.2.1, m1, t1.2.2, m3, m4, m5, m6, m7, m8, m9, m10, m11, m12, m13, m14, m15, m16, t2.2]) (st2 := fun t2 => [.int t2.1, .int t1.1]) (n := 1198) (b := 1088) xc_L_190 (fun l t ht => met_X7_lots l m17 (sc (ix (v3 + 1))) (sc (ix (v3 + 2))) (sc (ix (v3 + 3))) t ht) rfl rfl rfl rfl rfl dL_law_1195 (Nat.le_of_ble_eq_true rfl) ⟨Nat.le_refl _, Nat.le_refl _⟩ (Nat.le_of_ble_eq_true rfl) (Nat.le_of_ble_eq_true rfl) ok_42 rfl rfl rfl (fun _ => rfl) (fun _ => rfl) (fun _ => rfl) rfl (fun _ => rfl) rfl (fun t2 => ?_)
  refine XE_icmp_eq (t := 1252) (n := 1201) dL_law_1198 rfl rfl (fun _ => ?_) (fun _ => XE_none)
  exact law_next B nm hK v3 t1.2.1 m1 t1.2.2 m3 m4 m5 m6 m7 m8 m9 m10 m11 m12 m13 m14 m15 m16 t2.2
set_option maxRecDepth 100000 in
theorem law_C43 {K : Int32 → Mem → Mem → Mem → Mem → Mem → Mem → Mem → Mem → Mem → Mem → Mem → Mem → Mem → Mem → Mem → Mem → Mem → Mem → Option Unit} (B : XB) (nm : String) {L : Nat} {sc : Nat → Int32} (hSc : XSc B L sc) (hK : ∀ (v3 : Int32) (m0 : Mem) (m1 : Mem) (m2 : Mem) (m3 : Mem) (m4 : Mem) (m5 : Mem) (m6 : Mem) (m7 : Mem) (m8 : Mem) (m9 : Mem) (m10 : Mem) (m11 : Mem) (m12 : Mem) (m13 : Mem) (m14 : Mem) (m15 : Mem) (m16 : Mem) (m17 : Mem), XE B (M_law nm) (fun _ : Unit => XZ B) 18 [(0, some (.ref 4095)), (1, some (.ref 0)), (2, some (.ref 1088)), (3, some (.int v3))] [] (143, 2120) SH_XM [m0, m1, m2, m3, m4, m5, m6, m7, m8, m9, m10, m11, m12, m13, m14, m15, m16, m17] (fun t : Unit => some t) (K v3 m0 m1 m2 m3 m4 m5 m6 m7 m8 m9 m10 m11 m12 m13 m14 m15 m16 m17)) (v3 : Int32) (m0 : Mem) (m1 : Mem) (m2 : Mem) (m3 : Mem) (m4 : Mem) (m5 : Mem) (m6 : Mem) (m7 : Mem) (m8 : Mem) (m9 : Mem) (m10 : Mem) (m11 : Mem) (m12 : Mem) (m13 : Mem) (m14 : Mem) (m15 : Mem) (m16 : Mem) (m17 : Mem) : XE B (M_law nm) (fun _ : Unit => XZ B) 1203 [(0, some (.ref 4095)), (1, some (.ref 0)), (2, some (.ref 1088)), (3, some (.int v3))] [] (143, 2120) SH_XM [m0, m1, m2, m3, m4, m5, m6, m7, m8, m9, m10, m11, m12, m13, m14, m15, m16, m17] (fun t : Unit => some t) (f_law_C43 K L sc v3 m0 m1 m2 m3 m4 m5 m6 m7 m8 m9 m10 m11 m12 m13 m14 m15 m16 m17) := by
  unfold f_law_C43
  refine XE_aload_n (n := 1204) dL_law_1203 rfl rfl rfl ?_
  refine XE_callV (ni := 0) (As := []) (π := [0, 1, 2, 3, 4, 5, 6, 7, 8, 9, 10, 11, 12, 13, 14, 15, 16]) (co := [17]) (cv := [m17]) (nn := 18) (hs2 := fun t1 => [t1.2.1, m1, m2, t1.2.2, m4, m5, m6, m7, m8, m9, m10, m11, m12, m13, m14, m15, m16, m17]) (st2 := fun t1 => [.int t1.1]) (n := 1207) (b := 0) xc_L_191 (fun l t ht => met_X6_image l m0 m1 m2 m3 m4 m5 m6 m7 m8 m9 m10 m11 m12 m13 m14 m15 m16 t ht) rfl rfl rfl rfl rfl dL_law_1204 (Nat.le_of_ble_eq_true rfl) ⟨Nat.le_refl _, Nat.le_refl _⟩ (Nat.le_of_ble_eq_true rfl) (Nat.le_of_ble_eq_true rfl) ok_41 rfl rfl rfl (fun _ => rfl) (fun _ => rfl) (fun _ => rfl) rfl (fun _ => rfl) rfl (fun t1 => ?_)
  refine XE_aload_n (n := 1208) dL_law_1207 rfl rfl rfl ?_
  refine XE_callV (ni := 0) (As := []) (π := [17]) (co := [0, 1, 2, 3, 4, 5, 6, 7, 8, 9, 10, 11, 12, 13, 14, 15, 16]) (cv := [t1.2.1, m1, m2, t1.2.2, m4, m5, m6, m7, m8, m9, m10, m11, m12, m13, m14, m15, m16]) (nn := 18) (hs2 := fun t2 => [t1.2.1, m1, m2, t1.2.2, m4, m5, m6, m7, m8, m9, m10, m11, m12, m13, m14, m15, m16, t2.2]) (st2 := fun t2 => [.int t2.1, .int t1.1]) (n := 1211) (b := 1088) xc_L_194 (fun l t ht => met_X7_image l m17 t ht) rfl rfl rfl rfl rfl dL_law_1208 (Nat.le_of_ble_eq_true rfl) ⟨Nat.le_refl _, Nat.le_refl _⟩ (Nat.le_of_ble_eq_true rfl) (Nat.le_of_ble_eq_true rfl) ok_42 rfl rfl rfl (fun _ => rfl) (fun _ => rfl) (fun _ => rfl) rfl (fun _ => rfl) rfl (fun t2 => ?_)
  refine XE_icmp_eq (t := 1252) (n := 1214) dL_law_1211 rfl rfl (fun _ => ?_) (fun _ => XE_none)
  exact law_next B nm hK v3 t1.2.1 m1 m2 t1.2.2 m4 m5 m6 m7 m8 m9 m10 m11 m12 m13 m14 m15 m16 t2.2
set_option maxRecDepth 100000 in
theorem law_C44 {K : Int32 → Mem → Mem → Mem → Mem → Mem → Mem → Mem → Mem → Mem → Mem → Mem → Mem → Mem → Mem → Mem → Mem → Mem → Mem → Option Unit} (B : XB) (nm : String) {L : Nat} {sc : Nat → Int32} (hSc : XSc B L sc) (hK : ∀ (v3 : Int32) (m0 : Mem) (m1 : Mem) (m2 : Mem) (m3 : Mem) (m4 : Mem) (m5 : Mem) (m6 : Mem) (m7 : Mem) (m8 : Mem) (m9 : Mem) (m10 : Mem) (m11 : Mem) (m12 : Mem) (m13 : Mem) (m14 : Mem) (m15 : Mem) (m16 : Mem) (m17 : Mem), XE B (M_law nm) (fun _ : Unit => XZ B) 18 [(0, some (.ref 4095)), (1, some (.ref 0)), (2, some (.ref 1088)), (3, some (.int v3))] [] (143, 2120) SH_XM [m0, m1, m2, m3, m4, m5, m6, m7, m8, m9, m10, m11, m12, m13, m14, m15, m16, m17] (fun t : Unit => some t) (K v3 m0 m1 m2 m3 m4 m5 m6 m7 m8 m9 m10 m11 m12 m13 m14 m15 m16 m17)) (v3 : Int32) (m0 : Mem) (m1 : Mem) (m2 : Mem) (m3 : Mem) (m4 : Mem) (m5 : Mem) (m6 : Mem) (m7 : Mem) (m8 : Mem) (m9 : Mem) (m10 : Mem) (m11 : Mem) (m12 : Mem) (m13 : Mem) (m14 : Mem) (m15 : Mem) (m16 : Mem) (m17 : Mem) : XE B (M_law nm) (fun _ : Unit => XZ B) 1216 [(0, some (.ref 4095)), (1, some (.ref 0)), (2, some (.ref 1088)), (3, some (.int v3))] [] (143, 2120) SH_XM [m0, m1, m2, m3, m4, m5, m6, m7, m8, m9, m10, m11, m12, m13, m14, m15, m16, m17] (fun t : Unit => some t) (f_law_C44 K L sc v3 m0 m1 m2 m3 m4 m5 m6 m7 m8 m9 m10 m11 m12 m13 m14 m15 m16 m17) := by
  unfold f_law_C44
  refine XE_aload_n (n := 1217) dL_law_1216 rfl rfl rfl ?_
  refine XE_callV (ni := 0) (As := []) (π := [0, 1, 2, 3, 4, 5, 6, 7, 8, 9, 10, 11, 12, 13, 14, 15, 16]) (co := [17]) (cv := [m17]) (nn := 18) (hs2 := fun t1 => [t1.2.1, t1.2.2.1, m2, m3, t1.2.2.2, m5, m6, m7, m8, m9, m10, m11, m12, m13, m14, m15, m16, m17]) (st2 := fun t1 => [.int t1.1]) (n := 1220) (b := 0) xc_L_195 (fun l t ht => met_X6_restore l m0 m1 m2 m3 m4 m5 m6 m7 m8 m9 m10 m11 m12 m13 m14 m15 m16 t ht) rfl rfl rfl rfl rfl dL_law_1217 (Nat.le_of_ble_eq_true rfl) ⟨Nat.le_refl _, Nat.le_refl _⟩ (Nat.le_of_ble_eq_true rfl) (Nat.le_of_ble_eq_true rfl) ok_41 rfl rfl rfl (fun _ => rfl) (fun _ => rfl) (fun _ => rfl) rfl (fun _ => rfl) rfl (fun t1 => ?_)
  refine XE_aload_n (n := 1221) dL_law_1220 rfl rfl rfl ?_
  refine XE_callV (ni := 0) (As := []) (π := [17]) (co := [0, 1, 2, 3, 4, 5, 6, 7, 8, 9, 10, 11, 12, 13, 14, 15, 16]) (cv := [t1.2.1, t1.2.2.1, m2, m3, t1.2.2.2, m5, m6, m7, m8, m9, m10, m11, m12, m13, m14, m15, m16]) (nn := 18) (hs2 := fun t2 => [t1.2.1, t1.2.2.1, m2, m3, t1.2.2.2, m5, m6, m7, m8, m9, m10, m11, m12, m13, m14, m15, m16, t2.2]) (st2 := fun t2 => [.int t2.1, .int t1.1]) (n := 1224) (b := 1088) xc_L_198 (fun l t ht => met_X7_restore l m17 t ht) rfl rfl rfl rfl rfl dL_law_1221 (Nat.le_of_ble_eq_true rfl) ⟨Nat.le_refl _, Nat.le_refl _⟩ (Nat.le_of_ble_eq_true rfl) (Nat.le_of_ble_eq_true rfl) ok_42 rfl rfl rfl (fun _ => rfl) (fun _ => rfl) (fun _ => rfl) rfl (fun _ => rfl) rfl (fun t2 => ?_)
  refine XE_icmp_eq (t := 1252) (n := 1227) dL_law_1224 rfl rfl (fun _ => ?_) (fun _ => XE_none)
  exact law_next B nm hK v3 t1.2.1 t1.2.2.1 m2 m3 t1.2.2.2 m5 m6 m7 m8 m9 m10 m11 m12 m13 m14 m15 m16 t2.2
set_option maxRecDepth 100000 in
theorem law_C45 {K : Int32 → Mem → Mem → Mem → Mem → Mem → Mem → Mem → Mem → Mem → Mem → Mem → Mem → Mem → Mem → Mem → Mem → Mem → Mem → Option Unit} (B : XB) (nm : String) {L : Nat} {sc : Nat → Int32} (hSc : XSc B L sc) (hK : ∀ (v3 : Int32) (m0 : Mem) (m1 : Mem) (m2 : Mem) (m3 : Mem) (m4 : Mem) (m5 : Mem) (m6 : Mem) (m7 : Mem) (m8 : Mem) (m9 : Mem) (m10 : Mem) (m11 : Mem) (m12 : Mem) (m13 : Mem) (m14 : Mem) (m15 : Mem) (m16 : Mem) (m17 : Mem), XE B (M_law nm) (fun _ : Unit => XZ B) 18 [(0, some (.ref 4095)), (1, some (.ref 0)), (2, some (.ref 1088)), (3, some (.int v3))] [] (143, 2120) SH_XM [m0, m1, m2, m3, m4, m5, m6, m7, m8, m9, m10, m11, m12, m13, m14, m15, m16, m17] (fun t : Unit => some t) (K v3 m0 m1 m2 m3 m4 m5 m6 m7 m8 m9 m10 m11 m12 m13 m14 m15 m16 m17)) (v3 : Int32) (m0 : Mem) (m1 : Mem) (m2 : Mem) (m3 : Mem) (m4 : Mem) (m5 : Mem) (m6 : Mem) (m7 : Mem) (m8 : Mem) (m9 : Mem) (m10 : Mem) (m11 : Mem) (m12 : Mem) (m13 : Mem) (m14 : Mem) (m15 : Mem) (m16 : Mem) (m17 : Mem) : XE B (M_law nm) (fun _ : Unit => XZ B) 1229 [(0, some (.ref 4095)), (1, some (.ref 0)), (2, some (.ref 1088)), (3, some (.int v3))] [] (143, 2120) SH_XM [m0, m1, m2, m3, m4, m5, m6, m7, m8, m9, m10, m11, m12, m13, m14, m15, m16, m17] (fun t : Unit => some t) (f_law_C45 K L sc v3 m0 m1 m2 m3 m4 m5 m6 m7 m8 m9 m10 m11 m12 m13 m14 m15 m16 m17) := by
  unfold f_law_C45
  refine XE_aload_n (n := 1230) dL_law_1229 rfl rfl rfl ?_
  refine XE_aload_n (n := 1231) dL_law_1230 rfl rfl rfl ?_
  refine XE_iload_n (n := 1232) dL_law_1231 rfl rfl rfl ?_
  refine XE_iconst (v := 1) (n := 1233) dL_law_1232 rfl (by decide) ?_
  refine XE_iadd (n := 1234) dL_law_1233 rfl ?_
  refine XE_sld (n := 1235) hSc rfl dL_law_1234 rfl ?_
  refine XE_callV (ni := 1) (As := [.int (sc (ix (v3 + 1)))]) (π := [0, 1, 2, 3, 4, 5, 6, 7, 8, 9, 10, 11, 12, 13, 14, 15, 16]) (co := [17]) (cv := [m17]) (nn := 18) (hs2 := fun t1 => [m0, m1, m2, m3, m4, m5, m6, m7, m8, m9, m10, m11, m12, m13, m14, m15, m16, m17]) (st2 := fun t1 => [.int t1]) (n := 1238) (b := 0) xc_L_199 (fun l t ht => met_X6_count l m0 m1 m2 m3 m4 m5 m6 m7 m8 m9 m10 m11 m12 m13 m14 m15 m16 (sc (ix (v3 + 1))) t ht) rfl rfl rfl rfl rfl dL_law_1235 (Nat.le_of_ble_eq_true rfl) ⟨Nat.le_refl _, Nat.le_refl _⟩ (Nat.le_of_ble_eq_true rfl) (Nat.le_of_ble_eq_true rfl) ok_41 rfl rfl rfl (fun _ => rfl) (fun _ => rfl) (fun _ => rfl) rfl (fun _ => rfl) rfl (fun t1 => ?_)
  refine XE_aload_n (n := 1239) dL_law_1238 rfl rfl rfl ?_
  refine XE_aload_n (n := 1240) dL_law_1239 rfl rfl rfl ?_
  refine XE_iload_n (n := 1241) dL_law_1240 rfl rfl rfl ?_
  refine XE_iconst (v := 1) (n := 1242) dL_law_1241 rfl (by decide) ?_
  refine XE_iadd (n := 1243) dL_law_1242 rfl ?_
  refine XE_sld (n := 1244) hSc rfl dL_law_1243 rfl ?_
  refine XE_callV (ni := 1) (As := [.int (sc (ix (v3 + 1)))]) (π := [17]) (co := [0, 1, 2, 3, 4, 5, 6, 7, 8, 9, 10, 11, 12, 13, 14, 15, 16]) (cv := [m0, m1, m2, m3, m4, m5, m6, m7, m8, m9, m10, m11, m12, m13, m14, m15, m16]) (nn := 18) (hs2 := fun t2 => [m0, m1, m2, m3, m4, m5, m6, m7, m8, m9, m10, m11, m12, m13, m14, m15, m16, t2.2]) (st2 := fun t2 => [.int t2.1, .int t1]) (n := 1247) (b := 1088) xc_L_202 (fun l t ht => met_X7_count l m17 (sc (ix (v3 + 1))) t ht) rfl rfl rfl rfl rfl dL_law_1244 (Nat.le_of_ble_eq_true rfl) ⟨Nat.le_refl _, Nat.le_refl _⟩ (Nat.le_of_ble_eq_true rfl) (Nat.le_of_ble_eq_true rfl) ok_42 rfl rfl rfl (fun _ => rfl) (fun _ => rfl) (fun _ => rfl) rfl (fun _ => rfl) rfl (fun t2 => ?_)
  refine XE_icmp_eq (t := 1252) (n := 1250) dL_law_1247 rfl rfl (fun _ => ?_) (fun _ => XE_none)
  exact law_next B nm hK v3 m0 m1 m2 m3 m4 m5 m6 m7 m8 m9 m10 m11 m12 m13 m14 m15 m16 t2.2
def f_law_L (L : Nat) (sc : Nat → Int32) : Nat → Int32 → Mem → Mem → Mem → Mem → Mem → Mem → Mem → Mem → Mem → Mem → Mem → Mem → Mem → Mem → Mem → Mem → Mem → Mem → Option Unit
  | 0, _, _, _, _, _, _, _, _, _, _, _, _, _, _, _, _, _, _, _ => none
  | n + 1, v3, m0, m1, m2, m3, m4, m5, m6, m7, m8, m9, m10, m11, m12, m13, m14, m15, m16, m17 =>
    if Int32.ofNat L - 5 < v3 then some () else
    ck (inb v3 L) <|
    lt (sc (ix v3) &&& 63) fun c =>
    if c = 0 then f_law_C0 (f_law_L L sc n) L sc v3 m0 m1 m2 m3 m4 m5 m6 m7 m8 m9 m10 m11 m12 m13 m14 m15 m16 m17 else
    if c = 1 then f_law_C1 (f_law_L L sc n) L sc v3 m0 m1 m2 m3 m4 m5 m6 m7 m8 m9 m10 m11 m12 m13 m14 m15 m16 m17 else
    if c = 2 then f_law_C2 (f_law_L L sc n) L sc v3 m0 m1 m2 m3 m4 m5 m6 m7 m8 m9 m10 m11 m12 m13 m14 m15 m16 m17 else
    if c = 3 then f_law_C3 (f_law_L L sc n) L sc v3 m0 m1 m2 m3 m4 m5 m6 m7 m8 m9 m10 m11 m12 m13 m14 m15 m16 m17 else
    if c = 4 then f_law_C4 (f_law_L L sc n) L sc v3 m0 m1 m2 m3 m4 m5 m6 m7 m8 m9 m10 m11 m12 m13 m14 m15 m16 m17 else
    if c = 5 then f_law_C5 (f_law_L L sc n) L sc v3 m0 m1 m2 m3 m4 m5 m6 m7 m8 m9 m10 m11 m12 m13 m14 m15 m16 m17 else
    if c = 6 then f_law_C6 (f_law_L L sc n) L sc v3 m0 m1 m2 m3 m4 m5 m6 m7 m8 m9 m10 m11 m12 m13 m14 m15 m16 m17 else
    if c = 7 then f_law_C7 (f_law_L L sc n) L sc v3 m0 m1 m2 m3 m4 m5 m6 m7 m8 m9 m10 m11 m12 m13 m14 m15 m16 m17 else
    if c = 8 then f_law_C8 (f_law_L L sc n) L sc v3 m0 m1 m2 m3 m4 m5 m6 m7 m8 m9 m10 m11 m12 m13 m14 m15 m16 m17 else
    if c = 9 then f_law_C9 (f_law_L L sc n) L sc v3 m0 m1 m2 m3 m4 m5 m6 m7 m8 m9 m10 m11 m12 m13 m14 m15 m16 m17 else
    if c = 10 then f_law_C10 (f_law_L L sc n) L sc v3 m0 m1 m2 m3 m4 m5 m6 m7 m8 m9 m10 m11 m12 m13 m14 m15 m16 m17 else
    if c = 11 then f_law_C11 (f_law_L L sc n) L sc v3 m0 m1 m2 m3 m4 m5 m6 m7 m8 m9 m10 m11 m12 m13 m14 m15 m16 m17 else
    if c = 12 then f_law_C12 (f_law_L L sc n) L sc v3 m0 m1 m2 m3 m4 m5 m6 m7 m8 m9 m10 m11 m12 m13 m14 m15 m16 m17 else
    if c = 13 then f_law_C13 (f_law_L L sc n) L sc v3 m0 m1 m2 m3 m4 m5 m6 m7 m8 m9 m10 m11 m12 m13 m14 m15 m16 m17 else
    if c = 14 then f_law_C14 (f_law_L L sc n) L sc v3 m0 m1 m2 m3 m4 m5 m6 m7 m8 m9 m10 m11 m12 m13 m14 m15 m16 m17 else
    if c = 15 then f_law_C15 (f_law_L L sc n) L sc v3 m0 m1 m2 m3 m4 m5 m6 m7 m8 m9 m10 m11 m12 m13 m14 m15 m16 m17 else
    if c = 16 then f_law_C16 (f_law_L L sc n) L sc v3 m0 m1 m2 m3 m4 m5 m6 m7 m8 m9 m10 m11 m12 m13 m14 m15 m16 m17 else
    if c = 17 then f_law_C17 (f_law_L L sc n) L sc v3 m0 m1 m2 m3 m4 m5 m6 m7 m8 m9 m10 m11 m12 m13 m14 m15 m16 m17 else
    if c = 18 then f_law_C18 (f_law_L L sc n) L sc v3 m0 m1 m2 m3 m4 m5 m6 m7 m8 m9 m10 m11 m12 m13 m14 m15 m16 m17 else
    if c = 19 then f_law_C19 (f_law_L L sc n) L sc v3 m0 m1 m2 m3 m4 m5 m6 m7 m8 m9 m10 m11 m12 m13 m14 m15 m16 m17 else
    if c = 20 then f_law_C20 (f_law_L L sc n) L sc v3 m0 m1 m2 m3 m4 m5 m6 m7 m8 m9 m10 m11 m12 m13 m14 m15 m16 m17 else
    if c = 21 then f_law_C21 (f_law_L L sc n) L sc v3 m0 m1 m2 m3 m4 m5 m6 m7 m8 m9 m10 m11 m12 m13 m14 m15 m16 m17 else
    if c = 22 then f_law_C22 (f_law_L L sc n) L sc v3 m0 m1 m2 m3 m4 m5 m6 m7 m8 m9 m10 m11 m12 m13 m14 m15 m16 m17 else
    if c = 23 then f_law_C23 (f_law_L L sc n) L sc v3 m0 m1 m2 m3 m4 m5 m6 m7 m8 m9 m10 m11 m12 m13 m14 m15 m16 m17 else
    if c = 24 then f_law_C24 (f_law_L L sc n) L sc v3 m0 m1 m2 m3 m4 m5 m6 m7 m8 m9 m10 m11 m12 m13 m14 m15 m16 m17 else
    if c = 25 then f_law_C25 (f_law_L L sc n) L sc v3 m0 m1 m2 m3 m4 m5 m6 m7 m8 m9 m10 m11 m12 m13 m14 m15 m16 m17 else
    if c = 26 then f_law_C26 (f_law_L L sc n) L sc v3 m0 m1 m2 m3 m4 m5 m6 m7 m8 m9 m10 m11 m12 m13 m14 m15 m16 m17 else
    if c = 27 then f_law_C27 (f_law_L L sc n) L sc v3 m0 m1 m2 m3 m4 m5 m6 m7 m8 m9 m10 m11 m12 m13 m14 m15 m16 m17 else
    if c = 28 then f_law_C28 (f_law_L L sc n) L sc v3 m0 m1 m2 m3 m4 m5 m6 m7 m8 m9 m10 m11 m12 m13 m14 m15 m16 m17 else
    if c = 29 then f_law_C29 (f_law_L L sc n) L sc v3 m0 m1 m2 m3 m4 m5 m6 m7 m8 m9 m10 m11 m12 m13 m14 m15 m16 m17 else
    if c = 30 then f_law_C30 (f_law_L L sc n) L sc v3 m0 m1 m2 m3 m4 m5 m6 m7 m8 m9 m10 m11 m12 m13 m14 m15 m16 m17 else
    if c = 31 then f_law_C31 (f_law_L L sc n) L sc v3 m0 m1 m2 m3 m4 m5 m6 m7 m8 m9 m10 m11 m12 m13 m14 m15 m16 m17 else
    if c = 32 then f_law_C32 (f_law_L L sc n) L sc v3 m0 m1 m2 m3 m4 m5 m6 m7 m8 m9 m10 m11 m12 m13 m14 m15 m16 m17 else
    if c = 33 then f_law_C33 (f_law_L L sc n) L sc v3 m0 m1 m2 m3 m4 m5 m6 m7 m8 m9 m10 m11 m12 m13 m14 m15 m16 m17 else
    if c = 34 then f_law_C34 (f_law_L L sc n) L sc v3 m0 m1 m2 m3 m4 m5 m6 m7 m8 m9 m10 m11 m12 m13 m14 m15 m16 m17 else
    if c = 35 then f_law_C35 (f_law_L L sc n) L sc v3 m0 m1 m2 m3 m4 m5 m6 m7 m8 m9 m10 m11 m12 m13 m14 m15 m16 m17 else
    if c = 36 then f_law_C36 (f_law_L L sc n) L sc v3 m0 m1 m2 m3 m4 m5 m6 m7 m8 m9 m10 m11 m12 m13 m14 m15 m16 m17 else
    if c = 37 then f_law_C37 (f_law_L L sc n) L sc v3 m0 m1 m2 m3 m4 m5 m6 m7 m8 m9 m10 m11 m12 m13 m14 m15 m16 m17 else
    if c = 38 then f_law_C38 (f_law_L L sc n) L sc v3 m0 m1 m2 m3 m4 m5 m6 m7 m8 m9 m10 m11 m12 m13 m14 m15 m16 m17 else
    if c = 39 then f_law_C39 (f_law_L L sc n) L sc v3 m0 m1 m2 m3 m4 m5 m6 m7 m8 m9 m10 m11 m12 m13 m14 m15 m16 m17 else
    if c = 40 then f_law_C40 (f_law_L L sc n) L sc v3 m0 m1 m2 m3 m4 m5 m6 m7 m8 m9 m10 m11 m12 m13 m14 m15 m16 m17 else
    if c = 41 then f_law_C41 (f_law_L L sc n) L sc v3 m0 m1 m2 m3 m4 m5 m6 m7 m8 m9 m10 m11 m12 m13 m14 m15 m16 m17 else
    if c = 42 then f_law_C42 (f_law_L L sc n) L sc v3 m0 m1 m2 m3 m4 m5 m6 m7 m8 m9 m10 m11 m12 m13 m14 m15 m16 m17 else
    if c = 43 then f_law_C43 (f_law_L L sc n) L sc v3 m0 m1 m2 m3 m4 m5 m6 m7 m8 m9 m10 m11 m12 m13 m14 m15 m16 m17 else
    if c = 44 then f_law_C44 (f_law_L L sc n) L sc v3 m0 m1 m2 m3 m4 m5 m6 m7 m8 m9 m10 m11 m12 m13 m14 m15 m16 m17 else
    if c = 45 then f_law_C45 (f_law_L L sc n) L sc v3 m0 m1 m2 m3 m4 m5 m6 m7 m8 m9 m10 m11 m12 m13 m14 m15 m16 m17 else
    lt (v3 + 5) fun v4 => f_law_L L sc n v4 m0 m1 m2 m3 m4 m5 m6 m7 m8 m9 m10 m11 m12 m13 m14 m15 m16 m17
set_option maxRecDepth 100000 in
theorem law_L (B : XB) (nm : String) {L : Nat} {sc : Nat → Int32} (hSc : XSc B L sc) : ∀ (n : Nat) (v3 : Int32) (m0 : Mem) (m1 : Mem) (m2 : Mem) (m3 : Mem) (m4 : Mem) (m5 : Mem) (m6 : Mem) (m7 : Mem) (m8 : Mem) (m9 : Mem) (m10 : Mem) (m11 : Mem) (m12 : Mem) (m13 : Mem) (m14 : Mem) (m15 : Mem) (m16 : Mem) (m17 : Mem), XE B (M_law nm) (fun _ : Unit => XZ B) 18 [(0, some (.ref 4095)), (1, some (.ref 0)), (2, some (.ref 1088)), (3, some (.int v3))] [] (143, 2120) SH_XM [m0, m1, m2, m3, m4, m5, m6, m7, m8, m9, m10, m11, m12, m13, m14, m15, m16, m17] (fun t : Unit => some t) (f_law_L L sc n v3 m0 m1 m2 m3 m4 m5 m6 m7 m8 m9 m10 m11 m12 m13 m14 m15 m16 m17) := by
  intro n
  induction n with
  | zero => intros; exact XE_none
  | succ n ih =>
    intro v3 m0 m1 m2 m3 m4 m5 m6 m7 m8 m9 m10 m11 m12 m13 m14 m15 m16 m17
    rw [f_law_L]
    refine XE_iload_n (n := 19) dL_law_18 rfl rfl rfl ?_
    refine XE_aload_n (n := 20) dL_law_19 rfl rfl rfl ?_
    refine XE_slen (n := 21) hSc rfl dL_law_20 rfl ?_
    refine XE_iconst (v := 5) (n := 22) dL_law_21 rfl (by decide) ?_
    refine XE_isub (n := 23) dL_law_22 rfl ?_
    refine XE_icmp_gt (t := 1258) (n := 26) dL_law_23 rfl rfl (fun _ => ?_) (fun _ => ?_)
    · refine XE_iconst (v := 1) (n := 1259) dL_law_1258 rfl (by decide) ?_
      exact XE_lawend hSc rfl rfl ⟨Nat.le_of_ble_eq_true rfl, Nat.le_of_ble_eq_true rfl⟩ dL_law_1259
    refine XE_aload_n (n := 27) dL_law_26 rfl rfl rfl ?_
    refine XE_iload_n (n := 28) dL_law_27 rfl rfl rfl ?_
    refine XE_sld (n := 29) hSc rfl dL_law_28 rfl ?_
    refine XE_bipush (v := 63) (n := 31) dL_law_29 rfl (by decide) ?_
    refine XE_iand (n := 32) dL_law_31 rfl ?_
    refine XE_topi (fun c => ?_)
    refine XE_tsw (c := 0) (t := 232) (off := 200) dL_law_32 (by decide) (by decide) rfl rfl ?_ (fun h0 => ?_)
    · exact law_C0 B nm hSc ih v3 m0 m1 m2 m3 m4 m5 m6 m7 m8 m9 m10 m11 m12 m13 m14 m15 m16 m17
    refine XE_tsw (c := 1) (t := 255) (off := 223) dL_law_32 (by decide) (by decide) rfl rfl ?_ (fun h1 => ?_)
    · exact law_C1 B nm hSc ih v3 m0 m1 m2 m3 m4 m5 m6 m7 m8 m9 m10 m11 m12 m13 m14 m15 m16 m17
    refine XE_tsw (c := 2) (t := 268) (off := 236) dL_law_32 (by decide) (by decide) rfl rfl ?_ (fun h2 => ?_)
    · exact law_C2 B nm hSc ih v3 m0 m1 m2 m3 m4 m5 m6 m7 m8 m9 m10 m11 m12 m13 m14 m15 m16 m17
    refine XE_tsw (c := 3) (t := 301) (off := 269) dL_law_32 (by decide) (by decide) rfl rfl ?_ (fun h3 => ?_)
    · exact law_C3 B nm hSc ih v3 m0 m1 m2 m3 m4 m5 m6 m7 m8 m9 m10 m11 m12 m13 m14 m15 m16 m17
    refine XE_tsw (c := 4) (t := 324) (off := 292) dL_law_32 (by decide) (by decide) rfl rfl ?_ (fun h4 => ?_)
    · exact law_C4 B nm hSc ih v3 m0 m1 m2 m3 m4 m5 m6 m7 m8 m9 m10 m11 m12 m13 m14 m15 m16 m17
    refine XE_tsw (c := 5) (t := 347) (off := 315) dL_law_32 (by decide) (by decide) rfl rfl ?_ (fun h5 => ?_)
    · exact law_C5 B nm hSc ih v3 m0 m1 m2 m3 m4 m5 m6 m7 m8 m9 m10 m11 m12 m13 m14 m15 m16 m17
    refine XE_tsw (c := 6) (t := 390) (off := 358) dL_law_32 (by decide) (by decide) rfl rfl ?_ (fun h6 => ?_)
    · exact law_C6 B nm hSc ih v3 m0 m1 m2 m3 m4 m5 m6 m7 m8 m9 m10 m11 m12 m13 m14 m15 m16 m17
    refine XE_tsw (c := 7) (t := 413) (off := 381) dL_law_32 (by decide) (by decide) rfl rfl ?_ (fun h7 => ?_)
    · exact law_C7 B nm hSc ih v3 m0 m1 m2 m3 m4 m5 m6 m7 m8 m9 m10 m11 m12 m13 m14 m15 m16 m17
    refine XE_tsw (c := 8) (t := 436) (off := 404) dL_law_32 (by decide) (by decide) rfl rfl ?_ (fun h8 => ?_)
    · exact law_C8 B nm hSc ih v3 m0 m1 m2 m3 m4 m5 m6 m7 m8 m9 m10 m11 m12 m13 m14 m15 m16 m17
    refine XE_tsw (c := 9) (t := 459) (off := 427) dL_law_32 (by decide) (by decide) rfl rfl ?_ (fun h9 => ?_)
    · exact law_C9 B nm hSc ih v3 m0 m1 m2 m3 m4 m5 m6 m7 m8 m9 m10 m11 m12 m13 m14 m15 m16 m17
    refine XE_tsw (c := 10) (t := 482) (off := 450) dL_law_32 (by decide) (by decide) rfl rfl ?_ (fun h10 => ?_)
    · exact law_C10 B nm hSc ih v3 m0 m1 m2 m3 m4 m5 m6 m7 m8 m9 m10 m11 m12 m13 m14 m15 m16 m17
    refine XE_tsw (c := 11) (t := 505) (off := 473) dL_law_32 (by decide) (by decide) rfl rfl ?_ (fun h11 => ?_)
    · exact law_C11 B nm hSc ih v3 m0 m1 m2 m3 m4 m5 m6 m7 m8 m9 m10 m11 m12 m13 m14 m15 m16 m17
    refine XE_tsw (c := 12) (t := 518) (off := 486) dL_law_32 (by decide) (by decide) rfl rfl ?_ (fun h12 => ?_)
    · exact law_C12 B nm hSc ih v3 m0 m1 m2 m3 m4 m5 m6 m7 m8 m9 m10 m11 m12 m13 m14 m15 m16 m17
    refine XE_tsw (c := 13) (t := 551) (off := 519) dL_law_32 (by decide) (by decide) rfl rfl ?_ (fun h13 => ?_)
    · exact law_C13 B nm hSc ih v3 m0 m1 m2 m3 m4 m5 m6 m7 m8 m9 m10 m11 m12 m13 m14 m15 m16 m17
    refine XE_tsw (c := 14) (t := 574) (off := 542) dL_law_32 (by decide) (by decide) rfl rfl ?_ (fun h14 => ?_)
    · exact law_C14 B nm hSc ih v3 m0 m1 m2 m3 m4 m5 m6 m7 m8 m9 m10 m11 m12 m13 m14 m15 m16 m17
    refine XE_tsw (c := 15) (t := 597) (off := 565) dL_law_32 (by decide) (by decide) rfl rfl ?_ (fun h15 => ?_)
    · exact law_C15 B nm hSc ih v3 m0 m1 m2 m3 m4 m5 m6 m7 m8 m9 m10 m11 m12 m13 m14 m15 m16 m17
    refine XE_tsw (c := 16) (t := 620) (off := 588) dL_law_32 (by decide) (by decide) rfl rfl ?_ (fun h16 => ?_)
    · exact law_C16 B nm hSc ih v3 m0 m1 m2 m3 m4 m5 m6 m7 m8 m9 m10 m11 m12 m13 m14 m15 m16 m17
    refine XE_tsw (c := 17) (t := 643) (off := 611) dL_law_32 (by decide) (by decide) rfl rfl ?_ (fun h17 => ?_)
    · exact law_C17 B nm hSc ih v3 m0 m1 m2 m3 m4 m5 m6 m7 m8 m9 m10 m11 m12 m13 m14 m15 m16 m17
    refine XE_tsw (c := 18) (t := 656) (off := 624) dL_law_32 (by decide) (by decide) rfl rfl ?_ (fun h18 => ?_)
    · exact law_C18 B nm hSc ih v3 m0 m1 m2 m3 m4 m5 m6 m7 m8 m9 m10 m11 m12 m13 m14 m15 m16 m17
    refine XE_tsw (c := 19) (t := 679) (off := 647) dL_law_32 (by decide) (by decide) rfl rfl ?_ (fun h19 => ?_)
    · exact law_C19 B nm hSc ih v3 m0 m1 m2 m3 m4 m5 m6 m7 m8 m9 m10 m11 m12 m13 m14 m15 m16 m17
    refine XE_tsw (c := 20) (t := 692) (off := 660) dL_law_32 (by decide) (by decide) rfl rfl ?_ (fun h20 => ?_)
    · exact law_C20 B nm hSc ih v3 m0 m1 m2 m3 m4 m5 m6 m7 m8 m9 m10 m11 m12 m13 m14 m15 m16 m17
    refine XE_tsw (c := 21) (t := 705) (off := 673) dL_law_32 (by decide) (by decide) rfl rfl ?_ (fun h21 => ?_)
    · exact law_C21 B nm hSc ih v3 m0 m1 m2 m3 m4 m5 m6 m7 m8 m9 m10 m11 m12 m13 m14 m15 m16 m17
    refine XE_tsw (c := 22) (t := 748) (off := 716) dL_law_32 (by decide) (by decide) rfl rfl ?_ (fun h22 => ?_)
    · exact law_C22 B nm hSc ih v3 m0 m1 m2 m3 m4 m5 m6 m7 m8 m9 m10 m11 m12 m13 m14 m15 m16 m17
    refine XE_tsw (c := 23) (t := 771) (off := 739) dL_law_32 (by decide) (by decide) rfl rfl ?_ (fun h23 => ?_)
    · exact law_C23 B nm hSc ih v3 m0 m1 m2 m3 m4 m5 m6 m7 m8 m9 m10 m11 m12 m13 m14 m15 m16 m17
    refine XE_tsw (c := 24) (t := 794) (off := 762) dL_law_32 (by decide) (by decide) rfl rfl ?_ (fun h24 => ?_)
    · exact law_C24 B nm hSc ih v3 m0 m1 m2 m3 m4 m5 m6 m7 m8 m9 m10 m11 m12 m13 m14 m15 m16 m17
    refine XE_tsw (c := 25) (t := 817) (off := 785) dL_law_32 (by decide) (by decide) rfl rfl ?_ (fun h25 => ?_)
    · exact law_C25 B nm hSc ih v3 m0 m1 m2 m3 m4 m5 m6 m7 m8 m9 m10 m11 m12 m13 m14 m15 m16 m17
    refine XE_tsw (c := 26) (t := 830) (off := 798) dL_law_32 (by decide) (by decide) rfl rfl ?_ (fun h26 => ?_)
    · exact law_C26 B nm hSc ih v3 m0 m1 m2 m3 m4 m5 m6 m7 m8 m9 m10 m11 m12 m13 m14 m15 m16 m17
    refine XE_tsw (c := 27) (t := 853) (off := 821) dL_law_32 (by decide) (by decide) rfl rfl ?_ (fun h27 => ?_)
    · exact law_C27 B nm hSc ih v3 m0 m1 m2 m3 m4 m5 m6 m7 m8 m9 m10 m11 m12 m13 m14 m15 m16 m17
    refine XE_tsw (c := 28) (t := 907) (off := 875) dL_law_32 (by decide) (by decide) rfl rfl ?_ (fun h28 => ?_)
    · exact law_C28 B nm hSc ih v3 m0 m1 m2 m3 m4 m5 m6 m7 m8 m9 m10 m11 m12 m13 m14 m15 m16 m17
    refine XE_tsw (c := 29) (t := 940) (off := 908) dL_law_32 (by decide) (by decide) rfl rfl ?_ (fun h29 => ?_)
    · exact law_C29 B nm hSc ih v3 m0 m1 m2 m3 m4 m5 m6 m7 m8 m9 m10 m11 m12 m13 m14 m15 m16 m17
    refine XE_tsw (c := 30) (t := 973) (off := 941) dL_law_32 (by decide) (by decide) rfl rfl ?_ (fun h30 => ?_)
    · exact law_C30 B nm hSc ih v3 m0 m1 m2 m3 m4 m5 m6 m7 m8 m9 m10 m11 m12 m13 m14 m15 m16 m17
    refine XE_tsw (c := 31) (t := 996) (off := 964) dL_law_32 (by decide) (by decide) rfl rfl ?_ (fun h31 => ?_)
    · exact law_C31 B nm hSc ih v3 m0 m1 m2 m3 m4 m5 m6 m7 m8 m9 m10 m11 m12 m13 m14 m15 m16 m17
    refine XE_tsw (c := 32) (t := 1020) (off := 988) dL_law_32 (by decide) (by decide) rfl rfl ?_ (fun h32 => ?_)
    · exact law_C32 B nm hSc ih v3 m0 m1 m2 m3 m4 m5 m6 m7 m8 m9 m10 m11 m12 m13 m14 m15 m16 m17
    refine XE_tsw (c := 33) (t := 1033) (off := 1001) dL_law_32 (by decide) (by decide) rfl rfl ?_ (fun h33 => ?_)
    · exact law_C33 B nm hSc ih v3 m0 m1 m2 m3 m4 m5 m6 m7 m8 m9 m10 m11 m12 m13 m14 m15 m16 m17
    refine XE_tsw (c := 34) (t := 1046) (off := 1014) dL_law_32 (by decide) (by decide) rfl rfl ?_ (fun h34 => ?_)
    · exact law_C34 B nm hSc ih v3 m0 m1 m2 m3 m4 m5 m6 m7 m8 m9 m10 m11 m12 m13 m14 m15 m16 m17
    refine XE_tsw (c := 35) (t := 1059) (off := 1027) dL_law_32 (by decide) (by decide) rfl rfl ?_ (fun h35 => ?_)
    · exact law_C35 B nm hSc ih v3 m0 m1 m2 m3 m4 m5 m6 m7 m8 m9 m10 m11 m12 m13 m14 m15 m16 m17
    refine XE_tsw (c := 36) (t := 1072) (off := 1040) dL_law_32 (by decide) (by decide) rfl rfl ?_ (fun h36 => ?_)
    · exact law_C36 B nm hSc ih v3 m0 m1 m2 m3 m4 m5 m6 m7 m8 m9 m10 m11 m12 m13 m14 m15 m16 m17
    refine XE_tsw (c := 37) (t := 1085) (off := 1053) dL_law_32 (by decide) (by decide) rfl rfl ?_ (fun h37 => ?_)
    · exact law_C37 B nm hSc ih v3 m0 m1 m2 m3 m4 m5 m6 m7 m8 m9 m10 m11 m12 m13 m14 m15 m16 m17
    refine XE_tsw (c := 38) (t := 1098) (off := 1066) dL_law_32 (by decide) (by decide) rfl rfl ?_ (fun h38 => ?_)
    · exact law_C38 B nm hSc ih v3 m0 m1 m2 m3 m4 m5 m6 m7 m8 m9 m10 m11 m12 m13 m14 m15 m16 m17
    refine XE_tsw (c := 39) (t := 1111) (off := 1079) dL_law_32 (by decide) (by decide) rfl rfl ?_ (fun h39 => ?_)
    · exact law_C39 B nm hSc ih v3 m0 m1 m2 m3 m4 m5 m6 m7 m8 m9 m10 m11 m12 m13 m14 m15 m16 m17
    refine XE_tsw (c := 40) (t := 1134) (off := 1102) dL_law_32 (by decide) (by decide) rfl rfl ?_ (fun h40 => ?_)
    · exact law_C40 B nm hSc ih v3 m0 m1 m2 m3 m4 m5 m6 m7 m8 m9 m10 m11 m12 m13 m14 m15 m16 m17
    refine XE_tsw (c := 41) (t := 1147) (off := 1115) dL_law_32 (by decide) (by decide) rfl rfl ?_ (fun h41 => ?_)
    · exact law_C41 B nm hSc ih v3 m0 m1 m2 m3 m4 m5 m6 m7 m8 m9 m10 m11 m12 m13 m14 m15 m16 m17
    refine XE_tsw (c := 42) (t := 1160) (off := 1128) dL_law_32 (by decide) (by decide) rfl rfl ?_ (fun h42 => ?_)
    · exact law_C42 B nm hSc ih v3 m0 m1 m2 m3 m4 m5 m6 m7 m8 m9 m10 m11 m12 m13 m14 m15 m16 m17
    refine XE_tsw (c := 43) (t := 1203) (off := 1171) dL_law_32 (by decide) (by decide) rfl rfl ?_ (fun h43 => ?_)
    · exact law_C43 B nm hSc ih v3 m0 m1 m2 m3 m4 m5 m6 m7 m8 m9 m10 m11 m12 m13 m14 m15 m16 m17
    refine XE_tsw (c := 44) (t := 1216) (off := 1184) dL_law_32 (by decide) (by decide) rfl rfl ?_ (fun h44 => ?_)
    · exact law_C44 B nm hSc ih v3 m0 m1 m2 m3 m4 m5 m6 m7 m8 m9 m10 m11 m12 m13 m14 m15 m16 m17
    refine XE_tsw (c := 45) (t := 1229) (off := 1197) dL_law_32 (by decide) (by decide) rfl rfl ?_ (fun h45 => ?_)
    · exact law_C45 B nm hSc ih v3 m0 m1 m2 m3 m4 m5 m6 m7 m8 m9 m10 m11 m12 m13 m14 m15 m16 m17
    refine XE_tswd (t := 1252) dL_law_32 (by have q0 := x_ne h0 (z := 0) (by decide); have q1 := x_ne h1 (z := 1) (by decide); have q2 := x_ne h2 (z := 2) (by decide); have q3 := x_ne h3 (z := 3) (by decide); have q4 := x_ne h4 (z := 4) (by decide); have q5 := x_ne h5 (z := 5) (by decide); have q6 := x_ne h6 (z := 6) (by decide); have q7 := x_ne h7 (z := 7) (by decide); have q8 := x_ne h8 (z := 8) (by decide); have q9 := x_ne h9 (z := 9) (by decide); have q10 := x_ne h10 (z := 10) (by decide); have q11 := x_ne h11 (z := 11) (by decide); have q12 := x_ne h12 (z := 12) (by decide); have q13 := x_ne h13 (z := 13) (by decide); have q14 := x_ne h14 (z := 14) (by decide); have q15 := x_ne h15 (z := 15) (by decide); have q16 := x_ne h16 (z := 16) (by decide); have q17 := x_ne h17 (z := 17) (by decide); have q18 := x_ne h18 (z := 18) (by decide); have q19 := x_ne h19 (z := 19) (by decide); have q20 := x_ne h20 (z := 20) (by decide); have q21 := x_ne h21 (z := 21) (by decide); have q22 := x_ne h22 (z := 22) (by decide); have q23 := x_ne h23 (z := 23) (by decide); have q24 := x_ne h24 (z := 24) (by decide); have q25 := x_ne h25 (z := 25) (by decide); have q26 := x_ne h26 (z := 26) (by decide); have q27 := x_ne h27 (z := 27) (by decide); have q28 := x_ne h28 (z := 28) (by decide); have q29 := x_ne h29 (z := 29) (by decide); have q30 := x_ne h30 (z := 30) (by decide); have q31 := x_ne h31 (z := 31) (by decide); have q32 := x_ne h32 (z := 32) (by decide); have q33 := x_ne h33 (z := 33) (by decide); have q34 := x_ne h34 (z := 34) (by decide); have q35 := x_ne h35 (z := 35) (by decide); have q36 := x_ne h36 (z := 36) (by decide); have q37 := x_ne h37 (z := 37) (by decide); have q38 := x_ne h38 (z := 38) (by decide); have q39 := x_ne h39 (z := 39) (by decide); have q40 := x_ne h40 (z := 40) (by decide); have q41 := x_ne h41 (z := 41) (by decide); have q42 := x_ne h42 (z := 42) (by decide); have q43 := x_ne h43 (z := 43) (by decide); have q44 := x_ne h44 (z := 44) (by decide); have q45 := x_ne h45 (z := 45) (by decide); omega) rfl ?_
    exact law_next B nm ih v3 m0 m1 m2 m3 m4 m5 m6 m7 m8 m9 m10 m11 m12 m13 m14 m15 m16 m17
def SGL_1 : XSs := SH_X ++ [(1088, .inr (.inr (6, [0, 1, 1, 1, 1, 1, 1, 1, 1, 0, 0, 1, 0, 0, 0, 1, 1, 0, 0, 0, 0, 1, 1, 1, 1, 1, 0, 0, 0, 1, 1, 1, 0, 1, 1, 1, 1, 0, 0])))]
def SGL_2 : XSs := [(0, .inr (.inr (5, [67, 131, 195, 0, 259, 835, 899, 1027, 4, 0, 5]))), (1, .inl 12), (2, .inl 7), (64, .inr (.inr (2, [0, 68, 69, 70, 0, 71, 72, 73, 0, 74, 0, 75, 0, 0]))), (65, .inl 7), (66, .inl 7), (67, .inl 7), (68, .inl 7), (69, .inl 7), (70, .inl 7), (71, .inl 7), (72, .inl 2), (128, .inr (.inr (2, [0, 132, 133, 134, 0, 135, 136, 137, 0, 138, 0, 139, 0, 0]))), (129, .inl 7), (130, .inl 7), (131, .inl 7), (132, .inl 7), (133, .inl 7), (134, .inl 7), (135, .inl 7), (136, .inl 2), (192, .inr (.inr (2, [0, 196, 197, 198, 0, 199, 200, 201, 0, 202, 0, 203, 0, 0]))), (193, .inl 7), (194, .inl 7), (195, .inl 7), (196, .inl 7), (197, .inl 7), (198, .inl 7), (199, .inl 7), (200, .inl 2), (256, .inr (.inr (4, [260, 0, 0]))), (257, .inr (.inl [321, 385, 449, 513, 577, 641, 705, 769])), (320, .inr (.inr (2, [0, 324, 325, 326, 0, 327, 328, 329, 0, 330, 0, 331, 0, 0]))), (321, .inl 7), (322, .inl 7), (323, .inl 7), (324, .inl 7), (325, .inl 7), (326, .inl 7), (327, .inl 7), (328, .inl 2), (384, .inr (.inr (2, [0, 388, 389, 390, 0, 391, 392, 393, 0, 394, 0, 395, 0, 0]))), (385, .inl 7), (386, .inl 7), (387, .inl 7), (388, .inl 7), (389, .inl 7), (390, .inl 7), (391, .inl 7), (392, .inl 2), (448, .inr (.inr (2, [0, 452, 453, 454, 0, 455, 456, 457, 0, 458, 0, 459, 0, 0]))), (449, .inl 7), (450, .inl 7), (451, .inl 7), (452, .inl 7), (453, .inl 7), (454, .inl 7), (455, .inl 7), (456, .inl 2), (512, .inr (.inr (2, [0, 516, 517, 518, 0, 519, 520, 521, 0, 522, 0, 523, 0, 0]))), (513, .inl 7), (514, .inl 7), (515, .inl 7), (516, .inl 7), (517, .inl 7), (518, .inl 7), (519, .inl 7), (520, .inl 2), (576, .inr (.inr (2, [0, 580, 581, 582, 0, 583, 584, 585, 0, 586, 0, 587, 0, 0]))), (577, .inl 7), (578, .inl 7), (579, .inl 7), (580, .inl 7), (581, .inl 7), (582, .inl 7), (583, .inl 7), (584, .inl 2), (640, .inr (.inr (2, [0, 644, 645, 646, 0, 647, 648, 649, 0, 650, 0, 651, 0, 0]))), (641, .inl 7), (642, .inl 7), (643, .inl 7), (644, .inl 7), (645, .inl 7), (646, .inl 7), (647, .inl 7), (648, .inl 2), (704, .inr (.inr (2, [0, 708, 709, 710, 0, 711, 712, 713, 0, 714, 0, 715, 0, 0]))), (705, .inl 7), (706, .inl 7), (707, .inl 7), (708, .inl 7), (709, .inl 7), (710, .inl 7), (711, .inl 7), (712, .inl 2), (768, .inr (.inr (2, [0, 772, 773, 774, 0, 775, 776, 777, 0, 778, 0, 779, 0, 0]))), (769, .inl 7), (770, .inl 7), (771, .inl 7), (772, .inl 7), (773, .inl 7), (774, .inl 7), (775, .inl 7), (776, .inl 2), (832, .inr (.inr (3, [836, 0]))), (833, .inl 96), (896, .inr (.inr (0, [963, 900, 901, 0, 0]))), (897, .inl 7), (898, .inl 7), (960, .inr (.inr (2, [0, 964, 965, 966, 0, 967, 968, 969, 0, 970, 0, 971, 0, 0]))), (961, .inl 7), (962, .inl 7), (963, .inl 7), (964, .inl 7), (965, .inl 7), (966, .inl 7), (967, .inl 7), (968, .inl 2), (1024, .inr (.inr (1, [1028, 0, 0]))), (1025, .inl 7), (1088, .inr (.inr (6, [0, 1092, 1093, 1094, 1095, 1096, 1097, 1098, 1099, 0, 0, 1100, 0, 0, 0, 1101, 1102, 0, 0, 0, 0, 1103, 1104, 1105, 1106, 1107, 0, 0, 0, 1, 1108, 1109, 0, 1110, 1111, 1112, 1113, 0, 0]))), (1089, .inl 7), (1090, .inl 7), (1091, .inl 7), (1092, .inl 7), (1093, .inl 7), (1094, .inl 7), (1095, .inl 7), (1096, .inl 7), (1097, .inl 2), (1098, .inl 7), (1099, .inl 96), (1100, .inl 49), (1101, .inl 49), (1102, .inl 147), (1103, .inl 63), (1104, .inl 63), (1105, .inl 504), (1106, .inl 63), (1107, .inl 7), (1108, .inl 7), (1109, .inl 8), (1110, .inl 12)]
set_option maxRecDepth 100000 in
theorem xe_law (B : XB) (hN : XNb B) (nm : String) {L : Nat} {sc : Nat → Int32} (hSc : XSc B L sc) (h : f_law_L L sc 6000 0 MI_X6_0 MI_X6_1 MI_X6_2 MI_X6_3 MI_X6_4 MI_X6_5 MI_X6_6 MI_X6_7 MI_X6_8 MI_X6_9 MI_X6_10 MI_X6_11 MI_X6_12 MI_X6_13 MI_X6_14 MI_X6_15 MI_X6_16 MI_X7_0 = some ()) : XE B (M_law nm) (fun _ : Unit => XZ B) 0 [(0, some (.ref 4095))] [] (0, 0) [] [] (fun t : Unit => some t) (some ()) := by
  refine XE_new (key := 0) (shs2 := [(0, .inr (.inr (5, [1, 1, 1, 0, 1, 1, 1, 1, 1, 0, 1])))]) (hs2 := [z_]) xn_L_7 (by decide +kernel) (by decide +kernel) ⟨Nat.le_of_ble_eq_true rfl, Nat.le_of_ble_eq_true rfl⟩ (x_sse_eq (by decide +kernel)) rfl rfl (by decide +kernel) (by decide +kernel) dL_law_0 (n := 3) rfl ?_
  refine XE_dup (n := 4) dL_law_3 rfl rfl ?_
  refine XE_callA (π := [0]) (π2 := [0, 1, 2, 3, 4, 5, 6, 7, 8, 9, 10, 11, 12, 13, 14, 15, 16]) (co := []) (cv := []) (KF := [0, 64, 65, 66, 67, 68, 69, 70, 71, 72, 128, 129, 130, 131, 132, 133, 134, 135, 136, 192, 193, 194, 195, 196, 197, 198, 199, 200, 256, 257, 320, 321, 322, 323, 324, 325, 326, 327, 328, 384, 385, 386, 387, 388, 389, 390, 391, 392, 448, 449, 450, 451, 452, 453, 454, 455, 456, 512, 513, 514, 515, 516, 517, 518, 519, 520, 576, 577, 578, 579, 580, 581, 582, 583, 584, 640, 641, 642, 643, 644, 645, 646, 647, 648, 704, 705, 706, 707, 708, 709, 710, 711, 712, 768, 769, 770, 771, 772, 773, 774, 775, 776, 832, 833, 896, 960, 961, 962, 963, 964, 965, 966, 967, 968, 897, 898, 1024, 1025, 1, 2]) (NK := [64, 65, 66, 67, 68, 69, 70, 71, 72, 128, 129, 130, 131, 132, 133, 134, 135, 136, 192, 193, 194, 195, 196, 197, 198, 199, 200, 256, 257, 320, 321, 322, 323, 324, 325, 326, 327, 328, 384, 385, 386, 387, 388, 389, 390, 391, 392, 448, 449, 450, 451, 452, 453, 454, 455, 456, 512, 513, 514, 515, 516, 517, 518, 519, 520, 576, 577, 578, 579, 580, 581, 582, 583, 584, 640, 641, 642, 643, 644, 645, 646, 647, 648, 704, 705, 706, 707, 708, 709, 710, 711, 712, 768, 769, 770, 771, 772, 773, 774, 775, 776, 832, 833, 896, 960, 961, 962, 963, 964, 965, 966, 967, 968, 897, 898, 1024, 1025, 1, 2]) (d := 3) (mc := 119) (ms := 937) (shsF := SI_X6) (mr := MI_X6) (shs2 := SH_X) (hs2 := [MI_X6_0, MI_X6_1, MI_X6_2, MI_X6_3, MI_X6_4, MI_X6_5, MI_X6_6, MI_X6_7, MI_X6_8, MI_X6_9, MI_X6_10, MI_X6_11, MI_X6_12, MI_X6_13, MI_X6_14, MI_X6_15, MI_X6_16]) (c1 := 120) (s1 := 948) xi_L_9 hN met_X6_init rfl dL_law_4 (Nat.le_of_ble_eq_true rfl) ⟨Nat.le_of_ble_eq_true rfl, Nat.le_of_ble_eq_true rfl⟩ (Nat.le_of_ble_eq_true rfl) (Nat.le_of_ble_eq_true rfl) (by decide +kernel) (by decide +kernel) (by decide +kernel) (by decide +kernel) rfl rfl rfl rfl rfl rfl (n := 7) rfl ?_
  refine XE_astore_n (i := 1) (n := 8) dL_law_7 rfl rfl (Nat.le_of_ble_eq_true rfl) rfl ?_
  refine XE_new (key := 1088) (shs2 := SGL_1) (hs2 := [MI_X6_0, MI_X6_1, MI_X6_2, MI_X6_3, MI_X6_4, MI_X6_5, MI_X6_6, MI_X6_7, MI_X6_8, MI_X6_9, MI_X6_10, MI_X6_11, MI_X6_12, MI_X6_13, MI_X6_14, MI_X6_15, MI_X6_16, z_]) xn_L_10 (by decide +kernel) (by decide +kernel) ⟨Nat.le_of_ble_eq_true rfl, Nat.le_of_ble_eq_true rfl⟩ (x_sse_eq (by decide +kernel)) rfl rfl (by decide +kernel) (by decide +kernel) dL_law_8 (n := 11) rfl ?_
  refine XE_dup (n := 12) dL_law_11 rfl rfl ?_
  refine XE_callA (π := [17]) (π2 := [17]) (co := [0, 1, 2, 3, 4, 5, 6, 7, 8, 9, 10, 11, 12, 13, 14, 15, 16]) (cv := [MI_X6_0, MI_X6_1, MI_X6_2, MI_X6_3, MI_X6_4, MI_X6_5, MI_X6_6, MI_X6_7, MI_X6_8, MI_X6_9, MI_X6_10, MI_X6_11, MI_X6_12, MI_X6_13, MI_X6_14, MI_X6_15, MI_X6_16]) (KF := [1088, 1089, 1090, 1091, 1092, 1093, 1094, 1095, 1096, 1097, 1098, 1099, 1100, 1101, 1102, 1103, 1104, 1105, 1106, 1107, 1108, 1109, 1110]) (NK := [1089, 1090, 1091, 1092, 1093, 1094, 1095, 1096, 1097, 1098, 1099, 1100, 1101, 1102, 1103, 1104, 1105, 1106, 1107, 1108, 1109, 1110]) (d := 1) (mc := 22) (ms := 1133) (shsF := SI_X7) (mr := MI_X7) (shs2 := SGL_2) (hs2 := [MI_X6_0, MI_X6_1, MI_X6_2, MI_X6_3, MI_X6_4, MI_X6_5, MI_X6_6, MI_X6_7, MI_X6_8, MI_X6_9, MI_X6_10, MI_X6_11, MI_X6_12, MI_X6_13, MI_X6_14, MI_X6_15, MI_X6_16, MI_X7_0]) (c1 := 143) (s1 := 2120) xi_L_12 hN met_X7_init rfl dL_law_12 (Nat.le_of_ble_eq_true rfl) ⟨Nat.le_of_ble_eq_true rfl, Nat.le_of_ble_eq_true rfl⟩ (Nat.le_of_ble_eq_true rfl) (Nat.le_of_ble_eq_true rfl) (by decide +kernel) (by decide +kernel) (by decide +kernel) (by decide +kernel) rfl rfl rfl rfl rfl rfl (n := 15) rfl ?_
  refine XE_resh (shs2 := SH_XM) (fun cc ad => rfl) (by decide +kernel) ?_
  refine XE_astore_n (i := 2) (n := 16) dL_law_15 rfl rfl (Nat.le_of_ble_eq_true rfl) rfl ?_
  refine XE_iconst (v := 0) (n := 17) dL_law_16 rfl (by decide) ?_
  refine XE_istore_n (i := 3) (n := 18) dL_law_17 rfl rfl (Nat.le_of_ble_eq_true rfl) rfl ?_
  refine XE_ls (x_sub_ok (ls' := [(0, some (.ref 4095)), (1, some (.ref 0)), (2, some (.ref 1088)), (3, some (.int 0))]) ⟨rfl, rfl, rfl, rfl, trivial⟩) ?_
  rw [← h]
  exact law_L B nm hSc 6000 0 MI_X6_0 MI_X6_1 MI_X6_2 MI_X6_3 MI_X6_4 MI_X6_5 MI_X6_6 MI_X6_7 MI_X6_8 MI_X6_9 MI_X6_10 MI_X6_11 MI_X6_12 MI_X6_13 MI_X6_14 MI_X6_15 MI_X6_16 MI_X7_0
