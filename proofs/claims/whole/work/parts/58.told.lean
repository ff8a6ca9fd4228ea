/-! HALLS told in letters: the model reads all; what each statement does -/
section HALL4
variable {A B C : AM} {m0 h1 h m2 m3 m4 m13 M : Mem} {ks : List Mem} {L : Nat → Nat} {n : Nat} {W : Mem}
def FR (W W' : Mem) : Prop := ∀ p j, ¬ (p = 0 ∧ (j = 18 ∨ j = 19 ∨ j = 20)) → p ≠ 12 → p ≠ 13 → p ≠ 14 → W' p j = W p j
theorem SF.fr {v : Nat} {W' : Mem} (a : SF v W W') : FR W W' := fun p j h h1 h2 h3 => a p j h (fun z => h1 z.1) (fun z => h2 z.1) (fun z => h3 z.1)
theorem FR.tr {W1 W2 : Mem} (a : FR W W1) (b : FR W1 W2) : FR W W2 := fun p j h g i k => by rw [b p j h g i k, a p j h g i k]
def QS (L : Nat → Nat) (n v : Nat) (W : Mem) : Prop := LM L n W ∧ W 0 18 = nI (sp L v) ∧ W 0 19 = 0 ∧ W 0 20 = nI v ∧ ∀ u, u < v → ST L u (sp L u) W
theorem ST.sf {u v p : Nat} {W' : Mem} (s : ST L u p W) (f : SF v W W') (h : u < v) : ST L u p W' := ⟨by rw [f 12 u (by omega) (by omega) (by omega) (by omega)]; exact s.1, by rw [f 13 u (by omega) (by omega) (by omega) (by omega)]; exact s.2.1, by rw [f 14 (3 * u) (by omega) (by omega) (by omega) (by omega)]; exact s.2.2.1, fun z => ⟨by rw [f 14 (3 * u + 1) (by omega) (by omega) (by omega) (by omega)]; exact (s.2.2.2 z).1, by rw [f 14 (3 * u + 2) (by omega) (by omega) (by omega) (by omega)]; exact (s.2.2.2 z).2⟩⟩
theorem M_L20s {f v : Nat} (q : QS L n v W) (h0 : sp L v < n) (hv : v ≤ 33) : f_X7_hall_L20 (f + 1) (pm A W) = (f_X7_readStatement (pm A W)).bind fun t6 => f_X7_hall_L20 f t6 := by
  obtain ⟨l, q18, q19, q20, -⟩ := q
  have l1 := l.1
  rw [f_X7_hall_L20, pm_0_19, q19, if_pos rfl, pm_0_20, q20]
  by_cases z : v = 0
  · subst z
    rw [if_pos (show nI 0 = (0 : Int32) from rfl)]
  · have nz : ¬ nI v = (0 : Int32) := by
      rw [show (0 : Int32) = nI 0 from rfl, nI_eq (by omega) (by omega)]
      exact z
    rw [if_neg nz, pm_0_17, l.2.1, pm_0_18, q18, if_neg (nI_ge h0 (by omega))]
theorem M_read (l : LM L n W) (hn : 0 < n) (h18 : W 0 18 = 0) (h19 : W 0 19 = 0) (h20 : W 0 20 = 0) : ∀ v f, okS L n v → ∃ W', f_X7_hall_L20 (f + v) (pm A W) = f_X7_hall_L20 f (pm A W') ∧ QS L n v W' ∧ FR W W'
  | 0, f, _ => ⟨W, rfl, ⟨l, h18, h19, h20, fun u hu => by omega⟩, fun _ _ _ _ _ _ => rfl⟩
  | v + 1, f, h => by
    have l1 := l.1
    have hv' : okS L n v := fun u hu => h u (by omega)
    have hsp := okS_sp hn v hv'
    obtain ⟨W1, g1, g2, g3⟩ := M_read l hn h18 h19 h20 v (f + 1) hv'
    obtain ⟨a1, a2⟩ := h v (by omega)
    obtain ⟨W2, s1, s2, s3, s4⟩ := M_stmt (A := A) g2.1 (Or.inl a1) (by omega) g2.2.1 g2.2.2.1 g2.2.2.2.1
    rcases s4 with ⟨q, q1, -⟩ | ⟨-, -, s5, s6, s7⟩
    · rw [a2] at q1
      cases q1 a1
    · refine ⟨W2, ?_, ⟨g2.1.sf s2, s5, s6, s3, fun u hu => ?_⟩, g3.tr s2.fr⟩
      · rw [show f + (v + 1) = (f + 1) + v by omega, g1, M_L20s g2 a1 (by omega), s1, Option.bind_some]
      · rcases (by omega : u < v ∨ u = v) with y | rfl
        · exact (g2.2.2.2.2 u y).sf s2 y
        · exact s7
theorem M_parse (x : LX L n m13) (l : LM L n W) (h18 : W 0 18 = 0) (h19 : W 0 19 = 0) (h20 : W 0 20 = 0) : ∃ W', f_X7_hall_L20 6000 (pm A W) = some (pm A W') ∧ FR W W' ∧ ((∃ c, 0 < n ∧ 0 < c ∧ c ≤ 33 ∧ okS L n c ∧ sp L c = n ∧ QS L n c W' ∧ f_X4_faultyPlace m13 = some (-1)) ∨ ∃ q, q ≤ 200 ∧ f_X4_faultyPlace m13 = some (nI q) ∧ W' 0 18 = nI q ∧ W' 0 19 = 1) := by
  have x1 := x.1
  have z1 : ¬ (1 : Int32) = 0 := by decide
  rcases Nat.eq_zero_or_pos n with e | hn
  · obtain ⟨W2, s1, s2, s3, s4⟩ := M_stmt (A := A) (p := 0) (v := 0) l (Or.inr ⟨e, rfl⟩) (by omega) h18 h19 h20
    rcases s4 with ⟨q, -, q2, q3, q4⟩ | ⟨y, -⟩
    · have := q2 (by omega)
      subst this
      refine ⟨W2, ?_, s2.fr, Or.inr ⟨0, by omega, ?_, q3, q4⟩⟩
      · show f_X7_hall_L20 (5998 + 1 + 1) _ = _
        rw [f_X7_hall_L20, pm_0_19, h19, if_pos rfl, pm_0_20, h20, if_pos rfl, s1, Option.bind_some, f_X7_hall_L20, pm_0_19, q4, if_neg z1]
      · unfold f_X4_faultyPlace
        rw [x.2.1, e, if_pos (show nI 0 = (0 : Int32) from rfl)]
        rfl
    · omega
  · rcases okS_or hn x1 40 0 (by omega) (fun u hu => by omega) with ⟨c, c1, c2⟩ | ⟨c, q, c1, c2, c3⟩
    · have hsp := okS_sp hn c c1
      have c0 : 0 < c := by
        rcases Nat.eq_zero_or_pos c with z | z
        · rw [z] at c2
          have : (0 : Nat) = n := c2
          omega
        · exact z
      obtain ⟨W1, g1, g2, g3⟩ := M_read (A := A) l hn h18 h19 h20 c (6000 - c) c1
      rw [show 6000 - c + c = 6000 by omega] at g1
      have nz : ¬ nI c = (0 : Int32) := by
        rw [show (0 : Int32) = nI 0 from rfl, nI_eq (by omega) (by omega)]
        omega
      refine ⟨W1, ?_, g3, Or.inl ⟨c, hn, c0, by omega, c1, c2, g2, X_faulty_ok x hn c1 c2⟩⟩
      rw [g1, show 6000 - c = (5999 - c) + 1 by omega, f_X7_hall_L20, pm_0_19, g2.2.2.1, if_pos rfl, pm_0_20, g2.2.2.2.1, if_neg nz, pm_0_17, g2.1.2.1, pm_0_18, g2.2.1, c2, if_pos (nI_le (Nat.le_refl _) (by omega))]
    · have hsp := okS_sp hn c c1
      obtain ⟨W1, g1, g2, g3⟩ := M_read (A := A) l hn h18 h19 h20 c (6000 - c) c1
      rw [show 6000 - c + c = 6000 by omega] at g1
      obtain ⟨W2, s1, s2, s3, s4⟩ := M_stmt (A := A) g2.1 (Or.inl c2) (by omega) g2.2.1 g2.2.2.1 g2.2.2.2.1
      have hq : q ≤ 200 := by
        unfold stF at c3
        have d5 := dbN_le (L (sp L c))
        by_cases z : dbN (L (sp L c)) = 0
        · rw [if_pos z] at c3
          cases c3
          omega
        · rw [if_neg z] at c3
          cases y : fdg L n (dbN (L (sp L c))) (sp L c + 1) with
          | some k =>
            rw [y] at c3
            cases c3
            have := fdg_ge _ _ _ y
            omega
          | none =>
            rw [y] at c3
            dsimp only at c3
            split at c3 <;> cases c3
            omega
      rcases s4 with ⟨k, k1, -, k3, k4⟩ | ⟨-, y, -⟩
      · have := k1 c2
        rw [c3] at this
        cases this
        refine ⟨W2, ?_, g3.tr s2.fr, Or.inr ⟨q, hq, X_faulty_no x hn c1 c2 c3, k3, k4⟩⟩
        rw [g1, show 6000 - c = (5998 - c) + 1 + 1 by omega, M_L20s g2 c2 (by omega), s1, Option.bind_some, f_X7_hall_L20, pm_0_19, k4, if_neg z1]
      · rw [c3] at y
        cases y
/-- what a statement does -/
theorem M_comes_no {k f a : Nat} (hk : k ≤ 100) (ha : a ≤ 1000) (w1 : B 0 0 ≤ 7) (hno : 6 ≤ k ∨ 240 < a ∨ B 0 0 = 7) : f_X7_coupleComes (pm B W) (nI k) (nI f) (nI a) = some (0, pm B W) := by
  have ib0 : isb (0 : Int32) = true := by decide
  have e1 : ((6 : Int32) ≤ nI k) = (6 ≤ k) := na_le (a := 6) (by omega) (by omega)
  have e2 : ((240 : Int32) < nI a) = (240 < a) := na_ltI (a := 240) (by omega) (by omega)
  have e3 : ((7 : Int32) ≤ nI (B 0 0)) = (7 ≤ B 0 0) := na_le (a := 7) (by omega) (by omega)
  have t : (if (6 : Int32) ≤ nI k then (0 : Int32) else if (240 : Int32) < nI a then 0 else if (7 : Int32) ≤ nI (B 0 0) then 0 else 1) = 0 := by
    simp only [e1, e2, e3]
    by_cases z1 : 6 ≤ k
    · rw [if_pos z1]
    · rw [if_neg z1]
      by_cases z2 : 240 < a
      · rw [if_pos z2]
      · rw [if_neg z2, if_pos (by omega)]
  unfold f_X7_coupleComes
  rw [pm_0_0, t, na_lt, if_pos rfl, ib0, na_ck]
theorem M_weds_no {a : Nat} (ha : a ≤ 100) (w3 : B 0 8 ≤ 7) (hno : a < 1 ∨ B 0 8 < a) : f_X7_wedsCome (pm B W) (nI a) = some (0, pm B W) := by
  have ib0 : isb (0 : Int32) = true := by decide
  have z1 : ¬ (1 : Int32) = 0 := by decide
  have hi : f_X7_in (nI a).toInt64 1 7 = some (if nI 1 ≤ nI a ∧ nI a ≤ nI 7 then 1 else 0) := na_inK _ (k := 1) (m := 7) (by omega) (by omega)
  have e1 : (nI 1 ≤ nI a) = (1 ≤ a) := na_le (by omega) (by omega)
  have e2 : (nI a ≤ nI 7) = (a ≤ 7) := na_le (by omega) (by omega)
  have e3 : (nI (B 0 8) < nI a) = (B 0 8 < a) := na_ltI (by omega) (by omega)
  have t : (if (if 1 ≤ a ∧ a ≤ 7 then (1 : Int32) else 0) = 0 then (0 : Int32) else if B 0 8 < a then 0 else 1) = 0 := by
    by_cases y : 1 ≤ a ∧ a ≤ 7
    · rw [if_pos y, if_neg z1, if_pos (by omega)]
    · rw [if_neg y, if_pos rfl]
  have lo : f_X7_wedsCome_L28 (nI a) 0 6000 0 (pm B W) = some (pm B W) := by
    show f_X7_wedsCome_L28 _ _ (5999 + 1) _ _ = _
    rw [f_X7_wedsCome_L28]
    split
    · rfl
    · rw [if_pos rfl]
  unfold f_X7_wedsCome
  rw [hi, Option.bind_some, pm_0_9]
  simp only [e1, e2, e3]
  rw [t, na_lt, lo, Option.bind_some, ib0, na_ck]
def S91 (W W' : Mem) : Prop := ∀ p j, ¬ (p = 9 ∧ j = 1) → W' p j = W p j
theorem S91.rf : S91 W W := fun _ _ _ => rfl
theorem cmd (x : LX L n m13) (wf : WF B) {p v : Nat} (hp : p < n) (hv : v ≤ 33) (hs : stF L n p = none) (st : ST L v p W) : ∃ (b : Bool) (B' : AM) (W' : Mem), WF B' ∧ f_X4_obeyed m13 (px B h) (nI p) = some (if b then 1 else 0, px B' h) ∧ f_X7_comesTold (pm B W) (nI v) = some (if b then 1 else 0, pm B' W') ∧ S91 W W' := by
  obtain ⟨s1, s2, s3, s4⟩ := stF_db hs
  obtain ⟨t1, t2, t3, t4⟩ := st
  have x1 := x.1
  obtain ⟨y1, y2⟩ := x.2.2 p hp
  have wb := wf.1
  have w1 := wb.1
  have w3 := wb.2.2.1
  have ib0 : isb (0 : Int32) = true := by decide
  have ib1 : isb (1 : Int32) = true := by decide
  have z1 : ¬ (1 : Int32) = 0 := by decide
  have m3 : (3 : Int32) * nI v = nI (3 * v) := pk_mul 3 v
  have i0 : inb (nI (3 * v)) 147 = true := na_inb (by omega) (by omega)
  have i1 : inb (nI (3 * v) + 1) 147 = true := by rw [nI_1]; exact na_inb (by omega) (by omega)
  have i2 : inb (nI (3 * v) + 2) 147 = true := by rw [show nI (3 * v) + 2 = nI (3 * v + 2) from nI_add _ 2]; exact na_inb (by omega) (by omega)
  have x0 : ix (nI (3 * v)) = 3 * v := na_ix (by omega)
  have x11 : ix (nI (3 * v) + 1) = 3 * v + 1 := by rw [nI_1]; exact na_ix (by omega)
  have x12 : ix (nI (3 * v) + 2) = 3 * v + 2 := by rw [show nI (3 * v) + 2 = nI (3 * v + 2) from nI_add _ 2]; exact na_ix (by omega)
  have i49 : inb (nI v) 49 = true := na_inb (by omega) (by omega)
  have xv : ix (nI v) = v := na_ix (by omega)
  have i96 : inb (nI p) 96 = true := na_inb (by omega) (by omega)
  have xp : ix (nI p) = p := na_ix (by omega)
  have p1 : nI p + 1 = nI (p + 1) := nI_1 p
  have hx : f_X4_obeyed m13 (px B h) (nI p) = (if nI (L p) = 99 then
    (f_X4_coupleComes m13 (px B h) (nI p)).bind fun t2 =>
    ck (isb t2.1) <|
    some (t2.1, t2.2)
  else
    if nI (L p) = 102 then
      (f_X4_number m13 (nI (p + 1)) 1).bind fun t5 =>
      (f_X4_putFirst (px B h) t5).bind fun t6 =>
      ck (isb t6.1) <|
      some (t6.1, t6.2)
    else
      if nI (L p) = 114 then
        (f_X4_number m13 (nI (p + 1)) 1).bind fun t9 =>
        (f_X4_roomsOpened (px B h) t9).bind fun t10 =>
        ck (isb t10.1) <|
        some (t10.1, t10.2)
      else
        if nI (L p) = 115 then
          (f_X4_number m13 (nI (p + 1)) 1).bind fun t13 =>
          lt (xs (px B h) 0 13 t13) fun w14 =>
          some ((1 : Int32), w14)
        else
          if nI (L p) = 119 then
            (f_X4_number m13 (nI (p + 1)) 1).bind fun t16 =>
            (f_X4_someWed (px B h) t16).bind fun t17 =>
            ck (isb t17.1) <|
            some (t17.1, t17.2)
          else
            (f_X4_number m13 (nI (p + 1)) 2).bind fun t19 =>
            (f_X4_clerkRests (px B h) t19).bind fun t20 =>
            ck (isb t20.1) <|
            some (t20.1, t20.2)) := by
    unfold f_X4_obeyed
    rw [i96, na_ck, xp, y1, p1]
  have hm : ∀ N, W 14 (3 * v) = nI N → f_X7_comesTold (pm B W) (nI v) = (if nI (L p) = 99 then
    (f_X7_coupleComes (pm B W) (nI N) (W 14 (3 * v + 1)) (W 14 (3 * v + 2))).bind fun t3 =>
    ck (isb t3.1) <|
    some (t3.1, t3.2)
  else
    if nI (L p) = 102 then
      (f_X7_isCouple (pm B W) (nI N)).bind fun t6 =>
      (if t6 = 0 then
         some ((0 : Int32))
       else
         ck (inb (nI N) 7) <|
         if (pm B W 4 (ix (nI N))) = 0 then
           some ((1 : Int32))
         else
           some ((0 : Int32))).bind fun t13 =>
      if t13 = 0 then
        ck (isb t13) <|
        some (t13, pm B W)
      else
        (f_X7_putFirst (pm B W) (nI N)).bind fun t15 =>
        ck (isb t13) <|
        some (t13, t15)
    else
      if nI (L p) = 114 then
        (f_X7_in ((nI N : Int32).toInt64) 1 2).bind fun t19 =>
        if t19 = 0 then
          ck (isb t19) <|
          some (t19, pm B W)
        else
          (f_X7_roomsBecome (pm B W) (nI N)).bind fun t21 =>
          ck (isb t19) <|
          some (t19, t21)
      else
        if nI (L p) = 115 then
          lt (xs (pm B W) 0 13 (nI N)) fun w25 =>
          some ((1 : Int32), w25)
        else
          if nI (L p) = 119 then
            (f_X7_wedsCome (pm B W) (nI N)).bind fun t27 =>
            ck (isb t27.1) <|
            some (t27.1, t27.2)
          else
            (f_X7_in ((nI N : Int32).toInt64) 1 30).bind fun t29 =>
            if t29 = 0 then
              ck (isb t29) <|
              some (t29, pm B W)
            else
              (f_X7_restFor (pm B W) (nI N)).bind fun t31 =>
              ck (isb t29) <|
              some (t29, t31)) := fun N hN => by
    unfold f_X7_comesTold
    rw [m3, i0, na_ck, x0, pm_14, hN, na_lt, i49, na_ck, xv, pm_13, t2, i1, na_ck, i2, na_ck, x11, x12, pm_14, pm_14]
  have hm1 := hm _ t3
  have one : ∀ a : Nat, fdg L n 1 a = none → a < 200 → nv L a 1 ≤ 9 ∧ f_X4_number m13 (nI a) 1 = some (nI (nv L a 1)) := fun a ha h2 => by
    have := nv_lt ha 1 (Nat.le_refl _)
    exact ⟨by omega, X_number x (r := 1) (by omega) h2 ha⟩
  have cs : L p = 98 ∨ L p = 99 ∨ L p = 102 ∨ L p = 114 ∨ L p = 115 ∨ L p = 119 := by
    by_cases a1 : L p = 98
    · exact Or.inl a1
    by_cases a2 : L p = 99
    · exact Or.inr (Or.inl a2)
    by_cases a3 : L p = 102
    · exact Or.inr (Or.inr (Or.inl a3))
    by_cases a4 : L p = 114
    · exact Or.inr (Or.inr (Or.inr (Or.inl a4)))
    by_cases a5 : L p = 115
    · exact Or.inr (Or.inr (Or.inr (Or.inr (Or.inl a5))))
    by_cases a6 : L p = 119
    · exact Or.inr (Or.inr (Or.inr (Or.inr (Or.inr a6))))
    · exfalso
      apply s1
      unfold dbN
      rw [if_neg a1, if_neg a2, if_neg a3, if_neg a4, if_neg a5, if_neg a6]
  rcases cs with c | c | c | c | c | c
  · -- the clerk rests
    have d : dbN (L p) = 2 := by rw [c]; rfl
    rw [d] at s2
    have l2 := nv_lt s2 2 (by omega)
    have nx : f_X4_number m13 (nI (p + 1)) 2 = some (nI (nv L (p + 1) 2)) := X_number x (r := 2) (by omega) (by omega) s2
    have N : N1 L p = nv L (p + 1) 2 := by unfold N1; rw [if_pos c]
    rw [N] at hm1
    generalize nv L (p + 1) 2 = a at *
    rw [c, if_neg (by decide), if_neg (by decide), if_neg (by decide), if_neg (by decide), if_neg (by decide), nx, Option.bind_some] at hx
    have hi : f_X7_in (nI a).toInt64 1 30 = some (if nI 1 ≤ nI a ∧ nI a ≤ nI 30 then 1 else 0) := na_inK _ (k := 1) (m := 30) (by omega) (by omega)
    have e1 : (nI 1 ≤ nI a) = (1 ≤ a) := na_le (by omega) (by omega)
    have e2 : (nI a ≤ nI 30) = (a ≤ 30) := na_le (by omega) (by omega)
    have e3 : (nI a < (1 : Int32)) = (a < 1) := na_ltI (b := 1) (by omega) (by omega)
    have e4 : (nI a ≤ (30 : Int32)) = (a ≤ 30) := na_le (b := 30) (by omega) (by omega)
    rw [c, if_neg (by decide), if_neg (by decide), if_neg (by decide), if_neg (by decide), if_neg (by decide), hi, Option.bind_some] at hm1
    simp only [e1, e2] at hm1
    unfold f_X4_clerkRests at hx
    simp only [e3, e4] at hx
    by_cases y : 1 ≤ a ∧ a ≤ 30
    · refine ⟨true, reA B a, W, WF_reA wf, ?_, ?_, S91.rf⟩
      · rw [hx, if_neg (by omega), if_pos y.2, X_restClerk wb (by omega), Option.bind_some, Option.bind_some, ib1, na_ck]
        rfl
      · rw [hm1, if_pos y, if_neg z1, M_restFor wb (by omega), Option.bind_some, ib1, na_ck]
        rfl
    · refine ⟨false, B, W, wf, ?_, ?_, S91.rf⟩
      · rw [hx]
        by_cases y1 : a < 1
        · rw [if_pos y1, Option.bind_some, ib0, na_ck]
          rfl
        · rw [if_neg y1, if_neg (by omega), Option.bind_some, ib0, na_ck]
          rfl
      · rw [hm1, if_neg y, if_pos rfl, ib0, na_ck]
        rfl
  · -- a couple comes
    have d : dbN (L p) = 1 + (1 + 3) := by rw [c]; rfl
    rw [d, fdg_oth, fdg_oth] at s2
    have u1 : fdg L n 1 (p + 1) = none := by
      cases q : fdg L n 1 (p + 1) with
      | none => rfl
      | some k => rw [q] at s2; cases s2
    rw [u1, oth_none] at s2
    have u2 : fdg L n 1 (p + 1 + 1) = none := by
      cases q : fdg L n 1 (p + 1 + 1) with
      | none => rfl
      | some k => rw [q] at s2; cases s2
    rw [u2, oth_none] at s2
    obtain ⟨k9, nk⟩ := one _ u1 (by omega)
    obtain ⟨f9, nf⟩ := one _ u2 (by omega)
    have l3 := nv_lt s2 3 (by omega)
    have n3 : f_X4_number m13 (nI (p + 3)) 3 = some (nI (nv L (p + 3) 3)) := X_number x (r := 3) (by omega) (by omega) s2
    have N : N1 L p = nv L (p + 1) 1 := by unfold N1; rw [if_neg (by omega)]
    obtain ⟨t5, t6⟩ := t4 c
    rw [N, t5, t6] at hm1
    rw [show p + 1 + 1 = p + 2 by omega] at nf f9
    have p2 : nI p + 2 = nI (p + 2) := nI_add p 2
    have p3 : nI p + 3 = nI (p + 3) := nI_add p 3
    rw [c, if_pos (show nI 99 = (99 : Int32) from rfl)] at hx hm1
    unfold f_X4_coupleComes at hx
    rw [p1, nk, Option.bind_some, p3, n3, Option.bind_some, p2, nf] at hx
    generalize nv L (p + 1) 1 = k at *
    generalize nv L (p + 2) 1 = fg at *
    generalize nv L (p + 3) 3 = t at *
    have e2 : ((240 : Int32) < nI t) = (240 < t) := na_ltI (a := 240) (by omega) (by omega)
    simp only [e2] at hx
    by_cases k6 : k < 6
    · rw [X_isOne_in k6, Option.bind_some, if_neg z1] at hx
      by_cases t240 : 240 < t
      · refine ⟨false, B, W, wf, ?_, ?_, S91.rf⟩
        · rw [hx, if_pos t240, Option.bind_some, ib0, na_ck]
          rfl
        · rw [hm1, M_comes_no (by omega) (by omega) w1 (by omega), Option.bind_some, ib0, na_ck]
          rfl
      · rw [if_neg t240] at hx
        by_cases n7 : B 0 0 = 7
        · refine ⟨false, B, W, wf, ?_, ?_, S91.rf⟩
          · rw [hx, X_full7 n7, Option.bind_some, if_neg z1, Option.bind_some, ib0, na_ck]
            rfl
          · rw [hm1, M_comes_no (by omega) (by omega) w1 (by omega), Option.bind_some, ib0, na_ck]
            rfl
        · have n7' : B 0 0 < 7 := by omega
          refine ⟨true, adA B k fg t, W, WF_adA wf n7' k6 f9 (by omega), ?_, ?_, S91.rf⟩
          · rw [hx, X_full wb n7', Option.bind_some, if_pos rfl, Option.bind_some, X_add wf n7', Option.bind_some, Option.bind_some, ib1, na_ck]
            rfl
          · rw [hm1, M_comes wf n7' k6 (by omega), Option.bind_some, ib1, na_ck]
            rfl
    · have ho : out (nI k) 6 := Or.inr (nI_le (by omega) (by omega))
      refine ⟨false, B, W, wf, ?_, ?_, S91.rf⟩
      · rw [hx, X_isOne_out ho, Option.bind_some, if_pos rfl, Option.bind_some, ib0, na_ck]
        rfl
      · rw [hm1, M_comes_no (by omega) (by omega) w1 (by omega), Option.bind_some, ib0, na_ck]
        rfl
  · -- one is put first
    have d : dbN (L p) = 1 := by rw [c]; rfl
    rw [d] at s2
    obtain ⟨a9, nx⟩ := one _ s2 (by omega)
    have N : N1 L p = nv L (p + 1) 1 := by unfold N1; rw [if_neg (by omega)]
    rw [N] at hm1
    generalize nv L (p + 1) 1 = a at *
    rw [c, if_neg (by decide), if_pos (show nI 102 = (102 : Int32) from rfl)] at hx hm1
    rw [nx, Option.bind_some] at hx
    unfold f_X4_putFirst at hx
    by_cases ha : a < B 0 0
    · have p4 : pm B W 4 a = nI (B 0 4 / 2 ^ a % 2) := pm_4 (by omega)
      rw [X_has_in wb ha, Option.bind_some, if_neg z1, X_isWed wb (by omega), Option.bind_some] at hx
      rw [M_has_in wb ha, Option.bind_some, if_neg z1, na_inb (by omega) (by omega), na_ck, na_ix (by omega), p4] at hm1
      by_cases u : uw B a
      · refine ⟨true, pff B a, W, pff_WF wf ha u, ?_, ?_, S91.rf⟩
        · rw [hx, if_pos (uw_0 u), X_pff wf ha u, Option.bind_some, Option.bind_some, ib1, na_ck]
          rfl
        · rw [hm1, if_pos (uw_0 u), Option.bind_some, if_neg z1, M_pff wf ha u, Option.bind_some, ib1, na_ck]
          rfl
      · refine ⟨false, B, W, wf, ?_, ?_, S91.rf⟩
        · rw [hx, if_neg (uw_1 u), Option.bind_some, ib0, na_ck]
          rfl
        · rw [hm1, if_neg (uw_1 u), Option.bind_some, if_pos rfl, ib0, na_ck]
          rfl
    · have ho : out (nI a) (B 0 0) := Or.inr (nI_le (by omega) (by omega))
      refine ⟨false, B, W, wf, ?_, ?_, S91.rf⟩
      · rw [hx, X_has_out ho, Option.bind_some, if_pos rfl, Option.bind_some, ib0, na_ck]
        rfl
      · rw [hm1, M_has_out wb ho, Option.bind_some, if_pos rfl, Option.bind_some, if_pos rfl, ib0, na_ck]
        rfl
  · -- rooms
    have d : dbN (L p) = 1 := by rw [c]; rfl
    rw [d] at s2
    obtain ⟨a9, nx⟩ := one _ s2 (by omega)
    have N : N1 L p = nv L (p + 1) 1 := by unfold N1; rw [if_neg (by omega)]
    rw [N] at hm1
    generalize nv L (p + 1) 1 = a at *
    have hi : f_X7_in (nI a).toInt64 1 2 = some (if nI 1 ≤ nI a ∧ nI a ≤ nI 2 then 1 else 0) := na_inK _ (k := 1) (m := 2) (by omega) (by omega)
    have e1 : (nI 1 ≤ nI a) = (1 ≤ a) := na_le (by omega) (by omega)
    have e2 : (nI a ≤ nI 2) = (a ≤ 2) := na_le (by omega) (by omega)
    have e3 : (nI a < (1 : Int32)) = (a < 1) := na_ltI (b := 1) (by omega) (by omega)
    have e4 : (nI a ≤ (2 : Int32)) = (a ≤ 2) := na_le (b := 2) (by omega) (by omega)
    rw [c, if_neg (by decide), if_neg (by decide), if_pos (show nI 114 = (114 : Int32) from rfl)] at hx hm1
    rw [nx, Option.bind_some] at hx
    rw [hi, Option.bind_some] at hm1
    simp only [e1, e2] at hm1
    unfold f_X4_roomsOpened at hx
    simp only [e3, e4] at hx
    by_cases y : 1 ≤ a ∧ a ≤ 2
    · obtain ⟨W', r1, r2⟩ := M_roomsBecome (A := B) (M := W) wb y.1 y.2
      refine ⟨true, roA B a, W', WF_roA wf y.1 y.2, ?_, ?_, r2⟩
      · rw [hx, if_neg (by omega), if_pos y.2, X_openRooms wb y.1 y.2, Option.bind_some, Option.bind_some, ib1, na_ck]
        rfl
      · rw [hm1, if_pos y, if_neg z1, r1, Option.bind_some, ib1, na_ck]
        rfl
    · refine ⟨false, B, W, wf, ?_, ?_, S91.rf⟩
      · rw [hx]
        by_cases y1 : a < 1
        · rw [if_pos y1, Option.bind_some, ib0, na_ck]
          rfl
        · rw [if_neg y1, if_neg (by omega), Option.bind_some, ib0, na_ck]
          rfl
      · rw [hm1, if_neg y, if_pos rfl, ib0, na_ck]
        rfl
  · -- slack
    have d : dbN (L p) = 1 := by rw [c]; rfl
    rw [d] at s2
    obtain ⟨a9, nx⟩ := one _ s2 (by omega)
    have N : N1 L p = nv L (p + 1) 1 := by unfold N1; rw [if_neg (by omega)]
    rw [N] at hm1
    generalize nv L (p + 1) 1 = a at *
    rw [c, if_neg (by decide), if_neg (by decide), if_neg (by decide), if_pos (show nI 115 = (115 : Int32) from rfl)] at hx hm1
    rw [nx, Option.bind_some] at hx
    refine ⟨true, ua B 0 13 a, W, ⟨WB_ua wb (by unfold okv; omega), WO_of wf.2 (fun j hj => ua_n (by omega)) (fun p j g1 g2 _ => ua_n (by omega)) wb⟩, ?_, ?_, S91.rf⟩
    · rw [hx, px_w0_13, na_lt]
      rfl
    · rw [hm1, pm_w0_13, na_lt]
      rfl
  · -- some are wed
    have d : dbN (L p) = 1 := by rw [c]; rfl
    rw [d] at s2
    obtain ⟨a9, nx⟩ := one _ s2 (by omega)
    have N : N1 L p = nv L (p + 1) 1 := by unfold N1; rw [if_neg (by omega)]
    rw [N] at hm1
    generalize nv L (p + 1) 1 = a at *
    have e3 : (nI a < (1 : Int32)) = (a < 1) := na_ltI (b := 1) (by omega) (by omega)
    have e4 : (nI a ≤ nI (B 0 8)) = (a ≤ B 0 8) := na_le (by omega) (by omega)
    rw [c, if_neg (by decide), if_neg (by decide), if_neg (by decide), if_neg (by decide), if_pos (show nI 119 = (119 : Int32) from rfl)] at hx hm1
    rw [nx, Option.bind_some] at hx
    unfold f_X4_someWed at hx
    rw [px_0_8] at hx
    simp only [e3, e4] at hx
    by_cases y : 1 ≤ a ∧ a ≤ B 0 8
    · refine ⟨true, weN B a, W, WF_weN wf a y.2, ?_, ?_, S91.rf⟩
      · rw [hx, if_neg (by omega), if_pos y.2, X_wedSome wb y.2, Option.bind_some, Option.bind_some, ib1, na_ck]
        rfl
      · rw [hm1, M_wedsCome wb y.1 y.2, Option.bind_some, ib1, na_ck]
        rfl
    · refine ⟨false, B, W, wf, ?_, ?_, S91.rf⟩
      · rw [hx]
        by_cases y1 : a < 1
        · rw [if_pos y1, Option.bind_some, ib0, na_ck]
          rfl
        · rw [if_neg y1, if_neg (by omega), Option.bind_some, ib0, na_ck]
          rfl
      · rw [hm1, M_weds_no (by omega) w3 (by omega), Option.bind_some, ib0, na_ck]
        rfl
end HALL4
