/-! HALLS told in letters: all of it -/
section HALL5
variable {A B C : AM} {m0 h1 h m2 m3 m4 m13 M : Mem} {ks : List Mem} {L : Nat → Nat} {n : Nat} {W : Mem}
theorem ag_12 {W : Mem} {j : Nat} : ag A W 12 j = W 12 j := stt_off (by omega) (by simp [ci]) (by omega)
theorem S91.ke {W' : Mem} (s : S91 W W') : KE W W' := ke_9 s
theorem ST.s91 {v p : Nat} {W' : Mem} (t : ST L v p W) (s : S91 W W') : ST L v p W' := ⟨by rw [s 12 v (by omega)]; exact t.1, by rw [s 13 v (by omega)]; exact t.2.1, by rw [s 14 (3 * v) (by omega)]; exact t.2.2.1, fun z => ⟨by rw [s 14 (3 * v + 1) (by omega)]; exact (t.2.2.2 z).1, by rw [s 14 (3 * v + 2) (by omega)]; exact (t.2.2.2 z).2⟩⟩
theorem KP.s91 {W' : Mem} (t : KP A W) (s : S91 W W') : KP A W' := fun k hk h6 => by rw [s 15 k (by omega)]; exact t k hk h6
theorem tell (x : LX L n m13) {c : Nat} (hn : 0 < n) (hc : c ≤ 33) (ok : okS L n c) (hs : sp L c = n) : ∀ r v f g B h W, v + r = c → r < f → r < g → WF B → KP A W → W 0 20 = nI c → (∀ u, u < c → ST L u (sp L u) W) → (∃ B' W', WF B' ∧ f_X4_tellTo_L4 m13 f (nI v) (nI (sp L v)) (px B h) = some (nI c, px B' h) ∧ f_X7_hall_L79 g (nI v) (pm B W) = some (nI c, pm B' (xs W' 0 32 0)) ∧ KE W W') ∨ ∃ u C' W', u < c ∧ sp L u ≤ 96 ∧ f_X4_tellTo_L4 m13 f (nI v) (nI (sp L v)) (px B h) = some (-2000 - nI (sp L u), C') ∧ f_X7_hall_L79 g (nI v) (pm B W) = some (-2000 - nI (sp L u), pm A W') ∧ KE W W'
  | 0, v, f, g, B, h, W, hv, hf, hg, wf, hK, h20, hst => by
    obtain ⟨f, rfl⟩ : ∃ k, f = k + 1 := ⟨f - 1, by omega⟩
    obtain ⟨g, rfl⟩ : ∃ k, g = k + 1 := ⟨g - 1, by omega⟩
    have x1 := x.1
    have : v = c := by omega
    subst this
    refine Or.inl ⟨B, W, wf, ?_, ?_, KE.rf⟩
    · rw [f_X4_tellTo_L4, x.2.1, hs, if_pos (nI_le (Nat.le_refl _) (by omega))]
    · have e : xs W 0 32 0 0 20 = nI v := by rw [← h20]; simp [xs]
      rw [f_X7_hall_L79, pm_0_20, h20, if_pos (nI_le (Nat.le_refl _) (by omega)), M_fg, na_lt, pm_0_20, e]
  | r + 1, v, f, g, B, h, W, hv, hf, hg, wf, hK, h20, hst => by
    obtain ⟨f, rfl⟩ : ∃ k, f = k + 1 := ⟨f - 1, by omega⟩
    obtain ⟨g, rfl⟩ : ∃ k, g = k + 1 := ⟨g - 1, by omega⟩
    have x1 := x.1
    have z1 : ¬ (1 : Int32) = 0 := by decide
    have nt : ¬ (if true = true then (1 : Int32) else 0) = 0 := by decide
    obtain ⟨o1, o2⟩ := ok v (by omega)
    obtain ⟨y1, y2⟩ := x.2.2 _ o1
    obtain ⟨b, B', W', wf', c1, c2, c3⟩ := cmd (h := h) x wf o1 (by omega) o2 (hst v (by omega))
    cases b with
    | false =>
      refine Or.inr ⟨v, px B' h, ag A W', by omega, by omega, ?_, ?_, c3.ke.trans ke_ag⟩
      · rw [f_X4_tellTo_L4, x.2.1, if_neg (nI_ge o1 (by omega)), c1, Option.bind_some]
        rfl
      · have r12 : ag A W' 12 v = nI (sp L v) := by rw [ag_12, c3 12 v (by omega)]; exact (hst v (by omega)).1
        rw [f_X7_hall_L79, pm_0_20, h20, if_neg (nI_ge (by omega) (by omega)), c2, Option.bind_some]
        show (f_X7_again (pm B' W')).bind _ = _
        rw [M_again (hK.s91 c3), Option.bind_some, na_inb (by omega) (by omega), na_ck, na_ix (by omega), pm_12, r12]
    | true =>
      have hx : f_X4_tellTo_L4 m13 (f + 1) (nI v) (nI (sp L v)) (px B h) = f_X4_tellTo_L4 m13 f (nI (v + 1)) (nI (sp L (v + 1))) (px B' h) := by
        rw [f_X4_tellTo_L4, x.2.1, if_neg (nI_ge o1 (by omega)), c1, Option.bind_some]
        show (if (if true = true then (1 : Int32) else 0) = 0 then _ else lt (nI v + 1) _) = _
        rw [if_neg nt, na_lt, na_inb (by omega) (by omega), na_ck, na_ix (by omega), y1, X_db _ y2, Option.bind_some, nI_1, show (2 : Int32) = nI 2 from rfl, nI_add, nI_add, na_lt]
        rfl
      have hm : f_X7_hall_L79 (g + 1) (nI v) (pm B W) = f_X7_hall_L79 g (nI (v + 1)) (pm B' W') := by
        rw [f_X7_hall_L79, pm_0_20, h20, if_neg (nI_ge (by omega) (by omega)), c2, Option.bind_some]
        show (if (if true = true then (1 : Int32) else 0) = 0 then _ else lt (nI v + 1) _) = _
        rw [if_neg nt, na_lt, nI_1]
      rw [hx, hm]
      rcases tell x hn hc ok hs r (v + 1) f g B' h W' (by omega) (by omega) (by omega) wf' (hK.s91 c3) (by rw [c3 0 20 (by omega)]; exact h20) (fun u hu => (hst u hu).s91 c3) with ⟨D, X, d1, d2, d3, d4⟩ | ⟨u, D, X, d0, d1, d2, d3, d4⟩
      · exact Or.inl ⟨D, X, d1, d2, d3, c3.ke.trans d4⟩
      · exact Or.inr ⟨u, D, X, d0, d1, d2, d3, c3.ke.trans d4⟩
/-- the letters are gone -/
theorem RR.l0 {M1 m13' : Mem} (R : RR A m0 (px A h1) m3 m4 ks m13 (pm A M)) (h : ∀ p j, ¬ scr p j → ¬ (p = 0 ∧ j = 17) → M1 p j = M p j) (h17 : M1 0 17 = nI 0) (h13 : m13' 0 1 = nI 0) : RR A m0 (px A h1) m3 m4 ks m13' (pm A M1) := by
  obtain ⟨a1, a2, a3, a4, a5, a6, a7, a8⟩ := R
  have e : ∀ p j, ¬ scr p j → ¬ (p = 0 ∧ j = 17) → pm A M1 p j = pm A M p j := fun p j y1 y2 => by
    have hc : ¬ hcell A p j := fun z => by
      have := hc0_of z
      unfold hc0 at this
      unfold scr at y1
      omega
    rw [pm_out hc, pm_out hc, h p j y1 y2]
  refine ⟨a1, a2, pm_pm.symm, fun j hj => ?_, ?_, ?_, ⟨0, by omega, h13, by rw [pm_0_17]; exact h17, fun j hj => by omega⟩, ?_⟩
  · rw [e 10 j (by unfold scr; omega) (by omega)]; exact a4 j hj
  · obtain ⟨k, f1, f2, f3, f4⟩ := a5
    refine ⟨k, f1, f2, by rw [e 0 37 (by unfold scr; omega) (by omega)]; exact f3, fun j hj => ?_⟩
    obtain ⟨v, g1, g2, g3⟩ := f4 j hj
    exact ⟨v, g1, g2, by rw [e 22 j (by unfold scr; omega) (by omega)]; exact g3⟩
  · obtain ⟨k, f1, f2, f3, f4⟩ := a6
    refine ⟨k, f1, f2, by rw [e 0 26 (by unfold scr; omega) (by omega)]; exact f3, fun j => ?_⟩
    obtain ⟨D, g1, g2, g3⟩ := f4 j
    exact ⟨D, g1, g2, fun k hk h6 => by rw [e 16 k (by unfold scr; omega) (by omega)]; exact g3 k hk h6⟩
  · obtain ⟨ol, np, b1, b2, b3, b4, b5, b6, b7⟩ := a8
    refine ⟨ol, np, b1, b2, b3, b4, by rw [e 0 32 (by unfold scr; omega) (by omega)]; exact b5, b6, fun i hi => ?_⟩
    obtain ⟨D, hD, g1, g2, g3⟩ := b7 i hi
    exact ⟨D, hD, g1, g2, fun k hk h6 => by
      show pm A M1 17 (63 * i + k) = _
      rw [e 17 (63 * i + k) (by unfold scr; omega) (by omega)]
      exact g3 k hk h6⟩
theorem tk_r {p j : Nat} (h1 : ¬ (p = 0 ∧ (j = 27 ∨ j = 28 ∨ j = 29))) (h2 : ¬ hc0 p j) (h3 : p ≠ 15) : tk A W p j = W p j := stt_off h1 (fun z => h2 (ci_hc.mp z)) (by omega)
theorem op_hall (R : RR A m0 (px A h1) m3 m4 ks m13 (pm A M)) (m2 : Mem) : ∃ r m1' m2' m4' m13' M' A', f_X6_hall m0 (px A h1) m2 m4 m13 = some (r, m1', m2', m4', m13') ∧ f_X7_hall (pm A M) = some (r, M') ∧ RR A' m0 m1' m3 m4' ks m13' M' := by
  have wf := R.1
  obtain ⟨n, n96, b1, b2, b3⟩ := R.2.2.2.2.2.2.1
  obtain ⟨L, hL⟩ : ∃ L : Nat → Nat, L = fun j => (m13 1 j).toBitVec.toNat := ⟨_, rfl⟩
  have bl : ∀ j, j < n → m13 1 j = nI (L j) ∧ L j < 256 ∧ pm A M 11 j = nI (L j) := fun j hj => by
    obtain ⟨v, c1, c2, c3⟩ := b3 j hj
    have : L j = v := by
      rw [hL]
      show (m13 1 j).toBitVec.toNat = v
      rw [c2]
      exact pk_tn (by omega)
    rw [this]
    exact ⟨c2, c1, c3⟩
  have x : LX L n m13 := ⟨n96, b1, fun j hj => ⟨(bl j hj).1, (bl j hj).2.1⟩⟩
  obtain ⟨W0, hW0⟩ : ∃ W0, W0 = xs (xs (xs (M14 M) 0 18 0) 0 19 0) 0 20 0 := ⟨_, rfl⟩
  have o0 : ∀ p j, ¬ (p = 0 ∧ (j = 14 ∨ j = 18 ∨ j = 19 ∨ j = 20)) → W0 p j = M p j := fun p j y => by
    rw [hW0]
    simp only [xs]
    rw [if_neg (by omega), if_neg (by omega), if_neg (by omega), if_neg (by omega)]
  have l : LM L n W0 := ⟨n96, by have q := b2; rw [pm_0_17] at q; rw [o0 0 17 (by omega)]; exact q, fun j hj => ⟨by have q := (bl j hj).2.2; rw [pm_11] at q; rw [o0 11 j (by omega)]; exact q, (bl j hj).2.1⟩⟩
  have r18 : W0 0 18 = 0 := by rw [hW0]; simp [xs]
  have r19 : W0 0 19 = 0 := by rw [hW0]; simp [xs]
  have r20 : W0 0 20 = 0 := by rw [hW0]; simp [xs]
  obtain ⟨W1, p1, p2, p3⟩ := M_parse (A := A) x l r18 r19 r20
  obtain ⟨W2, hW2⟩ : ∃ W2, W2 = xs W1 0 17 0 := ⟨_, rfl⟩
  have o2 : ∀ p j, ¬ scr p j → ¬ (p = 0 ∧ j = 17) → W2 p j = M p j := fun p j y1 y2 => by
    unfold scr at y1
    rw [hW2]
    simp only [xs]
    rw [if_neg (by omega), p2 p j (by omega) (by omega) (by omega) (by omega), o0 p j (by omega)]
  have o17 : W2 0 17 = nI 0 := by rw [hW2]; simp [xs]; rfl
  have o13 : xs m13 0 1 0 0 1 = nI 0 := by simp [xs]; rfl
  have R2 := R.l0 (m13' := xs m13 0 1 0) o2 o17 o13
  have head : f_X7_hall (pm A M) = (if (pm A W2 0 19) = 0 then (f_X7_think (pm A W2)).bind fun t13 => f_X7_hall_L79 6000 (0 : Int32) t13 else some (((-1000) - (pm A W2 0 18)), pm A W2)) := by
    have q1 : xs (pm A (M14 M)) 0 18 0 = pm A (xs (M14 M) 0 18 0) := pm_off (by omega)
    have q2 : xs (pm A (xs (M14 M) 0 18 0)) 0 19 0 = pm A (xs (xs (M14 M) 0 18 0) 0 19 0) := pm_off (by omega)
    have q3 : xs (pm A (xs (xs (M14 M) 0 18 0) 0 19 0)) 0 20 0 = pm A W0 := by rw [hW0]; exact pm_off (by omega)
    have q4 : xs (pm A W1) 0 17 0 = pm A W2 := by rw [hW2]; exact pm_off (by omega)
    unfold f_X7_hall
    rw [na_lt, M_t14, q1, na_lt, q2, na_lt, q3, na_lt, p1, Option.bind_some, q4, na_lt]
  have e19 : pm A W2 0 19 = W1 0 19 := by rw [pm_0_19, hW2]; simp [xs]
  have e18 : pm A W2 0 18 = W1 0 18 := by rw [pm_0_18, hW2]; simp [xs]
  rcases p3 with ⟨c, c0, c1, c33, c2, c3, c4, c5⟩ | ⟨q, q0, q1, q2, q3⟩
  · have cs : ∀ u, u < c → ST L u (sp L u) (tk A W2) := fun u hu => by
      have s := c4.2.2.2.2 u hu
      have y : ∀ p j, (p = 12 ∨ p = 13 ∨ p = 14) → tk A W2 p j = W1 p j := fun p j hp => by
        rw [tk_r (by omega) (by unfold hc0; omega) (by omega), hW2]
        simp only [xs]
        rw [if_neg (by omega)]
      exact ⟨by rw [y 12 u (by omega)]; exact s.1, by rw [y 13 u (by omega)]; exact s.2.1, by rw [y 14 _ (by omega)]; exact s.2.2.1, fun z => ⟨by rw [y 14 _ (by omega)]; exact (s.2.2.2 z).1, by rw [y 14 _ (by omega)]; exact (s.2.2.2 z).2⟩⟩
    have c20 : tk A W2 0 20 = nI c := by
      rw [tk_r (by omega) (by unfold hc0; omega) (by omega), hW2, ← c4.2.2.2.1]
      simp [xs]
    have hneg : (-1 : Int32) < 0 := by decide
    have s0 : sp L 0 = 0 := rfl
    rcases tell (A := A) x c0 c33 c2 c3 c 0 6000 6000 A m2 (tk A W2) (by omega) (by omega) (by omega) wf kp_tk c20 cs with ⟨B, X, d1, d2, d3, d4⟩ | ⟨u, D, X, d0, d1, d2, d3, d4⟩
    · have np : ¬ nI c ≤ (0 : Int32) := show ¬ nI c ≤ nI 0 from nI_ge c1 (by omega)
      refine ⟨nI c, px B (px A h1), px B m2, xs m4 0 2 0, xs m13 0 1 0, pm B (xs X 0 32 0), B, ?_, ?_, R2.fg (ke_tk.trans d4) d1 fg4⟩
      · have d2' : f_X4_tellTo m13 (px A m2) = some (nI c, px B m2) := d2
        unfold f_X6_hall
        rw [c5, Option.bind_some, if_pos hneg, X_asNow, Option.bind_some, d2', Option.bind_some, na_lt]
        show (if nI c ≤ 0 then _ else (f_X2_become (px A h1) (px B m2)).bind _) = _
        rw [if_neg np, X_become, Option.bind_some, X_forget, Option.bind_some, na_lt]
      · rw [head, e19, c4.2.2.1, if_pos rfl, M_think, Option.bind_some]
        exact d3
    · have np : (-2000 : Int32) - nI (sp L u) ≤ 0 := by
        rw [fa_le, fb_subI]
        · have q1 : (-2000 : Int32).toInt = -2000 := by decide
          have q2 : (0 : Int32).toInt = 0 := by decide
          rw [nI_toInt (by omega)]
          omega
        · have q1 : (-2000 : Int32).toInt = -2000 := by decide
          rw [nI_toInt (by omega)]
          omega
        · have q1 : (-2000 : Int32).toInt = -2000 := by decide
          rw [nI_toInt (by omega)]
          omega
      refine ⟨-2000 - nI (sp L u), px A h1, D, m4, xs m13 0 1 0, pm A X, A, ?_, ?_, R2.kp (ke_tk.trans d4)⟩
      · have d2' : f_X4_tellTo m13 (px A m2) = some (-2000 - nI (sp L u), D) := d2
        unfold f_X6_hall
        rw [c5, Option.bind_some, if_pos hneg, X_asNow, Option.bind_some, d2', Option.bind_some, na_lt]
        show (if -2000 - nI (sp L u) ≤ 0 then _ else _) = _
        rw [if_pos np, na_lt]
      · rw [head, e19, c4.2.2.1, if_pos rfl, M_think, Option.bind_some]
        exact d3
  · have z1 : ¬ (1 : Int32) = 0 := by decide
    refine ⟨-1000 - nI q, px A h1, m2, m4, xs m13 0 1 0, pm A W2, A, ?_, ?_, R2⟩
    · unfold f_X6_hall
      rw [q1, Option.bind_some, if_neg (nn_0 (by omega)), na_lt, na_lt]
    · rw [head, e19, q3, if_neg z1, e18, q2]
end HALL5
