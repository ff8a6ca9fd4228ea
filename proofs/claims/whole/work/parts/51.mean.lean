/-! LOWEST terms; mean, longest -/
section OPS13
variable {A B C : AM} {m0 h1 h m2 m3 m4 m13 M : Mem} {ks : List Mem}
theorem l0 (b : Nat) (hb : b < 2 ^ 62) : (lg_cmp (lN b) 0 ≤ 0) = (b = 0) := by
  have h := (na_lc (lN b) 0).2.1
  have e : ((0 : Int64) < lN b) = (0 < b) := propext (pk_lLT (a := 0) (by omega) (by omega))
  rw [e] at h
  apply propext
  rw [← Int32.not_lt, h]
  omega
theorem l0e (b : Nat) (hb : b < 2 ^ 62) : (lg_cmp (lN b) 0 = 0) = (b = 0) := by
  rw [(na_lc (lN b) 0).2.2]
  exact propext (pk_lEQ (b := 0) (by omega) (by omega))
theorem lne (b : Nat) (hb : b < 2 ^ 62) (h0 : b ≠ 0) : (!decide (lN b = 0)) = true := by
  have e : (lN b = (0 : Int64)) = (b = 0) := propext (pk_lEQ (b := 0) (by omega) (by omega))
  simp [e, h0]
theorem X_low_L : ∀ k a b v f, b < 2 ^ k → k ≤ 40 → a < 2 ^ 62 → v + 2 * k < 100 → 2 * k < f → f_X6_lowest_L9 f (lN a) (lN b) (nI v) = some (lN (Nat.gcd b a))
  | 0, a, b, v, f, hb, hk, ha, hv, hf => by
    obtain ⟨g, rfl⟩ : ∃ g, f = g + 1 := ⟨f - 1, by omega⟩
    have : b = 0 := by have : b < 1 := hb; omega
    subst this
    rw [f_X6_lowest_L9, if_neg (show ¬ (100 : Int32) ≤ nI v from nI_ge (b := 100) (by omega) (by omega)), if_pos ((l0 0 (by omega)) ▸ rfl), Nat.gcd_zero_left]
  | k + 1, a, b, v, f, hb, hk, ha, hv, hf => by
    obtain ⟨g, rfl⟩ : ∃ g, f = g + 2 := ⟨f - 2, by omega⟩
    have hb2 : b < 2 ^ 62 := Nat.lt_of_lt_of_le hb (Nat.pow_le_pow_right (by omega) (by omega))
    rw [f_X6_lowest_L9, if_neg (show ¬ (100 : Int32) ≤ nI v from nI_ge (b := 100) (by omega) (by omega))]
    by_cases h0 : b = 0
    · subst h0
      rw [if_pos ((l0 0 (by omega)) ▸ rfl), Nat.gcd_zero_left]
    · have hr : a % b < b := Nat.mod_lt _ (by omega)
      rw [if_neg ((l0 b hb2) ▸ h0), lne b hb2 h0, na_ck, pk_lRem (by omega) (by omega) (by omega), na_lt, na_lt, nI_1, f_X6_lowest_L9, if_neg (show ¬ (100 : Int32) ≤ nI (v + 1) from nI_ge (b := 100) (by omega) (by omega))]
      by_cases h2 : a % b = 0
      · rw [if_pos ((l0 (a % b) (by omega)) ▸ h2), Nat.gcd_rec b a, h2, Nat.gcd_zero_left]
      · have hh : b % (a % b) < 2 ^ k := by
          have h3 : b % (a % b) < a % b := Nat.mod_lt _ (by omega)
          have h4 := Nat.div_add_mod b (a % b)
          have h5 : 1 ≤ b / (a % b) := Nat.div_pos (by omega) (by omega)
          have h6 : a % b * 1 ≤ a % b * (b / (a % b)) := Nat.mul_le_mul_left _ h5
          rw [Nat.pow_succ] at hb
          omega
        rw [if_neg ((l0 (a % b) (by omega)) ▸ h2), lne (a % b) (by omega) h2, na_ck, pk_lRem (by omega) (by omega) (by omega), na_lt, na_lt, nI_1, X_low_L k (a % b) (b % (a % b)) (v + 1 + 1) g hh (by omega) (by omega) (by omega) (by omega), Nat.gcd_rec b a, Nat.gcd_rec (a % b) b]
theorem M_div_L : ∀ k a b f, b < 2 ^ k → k ≤ 40 → a < 2 ^ 62 → 2 * k < f → f_X7_divisor_L6 f (lN a) (lN b) = some (lN (Nat.gcd b a))
  | 0, a, b, f, hb, hk, ha, hf => by
    obtain ⟨g, rfl⟩ : ∃ g, f = g + 1 := ⟨f - 1, by omega⟩
    have : b = 0 := by have : b < 1 := hb; omega
    subst this
    rw [f_X7_divisor_L6, if_pos ((l0e 0 (by omega)) ▸ rfl), Nat.gcd_zero_left]
  | k + 1, a, b, f, hb, hk, ha, hf => by
    obtain ⟨g, rfl⟩ : ∃ g, f = g + 2 := ⟨f - 2, by omega⟩
    have hb2 : b < 2 ^ 62 := Nat.lt_of_lt_of_le hb (Nat.pow_le_pow_right (by omega) (by omega))
    rw [f_X7_divisor_L6]
    by_cases h0 : b = 0
    · subst h0
      rw [if_pos ((l0e 0 (by omega)) ▸ rfl), Nat.gcd_zero_left]
    · have hr : a % b < b := Nat.mod_lt _ (by omega)
      rw [if_neg ((l0e b hb2) ▸ h0), lne b hb2 h0, na_ck, pk_lRem (by omega) (by omega) (by omega), na_lt, f_X7_divisor_L6]
      by_cases h2 : a % b = 0
      · rw [if_pos ((l0e (a % b) (by omega)) ▸ h2), Nat.gcd_rec b a, h2, Nat.gcd_zero_left]
      · have hh : b % (a % b) < 2 ^ k := by
          have h3 : b % (a % b) < a % b := Nat.mod_lt _ (by omega)
          have h4 := Nat.div_add_mod b (a % b)
          have h5 : 1 ≤ b / (a % b) := Nat.div_pos (by omega) (by omega)
          have h6 : a % b * 1 ≤ a % b * (b / (a % b)) := Nat.mul_le_mul_left _ h5
          rw [Nat.pow_succ] at hb
          omega
        rw [if_neg ((l0e (a % b) (by omega)) ▸ h2), lne (a % b) (by omega) h2, na_ck, pk_lRem (by omega) (by omega) (by omega), na_lt, M_div_L k (a % b) (b % (a % b)) g hh (by omega) (by omega) (by omega), Nat.gcd_rec b a, Nat.gcd_rec (a % b) b]
theorem X_lowest {a b k : Nat} (ha : a < 2 ^ 40) (hb : 0 < b) (hb2 : b < 2 ^ 40) (hk : k ≤ 1) : f_X6_lowest (lN a) (lN b) (nI k) = some (lN ((if k = 0 then a else b) / Nat.gcd b a)) := by
  have g0 : 0 < Nat.gcd b a := Nat.gcd_pos_of_pos_left _ hb
  have g1 : Nat.gcd b a ≤ b := Nat.gcd_le_left _ hb
  have l := X_low_L 40 a b 0 6000 hb2 (by omega) (by omega) (by omega) (by omega)
  have mx : lmax (lN (Nat.gcd b a)) 1 = lN (Nat.gcd b a) := by
    unfold lmax
    split
    · rfl
    · next z =>
      have e : ((1 : Int64) < lN (Nat.gcd b a)) = (1 < Nat.gcd b a) := propext (pk_lLT (a := 1) (by omega) (by omega))
      rw [e] at z
      rw [show Nat.gcd b a = 1 by omega]
      rfl
  unfold f_X6_lowest
  rw [show (0 : Int32) = nI 0 from rfl, l, Option.bind_some, na_lt, mx, lne _ (by omega) (by omega)]
  rcases (by omega : k = 0 ∨ k = 1) with rfl | rfl
  · rw [if_pos rfl, if_pos rfl, na_ck, pk_lDiv (by omega) (by omega) (by omega)]
  · have n1 : ¬ nI 1 = nI 0 := by decide
    rw [if_neg n1, if_neg (by omega), na_ck, pk_lDiv (by omega) (by omega) (by omega)]
theorem M_part {a b k : Nat} (ha : a < 2 ^ 40) (hb : 0 < b) (hb2 : b < 2 ^ 40) (hk : k ≤ 1) : f_X7_partOf (lN a) (lN b) (nI k) = some (lN ((if k = 0 then a else b) / Nat.gcd b a)) := by
  have g0 : 0 < Nat.gcd b a := Nat.gcd_pos_of_pos_left _ hb
  have g1 : Nat.gcd b a ≤ b := Nat.gcd_le_left _ hb
  have l := M_div_L 40 a b 6000 hb2 (by omega) (by omega) (by omega)
  unfold f_X7_partOf
  by_cases h0 : a = 0
  · subst h0
    rw [if_pos ((l0e 0 (by omega)) ▸ rfl), Nat.gcd_zero_right]
    rcases (by omega : k = 0 ∨ k = 1) with rfl | rfl
    · rw [if_pos rfl, Nat.zero_div]
      rfl
    · rw [if_neg (by omega), Nat.div_self hb]
      rfl
  · have ld : f_X7_divisor (lN a) (lN b) = some (lN (Nat.gcd b a)) := by
      unfold f_X7_divisor
      rw [l]
      rfl
    rw [if_neg ((l0e a (by omega)) ▸ h0), ld, Option.bind_some, lne _ (by omega) (by omega)]
    rcases (by omega : k = 0 ∨ k = 1) with rfl | rfl
    · have n0 : nI 0 = (0 : Int32) := rfl
      rw [if_pos n0, if_pos rfl, na_ck, pk_lDiv (by omega) (by omega) (by omega)]
    · have n1 : ¬ nI 1 = (0 : Int32) := by decide
      rw [if_neg n1, if_neg (by omega), na_ck, pk_lDiv (by omega) (by omega) (by omega)]
theorem M_part0 {k : Nat} {y : Int64} (hk : k ≤ 1) : f_X7_partOf 0 y (nI k) = some (lN k) := by
  unfold f_X7_partOf
  rw [if_pos ((l0e 0 (by omega)) ▸ rfl), nI_l (by omega)]
theorem op_mean (R : RR A m0 (px A h1) m3 m4 ks m13 (pm A M)) (m2 : Mem) (a : Int32) : ∃ r m0' m2' M', f_X6_mean m0 (px A h1) m2 a = some (r, m0', m2') ∧ f_X7_mean (pm A M) a = some (r, M') ∧ RR A m0' (px A h1) m3 m4 ks m13 M' := by
  have wf := R.1
  have wb := wf.1
  have w1 := wb.1
  have z1 : ¬ (1 : Int32) = 0 := by decide
  rcases na_cs a (n := 2) (by omega) with ho | ⟨k, hk, rfl⟩
  · have d0 : ¬ a = 0 := out_ne ho (j := 0) (by omega) (by omega)
    have d1 : ¬ a = 1 := out_ne ho (j := 1) (by omega) (by omega)
    have hi : f_X7_in a.toInt64 0 1 = some 0 := out_iK (k := 1) ho rfl (by omega)
    exact ⟨4000000000000000000 - (-2 : Int32).toInt64, rf m0 2 2, m2, pm A (rf (M14 M) 10 2), by simp only [f_X6_mean, d0, d1, if_false, X_ref2, Option.bind_some], by simp only [f_X7_mean, na_lt, M_t14, hi, Option.bind_some, if_true, M_ref2], R.rk ke14 (by omega)⟩
  · have wb2 := WB_wal wb
    have l1 := allL_le wb2
    have hi : f_X7_in (nI k).toInt64 0 1 = some 1 := in_iK (k := 1) (by omega) (by omega)
    obtain ⟨W, g1, g2, g3⟩ := ag_any (A' := wal A) (kp_tk (A := A) (M := M14 M))
    have mx : imax (nI (A 0 0)) 1 = nI (max (A 0 0) 1) := na_max (b := 1) (by omega) (by omega)
    have xj : f_X6_mean_J21 m0 (px A h1) m2 (nI k) = some (lN ((if k = 0 then allL (wal A) else max (A 0 0) 1) / Nat.gcd (max (A 0 0) 1) (allL (wal A))), m0, px (wal A) m2) := by
      unfold f_X6_mean_J21
      rw [X_inMind wb, Option.bind_some, X_allLate wb2, Option.bind_some, px_0_0, mx, nI_l (by omega), nI_l (by omega), X_lowest (by omega) (by omega) (by omega) (by omega), Option.bind_some]
    have mj : f_X7_partOf (nI (allL (wal A))).toInt64 (nI (A 0 0)).toInt64 (nI k) = some (lN ((if k = 0 then allL (wal A) else max (A 0 0) 1) / Nat.gcd (max (A 0 0) 1) (allL (wal A)))) := by
      rw [nI_l (by omega), nI_l (by omega)]
      by_cases h0 : A 0 0 = 0
      · have e : allL (wal A) = 0 := by
          unfold allL
          rw [wal_00, h0]
          rfl
        rw [e, show lN 0 = 0 from rfl, M_part0 (by omega), h0]
        rcases (by omega : k = 0 ∨ k = 1) with rfl | rfl
        · rfl
        · rfl
      · rw [M_part (by omega) (by omega) (by omega) (by omega), show max (A 0 0) 1 = A 0 0 by omega]
    refine ⟨lN ((if k = 0 then allL (wal A) else max (A 0 0) 1) / Nat.gcd (max (A 0 0) 1) (allL (wal A))), m0, px (wal A) m2, pm A W, ?_, ?_, R.kp (ke14.trans (ke_tk.trans g3))⟩
    · unfold f_X6_mean
      rw [xj]
      rcases (by omega : k = 0 ∨ k = 1) with rfl | rfl
      · rw [if_pos (show nI 0 = (0 : Int32) from rfl)]
      · rw [if_neg (show ¬ nI 1 = (0 : Int32) by decide), if_pos (show nI 1 = (1 : Int32) from rfl)]
    · unfold f_X7_mean
      rw [na_lt, M_t14, hi, Option.bind_some, if_neg z1, M_think, Option.bind_some, M_lateNow wb, Option.bind_some, na_lt, g1, Option.bind_some, pm_0_0, mj, Option.bind_some]
/-- longest, dearest, bunched -/
theorem bst_at {f : Nat → Nat} : ∀ k, ((bst f k).2 = -9 ∧ (bst f k).1 = 0) ∨ ∃ i, i < k ∧ (bst f k).2 = nI i ∧ (bst f k).1 = f i ∧ 0 < f i
  | 0 => Or.inl ⟨rfl, rfl⟩
  | k + 1 => by
    rw [bst]
    split
    · rcases bst_at k with e | ⟨i, e1, e2, e3, e5⟩
      · exact Or.inl e
      · exact Or.inr ⟨i, by omega, e2, e3, e5⟩
    · exact Or.inr ⟨k, by omega, rfl, rfl, by omega⟩
def gw (A : AM) (c : Nat) : Nat := if uw A c then gue A c else 0
def bnP (A : AM) (c d : Nat) : Bool := decide (A 3 c ≤ A 3 d + 14 ∧ A 3 d ≤ A 3 c + 14)
theorem X_bnL (w : WB A) {c : Nat} (hc : c < A 0 0) (v : Nat) (hv : v < 1000) : f_X2_bunched_L16 (px A h) (nI c) 6000 (nI v) (nI (c + 1)) = some (nI (v + cn (bnP A c) (c + 1) (A 0 0 - (c + 1)))) := by
  have w1 := w.1
  have := lp_lo (c + 1) (fun f s i => f_X2_bunched_L16 (px A h) (nI c) f s i) (A 0 0) (fun j => nI (v + cn (bnP A c) (c + 1) (j - (c + 1)))) (r := some (nI (v + cn (bnP A c) (c + 1) (A 0 0 - (c + 1))))) (fun f => ?_) (fun f j hjl hj => ?_) (A 0 0 - (c + 1)) (c + 1) 6000 (by omega) (by omega) (by omega)
  · simp only [Nat.sub_self, cn, Nat.add_zero] at this
    exact this
  · show f_X2_bunched_L16 _ _ (f + 1) _ _ = _
    rw [f_X2_bunched_L16]
    simp (disch := omega) only [px_0_0, na_le, Nat.le_refl, if_true]
  · show f_X2_bunched_L16 _ _ (f + 1) _ _ = f_X2_bunched_L16 _ _ f _ _
    have e : j + 1 - (c + 1) = (j - (c + 1)) + 1 := by omega
    have e2 : c + 1 + (j - (c + 1)) = j := by omega
    have b1 := (w.2.2.2.2.2.2.2 c (by omega)).2.2.1
    have b2 := (w.2.2.2.2.2.2.2 j (by omega)).2.2.1
    have q : ((15 : Int32) ≤ iabs (nI (A 3 c) - nI (A 3 j))) = ¬ (A 3 c ≤ A 3 j + 14 ∧ A 3 j ≤ A 3 c + 14) := na_absl2 (k := 14) (by omega) (by omega) (by omega)
    rw [f_X2_bunched_L16, px_0_0, if_neg (nI_ge hj (by omega)), na_inb (by omega) (by omega), na_ck, na_inb (by omega) (by omega), na_ck, na_ix (by omega), na_ix (by omega), px_3 (by omega), px_3 (by omega), e, cn, e2]
    unfold bnP
    by_cases z : A 3 c ≤ A 3 j + 14 ∧ A 3 j ≤ A 3 c + 14
    · rw [if_neg (fun y => (q ▸ y) z), na_lt, na_lt, nI_1, nI_1, decide_eq_true z, if_pos rfl]
      rfl
    · rw [if_pos (q ▸ z), na_lt, nI_1, decide_eq_false z]
      rfl
theorem M_bnL (w : WB A) {c : Nat} (hc : c < A 0 0) (v : Nat) (hv : v < 1000) : f_X7_longest_L168 (nI c) (pm A M) 6000 (nI v) (nI (c + 1)) = some (nI (v + cn (bnP A c) (c + 1) (A 0 0 - (c + 1)))) := by
  have w1 := w.1
  have z1 : ¬ (1 : Int32) = 0 := by decide
  have := lp_lo (c + 1) (fun f s i => f_X7_longest_L168 (nI c) (pm A M) f s i) (A 0 0) (fun j => nI (v + cn (bnP A c) (c + 1) (j - (c + 1)))) (r := some (nI (v + cn (bnP A c) (c + 1) (A 0 0 - (c + 1))))) (fun f => ?_) (fun f j hjl hj => ?_) (A 0 0 - (c + 1)) (c + 1) 6000 (by omega) (by omega) (by omega)
  · simp only [Nat.sub_self, cn, Nat.add_zero] at this
    exact this
  · show f_X7_longest_L168 _ _ (f + 1) _ _ = _
    rw [f_X7_longest_L168]
    simp (disch := omega) only [pm_0_0, na_le, Nat.le_refl, if_true]
  · show f_X7_longest_L168 _ _ (f + 1) _ _ = f_X7_longest_L168 _ _ f _ _
    have e : j + 1 - (c + 1) = (j - (c + 1)) + 1 := by omega
    have e2 : c + 1 + (j - (c + 1)) = j := by omega
    have b1 := (w.2.2.2.2.2.2.2 c (by omega)).2.2.1
    have b2 := (w.2.2.2.2.2.2.2 j (by omega)).2.2.1
    have q : f_X7_in (nI (A 3 c) - nI (A 3 j)).toInt64 (-14) 14 = some (if A 3 c ≤ A 3 j + 14 ∧ A 3 j ≤ A 3 c + 14 then 1 else 0) := na_near (k := 14) (by omega) (by omega) (by omega)
    rw [f_X7_longest_L168, pm_0_0, if_neg (nI_ge hj (by omega)), na_inb (by omega) (by omega), na_ck, na_inb (by omega) (by omega), na_ck, na_ix (by omega), na_ix (by omega), pm_3 (by omega), pm_3 (by omega), q, Option.bind_some, e, cn, e2]
    unfold bnP
    by_cases z : A 3 c ≤ A 3 j + 14 ∧ A 3 j ≤ A 3 c + 14
    · rw [if_pos z, if_neg z1, na_lt, na_lt, nI_1, nI_1, decide_eq_true z, if_pos rfl]
      rfl
    · rw [if_neg z, if_pos rfl, na_lt, na_lt, nI_1, decide_eq_false z, Int32.add_zero]
      rfl
def bnS (A : AM) (j : Nat) : Nat := fb_sm (fun c => cn (bnP A c) (c + 1) (A 0 0 - (c + 1))) j
theorem bnS_lt (w : WB A) : ∀ j, j ≤ A 0 0 → bnS A j ≤ 7 * j
  | 0, _ => Nat.le_refl _
  | j + 1, h => by
    have := bnS_lt w j (by omega)
    have := cn_le (p := bnP A j) (lo := j + 1) (A 0 0 - (j + 1))
    have := w.1
    show bnS A j + cn (bnP A j) (j + 1) (A 0 0 - (j + 1)) ≤ _
    omega
theorem X_bunched (w : WB A) : f_X2_bunched (px A h) = some (nI (bnS A (A 0 0))) := by
  have w1 := w.1
  have hl : f_X2_bunched_L4 (px A h) 6000 (nI (bnS A 0)) (nI 0) = some (nI (bnS A (A 0 0))) := by
    refine lp (fun f s i => f_X2_bunched_L4 (px A h) f s i) (A 0 0) (fun j => nI (bnS A j)) (fun f => ?_) (fun f j hj => ?_) (A 0 0) 0 6000 (by omega) (by omega)
    · show f_X2_bunched_L4 _ (f + 1) _ _ = _
      rw [f_X2_bunched_L4, px_0_0, if_pos (nI_le (Nat.le_refl _) (by omega))]
    · show f_X2_bunched_L4 _ (f + 1) _ _ = f_X2_bunched_L4 _ f _ _
      have := bnS_lt w j (by omega)
      rw [f_X2_bunched_L4, px_0_0, if_neg (nI_ge hj (by omega)), na_lt, nI_1, X_bnL w hj _ (by omega), Option.bind_some, na_lt]
      rfl
  unfold f_X2_bunched
  exact (congrArg (fun o => Option.bind o (fun t => some t)) hl)
theorem X_longestOne (w : WB A) : f_X2_longestOne (px A h) = some (bst (las A) (A 0 0)).2 := by
  have w1 := w.1
  have hl : f_X2_longestOne_L7 (px A h) 6000 (nI (bst (las A) 0).1) (bst (las A) 0).2 (nI 0) = some (bst (las A) (A 0 0)).2 := by
    refine lp (fun f (s : Int32 × Int32) i => f_X2_longestOne_L7 (px A h) f s.1 s.2 i) (A 0 0) (fun j => (nI (bst (las A) j).1, (bst (las A) j).2)) (fun f => ?_) (fun f j hj => ?_) (A 0 0) 0 6000 (by omega) (by omega)
    · show f_X2_longestOne_L7 _ (f + 1) _ _ _ = _
      rw [f_X2_longestOne_L7, px_0_0, if_pos (nI_le (Nat.le_refl _) (by omega))]
    · show f_X2_longestOne_L7 _ (f + 1) _ _ _ = f_X2_longestOne_L7 _ f _ _ _
      dsimp only
      have b1 := (lasts_le (k := A 1 j) (w.2.2.2.2.2.2.2 j (by omega)).2.1).1
      have b2 := bst_le (f := las A) (b := 37) j (fun k hk => (lasts_le (k := A 1 k) (w.2.2.2.2.2.2.2 k (by omega)).2.1).1)
      have e : (nI (las A j) ≤ nI (bst (las A) j).1) = (las A j ≤ (bst (las A) j).1) := na_le (by unfold las; omega) (by omega)
      rw [f_X2_longestOne_L7, px_0_0, if_neg (nI_ge hj (by omega)), X_lastsOf w (by omega), Option.bind_some, Option.bind_some, bst]
      simp only [e, na_lt, nI_1]
      by_cases z : las A j ≤ (bst (las A) j).1
      · rw [if_pos z, if_pos z]
      · rw [if_neg z, if_neg z]
  unfold f_X2_longestOne
  exact (congrArg (fun o => Option.bind o (fun t => some t)) hl)
theorem gw_le (w : WB A) {c : Nat} (hc : c < 7) : gw A c ≤ 26 := by
  have := guests_le (k := A 1 c) (w.2.2.2.2.2.2.2 c hc).2.1
  unfold gw
  split
  · exact this
  · omega
theorem X_dearest (w : WB A) : f_X2_dearest (px A h) = some (bst (gw A) (A 0 0)).2 := by
  have w1 := w.1
  have hl : f_X2_dearest_L7 (px A h) 6000 (nI (bst (gw A) 0).1) (bst (gw A) 0).2 (nI 0) = some (bst (gw A) (A 0 0)).2 := by
    refine lp (fun f (s : Int32 × Int32) i => f_X2_dearest_L7 (px A h) f s.1 s.2 i) (A 0 0) (fun j => (nI (bst (gw A) j).1, (bst (gw A) j).2)) (fun f => ?_) (fun f j hj => ?_) (A 0 0) 0 6000 (by omega) (by omega)
    · show f_X2_dearest_L7 _ (f + 1) _ _ _ = _
      rw [f_X2_dearest_L7, px_0_0, if_pos (nI_le (Nat.le_refl _) (by omega))]
    · show f_X2_dearest_L7 _ (f + 1) _ _ _ = f_X2_dearest_L7 _ f _ _ _
      dsimp only
      have b1 := gw_le w (c := j) (by omega)
      have b2 := bst_le (f := gw A) (b := 26) j (fun k hk => gw_le w (by omega))
      rw [f_X2_dearest_L7, px_0_0, if_neg (nI_ge hj (by omega)), X_isWed w (by omega), Option.bind_some, bst]
      by_cases u : uw A j
      · have eg : gw A j = gue A j := if_pos u
        have e : (nI (gue A j) ≤ nI (bst (gw A) j).1) = (gw A j ≤ (bst (gw A) j).1) := by
          rw [← eg]
          exact na_le (by omega) (by omega)
        rw [if_pos (uw_0 u), X_guestsOf w (by omega), Option.bind_some, Option.bind_some]
        simp only [e, na_lt, nI_1]
        by_cases z : gw A j ≤ (bst (gw A) j).1
        · rw [if_pos z, if_pos z]
        · rw [if_neg z, if_neg z, eg]
      · have eg : gw A j = 0 := if_neg u
        rw [if_neg (uw_1 u), na_lt, nI_1, if_pos (by omega)]
  unfold f_X2_dearest
  exact (congrArg (fun o => Option.bind o (fun t => some t)) hl)
theorem guests_pos {k f : Nat} : 0 < guests k f := by
  unfold guests
  repeat' split
  all_goals omega
theorem M_longest (w : WB A) : f_X7_longest_L36 (pm A M) 6000 (-9) (-9) 0 0 = some ((bst (las A) (A 0 0)).2, (bst (gw A) (A 0 0)).2, nI (bnS A (A 0 0))) := by
  have w1 := w.1
  have := lp (r := some ((bst (las A) (A 0 0)).2, (bst (gw A) (A 0 0)).2, nI (bnS A (A 0 0)))) (fun f (s : Int32 × Int32 × Int32) i => f_X7_longest_L36 (pm A M) f s.1 s.2.1 s.2.2 i) (A 0 0) (fun j => ((bst (las A) j).2, (bst (gw A) j).2, nI (bnS A j))) (fun f => ?_) (fun f j hj => ?_) (A 0 0) 0 6000 (by omega) (by omega)
  · exact this
  · show f_X7_longest_L36 _ (f + 1) _ _ _ _ = _
    rw [f_X7_longest_L36, pm_0_0, if_pos (nI_le (Nat.le_refl _) (by omega))]
  · show f_X7_longest_L36 _ (f + 1) _ _ _ _ = f_X7_longest_L36 _ f _ _ _ _
    dsimp only
    have i7 : inb (nI j) 7 = true := na_inb (by omega) (by omega)
    have x7 : ix (nI j) = j := na_ix (by omega)
    have z1 : ¬ (1 : Int32) = 0 := by decide
    have z9 : (-9 : Int32) < 0 := by decide
    have wj := w.2.2.2.2.2.2.2 j (by omega)
    have lj : f_X7_lastsBy (pm A M 1 j) (pm A M 2 j) = some (nI (las A j)) := by rw [pm_1 (by omega), pm_2 (by omega)]; exact M_lasts wj.1 wj.2.1
    have b1 := lasts_le (k := A 1 j) wj.2.1
    have bn := bnS_lt w j (by omega)
    -- the longest
    have p1 : ∃ t29 : Int32, (if (bst (las A) j).2 < 0 then some (1 : Int32) else
         ck (inb (nI j) 7) <|
         ck (inb (nI j) 7) <|
         (f_X7_lastsBy (pm A M 1 (ix (nI j))) (pm A M 2 (ix (nI j)))).bind fun t19 =>
         lt (if 0 ≤ (bst (las A) j).2 then ((bst (las A) j).2) else (0 : Int32)) fun t22 =>
         ck (inb t22 7) <|
         lt (if 0 ≤ (bst (las A) j).2 then ((bst (las A) j).2) else (0 : Int32)) fun t25 =>
         ck (inb t25 7) <|
         (f_X7_lastsBy (pm A M 1 (ix t22)) (pm A M 2 (ix t25))).bind fun t26 =>
         if t19 ≤ t26 then some (0 : Int32) else some (1 : Int32)) = some t29 ∧ (if t29 = 0 then (bst (las A) j).2 else nI j) = (bst (las A) (j + 1)).2 := by
      rcases bst_at (f := las A) j with ⟨e1, e2⟩ | ⟨i, e1, e2, e3, -⟩
      · refine ⟨1, by rw [e1, if_pos z9], ?_⟩
        rw [if_neg z1, bst, if_neg (by rw [e2]; unfold las; omega)]
      · have wi := w.2.2.2.2.2.2.2 i (by omega)
        have bi := lasts_le (k := A 1 i) wi.2.1
        have li : f_X7_lastsBy (pm A M 1 i) (pm A M 2 i) = some (nI (las A i)) := by rw [pm_1 (by omega), pm_2 (by omega)]; exact M_lasts wi.1 wi.2.1
        have q0 : (0 : Int32) ≤ nI i := show nI 0 ≤ nI i from nI_le (by omega) (by omega)
        have e : (nI (las A j) ≤ nI (las A i)) = (las A j ≤ las A i) := na_le (by unfold las; omega) (by unfold las; omega)
        rw [e2, if_neg (nn_0 (by omega)), i7, na_ck, na_ck, x7, lj, Option.bind_some, if_pos q0, na_lt, na_inb (by omega) (by omega), na_ck, na_lt, na_inb (by omega) (by omega), na_ck, na_ix (by omega), li, Option.bind_some, bst, e3]
        by_cases z : las A j ≤ las A i
        · exact ⟨0, by rw [if_pos (e ▸ z)], by rw [if_pos rfl, if_pos z, e2]⟩
        · exact ⟨1, by rw [if_neg (fun y => z (e ▸ y))], by rw [if_neg z1, if_neg z]⟩
    obtain ⟨t29, p1a, p1b⟩ := p1
    have p2 : (if pm A M 4 (ix (nI j)) = 0 then
         if (bst (gw A) j).2 < 0 then some (nI j) else
           (f_X7_guestsOf (pm A M) (nI j)).bind fun t43 =>
           lt (if 0 ≤ (bst (gw A) j).2 then ((bst (gw A) j).2) else (0 : Int32)) fun t46 =>
           (f_X7_guestsOf (pm A M) t46).bind fun t47 =>
           if t43 ≤ t47 then some ((bst (gw A) j).2) else some (nI j)
       else some ((bst (gw A) j).2)) = some (bst (gw A) (j + 1)).2 := by
      have gp : 0 < gue A j := guests_pos
      rw [x7, pm_4 (by omega)]
      by_cases u : uw A j
      · have eg : gw A j = gue A j := if_pos u
        rw [if_pos (uw_0 u)]
        rcases bst_at (f := gw A) j with ⟨e1, e2⟩ | ⟨i, e1, e2, e3, e5⟩
        · rw [e1, if_pos z9, bst, if_neg (by rw [e2]; omega)]
        · have q0 : (0 : Int32) ≤ nI i := show nI 0 ≤ nI i from nI_le (by omega) (by omega)
          have bj := gw_le w (c := j) (by omega)
          have bi := guests_le (k := A 1 i) (w.2.2.2.2.2.2.2 i (by omega)).2.1
          by_cases ui : uw A i
          · have ei : gw A i = gue A i := if_pos ui
            have e : (nI (gue A j) ≤ nI (gue A i)) = (gw A j ≤ gw A i) := by
              rw [← eg, ei]
              exact na_le (by omega) (by unfold gue; omega)
            rw [e2, if_neg (nn_0 (by omega)), M_guestsOf w (by omega), Option.bind_some, if_pos q0, na_lt, M_guestsOf w (by omega), Option.bind_some, bst, e3]
            by_cases z : gw A j ≤ gw A i
            · rw [if_pos (e ▸ z), if_pos z, e2]
            · rw [if_neg (fun y => z (e ▸ y)), if_neg z]
          · rw [show gw A i = 0 from if_neg ui] at e5
            omega
      · have eg : gw A j = 0 := if_neg u
        rw [if_neg (uw_1 u), bst, if_pos (by omega)]
    rw [f_X7_longest_L36, pm_0_0, if_neg (nI_ge hj (by omega)), p1a, Option.bind_some, na_lt, p1b, i7, na_ck, p2, Option.bind_some, na_lt, nI_1, M_bnL w hj _ (by omega), Option.bind_some, na_lt]
    rfl
theorem op_longest (R : RR A m0 (px A h1) m3 m4 ks m13 (pm A M)) (a : Int32) : ∃ r m0' M', f_X6_longest m0 (px A h1) a = some (r, m0') ∧ f_X7_longest (pm A M) a = some (r, M') ∧ RR A m0' (px A h1) m3 m4 ks m13 M' := by
  have wf := R.1
  have wb := wf.1
  have w1 := wb.1
  have z1 : ¬ (1 : Int32) = 0 := by decide
  have z2 : ¬ (2 : Int32) = 0 := by decide
  have z3 : ¬ (2 : Int32) = 1 := by decide
  rcases na_cs a (n := 3) (by omega) with ho | ⟨k, hk, rfl⟩
  · have d0 : ¬ a = 0 := out_ne ho (j := 0) (by omega) (by omega)
    have d1 : ¬ a = 1 := out_ne ho (j := 1) (by omega) (by omega)
    have d2 : ¬ a = 2 := out_ne ho (j := 2) (by omega) (by omega)
    have hi : f_X7_in a.toInt64 0 2 = some 0 := out_iK (k := 2) ho rfl (by omega)
    exact ⟨-2, rf m0 2 2, pm A (rf (M14 M) 10 2), by simp only [f_X6_longest, d0, d1, d2, if_false, X_ref2, Option.bind_some], by simp only [f_X7_longest, na_lt, M_t14, hi, Option.bind_some, if_true, M_ref2], R.rk ke14 (by omega)⟩
  · have hi : f_X7_in (nI k).toInt64 0 2 = some 1 := in_iK (k := 2) (by omega) (by omega)
    have ml := M_longest (M := M14 M) wb
    rcases (by omega : k = 0 ∨ k = 1 ∨ k = 2) with rfl | rfl | rfl
    · have q : nI 0 = (0 : Int32) := rfl
      rw [q] at hi ⊢
      exact ⟨(bst (las A) (A 0 0)).2, m0, pm A (M14 M), by simp only [f_X6_longest, if_true, X_longestOne wb, Option.bind_some], by simp only [f_X7_longest, na_lt, M_t14, hi, Option.bind_some, z1, if_false, ml, if_true], R.kp ke14⟩
    · have q : nI 1 = (1 : Int32) := rfl
      rw [q] at hi ⊢
      exact ⟨(bst (gw A) (A 0 0)).2, m0, pm A (M14 M), by simp only [f_X6_longest, z1, if_false, if_true, X_dearest wb, Option.bind_some], by simp only [f_X7_longest, na_lt, M_t14, hi, Option.bind_some, z1, if_false, ml, if_true], R.kp ke14⟩
    · have q : nI 2 = (2 : Int32) := rfl
      rw [q] at hi ⊢
      exact ⟨nI (bnS A (A 0 0)), m0, pm A (M14 M), by simp only [f_X6_longest, z2, z3, if_false, if_true, X_bunched wb, Option.bind_some], by simp only [f_X7_longest, na_lt, M_t14, hi, Option.bind_some, z1, z2, z3, if_false, ml], R.kp ke14⟩
end OPS13
