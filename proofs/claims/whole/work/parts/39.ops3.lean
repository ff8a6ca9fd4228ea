/-! CALLS that look at what is; the row -/
section OPS3
variable {A : AM} {m0 h1 h m3 m4 m13 M : Mem} {ks : List Mem}
def prN (A : AM) (t : Nat) : Nat → Nat
  | 0 => 20
  | j + 1 => if A 3 j ≤ t + 19 ∧ t ≤ A 3 j + 19 then prN A t j + 10 else prN A t j
theorem X_price_L (w : WB A) {t : Nat} (ht : t ≤ 999) : f_X6_price_L30 (nI t) (px A h) 6000 (nI 20) (nI 0) = some (nI (prN A t (A 0 0))) := by
  have w1 := w.1
  refine lp (fun f s i => f_X6_price_L30 (nI t) (px A h) f s i) (A 0 0) (fun j => nI (prN A t j)) (fun f => ?_) (fun f j hj => ?_) (A 0 0) 0 6000 (by omega) (by omega)
  · show f_X6_price_L30 _ _ (f + 1) _ _ = _
    rw [f_X6_price_L30]
    simp (disch := omega) only [px_0_0, na_le, Nat.le_refl, if_true]
  · show f_X6_price_L30 _ _ (f + 1) _ _ = f_X6_price_L30 _ _ f _ _
    rw [f_X6_price_L30]
    have hj2 : ¬ (A 0 0) ≤ j := by omega
    obtain ⟨-, -, c3, c4, -⟩ := w.2.2.2.2.2.2.2 j (by omega)
    rw [show (20 : Int32) = nI (19 + 1) from rfl, show (10 : Int32) = nI 10 from rfl]
    simp (disch := omega) only [px_0_0, hj2, if_false, na_le, na_lt, nI_1, na_inb, na_ck, na_ix, px_3, na_absl2, nI_add]
    rw [prN]
    by_cases e : A 3 j ≤ t + 19 ∧ t ≤ A 3 j + 19
    · simp only [e, and_self, not_true, if_true, if_false]
    · simp only [e, not_false_eq_true, if_true, if_false]
theorem M_price_L (w : WB A) {t : Nat} (ht : t ≤ 999) : f_X7_price_L34 (nI t) (pm A M) 6000 (nI 20) (nI 0) = some (nI (prN A t (A 0 0))) := by
  have w1 := w.1
  refine lp (fun f s i => f_X7_price_L34 (nI t) (pm A M) f s i) (A 0 0) (fun j => nI (prN A t j)) (fun f => ?_) (fun f j hj => ?_) (A 0 0) 0 6000 (by omega) (by omega)
  · show f_X7_price_L34 _ _ (f + 1) _ _ = _
    rw [f_X7_price_L34]
    simp (disch := omega) only [pm_0_0, na_le, Nat.le_refl, if_true]
  · show f_X7_price_L34 _ _ (f + 1) _ _ = f_X7_price_L34 _ _ f _ _
    rw [f_X7_price_L34]
    have hj2 : ¬ (A 0 0) ≤ j := by omega
    obtain ⟨-, -, c3, c4, -⟩ := w.2.2.2.2.2.2.2 j (by omega)
    have hn : f_X7_in (nI (A 3 j) - nI t).toInt64 (-19) 19 = some (if A 3 j ≤ t + 19 ∧ t ≤ A 3 j + 19 then 1 else 0) := na_near (k := 19) (by omega) (by omega) (by omega)
    have ez : ∀ x : Nat, nI x + 0 = nI x := fun x => by rw [show (0 : Int32) = nI 0 from rfl, nI_add, Nat.add_zero]
    have et : ∀ x : Nat, nI x + 10 = nI (x + 10) := fun x => nI_add x 10
    have e2 : ¬ (1 : Int32) = 0 := by decide
    simp (disch := omega) only [pm_0_0, hj2, if_false, na_le, na_lt, nI_1, na_inb, na_ck, na_ix, pm_3, hn, Option.bind_some, ez, et]
    rw [prN]
    by_cases e : A 3 j ≤ t + 19 ∧ t ≤ A 3 j + 19
    · simp only [e, and_self, if_true, e2, if_false]
    · simp only [e, if_true, if_false]
theorem op_price (R : RR A m0 (px A h1) m3 m4 ks m13 (pm A M)) (a : Int32) : ∃ r m0' M', f_X6_price m0 (px A h1) a = some (r, m0') ∧ f_X7_price (pm A M) a = some (r, M') ∧ RR A m0' (px A h1) m3 m4 ks m13 M' := by
  have wb := R.1.1
  have e4 : ¬ (0 : Int32) ≤ -4 := by decide
  have e6 : ¬ (0 : Int32) ≤ -6 := by decide
  have e0 : (0 : Int32) ≤ 0 := by decide
  by_cases h0 : (0 : Int32) ≤ a
  · by_cases h9 : a ≤ 999
    · obtain ⟨t, ht, rfl⟩ := nI_of2 (n := 999) (M := 999) rfl (fun z => by rw [fa_lt] at z; rw [fa_le] at h0; omega) h9
      have x1 := X_price_L (h := h1) wb ht
      have y1 := M_price_L (M := M14 M) wb ht
      rw [show (nI 20 : Int32) = 20 from rfl, show (nI 0 : Int32) = 0 from rfl] at x1 y1
      exact ⟨nI (prN A t (A 0 0)), m0, pm A (M14 M), by simp only [f_X6_price, h0, h9, if_true, x1, Option.bind_some], by
        unfold f_X7_price f_X7_wrongNumber
        rw [na_lt, M_t14]
        simp only [h0, h9, e0, if_true, Option.bind_some, y1], R.kp ke14⟩
    · exact ⟨-6, rf m0 2 6, pm A (rf (M14 M) 10 6), by simp only [f_X6_price, h0, h9, if_true, if_false, X_ref6, Option.bind_some], by simp only [f_X7_price, f_X7_wrongNumber, na_lt, M_t14, h0, h9, if_true, if_false, e6, Option.bind_some, M_ref6], R.rk ke14 (by omega)⟩
  · exact ⟨-4, rf m0 2 4, pm A (rf (M14 M) 10 4), by simp only [f_X6_price, h0, if_false, X_ref4, Option.bind_some], by simp only [f_X7_price, f_X7_wrongNumber, na_lt, M_t14, h0, if_false, e4, Option.bind_some, M_ref4], R.rk ke14 (by omega)⟩
theorem op_coupleOf (R : RR A m0 (px A h1) m3 m4 ks m13 (pm A M)) (a b : Int32) : ∃ r m0' M', f_X6_coupleOf m0 (px A h1) a b = some (r, m0') ∧ f_X7_coupleOf (pm A M) a b = some (r, M') ∧ RR A m0' (px A h1) m3 m4 ks m13 M' := by
  have wb := R.1.1
  have w1 := wb.1
  have e2 : ¬ (1 : Int32) = 0 := by decide
  rcases na_cs a (n := A 0 0) (by omega) with ho | ⟨c, hc, rfl⟩
  · exact ⟨-1, rf m0 2 1, pm A (rf (M14 M) 10 1), by simp only [f_X6_coupleOf, X_has_out ho, Option.bind_some, if_true, X_ref1], by simp only [f_X7_coupleOf, f_X7_coupleOf_J25, f_X7_coupleOf_J40, na_lt, M_t14, M_has_out wb ho, Option.bind_some, if_true, M_ref1], R.rk ke14 (by omega)⟩
  · have hc7 : c < 7 := by omega
    obtain ⟨c1, c2, c3, -⟩ := wb.2.2.2.2.2.2.2 c hc7
    have i7 := na_inb hc7 (by omega : (7 : Nat) < 2147483648)
    have x7 := na_ix (by omega : c < 2147483648)
    rcases na_cs b (n := 8) (by omega) with ho | ⟨j, hj, rfl⟩
    · have n0 : ¬ b = 0 := out_ne ho (j := 0) (by omega) (by omega)
      have n1 : ¬ b = 1 := out_ne ho (j := 1) (by omega) (by omega)
      have n2 : ¬ b = 2 := out_ne ho (j := 2) (by omega) (by omega)
      have n3 : ¬ b = 3 := out_ne ho (j := 3) (by omega) (by omega)
      have n4 : ¬ b = 4 := out_ne ho (j := 4) (by omega) (by omega)
      have n5 : ¬ b = 5 := out_ne ho (j := 5) (by omega) (by omega)
      have n6 : ¬ b = 6 := out_ne ho (j := 6) (by omega) (by omega)
      have n7 : ¬ b = 7 := out_ne ho (j := 7) (by omega) (by omega)
      have hi : f_X7_in b.toInt64 0 7 = some 0 := out_iK ho (k := 7) rfl (by omega)
      exact ⟨-2, rf m0 2 2, pm A (rf (M14 M) 10 2), by simp only [f_X6_coupleOf, X_has_in wb hc, Option.bind_some, e2, if_false, n0, n1, n2, n3, n4, n5, n6, n7, X_ref2], by simp only [f_X7_coupleOf, f_X7_coupleOf_J25, f_X7_coupleOf_J40, na_lt, M_t14, M_has_in wb hc, Option.bind_some, e2, if_false, hi, if_true, M_ref2], R.rk ke14 (by omega)⟩
    · have hi : f_X7_in (nI j).toInt64 0 7 = some 1 := in_iK (k := 7) (by omega) (by omega)
      have hb : A 0 4 / 2 ^ c % 2 < 2 := Nat.mod_lt _ (by omega)
      have mz : f_X7_coupleOf (pm A M) (nI c) (nI j) = ((if nI j = 0 then some (nI (A 1 c)) else if nI j = 1 then some (nI (A 2 c)) else if nI j = 2 then some (nI (A 3 c)) else if nI j = 3 then some (nI (A 0 4 / 2 ^ c % 2)) else if nI j = 4 then some (nI (las A c)) else if nI j = 5 then some (nI (rdy A c)) else if nI j = 6 then some (nI (gue A c)) else some (nI (pos A c))).bind fun v => some (v, pm A (M14 M))) := by
        unfold f_X7_coupleOf
        rw [na_lt, M_t14, M_has_in wb hc]
        simp (disch := omega) only [Option.bind_some, e2, if_false, hi, i7, na_ck, x7, pm_1, pm_2, pm_3, pm_4, M_lasts c1 c2, M_readyOf wb hc7, M_guestsOf wb hc7, M_posesOf wb hc7]
        rcases (show j = 0 ∨ j = 1 ∨ j = 2 ∨ j = 3 ∨ j = 4 ∨ j = 5 ∨ j = 6 ∨ j = 7 by omega) with rfl | rfl | rfl | rfl | rfl | rfl | rfl | rfl <;> rfl
      have xz : f_X6_coupleOf m0 (px A h1) (nI c) (nI j) = ((if nI j = 0 then some (nI (A 1 c)) else if nI j = 1 then some (nI (A 2 c)) else if nI j = 2 then some (nI (A 3 c)) else if nI j = 3 then some (nI (A 0 4 / 2 ^ c % 2)) else if nI j = 4 then some (nI (las A c)) else if nI j = 5 then some (nI (rdy A c)) else if nI j = 6 then some (nI (gue A c)) else some (nI (pos A c))).bind fun v => some (v, m0)) := by
        unfold f_X6_coupleOf
        rw [X_has_in wb hc]
        simp only [Option.bind_some, e2, if_false, i7, na_ck, x7]
        rw [px_1 hc7, px_2 hc7, px_3 hc7, X_isWed wb hc7, X_lastsOf wb hc7, X_readyOf wb hc7, X_guestsOf wb hc7, X_poses c1 c2]
        simp only [Option.bind_some]
        generalize A 0 4 / 2 ^ c % 2 = q at hb
        rcases (show q = 0 ∨ q = 1 by omega) with rfl | rfl <;> rcases (show j = 0 ∨ j = 1 ∨ j = 2 ∨ j = 3 ∨ j = 4 ∨ j = 5 ∨ j = 6 ∨ j = 7 by omega) with rfl | rfl | rfl | rfl | rfl | rfl | rfl | rfl <;> rfl
      rcases (show j = 0 ∨ j = 1 ∨ j = 2 ∨ j = 3 ∨ j = 4 ∨ j = 5 ∨ j = 6 ∨ j = 7 by omega) with rfl | rfl | rfl | rfl | rfl | rfl | rfl | rfl <;> exact ⟨_, _, _, xz, mz, R.kp ke14⟩
/-! the row -/
theorem RR.sp0 {m0' M' : Mem} (R : RR A m0 (px A h1) m3 m4 ks m13 (pm A M)) (hf : ∀ j, j < 7 → m0' 2 j = m0 2 j ∧ M' 10 j = M 10 j) (ht : RRt m0' (pm A M')) (hi : m0' 0 3 = m0 0 3 ∧ M' 0 26 = M 0 26 ∧ ∀ j, M' 16 j = M 16 j) (hl : M' 0 17 = M 0 17 ∧ ∀ j, M' 11 j = M 11 j) (hp : M' 0 32 = M 0 32 ∧ ∀ j, M' 17 j = M 17 j) : RR A m0' (px A h1) m3 m4 ks m13 (pm A M') := by
  obtain ⟨a1, a2, a3, a4, a5, a6, a7, a8⟩ := R
  refine ⟨a1, a2, pm_pm.symm, fun j hj => ?_, ht, ?_, ?_, ?_⟩
  · have := a4 j hj
    rw [pm_10] at this ⊢
    rw [(hf j hj).1, (hf j hj).2, this]
  · obtain ⟨n, b1, b2, b3, b4⟩ := a6
    refine ⟨n, b1, hi.1.trans b2, ?_, fun q => ?_⟩
    · rw [pm_0_26] at b3 ⊢
      exact hi.2.1.trans b3
    · obtain ⟨B, c1, c2, c3⟩ := b4 q
      refine ⟨B, c1, c2, fun k hk h6 => ?_⟩
      have := c3 k hk h6
      rw [pm_16] at this ⊢
      exact (hi.2.2 k).trans this
  · obtain ⟨n, b1, b2, b3, b4⟩ := a7
    refine ⟨n, b1, b2, ?_, fun j hj => ?_⟩
    · rw [pm_0_17] at b3 ⊢
      exact hl.1.trans b3
    · obtain ⟨v, c1, c2, c3⟩ := b4 j hj
      refine ⟨v, c1, c2, ?_⟩
      rw [pm_11] at c3 ⊢
      exact (hl.2 j).trans c3
  · obtain ⟨ol, np, b1, b2, b3, b4, b5, b6, b7⟩ := a8
    refine ⟨ol, np, b1, b2, b3, b4, ?_, b6, fun i hi => ?_⟩
    · rw [pm_0_32] at b5 ⊢
      exact hp.1.trans b5
    · obtain ⟨B, h, c1, c2, c3⟩ := b7 i hi
      refine ⟨B, h, c1, c2, fun k hk h6 => ?_⟩
      have := c3 k hk h6
      simp only [pm_17] at this ⊢
      exact (hp.2 _).trans this
theorem op_clear (R : RR A m0 (px A h1) m3 m4 ks m13 (pm A M)) : ∃ r m0' M', f_X6_clear m0 = some (r, m0') ∧ f_X7_clear (pm A M) = some (r, M') ∧ RR A m0' (px A h1) m3 m4 ks m13 M' := by
  obtain ⟨n, b1, b2, b3, b4⟩ := id R.2.2.2.2.1
  have b3' : M 0 37 = nI n := b3
  refine ⟨nI n, xs m0 0 9 0, pm A (xs (M14 M) 0 37 0), ?_, ?_, R.sp0 (fun j _ => ⟨by simp [xs], by simp [xs]⟩) ⟨0, by omega, by simp [xs]; rfl, by rw [pm_0_37]; simp [xs]; rfl, fun j hj => by omega⟩ ⟨by simp [xs], by simp [xs], fun j => by simp [xs]⟩ ⟨by simp [xs], fun j => by simp [xs]⟩ ⟨by simp [xs], fun j => by simp [xs]⟩⟩
  · unfold f_X6_clear
    rw [na_lt, na_lt, b2]
  · unfold f_X7_clear
    rw [na_lt, M_t14, na_lt, na_lt, pm_0_37, pm_off (by omega)]
    have : M14 M 0 37 = M 0 37 := by simp [xs]
    rw [this, b3']
theorem op_row (R : RR A m0 (px A h1) m3 m4 ks m13 (pm A M)) (a : Int32) : ∃ r m0' M', f_X6_row m0 a = some (r, m0') ∧ f_X7_row (pm A M) a = some (r, M') ∧ RR A m0' (px A h1) m3 m4 ks m13 M' := by
  obtain ⟨n, b1, b2, b3, b4⟩ := id R.2.2.2.2.1
  have b3' : M14 M 0 37 = nI n := by
    have : M14 M 0 37 = M 0 37 := by simp [xs]
    rw [this]; exact b3
  by_cases h0 : (0 : Int32) ≤ a
  · by_cases h9 : a ≤ 999
    · have h9' : ¬ (999 : Int32) < a := by rw [fa_lt]; rw [fa_le] at h9; omega
      obtain ⟨t, ht, rfl⟩ := nI_of2 (n := 999) (M := 999) rfl (fun z => by rw [fa_lt] at z; rw [fa_le] at h0; omega) h9
      by_cases hn : n = 12
      · subst hn
        have q1 : ¬ (nI 12 : Int32) < 12 := by decide
        have q2 : (nI 12 : Int32) = 12 := rfl
        exact ⟨-6, rf m0 2 6, pm A (rf (M14 M) 10 6), by simp only [f_X6_row, f_X6_row_J27, h0, h9', if_true, if_false, b2, q1, X_ref6, Option.bind_some], by simp only [f_X7_row, f_X7_row_J32, na_lt, M_t14, h0, h9', if_true, if_false, pm_0_37, b3', q2, M_ref6, Option.bind_some], R.rk ke14 (by omega)⟩
      · have q1 : (nI n : Int32) < 12 := nI_lt (by omega) (b := 12) (by omega)
        have q2 : ¬ (nI n : Int32) = 12 := fun z => hn ((nI_eq (by omega) (b := 12) (by omega)).mp z)
        have i7 := na_inb (c := n) (n := 12) (by omega) (by omega)
        have x7 := na_ix (by omega : n < 2147483648)
        refine ⟨nI (n + 1), xs (xs m0 1 n (nI t)) 0 9 (nI (n + 1)), pm A (xs (xs (M14 M) 22 n (nI t)) 0 37 (nI (n + 1))), ?_, ?_, R.sp0 (fun j _ => ⟨by simp [xs], by simp [xs]⟩) ⟨n + 1, by omega, by simp [xs], by rw [pm_0_37]; simp [xs], fun j hj => ?_⟩ ⟨by simp [xs], by simp [xs], fun j => by simp [xs]⟩ ⟨by simp [xs], fun j => by simp [xs]⟩ ⟨by simp [xs], fun j => by simp [xs]⟩⟩
        · have e9 : xs m0 1 n (nI t) 0 9 = nI n := by rw [← b2]; simp [xs]
          have e10 : xs (xs m0 1 n (nI t)) 0 9 (nI (n + 1)) 0 9 = nI (n + 1) := by simp [xs]
          simp only [f_X6_row, h0, h9', if_true, if_false, b2, q1, i7, na_ck, na_lt, x7, e9, nI_1, e10]
        · have e9 : xs (M14 M) 22 n (nI t) 0 37 = nI n := by rw [← b3']; simp [xs]
          have e10 : xs (xs (M14 M) 22 n (nI t)) 0 37 (nI (n + 1)) 0 37 = nI (n + 1) := by simp [xs]
          have o1 : ∀ (X : Mem) k v, xs (pm A X) 22 k v = pm A (xs X 22 k v) := fun X k v => pm_off (by omega)
          have o2 : ∀ (X : Mem) v, xs (pm A X) 0 37 v = pm A (xs X 0 37 v) := fun X v => pm_off (by omega)
          simp only [f_X7_row, na_lt, M_t14, h0, h9', if_true, if_false, pm_0_37, b3', q2, i7, na_ck, x7, o1, e9, nI_1, o2, e10]
        · by_cases hjn : j = n
          · subst hjn
            exact ⟨t, ht, by simp [xs], by rw [pm_22]; simp [xs]⟩
          · obtain ⟨v, c1, c2, c3⟩ := b4 j (by omega)
            refine ⟨v, c1, ?_, ?_⟩
            · rw [← c2]; simp [xs, hjn]
            · rw [pm_22] at c3 ⊢
              rw [← c3]; simp [xs, hjn]
    · have h9' : (999 : Int32) < a := by rw [fa_lt]; rw [fa_le] at h9; omega
      exact ⟨-6, rf m0 2 6, pm A (rf (M14 M) 10 6), by simp only [f_X6_row, f_X6_row_J27, h0, h9', if_true, X_ref6, Option.bind_some], by simp only [f_X7_row, f_X7_row_J32, na_lt, M_t14, h0, h9', if_true, M_ref6, Option.bind_some], R.rk ke14 (by omega)⟩
  · exact ⟨-4, rf m0 2 4, pm A (rf (M14 M) 10 4), by simp only [f_X6_row, h0, if_false, X_ref4, Option.bind_some], by simp only [f_X7_row, na_lt, M_t14, h0, if_false, Option.bind_some, M_ref4], R.rk ke14 (by omega)⟩
end OPS3

