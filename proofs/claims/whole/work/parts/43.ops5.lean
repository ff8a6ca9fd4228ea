/-! CALLS: couple, image, restore, back, feed -/
section OPS5
variable {A B : AM} {m0 h1 h m3 m4 m13 M : Mem} {ks : List Mem}
theorem wait_le (w : WF A) : A 0 8 ≤ A 0 0 := fb_holes (A 0 0) (A 0 8) (fun i => A 7 i) (fun i hi => (w.2.2.1 i hi).1) (fun i j hij hj => w.2.2.2.1 i j hij hj)
def adA (A : AM) (k f a : Nat) : AM := ua (ua (ua (ua (ua (ua A 1 (A 0 0) k) 2 (A 0 0) f) 3 (A 0 0) a) 7 (A 0 8) (A 0 0)) 0 8 (A 0 8 + 1)) 0 0 (A 0 0 + 1)
theorem X_full (w : WB A) (hn : A 0 0 < 7) : f_X2_isFull (px A h) = some 0 := by
  unfold f_X2_isFull
  rw [px_0_0, if_pos (show nI (A 0 0) < 7 from nI_lt hn (b := 7) (by omega))]
theorem X_full7 (hn : A 0 0 = 7) : f_X2_isFull (px A h) = some 1 := by
  unfold f_X2_isFull
  rw [px_0_0, hn, if_neg (by decide)]
theorem X_add (w : WF A) (hn : A 0 0 < 7) {k f a : Nat} : f_X2_add (px A h) (nI k) (nI f) (nI a) = some (px (adA A k f a) h) := by
  have h8 := wait_le w
  have e7 : (nI (A 0 8) : Int32) < 7 := nI_lt (by omega) (b := 7) (by omega)
  have i7 := na_inb hn (by omega : (7 : Nat) < 2147483648)
  have x7 := na_ix (by omega : A 0 0 < 2147483648)
  have i8 := na_inb (by omega : A 0 8 < 7) (by omega : (7 : Nat) < 2147483648)
  have x8 := na_ix (by omega : A 0 8 < 2147483648)
  unfold f_X2_add
  rw [X_full w.1 hn, Option.bind_some, if_pos rfl, px_0_8, if_pos e7, px_0_0, i7, na_ck, x7, px_w1 hn, na_lt, px_0_0, ua_n (by omega), i7, na_ck, x7, px_w2 hn, na_lt, px_0_0, ua_n (by omega), ua_n (by omega), i7, na_ck, x7, px_w3 hn, na_lt, px_0_8, ua_n (by omega), ua_n (by omega), ua_n (by omega), i8, na_ck, x8, px_0_0, ua_n (by omega), ua_n (by omega), ua_n (by omega), px_w7 (by omega), na_lt, px_0_8, ua_n (by omega), ua_n (by omega), ua_n (by omega), ua_n (by omega), nI_1, px_w0_8, na_lt, px_0_0, ua_n (by omega), ua_n (by omega), ua_n (by omega), ua_n (by omega), ua_n (by omega), nI_1, px_w0_0, na_lt]
  rfl
theorem ua_same {p k : Nat} (h : A p k = 0) : ua A p k 0 = A := by
  funext q j
  simp only [ua]
  split
  · next z => rw [z.1, z.2, h]
  · rfl
theorem M_comes (w : WF A) (hn : A 0 0 < 7) {k f a : Nat} (hk : k < 6) (ha : a ≤ 240) : f_X7_coupleComes (pm A M) (nI k) (nI f) (nI a) = some (1, pm (adA A k f a) M) := by
  have h8 := wait_le w
  have i7 := na_inb hn (by omega : (7 : Nat) < 2147483648)
  have x7 := na_ix (by omega : A 0 0 < 2147483648)
  have i8 := na_inb (by omega : A 0 8 < 7) (by omega : (7 : Nat) < 2147483648)
  have x8 := na_ix (by omega : A 0 8 < 2147483648)
  have c1 : ¬ (6 : Int32) ≤ nI k := nI_ge (b := 6) hk (by omega)
  have c2 : ¬ (240 : Int32) < nI a := nI_nlt (a := 240) ha (by omega)
  have c3 : ¬ (7 : Int32) ≤ nI (A 0 0) := nI_ge (b := 7) hn (by omega)
  have e2 : ¬ (1 : Int32) = 0 := by decide
  obtain ⟨o1, o2, o3, o4, o5, o6⟩ := w.2
  obtain ⟨q4, q5, q6⟩ := o5 (A 0 0) (Nat.le_refl _) hn
  have hbit : A 0 4 / 2 ^ A 0 0 % 2 = 0 := by rw [Nat.div_eq_of_lt o1]
  obtain ⟨A3, hA3⟩ : ∃ A3, A3 = ua (ua (ua A 1 (A 0 0) k) 2 (A 0 0) f) 3 (A 0 0) a := ⟨_, rfl⟩
  have g00 : A3 0 0 = A 0 0 := by rw [hA3, ua_n (by omega), ua_n (by omega), ua_n (by omega)]
  have g08 : A3 0 8 = A 0 8 := by rw [hA3, ua_n (by omega), ua_n (by omega), ua_n (by omega)]
  have g04 : A3 0 4 = A 0 4 := by rw [hA3, ua_n (by omega), ua_n (by omega), ua_n (by omega)]
  have g4 : A3 4 (A 0 0) = 0 := by rw [hA3, ua_n (by omega), ua_n (by omega), ua_n (by omega)]; exact q4
  have g5 : A3 5 (A 0 0) = 0 := by rw [hA3, ua_n (by omega), ua_n (by omega), ua_n (by omega)]; exact q5
  have g6 : A3 6 (A 0 0) = 0 := by rw [hA3, ua_n (by omega), ua_n (by omega), ua_n (by omega)]; exact q6
  have z : (0 : Int32) = nI 0 := rfl
  unfold f_X7_coupleComes
  rw [if_neg c1, if_neg c2, pm_0_0, if_neg c3, na_lt, if_neg e2, i7, na_ck, x7, pm_w1 hn, na_lt, pm_0_0, ua_n (by omega), i7, na_ck, x7, pm_w2 hn, na_lt, pm_0_0, ua_n (by omega), ua_n (by omega), i7, na_ck, x7, pm_w3 hn, na_lt, ← hA3, pm_0_0, g00, i7, na_ck, x7, z, pm_unw hn (by rw [g04]; exact hbit), na_lt, pm_0_0, g00, i7, na_ck, x7, pm_w5 hn, ua_same g4, na_lt, pm_0_0, g00, i7, na_ck, x7, pm_w6 hn, ua_same g5, na_lt, pm_0_0, g00, i7, na_ck, x7, pm_w7 hn, ua_same g6, na_lt, pm_0_9, g08, i8, na_ck, x8, pm_0_0, g00, pm_w8 (by omega), na_lt, pm_0_9, ua_n (by omega), g08, nI_1, pm_w0_9, na_lt, pm_0_0, ua_n (by omega), ua_n (by omega), g00, nI_1, pm_w0_0, na_lt]
  unfold adA
  rw [← hA3]
  rfl
theorem WF_adA (w : WF A) (hn : A 0 0 < 7) {k f a : Nat} (hk : k < 6) (hf : f ≤ 9) (ha : a ≤ 240) : WF (adA A k f a) := by
  have h8 := wait_le w
  have wb := w.1
  have w1 := wb.1
  have w2 := wb.2.1
  obtain ⟨o1, o2, o3, o4, o5, o6⟩ := w.2
  have v0 : adA A k f a 0 0 = A 0 0 + 1 := by simp [adA, ua]
  have v4 : adA A k f a 0 4 = A 0 4 := by simp [adA, ua]
  have v8 : adA A k f a 0 8 = A 0 8 + 1 := by simp [adA, ua]
  have v7 : ∀ i, adA A k f a 7 i = if i = A 0 8 then A 0 0 else A 7 i := fun i => by simp [adA, ua]
  have vr : ∀ p c, 4 ≤ p → p ≤ 6 → adA A k f a p c = A p c := fun p c g1 g2 => by
    unfold adA
    rw [ua_n (by omega), ua_n (by omega), ua_n (by omega), ua_n (by omega), ua_n (by omega), ua_n (by omega)]
  refine ⟨?_, ?_, fun i hi => ?_, fun i j hij hj => ?_, fun c hc hb => ?_, fun c hc hc7 => ?_, fun c hc7 => ?_⟩
  · unfold adA
    refine WB_ua (WB_ua (WB_ua (WB_ua (WB_ua (WB_ua wb ?_) ?_) ?_) ?_) ?_) ?_ <;> unfold okv <;> omega
  · rw [v0, v4, Nat.pow_succ]; omega
  · rw [v8] at hi
    rw [v0, v4, v7]
    by_cases e : i = A 0 8
    · rw [if_pos e, Nat.div_eq_of_lt o1]
      exact ⟨by omega, rfl⟩
    · rw [if_neg e]
      obtain ⟨g1, g2⟩ := o2 i (by omega)
      exact ⟨by omega, g2⟩
  · rw [v8] at hj
    rw [v7, v7, if_neg (by omega)]
    by_cases e : j = A 0 8
    · rw [if_pos e]
      have := (o2 i (by omega)).1
      omega
    · rw [if_neg e]
      exact o3 i j hij (by omega)
  · rw [v0] at hc
    rw [v4] at hb
    rw [v8]
    by_cases e : c = A 0 0
    · exact ⟨A 0 8, by omega, by rw [v7, if_pos rfl, e]⟩
    · obtain ⟨i, g1, g2⟩ := o4 c (by omega) hb
      exact ⟨i, by omega, by rw [v7, if_neg (by omega), g2]⟩
  · rw [v0] at hc
    rw [vr 4 c (by omega) (by omega), vr 5 c (by omega) (by omega), vr 6 c (by omega) (by omega)]
    exact o5 c (by omega) hc7
  · have v3 : adA A k f a 3 c = if c = A 0 0 then a else A 3 c := by simp [adA, ua]
    rw [v3]
    have := o6 c hc7
    split <;> omega
theorem X_isOne_in {k : Nat} (hk : k < 6) : f_X3_isOne (nI k) = some 1 := by
  have e : ∀ k, k < 6 → f_X3_isOne (nI k) = some 1 := by decide +kernel
  exact e k hk
theorem X_isOne_out {a : Int32} (ho : out a 6) : f_X3_isOne a = some 0 := by
  unfold f_X3_isOne
  rcases ho with ho | ho
  · rw [if_pos (by rw [← nI_0]; exact ho)]
  · split
    · rfl
    · rw [if_pos (show (6 : Int32) ≤ a from ho)]
theorem op_couple (R : RR A m0 (px A h1) m3 m4 ks m13 (pm A M)) (a b c : Int32) : ∃ r m0' m1' m4' M' A', f_X6_couple m0 (px A h1) m4 a b c = some (r, m0', m1', m4') ∧ f_X7_couple (pm A M) a b c = some (r, M') ∧ RR A' m0' m1' m3 m4' ks m13 M' := by
  have wf := R.1
  have wb := wf.1
  have w1 := wb.1
  have e2 : ¬ (1 : Int32) = 0 := by decide
  have n2 : ¬ (0 : Int32) ≤ -2 := by decide
  have n4 : ¬ (0 : Int32) ≤ -4 := by decide
  have n6 : ¬ (0 : Int32) ≤ -6 := by decide
  have e0 : (0 : Int32) ≤ 0 := by decide
  rcases na_cs a (n := 6) (by omega) with ho | ⟨k, hk, rfl⟩
  · have hi : f_X7_in a.toInt64 0 5 = some 0 := out_iK ho (k := 5) rfl (by omega)
    exact ⟨-2, rf m0 2 2, px A h1, m4, pm A (rf (M14 M) 10 2), A, by simp only [f_X6_couple, X_isOne_out ho, Option.bind_some, if_true, X_ref2], by simp only [f_X7_couple, na_lt, M_t14, hi, Option.bind_some, if_true, n2, if_false, M_ref2], R.rk ke14 (by omega)⟩
  · have hi : f_X7_in (nI k).toInt64 0 5 = some 1 := in_iK (k := 5) (by omega) (by omega)
    have r4 : ∃ r m0' m1' m4' M' A', some ((-4 : Int32), rf m0 2 4, px A h1, m4) = some (r, m0', m1', m4') ∧ some ((-4 : Int32), pm A (rf (M14 M) 10 4)) = some (r, M') ∧ RR A' m0' m1' m3 m4' ks m13 M' := ⟨_, _, _, _, _, A, rfl, rfl, R.rk ke14 (by omega)⟩
    have r6 : ∃ r m0' m1' m4' M' A', some ((-6 : Int32), rf m0 2 6, px A h1, m4) = some (r, m0', m1', m4') ∧ some ((-6 : Int32), pm A (rf (M14 M) 10 6)) = some (r, M') ∧ RR A' m0' m1' m3 m4' ks m13 M' := ⟨_, _, _, _, _, A, rfl, rfl, R.rk ke14 (by omega)⟩
    by_cases hb0 : b < 0
    · simp only [f_X6_couple, f_X6_couple_J22, X_isOne_in hk, Option.bind_some, e2, if_false, hb0, if_true, X_ref4, f_X7_couple, na_lt, M_t14, hi, n4, M_ref4]
      exact r4
    · by_cases hc0 : (0 : Int32) ≤ c
      · by_cases hb9 : (9 : Int32) < b
        · simp only [f_X6_couple, f_X6_couple_J52, X_isOne_in hk, Option.bind_some, e2, if_false, hb0, hc0, hb9, if_true, X_ref6, f_X7_couple, na_lt, M_t14, hi, n6, M_ref6]
          exact r6
        · by_cases hc9 : (240 : Int32) < c
          · simp only [f_X6_couple, f_X6_couple_J52, X_isOne_in hk, Option.bind_some, e2, if_false, hb0, hc0, hb9, hc9, if_true, X_ref6, f_X7_couple, na_lt, M_t14, hi, n6, M_ref6]
            exact r6
          · obtain ⟨f, hf, rfl⟩ := nI_of2 (n := 9) (M := 9) rfl hb0 (by rw [fa_lt] at hb9; rw [fa_le]; omega)
            have hc8 : c ≤ 240 := by
              rw [fa_lt] at hc9
              rw [fa_le]
              omega
            obtain ⟨t, ht, rfl⟩ := nI_of2 (n := 240) (M := 240) rfl (fun z => by rw [fa_lt] at z; rw [fa_le] at hc0; omega) hc8
            by_cases h7 : A 0 0 = 7
            · have q7 : (nI (A 0 0) : Int32) = 7 := by rw [h7]; rfl
              simp only [f_X6_couple, f_X6_couple_J52, X_isOne_in hk, Option.bind_some, e2, if_false, hb0, hc0, hb9, hc9, if_true, X_full7 h7, X_ref6, f_X7_couple, na_lt, M_t14, hi, pm_0_0, q7, n6, M_ref6]
              exact r6
            · have h7' : A 0 0 < 7 := by omega
              have q7 : ¬ (nI (A 0 0) : Int32) = 7 := fun z => h7 ((nI_eq (by omega) (b := 7) (by omega)).mp z)
              have v0 : adA A k f t 0 0 = A 0 0 + 1 := by simp [adA, ua]
              have s1 : nI (A 0 0 + 1) - 1 = nI (A 0 0) := nI_pred _
              refine ⟨nI (A 0 0), m0, px (adA A k f t) h1, xs m4 0 2 0, pm (adA A k f t) (xs (M14 M) 0 32 0), adA A k f t, ?_, ?_, R.fg ke14 (WF_adA wf h7' hk hf (by omega)) fg4⟩
              · simp only [f_X6_couple, X_isOne_in hk, Option.bind_some, e2, if_false, hb0, hc0, hb9, hc9, if_true, X_full wb h7', X_add wf h7', X_forget, px_0_0, v0, s1]
              · simp only [f_X7_couple, na_lt, M_t14, hi, Option.bind_some, e2, if_false, hb0, hc0, hb9, hc9, if_true, pm_0_0, q7, e0, M_comes wf h7' hk ht, M_fg, v0, s1]
      · simp only [f_X6_couple, f_X6_couple_J22, X_isOne_in hk, Option.bind_some, e2, if_false, hb0, hc0, X_ref4, f_X7_couple, na_lt, M_t14, hi, n4, M_ref4]
        exact r4
theorem op_feed (R : RR A m0 (px A h1) m3 m4 ks m13 (pm A M)) (a : Int32) : ∃ r m0' m13' M', f_X6_feed m0 m13 a = some (r, m0', m13') ∧ f_X7_feed (pm A M) a = some (r, M') ∧ RR A m0' (px A h1) m3 m4 ks m13' M' := by
  obtain ⟨a1, a2, a3, a4, a5, a6, ⟨n, b1, b2, b3, b4⟩, a8⟩ := id R
  have b3' : M14 M 0 17 = nI n := by
    have : M14 M 0 17 = M 0 17 := by simp [xs]
    rw [this]; exact b3
  have z1 : (1 : Int32) = 0 ↔ False := by decide
  by_cases h0 : (0 : Int32) ≤ a
  · by_cases h9 : a ≤ 255
    · have h9' : ¬ (255 : Int32) < a := by rw [fa_lt]; rw [fa_le] at h9; omega
      obtain ⟨t, ht, rfl⟩ := nI_of2 (n := 255) (M := 255) rfl (fun z => by rw [fa_lt] at z; rw [fa_le] at h0; omega) h9
      by_cases hn : n = 96
      · subst hn
        have q1 : ¬ (nI 96 : Int32) < 96 := by decide
        have q2 : (nI 96 : Int32) = 96 := rfl
        exact ⟨-6, rf m0 2 6, m13, pm A (rf (M14 M) 10 6), by simp only [f_X6_feed, f_X6_feed_J29, f_X4_take, h0, h9', if_true, if_false, b2, q1, X_ref6, Option.bind_some], by simp only [f_X7_feed, f_X7_feed_J32, na_lt, M_t14, h0, h9', if_true, if_false, pm_0_17, b3', q2, M_ref6, Option.bind_some], R.rk ke14 (by omega)⟩
      · have q1 : (nI n : Int32) < 96 := nI_lt (by omega) (b := 96) (by omega)
        have q2 : ¬ (nI n : Int32) = 96 := fun z => hn ((nI_eq (by omega) (b := 96) (by omega)).mp z)
        have i7 := na_inb (c := n) (n := 96) (by omega) (by omega)
        have x7 := na_ix (by omega : n < 2147483648)
        have e2 : ¬ (1 : Int32) = 0 := by decide
        have o1 : ∀ (X : Mem) k v, xs (pm A X) 11 k v = pm A (xs X 11 k v) := fun X k v => pm_off (by omega)
        have o2 : ∀ (X : Mem) v, xs (pm A X) 0 17 v = pm A (xs X 0 17 v) := fun X v => pm_off (by omega)
        refine ⟨nI (n + 1), m0, xs (xs m13 1 n (nI t)) 0 1 (nI (n + 1)), pm A (xs (xs (M14 M) 11 n (nI t)) 0 17 (nI (n + 1))), ?_, ?_, ?_⟩
        · have e9 : xs m13 1 n (nI t) 0 1 = nI n := by rw [← b2]; simp [xs]
          have e10 : xs (xs m13 1 n (nI t)) 0 1 (nI (n + 1)) 0 1 = nI (n + 1) := by simp [xs]
          simp only [f_X6_feed, f_X4_take, h0, h9', if_true, if_false, b2, q1, i7, na_ck, na_lt, x7, e9, nI_1, Option.bind_some, e2, e10]
        · have e9 : xs (M14 M) 11 n (nI t) 0 17 = nI n := by rw [← b3']; simp [xs]
          have e10 : xs (xs (M14 M) 11 n (nI t)) 0 17 (nI (n + 1)) 0 17 = nI (n + 1) := by simp [xs]
          simp only [f_X7_feed, na_lt, M_t14, h0, h9', if_true, if_false, pm_0_17, b3', q2, i7, na_ck, x7, o1, e9, nI_1, o2, e10]
        · have e : ∀ p j, ¬ (p = 11 ∧ j = n) → ¬ (p = 0 ∧ (j = 17 ∨ j = 14)) → ¬ hcell A p j → pm A (xs (xs (M14 M) 11 n (nI t)) 0 17 (nI (n + 1))) p j = pm A M p j := fun p j g1 g2 g3 => by
            rw [pm_out g3, pm_out g3]
            simp only [xs]
            rw [if_neg (by omega), if_neg g1, if_neg (by omega)]
          refine ⟨a1, a2, pm_pm.symm, fun j hj => ?_, ?_, ?_, ?_, ?_⟩
          · rw [e 10 j (by omega) (by omega) (by unfold hcell; omega)]; exact a4 j hj
          · obtain ⟨n, b1, b2, b3, b4⟩ := a5
            refine ⟨n, b1, b2, by rw [e 0 37 (by omega) (by omega) (by unfold hcell; omega)]; exact b3, fun j hj => ?_⟩
            obtain ⟨v, c1, c2, c3⟩ := b4 j hj
            exact ⟨v, c1, c2, by rw [e 22 j (by omega) (by omega) (by unfold hcell; omega)]; exact c3⟩
          · obtain ⟨n, b1, b2, b3, b4⟩ := a6
            refine ⟨n, b1, b2, by rw [e 0 26 (by omega) (by omega) (by unfold hcell; omega)]; exact b3, fun j => ?_⟩
            obtain ⟨C, c1, c2, c3⟩ := b4 j
            exact ⟨C, c1, c2, fun k hk h6 => by rw [e 16 k (by omega) (by omega) (by unfold hcell; omega)]; exact c3 k hk h6⟩
          · refine ⟨n + 1, by omega, by simp [xs], by rw [pm_0_17]; simp [xs], fun j hj => ?_⟩
            by_cases hjn : j = n
            · subst hjn
              exact ⟨t, by omega, by simp [xs], by rw [pm_11]; simp [xs]⟩
            · obtain ⟨v, c1, c2, c3⟩ := b4 j (by omega)
              exact ⟨v, c1, by rw [← c2]; simp [xs, hjn], by rw [e 11 j (by omega) (by omega) (by unfold hcell; omega)]; exact c3⟩
          · obtain ⟨ol, np, b1, b2, b3, b4, b5, b6, b7⟩ := a8
            refine ⟨ol, np, b1, b2, b3, b4, by rw [e 0 32 (by omega) (by omega) (by unfold hcell; omega)]; exact b5, b6, fun i hi => ?_⟩
            obtain ⟨C, hh, c1, c2, c3⟩ := b7 i hi
            exact ⟨C, hh, c1, c2, fun k hk h6 => by
              show pm A _ 17 _ = _
              rw [e 17 _ (by omega) (by omega) (by unfold hcell; omega)]
              exact c3 k hk h6⟩
    · have h9' : (255 : Int32) < a := by rw [fa_lt]; rw [fa_le] at h9; omega
      exact ⟨-6, rf m0 2 6, m13, pm A (rf (M14 M) 10 6), by simp only [f_X6_feed, f_X6_feed_J29, h0, h9', if_true, X_ref6, Option.bind_some], by simp only [f_X7_feed, f_X7_feed_J32, na_lt, M_t14, h0, h9', if_true, M_ref6, Option.bind_some], R.rk ke14 (by omega)⟩
  · exact ⟨-4, rf m0 2 4, m13, pm A (rf (M14 M) 10 4), by simp only [f_X6_feed, h0, if_false, X_ref4, Option.bind_some], by simp only [f_X7_feed, na_lt, M_t14, h0, if_false, Option.bind_some, M_ref4], R.rk ke14 (by omega)⟩
/-- the model lays a kept row back into its hall -/
theorem M_load16 {A' : AM} (hr : encs B (M 16)) : ∃ M', f_X7_carryAll_16 (pm A' M) 0 = some (pm B M') ∧ KE M M' := by
  refine ⟨stt 16 0 (pm B (xs M 9 1 (M 16 6))) M 63, ?_, ?_⟩
  · rw [show (0 : Int32) = nI 0 from rfl, carryAll_16_is (t := 0) (V := pm B (xs M 9 1 (M 16 6))) (W := pm A' M) (Or.inr ⟨rfl, fun k hk => by rw [pm_16]; exact back_V hr rfl k hk⟩) (fun _ _ _ _ _ => rfl), pm_stt (M := M) (W := pm A' M) (fun p j h => pm_out (fun z => h (ci_hc.mpr (hc0_of z))))]
  · refine KE.of (fun p j hs => ?_)
    unfold scr at hs
    have hc : ¬ ci p j < 63 := fun z => by
      have := ci_hc.mp z
      unfold hc0 at this
      omega
    exact stt_off (by omega) hc (by omega)
theorem op_restore (R : RR A m0 (px A h1) m3 m4 ks m13 (pm A M)) : ∃ r m0' m1' m4' M' A', f_X6_restore m0 (px A h1) m3 m4 = some (r, m0', m1', m4') ∧ f_X7_restore (pm A M) = some (r, M') ∧ RR A' m0' m1' m3 m4' ks m13 M' := by
  obtain ⟨hi, b1, b2, b3, b4⟩ := id R.2.2.2.2.2.1
  have b3' : M14 M 0 26 = nI hi := by
    have : M14 M 0 26 = M 0 26 := by simp [xs]
    rw [this]; exact b3
  rcases (show hi = 0 ∨ hi = 1 by omega) with rfl | rfl
  · have q0 : (nI 0 : Int32) = 0 := rfl
    exact ⟨-3, rf m0 2 3, px A h1, m4, pm A (rf (M14 M) 10 3), A, by simp only [f_X6_restore, b2, q0, if_true, X_ref3, Option.bind_some], by simp only [f_X7_restore, na_lt, M_t14, pm_0_26, b3', q0, if_true, M_ref3, Option.bind_some], R.rk ke14 (by omega)⟩
  · obtain ⟨B, c1, c2, c3⟩ := b4 rfl
    have q0 : ¬ (nI 1 : Int32) = 0 := by decide
    have c3' : encs B (M14 M 16) := fun k hk h6 => by
      have := c3 k hk h6
      rw [pm_16] at this
      rw [← this]; simp [xs]
    obtain ⟨M', d1, d2⟩ := M_load16 (A' := A) c3'
    refine ⟨nI (B 0 8), m0, px B (px A h1), xs m4 0 2 0, pm B (xs M' 0 32 0), B, ?_, ?_, ?_⟩
    · unfold f_X6_restore
      rw [b2, if_neg q0, c2, X_become, Option.bind_some, X_forget, Option.bind_some, px_0_8]
    · unfold f_X7_restore
      rw [na_lt, M_t14, pm_0_26, b3', if_neg q0, d1, Option.bind_some, M_fg, na_lt, pm_0_9]
    · exact R.fg (ke14.trans d2) c1 fg4
theorem op_image (R : RR A m0 (px A h1) m3 m4 ks m13 (pm A M)) : ∃ r m0' m3' M', f_X6_image m0 (px A h1) m3 = some (r, m0', m3') ∧ f_X7_image (pm A M) = some (r, M') ∧ RR A m0' (px A h1) m3' m4 ks m13 M' := by
  obtain ⟨a1, a2, a3, a4, a5, a6, a7, a8⟩ := id R
  obtain ⟨M1, hM1⟩ : ∃ M1, M1 = xs (M14 M) 0 26 1 := ⟨_, rfl⟩
  obtain ⟨M2, hM2⟩ : ∃ M2, M2 = stt 16 1 (pm A M1) M1 63 := ⟨_, rfl⟩
  have c2 : f_X7_carryAll_16 (pm A M1) 1 = some (pm A M2) := by
    rw [show (1 : Int32) = nI 1 from rfl, carryAll_16_is (t := 1) (V := pm A M1) (W := pm A M1) (Or.inl ⟨rfl, fun _ _ => rfl⟩) (fun _ _ _ _ _ => rfl), pm_stt (M := M1) (W := pm A M1) (fun p j h => pm_out (fun z => h (ci_hc.mpr (hc0_of z)))), hM2]
  have o2 : ∀ p j, ¬ (p = 0 ∧ (j = 27 ∨ j = 28 ∨ j = 29)) → ¬ hc0 p j → p ≠ 16 → M2 p j = M1 p j := fun p j h1 h2 h3 => by
    rw [hM2]
    exact stt_off h1 (fun z => h2 (ci_hc.mp z)) (by omega)
  have o1 : ∀ p j, ¬ (p = 0 ∧ (j = 14 ∨ j = 26)) → M1 p j = M p j := fun p j h => by
    rw [hM1]
    simp only [xs]
    rw [if_neg (by omega), if_neg (by omega)]
  have oo : ∀ p j, ¬ (p = 0 ∧ (j = 27 ∨ j = 28 ∨ j = 29 ∨ j = 14 ∨ j = 26)) → ¬ hc0 p j → p ≠ 16 → pm A M2 p j = pm A M p j := fun p j h1 h2 h3 => by
    rw [pm_out (fun z => h2 (hc0_of z)), pm_out (fun z => h2 (hc0_of z)), o2 p j (by omega) h2 h3, o1 p j (by omega)]
  have r2 : ∀ k, k < 63 → M2 16 k = pm A M1 (cp k) (cj k) := fun k hk => by
    rw [hM2]
    simp only [stt]
    rw [if_neg (by omega), if_neg (by omega), if_neg (by omega), ci_big (by omega), if_neg (by omega), if_pos ⟨trivial, trivial, hk⟩]
  refine ⟨nI (A 0 8), xs m0 0 3 1, px A m3, pm A M2, ?_, ?_, a1, a2, pm_pm.symm, fun j hj => ?_, ?_, ?_, ?_, ?_⟩
  · unfold f_X6_image
    rw [X_become, Option.bind_some, na_lt, px_0_8]
  · unfold f_X7_image
    rw [na_lt, M_t14, pm_off (by omega), na_lt, ← hM1, c2, Option.bind_some, pm_0_9]
  · rw [oo 10 j (by omega) (by unfold hc0; omega) (by omega), ← a4 j hj]
    simp [xs]
  · obtain ⟨n, b1, b2, b3, b4⟩ := a5
    refine ⟨n, b1, by rw [← b2]; simp [xs], by rw [oo 0 37 (by omega) (by unfold hc0; omega) (by omega)]; exact b3, fun j hj => ?_⟩
    obtain ⟨v, c1, c2, c3⟩ := b4 j hj
    exact ⟨v, c1, by rw [← c2]; simp [xs], by rw [oo 22 j (by omega) (by unfold hc0; omega) (by omega)]; exact c3⟩
  · refine ⟨1, by omega, by simp [xs]; rfl, ?_, fun _ => ⟨A, a1, px_px.symm, fun k hk h6 => ?_⟩⟩
    · rw [pm_0_26, o2 0 26 (by omega) (by unfold hc0; omega) (by omega), hM1]
      simp [xs]
      rfl
    · rw [pm_16, r2 k hk, enc_pm hk h6]
  · obtain ⟨n, b1, b2, b3, b4⟩ := a7
    refine ⟨n, b1, b2, by rw [oo 0 17 (by omega) (by unfold hc0; omega) (by omega)]; exact b3, fun j hj => ?_⟩
    obtain ⟨v, c1, c2, c3⟩ := b4 j hj
    exact ⟨v, c1, c2, by rw [oo 11 j (by omega) (by unfold hc0; omega) (by omega)]; exact c3⟩
  · obtain ⟨ol, np, b1, b2, b3, b4, b5, b6, b7⟩ := a8
    refine ⟨ol, np, b1, b2, b3, b4, by rw [oo 0 32 (by omega) (by unfold hc0; omega) (by omega)]; exact b5, b6, fun i hi => ?_⟩
    obtain ⟨C, hh, c1, c2, c3⟩ := b7 i hi
    exact ⟨C, hh, c1, c2, fun k hk h6 => by
      show pm A _ 17 _ = _
      rw [oo 17 _ (by omega) (by unfold hc0; omega) (by omega)]
      exact c3 k hk h6⟩
end OPS5

