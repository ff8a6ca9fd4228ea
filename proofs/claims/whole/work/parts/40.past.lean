/-! WHAT CAN BE TAKEN BACK -/
section PAST
variable {A : AM} {m0 h1 h m3 m4 m13 M : Mem} {ks : List Mem}
theorem na_rem8 {a : Nat} (ha : a < 1000) : nI a - nI a / 8 * 8 = nI (a % 8) := pk_rem (d := 8) (by omega) (by omega) (by omega)
theorem X_keep {k0 k1 k2 k3 k4 k5 k6 k7 : Mem} {ol np : Nat} (hol : ol < 8) (hnp : np ≤ 8) (ho : m4 0 1 = nI ol) (hn : m4 0 2 = nI np) : ∃ m4' j0 j1 j2 j3 j4 j5 j6 j7 q, f_X5_keep m4 k0 k1 k2 k3 k4 k5 k6 k7 (px A h) = some (m4', j0, j1, j2, j3, j4, j5, j6, j7) ∧ (∃ kq, [j0, j1, j2, j3, j4, j5, j6, j7] = ([k0, k1, k2, k3, k4, k5, k6, k7]).set q (px A kq)) ∧ m4' 0 1 = nI (if np = 8 then (ol + 1) % 8 else ol) ∧ m4' 0 2 = nI (if np = 8 then 8 else np + 1) ∧ q = (ol + np) % 8 := by
  -- first the count's own step
  obtain ⟨t9, ol2, np2, e0, e1, e2, e3, e4, e5⟩ : ∃ t9 ol2 np2, (if m4 0 2 = 8 then lt (xs m4 0 1 (m4 0 1 + 1 - (m4 0 1 + 1) / 8 * 8)) fun w6 => lt (xs w6 0 2 (w6 0 2 - 1)) fun w7 => some w7 else some m4) = some t9 ∧ t9 0 1 = nI ol2 ∧ t9 0 2 = nI np2 ∧ ol2 = (if np = 8 then (ol + 1) % 8 else ol) ∧ np2 + 1 = (if np = 8 then 8 else np + 1) ∧ (ol2 + np2) % 8 = (ol + np) % 8 := by
    by_cases h8 : np = 8
    · subst h8
      have q8 : (nI 8 : Int32) = 8 := rfl
      refine ⟨xs (xs m4 0 1 (nI ((ol + 1) % 8))) 0 2 (nI 7), (ol + 1) % 8, 7, ?_, by simp [xs], by simp [xs], by simp, by simp, by omega⟩
      rw [hn, if_pos q8, na_lt, na_lt, ho, nI_1, na_rem8 (by omega)]
      have : xs m4 0 1 (nI ((ol + 1) % 8)) 0 2 = nI 8 := by rw [← hn]; simp [xs]
      rw [this]
      rfl
    · have q8 : ¬ (nI np : Int32) = 8 := fun z => h8 ((nI_eq (by omega) (b := 8) (by omega)).mp z)
      exact ⟨m4, ol, np, by rw [hn, if_neg q8], ho, hn, by simp [h8], by simp [h8], rfl⟩
  have hol2 : ol2 < 8 := by rw [e3]; split <;> omega
  have hnp2 : np2 ≤ 7 := by
    have : (if np = 8 then 8 else np + 1) ≤ 8 := by split <;> omega
    omega
  have hq : ((t9 0 1 + t9 0 2) - (t9 0 1 + t9 0 2) / 8 * 8 : Int32) = nI ((ol + np) % 8) := by
    rw [e1, e2, nI_add, na_rem8 (by omega), e5]
  have hx : ∀ X : Mem, f_X2_become X (px A h) = some (px A X) := fun X => X_become
  have t1 : xs t9 0 2 (nI (np2 + 1)) 0 1 = t9 0 1 := by simp [xs]
  have t2 : xs t9 0 2 (nI (np2 + 1)) 0 2 = nI (np2 + 1) := by simp [xs]
  unfold f_X5_keep
  rw [e0, Option.bind_some, hq, e2, nI_1]
  have hlt : (ol + np) % 8 < 8 := Nat.mod_lt _ (by omega)
  generalize (ol + np) % 8 = q at hlt
  rcases (show q = 0 ∨ q = 1 ∨ q = 2 ∨ q = 3 ∨ q = 4 ∨ q = 5 ∨ q = 6 ∨ q = 7 by omega) with rfl | rfl | rfl | rfl | rfl | rfl | rfl | rfl

  · refine ⟨xs t9 0 2 (nI (np2 + 1)), px A k0, k1, k2, k3, k4, k5, k6, k7, 0, ?_, ⟨k0, rfl⟩, by rw [t1, e1, e3], by rw [t2, e4], rfl⟩
    rw [if_pos (by decide), hx, Option.bind_some, na_lt]
  · refine ⟨xs t9 0 2 (nI (np2 + 1)), k0, px A k1, k2, k3, k4, k5, k6, k7, 1, ?_, ⟨k1, rfl⟩, by rw [t1, e1, e3], by rw [t2, e4], rfl⟩
    rw [if_neg (by decide)]
    rw [if_pos (by decide), hx, Option.bind_some, na_lt]
  · refine ⟨xs t9 0 2 (nI (np2 + 1)), k0, k1, px A k2, k3, k4, k5, k6, k7, 2, ?_, ⟨k2, rfl⟩, by rw [t1, e1, e3], by rw [t2, e4], rfl⟩
    rw [if_neg (by decide)]
    rw [if_neg (by decide)]
    rw [if_pos (by decide), hx, Option.bind_some, na_lt]
  · refine ⟨xs t9 0 2 (nI (np2 + 1)), k0, k1, k2, px A k3, k4, k5, k6, k7, 3, ?_, ⟨k3, rfl⟩, by rw [t1, e1, e3], by rw [t2, e4], rfl⟩
    rw [if_neg (by decide)]
    rw [if_neg (by decide)]
    rw [if_neg (by decide)]
    rw [if_pos (by decide), hx, Option.bind_some, na_lt]
  · refine ⟨xs t9 0 2 (nI (np2 + 1)), k0, k1, k2, k3, px A k4, k5, k6, k7, 4, ?_, ⟨k4, rfl⟩, by rw [t1, e1, e3], by rw [t2, e4], rfl⟩
    rw [if_neg (by decide)]
    rw [if_neg (by decide)]
    rw [if_neg (by decide)]
    rw [if_neg (by decide)]
    rw [if_pos (by decide), hx, Option.bind_some, na_lt]
  · refine ⟨xs t9 0 2 (nI (np2 + 1)), k0, k1, k2, k3, k4, px A k5, k6, k7, 5, ?_, ⟨k5, rfl⟩, by rw [t1, e1, e3], by rw [t2, e4], rfl⟩
    rw [if_neg (by decide)]
    rw [if_neg (by decide)]
    rw [if_neg (by decide)]
    rw [if_neg (by decide)]
    rw [if_neg (by decide)]
    rw [if_pos (by decide), hx, Option.bind_some, na_lt]
  · refine ⟨xs t9 0 2 (nI (np2 + 1)), k0, k1, k2, k3, k4, k5, px A k6, k7, 6, ?_, ⟨k6, rfl⟩, by rw [t1, e1, e3], by rw [t2, e4], rfl⟩
    rw [if_neg (by decide)]
    rw [if_neg (by decide)]
    rw [if_neg (by decide)]
    rw [if_neg (by decide)]
    rw [if_neg (by decide)]
    rw [if_neg (by decide)]
    rw [if_pos (by decide), hx, Option.bind_some, na_lt]
  · refine ⟨xs t9 0 2 (nI (np2 + 1)), k0, k1, k2, k3, k4, k5, k6, px A k7, 7, ?_, ⟨k7, rfl⟩, by rw [t1, e1, e3], by rw [t2, e4], rfl⟩
    rw [if_neg (by decide)]
    rw [if_neg (by decide)]
    rw [if_neg (by decide)]
    rw [if_neg (by decide)]
    rw [if_neg (by decide)]
    rw [if_neg (by decide)]
    rw [if_neg (by decide)]
    rw [if_pos (by decide), hx, Option.bind_some, na_lt]
/-- the model keeps a turn: row 17 behind it -/
theorem M_keep_sh (M : Mem) : f_X7_keepTurn_L12 6000 63 (pm A M) = some (pm A (fun p j => if p = 17 ∧ j < 441 then M 17 (j + 63) else M p j)) := by
  have := lp_lo 63 (fun f s i => f_X7_keepTurn_L12 f i s) 504 (fun j => pm A (fun p i => if p = 17 ∧ i + 63 < j then M 17 (i + 63) else M p i)) (r := some (pm A (fun p j => if p = 17 ∧ j < 441 then M 17 (j + 63) else M p j))) (fun f => ?_) (fun f j hjl hj => ?_) 441 63 6000 (by omega) (by omega) (by omega)
  · have e : (fun p i => if p = 17 ∧ i + 63 < 63 then M 17 (i + 63) else M p i) = M := by
      funext p i
      rw [if_neg (by omega)]
    simp only [e] at this
    exact this
  · show f_X7_keepTurn_L12 (f + 1) _ _ = _
    rw [f_X7_keepTurn_L12, if_pos (by decide)]
    congr 2
    funext p i
    have : (p = 17 ∧ i + 63 < 504) ↔ (p = 17 ∧ i < 441) := by omega
    simp only [this]
  · show f_X7_keepTurn_L12 (f + 1) _ _ = f_X7_keepTurn_L12 f _ _
    rw [f_X7_keepTurn_L12, if_neg (show ¬ (504 : Int32) ≤ nI j from nI_ge (b := 504) hj (by omega)), na_inb hj (by omega), na_ck, show (63 : Int32) = nI 63 from rfl, pk_sub (by omega), na_inb (by omega) (by omega), na_ck, na_ix (by omega), na_ix (by omega), pm_17, na_lt, na_lt, nI_1, pm_off (by omega)]
    congr 2
    funext p i
    simp only [xs]
    by_cases e1 : p = 17 ∧ i = j - 63
    · obtain ⟨rfl, rfl⟩ := e1
      rw [if_pos ⟨rfl, rfl⟩, if_neg (by omega), if_pos (by omega), show j - 63 + 63 = j by omega]
    · rw [if_neg e1]
      by_cases e2 : p = 17 ∧ i + 63 < j
      · rw [if_pos e2, if_pos (by omega)]
      · rw [if_neg e2, if_neg (by omega)]
/-- row 18 into row 17 behind what is kept -/
theorem M_keep_cp (M : Mem) {np : Nat} (hn : np ≤ 7) (h32 : M 0 32 = nI np) : f_X7_keepTurn_L61 6000 0 (pm A M) = some (pm A (fun p j => if p = 17 ∧ 63 * np ≤ j ∧ j < 63 * np + 63 then M 18 (j - 63 * np) else M p j)) := by
  have := lp (fun f s i => f_X7_keepTurn_L61 f i s) 63 (fun k => pm A (fun p j => if p = 17 ∧ 63 * np ≤ j ∧ j < 63 * np + k then M 18 (j - 63 * np) else M p j)) (r := some (pm A (fun p j => if p = 17 ∧ 63 * np ≤ j ∧ j < 63 * np + 63 then M 18 (j - 63 * np) else M p j))) (fun f => ?_) (fun f k hk => ?_) 63 0 6000 (by omega) (by omega)
  · have e : (fun p j => if p = 17 ∧ 63 * np ≤ j ∧ j < 63 * np + 0 then M 18 (j - 63 * np) else M p j) = M := by
      funext p i
      rw [if_neg (by omega)]
    simp only [e] at this
    exact this
  · show f_X7_keepTurn_L61 (f + 1) _ _ = _
    rw [f_X7_keepTurn_L61, if_pos (by decide)]
  · show f_X7_keepTurn_L61 (f + 1) _ _ = f_X7_keepTurn_L61 f _ _
    have e32 : (if (0 : Nat) = 17 ∧ 63 * np ≤ 32 ∧ 32 < 63 * np + k then M 18 (32 - 63 * np) else M 0 32) = nI np := by
      rw [if_neg (by omega)]; exact h32
    have e18 : (if (18 : Nat) = 17 ∧ 63 * np ≤ k ∧ k < 63 * np + k then M 18 (k - 63 * np) else M 18 k) = M 18 k := by
      rw [if_neg (by omega)]
    rw [f_X7_keepTurn_L61, if_neg (show ¬ (63 : Int32) ≤ nI k from nI_ge (b := 63) hk (by omega)), na_inb hk (by omega), na_ck, pm_0_32, e32, show (63 : Int32) = nI 63 from rfl, pk_mul, nI_add, na_inb (by omega) (by omega), na_ck, na_ix (by omega), na_ix (by omega), pm_18, e18, na_lt, na_lt, nI_1, pm_off (by omega)]
    congr 2
    funext p i
    simp only [xs]
    by_cases e1 : p = 17 ∧ i = 63 * np + k
    · obtain ⟨rfl, rfl⟩ := e1
      rw [if_pos ⟨rfl, rfl⟩, if_pos (by omega), show 63 * np + k - 63 * np = k by omega]
    · rw [if_neg e1]
      by_cases e2 : p = 17 ∧ 63 * np ≤ i ∧ i < 63 * np + k
      · rw [if_pos e2, if_pos (by omega)]
      · rw [if_neg e2, if_neg (by omega)]
/-- what the model's memory is behind a kept turn -/
theorem M_keep {np : Nat} (hn : np ≤ 8) (h32 : M 0 32 = nI np) : ∃ M', f_X7_keepTurn (pm A M) = some (pm A M') ∧ M' 0 32 = nI (if np = 8 then 8 else np + 1) ∧ (∀ i k, i + 1 < (if np = 8 then 8 else np + 1) → k < 63 → M' 17 (63 * i + k) = M 17 (63 * (if np = 8 then i + 1 else i) + k)) ∧ encs A (fun k => M' 17 (63 * ((if np = 8 then 8 else np + 1) - 1) + k)) ∧ (M' 0 17 = M 0 17 ∧ M' 0 26 = M 0 26 ∧ M' 0 37 = M 0 37) ∧ ∀ j, M' 10 j = M 10 j ∧ M' 11 j = M 11 j ∧ M' 16 j = M 16 j ∧ M' 22 j = M 22 j := by
  obtain ⟨M1, np2, e0, e1, e2, e3, e4⟩ : ∃ M1 np2, (if pm A M 0 32 = 8 then (f_X7_keepTurn_L12 6000 63 (pm A M)).bind fun t17 => lt (xs t17 0 32 (t17 0 32 - 1)) fun w18 => some w18 else some (pm A M)) = some (pm A M1) ∧ M1 0 32 = nI np2 ∧ np2 + 1 = (if np = 8 then 8 else np + 1) ∧ (∀ i k, i < np2 → k < 63 → M1 17 (63 * i + k) = M 17 (63 * (if np = 8 then i + 1 else i) + k)) ∧ ∀ p j, p ≠ 17 → ¬ (p = 0 ∧ j = 32) → M1 p j = M p j := by
    by_cases h8 : np = 8
    · subst h8
      have q8 : (nI 8 : Int32) = 8 := rfl
      refine ⟨xs (fun p j => if p = 17 ∧ j < 441 then M 17 (j + 63) else M p j) 0 32 (nI 7), 7, ?_, by simp [xs], by simp, fun i k hi hk => ?_, fun p j hp hj => ?_⟩
      · rw [pm_0_32, h32, if_pos q8, M_keep_sh, Option.bind_some, na_lt, pm_0_32]
        rw [show (if (0 : Nat) = 17 ∧ 32 < 441 then M 17 (32 + 63) else M 0 32) = nI 8 from by rw [if_neg (by omega)]; exact h32]
        rw [show (nI 8 : Int32) - 1 = nI 7 from rfl, pm_off (by omega)]
      · have a1 : ¬ ((17 : Nat) = 0 ∧ 63 * i + k = 32) := by omega
        have a2 : True ∧ 63 * i + k < 441 := ⟨trivial, by omega⟩
        simp only [xs]
        rw [if_neg a1, if_pos a2]
        simp only [if_true]
        congr 1
        omega
      · simp only [xs]
        rw [if_neg hj, if_neg (by omega)]
    · have q8 : ¬ (nI np : Int32) = 8 := fun z => h8 ((nI_eq (by omega) (b := 8) (by omega)).mp z)
      exact ⟨M, np, by rw [pm_0_32, h32, if_neg q8], h32, by simp [h8], fun i k _ _ => by simp [h8], fun _ _ _ _ => rfl⟩
  have hnp2 : np2 ≤ 7 := by
    have : (if np = 8 then 8 else np + 1) ≤ 8 := by split <;> omega
    omega
  obtain ⟨M2, hM2⟩ : ∃ M2, M2 = stt 18 1 (pm A M1) M1 63 := ⟨_, rfl⟩
  have c2 : f_X7_carryAll_18 (pm A M1) 1 = some (pm A M2) := by
    rw [show (1 : Int32) = nI 1 from rfl, carryAll_18_is (t := 1) (V := pm A M1) (W := pm A M1) (Or.inl ⟨rfl, fun _ _ => rfl⟩) (fun _ _ _ _ _ => rfl), pm_stt (M := M1) (W := pm A M1) (fun p j h => pm_out (fun z => h (ci_hc.mpr (hc0_of z)))), hM2]
  have o2 : ∀ p j, ¬ (p = 0 ∧ (j = 27 ∨ j = 28 ∨ j = 29)) → ¬ hc0 p j → p ≠ 18 → M2 p j = M1 p j := fun p j h1 h2 h3 => by
    rw [hM2]
    exact stt_off h1 (fun z => h2 (ci_hc.mp z)) (by omega)
  have r2 : ∀ k, k < 63 → M2 18 k = pm A M1 (cp k) (cj k) := fun k hk => by
    rw [hM2]
    simp only [stt]
    rw [if_neg (by omega), if_neg (by omega), if_neg (by omega), ci_big (by omega), if_neg (by omega), if_pos ⟨trivial, trivial, hk⟩]
  have h2 : M2 0 32 = nI np2 := by rw [o2 0 32 (by omega) (by unfold hc0; omega) (by omega)]; exact e1
  have c3 := M_keep_cp (A := A) M2 hnp2 h2
  refine ⟨xs (fun p j => if p = 17 ∧ 63 * np2 ≤ j ∧ j < 63 * np2 + 63 then M2 18 (j - 63 * np2) else M2 p j) 0 32 (nI (np2 + 1)), ?_, ?_, fun i k hi hk => ?_, ?_, ⟨?_, ?_, ?_⟩, fun j => ⟨?_, ?_, ?_, ?_⟩⟩
  · unfold f_X7_keepTurn
    rw [e0, Option.bind_some, c2, Option.bind_some, c3, Option.bind_some, pm_0_32]
    rw [show (if (0 : Nat) = 17 ∧ 63 * np2 ≤ 32 ∧ 32 < 63 * np2 + 63 then M2 18 (32 - 63 * np2) else M2 0 32) = nI np2 from by rw [if_neg (by omega)]; exact h2]
    rw [nI_1, na_lt, pm_off (by omega)]
  · rw [← e2]; simp [xs]
  · simp only [xs]
    rw [if_neg (by omega), if_neg (by omega), o2 17 _ (by omega) (by unfold hc0; omega) (by omega)]
    exact e3 i k (by omega) hk
  · intro k hk h6
    rw [← e2, Nat.add_sub_cancel]
    have a1 : ¬ ((17 : Nat) = 0 ∧ 63 * np2 + k = 32) := by omega
    have a2 : True ∧ 63 * np2 ≤ 63 * np2 + k ∧ 63 * np2 + k < 63 * np2 + 63 := ⟨trivial, by omega, by omega⟩
    simp only [xs]
    rw [if_neg a1, if_pos a2, show 63 * np2 + k - 63 * np2 = k by omega, r2 k hk, enc_pm hk h6]
  all_goals
    simp only [xs]
    rw [if_neg (by omega), if_neg (by omega), o2 _ _ (by omega) (by unfold hc0; omega) (by omega), e4 _ _ (by omega) (by omega)]
end PAST

