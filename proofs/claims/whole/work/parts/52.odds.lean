/-! HOURS held by odds -/
section OPS14
variable {A B C : AM} {m0 h1 h m2 m3 m4 m13 M : Mem} {ks : List Mem}
theorem lN_1m (a : Nat) : lN a * 1 = lN (a * 1) := lN_mul a 1
theorem pow_le7 {a t : Nat} (ha : a ≤ 20) (ht : t ≤ 7) : a ^ t ≤ 1280000000 := Nat.le_trans (Nat.pow_le_pow_left ha t) (Nat.le_trans (Nat.pow_le_pow_right (by omega) ht) (by decide))
theorem X_power {a t : Nat} (ha : a ≤ 20) (ht : t ≤ 7) : f_X6_power (nI a) (nI t) = some (lN (a ^ t)) := by
  have hl := lp (r := some (lN (a ^ t))) (fun f (s : Int64) i => f_X6_power_L5 (nI a) (nI t) f s i) t (fun j => lN (a ^ j)) (fun f => ?_) (fun f j hj => ?_) t 0 6000 (by omega) (by omega)
  · unfold f_X6_power
    have : f_X6_power_L5 (nI a) (nI t) 6000 1 0 = some (lN (a ^ t)) := hl
    rw [this]
    rfl
  · show f_X6_power_L5 _ _ (f + 1) _ _ = _
    rw [f_X6_power_L5, if_pos (nI_le (Nat.le_refl _) (by omega))]
  · show f_X6_power_L5 _ _ (f + 1) _ _ = f_X6_power_L5 _ _ f _ _
    rw [f_X6_power_L5, if_neg (nI_ge hj (by omega)), nI_l (by omega), lN_mul, na_lt, na_lt, nI_1, Nat.pow_succ]
theorem M_power {a t : Nat} (ha : a ≤ 20) (ht : t ≤ 7) : f_X7_odds_L97 (nI a) (nI t) 6000 1 0 = some (lN (a ^ t)) := by
  have hl := lp (r := some (lN (a ^ t))) (fun f (s : Int64) i => f_X7_odds_L97 (nI a) (nI t) f s i) t (fun j => lN (a ^ j)) (fun f => ?_) (fun f j hj => ?_) t 0 6000 (by omega) (by omega)
  · exact hl
  · show f_X7_odds_L97 _ _ (f + 1) _ _ = _
    rw [f_X7_odds_L97, if_pos (nI_le (Nat.le_refl _) (by omega))]
  · show f_X7_odds_L97 _ _ (f + 1) _ _ = f_X7_odds_L97 _ _ f _ _
    rw [f_X7_odds_L97, if_neg (nI_ge hj (by omega)), nI_l (by omega), lN_mul, na_lt, na_lt, nI_1, Nat.pow_succ]
/-- how many of the first t bits are clear -/
def czr (m : Nat) : Nat → Nat
  | 0 => 0
  | i + 1 => if m / 2 ^ i % 2 = 1 then czr m i else czr m i + 1
theorem czr_le {m : Nat} : ∀ t, czr m t ≤ t
  | 0 => Nat.le_refl _
  | t + 1 => by
    have := czr_le (m := m) t
    rw [czr]
    split <;> omega
def ppc (m : Nat) : Nat := m % 2 + m / 2 % 2 + m / 4 % 2 + m / 8 % 2 + m / 16 % 2 + m / 32 % 2 + m / 64 % 2
theorem bitc : ∀ m, m < 128 → f_J6_bitCount_0f7a4 (nI m) = some (nI (ppc m)) := by decide +kernel
theorem ppc_czr : ∀ t, t ≤ 7 → ∀ m, m < 2 ^ t → ppc m + czr m t = t := by decide +kernel
/-- the weddings with their delays -/
def owN (A : AM) (m : Nat) : Nat → AM
  | 0 => A
  | i + 1 => weA (owN A m i) (if m / 2 ^ i % 2 = 1 then 5 else 0)
theorem owN_wait {m : Nat} : ∀ i, owN A m i 0 8 = A 0 8 - i
  | 0 => rfl
  | i + 1 => by rw [owN, weA_wait, owN_wait i]; omega
theorem WB_owN (w : WB A) {m : Nat} : ∀ i, i ≤ A 0 8 → WB (owN A m i)
  | 0, _ => w
  | i + 1, h => by
    have := WB_owN w (m := m) i (by omega)
    exact WB_weA this (by rw [owN_wait]; omega) (by split <;> omega)
theorem bit1 {m c : Nat} (hm : m < 128) (hc : c < 7) {α : Type} {x y : α} : (if ((nI m >>> (nI c &&& 31)) &&& 1) = 1 then x else y) = if m / 2 ^ c % 2 = 1 then x else y := by
  rw [na_bit m hm c hc]
  have hb : m / 2 ^ c % 2 < 2 := Nat.mod_lt _ (by omega)
  rcases (by omega : m / 2 ^ c % 2 = 0 ∨ m / 2 ^ c % 2 = 1) with e | e
  · rw [e]
    rfl
  · rw [e]
    rfl
theorem X_odds116 (w : WB A) {m t : Nat} (hm : m < 128) (ht : t ≤ A 0 8) {C : Mem} : f_X6_odds_L116 (nI t) (nI m) 6000 0 (px A C) = some (px (owN A m t) C) := by
  have w3 := w.2.2.1
  refine lp (r := some (px (owN A m t) C)) (fun f (s : Mem) i => f_X6_odds_L116 (nI t) (nI m) f i s) t (fun j => px (owN A m j) C) (fun f => ?_) (fun f j hj => ?_) t 0 6000 (by omega) (by omega)
  · show f_X6_odds_L116 _ _ (f + 1) _ _ = _
    rw [f_X6_odds_L116, if_pos (nI_le (Nat.le_refl _) (by omega))]
  · show f_X6_odds_L116 _ _ (f + 1) _ _ = f_X6_odds_L116 _ _ f _ _
    have wj := WB_owN w (m := m) j (by omega)
    have e : (if m / 2 ^ j % 2 = 1 then (5 : Int32) else 0) = nI (if m / 2 ^ j % 2 = 1 then 5 else 0) := by split <;> rfl
    rw [f_X6_odds_L116, if_neg (nI_ge hj (by omega)), bit1 hm (by omega), na_lt, e, X_wedFirst wj (by rw [owN_wait]; omega) (by split <;> omega), Option.bind_some, na_lt, nI_1]
    rfl
abbrev owA (A : AM) (t m : Nat) : AM := wal (owN A m t)
/-- the sum over all masks -/
def odS (A : AM) (a t v : Nat) : Nat → Nat
  | 0 => 0
  | m + 1 => if v < lsA (owA A t m) then odS A a t v m else odS A a t v m + (a - 1) ^ (czr m t)
theorem odS_le {a t v : Nat} (ha : a ≤ 20) (ht : t ≤ 7) : ∀ m, odS A a t v m ≤ 1280000000 * m
  | 0 => Nat.le_refl _
  | m + 1 => by
    have := odS_le ha ht m (v := v)
    have l := czr_le (m := m) t
    have := pow_le7 (a := a - 1) (t := czr m t) (by omega) (by omega)
    rw [odS]
    split <;> omega
theorem X_odds98 (w : WB A) {a t v : Nat} (ha : a ≤ 20) (ha2 : 2 ≤ a) (ht : t ≤ A 0 8) (hv : v ≤ 999) {C : Mem} : ∃ C', f_X6_odds_L98 m0 (px A h1) (nI a) (nI v) (nI t) 6000 0 0 C = some (lN (odS A a t v (2 ^ t)), C') := by
  have w3 := w.2.2.1
  have t7 : 2 ^ t ≤ 128 := show 2 ^ t ≤ 2 ^ 7 from Nat.pow_le_pow_right (by omega) (by omega)
  have := lpi (fun f (s : Int64 × Mem) i => f_X6_odds_L98 m0 (px A h1) (nI a) (nI v) (nI t) f s.1 i s.2) (2 ^ t) (fun j s => ∃ C, s = (lN (odS A a t v j), C)) (fun s => ∃ C', s = (lN (odS A a t v (2 ^ t)), C')) (fun f s hs => ?_) (fun f j s hj hs => ?_) (2 ^ t) 0 6000 (0, C) (by omega) (by omega) ⟨C, rfl⟩
  · obtain ⟨s, g1, C', rfl⟩ := this
    exact ⟨C', g1⟩
  · obtain ⟨C, rfl⟩ := hs
    refine ⟨_, ?_, C, rfl⟩
    show f_X6_odds_L98 _ _ _ _ _ (f + 1) _ _ _ = _
    dsimp only
    rw [f_X6_odds_L98, shl_n t (by omega), if_pos (nI_le (Nat.le_refl _) (by omega))]
  · obtain ⟨C, rfl⟩ := hs
    have wj := WB_owN w (m := j) t ht
    have wl := WB_wal wj
    have ll : lsA (owA A t j) ≤ 999 := lsA_le wl
    have e : (nI v < nI (lsA (owA A t j))) = (v < lsA (owA A t j)) := na_ltI (by omega) (by omega)
    have cl := czr_le (m := j) t
    have pc := ppc_czr t (by omega) j hj
    refine ⟨(lN (odS A a t v (j + 1)), px (owA A t j) C), ⟨_, rfl⟩, ?_⟩
    show f_X6_odds_L98 _ _ _ _ _ (f + 1) _ _ _ = f_X6_odds_L98 _ _ _ _ _ f _ _ _
    dsimp only
    rw [f_X6_odds_L98, shl_n t (by omega), if_neg (nI_ge hj (by omega)), X_asNow, Option.bind_some, X_odds116 w (by omega) ht, Option.bind_some, X_wedAll wj, Option.bind_some, X_last wl, Option.bind_some, odS]
    by_cases z : v < lsA (owA A t j)
    · rw [if_pos (e ▸ z), if_pos z, na_lt, nI_1]
    · rw [if_neg (fun y => z (e ▸ y)), if_neg z, bitc j (by omega), Option.bind_some, show (1 : Int32) = nI 1 from rfl, pk_sub (by omega), pk_sub (by omega), show t - ppc j = czr j t by omega, X_power (by omega) (by omega), Option.bind_some, lN_add, na_lt, na_lt, nI_add]
/-- the model's weddings: first t with delays, then the others -/
def omN (A : AM) (m t i : Nat) : AM := if i ≤ t then owN A m i else weN (owN A m t) (i - t)
def opN (a m t : Nat) : Nat → Nat
  | 0 => 1
  | i + 1 => opN a m t i * (if i < t then (if m / 2 ^ i % 2 = 1 then 1 else a - 1) else 1)
theorem opN_is {a m t : Nat} : ∀ i, i ≤ t → opN a m t i = (a - 1) ^ czr m i
  | 0, _ => rfl
  | i + 1, h => by
    rw [opN, opN_is i (by omega), if_pos (by omega), czr]
    split
    · rw [Nat.mul_one]
    · rw [Nat.pow_succ]
theorem opN_more {a m t : Nat} : ∀ i, opN a m t (t + i) = (a - 1) ^ czr m t
  | 0 => opN_is t (Nat.le_refl _)
  | i + 1 => by
    rw [show t + (i + 1) = (t + i) + 1 by omega, opN, opN_more i, if_neg (by omega), Nat.mul_one]
theorem M_odds139 (w : WB A) {a t m : Nat} (ha : a ≤ 20) (ha2 : 2 ≤ a) (ht : t ≤ A 0 8) (hm : m < 2 ^ t) {W : Mem} : f_X7_odds_L139 (nI a) (nI t) (nI m) 6000 1 0 (pm A W) = some (lN ((a - 1) ^ czr m t), pm (owA A t m) W) := by
  have w3 := w.2.2.1
  have t7 : 2 ^ t ≤ 128 := show 2 ^ t ≤ 2 ^ 7 from Nat.pow_le_pow_right (by omega) (by omega)
  have r1 : ∀ i, i ≤ A 0 8 → WB (omN A m t i) ∧ omN A m t i 0 8 = A 0 8 - i := fun i hi => by
    unfold omN
    split
    · exact ⟨WB_owN w i hi, owN_wait i⟩
    · exact ⟨WB_weN (WB_owN w t ht) _ (by rw [owN_wait]; omega), by rw [weN_wait, owN_wait]; omega⟩
  have fin : omN A m t (A 0 8) = owA A t m := by
    unfold omN owA wal
    rw [owN_wait]
    split
    · rw [show A 0 8 = t by omega, Nat.sub_self]
      rfl
    · rfl
  have fin2 : opN a m t (A 0 8) = (a - 1) ^ czr m t := by
    have := opN_more (a := a) (m := m) (t := t) (A 0 8 - t)
    rw [show t + (A 0 8 - t) = A 0 8 by omega] at this
    exact this
  have := lp (r := some (lN ((a - 1) ^ czr m t), pm (owA A t m) W)) (fun f (s : Int64 × Mem) i => f_X7_odds_L139 (nI a) (nI t) (nI m) f s.1 i s.2) (A 0 8) (fun j => (lN (opN a m t j), pm (omN A m t j) W)) (fun f => ?_) (fun f j hj => ?_) (A 0 8) 0 6000 (by omega) (by omega)
  · have e0 : omN A m t 0 = A := by
      unfold omN
      rw [if_pos (by omega)]
      rfl
    rw [e0] at this
    exact this
  · show f_X7_odds_L139 _ _ _ (f + 1) _ _ _ = _
    dsimp only
    rw [f_X7_odds_L139, pm_0_9, (r1 _ (Nat.le_refl _)).2, Nat.sub_self, if_pos (show nI 0 ≤ (0 : Int32) by decide), fin, fin2]
  · show f_X7_odds_L139 _ _ _ (f + 1) _ _ _ = f_X7_odds_L139 _ _ _ f _ _ _
    dsimp only
    have n1 : ¬ nI (A 0 8 - j) ≤ (0 : Int32) := show ¬ nI (A 0 8 - j) ≤ nI 0 from nI_ge (by omega) (by omega)
    have z1 : ¬ (1 : Int32) = 0 := by decide
    rw [f_X7_odds_L139, pm_0_9, (r1 _ (by omega)).2, if_neg n1]
    obtain ⟨wj, wj8⟩ := r1 j (by omega)
    by_cases hjt : j < t
    · have nx : omN A m t (j + 1) = weA (omN A m t j) (if m / 2 ^ j % 2 = 1 then 5 else 0) := by
        unfold omN
        rw [if_pos (by omega), if_pos (by omega)]
        rfl
      have hb : f_X7_hasBit (nI m) (nI j) = some (if m / 2 ^ j % 2 = 1 then 1 else 0) := by
        unfold f_X7_hasBit
        rw [bit1 (by omega) (by omega)]
        split <;> rfl
      have l1 : nI j < nI t := nI_lt hjt (by omega)
      rw [if_neg (nI_ge hjt (by omega)), hb, Option.bind_some, nx, opN, if_pos hjt]
      by_cases e : m / 2 ^ j % 2 = 1
      · simp only [e, if_true, z1, if_false, Option.bind_some, na_lt]
        rw [show (5 : Int32) = nI 5 from rfl, M_wedOne wj (by omega) (by omega), Option.bind_some, lN_1m, nI_1]
      · simp only [e, if_true, if_false, Option.bind_some, na_lt, l1]
        rw [show (0 : Int32) = nI 0 from rfl, M_wedOne wj (by omega) (by omega), Option.bind_some, show (1 : Int32) = nI 1 from rfl, pk_sub (by omega), nI_l (by omega), lN_mul, nI_add]
    · have nx : omN A m t (j + 1) = weA (omN A m t j) 0 := by
        unfold omN
        rw [if_neg (by omega)]
        split
        · rw [show j + 1 - t = 1 by omega, show j = t by omega]
          rfl
        · rw [show j + 1 - t = (j - t) + 1 by omega]
          rfl
      have l1 : ¬ nI j < nI t := nI_nlt (by omega) (by omega)
      rw [if_pos (nI_le (by omega) (by omega)), Option.bind_some, nx, opN, if_neg hjt]
      simp only [if_true, if_false, na_lt, l1]
      rw [show (0 : Int32) = nI 0 from rfl, M_wedOne wj (by omega) (by omega), Option.bind_some, lN_1m, nI_1]
theorem M_odds124 (w : WB A) {a t v : Nat} (ha : a ≤ 20) (ha2 : 2 ≤ a) (ht : t ≤ A 0 8) (hv : v ≤ 999) {W : Mem} (hK : KP A W) : ∃ W', f_X7_odds_L124 (nI a) (nI v) (nI t) 6000 0 0 (pm A W) = some (lN (odS A a t v (2 ^ t)), pm A W') ∧ KE W W' := by
  have w3 := w.2.2.1
  have t7 : 2 ^ t ≤ 128 := show 2 ^ t ≤ 2 ^ 7 from Nat.pow_le_pow_right (by omega) (by omega)
  have := lpi (fun f (s : Int64 × Mem) i => f_X7_odds_L124 (nI a) (nI v) (nI t) f s.1 i s.2) (2 ^ t) (fun j s => ∃ W', s = (lN (odS A a t v j), pm A W') ∧ KP A W' ∧ KE W W') (fun s => ∃ W', s = (lN (odS A a t v (2 ^ t)), pm A W') ∧ KE W W') (fun f s hs => ?_) (fun f j s hj hs => ?_) (2 ^ t) 0 6000 (0, pm A W) (by omega) (by omega) ⟨W, rfl, hK, KE.rf⟩
  · obtain ⟨s, g1, C', rfl, g2⟩ := this
    exact ⟨C', g1, g2⟩
  · obtain ⟨C, rfl, hk, he⟩ := hs
    refine ⟨_, ?_, C, rfl, he⟩
    show f_X7_odds_L124 _ _ _ (f + 1) _ _ _ = _
    dsimp only
    rw [f_X7_odds_L124, shl_n t (by omega), if_pos (nI_le (Nat.le_refl _) (by omega))]
  · obtain ⟨C, rfl, hk, he⟩ := hs
    have wj := WB_owN w (m := j) t ht
    have wl := WB_wal wj
    have ll : lsA (owA A t j) ≤ 999 := lsA_le wl
    have e : (nI v < nI (lsA (owA A t j))) = (v < lsA (owA A t j)) := na_ltI (by omega) (by omega)
    obtain ⟨W', g1, g2, g3⟩ := ag_any (A' := owA A t j) hk
    refine ⟨(lN (odS A a t v (j + 1)), pm A W'), ⟨_, rfl, g2, he.trans g3⟩, ?_⟩
    show f_X7_odds_L124 _ _ _ (f + 1) _ _ _ = f_X7_odds_L124 _ _ _ f _ _ _
    dsimp only
    rw [f_X7_odds_L124, shl_n t (by omega), if_neg (nI_ge hj (by omega)), M_odds139 w ha ha2 ht hj, Option.bind_some, M_last wl, Option.bind_some, na_lt, na_lt, g1, Option.bind_some, na_lt, nI_1, odS]
    by_cases z : v < lsA (owA A t j)
    · rw [if_pos (e ▸ z), if_pos z]
      rw [show (lN (odS A a t v j) + 0 : Int64) = lN (odS A a t v j + 0) from lN_add _ 0]
      rfl
    · rw [if_neg (fun y => z (e ▸ y)), if_neg z, lN_add]
theorem op_odds (R : RR A m0 (px A h1) m3 m4 ks m13 (pm A M)) (m2 : Mem) (a b c d : Int32) : ∃ r m0' m2' M', f_X6_odds m0 (px A h1) m2 a b c d = some (r, m0', m2') ∧ f_X7_odds (pm A M) a b c d = some (r, M') ∧ RR A m0' (px A h1) m3 m4 ks m13 M' := by
  have wf := R.1
  have wb := wf.1
  have w1 := wb.1
  have w3 := wb.2.2.1
  have n4 : ¬ (0 : Int32) ≤ -4 := by decide
  have n6 : ¬ (0 : Int32) ≤ -6 := by decide
  have e0 : (0 : Int32) ≤ 0 := by decide
  have q0 : (0 : Int32).toInt = 0 := by decide
  have q2 : (2 : Int32).toInt = 2 := by decide
  have k4 : f_X7_wrongBit (-4) d 1 = some (-4) := M_wb_no (by decide)
  have k6 : f_X7_wrongBit (-6) d 1 = some (-6) := M_wb_no (by decide)
  have r4 : ∃ r m0' m2' M', some (4000000000000000000 - (-4 : Int32).toInt64, rf m0 2 4, m2) = some (r, m0', m2') ∧ some (4000000000000000000 - (-4 : Int32).toInt64, pm A (rf (M14 M) 10 4)) = some (r, M') ∧ RR A m0' (px A h1) m3 m4 ks m13 M' := ⟨_, _, _, _, rfl, rfl, R.rk ke14 (by omega)⟩
  have r6 : ∃ r m0' m2' M', some (4000000000000000000 - (-6 : Int32).toInt64, rf m0 2 6, m2) = some (r, m0', m2') ∧ some (4000000000000000000 - (-6 : Int32).toInt64, pm A (rf (M14 M) 10 6)) = some (r, M') ∧ RR A m0' (px A h1) m3 m4 ks m13 M' := ⟨_, _, _, _, rfl, rfl, R.rk ke14 (by omega)⟩
  by_cases ha0 : a < 0
  · simp only [f_X6_odds, f_X6_odds_J13, ha0, if_true, X_ref4, Option.bind_some, f_X7_odds, na_lt, M_t14, k4, n4, if_false, M_ref4]
    exact r4
  by_cases hc0 : c < 0
  · simp only [f_X6_odds, f_X6_odds_J13, ha0, hc0, if_true, X_ref4, Option.bind_some, f_X7_odds, na_lt, M_t14, k4, n4, if_false, M_ref4]
    exact r4
  by_cases hb2 : 2 ≤ b
  · by_cases ha7 : 7 < a
    · simp only [f_X6_odds, f_X6_odds_J44, ha0, hc0, hb2, ha7, if_true, X_ref6, Option.bind_some, f_X7_odds, na_lt, M_t14, k6, n6, if_false, M_ref6]
      exact r6
    by_cases hb20 : 20 < b
    · simp only [f_X6_odds, f_X6_odds_J44, ha0, hc0, hb2, ha7, hb20, if_true, X_ref6, Option.bind_some, f_X7_odds, na_lt, M_t14, k6, n6, if_false, M_ref6]
      exact r6
    by_cases hc9 : c ≤ 999
    · have ha8 : a ≤ 7 := by rw [fa_lt] at ha7; rw [fa_le]; omega
      have hb8 : b ≤ 20 := by rw [fa_lt] at hb20; rw [fa_le]; omega
      have hb0 : ¬ b < 0 := fun z => by rw [fa_le] at hb2; rw [fa_lt] at z; omega
      obtain ⟨t0, ht, rfl⟩ := nI_of2 (n := 7) (M := 7) rfl ha0 ha8
      obtain ⟨g, hg, rfl⟩ := nI_of2 (n := 20) (M := 20) rfl hb0 hb8
      obtain ⟨v, hv, rfl⟩ := nI_of2 (n := 999) (M := 999) rfl hc0 hc9
      have hg2 : 2 ≤ g := by
        have : ((2 : Int32) ≤ nI g) = (2 ≤ g) := na_le (a := 2) (by omega) (by omega)
        rw [this] at hb2
        exact hb2
      rcases na_cs d (n := 2) (by omega) with ho | ⟨k, hk, rfl⟩
      · have kk : f_X7_wrongBit 0 d 1 = some (-2) := M_wb_out (k := 1) ho rfl (by omega)
        have n2 : ¬ (0 : Int32) ≤ -2 := by decide
        have d0 : ¬ d = 0 := out_ne ho (j := 0) (by omega) (by omega)
        have d1 : ¬ d = 1 := out_ne ho (j := 1) (by omega) (by omega)
        exact ⟨4000000000000000000 - (-2 : Int32).toInt64, rf m0 2 2, m2, pm A (rf (M14 M) 10 2), by simp only [f_X6_odds, ha0, hc0, hb2, ha7, hb20, hc9, d0, d1, if_true, if_false, X_ref2, Option.bind_some], by simp only [f_X7_odds, na_lt, M_t14, ha0, hc0, hb2, ha7, hb20, hc9, if_true, if_false, kk, n2, Option.bind_some, M_ref2], R.rk ke14 (by omega)⟩
      · have kk : f_X7_wrongBit 0 (nI k) 1 = some 0 := M_wb_in (k := 1) (by omega) (by omega)
        have mn : imin (nI t0) (nI (A 0 8)) = nI (min t0 (A 0 8)) := na_min (by omega) (by omega)
        have ml : f_X7_least (nI t0) (nI (A 0 8)) = some (nI (min t0 (A 0 8))) := na_least (by omega) (by omega)
        have ht2 : min t0 (A 0 8) ≤ A 0 8 := Nat.min_le_right _ _
        have t7 : 2 ^ min t0 (A 0 8) ≤ 128 := show 2 ^ min t0 (A 0 8) ≤ 2 ^ 7 from Nat.pow_le_pow_right (by omega) (by omega)
        obtain ⟨C', c1⟩ := X_odds98 (m0 := m0) (h1 := h1) (C := m2) wb hg hg2 ht2 hv
        obtain ⟨W', d1, d2⟩ := M_odds124 wb hg hg2 ht2 hv (kp_tk (A := A) (M := M14 M))
        have os := odS_le (A := A) (a := g) (t := min t0 (A 0 8)) (v := v) hg (by omega) (2 ^ min t0 (A 0 8))
        have op : 0 < g ^ min t0 (A 0 8) := Nat.pow_pos (by omega)
        have op2 := pow_le7 (a := g) (t := min t0 (A 0 8)) hg (by omega)
        have xl := X_lowest (a := odS A g (min t0 (A 0 8)) v (2 ^ min t0 (A 0 8))) (b := g ^ min t0 (A 0 8)) (k := k) (by omega) op (by omega) (by omega)
        have mp := M_part (a := odS A g (min t0 (A 0 8)) v (2 ^ min t0 (A 0 8))) (b := g ^ min t0 (A 0 8)) (k := k) (by omega) op (by omega) (by omega)
        generalize lN ((if k = 0 then odS A g (min t0 (A 0 8)) v (2 ^ min t0 (A 0 8)) else g ^ min t0 (A 0 8)) / Nat.gcd (g ^ min t0 (A 0 8)) (odS A g (min t0 (A 0 8)) v (2 ^ min t0 (A 0 8)))) = z at xl mp
        refine ⟨z, m0, C', pm A W', ?_, ?_, R.kp (ke14.trans (ke_tk.trans d2))⟩
        · have xj : f_X6_odds_J79 m0 (px A h1) m2 (nI t0) (nI g) (nI v) (nI k) = some (z, m0, C') := by
            unfold f_X6_odds_J79 f_X6_odds_J98
            rw [px_0_8, mn, na_lt, c1, Option.bind_some, X_power hg (by omega), Option.bind_some, xl, Option.bind_some]
          simp only [f_X6_odds, ha0, hc0, hb2, ha7, hb20, hc9, if_true, if_false, xj]
          rcases (by omega : k = 0 ∨ k = 1) with rfl | rfl
          · rw [if_pos (show nI 0 = (0 : Int32) from rfl)]
          · rw [if_neg (show ¬ nI 1 = (0 : Int32) by decide), if_pos (show nI 1 = (1 : Int32) from rfl)]
        · simp only [f_X7_odds, na_lt, M_t14, ha0, hc0, hb2, ha7, hb20, hc9, if_true, if_false, kk, e0, Option.bind_some, pm_0_9, ml, M_power hg (by omega : min t0 (A 0 8) ≤ 7), M_think, d1, mp]
    · simp only [f_X6_odds, f_X6_odds_J44, ha0, hc0, hb2, ha7, hb20, hc9, if_true, X_ref6, Option.bind_some, f_X7_odds, na_lt, M_t14, k6, n6, if_false, M_ref6]
      exact r6
  · simp only [f_X6_odds, f_X6_odds_J13, ha0, hc0, hb2, X_ref4, Option.bind_some, f_X7_odds, na_lt, M_t14, k4, n4, if_false, M_ref4]
    exact r4
end OPS14
