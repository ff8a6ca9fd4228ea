/-! CALLS that try one thing behind the other -/
/-- a loop told by what holds at each place, and of its end -/
theorem lpi {σ τ : Type} (F : Nat → σ → Int32 → Option τ) (N : Nat) (I : Nat → σ → Prop) (P : τ → Prop) (hend : ∀ f s, I N s → ∃ t, F (f + 1) s (nI N) = some t ∧ P t) (hstep : ∀ f j s, j < N → I j s → ∃ s', I (j + 1) s' ∧ F (f + 1) s (nI j) = F f s' (nI (j + 1))) : ∀ k j fuel s, j + k = N → k < fuel → I j s → ∃ t, F fuel s (nI j) = some t ∧ P t
  | 0, j, fuel, s, h1, h2, h3 => by
    obtain ⟨f, rfl⟩ : ∃ f, fuel = f + 1 := ⟨fuel - 1, by omega⟩
    have : j = N := by omega
    subst this
    exact hend f s h3
  | k + 1, j, fuel, s, h1, h2, h3 => by
    obtain ⟨f, rfl⟩ : ∃ f, fuel = f + 1 := ⟨fuel - 1, by omega⟩
    obtain ⟨s', g1, g2⟩ := hstep f j s (by omega) h3
    rw [g2]
    exact lpi F N I P hend hstep k (j + 1) f s' (by omega) (by omega) g1
section OPS6
variable {A B C : AM} {m0 h1 h m2 m3 m4 m13 M : Mem} {ks : List Mem}
theorem X_now : f_X6_asNow m0 (px A h1) (px C m2) = some (px A m2) := by
  rw [X_asNow, px_px]
theorem X_lateBy (w : WB A) : f_X6_lateBy (px A h) = some (nI (allL (wal A)), px (wal A) h) := by
  unfold f_X6_lateBy
  rw [X_wedAll w]
  simp only [Option.bind_some]
  rw [X_allLate (WB_wal w)]
  rfl
theorem M_lateNow (w : WB A) : f_X7_lateNow (pm A M) = some (nI (allL (wal A)), pm (wal A) M) := by
  unfold f_X7_lateNow
  rw [M_wedAll w]
  simp only [Option.bind_some]
  rw [M_allLate (WB_wal w)]
  rfl
theorem allL_le (w : WB A) : allL A ≤ 14000 := by
  have w1 := w.1
  have h : ∀ j, j ≤ A 0 0 → fb_sm (lat A) j ≤ 2000 * j := by
    intro j
    induction j with
    | zero => exact fun _ => Nat.le_refl _
    | succ j ih =>
      intro hj
      have := ih (by omega)
      have := lat_le w (by omega : j < 7)
      show fb_sm (lat A) j + lat A j ≤ _
      omega
  have := h (A 0 0) (Nat.le_refl _)
  unfold allL
  omega
theorem mtS_le (w : WB A) : mtS A ≤ 49 := by
  have w1 := w.1
  have := mtS_lt w (A 0 0) (Nat.le_refl _)
  unfold mtS
  omega
/-- the model's memory while it tries -/
abbrev Tk (A : AM) (M : Mem) : Mem := tk A (M14 M)
theorem ag_any {A' : AM} {W : Mem} (h : KP A W) : ∃ W', f_X7_again (pm A' W) = some (pm A W') ∧ KP A W' ∧ KE W W' := ⟨ag A W, M_again h, kp_ag h, ke_ag⟩
/-- places in the order -/
def plc (A : AM) (c : Nat) : Nat := fa_first (fun k => decide (A 7 k = c)) (A 0 8)
theorem plc_in (w : WF A) {c : Nat} (hc : c < A 0 0) (hb : A 0 4 / 2 ^ c % 2 = 0) : plc A c < A 0 8 ∧ A 7 (plc A c) = c ∧ (∀ k, k < A 0 8 → k ≠ plc A c → A 7 k ≠ c) ∧ ∀ k, k < plc A c → A 7 k ≠ c := by
  obtain ⟨i, g1, g2⟩ := w.2.2.2.2.1 c hc hb
  have hno := fa_first_no (fun k => decide (A 7 k = c)) (A 0 8)
  have hlt : plc A c < A 0 8 := by
    rcases Nat.lt_or_ge (plc A c) (A 0 8) with h | h
    · exact h
    · have := hno i (Nat.lt_of_lt_of_le g1 h)
      simp [g2] at this
  have hy : A 7 (plc A c) = c := of_decide_eq_true (fa_first_yes (fun k => decide (A 7 k = c)) (A 0 8) hlt)
  have hf : ∀ k, k < A 0 8 → k ≠ plc A c → A 7 k ≠ c := fun k hk hne e => by
    rcases Nat.lt_or_ge k (plc A c) with h | h
    · exact w.2.2.2.1 k (plc A c) h hlt (by rw [e, hy])
    · exact w.2.2.2.1 (plc A c) k (by omega) hk (by rw [e, hy])
  exact ⟨hlt, hy, hf, fun k hk => hf k (by omega) (by omega)⟩
/-- who is put first -/
def plS (A : AM) : Nat → Nat × Int32
  | 0 => (allL (wal A), -9)
  | j + 1 => if A 0 4 / 2 ^ j % 2 = 0 then (if (plS A j).1 ≤ allL (wal (pfA A (plc A j) j)) then plS A j else (allL (wal (pfA A (plc A j) j)), nI j)) else plS A j
theorem plS_le (w : WF A) : ∀ j, j ≤ A 0 0 → (plS A j).1 ≤ 14000
  | 0, _ => allL_le (WB_wal w.1)
  | j + 1, hj => by
    have w1 := w.1.1
    have := plS_le w j (by omega)
    have h2 := allL_le (WB_wal (WB_pfA (i := plc A j) w.1 (by omega : j < 7)))
    rw [plS]
    split
    · split
      · exact this
      · exact h2
    · exact this
theorem X_pull (w : WF A) : ∃ C', f_X6_pull_L13 m0 (px A h1) 6000 (nI (plS A 0).1) (plS A 0).2 (nI 0) (px (wal A) m2) = some ((plS A (A 0 0)).2, px C' m2) := by
  have w1 := w.1.1
  have := lpi (fun f (s : Int32 × Int32 × Mem) i => f_X6_pull_L13 m0 (px A h1) f s.1 s.2.1 i s.2.2) (A 0 0) (fun j s => ∃ C, s = (nI (plS A j).1, (plS A j).2, px C m2)) (fun t => ∃ C', t = ((plS A (A 0 0)).2, px C' m2)) (fun f s hs => ?_) (fun f j s hj hs => ?_) (A 0 0) 0 6000 (nI (plS A 0).1, (plS A 0).2, px (wal A) m2) (by omega) (by omega) ⟨_, rfl⟩
  · obtain ⟨t, g1, C', rfl⟩ := this
    exact ⟨C', g1⟩
  · obtain ⟨C, rfl⟩ := hs
    refine ⟨_, ?_, C, rfl⟩
    show f_X6_pull_L13 _ _ (f + 1) _ _ _ _ = _
    rw [f_X6_pull_L13, px_0_0, if_pos (nI_le (Nat.le_refl _) (by omega))]
  · obtain ⟨C, rfl⟩ := hs
    have hb : A 0 4 / 2 ^ j % 2 < 2 := Nat.mod_lt _ (by omega)
    by_cases hw : A 0 4 / 2 ^ j % 2 = 0
    · obtain ⟨p1, p2, p3, p4⟩ := plc_in w hj hw
      have wb2 : WB (pfA A (plc A j) j) := WB_pfA w.1 (by omega)
      have l1 := allL_le (WB_wal wb2)
      have l2 := plS_le w j (by omega)
      have q0 : (nI (A 0 4 / 2 ^ j % 2) : Int32) = 0 := by rw [hw]; rfl
      refine ⟨(nI (plS A (j + 1)).1, (plS A (j + 1)).2, px (wal (pfA A (plc A j) j)) m2), ⟨_, rfl⟩, ?_⟩
      show f_X6_pull_L13 _ _ (f + 1) _ _ _ _ = f_X6_pull_L13 _ _ f _ _ _ _
      rw [f_X6_pull_L13, px_0_0, if_neg (nI_ge hj (by omega)), X_isWed w.1 (by omega), Option.bind_some, if_pos q0, X_now, Option.bind_some, X_putFirst w.1 p1 p2 p4, Option.bind_some, X_lateBy wb2, Option.bind_some, na_lt]
      have e : (nI (plS A j).1 ≤ nI (allL (wal (pfA A (plc A j) j)))) = ((plS A j).1 ≤ allL (wal (pfA A (plc A j) j))) := na_le (by omega) (by omega)
      rw [plS, if_pos hw]
      simp only [e, na_lt, nI_1]
      by_cases e2 : (plS A j).1 ≤ allL (wal (pfA A (plc A j) j))
      · simp only [e2, if_true]
      · simp only [e2, if_false]
    · have q0 : ¬ (nI (A 0 4 / 2 ^ j % 2) : Int32) = 0 := by rw [show A 0 4 / 2 ^ j % 2 = 1 by omega]; decide
      refine ⟨(nI (plS A (j + 1)).1, (plS A (j + 1)).2, px C m2), ⟨_, rfl⟩, ?_⟩
      show f_X6_pull_L13 _ _ (f + 1) _ _ _ _ = f_X6_pull_L13 _ _ f _ _ _ _
      rw [f_X6_pull_L13, px_0_0, if_neg (nI_ge hj (by omega)), X_isWed w.1 (by omega), Option.bind_some, if_neg q0, na_lt, nI_1, plS, if_neg hw]
theorem M_pull (w : WF A) {W : Mem} (hK : KP A W) : ∃ W', f_X7_pull_L23 6000 (plS A 0).2 (nI (plS A 0).1) (nI 0) (pm A W) = some ((plS A (A 0 0)).2, pm A W') ∧ KE W W' := by
  have w1 := w.1.1
  have := lpi (fun f (s : Int32 × Int32 × Mem) i => f_X7_pull_L23 f s.2.1 s.1 i s.2.2) (A 0 0) (fun j s => ∃ W', s = (nI (plS A j).1, (plS A j).2, pm A W') ∧ KP A W' ∧ KE W W') (fun t => ∃ W', t = ((plS A (A 0 0)).2, pm A W') ∧ KE W W') (fun f s hs => ?_) (fun f j s hj hs => ?_) (A 0 0) 0 6000 (nI (plS A 0).1, (plS A 0).2, pm A W) (by omega) (by omega) ⟨_, rfl, hK, KE.rf⟩
  · obtain ⟨t, g1, C', rfl, g2⟩ := this
    exact ⟨C', g1, g2⟩
  · obtain ⟨C, rfl, hk, he⟩ := hs
    refine ⟨_, ?_, C, rfl, he⟩
    show f_X7_pull_L23 (f + 1) _ _ _ _ = _
    rw [f_X7_pull_L23, pm_0_0, if_pos (nI_le (Nat.le_refl _) (by omega))]
  · obtain ⟨C, rfl, hk, he⟩ := hs
    have hb : A 0 4 / 2 ^ j % 2 < 2 := Nat.mod_lt _ (by omega)
    have i7 := na_inb (by omega : j < 7) (by omega : (7 : Nat) < 2147483648)
    have x7 := na_ix (by omega : j < 2147483648)
    by_cases hw : A 0 4 / 2 ^ j % 2 = 0
    · obtain ⟨p1, p2, p3, p4⟩ := plc_in w hj hw
      have wb2 : WB (pfA A (plc A j) j) := WB_pfA w.1 (by omega)
      have l1 := allL_le (WB_wal wb2)
      have l2 := plS_le w j (by omega)
      have q0 : (nI (A 0 4 / 2 ^ j % 2) : Int32) = 0 := by rw [hw]; rfl
      obtain ⟨W', g1, g2, g3⟩ := ag_any (A' := wal (pfA A (plc A j) j)) hk
      refine ⟨(nI (plS A (j + 1)).1, (plS A (j + 1)).2, pm A W'), ⟨_, rfl, g2, he.trans g3⟩, ?_⟩
      show f_X7_pull_L23 (f + 1) _ _ _ _ = f_X7_pull_L23 f _ _ _ _
      rw [f_X7_pull_L23, pm_0_0, if_neg (nI_ge hj (by omega)), i7, na_ck, x7, pm_4 (by omega), if_pos q0, M_putFirst w.1 p1 p2 p3, Option.bind_some, M_lateNow wb2, Option.bind_some, na_lt, g1, Option.bind_some]
      have e : (nI (plS A j).1 ≤ nI (allL (wal (pfA A (plc A j) j)))) = ((plS A j).1 ≤ allL (wal (pfA A (plc A j) j))) := na_le (by omega) (by omega)
      rw [plS, if_pos hw, na_least (by omega) (by omega), Option.bind_some]
      simp only [e, na_lt, nI_1]
      by_cases e2 : (plS A j).1 ≤ allL (wal (pfA A (plc A j) j))
      · simp only [e2, if_true, Nat.min_eq_left e2]
      · simp only [e2, if_false, Nat.min_eq_right (Nat.le_of_not_le e2)]
    · have q0 : ¬ (nI (A 0 4 / 2 ^ j % 2) : Int32) = 0 := by rw [show A 0 4 / 2 ^ j % 2 = 1 by omega]; decide
      refine ⟨(nI (plS A (j + 1)).1, (plS A (j + 1)).2, pm A C), ⟨_, rfl, hk, he⟩, ?_⟩
      show f_X7_pull_L23 (f + 1) _ _ _ _ = f_X7_pull_L23 f _ _ _ _
      rw [f_X7_pull_L23, pm_0_0, if_neg (nI_ge hj (by omega)), i7, na_ck, x7, pm_4 (by omega), if_neg q0, na_lt, nI_1, plS, if_neg hw]
theorem op_pull (R : RR A m0 (px A h1) m3 m4 ks m13 (pm A M)) (m2 : Mem) : ∃ r m2' M', f_X6_pull m0 (px A h1) m2 = some (r, m2') ∧ f_X7_pull (pm A M) = some (r, M') ∧ RR A m0 (px A h1) m3 m4 ks m13 M' := by
  have wf := R.1
  have wb := wf.1
  obtain ⟨C', c1⟩ := X_pull (m0 := m0) (h1 := h1) (m2 := m2) wf
  obtain ⟨W, g1, g2, g3⟩ := ag_any (A' := wal A) (kp_tk (A := A) (M := M14 M))
  obtain ⟨W', d1, d2⟩ := M_pull wf g2
  refine ⟨(plS A (A 0 0)).2, px C' m2, pm A W', ?_, ?_, R.kp (ke14.trans (ke_tk.trans (g3.trans d2)))⟩
  · unfold f_X6_pull
    rw [X_inMind wb, Option.bind_some, X_allLate (WB_wal wb), Option.bind_some]
    have : f_X6_pull_L13 m0 (px A h1) 6000 (nI (allL (wal A))) (-9) 0 (px (wal A) m2) = some ((plS A (A 0 0)).2, px C' m2) := c1
    rw [this]
    rfl
  · unfold f_X7_pull
    rw [na_lt, M_t14, M_think, Option.bind_some, M_lateNow wb, Option.bind_some, na_lt, g1, Option.bind_some]
    have : f_X7_pull_L23 6000 (-9) (nI (allL (wal A))) 0 (pm A W) = some ((plS A (A 0 0)).2, pm A W') := d1
    rw [this]
    rfl
end OPS6

