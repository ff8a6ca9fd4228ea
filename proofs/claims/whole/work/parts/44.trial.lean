/-! CALLS that try one thing behind the other -/
/-- a loop told by what holds at each place, and of its end -/
theorem lpi {σ τ : Type} (F : Nat → σ → Int32 → Option τ) (N : Nat) (I : Nat → σ → Prop) (P : τ → Prop) (hend : ∀ f s, I N s → ∃ t, F (f + 1) s (nI N) = some t ∧ P t) (hstep : ∀ f j s, j < N → I j s → ∃ s', I (j + 1) s' ∧ F (f + 1) s (nI j) = F f s' (nI (j + 1))) : ∀ k j fuel s, j + k = N → k < fuel → I j s → ∃ t, F fuel s (nI j) = some t ∧ P t
  | 0, j, fuel, s, h1, h2, h3 => by
    obtain ⟨f, rfl⟩ : ∃ f, fuel = f + 1 := ⟨fuel - 1, by omega⟩
    have : j = N := by omega
    subst this
    exact hend f s h3
  | k + 1, j, fuel, s, h1, h2, h3 => by
    obtain ⟨f, rfl⟩ : ∃ f, fuel = f + 1 := ⟨fuel - 1, by omega⟩
    obtain ⟨s', g1, g2⟩ := hstep f j s (by omega) h3
    rw [g2]
    exact lpi F N I P hend hstep k (j + 1) f s' (by omega) (by omega) g1
section OPS6
variable {A B C : AM} {m0 h1 h m2 m3 m4 m13 M : Mem} {ks : List Mem}
theorem X_now : f_X6_asNow m0 (px A h1) (px C m2) = some (px A m2) := by
  rw [X_asNow, px_px]
theorem X_lateBy (w : WB A) : f_X6_lateBy (px A h) = some (nI (allL (wal A)), px (wal A) h) := by
  unfold f_X6_lateBy
  rw [X_wedAll w]
  simp only [Option.bind_some]
  rw [X_allLate (WB_wal w)]
  rfl
theorem M_lateNow (w : WB A) : f_X7_lateNow (pm A M) = some (nI (allL (wal A)), pm (wal A) M) := by
  unfold f_X7_lateNow
  rw [M_wedAll w]
  simp only [Option.bind_some]
  rw [M_allLate (WB_wal w)]
  rfl
theorem allL_le (w : WB A) : allL A ≤ 14000 := by
  have w1 := w.1
  have h : ∀ j, j ≤ A 0 0 → fb_sm (lat A) j ≤ 2000 * j := by
    intro j
    induction j with
    | zero => exact fun _ => Nat.le_refl _
    | succ j ih =>
      intro hj
      have := ih (by omega)
      have := lat_le w (by omega : j < 7)
      show fb_sm (lat A) j + lat A j ≤ _
      omega
  have := h (A 0 0) (Nat.le_refl _)
  unfold allL
  omega
theorem mtS_le (w : WB A) : mtS A ≤ 49 := by
  have w1 := w.1
  have := mtS_lt w (A 0 0) (Nat.le_refl _)
  unfold mtS
  omega
/-- the model's memory while it tries -/
abbrev Tk (A : AM) (M : Mem) : Mem := tk A (M14 M)
theorem ag_any {A' : AM} {W : Mem} (h : KP A W) : ∃ W', f_X7_again (pm A' W) = some (pm A W') ∧ KP A W' ∧ KE W W' := ⟨ag A W, M_again h, kp_ag h, ke_ag⟩
/-- places in the order -/
def plc (A : AM) (c : Nat) : Nat := fa_first (fun k => decide (A 7 k = c)) (A 0 8)
theorem plc_in (w : WF A) {c : Nat} (hc : c < A 0 0) (hb : A 0 4 / 2 ^ c % 2 = 0) : plc A c < A 0 8 ∧ A 7 (plc A c) = c ∧ (∀ k, k < A 0 8 → k ≠ plc A c → A 7 k ≠ c) ∧ ∀ k, k < plc A c → A 7 k ≠ c := by
  obtain ⟨i, g1, g2⟩ := w.2.2.2.2.1 c hc hb
  have hno := fa_first_no (fun k => decide (A 7 k = c)) (A 0 8)
  have hlt : plc A c < A 0 8 := by
    rcases Nat.lt_or_ge (plc A c) (A 0 8) with h | h
    · exact h
    · have := hno i (Nat.lt_of_lt_of_le g1 h)
      simp [g2] at this
  have hy : A 7 (plc A c) = c := of_decide_eq_true (fa_first_yes (fun k => decide (A 7 k = c)) (A 0 8) hlt)
  have hf : ∀ k, k < A 0 8 → k ≠ plc A c → A 7 k ≠ c := fun k hk hne e => by
    rcases Nat.lt_or_ge k (plc A c) with h | h
    · exact w.2.2.2.1 k (plc A c) h hlt (by rw [e, hy])
    · exact w.2.2.2.1 (plc A c) k (by omega) hk (by rw [e, hy])
  exact ⟨hlt, hy, hf, fun k hk => hf k (by omega) (by omega)⟩
/-- who is put first -/
def plS (A : AM) : Nat → Nat × Int32
  | 0 => (allL (wal A), -9)
  | j + 1 => if A 0 4 / 2 ^ j % 2 = 0 then (if (plS A j).1 ≤ allL (wal (pfA A (plc A j) j)) then plS A j else (allL (wal (pfA A (plc A j) j)), nI j)) else plS A j
theorem plS_le (w : WF A) : ∀ j, j ≤ A 0 0 → (plS A j).1 ≤ 14000
  | 0, _ => allL_le (WB_wal w.1)
  | j + 1, hj => by
    have w1 := w.1.1
    have := plS_le w j (by omega)
    have h2 := allL_le (WB_wal (WB_pfA (i := plc A j) w.1 (by omega : j < 7)))
    rw [plS]
    split
    · split
      · exact this
      · exact h2
    · exact this
theorem X_pull (w : WF A) : ∃ C', f_X6_pull_L13 m0 (px A h1) 6000 (nI (plS A 0).1) (plS A 0).2 (nI 0) (px (wal A) m2) = some ((plS A (A 0 0)).2, px C' m2) := by
  have w1 := w.1.1
  have := lpi (fun f (s : Int32 × Int32 × Mem) i => f_X6_pull_L13 m0 (px A h1) f s.1 s.2.1 i s.2.2) (A 0 0) (fun j s => ∃ C, s = (nI (plS A j).1, (plS A j).2, px C m2)) (fun t => ∃ C', t = ((plS A (A 0 0)).2, px C' m2)) (fun f s hs => ?_) (fun f j s hj hs => ?_) (A 0 0) 0 6000 (nI (plS A 0).1, (plS A 0).2, px (wal A) m2) (by omega) (by omega) ⟨_, rfl⟩
  · obtain ⟨t, g1, C', rfl⟩ := this
    exact ⟨C', g1⟩
  · obtain ⟨C, rfl⟩ := hs
    refine ⟨_, ?_, C, rfl⟩
    show f_X6_pull_L13 _ _ (f + 1) _ _ _ _ = _
    rw [f_X6_pull_L13, px_0_0, if_pos (nI_le (Nat.le_refl _) (by omega))]
  · obtain ⟨C, rfl⟩ := hs
    have hb : A 0 4 / 2 ^ j % 2 < 2 := Nat.mod_lt _ (by omega)
    by_cases hw : A 0 4 / 2 ^ j % 2 = 0
    · obtain ⟨p1, p2, p3, p4⟩ := plc_in w hj hw
      have wb2 : WB (pfA A (plc A j) j) := WB_pfA w.1 (by omega)
      have l1 := allL_le (WB_wal wb2)
      have l2 := plS_le w j (by omega)
      have q0 : (nI (A 0 4 / 2 ^ j % 2) : Int32) = 0 := by rw [hw]; rfl
      refine ⟨(nI (plS A (j + 1)).1, (plS A (j + 1)).2, px (wal (pfA A (plc A j) j)) m2), ⟨_, rfl⟩, ?_⟩
      show f_X6_pull_L13 _ _ (f + 1) _ _ _ _ = f_X6_pull_L13 _ _ f _ _ _ _
      rw [f_X6_pull_L13, px_0_0, if_neg (nI_ge hj (by omega)), X_isWed w.1 (by omega), Option.bind_some, if_pos q0, X_now, Option.bind_some, X_putFirst w.1 p1 p2 p4, Option.bind_some, X_lateBy wb2, Option.bind_some, na_lt]
      have e : (nI (plS A j).1 ≤ nI (allL (wal (pfA A (plc A j) j)))) = ((plS A j).1 ≤ allL (wal (pfA A (plc A j) j))) := na_le (by omega) (by omega)
      rw [plS, if_pos hw]
      simp only [e, na_lt, nI_1]
      by_cases e2 : (plS A j).1 ≤ allL (wal (pfA A (plc A j) j))
      · simp only [e2, if_true]
      · simp only [e2, if_false]
    · have q0 : ¬ (nI (A 0 4 / 2 ^ j % 2) : Int32) = 0 := by rw [show A 0 4 / 2 ^ j % 2 = 1 by omega]; decide
      refine ⟨(nI (plS A (j + 1)).1, (plS A (j + 1)).2, px C m2), ⟨_, rfl⟩, ?_⟩
      show f_X6_pull_L13 _ _ (f + 1) _ _ _ _ = f_X6_pull_L13 _ _ f _ _ _ _
      rw [f_X6_pull_L13, px_0_0, if_neg (nI_ge hj (by omega)), X_isWed w.1 (by omega), Option.bind_some, if_neg q0, na_lt, nI_1, plS, if_neg hw]
theorem M_pull (w : WF A) {W : Mem} (hK : KP A W) : ∃ W', f_X7_pull_L23 6000 (plS A 0).2 (nI (plS A 0).1) (nI 0) (pm A W) = some ((plS A (A 0 0)).2, pm A W') ∧ KE W W' := by
  have w1 := w.1.1
  have := lpi (fun f (s : Int32 × Int32 × Mem) i => f_X7_pull_L23 f s.2.1 s.1 i s.2.2) (A 0 0) (fun j s => ∃ W', s = (nI (plS A j).1, (plS A j).2, pm A W') ∧ KP A W' ∧ KE W W') (fun t => ∃ W', t = ((plS A (A 0 0)).2, pm A W') ∧ KE W W') (fun f s hs => ?_) (fun f j s hj hs => ?_) (A 0 0) 0 6000 (nI (plS A 0).1, (plS A 0).2, pm A W) (by omega) (by omega) ⟨_, rfl, hK, KE.rf⟩
  · obtain ⟨t, g1, C', rfl, g2⟩ := this
    exact ⟨C', g1, g2⟩
  · obtain ⟨C, rfl, hk, he⟩ := hs
    refine ⟨_, ?_, C, rfl, he⟩
    show f_X7_pull_L23 (f + 1) _ _ _ _ = _
    dsimp only
    rw [f_X7_pull_L23, pm_0_0, if_pos (nI_le (Nat.le_refl _) (by omega))]
  · obtain ⟨C, rfl, hk, he⟩ := hs
    have hb : A 0 4 / 2 ^ j % 2 < 2 := Nat.mod_lt _ (by omega)
    have i7 := na_inb (by omega : j < 7) (by omega : (7 : Nat) < 2147483648)
    have x7 := na_ix (by omega : j < 2147483648)
    by_cases hw : A 0 4 / 2 ^ j % 2 = 0
    · obtain ⟨p1, p2, p3, p4⟩ := plc_in w hj hw
      have wb2 : WB (pfA A (plc A j) j) := WB_pfA w.1 (by omega)
      have l1 := allL_le (WB_wal wb2)
      have l2 := plS_le w j (by omega)
      have q0 : (nI (A 0 4 / 2 ^ j % 2) : Int32) = 0 := by rw [hw]; rfl
      obtain ⟨W', g1, g2, g3⟩ := ag_any (A' := wal (pfA A (plc A j) j)) hk
      refine ⟨(nI (plS A (j + 1)).1, (plS A (j + 1)).2, pm A W'), ⟨_, rfl, g2, he.trans g3⟩, ?_⟩
      show f_X7_pull_L23 (f + 1) _ _ _ _ = f_X7_pull_L23 f _ _ _ _
      dsimp only
      rw [f_X7_pull_L23, pm_0_0, if_neg (nI_ge hj (by omega)), i7, na_ck, x7, pm_4 (by omega), if_pos q0, M_putFirst w.1 p1 p2 p3, Option.bind_some, M_lateNow wb2, Option.bind_some, na_lt, g1, Option.bind_some]
      have e : (nI (plS A j).1 ≤ nI (allL (wal (pfA A (plc A j) j)))) = ((plS A j).1 ≤ allL (wal (pfA A (plc A j) j))) := na_le (by omega) (by omega)
      rw [plS, if_pos hw, na_least (by omega) (by omega)]
      simp only [e, na_lt, nI_1, Option.bind_some]
      by_cases e2 : (plS A j).1 ≤ allL (wal (pfA A (plc A j) j))
      · simp only [e2, if_true, Nat.min_eq_left e2]
      · simp only [e2, if_false, Nat.min_eq_right (Nat.le_of_not_le e2)]
    · have q0 : ¬ (nI (A 0 4 / 2 ^ j % 2) : Int32) = 0 := by rw [show A 0 4 / 2 ^ j % 2 = 1 by omega]; decide
      refine ⟨(nI (plS A (j + 1)).1, (plS A (j + 1)).2, pm A C), ⟨_, rfl, hk, he⟩, ?_⟩
      show f_X7_pull_L23 (f + 1) _ _ _ _ = f_X7_pull_L23 f _ _ _ _
      dsimp only
      rw [f_X7_pull_L23, pm_0_0, if_neg (nI_ge hj (by omega)), i7, na_ck, x7, pm_4 (by omega), if_neg q0, na_lt, nI_1, plS, if_neg hw]
theorem op_pull (R : RR A m0 (px A h1) m3 m4 ks m13 (pm A M)) (m2 : Mem) : ∃ r m2' M', f_X6_pull m0 (px A h1) m2 = some (r, m2') ∧ f_X7_pull (pm A M) = some (r, M') ∧ RR A m0 (px A h1) m3 m4 ks m13 M' := by
  have wf := R.1
  have wb := wf.1
  obtain ⟨C', c1⟩ := X_pull (m0 := m0) (h1 := h1) (m2 := m2) wf
  obtain ⟨W, g1, g2, g3⟩ := ag_any (A' := wal A) (kp_tk (A := A) (M := M14 M))
  obtain ⟨W', d1, d2⟩ := M_pull wf g2
  refine ⟨(plS A (A 0 0)).2, px C' m2, pm A W', ?_, ?_, R.kp (ke14.trans (ke_tk.trans (g3.trans d2)))⟩
  · unfold f_X6_pull
    rw [X_inMind wb, Option.bind_some, X_allLate (WB_wal wb), Option.bind_some]
    have : f_X6_pull_L13 m0 (px A h1) 6000 (nI (allL (wal A))) (-9) 0 (px (wal A) m2) = some ((plS A (A 0 0)).2, px C' m2) := c1
    rw [this]
    rfl
  · unfold f_X7_pull
    rw [na_lt, M_t14, M_think, Option.bind_some, M_lateNow wb, Option.bind_some, na_lt, g1, Option.bind_some]
    have : f_X7_pull_L23 6000 (-9) (nI (allL (wal A))) 0 (pm A W) = some ((plS A (A 0 0)).2, pm A W') := d1
    rw [this]
    rfl

/-- slack tried -/
def bsC (A : AM) (j : Nat) : Nat := allL (wal (ua A 0 13 j)) + 5 * mtS (wal (ua A 0 13 j))
def bsS (A : AM) : Nat → Nat × Nat
  | 0 => (1000000000, 0)
  | j + 1 => if (bsS A j).1 ≤ bsC A j then bsS A j else (bsC A j, j)
theorem wb13 (w : WB A) {j : Nat} (hj : j ≤ 9) : WB (ua A 0 13 j) := WB_ua w (by unfold okv; omega)
theorem bsC_le (w : WB A) {j : Nat} (hj : j ≤ 9) : bsC A j ≤ 20000 := by
  have h1 := allL_le (WB_wal (wb13 w hj))
  have h2 := mtS_le (WB_wal (wb13 w hj))
  unfold bsC
  omega
theorem bsS_le (w : WB A) : ∀ j, j ≤ 10 → (bsS A j).1 ≤ 1000000000 ∧ (1 ≤ j → (bsS A j).1 ≤ 20000) ∧ (bsS A j).2 ≤ 10
  | 0, _ => ⟨Nat.le_refl _, by omega, by show 0 ≤ 10; omega⟩
  | j + 1, hj => by
    have h1 := bsS_le w j (by omega)
    have h2 := bsC_le w (by omega : j ≤ 9)
    rw [bsS]
    split
    · omega
    · exact ⟨by show bsC A j ≤ _; omega, fun _ => h2, by show j ≤ 10; omega⟩
theorem X_bestSlack (w : WB A) : ∃ C', f_X6_bestSlack_L24 m0 (px A h1) 6000 (nI (bsS A 0).1) (nI (bsS A 0).2) (nI 0) m2 = some (nI (bsS A 10).1, nI (bsS A 10).2, C') := by
  have := lpi (fun f (s : Int32 × Int32 × Mem) i => f_X6_bestSlack_L24 m0 (px A h1) f s.1 s.2.1 i s.2.2) 10 (fun j s => ∃ C, s = (nI (bsS A j).1, nI (bsS A j).2, C)) (fun t => ∃ C', t = (nI (bsS A 10).1, nI (bsS A 10).2, C')) (fun f s hs => ?_) (fun f j s hj hs => ?_) 10 0 6000 (nI (bsS A 0).1, nI (bsS A 0).2, m2) (by omega) (by omega) ⟨_, rfl⟩
  · obtain ⟨t, g1, C', rfl⟩ := this
    exact ⟨C', g1⟩
  · obtain ⟨C, rfl⟩ := hs
    refine ⟨_, ?_, C, rfl⟩
    show f_X6_bestSlack_L24 _ _ (f + 1) _ _ _ _ = _
    dsimp only
    rw [f_X6_bestSlack_L24, if_pos (by decide)]
  · obtain ⟨C, rfl⟩ := hs
    have wb2 := wb13 w (by omega : j ≤ 9)
    have l1 := bsC_le w (by omega : j ≤ 9)
    have l2 := (bsS_le w j (by omega)).1
    refine ⟨(nI (bsS A (j + 1)).1, nI (bsS A (j + 1)).2, px (wal (ua A 0 13 j)) C), ⟨_, rfl⟩, ?_⟩
    show f_X6_bestSlack_L24 _ _ (f + 1) _ _ _ _ = f_X6_bestSlack_L24 _ _ f _ _ _ _
    dsimp only
    rw [f_X6_bestSlack_L24, if_neg (show ¬ (9 : Int32) < nI j from nI_nlt (a := 9) (by omega) (by omega)), X_asNow, Option.bind_some, px_w0_13, na_lt, X_lateBy wb2, Option.bind_some, X_meetings (WB_wal wb2), Option.bind_some, show (5 : Int32) = nI 5 from rfl, pk_mul, nI_add, na_lt]
    have e : (nI (bsS A j).1 ≤ nI (bsC A j)) = ((bsS A j).1 ≤ bsC A j) := na_le (by omega) (by omega)
    show (if nI (bsS A j).1 ≤ nI (bsC A j) then _ else _) = _
    rw [bsS]
    simp only [e, na_lt, nI_1]
    by_cases e2 : (bsS A j).1 ≤ bsC A j
    · simp only [e2, if_true]
    · simp only [e2, if_false]
      rfl
theorem M_bestSlack (w : WB A) {W : Mem} (hK : KP A W) : ∃ W', f_X7_bestSlack_L33 6000 (nI 0) (-1) (nI 0) (pm A W) = some (nI (bsS A 10).2, nI (bsS A 10).1, pm A W') ∧ KE W W' := by
  have := lpi (fun f (s : Int32 × Int32 × Mem) i => f_X7_bestSlack_L33 f s.2.1 s.1 i s.2.2) 10 (fun j s => ∃ W', s = ((if j = 0 then -1 else nI (bsS A j).1), nI (bsS A j).2, pm A W') ∧ KP A W' ∧ KE W W') (fun t => ∃ W', t = (nI (bsS A 10).2, nI (bsS A 10).1, pm A W') ∧ KE W W') (fun f s hs => ?_) (fun f j s hj hs => ?_) 10 0 6000 (-1, nI 0, pm A W) (by omega) (by omega) ⟨_, rfl, hK, KE.rf⟩
  · obtain ⟨t, g1, C', rfl, g2⟩ := this
    exact ⟨C', g1, g2⟩
  · obtain ⟨C, rfl, hk, he⟩ := hs
    refine ⟨_, ?_, C, rfl, he⟩
    show f_X7_bestSlack_L33 (f + 1) _ _ _ _ = _
    dsimp only
    rw [f_X7_bestSlack_L33, if_pos (by decide), if_neg (by omega)]
  · obtain ⟨C, rfl, hk, he⟩ := hs
    have wb2 := wb13 w (by omega : j ≤ 9)
    have l1 := bsC_le w (by omega : j ≤ 9)
    have l2 := bsS_le w j (by omega)
    obtain ⟨W', g1, g2, g3⟩ := ag_any (A' := wal (ua A 0 13 j)) hk
    refine ⟨((if j + 1 = 0 then -1 else nI (bsS A (j + 1)).1), nI (bsS A (j + 1)).2, pm A W'), ⟨_, rfl, g2, he.trans g3⟩, ?_⟩
    show f_X7_bestSlack_L33 (f + 1) _ _ _ _ = f_X7_bestSlack_L33 f _ _ _ _
    dsimp only
    rw [f_X7_bestSlack_L33, if_neg (show ¬ (9 : Int32) < nI j from nI_nlt (a := 9) (by omega) (by omega)), pm_w0_13, na_lt, M_lateNow wb2, Option.bind_some]
    dsimp only
    rw [M_meetings (WB_wal wb2), Option.bind_some, show (5 : Int32) = nI 5 from rfl, pk_mul, nI_add, na_lt, g1, Option.bind_some, if_neg (by omega : ¬ j + 1 = 0)]
    show lt (if _ < (0 : Int32) then nI j else if _ ≤ nI (bsC A j) then _ else nI j) _ = _
    by_cases e0 : j = 0
    · subst e0
      rw [if_pos rfl, if_pos (by decide), na_lt, if_pos (by decide), na_lt, nI_1, bsS, if_neg (show ¬ (bsS A 0).1 ≤ bsC A 0 from by show ¬ 1000000000 ≤ _; omega)]
      rfl
    · rw [if_neg e0]
      have l3 := l2.2.1 (by omega)
      have e1 : ¬ nI (bsS A j).1 < 0 := nI_pos (by omega)
      have e : (nI (bsS A j).1 ≤ nI (bsC A j)) = ((bsS A j).1 ≤ bsC A j) := na_le (by omega) (by omega)
      rw [if_neg e1, na_lt, if_neg e1, bsS]
      show (if nI (bsS A j).1 ≤ nI (bsC A j) then _ else _) = _
      simp only [e, na_lt, nI_1]
      by_cases e2 : (bsS A j).1 ≤ bsC A j
      · simp only [e2, if_true]
      · simp only [e2, if_false]
        rfl
theorem op_bestSlack (R : RR A m0 (px A h1) m3 m4 ks m13 (pm A M)) (m2 : Mem) (a : Int32) : ∃ r m0' m2' M', f_X6_bestSlack m0 (px A h1) m2 a = some (r, m0', m2') ∧ f_X7_bestSlack (pm A M) a = some (r, M') ∧ RR A m0' (px A h1) m3 m4 ks m13 M' := by
  have wb := R.1.1
  have e2 : ¬ (1 : Int32) = 0 := by decide
  obtain ⟨C', c1⟩ := X_bestSlack (m0 := m0) (h1 := h1) (m2 := m2) wb
  obtain ⟨W', d1, d2⟩ := M_bestSlack wb (kp_tk (A := A) (M := M14 M))
  have c1' : f_X6_bestSlack_L24 m0 (px A h1) 6000 1000000000 0 0 m2 = some (nI (bsS A 10).1, nI (bsS A 10).2, C') := c1
  have d1' : f_X7_bestSlack_L33 6000 0 (-1) 0 (pm A (tk A (M14 M))) = some (nI (bsS A 10).2, nI (bsS A 10).1, pm A W') := d1
  have k := ke14.trans (ke_tk.trans d2)
  rcases na_cs a (n := 2) (by omega) with ho | ⟨j, hj, rfl⟩
  · have n0 : ¬ a = 0 := out_ne ho (j := 0) (by omega) (by omega)
    have n1 : ¬ a = 1 := out_ne ho (j := 1) (by omega) (by omega)
    have hi : f_X7_in a.toInt64 0 1 = some 0 := out_iK ho (k := 1) rfl (by omega)
    exact ⟨-2, rf m0 2 2, m2, pm A (rf (M14 M) 10 2), by simp only [f_X6_bestSlack, n0, n1, if_false, X_ref2, Option.bind_some], by simp only [f_X7_bestSlack, na_lt, M_t14, hi, Option.bind_some, if_true, M_ref2], R.rk ke14 (by omega)⟩
  · have hi : f_X7_in (nI j).toInt64 0 1 = some 1 := in_iK (k := 1) (by omega) (by omega)
    rcases (show j = 0 ∨ j = 1 by omega) with rfl | rfl
    · have q0 : (nI 0 : Int32) = 0 := rfl
      exact ⟨nI (bsS A 10).2, m0, C', pm A W', by simp only [f_X6_bestSlack, f_X6_bestSlack_J16, f_X6_bestSlack_J24, q0, if_true, c1', Option.bind_some], by
        unfold f_X7_bestSlack
        rw [na_lt, M_t14, hi]
        simp only [Option.bind_some, e2, if_false, M_think, d1', q0, if_true], R.kp k⟩
    · have q1 : (nI 1 : Int32) = 1 := rfl
      exact ⟨nI (bsS A 10).1, m0, C', pm A W', by simp only [f_X6_bestSlack, f_X6_bestSlack_J16, f_X6_bestSlack_J24, q1, e2, if_true, if_false, c1', Option.bind_some], by
        unfold f_X7_bestSlack
        rw [na_lt, M_t14, hi]
        simp only [Option.bind_some, e2, if_false, M_think, d1', q1], R.kp k⟩
/-- a second room tried -/
theorem wal_eq {A : AM} (h : ∀ p q, A p q = B p q) : A = B := funext fun p => funext fun q => h p q
theorem op_saved (R : RR A m0 (px A h1) m3 m4 ks m13 (pm A M)) (m2 : Mem) : ∃ r m0' m2' M', f_X6_saved m0 (px A h1) m2 = some (r, m0', m2') ∧ f_X7_saved (pm A M) = some (r, M') ∧ RR A m0' (px A h1) m3 m4 ks m13 M' := by
  have wf := R.1
  have wb := wf.1
  have w1 := wb.1
  obtain ⟨w4, w5⟩ := wb.2.2.2.1
  have e2 : (2 : Int32) = nI 2 := rfl
  by_cases h0 : A 0 0 = 0
  · have q0 : (nI (A 0 0) : Int32) = 0 := by rw [h0]; rfl
    exact ⟨1000000000 - -3, rf m0 2 3, m2, pm A (rf (M14 M) 10 3), by simp only [f_X6_saved, px_0_0, q0, if_true, X_ref3, Option.bind_some], by simp only [f_X7_saved, na_lt, M_t14, pm_0_0, q0, if_true, M_ref3, Option.bind_some], R.rk ke14 (by omega)⟩
  · have q0 : ¬ (nI (A 0 0) : Int32) = 0 := nI_ne0 (by omega) (by omega)
    have wr := (WF_roA wf (v := 2) (by omega) (by omega)).1
    have hx : f_X6_saved m0 (px A h1) m2 = some (nI (allL (wal A)) - nI (allL (wal (roA A 2))), m0, px (wal (roA A 2)) m2) := by
      unfold f_X6_saved
      rw [px_0_0, if_neg q0, X_inMind wb, Option.bind_some, X_allLate (WB_wal wb), Option.bind_some, X_now, Option.bind_some, e2, X_openRooms wb (by omega) (by omega), Option.bind_some, X_lateBy wr, Option.bind_some]
    by_cases h2 : A 0 10 = 2
    · have q2 : (nI (A 0 10) : Int32) = 2 := by rw [h2]; rfl
      have er : roA A 2 = A := by
        unfold roA
        rw [if_neg (by omega)]
        funext p q
        simp only [ua]
        split
        · next z => rw [z.1, z.2, h2]
        · rfl
      refine ⟨0, m0, px (wal (roA A 2)) m2, pm A (M14 M), ?_, ?_, R.kp ke14⟩
      · rw [hx, er, show nI (allL (wal A)) - nI (allL (wal A)) = 0 from by rw [pk_sub (Nat.le_refl _), Nat.sub_self]; rfl]
      · simp only [f_X7_saved, na_lt, M_t14, pm_0_0, q0, if_false, pm_0_10, q2, if_true]
    · have q2 : ¬ (nI (A 0 10) : Int32) = 2 := fun z => h2 ((nI_eq (by omega) (b := 2) (by omega)).mp z)
      obtain ⟨W, g1, g2, g3⟩ := ag_any (A' := wal A) (kp_tk (A := A) (M := M14 M))
      obtain ⟨M', d1, d2⟩ := M_roomsBecome (M := W) wb (v := 2) (by omega) (by omega)
      have g2' : KP A M' := fun k hk h6 => by rw [d2 15 k (by omega)]; exact g2 k hk h6
      obtain ⟨W2, f1, f2, f3⟩ := ag_any (A' := wal (roA A 2)) g2'
      refine ⟨_, m0, _, pm A W2, hx, ?_, R.kp (ke14.trans (ke_tk.trans (g3.trans ((ke_9 d2).trans f3))))⟩
      unfold f_X7_saved
      rw [na_lt, M_t14, pm_0_0, if_neg q0, pm_0_10, if_neg q2, M_think, Option.bind_some, M_lateNow wb, Option.bind_some, na_lt, g1, Option.bind_some, e2, d1, Option.bind_some, M_lateNow wr, Option.bind_some, na_lt, f1, Option.bind_some]
end OPS6

