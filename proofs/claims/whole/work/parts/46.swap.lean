/-! CALLS that try, on: swap, judge, count -/
section OPS8
variable {A B C : AM} {m0 h1 h m2 m3 m4 m13 M : Mem} {ks : List Mem}
theorem wed_no (w : WF A) {c : Nat} (hb : ¬ A 0 4 / 2 ^ c % 2 = 0) : ∀ k, k < A 0 8 → A 7 k ≠ c := fun k hk e => hb (by rw [← e]; exact (w.2.2.1 k hk).2)
theorem M_placeOf_no (w : WB A) {c : Nat} (hc : c < 7) (hf : ∀ k, k < A 0 8 → A 7 k ≠ c) : f_X7_placeOf (pm A M) (nI c) = some (-1) := by
  have w3 := w.2.2.1
  have hl := lp (r := some (-1)) (fun f (s : Int32) i => f_X7_placeOf_L4 (nI c) (pm A M) f s i) (A 0 8) (fun _ => -1) (fun f => ?_) (fun f j hj => ?_) (A 0 8) 0 6000 (by omega) (by omega)
  · unfold f_X7_placeOf
    rw [show (0 : Int32) = nI 0 from rfl, hl]
    rfl
  · show f_X7_placeOf_L4 _ _ (f + 1) _ _ = _
    rw [f_X7_placeOf_L4, pm_0_9, if_pos (nI_le (Nat.le_refl _) (by omega))]
  · show f_X7_placeOf_L4 _ _ (f + 1) _ _ = f_X7_placeOf_L4 _ _ f _ _
    have h7 := (w.2.2.2.2.2.2.2 j (by omega)).2.2.2.2.2.2
    have hne : ¬ nI (A 7 j) = nI c := by rw [nI_eq (by omega) (by omega)]; exact hf j hj
    rw [f_X7_placeOf_L4, pm_0_9, if_neg (nI_ge hj (by omega)), na_inb (by omega) (by omega), na_ck, na_ix (by omega), pm_8 (by omega), if_neg hne, na_lt, nI_1]
theorem nn_0 {n : Nat} (h : n < 2147483648) : ¬ nI n < (0 : Int32) := show ¬ nI n < nI 0 from nI_nlt (Nat.zero_le _) h
abbrev uw (A : AM) (c : Nat) : Prop := A 0 4 / 2 ^ c % 2 = 0
theorem uw_0 {c : Nat} (h : uw A c) : (nI (A 0 4 / 2 ^ c % 2) : Int32) = 0 := by rw [h]; rfl
theorem uw_1 {c : Nat} (h : ¬ uw A c) : ¬ (nI (A 0 4 / 2 ^ c % 2) : Int32) = 0 := by
  have hb : A 0 4 / 2 ^ c % 2 < 2 := Nat.mod_lt _ (by omega)
  unfold uw at h
  rw [show A 0 4 / 2 ^ c % 2 = 1 by omega]
  decide
/-- two change places -/
def swp (A : AM) (c d : Nat) : AM := ua (ua A 7 (plc A c) d) 7 (plc A d) c
theorem WB_swp (w : WB A) {c d : Nat} (hc : c < 7) (hd : d < 7) : WB (swp A c d) := WB_ua (WB_ua w (by unfold okv; omega)) (by unfold okv; omega)
def swC (A : AM) (c d : Nat) : Nat := allL (wal (swp A c d))
theorem swC_le (w : WB A) {c d : Nat} (hc : c < 7) (hd : d < 7) : swC A c d ≤ 14000 := allL_le (WB_wal (WB_swp w hc hd))
def swI (A : AM) (c : Nat) (s : Nat × Int32) : Nat → Nat × Int32
  | 0 => s
  | d + 1 => if c < d ∧ uw A c ∧ uw A d ∧ ¬ (swI A c s d).1 ≤ swC A c d then (swC A c d, nI (10 * c + d)) else swI A c s d
def swO (A : AM) : Nat → Nat × Int32
  | 0 => (allL (wal A), -9)
  | c + 1 => swI A c (swO A c) (A 0 0)
theorem swI_lo {c : Nat} {s : Nat × Int32} : ∀ d, d ≤ c + 1 → swI A c s d = s
  | 0, _ => rfl
  | d + 1, h => by
    rw [swI, if_neg (by omega)]
    exact swI_lo d (by omega)
theorem swI_le (w : WB A) {c : Nat} (hc : c < 7) {s : Nat × Int32} (hs : s.1 ≤ 14000) : ∀ d, d ≤ 7 → (swI A c s d).1 ≤ 14000
  | 0, _ => hs
  | d + 1, h => by
    rw [swI]
    split
    · exact swC_le w hc (by omega)
    · exact swI_le w hc hs d (by omega)
theorem swO_le (w : WB A) : ∀ c, c ≤ A 0 0 → (swO A c).1 ≤ 14000
  | 0, _ => allL_le (WB_wal w)
  | c + 1, h => swI_le w (by have := w.1; omega) (swO_le w c (by omega)) _ w.1
theorem X_change (w : WF A) {c d : Nat} (hc : c < A 0 0) (hd : d < A 0 0) (hb : uw A c) (hb2 : uw A d) : f_X2_changePlaces (px A h) (nI c) (nI d) = some (px (swp A c d) h) := by
  obtain ⟨p1, p2, p3, p4⟩ := plc_in w hc hb
  obtain ⟨q1, q2, q3, q4⟩ := plc_in w hd hb2
  have w3 := w.1.2.2.1
  unfold f_X2_changePlaces
  rw [X_placeOf_at w.1 p1 p2 p4, Option.bind_some, X_placeOf_at w.1 q1 q2 q4, Option.bind_some, px_0_8, if_neg (nI_ge p1 (by omega)), if_neg (nI_ge q1 (by omega)), na_inb (c := plc A c) (by omega) (by omega), na_ck, na_lt, na_inb (c := plc A d) (by omega) (by omega), na_ck, na_ix (by omega), na_ix (by omega), na_lt, px_w7 (by omega), px_w7 (by omega)]
  rfl
theorem e10 {c d : Nat} : (10 * nI c) + nI d = nI (10 * c + d) := by
  rw [show (10 : Int32) = nI 10 from rfl, pk_mul, nI_add]
theorem X_swapI (w : WF A) {c : Nat} (hc : c < A 0 0) {s : Nat × Int32} (hs : s.1 ≤ 14000) {m : Mem} : ∃ C', f_X6_swap_L29 m0 (px A h1) (nI c) 6000 (nI s.1) s.2 (nI (c + 1)) m = some (nI (swI A c s (A 0 0)).1, (swI A c s (A 0 0)).2, C') := by
  have w1 := w.1.1
  have := lpi (fun f (s : Int32 × Int32 × Mem) i => f_X6_swap_L29 m0 (px A h1) (nI c) f s.1 s.2.1 i s.2.2) (A 0 0) (fun j t => c < j ∧ ∃ C, t = (nI (swI A c s j).1, (swI A c s j).2, C)) (fun t => ∃ C', t = (nI (swI A c s (A 0 0)).1, (swI A c s (A 0 0)).2, C')) (fun f t ht => ?_) (fun f j t hj ht => ?_) (A 0 0 - (c + 1)) (c + 1) 6000 (nI s.1, s.2, m) (by omega) (by omega) ⟨by omega, m, by rw [swI_lo _ (Nat.le_refl _)]⟩
  · obtain ⟨t, g1, C', rfl⟩ := this
    exact ⟨C', g1⟩
  · obtain ⟨-, C, rfl⟩ := ht
    refine ⟨_, ?_, C, rfl⟩
    show f_X6_swap_L29 _ _ _ (f + 1) _ _ _ _ = _
    dsimp only
    rw [f_X6_swap_L29, px_0_0, if_pos (nI_le (Nat.le_refl _) (by omega))]
  · obtain ⟨h0, C, rfl⟩ := ht
    have l1 := swI_le w.1 (by omega : c < 7) hs j (by omega)
    by_cases hb : uw A c
    · by_cases hd : uw A j
      · have wb2 := WB_swp w.1 (c := c) (d := j) (by omega) (by omega)
        have l2 := swC_le w.1 (c := c) (d := j) (by omega) (by omega)
        refine ⟨(nI (swI A c s (j + 1)).1, (swI A c s (j + 1)).2, px (wal (swp A c j)) C), ⟨by omega, _, rfl⟩, ?_⟩
        show f_X6_swap_L29 _ _ _ (f + 1) _ _ _ _ = f_X6_swap_L29 _ _ _ f _ _ _ _
        dsimp only
        rw [f_X6_swap_L29, px_0_0, if_neg (nI_ge hj (by omega)), X_isWed w.1 (by omega), Option.bind_some, if_pos (uw_0 hb), X_isWed w.1 (by omega), Option.bind_some, if_pos (uw_0 hd), X_asNow, Option.bind_some, X_change w hc hj hb hd, Option.bind_some, X_lateBy wb2, Option.bind_some, na_lt]
        have e : (nI (swI A c s j).1 ≤ nI (allL (wal (swp A c j)))) = ((swI A c s j).1 ≤ swC A c j) := na_le (by omega) (by unfold swC at l2; omega)
        rw [swI]
        simp only [e, na_lt, nI_1, e10]
        by_cases e2 : (swI A c s j).1 ≤ swC A c j
        · rw [if_pos e2, if_neg (fun z => z.2.2.2 e2)]
        · rw [if_neg e2, if_pos ⟨h0, hb, hd, e2⟩]
          rfl
      · refine ⟨(nI (swI A c s (j + 1)).1, (swI A c s (j + 1)).2, C), ⟨by omega, _, rfl⟩, ?_⟩
        show f_X6_swap_L29 _ _ _ (f + 1) _ _ _ _ = f_X6_swap_L29 _ _ _ f _ _ _ _
        dsimp only
        rw [f_X6_swap_L29, px_0_0, if_neg (nI_ge hj (by omega)), X_isWed w.1 (by omega), Option.bind_some, if_pos (uw_0 hb), X_isWed w.1 (by omega), Option.bind_some, if_neg (uw_1 hd), na_lt, nI_1, swI, if_neg (fun z => hd z.2.2.1)]
    · refine ⟨(nI (swI A c s (j + 1)).1, (swI A c s (j + 1)).2, C), ⟨by omega, _, rfl⟩, ?_⟩
      show f_X6_swap_L29 _ _ _ (f + 1) _ _ _ _ = f_X6_swap_L29 _ _ _ f _ _ _ _
      dsimp only
      rw [f_X6_swap_L29, px_0_0, if_neg (nI_ge hj (by omega)), X_isWed w.1 (by omega), Option.bind_some, if_neg (uw_1 hb), na_lt, nI_1, swI, if_neg (fun z => hb z.2.1)]
theorem X_swapO (w : WF A) {m : Mem} : ∃ C', f_X6_swap_L13 m0 (px A h1) 6000 (nI (swO A 0).1) (swO A 0).2 (nI 0) m = some ((swO A (A 0 0)).2, C') := by
  have w1 := w.1.1
  have := lpi (fun f (s : Int32 × Int32 × Mem) i => f_X6_swap_L13 m0 (px A h1) f s.1 s.2.1 i s.2.2) (A 0 0) (fun j t => ∃ C, t = (nI (swO A j).1, (swO A j).2, C)) (fun t => ∃ C', t = ((swO A (A 0 0)).2, C')) (fun f t ht => ?_) (fun f j t hj ht => ?_) (A 0 0) 0 6000 (nI (swO A 0).1, (swO A 0).2, m) (by omega) (by omega) ⟨m, rfl⟩
  · obtain ⟨t, g1, C', rfl⟩ := this
    exact ⟨C', g1⟩
  · obtain ⟨C, rfl⟩ := ht
    refine ⟨_, ?_, C, rfl⟩
    show f_X6_swap_L13 _ _ (f + 1) _ _ _ _ = _
    dsimp only
    rw [f_X6_swap_L13, px_0_0, if_pos (nI_le (Nat.le_refl _) (by omega))]
  · obtain ⟨C, rfl⟩ := ht
    obtain ⟨C', g1⟩ := X_swapI (m0 := m0) (h1 := h1) (m := C) w hj (swO_le w.1 j (by omega))
    refine ⟨(nI (swO A (j + 1)).1, (swO A (j + 1)).2, C'), ⟨_, rfl⟩, ?_⟩
    show f_X6_swap_L13 _ _ (f + 1) _ _ _ _ = f_X6_swap_L13 _ _ f _ _ _ _
    dsimp only
    rw [f_X6_swap_L13, px_0_0, if_neg (nI_ge hj (by omega)), na_lt, nI_1, g1, Option.bind_some, na_lt]
    rfl
theorem M_swapI (w : WF A) {c : Nat} (hc : c < A 0 0) {s : Nat × Int32} (hs : s.1 ≤ 14000) {W : Mem} (hK : KP A W) : ∃ W', f_X7_swap_L36 (nI c) 6000 s.2 (nI s.1) (nI (c + 1)) (pm A W) = some ((swI A c s (A 0 0)).2, nI (swI A c s (A 0 0)).1, pm A W') ∧ KP A W' ∧ KE W W' := by
  have w1 := w.1.1
  have w3 := w.1.2.2.1
  have := lpi (fun f (s : Int32 × Int32 × Mem) i => f_X7_swap_L36 (nI c) f s.2.1 s.1 i s.2.2) (A 0 0) (fun j t => c < j ∧ ∃ W', t = (nI (swI A c s j).1, (swI A c s j).2, pm A W') ∧ KP A W' ∧ KE W W') (fun t => ∃ W', t = ((swI A c s (A 0 0)).2, nI (swI A c s (A 0 0)).1, pm A W') ∧ KP A W' ∧ KE W W') (fun f t ht => ?_) (fun f j t hj ht => ?_) (A 0 0 - (c + 1)) (c + 1) 6000 (nI s.1, s.2, pm A W) (by omega) (by omega) ⟨by omega, W, by rw [swI_lo _ (Nat.le_refl _)], hK, KE.rf⟩
  · obtain ⟨t, g1, C', rfl, g2, g3⟩ := this
    exact ⟨C', g1, g2, g3⟩
  · obtain ⟨-, C, rfl, hk, he⟩ := ht
    refine ⟨_, ?_, C, rfl, hk, he⟩
    show f_X7_swap_L36 _ (f + 1) _ _ _ _ = _
    dsimp only
    rw [f_X7_swap_L36, pm_0_0, if_pos (nI_le (Nat.le_refl _) (by omega))]
  · obtain ⟨h0, C, rfl, hk, he⟩ := ht
    have l1 := swI_le w.1 (by omega : c < 7) hs j (by omega)
    have nn : (-1 : Int32) < 0 := by decide
    by_cases hb : uw A c
    · obtain ⟨p1, p2, p3, p4⟩ := plc_in w hc hb
      have np : ¬ nI (plc A c) < (0 : Int32) := nn_0 (by omega)
      by_cases hd : uw A j
      · obtain ⟨q1, q2, q3, q4⟩ := plc_in w hj hd
        have nq : ¬ nI (plc A j) < (0 : Int32) := nn_0 (by omega)
        have wb2 := WB_swp w.1 (c := c) (d := j) (by omega) (by omega)
        have l2 := swC_le w.1 (c := c) (d := j) (by omega) (by omega)
        obtain ⟨W', g1, g2, g3⟩ := ag_any (A' := wal (swp A c j)) hk
        refine ⟨(nI (swI A c s (j + 1)).1, (swI A c s (j + 1)).2, pm A W'), ⟨by omega, _, rfl, g2, he.trans g3⟩, ?_⟩
        show f_X7_swap_L36 _ (f + 1) _ _ _ _ = f_X7_swap_L36 _ f _ _ _ _
        dsimp only
        rw [f_X7_swap_L36, pm_0_0, if_neg (nI_ge hj (by omega)), M_placeOf_at w.1 p1 p2 p3, Option.bind_some, M_placeOf_at w.1 q1 q2 q3, Option.bind_some, if_neg np, if_neg nq, na_inb (c := plc A c) (by omega) (by omega), na_ck, na_lt, na_inb (c := plc A j) (by omega) (by omega), na_ck, na_ix (n := plc A c) (by omega), na_ix (n := plc A j) (by omega), na_lt, pm_w8 (by omega), pm_w8 (by omega)]
        have : f_X7_lateNow (pm (ua (ua A 7 (plc A c) j) 7 (plc A j) c) C) = some (nI (swC A c j), pm (wal (swp A c j)) C) := M_lateNow wb2
        rw [this, Option.bind_some, na_lt, g1, Option.bind_some, na_least (by omega) (by omega)]
        have e : (nI (swI A c s j).1 ≤ nI (swC A c j)) = ((swI A c s j).1 ≤ swC A c j) := na_le (by omega) (by omega)
        rw [swI]
        simp only [e, na_lt, nI_1, e10, Option.bind_some]
        by_cases e2 : (swI A c s j).1 ≤ swC A c j
        · simp only [e2, if_true, not_true, and_false, if_false, Nat.min_eq_left e2]
        · rw [if_neg e2, if_pos ⟨h0, hb, hd, e2⟩, Nat.min_eq_right (Nat.le_of_not_le e2)]
      · refine ⟨(nI (swI A c s (j + 1)).1, (swI A c s (j + 1)).2, pm A C), ⟨by omega, _, rfl, hk, he⟩, ?_⟩
        show f_X7_swap_L36 _ (f + 1) _ _ _ _ = f_X7_swap_L36 _ f _ _ _ _
        dsimp only
        rw [f_X7_swap_L36, pm_0_0, if_neg (nI_ge hj (by omega)), M_placeOf_at w.1 p1 p2 p3, Option.bind_some, M_placeOf_no w.1 (by omega) (wed_no w hd), Option.bind_some, if_neg np, if_pos nn, na_lt, nI_1, swI, if_neg (fun z => hd z.2.2.1)]
    · have hx : ∃ y, f_X7_placeOf (pm A C) (nI j) = some y := by
        by_cases hd : uw A j
        · obtain ⟨q1, q2, q3, q4⟩ := plc_in w hj hd
          exact ⟨_, M_placeOf_at w.1 q1 q2 q3⟩
        · exact ⟨_, M_placeOf_no w.1 (by omega) (wed_no w hd)⟩
      obtain ⟨y, hy⟩ := hx
      refine ⟨(nI (swI A c s (j + 1)).1, (swI A c s (j + 1)).2, pm A C), ⟨by omega, _, rfl, hk, he⟩, ?_⟩
      show f_X7_swap_L36 _ (f + 1) _ _ _ _ = f_X7_swap_L36 _ f _ _ _ _
      dsimp only
      rw [f_X7_swap_L36, pm_0_0, if_neg (nI_ge hj (by omega)), M_placeOf_no w.1 (by omega) (wed_no w hb), Option.bind_some, hy, Option.bind_some, if_pos nn, na_lt, nI_1, swI, if_neg (fun z => hb z.2.1)]
theorem M_swapO (w : WF A) {W : Mem} (hK : KP A W) : ∃ W', f_X7_swap_L23 6000 (swO A 0).2 (nI (swO A 0).1) (nI 0) (pm A W) = some ((swO A (A 0 0)).2, pm A W') ∧ KE W W' := by
  have w1 := w.1.1
  have := lpi (fun f (s : Int32 × Int32 × Mem) i => f_X7_swap_L23 f s.2.1 s.1 i s.2.2) (A 0 0) (fun j t => ∃ W', t = (nI (swO A j).1, (swO A j).2, pm A W') ∧ KP A W' ∧ KE W W') (fun t => ∃ W', t = ((swO A (A 0 0)).2, pm A W') ∧ KE W W') (fun f t ht => ?_) (fun f j t hj ht => ?_) (A 0 0) 0 6000 (nI (swO A 0).1, (swO A 0).2, pm A W) (by omega) (by omega) ⟨W, rfl, hK, KE.rf⟩
  · obtain ⟨t, g1, C', rfl, g2⟩ := this
    exact ⟨C', g1, g2⟩
  · obtain ⟨C, rfl, hk, he⟩ := ht
    refine ⟨_, ?_, C, rfl, he⟩
    show f_X7_swap_L23 (f + 1) _ _ _ _ = _
    dsimp only
    rw [f_X7_swap_L23, pm_0_0, if_pos (nI_le (Nat.le_refl _) (by omega))]
  · obtain ⟨C, rfl, hk, he⟩ := ht
    obtain ⟨W', g1, g2, g3⟩ := M_swapI w hj (swO_le w.1 j (by omega)) hk
    refine ⟨(nI (swO A (j + 1)).1, (swO A (j + 1)).2, pm A W'), ⟨_, rfl, g2, he.trans g3⟩, ?_⟩
    show f_X7_swap_L23 (f + 1) _ _ _ _ = f_X7_swap_L23 f _ _ _ _
    dsimp only
    rw [f_X7_swap_L23, pm_0_0, if_neg (nI_ge hj (by omega)), na_lt, nI_1, g1, Option.bind_some, na_lt]
    rfl
theorem op_swap (R : RR A m0 (px A h1) m3 m4 ks m13 (pm A M)) (m2 : Mem) : ∃ r m2' M', f_X6_swap m0 (px A h1) m2 = some (r, m2') ∧ f_X7_swap (pm A M) = some (r, M') ∧ RR A m0 (px A h1) m3 m4 ks m13 M' := by
  have wf := R.1
  have wb := wf.1
  obtain ⟨C', c1⟩ := X_swapO (m0 := m0) (h1 := h1) (m := px (wal A) m2) wf
  obtain ⟨W, g1, g2, g3⟩ := ag_any (A' := wal A) (kp_tk (A := A) (M := M14 M))
  obtain ⟨W', d1, d2⟩ := M_swapO wf g2
  refine ⟨(swO A (A 0 0)).2, C', pm A W', ?_, ?_, R.kp (ke14.trans (ke_tk.trans (g3.trans d2)))⟩
  · unfold f_X6_swap
    rw [X_inMind wb, Option.bind_some, X_allLate (WB_wal wb), Option.bind_some]
    have : f_X6_swap_L13 m0 (px A h1) 6000 (nI (allL (wal A))) (-9) 0 (px (wal A) m2) = some ((swO A (A 0 0)).2, C') := c1
    rw [this]
    rfl
  · unfold f_X7_swap
    rw [na_lt, M_t14, M_think, Option.bind_some, M_lateNow wb, Option.bind_some, na_lt, g1, Option.bind_some]
    have : f_X7_swap_L23 6000 (-9) (nI (allL (wal A))) 0 (pm A W) = some ((swO A (A 0 0)).2, pm A W') := d1
    rw [this]
    rfl
/-- the register looked at: the first row that doesn't agree -/
abbrev jbd (A : AM) (f : Nat → Int32) (j : Nat) : Prop := ¬ (j < A 0 0 ∧ nI (wal A 4 j) = f j)
theorem wal_00 : wal A 0 0 = A 0 0 := weN_00 _
theorem X_judge (w : WB A) {np : Nat} (hn : np ≤ 12) (h9 : m0 0 9 = nI np) : f_X6_judge_L10 m0 (px (wal A) m2) 6000 (-9) (nI 0) = some (fr (jbd A (m0 1)) nI (-9) np 0) := by
  have w1 := w.1
  have wb := WB_wal w
  have key : ∀ k j f, j + k = np → k + 1 < f → f_X6_judge_L10 m0 (px (wal A) m2) f (-9) (nI j) = some (fr (jbd A (m0 1)) nI (-9) k j) := by
    intro k
    induction k with
    | zero =>
      intro j f hj hf
      obtain ⟨g, rfl⟩ : ∃ g, f = g + 1 := ⟨f - 1, by omega⟩
      rw [f_X6_judge_L10, h9, if_pos (nI_le (by omega) (by omega))]
      rfl
    | succ k ih =>
      intro j f hj hf
      obtain ⟨g, rfl⟩ : ∃ g, f = g + 2 := ⟨f - 2, by omega⟩
      have hend : f_X6_judge_L10 m0 (px (wal A) m2) (g + 1) (nI j) (nI (j + 1)) = some (nI j) := by
        rw [f_X6_judge_L10, h9]
        split
        · rfl
        · rw [if_neg (by rw [fa_eq, nI_toInt (by omega)]; have : (-9 : Int32).toInt = -9 := by decide
                         omega)]
      rw [f_X6_judge_L10, h9, if_neg (nI_ge (by omega) (by omega)), if_pos rfl, fr]
      by_cases hc : j < A 0 0
      · have n1 : ¬ (1 : Int32) = 0 := by decide
        rw [X_has_in wb (by rw [wal_00]; exact hc), Option.bind_some, if_neg n1, na_inb (by omega) (by omega), na_ck, na_inb (by omega) (by omega), na_ck, na_ix (by omega), px_4 (by omega)]
        by_cases e : nI (wal A 4 j) = m0 1 j
        · rw [if_pos e, na_lt, nI_1, ih (j + 1) (g + 1) (by omega) (by omega), if_neg (fun z => z ⟨hc, e⟩)]
        · rw [if_neg e, na_lt, nI_1, hend, if_pos (fun z => e z.2)]
      · rw [X_has_out (Or.inr (nI_le (by rw [wal_00]; omega) (by omega))), Option.bind_some, if_pos rfl, na_lt, nI_1, hend, if_pos (fun z => hc z.1)]
  exact key np 0 6000 (by omega) (by omega)
theorem fr_up {τ : Type} (p : Nat → Prop) [DecidablePred p] (g : Nat → τ) (e : τ) (k j : Nat) : fr p g e (k + 1) j = if p j then g j else fr p g e k (j + 1) := rfl
theorem fr_cg {τ : Type} {p q : Nat → Prop} [DecidablePred p] [DecidablePred q] {g : Nat → τ} {e : τ} : ∀ k j, (∀ i, j ≤ i → i < j + k → (p i ↔ q i)) → fr p g e k j = fr q g e k j
  | 0, _, _ => rfl
  | k + 1, j, h => by
    rw [fr_up, fr_up, fr_cg k (j + 1) (fun i h1 h2 => h i (by omega) (by omega))]
    have := h j (Nat.le_refl _) (by omega)
    by_cases e : p j
    · rw [if_pos e, if_pos (this.mp e)]
    · rw [if_neg e, if_neg (fun z => e (this.mpr z))]
theorem lpdb {σ τ : Type} (F : Nat → σ → Int32 → Option τ) (N : Nat) (st : Nat → σ) {r : Option τ} (hend : ∀ f, F (f + 1) (st 0) (nI 0) = r) (hstep : ∀ f j, j < N → F (f + 1) (st (j + 1)) (nI (j + 1)) = F f (st j) (nI j)) : ∀ j fuel, j ≤ N → j < fuel → F fuel (st j) (nI j) = r
  | 0, fuel, h1, h2 => by
    obtain ⟨g, rfl⟩ : ∃ g, fuel = g + 1 := ⟨fuel - 1, by omega⟩
    exact hend g
  | j + 1, fuel, h1, h2 => by
    obtain ⟨g, rfl⟩ : ∃ g, fuel = g + 1 := ⟨fuel - 1, by omega⟩
    rw [hstep g j (by omega)]
    exact lpdb F N st hend hstep j g (by omega) (by omega)
theorem M_judge (w : WB A) {np : Nat} (hn : np ≤ 12) {f : Nat → Int32} (hf : ∀ j, j < np → M 22 j = f j) : f_X7_judge_L30 (pm (wal A) M) 6000 (-9) (nI np - 1) = some (fr (jbd A f) nI (-9) np 0) := by
  have w1 := w.1
  have wb := WB_wal w
  have := lpdb (r := some (fr (jbd A f) nI (-9) np 0)) (fun g (s : Int32) i => f_X7_judge_L30 (pm (wal A) M) g s (i - 1)) np (fun j => fr (jbd A f) nI (-9) (np - j) j) (fun g => ?_) (fun g j hj => ?_) np 6000 (by omega) (by omega)
  · rw [Nat.sub_self] at this
    exact this
  · show f_X7_judge_L30 _ (g + 1) _ _ = _
    have n1 : nI 0 - 1 < (0 : Int32) := by decide
    rw [f_X7_judge_L30, if_pos n1]
    rfl
  · have q1 : nI (j + 1) - 1 = nI j := nI_pred j
    have q2 : nI j + (-1) = nI j - 1 := by rw [Int32.sub_eq_add_neg]
    show f_X7_judge_L30 _ (g + 1) _ (nI (j + 1) - 1) = f_X7_judge_L30 _ g _ (nI j - 1)
    rw [q1]
    have hn : np - j = (np - (j + 1)) + 1 := by omega
    rw [f_X7_judge_L30, if_neg (nn_0 (by omega)), pm_0_0, wal_00, hn, fr_up]
    by_cases hc : j < A 0 0
    · have b1 := (wb.2.2.2.2.2.2.2 j (by omega)).2.2.2.1
      rw [if_neg (nI_ge hc (by omega)), na_inb (by omega) (by omega), na_ck, na_lt, if_neg (nI_ge hc (by omega)), na_inb (by omega) (by omega), na_ck, na_ix (by omega), pm_22, pm_5 (by omega), hf j (by omega)]
      by_cases e : f j = nI (wal A 4 j)
      · rw [if_pos e, na_lt, q2, if_neg (fun z => z ⟨hc, e.symm⟩)]
      · rw [if_neg e, na_lt, q2, if_pos (fun z => e z.2.symm)]
    · rw [if_pos (nI_le (by omega) (by omega)), na_lt, q2, if_pos (fun z => hc z.1)]
theorem op_judge (R : RR A m0 (px A h1) m3 m4 ks m13 (pm A M)) (m2 : Mem) : ∃ r m0' m2' M', f_X6_judge m0 (px A h1) m2 = some (r, m0', m2') ∧ f_X7_judge (pm A M) = some (r, M') ∧ RR A m0' (px A h1) m3 m4 ks m13 M' := by
  have wf := R.1
  have wb := wf.1
  obtain ⟨np, hn, n1, n2, n3⟩ := R.2.2.2.2.1
  have R1 := (R.kp (ke14 (M := M)))
  have R2 := R1.sp0 (m0' := xs m0 0 9 0) (M' := xs (M14 M) 0 37 0) (fun j hj => ⟨by simp [xs], by simp [xs]⟩) ⟨0, by omega, by simp [xs]; rfl, by rw [pm_0_37]; simp [xs]; rfl, fun j hj => by omega⟩ ⟨by simp [xs], by simp [xs], fun j => by simp [xs]⟩ ⟨by simp [xs], fun j => by simp [xs]⟩ ⟨by simp [xs], fun j => by simp [xs]⟩
  obtain ⟨W, g1, g2, g3⟩ := ag_any (A' := wal A) (kp_tk (A := A) (M := xs (M14 M) 0 37 0))
  refine ⟨fr (jbd A (m0 1)) nI (-9) np 0, xs m0 0 9 0, px (wal A) m2, pm A W, ?_, ?_, R2.kp (ke_tk.trans g3)⟩
  · unfold f_X6_judge
    rw [X_inMind wb, Option.bind_some, show (0 : Int32) = nI 0 from rfl, X_judge wb hn n1, Option.bind_some, na_lt]
  · have e1 : xs (pm A (M14 M)) 0 37 0 = pm A (xs (M14 M) 0 37 0) := pm_off (by omega)
    have e2 : pm A (M14 M) 0 37 = nI np := by rw [pm_0_37]; rw [pm_0_37] at n2; simp [xs, n2]
    have e3 : ∀ j, j < np → tk A (xs (M14 M) 0 37 0) 22 j = m0 1 j := fun j hj => by
      obtain ⟨v, -, v1, v2⟩ := n3 j hj
      rw [v1, ← v2, pm_22, ((ke_tk (A := A) (M := xs (M14 M) 0 37 0)).2 j).2.2.2.2]
      simp [xs]
    unfold f_X7_judge
    rw [na_lt, M_t14, na_lt, e2, na_lt, e1, M_think, Option.bind_some, M_wedAll wb, Option.bind_some, na_lt, M_judge wb hn e3, Option.bind_some, g1, Option.bind_some]
/-- the mask of those who wait still -/
def uwN (A : AM) : Nat → Nat
  | 0 => 0
  | j + 1 => if uw A j then uwN A j ||| 2 ^ j else uwN A j
theorem uwN_lt : ∀ j, uwN A j < 2 ^ j
  | 0 => by show 0 < 2 ^ 0; decide
  | j + 1 => by
    have := uwN_lt j
    rw [uwN]
    split
    · rw [Nat.or_two_pow_eq_add_of_lt this, Nat.pow_succ]; omega
    · rw [Nat.pow_succ]; omega
theorem uwN_7 {j : Nat} (hj : j ≤ 7) : uwN A j < 128 := Nat.lt_of_lt_of_le (uwN_lt j) (show 2 ^ j ≤ 2 ^ 7 from Nat.pow_le_pow_right (by omega) hj)
theorem uwN_sum : ∀ j, uwN A j + A 0 4 % 2 ^ j + 1 = 2 ^ j
  | 0 => by show 0 + A 0 4 % 1 + 1 = 1; omega
  | j + 1 => by
    have := uwN_sum j
    have lt := uwN_lt (A := A) j
    have hb : A 0 4 / 2 ^ j % 2 < 2 := Nat.mod_lt _ (by omega)
    rw [uwN, Nat.mod_pow_succ, Nat.pow_succ]
    split
    · next e =>
      unfold uw at e
      rw [Nat.or_two_pow_eq_add_of_lt lt, e]
      omega
    · next e =>
      unfold uw at e
      rw [show A 0 4 / 2 ^ j % 2 = 1 by omega]
      omega
theorem uwN_bit {c : Nat} (h7 : c < 7) : ∀ j, j ≤ 7 → uwN A j / 2 ^ c % 2 = if c < j ∧ uw A c then 1 else 0
  | 0, _ => by
    show 0 / 2 ^ c % 2 = _
    rw [if_neg (by omega), Nat.zero_div]
  | j + 1, hj => by
    have ih := uwN_bit h7 j (by omega)
    have b := uwN_7 (A := A) (by omega : j ≤ 7)
    rw [uwN]
    by_cases e : uw A j
    · rw [if_pos e, na_orbit _ b _ (by omega) _ h7]
      by_cases e2 : c = j
      · subst e2
        rw [if_pos rfl, if_pos ⟨by omega, e⟩]
      · rw [if_neg e2, ih]
        by_cases e3 : c < j ∧ uw A c
        · rw [if_pos e3, if_pos ⟨by omega, e3.2⟩]
        · rw [if_neg e3, if_neg (fun z => e3 ⟨by omega, z.2⟩)]
    · rw [if_neg e, ih]
      by_cases e3 : c < j ∧ uw A c
      · rw [if_pos e3, if_pos ⟨by omega, e3.2⟩]
      · rw [if_neg e3, if_neg (fun z => e3 ⟨by
          have : c ≠ j := fun q => e (q ▸ z.2)
          omega, z.2⟩)]
theorem M_unwed (w : WB A) : f_X7_unwed (pm A M) = some (nI (uwN A (A 0 0))) := by
  have w1 := w.1
  have hl := lp (r := some (nI (uwN A (A 0 0)))) (fun f (s : Int32) i => f_X7_unwed_L4 (pm A M) f s i) (A 0 0) (fun j => nI (uwN A j)) (fun f => ?_) (fun f j hj => ?_) (A 0 0) 0 6000 (by omega) (by omega)
  · unfold f_X7_unwed
    have : f_X7_unwed_L4 (pm A M) 6000 0 0 = some (nI (uwN A (A 0 0))) := hl
    rw [this]
    rfl
  · show f_X7_unwed_L4 _ (f + 1) _ _ = _
    rw [f_X7_unwed_L4, pm_0_0, if_pos (nI_le (Nat.le_refl _) (by omega))]
  · show f_X7_unwed_L4 _ (f + 1) _ _ = f_X7_unwed_L4 _ f _ _
    rw [f_X7_unwed_L4, pm_0_0, if_neg (nI_ge hj (by omega)), na_inb (by omega) (by omega), na_ck, na_ix (by omega), pm_4 (by omega)]
    by_cases e : uw A j
    · rw [if_pos (uw_0 e), na_or _ (uwN_7 (by omega)) _ (by omega), na_lt, na_lt, nI_1, uwN, if_pos e]
    · rw [if_neg (uw_1 e), Int32.or_zero, na_lt, na_lt, nI_1, uwN, if_neg e]
theorem M_hasUnwed (w : WB A) {c : Nat} (hc : c < A 0 0) : f_X7_hasBit (nI (uwN A (A 0 0))) (nI c) = some (if uw A c then 1 else 0) := by
  have w1 := w.1
  unfold f_X7_hasBit
  rw [na_bit _ (uwN_7 w1) _ (by omega), uwN_bit (by omega) _ w1]
  by_cases e : uw A c
  · have q : (if c < A 0 0 ∧ uw A c then 1 else 0) = 1 := if_pos ⟨hc, e⟩
    rw [q, if_pos e]
    rfl
  · have q : (if c < A 0 0 ∧ uw A c then 1 else 0) = 0 := if_neg (fun z => e z.2)
    rw [q, if_neg e]
    rfl
theorem shl_n : ∀ n, n ≤ 7 → (1 : Int32) <<< (nI n &&& 31) = nI (2 ^ n) := by decide +kernel
theorem op_count (R : RR A m0 (px A h1) m3 m4 ks m13 (pm A M)) (a : Int32) : ∃ r M', f_X6_count m0 (px A h1) m4 m13 a = some r ∧ f_X7_count (pm A M) a = some (r, M') ∧ RR A m0 (px A h1) m3 m4 ks m13 M' := by
  have wf := R.1
  have wb := wf.1
  have w1 := wb.1
  have RM := R.kp (ke14 (M := M))
  obtain ⟨-, -, -, hf, ⟨np, -, t1, t2, -⟩, -, ⟨nl, -, l1, l2, -⟩, ⟨ol, nq, -, -, -, p1, p2, -⟩⟩ := RM
  by_cases e0 : a = 0
  · exact ⟨nI (A 0 0), pm A (M14 M), by simp only [f_X6_count, e0, if_true, px_0_0], by simp only [f_X7_count, na_lt, M_t14, e0, if_true, pm_0_0], R.kp ke14⟩
  by_cases e1 : a = 1
  · exact ⟨nI (A 0 8), pm A (M14 M), by simp only [f_X6_count, e0, if_pos e1, if_false, px_0_8], by simp only [f_X7_count, na_lt, M_t14, e0, if_pos e1, if_false, pm_0_9], R.kp ke14⟩
  by_cases e2 : a = 2
  · have s1 := uwN_sum (A := A) (A 0 0)
    rw [Nat.mod_eq_of_lt wf.2.1] at s1
    have s2 : (1 : Int32) <<< (nI (A 0 0) &&& 31) - 1 - nI (uwN A (A 0 0)) = nI (A 0 4) := by
      rw [shl_n _ w1, show (1 : Int32) = nI 1 from rfl, pk_sub (by omega), pk_sub (by omega)]
      congr 1
      omega
    exact ⟨nI (A 0 4), pm A (M14 M), by simp only [f_X6_count, e0, e1, if_pos e2, if_false, px_0_4], by simp only [f_X7_count, na_lt, M_t14, e0, e1, if_pos e2, if_false, M_unwed wb, Option.bind_some, pm_0_0, s2], R.kp ke14⟩
  by_cases e3 : a = 3
  · exact ⟨nI (A 0 10), pm A (M14 M), by simp only [f_X6_count, e0, e1, e2, if_pos e3, if_false, px_0_10], by simp only [f_X7_count, na_lt, M_t14, e0, e1, e2, if_pos e3, if_false, pm_0_10], R.kp ke14⟩
  by_cases e4 : a = 4
  · exact ⟨nI (A 0 12), pm A (M14 M), by simp only [f_X6_count, e0, e1, e2, e3, if_pos e4, if_false, px_0_12], by simp only [f_X7_count, na_lt, M_t14, e0, e1, e2, e3, if_pos e4, if_false, pm_0_12], R.kp ke14⟩
  by_cases e5 : a = 5
  · exact ⟨nI (A 0 13), pm A (M14 M), by simp only [f_X6_count, e0, e1, e2, e3, e4, if_pos e5, if_false, px_0_13], by simp only [f_X7_count, na_lt, M_t14, e0, e1, e2, e3, e4, if_pos e5, if_false, pm_0_13], R.kp ke14⟩
  by_cases e6 : a = 6
  · exact ⟨nI nl, pm A (M14 M), by simp only [f_X6_count, e0, e1, e2, e3, e4, e5, if_pos e6, if_false, l1], by simp only [f_X7_count, na_lt, M_t14, e0, e1, e2, e3, e4, e5, if_pos e6, if_false, l2], R.kp ke14⟩
  by_cases e7 : a = 7
  · exact ⟨nI np, pm A (M14 M), by simp only [f_X6_count, e0, e1, e2, e3, e4, e5, e6, if_pos e7, if_false, t1], by simp only [f_X7_count, na_lt, M_t14, e0, e1, e2, e3, e4, e5, e6, if_pos e7, if_false, t2], R.kp ke14⟩
  by_cases e8 : a = 8
  · exact ⟨nI nq, pm A (M14 M), by simp only [f_X6_count, e0, e1, e2, e3, e4, e5, e6, e7, if_pos e8, if_false, p1], by simp only [f_X7_count, na_lt, M_t14, e0, e1, e2, e3, e4, e5, e6, e7, if_pos e8, if_false, p2], R.kp ke14⟩
  have hi : f_X7_in a.toInt64 11 16 = some (if nI 11 ≤ a ∧ a ≤ nI 16 then 1 else 0) := na_inK a (k := 11) (m := 16) (by omega) (by omega)
  by_cases l : nI 11 ≤ a ∧ a ≤ nI 16
  · obtain ⟨j, hj, rfl⟩ : ∃ j, j ≤ 16 ∧ a = nI j := by
      rcases na_cs a (n := 17) (by omega) with o | ⟨j, hj, e⟩
      · exfalso
        obtain ⟨la, lb⟩ := l
        rw [fa_le] at la lb
        rcases o with o | o
        · rw [fa_lt] at o
          have : (nI 0).toInt = 0 := by decide
          have : (nI 11).toInt = 11 := by decide
          omega
        · rw [fa_le] at o
          have : (nI 17).toInt = 17 := by decide
          have : (nI 16).toInt = 16 := by decide
          omega
      · exact ⟨j, by omega, e⟩
    obtain ⟨la, lb⟩ := l
    have la' : 11 ≤ j := by rw [na_le (by omega) (by omega)] at la; exact la
    have n1 : ¬ nI j < (11 : Int32) := show ¬ nI j < nI 11 from nI_nlt la' (by omega)
    have n2 : ¬ (16 : Int32) < nI j := show ¬ nI 16 < nI j from nI_nlt hj (by omega)
    have n3 : nI j - 10 = nI (j - 10) := pk_sub (b := 10) (by omega)
    have n4 : ¬ (1 : Int32) = 0 := by decide
    refine ⟨m0 2 (j - 10), pm A (M14 M), ?_, ?_, R.kp ke14⟩
    · simp only [f_X6_count, e0, e1, e2, e3, e4, e5, e6, e7, e8, if_false, n1, n2, n3]
      rw [na_inb (by omega) (by omega), na_ck, na_ix (by omega)]
    · simp only [f_X7_count, na_lt, M_t14, e0, e1, e2, e3, e4, e5, e6, e7, e8, if_false, hi, n3]
      rw [if_pos ⟨la, lb⟩, Option.bind_some, if_neg n4, na_inb (by omega) (by omega), na_ck, na_ix (by omega), hf _ (by omega)]
  · refine ⟨-9, pm A (M14 M), ?_, ?_, R.kp ke14⟩
    · simp only [f_X6_count, e0, e1, e2, e3, e4, e5, e6, e7, e8, if_false]
      by_cases n1 : a < 11
      · rw [if_pos n1]
      · rw [if_neg n1, if_pos]
        rw [fa_lt]
        have q : (16 : Int32).toInt = 16 := by decide
        have q1 : (11 : Int32).toInt = 11 := by decide
        have q2 : (nI 16).toInt = 16 := by decide
        have q3 : (nI 11).toInt = 11 := by decide
        rw [fa_lt] at n1
        rw [fa_le, fa_le] at l
        omega
    · simp only [f_X7_count, na_lt, M_t14, e0, e1, e2, e3, e4, e5, e6, e7, e8, if_false, hi, if_neg l, Option.bind_some, if_true]
end OPS8
