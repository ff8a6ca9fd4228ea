/-! CALLS that try: rest, can, turned -/
section OPS7
variable {A B C : AM} {m0 h1 h m2 m3 m4 m13 M : Mem} {ks : List Mem}
theorem allL_cg (h0 : A 0 0 = B 0 0) (h : ∀ c, A 3 c = B 3 c ∧ A 4 c = B 4 c) : allL A = allL B := by
  unfold allL
  rw [h0]
  exact fb_sm_cong (fun k _ => by
    show A 4 k - A 3 k = B 4 k - B 3 k
    rw [(h k).1, (h k).2])
theorem weA_00 {more : Nat} : weA A more 0 0 = A 0 0 := by simp [weA, hoA, wsA, offA, ua, shA]
theorem weN_00 : ∀ k, weN A k 0 0 = A 0 0
  | 0 => rfl
  | k + 1 => by rw [weN, weA_00, weN_00 k]
def reC (A : AM) (j : Nat) : Nat := allL (wal (reA (weN A j) 10))
def rsS (A : AM) : Nat → Nat × Int32
  | 0 => (allL (wal A), -9)
  | j + 1 => if (rsS A j).1 ≤ reC A j then rsS A j else (reC A j, nI j)
theorem reC_le (w : WB A) {j : Nat} (hj : j ≤ A 0 8) : reC A j ≤ 14000 := allL_le (WB_wal (WB_reA (WB_weN w j hj)))
theorem rsS_le (w : WB A) : ∀ j, j ≤ A 0 8 + 1 → (rsS A j).1 ≤ 14000
  | 0, _ => allL_le (WB_wal w)
  | j + 1, hj => by
    have := rsS_le w j (by omega)
    have := reC_le w (by omega : j ≤ A 0 8)
    rw [rsS]
    split
    · assumption
    · assumption
theorem X_rest (w : WB A) : ∃ C', f_X6_rest_L13 m0 (px A h1) 6000 (nI (rsS A 0).1) (rsS A 0).2 (nI 0) m2 = some ((rsS A (A 0 8 + 1)).2, C') := by
  have w3 := w.2.2.1
  have := lpi (fun f (s : Int32 × Int32 × Mem) i => f_X6_rest_L13 m0 (px A h1) f s.1 s.2.1 i s.2.2) (A 0 8 + 1) (fun j s => ∃ C, s = (nI (rsS A j).1, (rsS A j).2, C)) (fun t => ∃ C', t = ((rsS A (A 0 8 + 1)).2, C')) (fun f s hs => ?_) (fun f j s hj hs => ?_) (A 0 8 + 1) 0 6000 (nI (rsS A 0).1, (rsS A 0).2, m2) (by omega) (by omega) ⟨_, rfl⟩
  · obtain ⟨t, g1, C', rfl⟩ := this
    exact ⟨C', g1⟩
  · obtain ⟨C, rfl⟩ := hs
    refine ⟨_, ?_, C, rfl⟩
    show f_X6_rest_L13 _ _ (f + 1) _ _ _ _ = _
    dsimp only
    rw [f_X6_rest_L13, px_0_8, if_pos (nI_lt (by omega) (by omega))]
  · obtain ⟨C, rfl⟩ := hs
    have wb2 := WB_weN w j (by omega)
    have wb3 := WB_reA wb2 (m := 10)
    have l1 := reC_le w (by omega : j ≤ A 0 8)
    have l2 := rsS_le w j (by omega)
    refine ⟨(nI (rsS A (j + 1)).1, (rsS A (j + 1)).2, px (wal (reA (weN A j) 10)) C), ⟨_, rfl⟩, ?_⟩
    show f_X6_rest_L13 _ _ (f + 1) _ _ _ _ = f_X6_rest_L13 _ _ f _ _ _ _
    dsimp only
    rw [f_X6_rest_L13, px_0_8, if_neg (nI_nlt (by omega) (by omega)), X_asNow, Option.bind_some, X_wedSome w (by omega), Option.bind_some, show (10 : Int32) = nI 10 from rfl, X_restClerk wb2 (by omega), Option.bind_some, X_lateBy wb3, Option.bind_some, na_lt]
    have e : (nI (rsS A j).1 ≤ nI (reC A j)) = ((rsS A j).1 ≤ reC A j) := na_le (by omega) (by omega)
    show (if nI (rsS A j).1 ≤ nI (reC A j) then _ else _) = _
    rw [rsS]
    simp only [e, na_lt, nI_1]
    by_cases e2 : (rsS A j).1 ≤ reC A j
    · simp only [e2, if_true]
    · simp only [e2, if_false]
      rfl
/-- the model rests ahead of wedding k -/
def rkJ (A : AM) (k i : Nat) : AM := if i ≤ k then weN A i else weN (reA (weN A k) 10) (i - k)
theorem reA_wait {m : Nat} : reA A m 0 8 = A 0 8 := by simp [reA, reJ]
theorem M_rest38 (w : WB A) {k : Nat} (hk : k ≤ A 0 8) : f_X7_rest_L38 (nI (A 0 8)) (nI k) 6000 (nI 0) (pm A M) = some (pm (rkJ A k (A 0 8)) M) := by
  have w3 := w.2.2.1
  have := lp (r := some (pm (rkJ A k (A 0 8)) M)) (fun f s i => f_X7_rest_L38 (nI (A 0 8)) (nI k) f i s) (A 0 8) (fun i => pm (rkJ A k i) M) (fun f => ?_) (fun f i hi => ?_) (A 0 8) 0 6000 (by omega) (by omega)
  · have e : rkJ A k 0 = A := by
      unfold rkJ
      rw [if_pos (by omega)]
      rfl
    rw [e] at this
    exact this
  · show f_X7_rest_L38 _ _ (f + 1) _ _ = _
    rw [f_X7_rest_L38, if_pos (nI_le (Nat.le_refl _) (by omega))]
  · show f_X7_rest_L38 _ _ (f + 1) _ _ = f_X7_rest_L38 _ _ f _ _
    have wk := WB_reA (WB_weN w k hk) (m := 10)
    have kw : reA (weN A k) 10 0 8 = A 0 8 - k := by rw [reA_wait, weN_wait]
    rw [f_X7_rest_L38, if_neg (nI_ge hi (by omega))]
    by_cases e : i = k
    · subst e
      have e1 : rkJ A i i = weN A i := by
        unfold rkJ
        rw [if_pos (Nat.le_refl _)]
      have e2 : rkJ A i (i + 1) = weA (reA (weN A i) 10) 0 := by
        unfold rkJ
        rw [if_neg (by omega), show i + 1 - i = 1 by omega]
        rfl
      rw [if_pos rfl, e1, show (10 : Int32) = nI 10 from rfl, M_restFor (WB_weN w i (by omega)) (by omega), Option.bind_some, Option.bind_some, show (0 : Int32) = nI 0 from rfl, M_wedOne wk (by rw [kw]; omega) (by omega), Option.bind_some, na_lt, nI_1, e2]
    · have hne : ¬ nI i = nI k := by rw [nI_eq (by omega) (by omega)]; exact e
      have hwb : WB (rkJ A k i) ∧ 1 ≤ rkJ A k i 0 8 := by
        unfold rkJ
        split
        · exact ⟨WB_weN w i (by omega), by rw [weN_wait]; omega⟩
        · exact ⟨WB_weN wk _ (by rw [kw]; omega), by rw [weN_wait, kw]; omega⟩
      have e2 : rkJ A k (i + 1) = weA (rkJ A k i) 0 := by
        unfold rkJ
        by_cases e3 : i ≤ k
        · rw [if_pos e3, if_pos (by omega)]
          rfl
        · rw [if_neg e3, if_neg (by omega), show i + 1 - k = (i - k) + 1 by omega]
          rfl
      rw [if_neg hne, Option.bind_some, show (0 : Int32) = nI 0 from rfl, M_wedOne hwb.1 hwb.2 (by omega), Option.bind_some, na_lt, nI_1, e2]
theorem rk_C (w : WB A) {k : Nat} (hk : k ≤ A 0 8) : WB (rkJ A k (A 0 8)) ∧ allL (rkJ A k (A 0 8)) = reC A k := by
  have wk := WB_reA (WB_weN w k hk) (m := 10)
  have kw : reA (weN A k) 10 0 8 = A 0 8 - k := by rw [reA_wait, weN_wait]
  unfold rkJ reC wal
  by_cases e : A 0 8 ≤ k
  · have : k = A 0 8 := by omega
    subst this
    rw [if_pos (Nat.le_refl _), kw, Nat.sub_self]
    refine ⟨WB_weN w _ (Nat.le_refl _), allL_cg (by simp [weN, reA, reJ]) (fun c => by simp [weN, reA, reJ])⟩
  · rw [if_neg e, kw]
    exact ⟨WB_weN wk _ (by rw [kw]; omega), rfl⟩
theorem M_rest (w : WB A) {W : Mem} (hK : KP A W) : ∃ W', f_X7_rest_L29 (nI (A 0 8)) 6000 (rsS A 0).2 (nI (rsS A 0).1) (nI 0) (pm A W) = some ((rsS A (A 0 8 + 1)).2, pm A W') ∧ KE W W' := by
  have w3 := w.2.2.1
  have := lpi (fun f (s : Int32 × Int32 × Mem) i => f_X7_rest_L29 (nI (A 0 8)) f s.2.1 s.1 i s.2.2) (A 0 8 + 1) (fun j s => ∃ W', s = (nI (rsS A j).1, (rsS A j).2, pm A W') ∧ KP A W' ∧ KE W W') (fun t => ∃ W', t = ((rsS A (A 0 8 + 1)).2, pm A W') ∧ KE W W') (fun f s hs => ?_) (fun f j s hj hs => ?_) (A 0 8 + 1) 0 6000 (nI (rsS A 0).1, (rsS A 0).2, pm A W) (by omega) (by omega) ⟨_, rfl, hK, KE.rf⟩
  · obtain ⟨t, g1, C', rfl, g2⟩ := this
    exact ⟨C', g1, g2⟩
  · obtain ⟨C, rfl, hk, he⟩ := hs
    refine ⟨_, ?_, C, rfl, he⟩
    show f_X7_rest_L29 _ (f + 1) _ _ _ _ = _
    dsimp only
    rw [f_X7_rest_L29, if_pos (nI_lt (by omega) (by omega))]
  · obtain ⟨C, rfl, hk, he⟩ := hs
    obtain ⟨rk1, rk2⟩ := rk_C w (by omega : j ≤ A 0 8)
    have l1 := reC_le w (by omega : j ≤ A 0 8)
    have l2 := rsS_le w j (by omega)
    obtain ⟨W', g1, g2, g3⟩ := ag_any (A' := rkJ A j (A 0 8)) hk
    refine ⟨(nI (rsS A (j + 1)).1, (rsS A (j + 1)).2, pm A W'), ⟨_, rfl, g2, he.trans g3⟩, ?_⟩
    show f_X7_rest_L29 _ (f + 1) _ _ _ _ = f_X7_rest_L29 _ f _ _ _ _
    dsimp only
    rw [f_X7_rest_L29, if_neg (nI_nlt (by omega) (by omega)), show (0 : Int32) = nI 0 from rfl, M_rest38 w (by omega), Option.bind_some, M_allLate rk1, rk2, Option.bind_some, g1, Option.bind_some]
    have e : (nI (rsS A j).1 ≤ nI (reC A j)) = ((rsS A j).1 ≤ reC A j) := na_le (by omega) (by omega)
    rw [rsS, na_least (by omega) (by omega)]
    simp only [e, na_lt, nI_1, Option.bind_some]
    by_cases e2 : (rsS A j).1 ≤ reC A j
    · simp only [e2, if_true, Nat.min_eq_left e2]
    · simp only [e2, if_false, Nat.min_eq_right (Nat.le_of_not_le e2)]
theorem op_rest (R : RR A m0 (px A h1) m3 m4 ks m13 (pm A M)) (m2 : Mem) : ∃ r m2' M', f_X6_rest m0 (px A h1) m2 = some (r, m2') ∧ f_X7_rest (pm A M) = some (r, M') ∧ RR A m0 (px A h1) m3 m4 ks m13 M' := by
  have wf := R.1
  have wb := wf.1
  obtain ⟨C', c1⟩ := X_rest (m0 := m0) (h1 := h1) (m2 := px (wal A) m2) wb
  obtain ⟨W, g1, g2, g3⟩ := ag_any (A' := wal A) (kp_tk (A := A) (M := M14 M))
  obtain ⟨W', d1, d2⟩ := M_rest wb g2
  refine ⟨(rsS A (A 0 8 + 1)).2, C', pm A W', ?_, ?_, R.kp (ke14.trans (ke_tk.trans (g3.trans d2)))⟩
  · unfold f_X6_rest
    rw [X_inMind wb, Option.bind_some, X_allLate (WB_wal wb), Option.bind_some]
    have : f_X6_rest_L13 m0 (px A h1) 6000 (nI (allL (wal A))) (-9) 0 (px (wal A) m2) = some ((rsS A (A 0 8 + 1)).2, C') := c1
    rw [this]
    rfl
  · unfold f_X7_rest
    rw [na_lt, M_t14, pm_0_9, na_lt, M_think, Option.bind_some, M_lateNow wb, Option.bind_some, na_lt, g1, Option.bind_some]
    have : f_X7_rest_L29 (nI (A 0 8)) 6000 (-9) (nI (allL (wal A))) 0 (pm A W) = some ((rsS A (A 0 8 + 1)).2, pm A W') := d1
    rw [this]
    rfl
/-- who could still be wed by v -/
def caN (A : AM) (f t v : Nat) : Nat → Int32
  | 0 => 0
  | j + 1 => if v < wal (adA A j f t) 5 (A 0 0) then caN A f t v j else caN A f t v j ||| (1 <<< (nI j &&& 31))
theorem adA_00 {k f t : Nat} : adA A k f t 0 0 = A 0 0 + 1 := by simp [adA, ua]
theorem X_can (w : WF A) (hn : A 0 0 < 7) {f t v : Nat} (hf : f ≤ 9) (ht : t ≤ 240) (hv : v ≤ 999) : ∃ C', f_X6_can_L64 (nI f) (nI t) (nI v) m0 (px A h1) 6000 (caN A f t v 0) (nI 0) m2 = some (caN A f t v 6, C') := by
  have := lpi (fun g (s : Int32 × Mem) i => f_X6_can_L64 (nI f) (nI t) (nI v) m0 (px A h1) g s.1 i s.2) 6 (fun j s => ∃ C, s = (caN A f t v j, C)) (fun r => ∃ C', r = (caN A f t v 6, C')) (fun g s hs => ?_) (fun g j s hj hs => ?_) 6 0 6000 (caN A f t v 0, m2) (by omega) (by omega) ⟨_, rfl⟩
  · obtain ⟨r, g1, C', rfl⟩ := this
    exact ⟨C', g1⟩
  · obtain ⟨C, rfl⟩ := hs
    refine ⟨_, ?_, C, rfl⟩
    show f_X6_can_L64 _ _ _ _ _ (g + 1) _ _ _ = _
    dsimp only
    rw [f_X6_can_L64, if_pos (by decide)]
  · obtain ⟨C, rfl⟩ := hs
    have wb2 := WB_wal (WF_adA w hn hj hf ht).1
    have b5 := (wb2.2.2.2.2.2.2.2 (A 0 0) hn).2.2.2.2.1
    refine ⟨(caN A f t v (j + 1), px (wal (adA A j f t)) C), ⟨_, rfl⟩, ?_⟩
    show f_X6_can_L64 _ _ _ _ _ (g + 1) _ _ _ = f_X6_can_L64 _ _ _ _ _ g _ _ _
    dsimp only
    have e : (nI v < nI (wal (adA A j f t) 5 (A 0 0))) = (v < wal (adA A j f t) 5 (A 0 0)) := na_ltI (by omega) (by omega)
    rw [f_X6_can_L64, if_neg (show ¬ (6 : Int32) ≤ nI j from nI_ge (b := 6) hj (by omega)), X_asNow, Option.bind_some, X_add w hn, Option.bind_some, X_wedAll (WF_adA w hn hj hf (by omega)).1, Option.bind_some, px_0_0, na_inb hn (by omega), na_ck, na_ix (by omega), px_5 hn, caN]
    simp only [e, na_lt, nI_1]
    by_cases e2 : v < wal (adA A j f t) 5 (A 0 0)
    · simp only [e2, if_true]
    · simp only [e2, if_false]
theorem M_can (w : WF A) (hn : A 0 0 < 7) {f t v : Nat} (hf : f ≤ 9) (ht : t ≤ 240) (hv : v ≤ 999) {W : Mem} (hK : KP A W) : ∃ W', f_X7_can_L73 (nI f) (nI t) (nI v) 6000 (caN A f t v 0) (nI 0) (pm A W) = some (caN A f t v 6, pm A W') ∧ KE W W' := by
  have := lpi (fun g (s : Int32 × Mem) i => f_X7_can_L73 (nI f) (nI t) (nI v) g s.1 i s.2) 6 (fun j s => ∃ W', s = (caN A f t v j, pm A W') ∧ KP A W' ∧ KE W W') (fun r => ∃ W', r = (caN A f t v 6, pm A W') ∧ KE W W') (fun g s hs => ?_) (fun g j s hj hs => ?_) 6 0 6000 (caN A f t v 0, pm A W) (by omega) (by omega) ⟨_, rfl, hK, KE.rf⟩
  · obtain ⟨r, g1, C', rfl, g2⟩ := this
    exact ⟨C', g1, g2⟩
  · obtain ⟨C, rfl, hk, he⟩ := hs
    refine ⟨_, ?_, C, rfl, he⟩
    show f_X7_can_L73 _ _ _ (g + 1) _ _ _ = _
    dsimp only
    rw [f_X7_can_L73, if_pos (by decide)]
  · obtain ⟨C, rfl, hk, he⟩ := hs
    have wb2 := WB_wal (WF_adA w hn hj hf ht).1
    have b5 := (wb2.2.2.2.2.2.2.2 (A 0 0) hn).2.2.2.2.1
    have n0 : wal (adA A j f t) 0 0 = A 0 0 + 1 := by unfold wal; rw [weN_00, adA_00]
    have e2 : ¬ (1 : Int32) = 0 := by decide
    obtain ⟨W', g1, g2, g3⟩ := ag_any (A' := wal (adA A j f t)) hk
    refine ⟨(caN A f t v (j + 1), pm A W'), ⟨_, rfl, g2, he.trans g3⟩, ?_⟩
    show f_X7_can_L73 _ _ _ (g + 1) _ _ _ = f_X7_can_L73 _ _ _ g _ _ _
    dsimp only
    have e : (nI v < nI (wal (adA A j f t) 5 (A 0 0))) = (v < wal (adA A j f t) 5 (A 0 0)) := na_ltI (by omega) (by omega)
    rw [f_X7_can_L73, if_neg (show ¬ (6 : Int32) ≤ nI j from nI_ge (b := 6) hj (by omega)), M_comes w hn hj ht, Option.bind_some, if_neg e2, M_wedAll (WF_adA w hn hj hf (by omega)).1, Option.bind_some, pm_0_0, n0, show nI (A 0 0 + 1) - 1 = nI (A 0 0) from nI_pred _, na_inb hn (by omega), na_ck, na_ix (by omega), pm_6 hn, caN]
    simp only [e, na_lt, nI_1, Int32.or_zero]
    by_cases e2 : v < wal (adA A j f t) 5 (A 0 0)
    · simp only [e2, if_true, Option.bind_some, g1]
    · simp only [e2, if_false, Option.bind_some, g1]
theorem M_can7 (hn : A 0 0 = 7) {f t v : Nat} {W : Mem} (hK : KP A W) : ∃ W', f_X7_can_L73 (nI f) (nI t) (nI v) 6000 0 (nI 0) (pm A W) = some (0, pm A W') ∧ KE W W' := by
  have := lpi (fun g (s : Int32 × Mem) i => f_X7_can_L73 (nI f) (nI t) (nI v) g s.1 i s.2) 6 (fun j s => ∃ W', s = (0, pm A W') ∧ KP A W' ∧ KE W W') (fun r => ∃ W', r = (0, pm A W') ∧ KE W W') (fun g s hs => ?_) (fun g j s hj hs => ?_) 6 0 6000 (0, pm A W) (by omega) (by omega) ⟨_, rfl, hK, KE.rf⟩
  · obtain ⟨r, g1, C', rfl, g2⟩ := this
    exact ⟨C', g1, g2⟩
  · obtain ⟨C, rfl, hk, he⟩ := hs
    refine ⟨_, ?_, C, rfl, he⟩
    show f_X7_can_L73 _ _ _ (g + 1) _ _ _ = _
    dsimp only
    rw [f_X7_can_L73, if_pos (by decide)]
  · obtain ⟨C, rfl, hk, he⟩ := hs
    obtain ⟨W', g1, g2, g3⟩ := ag_any (A' := A) hk
    refine ⟨(0, pm A W'), ⟨_, rfl, g2, he.trans g3⟩, ?_⟩
    show f_X7_can_L73 _ _ _ (g + 1) _ _ _ = f_X7_can_L73 _ _ _ g _ _ _
    dsimp only
    have c0 : f_X7_coupleComes (pm A C) (nI j) (nI f) (nI t) = some (0, pm A C) := by
      unfold f_X7_coupleComes
      rw [pm_0_0, hn, if_pos (show (7 : Int32) ≤ nI 7 from by decide)]
      have : (if (6 : Int32) ≤ nI j then (0 : Int32) else if (240 : Int32) < nI t then 0 else 0) = 0 := by (repeat' split) <;> rfl
      rw [this, na_lt, if_pos rfl]
      rfl
    rw [f_X7_can_L73, if_neg (show ¬ (6 : Int32) ≤ nI j from nI_ge (b := 6) hj (by omega)), c0, Option.bind_some, if_pos rfl, Option.bind_some, g1, Option.bind_some, na_lt, nI_1]
theorem op_can (R : RR A m0 (px A h1) m3 m4 ks m13 (pm A M)) (m2 : Mem) (a b c : Int32) : ∃ r m0' m2' M', f_X6_can m0 (px A h1) m2 a b c = some (r, m0', m2') ∧ f_X7_can (pm A M) a b c = some (r, M') ∧ RR A m0' (px A h1) m3 m4 ks m13 M' := by
  have wf := R.1
  have wb := wf.1
  have w1 := wb.1
  have n4 : ¬ (0 : Int32) ≤ -4 := by decide
  have n6 : ¬ (0 : Int32) ≤ -6 := by decide
  have e0 : (0 : Int32) ≤ 0 := by decide
  have r4 : ∃ r m0' m2' M', some ((-4 : Int32), rf m0 2 4, m2) = some (r, m0', m2') ∧ some ((-4 : Int32), pm A (rf (M14 M) 10 4)) = some (r, M') ∧ RR A m0' (px A h1) m3 m4 ks m13 M' := ⟨_, _, _, _, rfl, rfl, R.rk ke14 (by omega)⟩
  have r6 : ∃ r m0' m2' M', some ((-6 : Int32), rf m0 2 6, m2) = some (r, m0', m2') ∧ some ((-6 : Int32), pm A (rf (M14 M) 10 6)) = some (r, M') ∧ RR A m0' (px A h1) m3 m4 ks m13 M' := ⟨_, _, _, _, rfl, rfl, R.rk ke14 (by omega)⟩
  by_cases ha0 : a < 0
  · simp only [f_X6_can, f_X6_can_J12, ha0, if_true, X_ref4, Option.bind_some, f_X7_can, na_lt, M_t14, n4, if_false, M_ref4]
    exact r4
  by_cases hb0 : b < 0
  · simp only [f_X6_can, f_X6_can_J12, ha0, hb0, if_true, if_false, X_ref4, Option.bind_some, f_X7_can, na_lt, M_t14, n4, M_ref4]
    exact r4
  by_cases hc0 : (0 : Int32) ≤ c
  · by_cases ha9 : (9 : Int32) < a
    · simp only [f_X6_can, f_X6_can_J39, ha0, hb0, hc0, ha9, if_true, if_false, X_ref6, Option.bind_some, f_X7_can, na_lt, M_t14, n6, M_ref6]
      exact r6
    by_cases hb9 : (240 : Int32) < b
    · simp only [f_X6_can, f_X6_can_J39, ha0, hb0, hc0, ha9, hb9, if_true, if_false, X_ref6, Option.bind_some, f_X7_can, na_lt, M_t14, n6, M_ref6]
      exact r6
    by_cases hc9 : c ≤ 999
    · have ha8 : a ≤ 9 := by
        rw [fa_lt] at ha9
        rw [fa_le]
        omega
      have hb8 : b ≤ 240 := by
        rw [fa_lt] at hb9
        rw [fa_le]
        omega
      obtain ⟨f, hf, rfl⟩ := nI_of2 (n := 9) (M := 9) rfl ha0 ha8
      obtain ⟨t, ht, rfl⟩ := nI_of2 (n := 240) (M := 240) rfl hb0 hb8
      obtain ⟨v, hv, rfl⟩ := nI_of2 (n := 999) (M := 999) rfl (fun z => by rw [fa_lt] at z; rw [fa_le] at hc0; omega) hc9
      by_cases h7 : A 0 0 = 7
      · obtain ⟨W', d1, d2⟩ := M_can7 (f := f) (t := t) (v := v) h7 (kp_tk (A := A) (M := M14 M))
        have d1' : f_X7_can_L73 (nI f) (nI t) (nI v) 6000 0 0 (pm A (tk A (M14 M))) = some (0, pm A W') := d1
        have e2 : ¬ (1 : Int32) = 0 := by decide
        exact ⟨0, m0, m2, pm A W', by simp only [f_X6_can, ha0, hb0, hc0, ha9, hb9, hc9, if_true, if_false, X_full7 h7, Option.bind_some, e2], by simp only [f_X7_can, na_lt, M_t14, ha0, hb0, hc0, ha9, hb9, hc9, if_true, if_false, e0, M_think, Option.bind_some, d1'], R.kp (ke14.trans (ke_tk.trans d2))⟩
      · have h7' : A 0 0 < 7 := by omega
        obtain ⟨C', c1⟩ := X_can (m0 := m0) (h1 := h1) (m2 := m2) wf h7' hf ht hv
        obtain ⟨W', d1, d2⟩ := M_can wf h7' hf ht hv (kp_tk (A := A) (M := M14 M))
        have c1' : f_X6_can_L64 (nI f) (nI t) (nI v) m0 (px A h1) 6000 0 0 m2 = some (caN A f t v 6, C') := c1
        have d1' : f_X7_can_L73 (nI f) (nI t) (nI v) 6000 0 0 (pm A (tk A (M14 M))) = some (caN A f t v 6, pm A W') := d1
        exact ⟨caN A f t v 6, m0, C', pm A W', by simp only [f_X6_can, ha0, hb0, hc0, ha9, hb9, hc9, if_true, if_false, X_full wb h7', Option.bind_some, c1'], by simp only [f_X7_can, na_lt, M_t14, ha0, hb0, hc0, ha9, hb9, hc9, if_true, if_false, e0, M_think, Option.bind_some, d1'], R.kp (ke14.trans (ke_tk.trans d2))⟩
    · simp only [f_X6_can, f_X6_can_J39, ha0, hb0, hc0, ha9, hb9, hc9, if_true, if_false, X_ref6, Option.bind_some, f_X7_can, na_lt, M_t14, n6, M_ref6]
      exact r6
  · simp only [f_X6_can, f_X6_can_J12, ha0, hb0, hc0, if_false, X_ref4, Option.bind_some, f_X7_can, na_lt, M_t14, n4, M_ref4]
    exact r4
/-- the order turned round -/
def rvJ (A : AM) (j : Nat) : AM := fun p q => if p = 7 ∧ q < A 0 8 ∧ (q < j ∨ A 0 8 ≤ q + j) then A 7 (A 0 8 - 1 - q) else A p q
def rvX (A : AM) (j : Nat) : AM := fun p q => if p = 7 ∧ q < j then A 7 (A 0 8 - 1 - q) else A p q
theorem X_turned (w : WB A) {t : Mem} : f_X6_turned_L7 (px A h1) 6000 (nI 0) (px A t) = some (px (rvX A (A 0 8)) t) := by
  have w3 := w.2.2.1
  have := lp (r := some (px (rvX A (A 0 8)) t)) (fun f s i => f_X6_turned_L7 (px A h1) f i s) (A 0 8) (fun j => px (rvX A j) t) (fun f => ?_) (fun f j hj => ?_) (A 0 8) 0 6000 (by omega) (by omega)
  · have e : rvX A 0 = A := by
      funext p q
      simp only [rvX]
      rw [if_neg (by omega)]
    rw [e] at this
    exact this
  · show f_X6_turned_L7 _ (f + 1) _ _ = _
    rw [f_X6_turned_L7, px_0_8, if_pos (nI_le (Nat.le_refl _) (by omega))]
  · show f_X6_turned_L7 _ (f + 1) _ _ = f_X6_turned_L7 _ f _ _
    rw [f_X6_turned_L7, px_0_8, if_neg (nI_ge hj (by omega)), show (1 : Int32) = nI 1 from rfl, pk_sub (by omega), pk_sub (by omega), na_inb (by omega) (by omega), na_ck, na_inb (by omega) (by omega), na_ck, na_ix (by omega), na_ix (by omega), px_7 (by omega), px_w7 (by omega), na_lt, na_lt, nI_add]
    congr 2
    funext p q
    simp only [ua, rvX]
    by_cases e : p = 7 ∧ q = j
    · obtain ⟨rfl, rfl⟩ := e
      rw [if_pos ⟨rfl, rfl⟩, if_pos ⟨rfl, by omega⟩]
    · rw [if_neg e]
      by_cases e2 : p = 7 ∧ q < j
      · rw [if_pos e2, if_pos (by omega)]
      · rw [if_neg e2, if_neg (by omega)]
theorem M_turned (w : WB A) : f_X7_turned_L11 6000 (nI 0) (pm A M) = some (pm (rvX A (A 0 8)) M) := by
  have w3 := w.2.2.1
  have eN : rvJ A (A 0 8 / 2) = rvX A (A 0 8) := by
    funext p q
    simp only [rvJ, rvX]
    by_cases e : p = 7 ∧ q < A 0 8
    · rw [if_pos e]
      by_cases e2 : q < A 0 8 / 2 ∨ A 0 8 ≤ q + A 0 8 / 2
      · rw [if_pos ⟨e.1, e.2, e2⟩]
      · rw [if_neg (fun z => e2 z.2.2), e.1, show A 0 8 - 1 - q = q by omega]
    · rw [if_neg e, if_neg (fun z => e ⟨z.1, z.2.1⟩)]
  have := lp (r := some (pm (rvX A (A 0 8)) M)) (fun f s i => f_X7_turned_L11 f i s) (A 0 8 / 2) (fun j => pm (rvJ A j) M) (fun f => ?_) (fun f j hj => ?_) (A 0 8 / 2) 0 6000 (by omega) (by omega)
  · have e : rvJ A 0 = A := by
      funext p q
      simp only [rvJ]
      rw [if_neg (by omega)]
    rw [e] at this
    exact this
  · show f_X7_turned_L11 (f + 1) _ _ = _
    have e8 : rvJ A (A 0 8 / 2) 0 8 = A 0 8 := by simp [rvJ]
    rw [f_X7_turned_L11, pm_0_9, e8, show (2 : Int32) = nI 2 from rfl, pk_div (by omega) (by omega) (by omega), if_pos (nI_le (Nat.le_refl _) (by omega)), eN]
  · show f_X7_turned_L11 (f + 1) _ _ = f_X7_turned_L11 f _ _
    have e8 : rvJ A j 0 8 = A 0 8 := by simp [rvJ]
    have ej : rvJ A j 7 j = A 7 j := by
      simp only [rvJ]
      rw [if_neg (by omega)]
    have ew : rvJ A j 7 (A 0 8 - 1 - j) = A 7 (A 0 8 - 1 - j) := by
      simp only [rvJ]
      rw [if_neg (by omega)]
    rw [f_X7_turned_L11, pm_0_9, e8, show (2 : Int32) = nI 2 from rfl, pk_div (by omega) (by omega) (by omega), if_neg (nI_ge hj (by omega))]
    have q1 : nI (A 0 8) - 1 - nI j = nI (A 0 8 - 1 - j) := by rw [show (1 : Int32) = nI 1 from rfl, pk_sub (by omega), pk_sub (by omega)]
    have i1 : inb (nI j) 7 = true := na_inb (c := j) (n := 7) (by omega) (by omega)
    have i2 : inb (nI (A 0 8 - 1 - j)) 7 = true := na_inb (c := A 0 8 - 1 - j) (n := 7) (by omega) (by omega)
    have x1 : ix (nI j) = j := na_ix (by omega)
    have x2 : ix (nI (A 0 8 - 1 - j)) = A 0 8 - 1 - j := na_ix (by omega)
    have r1 : pm (rvJ A j) M 8 j = nI (A 7 j) := by rw [pm_8 (by omega), ej]
    have r2 : pm (rvJ A j) M 8 (A 0 8 - 1 - j) = nI (A 7 (A 0 8 - 1 - j)) := by rw [pm_8 (by omega), ew]
    have s1 : xs (pm (rvJ A j) M) 8 j (nI (A 7 (A 0 8 - 1 - j))) = pm (ua (rvJ A j) 7 j (A 7 (A 0 8 - 1 - j))) M := pm_w8 (by omega)
    have e9 : ua (rvJ A j) 7 j (A 7 (A 0 8 - 1 - j)) 0 8 = A 0 8 := by rw [ua_n (by omega), e8]
    have s2 : xs (pm (ua (rvJ A j) 7 j (A 7 (A 0 8 - 1 - j))) M) 8 (A 0 8 - 1 - j) (nI (A 7 j)) = pm (ua (ua (rvJ A j) 7 j (A 7 (A 0 8 - 1 - j))) 7 (A 0 8 - 1 - j) (A 7 j)) M := pm_w8 (by omega)
    simp only [q1, i1, i2, x1, x2, na_ck, na_lt, r1, r2, s1, pm_0_9, e9, s2]
    rw [nI_1]
    have : ua (ua (rvJ A j) 7 j (A 7 (A 0 8 - 1 - j))) 7 (A 0 8 - 1 - j) (A 7 j) = rvJ A (j + 1) := by
      funext p q
      simp only [ua, rvJ]
      by_cases p7 : p = 7
      · subst p7
        by_cases z1 : q = A 0 8 - 1 - j
        · subst z1
          rw [if_pos ⟨rfl, rfl⟩, if_pos ⟨rfl, by omega, by omega⟩, show A 0 8 - 1 - (A 0 8 - 1 - j) = j by omega]
        · rw [if_neg (fun z => z1 z.2)]
          by_cases z2 : q = j
          · subst z2
            rw [if_pos ⟨rfl, rfl⟩, if_pos ⟨rfl, by omega, by omega⟩]
          · rw [if_neg (fun z => z2 z.2)]
            by_cases z3 : q < A 0 8 ∧ (q < j ∨ A 0 8 ≤ q + j)
            · rw [if_pos ⟨rfl, z3⟩, if_pos ⟨rfl, z3.1, by omega⟩]
            · rw [if_neg (fun z => z3 z.2), if_neg (fun z => z3 ⟨z.2.1, by omega⟩)]
      · simp only [p7, false_and, if_false]
    rw [this]
theorem WB_rvX (w : WB A) : WB (rvX A (A 0 8)) := by
  obtain ⟨w1, w2, w3, ⟨w4, w5⟩, w6, w7, ⟨w8, w9⟩, w10⟩ := w
  have o : ∀ p q, p ≠ 7 → rvX A (A 0 8) p q = A p q := fun p q hp => if_neg (fun z => hp z.1)
  refine ⟨by rw [o _ _ (by omega)]; exact w1, by rw [o _ _ (by omega)]; exact w2, by rw [o _ _ (by omega)]; exact w3, ⟨by rw [o _ _ (by omega)]; exact w4, by rw [o _ _ (by omega)]; exact w5⟩, by rw [o _ _ (by omega)]; exact w6, by rw [o _ _ (by omega)]; exact w7, ⟨by rw [o _ _ (by omega)]; exact w8, by rw [o _ _ (by omega)]; exact w9⟩, fun k hk => ?_⟩
  obtain ⟨c1, c2, c3, c4, c5, c6, c7⟩ := w10 k hk
  refine ⟨by rw [o _ _ (by omega)]; exact c1, by rw [o _ _ (by omega)]; exact c2, by rw [o _ _ (by omega)]; exact c3, by rw [o _ _ (by omega)]; exact c4, by rw [o _ _ (by omega)]; exact c5, by rw [o _ _ (by omega)]; exact c6, ?_⟩
  have := (w10 (A 0 8 - 1 - k) (by omega)).2.2.2.2.2.2
  show (if _ then _ else _) < 7
  split
  · exact this
  · exact c7
theorem op_turned (R : RR A m0 (px A h1) m3 m4 ks m13 (pm A M)) (m2 : Mem) : ∃ r m2' M', f_X6_turned m0 (px A h1) m2 = some (r, m2') ∧ f_X7_turned (pm A M) = some (r, M') ∧ RR A m0 (px A h1) m3 m4 ks m13 M' := by
  have wf := R.1
  have wb := wf.1
  obtain ⟨W', g1, g2, g3⟩ := ag_any (A' := wal (rvX A (A 0 8))) (kp_tk (A := A) (M := M14 M))
  refine ⟨nI (allL (wal (rvX A (A 0 8)))), px (wal (rvX A (A 0 8))) m2, pm A W', ?_, ?_, R.kp (ke14.trans (ke_tk.trans g3))⟩
  · unfold f_X6_turned
    rw [X_asNow, Option.bind_some, show (0 : Int32) = nI 0 from rfl, X_turned wb, Option.bind_some, X_lateBy (WB_rvX wb), Option.bind_some]
  · unfold f_X7_turned
    rw [na_lt, M_t14, M_think, Option.bind_some, show (0 : Int32) = nI 0 from rfl, M_turned wb, Option.bind_some, M_lateNow (WB_rvX wb), Option.bind_some, na_lt, g1, Option.bind_some]
end OPS7

