/-! CALLS that look in mind -/
section OPS2
variable {A : AM} {m0 h1 h m3 m4 m13 M : Mem} {ks : List Mem}
theorem rdy_le (w : WB A) {c : Nat} (hc : c < 7) : rdy A c ≤ 516 := by
  obtain ⟨c1, c2, c3, -⟩ := w.2.2.2.2.2.2.2 c hc
  have : rdy A c ≤ A 3 c + 16 := ready_le c2
  omega
def spN (A : AM) : Nat → Int32
  | 0 => nI 0
  | j + 1 => imax (spN A j) (nI (A 4 j) - nI (rdy A j))
theorem X_span_L (w : WB A) : f_X6_span_L9 (px A h) 6000 (nI 0) (nI 0) = some (spN A (A 0 0)) := by
  have w1 := w.1
  refine lp (fun f s i => f_X6_span_L9 (px A h) f s i) (A 0 0) (fun j => spN A j) (fun f => ?_) (fun f j hj => ?_) (A 0 0) 0 6000 (by omega) (by omega)
  · show f_X6_span_L9 _ (f + 1) _ _ = _
    rw [f_X6_span_L9]
    simp (disch := omega) only [px_0_0, na_le, Nat.le_refl, if_true]
  · show f_X6_span_L9 _ (f + 1) _ _ = f_X6_span_L9 _ f _ _
    rw [f_X6_span_L9]
    have hj2 : ¬ (A 0 0) ≤ j := by omega
    simp (disch := omega) only [px_0_0, hj2, if_false, na_le, na_lt, nI_1, f_X2_waitOf, na_inb, na_ck, na_ix, px_4, X_readyOf w (by omega : j < 7), Option.bind_some]
    rfl
theorem M_span_L (w : WB A) : f_X7_span_L17 (pm A M) 6000 (nI 0) (nI 0) = some (spN A (A 0 0)) := by
  have w1 := w.1
  refine lp (fun f s i => f_X7_span_L17 (pm A M) f s i) (A 0 0) (fun j => spN A j) (fun f => ?_) (fun f j hj => ?_) (A 0 0) 0 6000 (by omega) (by omega)
  · show f_X7_span_L17 _ (f + 1) _ _ = _
    rw [f_X7_span_L17]
    simp (disch := omega) only [pm_0_0, na_le, Nat.le_refl, if_true]
  · show f_X7_span_L17 _ (f + 1) _ _ = f_X7_span_L17 _ f _ _
    rw [f_X7_span_L17]
    have hj2 : ¬ (A 0 0) ≤ j := by omega
    simp (disch := omega) only [pm_0_0, hj2, if_false, na_le, na_lt, nI_1, na_inb, na_ck, na_ix, pm_5, M_readyOf w (by omega : j < 7), Option.bind_some, na_mostI]
    rfl
def erN (A : AM) : Nat → Int32
  | 0 => nI 0
  | j + 1 => if A 3 j ≤ A 4 j then erN A j else erN A j ||| (1 <<< (nI j &&& 31))
theorem X_early_L (w : WB A) : f_X6_early_L9 (px A h) 6000 (nI 0) (nI 0) = some (erN A (A 0 0)) := by
  have w1 := w.1
  refine lp (fun f s i => f_X6_early_L9 (px A h) f s i) (A 0 0) (fun j => erN A j) (fun f => ?_) (fun f j hj => ?_) (A 0 0) 0 6000 (by omega) (by omega)
  · show f_X6_early_L9 _ (f + 1) _ _ = _
    rw [f_X6_early_L9]
    simp (disch := omega) only [px_0_0, na_le, Nat.le_refl, if_true]
  · show f_X6_early_L9 _ (f + 1) _ _ = f_X6_early_L9 _ f _ _
    rw [f_X6_early_L9]
    have hj2 : ¬ (A 0 0) ≤ j := by omega
    obtain ⟨-, -, c3, c4, -⟩ := w.2.2.2.2.2.2.2 j (by omega)
    simp (disch := omega) only [px_0_0, hj2, if_false, na_le, na_lt, nI_1, na_inb, na_ck, na_ix, px_3, px_4]
    rw [erN]
    by_cases e : A 3 j ≤ A 4 j
    · simp only [e, if_true]
    · simp only [e, if_false]
theorem M_early_L (w : WB A) : f_X7_early_L17 (pm A M) 6000 (nI 0) (nI 0) = some (erN A (A 0 0)) := by
  have w1 := w.1
  refine lp (fun f s i => f_X7_early_L17 (pm A M) f s i) (A 0 0) (fun j => erN A j) (fun f => ?_) (fun f j hj => ?_) (A 0 0) 0 6000 (by omega) (by omega)
  · show f_X7_early_L17 _ (f + 1) _ _ = _
    rw [f_X7_early_L17]
    simp (disch := omega) only [pm_0_0, na_le, Nat.le_refl, if_true]
  · show f_X7_early_L17 _ (f + 1) _ _ = f_X7_early_L17 _ f _ _
    rw [f_X7_early_L17]
    have hj2 : ¬ (A 0 0) ≤ j := by omega
    obtain ⟨-, -, c3, c4, -⟩ := w.2.2.2.2.2.2.2 j (by omega)
    simp (disch := omega) only [pm_0_0, hj2, if_false, na_le, na_lt, nI_1, na_inb, na_ck, na_ix, pm_3, pm_5, Int32.or_zero]
    rw [erN]
    by_cases e : A 3 j ≤ A 4 j
    · simp only [e, if_true]
    · simp only [e, if_false]
theorem lat_le (w : WB A) {c : Nat} (hc : c < 7) : lat A c ≤ 2000 := by
  obtain ⟨-, -, c3, c4, -⟩ := w.2.2.2.2.2.2.2 c hc
  show A 4 c - A 3 c ≤ 2000
  omega
theorem X_worst_L (w : WB A) : f_X6_worst_L13 (px A h) 6000 (nI 0) (-9) (nI 0) = some (bst (lat A) (A 0 0)).2 := by
  have w1 := w.1
  refine lp (fun f (s : Int32 × Int32) i => f_X6_worst_L13 (px A h) f s.1 s.2 i) (A 0 0) (fun j => (nI (bst (lat A) j).1, (bst (lat A) j).2)) (fun f => ?_) (fun f j hj => ?_) (A 0 0) 0 6000 (by omega) (by omega)
  · show f_X6_worst_L13 _ (f + 1) _ _ _ = _
    rw [f_X6_worst_L13]
    simp (disch := omega) only [px_0_0, na_le, Nat.le_refl, if_true]
  · show f_X6_worst_L13 _ (f + 1) _ _ _ = f_X6_worst_L13 _ f _ _ _
    rw [f_X6_worst_L13]
    have hj2 : ¬ (A 0 0) ≤ j := by omega
    have h1 := lat_le w (by omega : j < 7)
    have h2 := bst_le (f := lat A) (b := 2000) j (fun k hk => lat_le w (by omega))
    have h3 : lat A j < 2147483648 := by omega
    simp (disch := omega) only [px_0_0, hj2, if_false, na_le, na_lt, nI_1, Option.bind_some, X_lateOf w (by omega : j < 7)]
    rw [bst]
    by_cases e : lat A j ≤ (bst (lat A) j).1
    · simp only [e, if_true]
    · simp only [e, if_false]
theorem M_worst_L (w : WB A) : f_X7_worst_L20 (pm A M) 6000 (-9) (nI 0) (nI 0) = some (bst (lat A) (A 0 0)).2 := by
  have w1 := w.1
  refine lp (fun f (s : Int32 × Int32) i => f_X7_worst_L20 (pm A M) f s.2 s.1 i) (A 0 0) (fun j => (nI (bst (lat A) j).1, (bst (lat A) j).2)) (fun f => ?_) (fun f j hj => ?_) (A 0 0) 0 6000 (by omega) (by omega)
  · show f_X7_worst_L20 _ (f + 1) _ _ _ = _
    rw [f_X7_worst_L20]
    simp (disch := omega) only [pm_0_0, na_le, Nat.le_refl, if_true]
  · show f_X7_worst_L20 _ (f + 1) _ _ _ = f_X7_worst_L20 _ f _ _ _
    rw [f_X7_worst_L20]
    have hj2 : ¬ (A 0 0) ≤ j := by omega
    have h1 := lat_le w (by omega : j < 7)
    have h2 := bst_le (f := lat A) (b := 2000) j (fun k hk => lat_le w (by omega))
    have h3 : lat A j < 2147483648 := by omega
    simp (disch := omega) only [pm_0_0, hj2, if_false, na_le, na_lt, nI_1, Option.bind_some, M_lateOf w (by omega : j < 7)]
    rw [bst]
    have h4 : (nI (lat A j) ≤ nI (bst (lat A) j).1) = (lat A j ≤ (bst (lat A) j).1) := na_le h3 (by omega)
    have h5 : f_X7_most (nI (bst (lat A) j).1) (nI (lat A j)) = some (nI (max (bst (lat A) j).1 (lat A j))) := na_most (by omega) h3
    simp only [h4, h5, Option.bind_some]
    by_cases e : lat A j ≤ (bst (lat A) j).1
    · simp only [e, if_true, Nat.max_eq_left e]
    · simp only [e, if_false, Nat.max_eq_right (Nat.le_of_not_le e)]
/-- the first minute with most inside, and how many -/
def crN (A : AM) : Nat → Nat × Nat
  | 0 => (0, 0)
  | j + 1 => if gat A j ≤ (crN A j).1 then crN A j else (gat A j, j)
theorem gatl (w : WB A) (t : Nat) : gat A t ≤ 182 := by
  have w1 := w.1
  have := gat_le w t (A 0 0) (Nat.le_refl _)
  unfold gat
  omega
theorem crN_le (w : WB A) : ∀ j, (crN A j).1 ≤ 182
  | 0 => Nat.zero_le _
  | j + 1 => by
    rw [crN]
    split
    · exact crN_le w j
    · exact gatl w j
theorem X_crowded_L (w : WB A) : f_X6_crowded_L12 (px A h) 6000 (nI 0) (nI 0) (nI 0) = some (nI (crN A 1000).2) := by
  refine lp (fun f (s : Int32 × Int32) i => f_X6_crowded_L12 (px A h) f s.1 s.2 i) 1000 (fun j => (nI (crN A j).1, nI (crN A j).2)) (fun f => ?_) (fun f j hj => ?_) 1000 0 6000 (by omega) (by omega)
  · show f_X6_crowded_L12 _ (f + 1) _ _ _ = _
    rw [f_X6_crowded_L12, if_pos (by decide)]
  · show f_X6_crowded_L12 _ (f + 1) _ _ _ = f_X6_crowded_L12 _ f _ _ _
    rw [f_X6_crowded_L12]
    have hj2 : ¬ 999 < j := by omega
    have h1 := gatl w j
    have h2 := crN_le w j
    rw [show (999 : Int32) = nI 999 from rfl]
    simp (disch := omega) only [na_ltI, hj2, if_false, na_le, na_lt, nI_1, Option.bind_some, X_guestsAt w (by omega : j ≤ 999)]
    rw [crN]
    by_cases e : gat A j ≤ (crN A j).1
    · simp only [e, if_true]
    · simp only [e, if_false]
theorem M_crowded_L (w : WB A) : f_X7_crowded_L19 (pm A M) 6000 (nI 0) (nI 0) (nI 0) = some (nI (crN A 1000).2) := by
  refine lp (fun f (s : Int32 × Int32) i => f_X7_crowded_L19 (pm A M) f s.2 s.1 i) 1000 (fun j => (nI (crN A j).1, nI (crN A j).2)) (fun f => ?_) (fun f j hj => ?_) 1000 0 6000 (by omega) (by omega)
  · show f_X7_crowded_L19 _ (f + 1) _ _ _ = _
    rw [f_X7_crowded_L19, if_pos (by decide)]
  · show f_X7_crowded_L19 _ (f + 1) _ _ _ = f_X7_crowded_L19 _ f _ _ _
    rw [f_X7_crowded_L19]
    have hj2 : ¬ 999 < j := by omega
    have h1 := gatl w j
    have h2 := crN_le w j
    rw [show (999 : Int32) = nI 999 from rfl]
    simp (disch := omega) only [na_ltI, hj2, if_false, na_le, na_lt, nI_1, Option.bind_some, M_insideAt w (by omega : j ≤ 999), na_most]
    rw [crN]
    by_cases e : gat A j ≤ (crN A j).1
    · simp only [e, if_true, Nat.max_eq_left e]
    · simp only [e, if_false, Nat.max_eq_right (Nat.le_of_not_le e)]
abbrev lsA (A : AM) : Nat := mxN (fun c => A 5 c) (A 0 0)
theorem lsA_le (w : WB A) : lsA A ≤ 999 := by
  have w1 := w.1
  exact mxN_le _ (fun k hk => (w.2.2.2.2.2.2.2 k (by omega)).2.2.2.2.1)
def idN (A : AM) : Nat → Nat
  | 0 => 0
  | j + 1 => if gat A j = 0 then idN A j + 1 else idN A j
theorem X_idle_L (w : WB A) : f_X6_idle_L15 (px A h) (nI (lsA A)) 6000 (nI 0) (nI 0) = some (nI (idN A (lsA A))) := by
  have hb : lsA A ≤ 999 := lsA_le w
  generalize lsA A = L at hb ⊢
  refine lp (fun f s i => f_X6_idle_L15 (px A h) (nI L) f s i) L (fun j => nI (idN A j)) (fun f => ?_) (fun f j hj => ?_) L 0 6000 (by omega) (by omega)
  · show f_X6_idle_L15 _ _ (f + 1) _ _ = _
    rw [f_X6_idle_L15, if_pos (nI_le (Nat.le_refl _) (by omega))]
  · show f_X6_idle_L15 _ _ (f + 1) _ _ = f_X6_idle_L15 _ _ f _ _
    rw [f_X6_idle_L15, if_neg (nI_ge hj (by omega)), X_guestsAt w (by omega), Option.bind_some, idN]
    have h1 := gatl w j
    have e0 : (nI (gat A j) = 0) = (gat A j = 0) := by rw [show (0 : Int32) = nI 0 from rfl]; exact na_eq (by omega) (by omega)
    simp only [e0, na_lt, nI_1]
    by_cases e : gat A j = 0
    · simp only [e, if_true]
    · simp only [e, if_false]
theorem M_idle_L (w : WB A) : f_X7_idle_L22 (pm A M) (nI (lsA A)) 6000 (nI 0) (nI 0) = some (nI (idN A (lsA A))) := by
  have hb : lsA A ≤ 999 := lsA_le w
  generalize lsA A = L at hb ⊢
  refine lp (fun f s i => f_X7_idle_L22 (pm A M) (nI L) f s i) L (fun j => nI (idN A j)) (fun f => ?_) (fun f j hj => ?_) L 0 6000 (by omega) (by omega)
  · show f_X7_idle_L22 _ _ (f + 1) _ _ = _
    rw [f_X7_idle_L22, if_pos (nI_le (Nat.le_refl _) (by omega))]
  · show f_X7_idle_L22 _ _ (f + 1) _ _ = f_X7_idle_L22 _ _ f _ _
    rw [f_X7_idle_L22, if_neg (nI_ge hj (by omega)), M_insideAt w (by omega), Option.bind_some, idN]
    have h1 := gatl w j
    have e0 : (nI (gat A j) = 0) = (gat A j = 0) := by rw [show (0 : Int32) = nI 0 from rfl]; exact na_eq (by omega) (by omega)
    have ez : ∀ x : Nat, nI x + 0 = nI x := fun x => by rw [show (0 : Int32) = nI 0 from rfl, nI_add, Nat.add_zero]
    simp only [e0, na_lt, nI_1, ez]
    by_cases e : gat A j = 0
    · simp only [e, if_true]
    · simp only [e, if_false]

theorem op_span (R : RR A m0 (px A h1) m3 m4 ks m13 (pm A M)) (m2 : Mem) : ∃ r m2' M', f_X6_span m0 (px A h1) m2 = some (r, m2') ∧ f_X7_span (pm A M) = some (r, M') ∧ RR A m0 (px A h1) m3 m4 ks m13 M' := by
  have wb := R.1.1
  have wb2 := WB_wal wb
  refine ⟨spN (wal A) ((wal A) 0 0), px (wal A) m2, pm A (Mat A M), ?_, ?_, R.kp ke_at⟩
  · unfold f_X6_span
    rw [X_inMind wb]
    simp only [Option.bind_some]
    rw [show (0 : Int32) = nI 0 from rfl, X_span_L wb2]
    rfl
  · unfold f_X7_span
    rw [na_lt, M_t14, M_think]
    simp only [Option.bind_some]
    rw [M_wedAll wb]
    simp only [Option.bind_some]
    rw [show (0 : Int32) = nI 0 from rfl, M_span_L wb2]
    simp only [Option.bind_some]
    rw [M_ag]
    rfl
theorem op_early (R : RR A m0 (px A h1) m3 m4 ks m13 (pm A M)) (m2 : Mem) : ∃ r m2' M', f_X6_early m0 (px A h1) m2 = some (r, m2') ∧ f_X7_early (pm A M) = some (r, M') ∧ RR A m0 (px A h1) m3 m4 ks m13 M' := by
  have wb := R.1.1
  have wb2 := WB_wal wb
  refine ⟨erN (wal A) ((wal A) 0 0), px (wal A) m2, pm A (Mat A M), ?_, ?_, R.kp ke_at⟩
  · unfold f_X6_early
    rw [X_inMind wb]
    simp only [Option.bind_some]
    rw [show (0 : Int32) = nI 0 from rfl, X_early_L wb2]
    rfl
  · unfold f_X7_early
    rw [na_lt, M_t14, M_think]
    simp only [Option.bind_some]
    rw [M_wedAll wb]
    simp only [Option.bind_some]
    rw [show (0 : Int32) = nI 0 from rfl, M_early_L wb2]
    simp only [Option.bind_some]
    rw [M_ag]
    rfl
theorem op_worst (R : RR A m0 (px A h1) m3 m4 ks m13 (pm A M)) (m2 : Mem) : ∃ r m2' M', f_X6_worst m0 (px A h1) m2 = some (r, m2') ∧ f_X7_worst (pm A M) = some (r, M') ∧ RR A m0 (px A h1) m3 m4 ks m13 M' := by
  have wb := R.1.1
  have wb2 := WB_wal wb
  refine ⟨(bst (lat (wal A)) ((wal A) 0 0)).2, px (wal A) m2, pm A (Mat A M), ?_, ?_, R.kp ke_at⟩
  · unfold f_X6_worst
    rw [X_inMind wb]
    simp only [Option.bind_some]
    rw [show (0 : Int32) = nI 0 from rfl, X_worst_L wb2]
    rfl
  · unfold f_X7_worst
    rw [na_lt, M_t14, M_think]
    simp only [Option.bind_some]
    rw [M_wedAll wb]
    simp only [Option.bind_some]
    rw [show (0 : Int32) = nI 0 from rfl, M_worst_L wb2]
    simp only [Option.bind_some]
    rw [M_ag]
    rfl
theorem op_crowded (R : RR A m0 (px A h1) m3 m4 ks m13 (pm A M)) (m2 : Mem) : ∃ r m2' M', f_X6_crowded m0 (px A h1) m2 = some (r, m2') ∧ f_X7_crowded (pm A M) = some (r, M') ∧ RR A m0 (px A h1) m3 m4 ks m13 M' := by
  have wb := R.1.1
  have wb2 := WB_wal wb
  refine ⟨nI (crN (wal A) 1000).2, px (wal A) m2, pm A (Mat A M), ?_, ?_, R.kp ke_at⟩
  · unfold f_X6_crowded
    rw [X_inMind wb]
    simp only [Option.bind_some]
    rw [show (0 : Int32) = nI 0 from rfl, X_crowded_L wb2]
    rfl
  · unfold f_X7_crowded
    rw [na_lt, M_t14, M_think]
    simp only [Option.bind_some]
    rw [M_wedAll wb]
    simp only [Option.bind_some]
    rw [show (0 : Int32) = nI 0 from rfl, M_crowded_L wb2]
    simp only [Option.bind_some]
    rw [M_ag]
    rfl
theorem op_idle (R : RR A m0 (px A h1) m3 m4 ks m13 (pm A M)) (m2 : Mem) : ∃ r m2' M', f_X6_idle m0 (px A h1) m2 = some (r, m2') ∧ f_X7_idle (pm A M) = some (r, M') ∧ RR A m0 (px A h1) m3 m4 ks m13 M' := by
  have wb := R.1.1
  have wb2 := WB_wal wb
  refine ⟨nI (idN (wal A) (lsA (wal A))), px (wal A) m2, pm A (Mat A M), ?_, ?_, R.kp ke_at⟩
  · unfold f_X6_idle
    rw [X_inMind wb]
    simp only [Option.bind_some]
    rw [X_last wb2, Option.bind_some, show (0 : Int32) = nI 0 from rfl, X_idle_L wb2]
    rfl
  · unfold f_X7_idle
    rw [na_lt, M_t14, M_think]
    simp only [Option.bind_some]
    rw [M_wedAll wb]
    simp only [Option.bind_some]
    rw [M_last wb2, Option.bind_some, show (0 : Int32) = nI 0 from rfl, M_idle_L wb2]
    simp only [Option.bind_some]
    rw [M_ag]
    rfl
theorem op_all (R : RR A m0 (px A h1) m3 m4 ks m13 (pm A M)) (m2 : Mem) (a : Int32) : ∃ r m0' m2' M', f_X6_all m0 (px A h1) m2 a = some (r, m0', m2') ∧ f_X7_all (pm A M) a = some (r, M') ∧ RR A m0' (px A h1) m3 m4 ks m13 M' := by
  have wb := R.1.1
  have wb2 := WB_wal wb
  have e2 : ¬ (1 : Int32) = 0 := by decide
  rcases na_cs a (n := 2) (by omega) with ho | ⟨j, hj, rfl⟩
  · have n0 : ¬ a = 0 := out_ne ho (j := 0) (by omega) (by omega)
    have n1 : ¬ a = 1 := out_ne ho (j := 1) (by omega) (by omega)
    have hi : f_X7_in a.toInt64 0 1 = some 0 := out_iK ho (k := 1) rfl (by omega)
    exact ⟨-2, rf m0 2 2, m2, pm A (rf (M14 M) 10 2), by simp only [f_X6_all, n0, n1, if_false, X_ref2, Option.bind_some], by simp only [f_X7_all, na_lt, M_t14, hi, Option.bind_some, if_true, M_ref2], R.rk ke14 (by omega)⟩
  · have hi : f_X7_in (nI j).toInt64 0 1 = some 1 := in_iK (k := 1) (by omega) (by omega)
    rcases (show j = 0 ∨ j = 1 by omega) with rfl | rfl
    · have q0 : (nI 0 : Int32) = 0 := rfl
      exact ⟨nI (allL (wal A)), m0, px (wal A) m2, pm A (Mat A M), by simp only [f_X6_all, q0, if_true, X_inMind wb, X_allLate wb2, Option.bind_some], by
        unfold f_X7_all
        rw [na_lt, M_t14, hi]
        simp only [Option.bind_some, e2, if_false, M_think, M_wedAll wb, q0, if_true, M_allLate wb2, M_ag], R.kp ke_at⟩
    · have q1 : ¬ (nI 1 : Int32) = 0 := by decide
      have q2 : (nI 1 : Int32) = 1 := rfl
      exact ⟨nI (lsA (wal A)), m0, px (wal A) m2, pm A (Mat A M), by simp only [f_X6_all, q1, q2, e2, if_false, if_true, X_inMind wb, X_last wb2, Option.bind_some], by
        unfold f_X7_all
        rw [na_lt, M_t14, hi]
        simp only [Option.bind_some, e2, if_false, M_think, M_wedAll wb, q1, M_last wb2, M_ag], R.kp ke_at⟩
theorem op_met (R : RR A m0 (px A h1) m3 m4 ks m13 (pm A M)) (m2 : Mem) (a : Int32) : ∃ r m0' m2' M', f_X6_met m0 (px A h1) m2 a = some (r, m0', m2') ∧ f_X7_met (pm A M) a = some (r, M') ∧ RR A m0' (px A h1) m3 m4 ks m13 M' := by
  have wb := R.1.1
  have wb2 := WB_wal wb
  have e2 : ¬ (1 : Int32) = 0 := by decide
  rcases na_cs a (n := 3) (by omega) with ho | ⟨j, hj, rfl⟩
  · have n0 : ¬ a = 0 := out_ne ho (j := 0) (by omega) (by omega)
    have n1 : ¬ a = 1 := out_ne ho (j := 1) (by omega) (by omega)
    have n2 : ¬ a = 2 := out_ne ho (j := 2) (by omega) (by omega)
    have hi : f_X7_in a.toInt64 0 2 = some 0 := out_iK ho (k := 2) rfl (by omega)
    exact ⟨-2, rf m0 2 2, m2, pm A (rf (M14 M) 10 2), by simp only [f_X6_met, n0, n1, n2, if_false, X_ref2, Option.bind_some], by simp only [f_X7_met, na_lt, M_t14, hi, Option.bind_some, if_true, M_ref2], R.rk ke14 (by omega)⟩
  · have hi : f_X7_in (nI j).toInt64 0 2 = some 1 := in_iK (k := 2) (by omega) (by omega)
    rcases (show j = 0 ∨ j = 1 ∨ j = 2 by omega) with rfl | rfl | rfl
    · have q0 : (nI 0 : Int32) = 0 := rfl
      exact ⟨nI (mtS (wal A)), m0, px (wal A) m2, pm A (Mat A M), by simp only [f_X6_met, q0, if_true, X_inMind wb, X_meetings wb2, Option.bind_some], by
        unfold f_X7_met
        rw [na_lt, M_t14, hi]
        simp only [Option.bind_some, e2, if_false, M_think, M_wedAll wb, q0, if_true, M_meetings wb2, M_ag], R.kp ke_at⟩
    · have q1 : ¬ (nI 1 : Int32) = 0 := by decide
      have q2 : (nI 1 : Int32) = 1 := rfl
      exact ⟨fmc (wal A) (wal A 0 0) 0, m0, px (wal A) m2, pm A (Mat A M), by simp only [f_X6_met, q1, q2, e2, if_false, if_true, X_inMind wb, X_firstMeeting wb2, Option.bind_some], by
        unfold f_X7_met
        rw [na_lt, M_t14, hi]
        simp only [Option.bind_some, e2, if_false, M_think, M_wedAll wb, q1, q2, if_true, M_firstMet wb2, M_ag], R.kp ke_at⟩
    · have q1 : ¬ (nI 2 : Int32) = 0 := by decide
      have q2 : ¬ (nI 2 : Int32) = 1 := by decide
      have q3 : (nI 2 : Int32) = 2 := rfl
      have q4 : ¬ (2 : Int32) = 0 := by decide
      have q5 : ¬ (2 : Int32) = 1 := by decide
      exact ⟨(bst (stO (wal A)) (wal A 0 0)).2, m0, px (wal A) m2, pm A (Mat A M), by simp only [f_X6_met, q3, q4, q5, if_false, if_true, X_inMind wb, X_strayed wb2, Option.bind_some], by
        unfold f_X7_met
        rw [na_lt, M_t14, hi]
        simp only [Option.bind_some, e2, if_false, M_think, M_wedAll wb, q1, q2, M_strayed wb2, M_ag], R.kp ke_at⟩
theorem op_inside (R : RR A m0 (px A h1) m3 m4 ks m13 (pm A M)) (m2 : Mem) (a : Int32) : ∃ r m0' m2' M', f_X6_inside m0 (px A h1) m2 a = some (r, m0', m2') ∧ f_X7_inside (pm A M) a = some (r, M') ∧ RR A m0' (px A h1) m3 m4 ks m13 M' := by
  have wb := R.1.1
  have wb2 := WB_wal wb
  have e4 : ¬ (0 : Int32) ≤ -4 := by decide
  have e6 : ¬ (0 : Int32) ≤ -6 := by decide
  have e0 : (0 : Int32) ≤ 0 := by decide
  by_cases h0 : (0 : Int32) ≤ a
  · by_cases h9 : a ≤ 999
    · obtain ⟨t, ht, rfl⟩ := nI_of2 (n := 999) (M := 999) rfl (fun z => by rw [fa_lt] at z; rw [fa_le] at h0; omega) h9
      exact ⟨nI (gat (wal A) t), m0, px (wal A) m2, pm A (Mat A M), by simp only [f_X6_inside, h0, h9, if_true, X_inMind wb, X_guestsAt wb2 ht, Option.bind_some], by
        unfold f_X7_inside f_X7_wrongNumber
        rw [na_lt, M_t14]
        simp only [h0, h9, e0, if_true, Option.bind_some, M_think, M_wedAll wb, M_insideAt wb2 ht, M_ag], R.kp ke_at⟩
    · exact ⟨-6, rf m0 2 6, m2, pm A (rf (M14 M) 10 6), by simp only [f_X6_inside, h0, h9, if_true, if_false, X_ref6, Option.bind_some], by simp only [f_X7_inside, f_X7_wrongNumber, na_lt, M_t14, h0, h9, if_true, if_false, e6, Option.bind_some, M_ref6], R.rk ke14 (by omega)⟩
  · exact ⟨-4, rf m0 2 4, m2, pm A (rf (M14 M) 10 4), by simp only [f_X6_inside, h0, if_false, X_ref4, Option.bind_some], by simp only [f_X7_inside, f_X7_wrongNumber, na_lt, M_t14, h0, if_false, e4, Option.bind_some, M_ref4], R.rk ke14 (by omega)⟩
theorem op_when (R : RR A m0 (px A h1) m3 m4 ks m13 (pm A M)) (m2 : Mem) (a b : Int32) : ∃ r m0' m2' M', f_X6_when m0 (px A h1) m2 a b = some (r, m0', m2') ∧ f_X7_when (pm A M) a b = some (r, M') ∧ RR A m0' (px A h1) m3 m4 ks m13 M' := by
  have wb := R.1.1
  have w1 := wb.1
  have wb2 := WB_wal wb
  have e2 : ¬ (1 : Int32) = 0 := by decide
  have e3 : ¬ (-1 : Int32) = 0 := by decide
  have e4 : ¬ (0 : Int32) ≤ -1 := by decide
  have e5 : ¬ (0 : Int32) ≤ -2 := by decide
  have e0 : (0 : Int32) ≤ 0 := by decide
  rcases na_cs a (n := A 0 0) (by omega) with ho | ⟨c, hc, rfl⟩
  · exact ⟨-1, rf m0 2 1, m2, pm A (rf (M14 M) 10 1), by simp only [f_X6_when, X_has_out ho, Option.bind_some, if_true, X_ref1], by simp only [f_X7_when, na_lt, M_t14, M_has_out wb ho, Option.bind_some, if_true, M_wb_no e3, e4, if_false, M_ref1], R.rk ke14 (by omega)⟩
  · have hc7 : c < 7 := by omega
    have i7 := na_inb hc7 (by omega : (7 : Nat) < 2147483648)
    have x7 := na_ix (by omega : c < 2147483648)
    rcases na_cs b (n := 4) (by omega) with ho | ⟨j, hj, rfl⟩
    · have n0 : ¬ b = 0 := out_ne ho (j := 0) (by omega) (by omega)
      have n1 : ¬ b = 1 := out_ne ho (j := 1) (by omega) (by omega)
      have n2 : ¬ b = 2 := out_ne ho (j := 2) (by omega) (by omega)
      have n3 : ¬ b = 3 := out_ne ho (j := 3) (by omega) (by omega)
      have hi : f_X7_wrongBit 0 b 3 = some (-2) := M_wb_out ho (k := 3) rfl (by omega)
      exact ⟨-2, rf m0 2 2, px (wal A) m2, pm A (rf (M14 M) 10 2), by simp only [f_X6_when, X_has_in wb hc, Option.bind_some, e2, if_false, X_inMind wb, n0, n1, n2, n3, X_ref2], by simp only [f_X7_when, na_lt, M_t14, M_has_in wb hc, Option.bind_some, e2, if_false, hi, e5, M_ref2], R.rk ke14 (by omega)⟩
    · have hi : f_X7_wrongBit 0 (nI j) 3 = some 0 := M_wb_in (k := 3) (by omega) (by omega)
      have m0z : f_X7_when (pm A M) (nI c) (nI j) = ((if nI j = 0 then some (nI (wal A 4 c)) else if nI j = 1 then some (nI (wal A 5 c)) else if nI j = 2 then some (nI (wal A 6 c)) else some (nI (lat (wal A) c))).bind fun v => some (v, pm A (Mat A M))) := by
        unfold f_X7_when
        rw [na_lt, M_t14, M_has_in wb hc]
        simp (disch := omega) only [Option.bind_some, e2, if_false, na_lt, hi, e0, if_true, M_think, M_wedAll wb, i7, na_ck, x7, pm_5, pm_6, pm_7, M_lateOf wb2 hc7, M_ag]
      have x0z : f_X6_when m0 (px A h1) m2 (nI c) (nI j) = ((if nI j = 0 then some (nI (wal A 4 c)) else if nI j = 1 then some (nI (wal A 5 c)) else if nI j = 2 then some (nI (wal A 6 c)) else some (nI (lat (wal A) c))).bind fun v => some (v, m0, px (wal A) m2)) := by
        unfold f_X6_when
        rw [X_has_in wb hc]
        simp (disch := omega) only [Option.bind_some, e2, if_false, X_inMind wb, i7, na_ck, x7, px_4, px_5, px_6, X_lateOf wb2 hc7]
        rcases (show j = 0 ∨ j = 1 ∨ j = 2 ∨ j = 3 by omega) with rfl | rfl | rfl | rfl <;> rfl
      rcases (show j = 0 ∨ j = 1 ∨ j = 2 ∨ j = 3 by omega) with rfl | rfl | rfl | rfl
      · exact ⟨_, _, _, _, x0z, m0z, R.kp ke_at⟩
      · exact ⟨_, _, _, _, x0z, m0z, R.kp ke_at⟩
      · exact ⟨_, _, _, _, x0z, m0z, R.kp ke_at⟩
      · exact ⟨_, _, _, _, x0z, m0z, R.kp ke_at⟩
end OPS2

