/-! WHAT IS TOLD of a hall, more -/
section TOLD2
variable {A : AM} {h M : Mem}
/-- how many c meets -/
def stO (A : AM) (c : Nat) : Nat := cn (fun d => !(decide (c = d)) && mt A c d) 0 (A 0 0)
theorem X_stO (w : WB A) {c : Nat} (hc : c < A 0 0) : f_X2_strayed_L21 (px A h) (nI c) 6000 (nI 0) (nI 0) = some (nI (stO A c)) := by
  have w1 := w.1
  refine lp (fun f s i => f_X2_strayed_L21 (px A h) (nI c) f s i) (A 0 0) (fun j => nI (cn (fun d => !(decide (c = d)) && mt A c d) 0 j)) (fun f => ?_) (fun f j hj => ?_) (A 0 0) 0 6000 (by omega) (by omega)
  · show f_X2_strayed_L21 _ _ (f + 1) _ _ = _
    rw [f_X2_strayed_L21]
    simp (disch := omega) only [px_0_0, na_le, Nat.le_refl, if_true]
    rfl
  · show f_X2_strayed_L21 _ _ (f + 1) _ _ = f_X2_strayed_L21 _ _ f _ _
    rw [f_X2_strayed_L21]
    have hj2 : ¬ (A 0 0) ≤ j := by omega
    rw [cn, Nat.zero_add]
    by_cases e : j = c
    · subst e
      simp (disch := omega) only [px_0_0, hj2, if_false, na_le, na_lt, nI_1, if_true]
      simp
    · have e2 : ¬ c = j := fun z => e z.symm
      simp (disch := omega) only [px_0_0, hj2, if_false, na_le, na_lt, na_eq, e, X_meet w (by omega : c < 7) (by omega : j < 7), Option.bind_some, e2, decide_false, Bool.not_false, Bool.true_and]
      cases mt A c j
      · simp (disch := omega) only [na_lit, na_eq, nI_add]; rfl
      · simp (disch := omega) only [na_lit, na_eq, nI_add]; rfl
theorem M_stO (w : WB A) {c : Nat} (hc : c < A 0 0) : f_X7_strayedOne_L21 (pm A M) (nI c) 6000 (nI 0) (nI 0) = some (nI (stO A c)) := by
  have w1 := w.1
  refine lp (fun f s i => f_X7_strayedOne_L21 (pm A M) (nI c) f s i) (A 0 0) (fun j => nI (cn (fun d => !(decide (c = d)) && mt A c d) 0 j)) (fun f => ?_) (fun f j hj => ?_) (A 0 0) 0 6000 (by omega) (by omega)
  · show f_X7_strayedOne_L21 _ _ (f + 1) _ _ = _
    rw [f_X7_strayedOne_L21]
    simp (disch := omega) only [pm_0_0, na_le, Nat.le_refl, if_true]
    rfl
  · show f_X7_strayedOne_L21 _ _ (f + 1) _ _ = f_X7_strayedOne_L21 _ _ f _ _
    rw [f_X7_strayedOne_L21]
    have hj2 : ¬ (A 0 0) ≤ j := by omega
    rw [cn, Nat.zero_add]
    simp (disch := omega) only [pm_0_0, hj2, if_false, na_le, na_lt, M_meet w (by omega : c < 7) (by omega : j < 7), Option.bind_some]
    cases (!(decide (c = j)) && mt A c j)
    · simp (disch := omega) only [na_lit, na_eq, nI_add]; rfl
    · simp (disch := omega) only [na_lit, na_eq, nI_add]; rfl
/-- who has most so far, and how many -/
def bst (f : Nat → Nat) : Nat → Nat × Int32
  | 0 => (0, -9)
  | j + 1 => if f j ≤ (bst f j).1 then bst f j else (f j, nI j)
theorem bst_le {f : Nat → Nat} {b : Nat} : ∀ n, (∀ k, k < n → f k ≤ b) → (bst f n).1 ≤ b
  | 0, _ => Nat.zero_le _
  | n + 1, h => by
    have h1 := bst_le n (fun k hk => h k (by omega))
    have h2 := h n (by omega)
    rw [bst]
    split
    · exact h1
    · exact h2
theorem stO_le (w : WB A) (c : Nat) : stO A c ≤ 7 := Nat.le_trans (cn_le _) w.1
theorem X_strayed (w : WB A) : f_X2_strayed (px A h) = some (bst (stO A) (A 0 0)).2 := by
  have w1 := w.1
  have hl : f_X2_strayed_L7 (px A h) 6000 (nI (bst (stO A) 0).1) (bst (stO A) 0).2 (nI 0) = some (bst (stO A) (A 0 0)).2 := by
    refine lp (fun f (s : Int32 × Int32) i => f_X2_strayed_L7 (px A h) f s.1 s.2 i) (A 0 0) (fun j => (nI (bst (stO A) j).1, (bst (stO A) j).2)) (fun f => ?_) (fun f j hj => ?_) (A 0 0) 0 6000 (by omega) (by omega)
    · show f_X2_strayed_L7 _ (f + 1) _ _ _ = _
      rw [f_X2_strayed_L7]
      simp (disch := omega) only [px_0_0, na_le, Nat.le_refl, if_true]
    · show f_X2_strayed_L7 _ (f + 1) _ _ _ = f_X2_strayed_L7 _ f _ _ _
      rw [f_X2_strayed_L7]
      have hj2 : ¬ (A 0 0) ≤ j := by omega
      have h1 := stO_le w j
      have h2 := bst_le (f := stO A) (b := 7) j (fun k _ => stO_le w k)
      rw [show (0 : Int32) = nI 0 from rfl, X_stO w hj]
      simp (disch := omega) only [px_0_0, hj2, if_false, na_le, na_lt, nI_1, Option.bind_some]
      rw [bst]
      by_cases e : stO A j ≤ (bst (stO A) j).1
      · simp only [e, if_true]
      · simp only [e, if_false]
  unfold f_X2_strayed
  exact (congrArg (fun o => Option.bind o (fun t => some t)) hl)
theorem M_strayed (w : WB A) : f_X7_strayedOne (pm A M) = some (bst (stO A) (A 0 0)).2 := by
  have w1 := w.1
  have hl : f_X7_strayedOne_L7 (pm A M) 6000 (bst (stO A) 0).2 (nI (bst (stO A) 0).1) (nI 0) = some (bst (stO A) (A 0 0)).2 := by
    refine lp (fun f (s : Int32 × Int32) i => f_X7_strayedOne_L7 (pm A M) f s.2 s.1 i) (A 0 0) (fun j => (nI (bst (stO A) j).1, (bst (stO A) j).2)) (fun f => ?_) (fun f j hj => ?_) (A 0 0) 0 6000 (by omega) (by omega)
    · show f_X7_strayedOne_L7 _ (f + 1) _ _ _ = _
      rw [f_X7_strayedOne_L7]
      simp (disch := omega) only [pm_0_0, na_le, Nat.le_refl, if_true]
    · show f_X7_strayedOne_L7 _ (f + 1) _ _ _ = f_X7_strayedOne_L7 _ f _ _ _
      rw [f_X7_strayedOne_L7]
      have hj2 : ¬ (A 0 0) ≤ j := by omega
      have h1 := stO_le w j
      have h2 := bst_le (f := stO A) (b := 7) j (fun k _ => stO_le w k)
      rw [show (0 : Int32) = nI 0 from rfl, M_stO w hj]
      simp (disch := omega) only [pm_0_0, hj2, if_false, na_le, na_lt, nI_1, Option.bind_some, na_most]
      rw [bst]
      by_cases e : stO A j ≤ (bst (stO A) j).1
      · simp only [e, if_true, Nat.max_eq_left e]
      · simp only [e, if_false, Nat.max_eq_right (Nat.le_of_not_le e)]
  unfold f_X7_strayedOne
  exact (congrArg (fun o => Option.bind o (fun t => some t)) hl)
/-- guests inside at a minute -/
def gat (A : AM) (t : Nat) : Nat := fb_sm (fun c => if A 4 c ≤ t then (if t < A 5 c then gue A c else 0) else 0) (A 0 0)
theorem gat_le (w : WB A) (t : Nat) : ∀ j, j ≤ A 0 0 → fb_sm (fun c => if A 4 c ≤ t then (if t < A 5 c then gue A c else 0) else 0) j ≤ 26 * j
  | 0, _ => Nat.le_refl _
  | j + 1, hj => by
    have w1 := w.1
    have h1 := gat_le w t j (by omega)
    have h2 : gue A j ≤ 26 := guests_le (w.2.2.2.2.2.2.2 j (by omega)).2.1
    show fb_sm _ j + (if A 4 j ≤ t then (if t < A 5 j then gue A j else 0) else 0) ≤ _
    (repeat' split) <;> omega
theorem X_guestsAt (w : WB A) {t : Nat} (ht : t ≤ 999) : f_X2_guestsAt (px A h) (nI t) = some (nI (gat A t)) := by
  have w1 := w.1
  have hl : f_X2_guestsAt_L4 (nI t) (px A h) 6000 (nI (fb_sm (fun c => if A 4 c ≤ t then (if t < A 5 c then gue A c else 0) else 0) 0)) (nI 0) = some (nI (gat A t)) := by
    refine lp (fun f s i => f_X2_guestsAt_L4 (nI t) (px A h) f s i) (A 0 0) (fun j => nI (fb_sm (fun c => if A 4 c ≤ t then (if t < A 5 c then gue A c else 0) else 0) j)) (fun f => ?_) (fun f j hj => ?_) (A 0 0) 0 6000 (by omega) (by omega)
    · show f_X2_guestsAt_L4 _ _ (f + 1) _ _ = _
      rw [f_X2_guestsAt_L4]
      simp (disch := omega) only [px_0_0, na_le, Nat.le_refl, if_true]
      rfl
    · show f_X2_guestsAt_L4 _ _ (f + 1) _ _ = f_X2_guestsAt_L4 _ _ f _ _
      rw [f_X2_guestsAt_L4]
      have hj2 : ¬ (A 0 0) ≤ j := by omega
      obtain ⟨-, -, -, c4, c5, -⟩ := w.2.2.2.2.2.2.2 j (by omega)
      rw [show ∀ f, fb_sm f (j + 1) = fb_sm f j + f j from fun _ => rfl]
      simp (disch := omega) only [px_0_0, hj2, if_false, na_le, na_ltI, na_lt, nI_1, Option.bind_some, na_inb, na_ck, na_ix, px_4, px_5, X_guestsOf w (by omega : j < 7), nI_add]
      by_cases e1 : A 4 j ≤ t
      · have e1' : ¬ t < A 4 j := by omega
        by_cases e2 : t < A 5 j
        · have e2' : ¬ A 5 j ≤ t := by omega
          simp only [e1, e1', e2, e2', if_true, if_false]
        · have e2' : A 5 j ≤ t := by omega
          simp only [e1, e1', e2, e2', if_true, if_false, Nat.add_zero]
      · have e1' : t < A 4 j := by omega
        simp only [e1, e1', if_true, if_false, Nat.add_zero]
  unfold f_X2_guestsAt
  exact (congrArg (fun o => Option.bind o (fun t => some t)) hl)
theorem M_insideAt (w : WB A) {t : Nat} (ht : t ≤ 999) : f_X7_insideAt (pm A M) (nI t) = some (nI (gat A t)) := by
  have w1 := w.1
  have hl : f_X7_insideAt_L4 (nI t) (pm A M) 6000 (nI (fb_sm (fun c => if A 4 c ≤ t then (if t < A 5 c then gue A c else 0) else 0) 0)) (nI 0) = some (nI (gat A t)) := by
    refine lp (fun f s i => f_X7_insideAt_L4 (nI t) (pm A M) f s i) (A 0 0) (fun j => nI (fb_sm (fun c => if A 4 c ≤ t then (if t < A 5 c then gue A c else 0) else 0) j)) (fun f => ?_) (fun f j hj => ?_) (A 0 0) 0 6000 (by omega) (by omega)
    · show f_X7_insideAt_L4 _ _ (f + 1) _ _ = _
      rw [f_X7_insideAt_L4]
      simp (disch := omega) only [pm_0_0, na_le, Nat.le_refl, if_true]
      rfl
    · show f_X7_insideAt_L4 _ _ (f + 1) _ _ = f_X7_insideAt_L4 _ _ f _ _
      rw [f_X7_insideAt_L4]
      have hj2 : ¬ (A 0 0) ≤ j := by omega
      have ez : ∀ x : Nat, nI x + 0 = nI x := fun x => by rw [show (0 : Int32) = nI 0 from rfl, nI_add, Nat.add_zero]
      obtain ⟨-, -, -, c4, c5, -⟩ := w.2.2.2.2.2.2.2 j (by omega)
      rw [show ∀ f, fb_sm f (j + 1) = fb_sm f j + f j from fun _ => rfl]
      simp (disch := omega) only [pm_0_0, hj2, if_false, na_le, na_ltI, na_lt, nI_1, ez, Option.bind_some, na_inb, na_ck, na_ix, pm_5, pm_6, M_guestsOf w (by omega : j < 7), nI_add]
      by_cases e1 : A 4 j ≤ t
      · have e1' : ¬ t < A 4 j := by omega
        by_cases e2 : t < A 5 j
        · have e2' : ¬ A 5 j ≤ t := by omega
          simp only [e1, e1', e2, e2', if_true, if_false]
        · have e2' : A 5 j ≤ t := by omega
          simp only [e1, e1', e2, e2', if_true, if_false, Nat.add_zero]
      · have e1' : t < A 4 j := by omega
        simp only [e1, e1', if_true, if_false, Nat.add_zero]
  unfold f_X7_insideAt
  exact (congrArg (fun o => Option.bind o (fun t => some t)) hl)
end TOLD2

