/-! CALLS that try, on: shift, lots -/
section OPS9
variable {A B C : AM} {m0 h1 h m2 m3 m4 m13 M : Mem} {ks : List Mem}
/-- what a wedding leaves -/
theorem weN_7 : ∀ k i, i + k < B 0 8 → weN B k 7 i = B 7 (i + k)
  | 0, _, _ => rfl
  | k + 1, i, h => by
    have e : weN B (k + 1) 7 i = weN B k 7 (i + 1) := by
      have hi : i < weN B k 0 8 - 1 := by rw [weN_wait]; omega
      rw [weN]
      simp [weA, hoA, wsA, offA, ua, shA, hi]
    rw [e, weN_7 k (i + 1) (by omega), show i + 1 + k = i + (k + 1) by omega]
theorem weA_r {p c more : Nat} (h1 : 3 ≤ p) (h2 : p ≤ 6) (hc : p = 3 ∨ c ≠ B 7 0) : weA B more p c = B p c := by
  unfold weA hoA wsA offA
  rw [ua_n (by omega), ua_n (by omega), ua_n (by omega), ua_n (by omega), ua_n (by omega), ua_n (by omega), ua_n (by omega)]
  simp only [shA]
  rw [if_neg (by omega)]
theorem weN_r {p c : Nat} (h1 : 3 ≤ p) (h2 : p ≤ 6) : ∀ k, k ≤ B 0 8 → (p = 3 ∨ ∀ i, i < k → B 7 i ≠ c) → weN B k p c = B p c
  | 0, _, _ => rfl
  | k + 1, hk, hc => by
    rw [weN, weA_r h1 h2, weN_r h1 h2 k (by omega) (hc.imp id (fun z i hi => z i (by omega)))]
    rcases hc with e | e
    · exact Or.inl e
    · refine Or.inr ?_
      rw [weN_7 k 0 (by omega), Nat.zero_add]
      exact fun z => e k (by omega) z.symm
theorem wal_r {p c : Nat} (h1 : 3 ≤ p) (h2 : p ≤ 6) (hc : p = 3 ∨ ∀ i, i < B 0 8 → B 7 i ≠ c) : wal B p c = B p c := weN_r h1 h2 _ (Nat.le_refl _) hc
/-- all come later by k -/
def sfJ (A : AM) (k j : Nat) : AM := fun p q => if p = 3 ∧ q < j ∧ uw A q then A 3 q + k else A p q
theorem sfJ_n {k j p q : Nat} (h : p ≠ 3) : sfJ A k j p q = A p q := if_neg (fun z => h z.1)
theorem sfJ_s {k j : Nat} : ua (sfJ A k j) 3 j (if uw A j then A 3 j + k else A 3 j) = sfJ A k (j + 1) := by
  funext p q
  simp only [ua, sfJ]
  by_cases e : p = 3 ∧ q = j
  · obtain ⟨rfl, rfl⟩ := e
    rw [if_pos ⟨rfl, rfl⟩]
    by_cases e2 : uw A q
    · rw [if_pos e2, if_pos ⟨rfl, by omega, e2⟩]
    · rw [if_neg e2, if_neg (fun z => e2 z.2.2)]
  · rw [if_neg e]
    by_cases e2 : p = 3 ∧ q < j ∧ uw A q
    · rw [if_pos e2, if_pos ⟨e2.1, by omega, e2.2.2⟩]
    · rw [if_neg e2, if_neg (fun z => e2 ⟨z.1, by
        have : q ≠ j := fun w => e ⟨z.1, w⟩
        omega, z.2.2⟩)]
theorem sfJ_at {k j : Nat} : sfJ A k j 3 j = A 3 j := if_neg (by omega)
theorem WB_sf (w : WF A) {k j : Nat} (hk : k ≤ 60) : WB (sfJ A k j) := by
  obtain ⟨⟨w1, w2, w3, ⟨w4, w5⟩, w6, w7, ⟨w8, w9⟩, w10⟩, o⟩ := w
  refine ⟨by rw [sfJ_n (by omega)]; exact w1, by rw [sfJ_n (by omega)]; exact w2, by rw [sfJ_n (by omega)]; exact w3, ⟨by rw [sfJ_n (by omega)]; exact w4, by rw [sfJ_n (by omega)]; exact w5⟩, by rw [sfJ_n (by omega)]; exact w6, by rw [sfJ_n (by omega)]; exact w7, ⟨by rw [sfJ_n (by omega)]; exact w8, by rw [sfJ_n (by omega)]; exact w9⟩, fun q hq => ?_⟩
  obtain ⟨c1, c2, c3, c4, c5, c6, c7⟩ := w10 q hq
  have c8 := o.2.2.2.2.2 q hq
  refine ⟨by rw [sfJ_n (by omega)]; exact c1, by rw [sfJ_n (by omega)]; exact c2, ?_, by rw [sfJ_n (by omega)]; exact c4, by rw [sfJ_n (by omega)]; exact c5, by rw [sfJ_n (by omega)]; exact c6, by rw [sfJ_n (by omega)]; exact c7⟩
  have q3 : sfJ A k j 3 q = if q < j ∧ uw A q then A 3 q + k else A 3 q := by simp [sfJ]
  rw [q3]
  split <;> omega
theorem X_shift15 (w : WF A) {k : Nat} (hk : k ≤ 60) {t : Mem} : f_X6_shift_L15 (px A h1) (nI k) 6000 0 (px A t) = some (px (sfJ A k (A 0 0)) t) := by
  have w1 := w.1.1
  have := lp (r := some (px (sfJ A k (A 0 0)) t)) (fun f s i => f_X6_shift_L15 (px A h1) (nI k) f i s) (A 0 0) (fun j => px (sfJ A k j) t) (fun f => ?_) (fun f j hj => ?_) (A 0 0) 0 6000 (by omega) (by omega)
  · have e : sfJ A k 0 = A := by
      funext p q
      simp only [sfJ]
      rw [if_neg (by omega)]
    rw [e] at this
    exact this
  · show f_X6_shift_L15 _ _ (f + 1) _ _ = _
    rw [f_X6_shift_L15, px_0_0, if_pos (nI_le (Nat.le_refl _) (by omega))]
  · show f_X6_shift_L15 _ _ (f + 1) _ _ = f_X6_shift_L15 _ _ f _ _
    have c8 := w.2.2.2.2.2.2 j (by omega)
    rw [f_X6_shift_L15, px_0_0, if_neg (nI_ge hj (by omega)), X_isWed w.1 (by omega), Option.bind_some]
    have s := sfJ_s (A := A) (k := k) (j := j)
    by_cases e : uw A j
    · rw [if_pos e] at s
      rw [if_pos (uw_0 e), na_inb (by omega) (by omega), na_ck, na_ck, na_ix (by omega), px_3 (by omega), sfJ_at, nI_add, px_w3 (by omega), na_lt, na_lt, nI_1, s]
    · rw [if_neg e] at s
      have s2 : sfJ A k (j + 1) = sfJ A k j := by
        rw [← s]
        funext p q
        simp only [ua]
        split
        · next z => obtain ⟨rfl, rfl⟩ := z; exact sfJ_at.symm
        · rfl
      rw [if_neg (uw_1 e), na_lt, nI_1, s2]
theorem M_shift32 (w : WF A) {k : Nat} (hk : k ≤ 60) {t : Mem} : f_X7_shift_L32 (nI (uwN A (A 0 0))) (nI k) 6000 0 (pm A t) = some (pm (sfJ A k (A 0 0)) t) := by
  have w1 := w.1.1
  have := lp (r := some (pm (sfJ A k (A 0 0)) t)) (fun f s i => f_X7_shift_L32 (nI (uwN A (A 0 0))) (nI k) f i s) (A 0 0) (fun j => pm (sfJ A k j) t) (fun f => ?_) (fun f j hj => ?_) (A 0 0) 0 6000 (by omega) (by omega)
  · have e : sfJ A k 0 = A := by
      funext p q
      simp only [sfJ]
      rw [if_neg (by omega)]
    rw [e] at this
    exact this
  · show f_X7_shift_L32 _ _ (f + 1) _ _ = _
    rw [f_X7_shift_L32, pm_0_0, sfJ_n (by omega), if_pos (nI_le (Nat.le_refl _) (by omega))]
  · show f_X7_shift_L32 _ _ (f + 1) _ _ = f_X7_shift_L32 _ _ f _ _
    have s := sfJ_s (A := A) (k := k) (j := j)
    have n1 : ¬ (1 : Int32) = 0 := by decide
    rw [f_X7_shift_L32, pm_0_0, sfJ_n (by omega), if_neg (nI_ge hj (by omega)), na_inb (by omega) (by omega), na_ck, M_hasUnwed w.1 hj, Option.bind_some]
    by_cases e : uw A j
    · rw [if_pos e] at s
      rw [if_pos e, if_neg n1, na_ck, na_ix (by omega), pm_3 (by omega), sfJ_at, nI_add, pm_w3 (by omega), na_lt, na_lt, nI_1, s]
    · rw [if_neg e] at s
      rw [if_neg e, if_pos rfl, na_ck, na_ix (by omega), pm_3 (by omega), sfJ_at, Int32.add_zero, pm_w3 (by omega), na_lt, na_lt, nI_1, s]
/-- lateness of the wed -/
def lwd (A : AM) : Nat := fb_sm (fun c => if uw A c then 0 else lat A c) (A 0 0)
theorem lwd_le (w : WB A) : ∀ j, j ≤ A 0 0 → fb_sm (fun c => if uw A c then 0 else lat A c) j ≤ 2000 * j
  | 0, _ => Nat.le_refl _
  | j + 1, h => by
    have := lwd_le w j (by omega)
    have := lat_le w (c := j) (by have := w.1; omega)
    rw [fb_sm_succ]
    split <;> omega
theorem X_lateOfWed (w : WB A) : f_X2_lateOfWed (px A h) = some (nI (lwd A)) := by
  have w1 := w.1
  have hl := lp (r := some (nI (lwd A))) (fun f (s : Int32) i => f_X2_lateOfWed_L4 (px A h) f s i) (A 0 0) (fun j => nI (fb_sm (fun c => if uw A c then 0 else lat A c) j)) (fun f => ?_) (fun f j hj => ?_) (A 0 0) 0 6000 (by omega) (by omega)
  · unfold f_X2_lateOfWed
    have : f_X2_lateOfWed_L4 (px A h) 6000 0 0 = some (nI (lwd A)) := hl
    rw [this]
    rfl
  · show f_X2_lateOfWed_L4 _ (f + 1) _ _ = _
    rw [f_X2_lateOfWed_L4, px_0_0, if_pos (nI_le (Nat.le_refl _) (by omega))]
    rfl
  · show f_X2_lateOfWed_L4 _ (f + 1) _ _ = f_X2_lateOfWed_L4 _ f _ _
    rw [f_X2_lateOfWed_L4, px_0_0, if_neg (nI_ge hj (by omega)), X_isWed w (by omega), Option.bind_some, fb_sm_succ]
    by_cases e : uw A j
    · rw [if_pos (uw_0 e), na_lt, nI_1, if_pos e]
      rfl
    · rw [if_neg (uw_1 e), X_lateOf w (by omega), Option.bind_some, nI_add, na_lt, na_lt, nI_1, if_neg e]
def sbd (A B : AM) : Nat → Bool
  | 0 => false
  | j + 1 => sbd A B j || decide (uw A j ∧ lat B j ≠ 0)
theorem sbd_is : ∀ j, sbd A B j = false ↔ ∀ c, c < j → uw A c → lat B c = 0
  | 0 => ⟨fun _ c hc => absurd hc (Nat.not_lt_zero _), fun _ => rfl⟩
  | j + 1 => by
    have ih := sbd_is j
    rw [sbd, Bool.or_eq_false_iff, ih]
    constructor
    · intro ⟨a, b⟩ c hc hu
      rcases Nat.lt_or_ge c j with z | z
      · exact a c z hu
      · have : c = j := by omega
        subst this
        have := of_decide_eq_false b
        rcases Nat.eq_zero_or_pos (lat B c) with q | q
        · exact q
        · exact absurd ⟨hu, by omega⟩ this
    · intro a
      exact ⟨fun c hc hu => a c (by omega) hu, decide_eq_false (fun z => z.2 (a j (by omega) z.1))⟩
theorem M_shift81 (w : WF A) (wb : WB B) (h0 : B 0 0 = A 0 0) {t : Mem} : f_X7_shift_L81 (nI (uwN A (A 0 0))) (pm B t) 6000 0 0 = some (if sbd A B (A 0 0) then 1 else 0) := by
  have w1 := w.1.1
  have n1 : ¬ (1 : Int32) = 0 := by decide
  refine lp (r := some (if sbd A B (A 0 0) then 1 else 0)) (fun f (s : Int32) i => f_X7_shift_L81 (nI (uwN A (A 0 0))) (pm B t) f s i) (A 0 0) (fun j => if sbd A B j then 1 else 0) (fun f => ?_) (fun f j hj => ?_) (A 0 0) 0 6000 (by omega) (by omega)
  · show f_X7_shift_L81 _ _ (f + 1) _ _ = _
    rw [f_X7_shift_L81, pm_0_0, h0, if_pos (nI_le (Nat.le_refl _) (by omega))]
  · show f_X7_shift_L81 _ _ (f + 1) _ _ = f_X7_shift_L81 _ _ f _ _
    rw [f_X7_shift_L81, pm_0_0, h0, if_neg (nI_ge hj (by omega)), M_hasUnwed w.1 hj, sbd]
    have lb := lat_le wb (c := j) (by omega)
    by_cases e0 : sbd A B j = true
    · simp only [e0, if_true, Bool.true_or, n1, if_false, na_lt, nI_1]
    · have e0' : sbd A B j = false := by simpa using e0
      simp only [e0', if_false, Bool.false_or, if_true, Option.bind_some, Bool.false_eq_true, decide_eq_true_eq]
      by_cases e : uw A j
      · rw [if_pos e, if_neg n1, M_lateOf wb (by omega), Option.bind_some]
        by_cases e3 : lat B j = 0
        · rw [if_pos (show nI (lat B j) ≤ (0 : Int32) by rw [show (0 : Int32) = nI 0 from rfl, na_le (by omega) (by omega)]; omega), na_lt, nI_1, if_neg (fun z => z.2 e3)]
        · rw [if_neg (show ¬ nI (lat B j) ≤ (0 : Int32) by rw [show (0 : Int32) = nI 0 from rfl, na_le (by omega) (by omega)]; omega), na_lt, nI_1, if_pos ⟨e, e3⟩]
      · rw [if_neg e, if_pos rfl, na_lt, nI_1, if_neg (fun z => e z.1)]
theorem fb_sm_iff {f g : Nat → Nat} : ∀ n, (∀ c, c < n → g c ≤ f c) → (fb_sm f n = fb_sm g n ↔ ∀ c, c < n → f c = g c)
  | 0, _ => ⟨fun _ c hc => absurd hc (Nat.not_lt_zero _), fun _ => rfl⟩
  | n + 1, h => by
    have ih := fb_sm_iff n (fun c hc => h c (by omega))
    have l := fb_sm_le (fun c (hc : c < n) => h c (by omega))
    have l2 := h n (by omega)
    rw [fb_sm_succ, fb_sm_succ]
    constructor
    · intro e c hc
      rcases Nat.lt_or_ge c n with z | z
      · exact ih.mp (by omega) c z
      · have : c = n := by omega
        subst this
        omega
    · intro e
      rw [ih.mpr (fun c hc => e c (by omega)), e n (by omega)]
abbrev sfO (A : AM) (k : Nat) : Prop := allL (wal (sfJ A k (A 0 0))) = lwd A
theorem sf_iff (w : WF A) (k : Nat) : sfO A k ↔ sbd A (wal (sfJ A k (A 0 0))) (A 0 0) = false := by
  have h0 : wal (sfJ A k (A 0 0)) 0 0 = A 0 0 := by rw [wal_00, sfJ_n (by omega)]
  have key : ∀ c, ¬ uw A c → lat (wal (sfJ A k (A 0 0))) c = lat A c := fun c hu => by
    have no : ∀ i, i < sfJ A k (A 0 0) 0 8 → sfJ A k (A 0 0) 7 i ≠ c := fun i hi => by
      rw [sfJ_n (by omega)] at hi
      rw [sfJ_n (by omega)]
      exact wed_no w hu i hi
    show wal (sfJ A k (A 0 0)) 4 c - wal (sfJ A k (A 0 0)) 3 c = A 4 c - A 3 c
    rw [wal_r (by omega) (by omega) (Or.inr no), wal_r (by omega) (by omega) (Or.inr no), sfJ_n (by omega)]
    rw [show sfJ A k (A 0 0) 3 c = A 3 c from if_neg (fun z => hu z.2.2)]
  rw [sbd_is]
  unfold sfO allL lwd
  rw [h0, fb_sm_iff]
  · constructor
    · intro e c hc hu
      have := e c hc
      rw [if_pos hu] at this
      exact this
    · intro e c hc
      by_cases hu : uw A c
      · rw [if_pos hu]; exact e c hc hu
      · rw [if_neg hu]; exact key c hu
  · intro c hc
    by_cases hu : uw A c
    · rw [if_pos hu]; omega
    · rw [if_neg hu, key c hu]; exact Nat.le_refl _
theorem c60p {k : Nat} (h : 60 < k) (h2 : k < 1000) : (60 : Int32) < nI k := show nI 60 < nI k from nI_lt h (by omega)
theorem c60n {k : Nat} (h : k ≤ 60) : ¬ (60 : Int32) < nI k := show ¬ nI 60 < nI k from nI_nlt h (by omega)
theorem X_shiftL (w : WF A) : ∀ r k f m, k + r = 61 → r < f → ∃ C', f_X6_shift_L2 m0 (px A h1) f (nI k) m = some (fr (sfO A) nI (-9) r k, C')
  | 0, k, f, m, hk, hf => by
    obtain ⟨g, rfl⟩ : ∃ g, f = g + 1 := ⟨f - 1, by omega⟩
    refine ⟨m, ?_⟩
    rw [f_X6_shift_L2, if_pos (c60p (by omega) (by omega))]
    rfl
  | r + 1, k, f, m, hk, hf => by
    obtain ⟨g, rfl⟩ : ∃ g, f = g + 1 := ⟨f - 1, by omega⟩
    obtain ⟨C', ih⟩ := X_shiftL w r (k + 1) g (px (wal (sfJ A k (A 0 0))) m) (by omega) (by omega)
    have wb := WB_sf w (k := k) (j := A 0 0) (by omega)
    have l1 := allL_le (WB_wal wb)
    have l2 := lwd_le w.1 _ (Nat.le_refl _)
    have w1 := w.1.1
    have e : (nI (allL (wal (sfJ A k (A 0 0)))) = nI (lwd A)) = sfO A k := na_eq (by omega) (by unfold lwd; omega)
    rw [f_X6_shift_L2, if_neg (c60n (by omega)), X_asNow, Option.bind_some, X_shift15 w (by omega), Option.bind_some, X_wedAll wb, Option.bind_some, X_allLate (WB_wal wb), Option.bind_some, X_lateOfWed w.1, Option.bind_some, fr_up]
    by_cases e2 : sfO A k
    · exact ⟨_, by rw [if_pos (e ▸ e2), if_pos e2]⟩
    · exact ⟨C', by rw [if_neg (fun z => e2 (e ▸ z)), if_neg e2, na_lt, nI_1, ih]⟩
theorem M_shiftL (w : WF A) : ∀ r k f W, k + r = 61 → r + 1 < f → KP A W → ∃ W', f_X7_shift_L19 (nI (uwN A (A 0 0))) f (-9) (nI k) (pm A W) = some (fr (sfO A) nI (-9) r k, pm A W') ∧ KE W W'
  | 0, k, f, W, hk, hf, hK => by
    obtain ⟨g, rfl⟩ : ∃ g, f = g + 1 := ⟨f - 1, by omega⟩
    refine ⟨W, ?_, KE.rf⟩
    rw [f_X7_shift_L19, if_pos (c60p (by omega) (by omega))]
    rfl
  | r + 1, k, f, W, hk, hf, hK => by
    obtain ⟨g, rfl⟩ : ∃ g, f = g + 2 := ⟨f - 2, by omega⟩
    have wb := WB_sf w (k := k) (j := A 0 0) (by omega)
    have h0 : wal (sfJ A k (A 0 0)) 0 0 = A 0 0 := by rw [wal_00, sfJ_n (by omega)]
    obtain ⟨W1, g1, g2, g3⟩ := ag_any (A' := wal (sfJ A k (A 0 0))) hK
    obtain ⟨W', ih, ih2⟩ := M_shiftL w r (k + 1) (g + 1) W1 (by omega) (by omega) g2
    have n9 : ¬ (0 : Int32) ≤ -9 := by decide
    have n1 : ¬ (1 : Int32) = 0 := by decide
    rw [f_X7_shift_L19, if_neg (c60n (by omega)), if_neg n9, M_shift32 w (by omega), Option.bind_some, M_wedAll wb, Option.bind_some, M_shift81 w (WB_wal wb) h0, Option.bind_some, na_lt, g1, Option.bind_some, na_lt, nI_1, fr_up]
    have q := sf_iff w k
    by_cases e2 : sfO A k
    · have e3 := q.mp e2
      refine ⟨W1, ?_, g3⟩
      simp only [e3, if_true, Bool.false_eq_true, if_false, if_pos e2]
      have q0 : (0 : Int32) ≤ nI k := show nI 0 ≤ nI k from nI_le (by omega) (by omega)
      rw [f_X7_shift_L19, if_pos q0]
      split <;> rfl
    · have e3 : sbd A (wal (sfJ A k (A 0 0))) (A 0 0) = true := by
        rcases Bool.eq_false_or_eq_true (sbd A (wal (sfJ A k (A 0 0))) (A 0 0)) with z | z
        · exact z
        · exact absurd (q.mpr z) e2
      refine ⟨W', ?_, g3.trans ih2⟩
      simp only [e3, if_true, n1, if_false, if_neg e2]
      exact ih
theorem op_shift (R : RR A m0 (px A h1) m3 m4 ks m13 (pm A M)) (m2 : Mem) : ∃ r m2' M', f_X6_shift m0 (px A h1) m2 = some (r, m2') ∧ f_X7_shift (pm A M) = some (r, M') ∧ RR A m0 (px A h1) m3 m4 ks m13 M' := by
  have wf := R.1
  have wb := wf.1
  obtain ⟨C', c1⟩ := X_shiftL (m0 := m0) (h1 := h1) wf 61 0 6000 m2 (by omega) (by omega)
  obtain ⟨W', d1, d2⟩ := M_shiftL wf 61 0 6000 _ (by omega) (by omega) (kp_tk (A := A) (M := M14 M))
  refine ⟨_, C', pm A W', c1, ?_, R.kp (ke14.trans (ke_tk.trans d2))⟩
  have d1' : f_X7_shift_L19 (nI (uwN A (A 0 0))) 6000 (-9) 0 (pm A (tk A (M14 M))) = some (fr (sfO A) nI (-9) 61 0, pm A W') := d1
  unfold f_X7_shift
  rw [na_lt, M_t14, M_unwed wb, Option.bind_some, M_think, Option.bind_some, d1', Option.bind_some]
end OPS9
