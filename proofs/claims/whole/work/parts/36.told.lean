/-! WHAT IS TOLD of a hall -/
theorem na_mostI (x y : Int32) : f_X7_most x y = some (imax x y) := by
  unfold f_X7_most imax
  by_cases h : x < y
  · rw [if_pos h, if_pos (fa_of_lt h).1]
  · rw [if_neg h]
    by_cases e : x ≤ y
    · have : x = y := by
        rw [fa_le] at e; rw [fa_lt] at h; rw [fa_eq]; omega
      rw [if_pos e, this]
    · rw [if_neg e]
def mxN (f : Nat → Nat) : Nat → Nat
  | 0 => 0
  | n + 1 => max (mxN f n) (f n)
theorem mxN_le {f : Nat → Nat} {b : Nat} : ∀ n, (∀ k, k < n → f k ≤ b) → mxN f n ≤ b
  | 0, _ => Nat.zero_le _
  | n + 1, h => by
    have := mxN_le n (fun k hk => h k (by omega))
    have := h n (by omega)
    show max _ _ ≤ b
    omega
def nea (e b : Nat) : Bool := decide (e ≤ b + 2 ∧ b ≤ e + 2)
def mt (A : AM) (c d : Nat) : Bool := nea (A 5 c) (A 4 d) || nea (A 5 d) (A 4 c)
def cn (p : Nat → Bool) (lo : Nat) : Nat → Nat
  | 0 => 0
  | k + 1 => cn p lo k + (if p (lo + k) then 1 else 0)
theorem cn_le {p : Nat → Bool} {lo : Nat} : ∀ k, cn p lo k ≤ k
  | 0 => Nat.le_refl _
  | k + 1 => by
    have := cn_le (p := p) (lo := lo) k
    show cn p lo k + _ ≤ _
    split <;> omega
section TOLD
variable {A : AM} {h M : Mem}
theorem X_isWed (w : WB A) {c : Nat} (hc : c < 7) : f_X2_isWed (px A h) (nI c) = some (nI (A 0 4 / 2 ^ c % 2)) := by
  have w2 := w.2.1
  unfold f_X2_isWed
  rw [px_0_4, na_bit (A 0 4) w2 c hc]
  have : A 0 4 / 2 ^ c % 2 < 2 := Nat.mod_lt _ (by omega)
  rcases (show A 0 4 / 2 ^ c % 2 = 0 ∨ A 0 4 / 2 ^ c % 2 = 1 by omega) with e | e <;> rw [e] <;> rfl
theorem X_last (w : WB A) : f_X2_last (px A h) = some (nI (mxN (fun c => A 5 c) (A 0 0))) := by
  have w1 := w.1
  have hb : ∀ j, j ≤ A 0 0 → mxN (fun c => A 5 c) j ≤ 999 := fun j hj => mxN_le j (fun k hk => (w.2.2.2.2.2.2.2 k (by omega)).2.2.2.2.1)
  have hl : f_X2_last_L4 (px A h) 6000 (nI (mxN (fun c => A 5 c) 0)) (nI 0) = some (nI (mxN (fun c => A 5 c) (A 0 0))) := by
    refine lp (fun f s i => f_X2_last_L4 (px A h) f s i) (A 0 0) (fun j => nI (mxN (fun c => A 5 c) j)) (fun f => ?_) (fun f j hj => ?_) (A 0 0) 0 6000 (by omega) (by omega)
    · show f_X2_last_L4 _ (f + 1) _ _ = _
      rw [f_X2_last_L4]
      simp (disch := omega) only [px_0_0, na_le, Nat.le_refl, if_true]
    · show f_X2_last_L4 _ (f + 1) _ _ = f_X2_last_L4 _ f _ _
      rw [f_X2_last_L4]
      have hj2 : ¬ (A 0 0) ≤ j := by omega
      have h1 := hb j (by omega)
      have h2 := (w.2.2.2.2.2.2.2 j (by omega)).2.2.2.2.1
      simp (disch := omega) only [px_0_0, hj2, if_false, na_lit, na_le, na_inb, na_ck, na_ix, na_lt, nI_add, px_5, na_max]
      rfl
  unfold f_X2_last
  exact (congrArg (fun o => Option.bind o (fun t => some t)) hl)
theorem M_last (w : WB A) : f_X7_lastEnd (pm A M) = some (nI (mxN (fun c => A 5 c) (A 0 0))) := by
  have w1 := w.1
  have hb : ∀ j, j ≤ A 0 0 → mxN (fun c => A 5 c) j ≤ 999 := fun j hj => mxN_le j (fun k hk => (w.2.2.2.2.2.2.2 k (by omega)).2.2.2.2.1)
  have hl : f_X7_lastEnd_L4 (pm A M) 6000 (nI (mxN (fun c => A 5 c) 0)) (nI 0) = some (nI (mxN (fun c => A 5 c) (A 0 0))) := by
    refine lp (fun f s i => f_X7_lastEnd_L4 (pm A M) f s i) (A 0 0) (fun j => nI (mxN (fun c => A 5 c) j)) (fun f => ?_) (fun f j hj => ?_) (A 0 0) 0 6000 (by omega) (by omega)
    · show f_X7_lastEnd_L4 _ (f + 1) _ _ = _
      rw [f_X7_lastEnd_L4]
      simp (disch := omega) only [pm_0_0, na_le, Nat.le_refl, if_true]
    · show f_X7_lastEnd_L4 _ (f + 1) _ _ = f_X7_lastEnd_L4 _ f _ _
      rw [f_X7_lastEnd_L4]
      have hj2 : ¬ (A 0 0) ≤ j := by omega
      have h1 := hb j (by omega)
      have h2 := (w.2.2.2.2.2.2.2 j (by omega)).2.2.2.2.1
      simp (disch := omega) only [pm_0_0, hj2, if_false, na_lit, na_le, na_inb, na_ck, na_ix, na_lt, nI_add, pm_6, na_most, Option.bind_some]
      rfl
  unfold f_X7_lastEnd
  exact (congrArg (fun o => Option.bind o (fun t => some t)) hl)
theorem X_meet (w : WB A) {c d : Nat} (hc : c < 7) (hd : d < 7) : f_X2_meet (px A h) (nI c) (nI d) = some (nI (if mt A c d then 1 else 0)) := by
  obtain ⟨-, -, -, c4, c5, -⟩ := w.2.2.2.2.2.2.2 c hc
  obtain ⟨-, -, -, d4, d5, -⟩ := w.2.2.2.2.2.2.2 d hd
  unfold f_X2_meet mt nea
  simp (disch := omega) only [na_lit, na_inb, na_ck, na_ix, px_4, px_5, na_abs, na_absg]
  by_cases h1 : A 5 c ≤ A 4 d + 2 ∧ A 4 d ≤ A 5 c + 2
  · simp [h1]
  · by_cases h2 : A 5 d ≤ A 4 c + 2 ∧ A 4 c ≤ A 5 d + 2
    · simp [h1, h2]
    · simp [h1, h2]
theorem M_near {e b : Nat} (he : e < 1073741824) (hb : b < 1073741824) : f_X7_isNear (nI e) (nI b) = some (if nea e b then 1 else 0) := by
  unfold f_X7_isNear nea
  rw [show (-2 : Int64) = -(lN 2) from rfl, show (2 : Int64) = lN 2 from rfl, na_near he hb (by omega)]
  by_cases h1 : e ≤ b + 2 ∧ b ≤ e + 2
  · simp [h1, na_ck, isb]
  · simp [h1, na_ck, isb]
theorem M_meet (w : WB A) {c d : Nat} (hc : c < 7) (hd : d < 7) : f_X7_meet (pm A M) (nI c) (nI d) = some (nI (if !(decide (c = d)) && mt A c d then 1 else 0)) := by
  obtain ⟨-, -, -, c4, c5, -⟩ := w.2.2.2.2.2.2.2 c hc
  obtain ⟨-, -, -, d4, d5, -⟩ := w.2.2.2.2.2.2.2 d hd
  unfold f_X7_meet mt
  have e0 : (nI 0 : Int32) = 0 := rfl
  have e1 : (nI 1 : Int32) = 1 := rfl
  by_cases hcd : c = d
  · subst hcd; simp [e0]
  · have hne : ¬ nI c = nI d := by rw [nI_eq (by omega) (by omega)]; exact hcd
    rw [if_neg hne]
    simp (disch := omega) only [na_inb, na_ck, na_ix, pm_5, pm_6, M_near]
    cases nea (A 5 c) (A 4 d) <;> cases nea (A 5 d) (A 4 c) <;> simp [hcd, e0, e1]
/-- how many of those from lo on, k of them -/
theorem X_meetN_L (w : WB A) {c : Nat} (hc : c < A 0 0) (v : Nat) (hv : v < 1000) : f_X2_meetings_L16 (px A h) (nI c) 6000 (nI v) (nI (c + 1)) = some (nI (v + cn (mt A c) (c + 1) (A 0 0 - (c + 1)))) := by
  have w1 := w.1
  have := lp_lo (c + 1) (fun f s i => f_X2_meetings_L16 (px A h) (nI c) f s i) (A 0 0) (fun j => nI (v + cn (mt A c) (c + 1) (j - (c + 1)))) (r := some (nI (v + cn (mt A c) (c + 1) (A 0 0 - (c + 1))))) (fun f => ?_) (fun f j hjl hj => ?_) (A 0 0 - (c + 1)) (c + 1) 6000 (by omega) (by omega) (by omega)
  · simp only [Nat.sub_self, cn, Nat.add_zero] at this
    exact this
  · show f_X2_meetings_L16 _ _ (f + 1) _ _ = _
    rw [f_X2_meetings_L16]
    simp (disch := omega) only [px_0_0, na_le, Nat.le_refl, if_true]
  · show f_X2_meetings_L16 _ _ (f + 1) _ _ = f_X2_meetings_L16 _ _ f _ _
    rw [f_X2_meetings_L16]
    have hj2 : ¬ (A 0 0) ≤ j := by omega
    have e : j + 1 - (c + 1) = (j - (c + 1)) + 1 := by omega
    have e2 : c + 1 + (j - (c + 1)) = j := by omega
    simp (disch := omega) only [px_0_0, hj2, if_false, na_le, X_meet w (by omega : c < 7) (by omega : j < 7), Option.bind_some, na_lt]
    rw [e, cn, e2]
    cases mt A c j
    · simp (disch := omega) only [na_lit, na_eq, nI_add]; rfl
    · simp (disch := omega) only [na_lit, na_eq, nI_add]; rfl
theorem M_meetN_L (w : WB A) {c : Nat} (hc : c < A 0 0) (v : Nat) (hv : v < 1000) : f_X7_meetMany_L16 (pm A M) (nI c) 6000 (nI v) (nI (c + 1)) = some (nI (v + cn (mt A c) (c + 1) (A 0 0 - (c + 1)))) := by
  have w1 := w.1
  have := lp_lo (c + 1) (fun f s i => f_X7_meetMany_L16 (pm A M) (nI c) f s i) (A 0 0) (fun j => nI (v + cn (mt A c) (c + 1) (j - (c + 1)))) (r := some (nI (v + cn (mt A c) (c + 1) (A 0 0 - (c + 1))))) (fun f => ?_) (fun f j hjl hj => ?_) (A 0 0 - (c + 1)) (c + 1) 6000 (by omega) (by omega) (by omega)
  · simp only [Nat.sub_self, cn, Nat.add_zero] at this
    exact this
  · show f_X7_meetMany_L16 _ _ (f + 1) _ _ = _
    rw [f_X7_meetMany_L16]
    simp (disch := omega) only [pm_0_0, na_le, Nat.le_refl, if_true]
  · show f_X7_meetMany_L16 _ _ (f + 1) _ _ = f_X7_meetMany_L16 _ _ f _ _
    rw [f_X7_meetMany_L16]
    have hj2 : ¬ (A 0 0) ≤ j := by omega
    have e : j + 1 - (c + 1) = (j - (c + 1)) + 1 := by omega
    have e2 : c + 1 + (j - (c + 1)) = j := by omega
    have hcj : ¬ c = j := by omega
    simp (disch := omega) only [pm_0_0, hj2, if_false, na_le, M_meet w (by omega : c < 7) (by omega : j < 7), Option.bind_some, na_lt]
    rw [e, cn, e2]
    simp only [hcj, decide_false, Bool.not_false, Bool.true_and]
    cases mt A c j
    · simp (disch := omega) only [na_lit, na_eq, nI_add]; rfl
    · simp (disch := omega) only [na_lit, na_eq, nI_add]; rfl
def mtS (A : AM) : Nat := fb_sm (fun c => cn (mt A c) (c + 1) (A 0 0 - (c + 1))) (A 0 0)
theorem mtS_lt (w : WB A) : ∀ j, j ≤ A 0 0 → fb_sm (fun c => cn (mt A c) (c + 1) (A 0 0 - (c + 1))) j ≤ 7 * j
  | 0, _ => Nat.le_refl _
  | j + 1, hj => by
    have w1 := w.1
    have := mtS_lt w j (by omega)
    have h2 := cn_le (p := mt A j) (lo := j + 1) (A 0 0 - (j + 1))
    show fb_sm _ j + cn (mt A j) (j + 1) (A 0 0 - (j + 1)) ≤ _
    omega
theorem X_meetings (w : WB A) : f_X2_meetings (px A h) = some (nI (mtS A)) := by
  have w1 := w.1
  have hl : f_X2_meetings_L4 (px A h) 6000 (nI (fb_sm (fun c => cn (mt A c) (c + 1) (A 0 0 - (c + 1))) 0)) (nI 0) = some (nI (mtS A)) := by
    refine lp (fun f s i => f_X2_meetings_L4 (px A h) f s i) (A 0 0) (fun j => nI (fb_sm (fun c => cn (mt A c) (c + 1) (A 0 0 - (c + 1))) j)) (fun f => ?_) (fun f j hj => ?_) (A 0 0) 0 6000 (by omega) (by omega)
    · show f_X2_meetings_L4 _ (f + 1) _ _ = _
      rw [f_X2_meetings_L4]
      simp (disch := omega) only [px_0_0, na_le, Nat.le_refl, if_true]
      rfl
    · show f_X2_meetings_L4 _ (f + 1) _ _ = f_X2_meetings_L4 _ f _ _
      rw [f_X2_meetings_L4]
      have hj2 : ¬ (A 0 0) ≤ j := by omega
      have := mtS_lt w j (by omega)
      simp (disch := omega) only [px_0_0, hj2, if_false, na_le, na_lt, nI_1]
      rw [X_meetN_L w hj _ (by omega)]
      rfl
  unfold f_X2_meetings
  exact (congrArg (fun o => Option.bind o (fun t => some t)) hl)
theorem M_meetings (w : WB A) : f_X7_meetMany (pm A M) = some (nI (mtS A)) := by
  have w1 := w.1
  have hl : f_X7_meetMany_L4 (pm A M) 6000 (nI (fb_sm (fun c => cn (mt A c) (c + 1) (A 0 0 - (c + 1))) 0)) (nI 0) = some (nI (mtS A)) := by
    refine lp (fun f s i => f_X7_meetMany_L4 (pm A M) f s i) (A 0 0) (fun j => nI (fb_sm (fun c => cn (mt A c) (c + 1) (A 0 0 - (c + 1))) j)) (fun f => ?_) (fun f j hj => ?_) (A 0 0) 0 6000 (by omega) (by omega)
    · show f_X7_meetMany_L4 _ (f + 1) _ _ = _
      rw [f_X7_meetMany_L4]
      simp (disch := omega) only [pm_0_0, na_le, Nat.le_refl, if_true]
      rfl
    · show f_X7_meetMany_L4 _ (f + 1) _ _ = f_X7_meetMany_L4 _ f _ _
      rw [f_X7_meetMany_L4]
      have hj2 : ¬ (A 0 0) ≤ j := by omega
      have := mtS_lt w j (by omega)
      simp (disch := omega) only [pm_0_0, hj2, if_false, na_le, na_lt, nI_1]
      rw [M_meetN_L w hj _ (by omega)]
      rfl
  unfold f_X7_meetMany
  exact (congrArg (fun o => Option.bind o (fun t => some t)) hl)
/-- the first two who meet -/
def fmd (A : AM) (c : Nat) (e : Int32) : Nat → Nat → Int32
  | 0, _ => e
  | k + 1, d => if mt A c d then nI (10 * c + d) else fmd A c e k (d + 1)
def fmc (A : AM) : Nat → Nat → Int32
  | 0, _ => -9
  | k + 1, c => fmd A c (fmc A k (c + 1)) (A 0 0 - (c + 1)) (c + 1)
theorem X_fmd (w : WB A) {c : Nat} (hc : c < A 0 0) {e : Int32} {K : Int32 → Option Int32} (hK : K (nI (c + 1)) = some e) : ∀ k d f, c < d → d + k = A 0 0 → k < f → f_X2_firstMeeting_L14 K (px A h) (nI c) f (nI d) = some (fmd A c e k d)
  | 0, d, f, h0, h1, h2 => by
    obtain ⟨f, rfl⟩ : ∃ g, f = g + 1 := ⟨f - 1, by omega⟩
    have w1 := w.1
    rw [f_X2_firstMeeting_L14, px_0_0, if_pos (nI_le (by omega) (by omega)), na_lt, nI_1, hK]
    rfl
  | k + 1, d, f, h0, h1, h2 => by
    obtain ⟨f, rfl⟩ : ∃ g, f = g + 1 := ⟨f - 1, by omega⟩
    have w1 := w.1
    rw [f_X2_firstMeeting_L14, px_0_0, if_neg (nI_ge (by omega) (by omega)), X_meet w (by omega) (by omega), Option.bind_some, fmd]
    cases mt A c d
    · rw [if_pos (by decide), na_lt, nI_1, X_fmd w hc hK k (d + 1) f (by omega) (by omega) (by omega)]
      rfl
    · rw [if_neg (by decide), show (10 : Int32) = nI 10 from rfl, pk_mul, nI_add]
      rfl
theorem X_fmc (w : WB A) : ∀ k c f, c + k = A 0 0 → k < f → f_X2_firstMeeting_L2 (px A h) f (nI c) = some (fmc A k c)
  | 0, c, f, h1, h2 => by
    obtain ⟨f, rfl⟩ : ∃ g, f = g + 1 := ⟨f - 1, by omega⟩
    have w1 := w.1
    rw [f_X2_firstMeeting_L2, px_0_0, if_pos (nI_le (by omega) (by omega))]
    rfl
  | k + 1, c, f, h1, h2 => by
    obtain ⟨f, rfl⟩ : ∃ g, f = g + 1 := ⟨f - 1, by omega⟩
    have w1 := w.1
    rw [f_X2_firstMeeting_L2, px_0_0, if_neg (nI_ge (by omega) (by omega)), na_lt, nI_1, X_fmd w (by omega) (X_fmc w k (c + 1) f (by omega) (by omega)) (A 0 0 - (c + 1)) (c + 1) 6000 (by omega) (by omega) (by omega)]
    rfl
theorem M_fmd (w : WB A) {c : Nat} (hc : c < A 0 0) {e : Int32} {K : Int32 → Option Int32} (hK : K (nI (c + 1)) = some e) : ∀ k d f, c < d → d + k = A 0 0 → k < f → f_X7_firstMet_L14 K (pm A M) (nI c) f (nI d) = some (fmd A c e k d)
  | 0, d, f, h0, h1, h2 => by
    obtain ⟨f, rfl⟩ : ∃ g, f = g + 1 := ⟨f - 1, by omega⟩
    have w1 := w.1
    rw [f_X7_firstMet_L14, pm_0_0, if_pos (nI_le (by omega) (by omega)), na_lt, nI_1, hK]
    rfl
  | k + 1, d, f, h0, h1, h2 => by
    obtain ⟨f, rfl⟩ : ∃ g, f = g + 1 := ⟨f - 1, by omega⟩
    have w1 := w.1
    have hcd : ¬ c = d := by omega
    rw [f_X7_firstMet_L14, pm_0_0, if_neg (nI_ge (by omega) (by omega)), M_meet w (by omega) (by omega), Option.bind_some, fmd]
    simp only [hcd, decide_false, Bool.not_false, Bool.true_and]
    cases mt A c d
    · rw [if_pos (by decide), na_lt, nI_1, M_fmd w hc hK k (d + 1) f (by omega) (by omega) (by omega)]
      rfl
    · rw [if_neg (by decide), show (10 : Int32) = nI 10 from rfl, pk_mul, nI_add]
      rfl
theorem M_fmc (w : WB A) : ∀ k c f, c + k = A 0 0 → k < f → f_X7_firstMet_L2 (pm A M) f (nI c) = some (fmc A k c)
  | 0, c, f, h1, h2 => by
    obtain ⟨f, rfl⟩ : ∃ g, f = g + 1 := ⟨f - 1, by omega⟩
    have w1 := w.1
    rw [f_X7_firstMet_L2, pm_0_0, if_pos (nI_le (by omega) (by omega))]
    rfl
  | k + 1, c, f, h1, h2 => by
    obtain ⟨f, rfl⟩ : ∃ g, f = g + 1 := ⟨f - 1, by omega⟩
    have w1 := w.1
    rw [f_X7_firstMet_L2, pm_0_0, if_neg (nI_ge (by omega) (by omega)), na_lt, nI_1, M_fmd w (by omega) (M_fmc w k (c + 1) f (by omega) (by omega)) (A 0 0 - (c + 1)) (c + 1) 6000 (by omega) (by omega) (by omega)]
    rfl
theorem X_firstMeeting (w : WB A) : f_X2_firstMeeting (px A h) = some (fmc A (A 0 0) 0) := by
  have w1 := w.1
  exact X_fmc w (A 0 0) 0 6000 (by omega) (by omega)
theorem M_firstMet (w : WB A) : f_X7_firstMet (pm A M) = some (fmc A (A 0 0) 0) := by
  have w1 := w.1
  exact M_fmc w (A 0 0) 0 6000 (by omega) (by omega)
end TOLD

