/-! WEDDINGS one after the other, and what is told of a hall -/
theorem ua_s {A : AM} {p k v : Nat} : ua A p k v p k = v := by simp [ua]
theorem ua_n {A : AM} {p k v q j : Nat} (h : ¬ (q = p ∧ j = k)) : ua A p k v q j = A q j := if_neg h
def okv (p k v : Nat) : Prop := (p = 0 → (k = 0 → v ≤ 7) ∧ (k = 4 → v < 128) ∧ (k = 8 → v ≤ 7) ∧ (k = 10 → 1 ≤ v ∧ v ≤ 2) ∧ (k = 12 → v ≤ 99) ∧ (k = 13 → v ≤ 9)) ∧ (p = 8 → v ≤ 999) ∧ (p = 1 → v ≤ 5) ∧ (p = 2 → v ≤ 9) ∧ (p = 3 → v ≤ 500) ∧ (p = 4 → v ≤ 2000) ∧ (p = 5 → v ≤ 999) ∧ (p = 6 → v ≤ 1) ∧ (p = 7 → v < 7)
theorem WB_ua {A : AM} {p k v : Nat} (w : WB A) (h : okv p k v) : WB (ua A p k v) := by
  obtain ⟨w1, w2, w3, ⟨w4, w5⟩, w6, w7, ⟨w8, w9⟩, w10⟩ := w
  obtain ⟨h0, h8, h1, h2, h3, h4, h5, h6, h7⟩ := h
  refine ⟨?_, ?_, ?_, ⟨?_, ?_⟩, ?_, ?_, ⟨?_, ?_⟩, fun c hc => ?_⟩
  · simp only [ua]; split
    · omega
    · assumption
  · simp only [ua]; split
    · omega
    · assumption
  · simp only [ua]; split
    · omega
    · assumption
  · simp only [ua]; split
    · omega
    · assumption
  · simp only [ua]; split
    · omega
    · assumption
  · simp only [ua]; split
    · omega
    · assumption
  · simp only [ua]; split
    · omega
    · assumption
  · simp only [ua]; split
    · omega
    · assumption
  · simp only [ua]; split
    · omega
    · assumption
  · obtain ⟨c1, c2, c3, c4, c5, c6, c7⟩ := w10 c hc
    refine ⟨?_, ?_, ?_, ?_, ?_, ?_, ?_⟩
    · simp only [ua]; split
      · omega
      · assumption
    · simp only [ua]; split
      · omega
      · assumption
    · simp only [ua]; split
      · omega
      · assumption
    · simp only [ua]; split
      · omega
      · assumption
    · simp only [ua]; split
      · omega
      · assumption
    · simp only [ua]; split
      · omega
      · assumption
    · simp only [ua]; split
      · omega
      · assumption
theorem beA_le {A : AM} (w : WB A) {c : Nat} (hc : c < 7) : beA A c ≤ 1000 := by
  obtain ⟨b1, b2, b3, -⟩ := w.2.2.2.2.2.2.2 c hc
  have hfr := free_le w (rmA_lt A)
  have hy := ready_le (k := A 1 c) (a := A 3 c) b2
  unfold beA
  split <;> omega
theorem tkA_le {A : AM} (w : WB A) {c more : Nat} (hc : c < 7) (hm : more ≤ 10) : tkA A c more ≤ 60 := by
  obtain ⟨b1, b2, b3, -⟩ := w.2.2.2.2.2.2.2 c hc
  have hl := lasts_le (k := A 1 c) b2
  unfold tkA
  split <;> omega
theorem WB_hoA {A : AM} (w : WB A) {c more : Nat} (hc : c < 7) (hm : more ≤ 10) : WB (hoA A c more) := by
  have h1 := beA_le w hc
  have h2 := tkA_le w hc hm
  have h3 := rmA_lt A
  have h4 : enA A c more ≤ 999 := Nat.min_le_right _ _
  have w6 := w.2.2.2.2.1
  unfold hoA
  refine WB_ua (WB_ua (WB_ua (WB_ua (WB_ua w ?_) ?_) ?_) ?_) ?_ <;> unfold okv <;> omega
def shA (A : AM) (j : Nat) : AM := fun p q => if p = 7 ∧ q < j then A 7 (q + 1) else A p q
def offA (A : AM) : AM := ua (shA A (A 0 8 - 1)) 0 8 (A 0 8 - 1)
def wsA (A : AM) : AM := ua (offA A) 0 4 (A 0 4 ||| 2 ^ A 7 0)
def weA (A : AM) (more : Nat) : AM := hoA (wsA A) (A 7 0) more
theorem shA_0 {A : AM} : shA A 0 = A := by
  funext p q
  simp [shA]
theorem shA_s {A : AM} {j : Nat} : ua (shA A j) 7 j (A 7 (j + 1)) = shA A (j + 1) := by
  funext p q
  simp only [ua, shA]
  repeat' split
  all_goals first | rfl | (exfalso; omega) | (simp_all; done) | (congr 1; omega)
theorem shA_0n {A : AM} {j k : Nat} : shA A j 0 k = A 0 k := by simp [shA]
theorem shA_at {A : AM} {j : Nat} : shA A j 7 (j + 1) = A 7 (j + 1) := by simp [shA]
theorem WB_shA {A : AM} {j : Nat} (w : WB A) (hj : j ≤ 6) : WB (shA A j) := by
  obtain ⟨w1, w2, w3, ⟨w4, w5⟩, w6, w7, ⟨w8, w9⟩, w10⟩ := w
  refine ⟨by simpa [shA] using w1, by simpa [shA] using w2, by simpa [shA] using w3, ⟨by simpa [shA] using w4, by simpa [shA] using w5⟩, by simpa [shA] using w6, by simpa [shA] using w7, ⟨by simpa [shA] using w8, by simpa [shA] using w9⟩, fun c hc => ?_⟩
  obtain ⟨c1, c2, c3, c4, c5, c6, c7⟩ := w10 c hc
  refine ⟨by simpa [shA] using c1, by simpa [shA] using c2, by simpa [shA] using c3, by simpa [shA] using c4, by simpa [shA] using c5, by simpa [shA] using c6, ?_⟩
  simp only [shA]
  split
  · exact (w10 (c + 1) (by omega)).2.2.2.2.2.2
  · exact c7
theorem WB_wsA {A : AM} (w : WB A) (h1 : 1 ≤ A 0 8) : WB (wsA A) := by
  have hc := (w.2.2.2.2.2.2.2 0 (by omega)).2.2.2.2.2.2
  have w3 := w.2.2.1
  have w2 := w.2.1
  have := na_orlt (A 0 4) w2 (A 7 0) hc
  unfold wsA offA
  refine WB_ua (WB_ua (WB_shA w (by omega)) ?_) ?_ <;> unfold okv <;> omega
theorem WB_weA {A : AM} (w : WB A) (h1 : 1 ≤ A 0 8) {more : Nat} (hm : more ≤ 10) : WB (weA A more) := WB_hoA (WB_wsA w h1) ((w.2.2.2.2.2.2.2 0 (by omega)).2.2.2.2.2.2) hm
theorem X_wedFirst {A : AM} {h : Mem} (w : WB A) (h1 : 1 ≤ A 0 8) {more : Nat} (hm : more ≤ 10) : f_X2_wedFirst (px A h) (nI more) = some (px (weA A more) h) := by
  have hc := (w.2.2.2.2.2.2.2 0 (by omega)).2.2.2.2.2.2
  have w3 := w.2.2.1
  have w2 := w.2.1
  unfold f_X2_wedFirst
  have hl : f_X2_wedFirst_L28 6000 (nI 0) (px (ua (shA A 0) 0 8 (A 0 8 - 1)) h) = some (px (offA A) h) := by
    refine lp (fun f s i => f_X2_wedFirst_L28 f i s) (A 0 8 - 1) (fun j => px (ua (shA A j) 0 8 (A 0 8 - 1)) h) (fun f => ?_) (fun f j hj => ?_) (A 0 8 - 1) 0 6000 (by omega) (by omega)
    · show f_X2_wedFirst_L28 (f + 1) _ _ = _
      rw [f_X2_wedFirst_L28, px_0_8, ua_s, if_pos (nI_le (Nat.le_refl _) (by omega))]
      rfl
    · show f_X2_wedFirst_L28 (f + 1) _ _ = f_X2_wedFirst_L28 f _ _
      rw [f_X2_wedFirst_L28, px_0_8, ua_s, if_neg (nI_ge hj (by omega))]
      simp (disch := omega) only [na_lit, nI_add, na_inb, na_ck, na_ix, na_lt, px_7]
      rw [ua_n (by omega), shA_at, px_w7 (by omega)]
      congr 2
      funext p q
      simp only [ua, shA]
      repeat' split
      all_goals first | rfl | (exfalso; omega) | (simp_all; done) | (congr 1; omega)
  rw [shA_0] at hl
  rw [if_pos (by rw [px_0_8, na_lit 1, nI_leI (by omega) (by omega)]; exact h1)]
  simp (disch := omega) only [na_lt, px_0_8, na_lit, px_7, pk_sub, px_w0_8]
  rw [hl]
  have e4 : offA A 0 4 = A 0 4 := by simp [offA, ua, shA]
  have e1 : (nI (OfNat.ofNat 1) : Int32) = 1 := rfl
  simp only [Option.bind_some, px_0_4, e4]
  rw [e1, show (nI (OfNat.ofNat 31) : Int32) = 31 from rfl, na_or (A 0 4) w2 (A 7 0) hc, px_w0_4]
  have := X_hold (h := h) (WB_wsA w h1) hc hm
  unfold wsA at this
  rw [this]
  rfl
theorem M_firstOff {A : AM} {M : Mem} (w : WB A) (h1 : 1 ≤ A 0 8) : f_X7_firstOff (pm A M) = some (nI (A 7 0), pm (offA A) M) := by
  have w3 := w.2.2.1
  unfold f_X7_firstOff
  have hl : f_X7_firstOff_L9 6000 (nI 1) (pm (shA A (1 - 1)) M) = some (pm (shA A (A 0 8 - 1)) M) := by
    refine lp1 1 (fun f s i => f_X7_firstOff_L9 f i s) (A 0 8) (fun j => pm (shA A (j - 1)) M) (r := some (pm (shA A (A 0 8 - 1)) M)) (fun f => ?_) (fun f j hj1 hj => ?_) (A 0 8 - 1) 1 6000 (by omega) (by omega) (by omega)
    · show f_X7_firstOff_L9 (f + 1) _ _ = _
      rw [f_X7_firstOff_L9, pm_0_9, shA_0n, if_pos (nI_le (Nat.le_refl _) (by omega))]
    · show f_X7_firstOff_L9 (f + 1) _ _ = f_X7_firstOff_L9 f _ _
      rw [f_X7_firstOff_L9, pm_0_9, shA_0n, if_neg (nI_ge hj (by omega))]
      cases j with
      | zero => omega
      | succ j =>
        simp (disch := omega) only [na_lit, nI_add, na_inb, na_ck, na_ix, na_lt, pk_sub, pm_8]
        simp only [Nat.add_sub_cancel]
        rw [shA_at, pm_w8 (by omega), shA_s]
  simp only [Nat.sub_self, shA_0] at hl
  simp (disch := omega) only [na_lt, pm_8]
  have e : (1 : Int32) = nI 1 := rfl
  rw [e, hl]
  simp (disch := omega) only [Option.bind_some, pm_0_9, shA_0n, pk_sub, pm_w0_9]
  rfl

