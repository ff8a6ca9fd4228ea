/-! WEDDINGS one after the other, and what is told of a hall -/
def okv (p k v : Nat) : Prop := (p = 0 → (k = 0 → v ≤ 7) ∧ (k = 4 → v < 128) ∧ (k = 8 → v ≤ 7) ∧ (k = 10 → 1 ≤ v ∧ v ≤ 2) ∧ (k = 12 → v ≤ 99) ∧ (k = 13 → v ≤ 9)) ∧ (p = 8 → v ≤ 999) ∧ (p = 1 → v ≤ 5) ∧ (p = 2 → v ≤ 9) ∧ (p = 3 → v ≤ 500) ∧ (p = 4 → v ≤ 2000) ∧ (p = 5 → v ≤ 999) ∧ (p = 6 → v ≤ 1) ∧ (p = 7 → v < 7)
theorem WB_ua {A : AM} {p k v : Nat} (w : WB A) (h : okv p k v) : WB (ua A p k v) := by
  obtain ⟨w1, w2, w3, ⟨w4, w5⟩, w6, w7, ⟨w8, w9⟩, w10⟩ := w
  obtain ⟨h0, h8, h1, h2, h3, h4, h5, h6, h7⟩ := h
  refine ⟨?_, ?_, ?_, ⟨?_, ?_⟩, ?_, ?_, ⟨?_, ?_⟩, fun c hc => ?_⟩
  · simp only [ua]; split
    · omega
    · assumption
  · simp only [ua]; split
    · omega
    · assumption
  · simp only [ua]; split
    · omega
    · assumption
  · simp only [ua]; split
    · omega
    · assumption
  · simp only [ua]; split
    · omega
    · assumption
  · simp only [ua]; split
    · omega
    · assumption
  · simp only [ua]; split
    · omega
    · assumption
  · simp only [ua]; split
    · omega
    · assumption
  · simp only [ua]; split
    · omega
    · assumption
  · obtain ⟨c1, c2, c3, c4, c5, c6, c7⟩ := w10 c hc
    refine ⟨?_, ?_, ?_, ?_, ?_, ?_, ?_⟩
    · simp only [ua]; split
      · omega
      · assumption
    · simp only [ua]; split
      · omega
      · assumption
    · simp only [ua]; split
      · omega
      · assumption
    · simp only [ua]; split
      · omega
      · assumption
    · simp only [ua]; split
      · omega
      · assumption
    · simp only [ua]; split
      · omega
      · assumption
    · simp only [ua]; split
      · omega
      · assumption
theorem beA_le {A : AM} (w : WB A) {c : Nat} (hc : c < 7) : beA A c ≤ 1000 := by
  obtain ⟨b1, b2, b3, -⟩ := w.2.2.2.2.2.2.2 c hc
  have hfr := free_le w (rmA_lt A)
  have hy : rdy A c ≤ A 3 c + 16 := ready_le b2
  unfold beA
  split <;> omega
theorem tkA_le {A : AM} (w : WB A) {c more : Nat} (hc : c < 7) (hm : more ≤ 10) : tkA A c more ≤ 60 := by
  obtain ⟨b1, b2, b3, -⟩ := w.2.2.2.2.2.2.2 c hc
  have hl : las A c ≤ 37 ∧ 8 ≤ las A c := lasts_le b2
  unfold tkA
  split <;> omega
theorem WB_hoA {A : AM} (w : WB A) {c more : Nat} (hc : c < 7) (hm : more ≤ 10) : WB (hoA A c more) := by
  have h1 := beA_le w hc
  have h2 := tkA_le w hc hm
  have h3 := rmA_lt A
  have h4 : enA A c more ≤ 999 := Nat.min_le_right _ _
  have w6 := w.2.2.2.2.1
  unfold hoA
  refine WB_ua (WB_ua (WB_ua (WB_ua (WB_ua w ?_) ?_) ?_) ?_) ?_ <;> unfold okv <;> omega
def shA (A : AM) (j : Nat) : AM := fun p q => if p = 7 ∧ q < j then A 7 (q + 1) else A p q
def offA (A : AM) : AM := ua (shA A (A 0 8 - 1)) 0 8 (A 0 8 - 1)
def wsA (A : AM) : AM := ua (offA A) 0 4 (A 0 4 ||| 2 ^ A 7 0)
def weA (A : AM) (more : Nat) : AM := hoA (wsA A) (A 7 0) more
theorem shA_0 {A : AM} : shA A 0 = A := by
  funext p q
  simp [shA]
theorem shA_s {A : AM} {j : Nat} : ua (shA A j) 7 j (A 7 (j + 1)) = shA A (j + 1) := by
  funext p q
  simp only [ua, shA]
  repeat' split
  all_goals first | rfl | (exfalso; omega) | (simp_all; done) | (congr 1; omega)
theorem shA_0n {A : AM} {j k : Nat} : shA A j 0 k = A 0 k := by simp [shA]
theorem shA_at {A : AM} {j : Nat} : shA A j 7 (j + 1) = A 7 (j + 1) := if_neg (by omega)
theorem WB_shA {A : AM} {j : Nat} (w : WB A) (hj : j ≤ 6) : WB (shA A j) := by
  obtain ⟨w1, w2, w3, ⟨w4, w5⟩, w6, w7, ⟨w8, w9⟩, w10⟩ := w
  refine ⟨by simpa [shA] using w1, by simpa [shA] using w2, by simpa [shA] using w3, ⟨by simpa [shA] using w4, by simpa [shA] using w5⟩, by simpa [shA] using w6, by simpa [shA] using w7, ⟨by simpa [shA] using w8, by simpa [shA] using w9⟩, fun c hc => ?_⟩
  obtain ⟨c1, c2, c3, c4, c5, c6, c7⟩ := w10 c hc
  refine ⟨by simpa [shA] using c1, by simpa [shA] using c2, by simpa [shA] using c3, by simpa [shA] using c4, by simpa [shA] using c5, by simpa [shA] using c6, ?_⟩
  simp only [shA]
  split
  · exact (w10 (c + 1) (by omega)).2.2.2.2.2.2
  · exact c7
theorem WB_wsA {A : AM} (w : WB A) (h1 : 1 ≤ A 0 8) : WB (wsA A) := by
  have hc := (w.2.2.2.2.2.2.2 0 (by omega)).2.2.2.2.2.2
  have w3 := w.2.2.1
  have w2 := w.2.1
  have := na_orlt (A 0 4) w2 (A 7 0) hc
  unfold wsA offA
  refine WB_ua (WB_ua (WB_shA w (by omega)) ?_) ?_ <;> unfold okv <;> omega
theorem WB_weA {A : AM} (w : WB A) (h1 : 1 ≤ A 0 8) {more : Nat} (hm : more ≤ 10) : WB (weA A more) := WB_hoA (WB_wsA w h1) ((w.2.2.2.2.2.2.2 0 (by omega)).2.2.2.2.2.2) hm
theorem X_wedFirst {A : AM} {h : Mem} (w : WB A) (h1 : 1 ≤ A 0 8) {more : Nat} (hm : more ≤ 10) : f_X2_wedFirst (px A h) (nI more) = some (px (weA A more) h) := by
  have hc := (w.2.2.2.2.2.2.2 0 (by omega)).2.2.2.2.2.2
  have w3 := w.2.2.1
  have w2 := w.2.1
  unfold f_X2_wedFirst
  have hl : f_X2_wedFirst_L28 6000 (nI 0) (px (ua (shA A 0) 0 8 (A 0 8 - 1)) h) = some (px (offA A) h) := by
    refine lp (fun f s i => f_X2_wedFirst_L28 f i s) (A 0 8 - 1) (fun j => px (ua (shA A j) 0 8 (A 0 8 - 1)) h) (fun f => ?_) (fun f j hj => ?_) (A 0 8 - 1) 0 6000 (by omega) (by omega)
    · show f_X2_wedFirst_L28 (f + 1) _ _ = _
      rw [f_X2_wedFirst_L28, px_0_8, ua_s, if_pos (nI_le (Nat.le_refl _) (by omega))]
      rfl
    · show f_X2_wedFirst_L28 (f + 1) _ _ = f_X2_wedFirst_L28 f _ _
      rw [f_X2_wedFirst_L28, px_0_8, ua_s, if_neg (nI_ge hj (by omega))]
      simp (disch := omega) only [na_lit, nI_add, na_inb, na_ck, na_ix, na_lt, px_7]
      rw [ua_n (by omega), shA_at, px_w7 (by omega)]
      congr 2
      funext p q
      simp only [ua, shA]
      repeat' split
      all_goals first | rfl | (exfalso; omega) | (simp_all; done) | (congr 1; omega)
  rw [shA_0] at hl
  rw [if_pos (by rw [px_0_8, show (1 : Int32) = nI 1 from rfl, nI_leI (by omega) (by omega)]; exact h1)]
  simp (disch := omega) only [na_lt, px_0_8, na_lit, px_7, pk_sub, px_w0_8]
  rw [hl]
  have e4 : offA A 0 4 = A 0 4 := by simp [offA, ua, shA]
  have e1 : (nI (OfNat.ofNat 1) : Int32) = 1 := rfl
  simp only [Option.bind_some, px_0_4, e4]
  rw [e1, show (nI (OfNat.ofNat 31) : Int32) = 31 from rfl, na_or (A 0 4) w2 (A 7 0) hc, px_w0_4]
  have := X_hold (h := h) (WB_wsA w h1) hc hm
  unfold wsA at this
  rw [this]
  rfl
theorem M_firstOff {A : AM} {M : Mem} (w : WB A) (h1 : 1 ≤ A 0 8) : f_X7_firstOff (pm A M) = some (nI (A 7 0), pm (offA A) M) := by
  have w3 := w.2.2.1
  unfold f_X7_firstOff
  have hl : f_X7_firstOff_L9 6000 (nI 1) (pm (shA A (1 - 1)) M) = some (pm (shA A (A 0 8 - 1)) M) := by
    refine lp_lo 1 (fun f s i => f_X7_firstOff_L9 f i s) (A 0 8) (fun j => pm (shA A (j - 1)) M) (r := some (pm (shA A (A 0 8 - 1)) M)) (fun f => ?_) (fun f j hj1 hj => ?_) (A 0 8 - 1) 1 6000 (by omega) (by omega) (by omega)
    · show f_X7_firstOff_L9 (f + 1) _ _ = _
      rw [f_X7_firstOff_L9, pm_0_9, shA_0n, if_pos (nI_le (Nat.le_refl _) (by omega))]
    · show f_X7_firstOff_L9 (f + 1) _ _ = f_X7_firstOff_L9 f _ _
      rw [f_X7_firstOff_L9, pm_0_9, shA_0n, if_neg (nI_ge hj (by omega))]
      cases j with
      | zero => omega
      | succ j =>
        simp (disch := omega) only [na_lit, nI_add, na_inb, na_ck, na_ix, na_lt, pk_sub, pm_8]
        simp only [Nat.add_sub_cancel]
        rw [shA_at, pm_w8 (by omega), shA_s]
  simp only [Nat.sub_self, shA_0] at hl
  simp (disch := omega) only [na_lt, pm_8]
  have e : (1 : Int32) = nI 1 := rfl
  rw [e, hl]
  simp (disch := omega) only [Option.bind_some, pm_0_9, shA_0n, pk_sub, pm_w0_9]
  rfl

theorem M_wedOne {A : AM} {M : Mem} (w : WB A) (h1 : 1 ≤ A 0 8) {more : Nat} (hm : more ≤ 10) : f_X7_wedOne (pm A M) (nI more) = some (pm (weA A more) M) := by
  have hc := (w.2.2.2.2.2.2.2 0 (by omega)).2.2.2.2.2.2
  have w3 := w.2.2.1
  have w2 := w.2.1
  have hw := WB_wsA w h1
  obtain ⟨c, hcc⟩ : ∃ c, c = A 7 0 := ⟨_, rfl⟩
  obtain ⟨A1, hA1⟩ : ∃ A1, A1 = offA A := ⟨_, rfl⟩
  have hA2 : wsA A = ua A1 0 4 (A1 0 4 ||| 2 ^ c) := by
    rw [hA1, hcc]
    have : offA A 0 4 = A 0 4 := by simp [offA, ua, shA]
    rw [this]; rfl
  have hw1 : WB A1 := by
    rw [hA1]
    unfold offA
    refine WB_ua (WB_shA w (by omega)) ?_
    unfold okv; omega
  rw [← hcc] at hc
  obtain ⟨b1, b2, b3, b4, b5, b6, b7⟩ := hw1.2.2.2.2.2.2.2 c hc
  obtain ⟨v1, v2, v3, ⟨v4, v5⟩, v6, v7, ⟨v8, v9⟩, -⟩ := id hw1
  have hr := rmA_lt A1
  have hfr := free_le hw1 hr
  have hl : las A1 c ≤ 37 ∧ 8 ≤ las A1 c := lasts_le b2
  have hy : rdy A1 c ≤ A1 3 c + 16 := ready_le b2
  have hb := beA_le hw1 hc
  have ht := tkA_le hw1 hc hm
  have hr1 : rmA A1 = 1 → A1 0 10 = 2 := by
    unfold rmA
    (repeat' split) <;> omega
  have e1 : (if pm A1 M 0 10 = 2 then if pm A1 M 9 0 ≤ pm A1 M 9 1 then (0 : Int32) else 1 else 0) = nI (rmA A1) := by
    by_cases h2 : A1 0 10 = 2
    · simp (disch := omega) only [pm_0_10, pm_9, na_lit, na_eq, na_le]
      unfold rmA
      (repeat' split) <;> first | rfl | omega
    · simp (disch := omega) only [pm_0_10, na_lit, na_eq]
      unfold rmA
      simp only [h2, if_false]
  have e2 : (if pm A1 M 0 12 < 30 then (0 : Int32) else 2) = nI (if A1 0 12 < 30 then 0 else 2) := by
    simp (disch := omega) only [pm_0_12, na_lit, na_ltI]
    split <;> rfl
  unfold f_X7_wedOne
  rw [M_firstOff w h1, ← hcc, ← hA1]
  simp only [Option.bind_some, na_lt]
  rw [e1, e2]
  simp (disch := omega) only [na_lt, na_inb, na_ck, na_ix, M_readyOf hw1 hc, Option.bind_some, pm_9, pm_1, pm_2, pm_3, na_most, M_lasts b1 b2]
  have e3 : (if nI (A1 1 c) = 4 then some (nI (max (A1 8 (rmA A1)) (rdy A1 c))) else some (nI (max (max (A1 8 (rmA A1)) (rdy A1 c)) (A1 3 c)))) = some (nI (beA A1 c)) := by
    simp (disch := omega) only [na_lit, na_eq]
    unfold beA
    split <;> rfl
  have e4 : nI (lasts (A1 1 c) (A1 2 c)) + nI (if A1 0 12 < 30 then 0 else 2) + nI more = nI (tkA A1 c more) := by
    rw [nI_add, nI_add]
    congr 1
    unfold tkA las
    omega
  rw [e3, e4]
  have e5 : (nI (OfNat.ofNat 1) : Int32) = 1 := rfl
  have e6 : (1 : Int32) = nI 1 := rfl
  rw [e6, pm_wed hc v2, ← hA2]
  have q1 : ∀ p k, (p, k) ≠ (0, 4) → wsA A p k = A1 p k := fun p k hpk => by
    rw [hA2]
    exact ua_n (fun z => hpk (by rw [z.1, z.2]))
  simp (disch := omega) only [Option.bind_some, na_lit, nI_add, na_least, pm_w5, pm_w6, pm_w7, pm_w9, pm_6, pm_0_13, pm_0_12, pk_div]
  have z1 : min 999 (beA A1 c + tkA A1 c more) = enA A1 c more := by unfold enA; omega
  rw [z1]
  have hq10 : ua (ua (ua (wsA A) 4 c (beA A1 c)) 5 c (enA A1 c more)) 6 c (rmA A1) 0 10 = A1 0 10 := by
    rw [ua_n (by omega), ua_n (by omega), ua_n (by omega)]
    exact q1 0 10 (by simp)
  have e7 : ua (ua (ua (wsA A) 4 c (beA A1 c)) 5 c (enA A1 c more)) 6 c (rmA A1) 5 c = enA A1 c more := by simp [ua]
  have e8 : ua (ua (ua (wsA A) 4 c (beA A1 c)) 5 c (enA A1 c more)) 6 c (rmA A1) 0 13 = A1 0 13 := by
    rw [ua_n (by omega), ua_n (by omega), ua_n (by omega)]
    exact q1 0 13 (by simp)
  rw [e7, e8]
  have hen : enA A1 c more ≤ 999 := Nat.min_le_right _ _
  simp (disch := omega) only [pm_w9, na_least, pm_0_12, Option.bind_some]
  have e9 : ∀ z, ua (ua (ua (ua (wsA A) 4 c (beA A1 c)) 5 c (enA A1 c more)) 6 c (rmA A1)) 8 (rmA A1) z 0 12 = A1 0 12 := fun z => by
    rw [ua_n (by omega), ua_n (by omega), ua_n (by omega), ua_n (by omega)]
    exact q1 0 12 (by simp)
  rw [e9]
  simp (disch := omega) only [pm_w0_12, na_least, nI_add, Option.bind_some]
  have r1 : rmA (wsA A) = rmA A1 := by unfold rmA; rw [q1 0 10 (by simp), q1 8 1 (by simp), q1 8 0 (by simp)]
  have r2 : beA (wsA A) c = beA A1 c := by
    unfold beA rdy
    rw [r1, q1 1 c (by simp), q1 8 (rmA A1) (by simp), q1 2 c (by simp), q1 3 c (by simp)]
  have r3 : tkA (wsA A) c more = tkA A1 c more := by
    unfold tkA las
    rw [q1 1 c (by simp), q1 2 c (by simp), q1 0 12 (by simp)]
  have r4 : enA (wsA A) c more = enA A1 c more := by unfold enA; rw [r2, r3]
  unfold weA hoA
  rw [← hcc, r1, r2, r3, r4, q1 0 13 (by simp), q1 0 12 (by simp)]
  have s1 : min 999 (enA A1 c more + A1 0 13) = min (enA A1 c more + A1 0 13) 999 := by omega
  have s2 : min 99 (A1 0 12 + tkA A1 c more / 4) = min (A1 0 12 + tkA A1 c more / 4) 99 := by omega
  simp only [s1, s2]
/-- k weddings -/
def weN (A : AM) : Nat → AM
  | 0 => A
  | k + 1 => weA (weN A k) 0
theorem weA_wait {A : AM} {more : Nat} : weA A more 0 8 = A 0 8 - 1 := by simp [weA, hoA, wsA, offA, ua]
theorem weN_wait {A : AM} : ∀ k, weN A k 0 8 = A 0 8 - k
  | 0 => rfl
  | k + 1 => by rw [weN, weA_wait, weN_wait k]; omega
theorem WB_weN {A : AM} (w : WB A) : ∀ k, k ≤ A 0 8 → WB (weN A k)
  | 0, _ => w
  | k + 1, h => WB_weA (WB_weN w k (by omega)) (by rw [weN_wait]; omega) (by omega)
theorem weN_first {A : AM} : ∀ k, weN (weA A 0) k = weN A (k + 1)
  | 0 => rfl
  | k + 1 => by rw [weN, weN_first k]; rfl
theorem X_wedSome {A : AM} {h : Mem} (w : WB A) {k : Nat} (hk : k ≤ A 0 8) : f_X2_wedSome (px A h) (nI k) = some (px (weN A k) h) := by
  have w3 := w.2.2.1
  unfold f_X2_wedSome
  simp (disch := omega) only [px_0_8, na_min, na_lt]
  rw [Nat.min_eq_left hk]
  have hl : f_X2_wedSome_L11 (nI k) 6000 (nI 0) (px (weN A 0) h) = some (px (weN A k) h) := by
    refine lp (fun f s i => f_X2_wedSome_L11 (nI k) f i s) k (fun j => px (weN A j) h) (fun f => ?_) (fun f j hj => ?_) k 0 6000 (by omega) (by omega)
    · show f_X2_wedSome_L11 _ (f + 1) _ _ = _
      rw [f_X2_wedSome_L11, if_pos (nI_le (Nat.le_refl _) (by omega))]
    · show f_X2_wedSome_L11 _ (f + 1) _ _ = f_X2_wedSome_L11 _ f _ _
      rw [f_X2_wedSome_L11, if_neg (nI_ge hj (by omega))]
      have := X_wedFirst (h := h) (WB_weN w j (by omega)) (by rw [weN_wait]; omega) (more := 0) (by omega)
      rw [show (0 : Int32) = nI 0 from rfl, this]
      simp only [Option.bind_some, na_lt, nI_1]
      rfl
  have e : (0 : Int32) = nI 0 := rfl
  rw [e]
  exact (congrArg (fun o => Option.bind o (fun t => some t)) hl)
def wal (A : AM) : AM := weN A (A 0 8)
theorem X_wedAll_L {h : Mem} : ∀ (k : Nat) (A : AM) (f : Nat), WB A → A 0 8 = k → k < f → f_X2_wedAll_L5 f (nI k) (px A h) = some (px (weN A k) h)
  | 0, A, f, w, hk, hf => by
    obtain ⟨f, rfl⟩ : ∃ g, f = g + 1 := ⟨f - 1, by omega⟩
    rw [f_X2_wedAll_L5, if_pos (by rw [nI_0]; exact Int32.le_refl _)]
    rfl
  | k + 1, A, f, w, hk, hf => by
    obtain ⟨f, rfl⟩ : ∃ g, f = g + 1 := ⟨f - 1, by omega⟩
    have w3 := w.2.2.1
    have e : nI (k + 1) + (-1) = nI k := pk_m1 k
    rw [f_X2_wedAll_L5, if_neg (nI_nle (by omega) (by omega)), show (0 : Int32) = nI 0 from rfl, X_wedFirst w (by omega) (by omega), Option.bind_some, na_lt, e, X_wedAll_L k (weA A 0) f (WB_weA w (by omega) (by omega)) (by rw [weA_wait]; omega) (by omega), weN_first]
theorem X_wedAll {A : AM} {h : Mem} (w : WB A) : f_X2_wedAll (px A h) = some (px (wal A) h) := by
  have w3 := w.2.2.1
  unfold f_X2_wedAll
  rw [na_lt, px_0_8, X_wedAll_L (A 0 8) A 6000 w rfl (by omega)]
  rfl
theorem M_wedAll_L {M : Mem} : ∀ (k : Nat) (A : AM) (f : Nat), WB A → A 0 8 = k → k < f → f_X7_wedAll_L0 f (pm A M) = some (pm (weN A k) M)
  | 0, A, f, w, hk, hf => by
    obtain ⟨f, rfl⟩ : ∃ g, f = g + 1 := ⟨f - 1, by omega⟩
    rw [f_X7_wedAll_L0, pm_0_9, hk, if_pos (by rw [nI_0]; exact Int32.le_refl _)]
    rfl
  | k + 1, A, f, w, hk, hf => by
    obtain ⟨f, rfl⟩ : ∃ g, f = g + 1 := ⟨f - 1, by omega⟩
    have w3 := w.2.2.1
    rw [f_X7_wedAll_L0, pm_0_9, hk, if_neg (nI_nle (by omega) (by omega)), show (0 : Int32) = nI 0 from rfl, M_wedOne w (by omega) (by omega), Option.bind_some, M_wedAll_L k (weA A 0) f (WB_weA w (by omega) (by omega)) (by rw [weA_wait]; omega) (by omega), weN_first]
theorem M_wedAll {A : AM} {M : Mem} (w : WB A) : f_X7_wedAll (pm A M) = some (pm (wal A) M) := by
  have w3 := w.2.2.1
  unfold f_X7_wedAll
  rw [M_wedAll_L (A 0 8) A 6000 w rfl (by omega)]
  rfl
theorem WB_wal {A : AM} (w : WB A) : WB (wal A) := WB_weN w _ (Nat.le_refl _)
/-! what is told of a hall -/
abbrev lat (A : AM) (c : Nat) : Nat := A 4 c - A 3 c
theorem X_lateOf {A : AM} {h : Mem} (w : WB A) {c : Nat} (hc : c < 7) : f_X2_lateOf (px A h) (nI c) = some (nI (lat A c)) := by
  obtain ⟨b1, b2, b3, b4, -⟩ := w.2.2.2.2.2.2.2 c hc
  unfold f_X2_lateOf
  rw [show (0 : Int32) = nI 0 from rfl]
  simp (disch := omega) only [na_inb, na_ck, na_ix, px_4, px_3, na_max0]
theorem M_lateOf {A : AM} {M : Mem} (w : WB A) {c : Nat} (hc : c < 7) : f_X7_lateOf (pm A M) (nI c) = some (nI (lat A c)) := by
  obtain ⟨b1, b2, b3, b4, -⟩ := w.2.2.2.2.2.2.2 c hc
  unfold f_X7_lateOf
  rw [show (0 : Int32) = nI 0 from rfl]
  simp (disch := omega) only [na_inb, na_ck, na_ix, pm_5, pm_3, na_most0, Option.bind_some]
def allL (A : AM) : Nat := fb_sm (lat A) (A 0 0)
theorem X_allLate {A : AM} {h : Mem} (w : WB A) : f_X2_allLate (px A h) = some (nI (allL A)) := by
  have w1 := w.1
  unfold f_X2_allLate allL
  have hl : f_X2_allLate_L4 (px A h) 6000 (nI (fb_sm (lat A) 0)) (nI 0) = some (nI (fb_sm (lat A) (A 0 0))) := by
    refine lp (fun f s i => f_X2_allLate_L4 (px A h) f s i) (A 0 0) (fun j => nI (fb_sm (lat A) j)) (fun f => ?_) (fun f j hj => ?_) (A 0 0) 0 6000 (by omega) (by omega)
    · show f_X2_allLate_L4 _ (f + 1) _ _ = _
      rw [f_X2_allLate_L4, px_0_0, if_pos (nI_le (Nat.le_refl _) (by omega))]
    · show f_X2_allLate_L4 _ (f + 1) _ _ = f_X2_allLate_L4 _ f _ _
      rw [f_X2_allLate_L4, px_0_0, if_neg (nI_ge hj (by omega)), X_lateOf w (by omega)]
      simp only [Option.bind_some, nI_add, na_lt, nI_1]
      rfl
  exact (congrArg (fun o => Option.bind o (fun t => some t)) hl)
theorem M_allLate {A : AM} {M : Mem} (w : WB A) : f_X7_allLate (pm A M) = some (nI (allL A)) := by
  have w1 := w.1
  unfold f_X7_allLate allL
  have hl : f_X7_allLate_L4 (pm A M) 6000 (nI (fb_sm (lat A) 0)) (nI 0) = some (nI (fb_sm (lat A) (A 0 0))) := by
    refine lp (fun f s i => f_X7_allLate_L4 (pm A M) f s i) (A 0 0) (fun j => nI (fb_sm (lat A) j)) (fun f => ?_) (fun f j hj => ?_) (A 0 0) 0 6000 (by omega) (by omega)
    · show f_X7_allLate_L4 _ (f + 1) _ _ = _
      rw [f_X7_allLate_L4, pm_0_0, if_pos (nI_le (Nat.le_refl _) (by omega))]
    · show f_X7_allLate_L4 _ (f + 1) _ _ = f_X7_allLate_L4 _ f _ _
      rw [f_X7_allLate_L4, pm_0_0, if_neg (nI_ge hj (by omega)), M_lateOf w (by omega)]
      simp only [Option.bind_some, nI_add, na_lt, nI_1]
      rfl
  exact (congrArg (fun o => Option.bind o (fun t => some t)) hl)

