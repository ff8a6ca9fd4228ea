/-! WHAT CHANGES a hall -/
section CHG
variable {A : AM} {h M : Mem}
theorem WO_of {B : AM} (o : WO A) (e0 : ∀ j, j = 0 ∨ j = 4 ∨ j = 8 → B 0 j = A 0 j) (er : ∀ p j, 3 ≤ p → p ≤ 7 → j < 7 → B p j = A p j) (w : WB A) : WO B := by
  obtain ⟨o1, o2, o3, o4, o5, o6⟩ := o
  have w3 := w.2.2.1
  have q0 := e0 0 (by omega)
  have q4 := e0 4 (by omega)
  have q8 := e0 8 (by omega)
  refine ⟨by rw [q0, q4]; exact o1, fun i hi => ?_, fun i j hij hj => ?_, fun c hc hb => ?_, fun c hc hc7 => ?_, fun c hc7 => ?_⟩
  · rw [q8] at hi
    rw [q0, q4, er 7 i (by omega) (by omega) (by omega)]
    exact o2 i hi
  · rw [q8] at hj
    rw [er 7 i (by omega) (by omega) (by omega), er 7 j (by omega) (by omega) (by omega)]
    exact o3 i j hij hj
  · rw [q0] at hc
    rw [q4] at hb
    obtain ⟨i, h1, h2⟩ := o4 c hc hb
    exact ⟨i, by rw [q8]; exact h1, by rw [er 7 i (by omega) (by omega) (by omega)]; exact h2⟩
  · rw [q0] at hc
    rw [er 4 c (by omega) (by omega) hc7, er 5 c (by omega) (by omega) hc7, er 6 c (by omega) (by omega) hc7]
    exact o5 c hc hc7
  · rw [er 3 c (by omega) (by omega) hc7]
    exact o6 c hc7
/-- the clerk rests -/
def reJ (A : AM) (m k : Nat) : AM := fun p q => if p = 0 ∧ q = 12 then 0 else if p = 8 ∧ q < k then min (A 8 q + m) 999 else A p q
def reA (A : AM) (m : Nat) : AM := reJ A m (A 0 10)
theorem X_restClerk (w : WB A) {m : Nat} (hm : m ≤ 1000) : f_X2_restClerk (px A h) (nI m) = some (px (reA A m) h) := by
  obtain ⟨w4, w5⟩ := w.2.2.2.1
  have hl : f_X2_restClerk_L7 (nI m) 6000 (nI 0) (px (reJ A m 0) h) = some (px (reA A m) h) := by
    refine lp (fun f s i => f_X2_restClerk_L7 (nI m) f i s) (A 0 10) (fun j => px (reJ A m j) h) (fun f => ?_) (fun f j hj => ?_) (A 0 10) 0 6000 (by omega) (by omega)
    · show f_X2_restClerk_L7 _ (f + 1) _ _ = _
      have e : reJ A m (A 0 10) 0 10 = A 0 10 := by simp [reJ]
      rw [f_X2_restClerk_L7, px_0_10, e, if_pos (nI_le (Nat.le_refl _) (by omega))]
      rfl
    · show f_X2_restClerk_L7 _ (f + 1) _ _ = f_X2_restClerk_L7 _ f _ _
      have e : reJ A m j 0 10 = A 0 10 := by simp [reJ]
      have e2 : reJ A m j 8 j = A 8 j := by simp [reJ]
      have hf := free_le w (by omega : j < 2)
      rw [f_X2_restClerk_L7, px_0_10, e, if_neg (nI_ge hj (by omega)), na_inb (by omega) (by omega), na_ck, na_ck, na_ix (by omega), px_8 (by omega), e2, nI_add, show (999 : Int32) = nI 999 from rfl, na_min (by omega) (by omega), px_w8 (by omega), na_lt, na_lt, nI_1]
      congr 2
      funext p q
      simp only [ua, reJ]
      by_cases e3 : p = 8 ∧ q = j
      · obtain ⟨rfl, rfl⟩ := e3
        rw [if_pos ⟨rfl, rfl⟩, if_neg (by omega), if_pos (by omega)]
      · rw [if_neg e3]
        by_cases e4 : p = 0 ∧ q = 12
        · rw [if_pos e4, if_pos e4]
        · rw [if_neg e4, if_neg e4]
          by_cases e5 : p = 8 ∧ q < j
          · rw [if_pos e5, if_pos (by omega)]
          · rw [if_neg e5, if_neg (by omega)]
  unfold f_X2_restClerk
  have e0 : xs (px A h) 0 12 0 = px (reJ A m 0) h := by
    rw [show (0 : Int32) = nI 0 from rfl, px_w0_12]
    congr 1
    funext p q
    simp only [ua, reJ]
    by_cases e4 : p = 0 ∧ q = 12
    · rw [if_pos e4, if_pos e4]
    · rw [if_neg e4, if_neg e4, if_neg (by omega)]
  rw [na_lt, e0, show (0 : Int32) = nI 0 from rfl, hl]
  rfl
theorem M_restFor (w : WB A) {m : Nat} (hm : m ≤ 1000) : f_X7_restFor (pm A M) (nI m) = some (pm (reA A m) M) := by
  obtain ⟨w4, w5⟩ := w.2.2.2.1
  have hl : f_X7_restFor_L7 (nI m) 6000 (nI 0) (pm (reJ A m 0) M) = some (pm (reA A m) M) := by
    refine lp (fun f s i => f_X7_restFor_L7 (nI m) f i s) (A 0 10) (fun j => pm (reJ A m j) M) (fun f => ?_) (fun f j hj => ?_) (A 0 10) 0 6000 (by omega) (by omega)
    · show f_X7_restFor_L7 _ (f + 1) _ _ = _
      have e : reJ A m (A 0 10) 0 10 = A 0 10 := by simp [reJ]
      rw [f_X7_restFor_L7, pm_0_10, e, if_pos (nI_le (Nat.le_refl _) (by omega))]
      rfl
    · show f_X7_restFor_L7 _ (f + 1) _ _ = f_X7_restFor_L7 _ f _ _
      have e : reJ A m j 0 10 = A 0 10 := by simp [reJ]
      have e2 : reJ A m j 8 j = A 8 j := by simp [reJ]
      have hf := free_le w (by omega : j < 2)
      rw [f_X7_restFor_L7, pm_0_10, e, if_neg (nI_ge hj (by omega)), na_inb (by omega) (by omega), na_ck, na_ix (by omega), pm_9 (by omega) (by omega), e2, nI_add, show (999 : Int32) = nI 999 from rfl, na_least (by omega) (by omega), Option.bind_some, na_ck, pm_w9 (by omega) (by omega), na_lt, na_lt, nI_1]
      congr 2
      funext p q
      simp only [ua, reJ]
      by_cases e3 : p = 8 ∧ q = j
      · obtain ⟨rfl, rfl⟩ := e3
        rw [if_pos ⟨rfl, rfl⟩, if_neg (by omega), if_pos (by omega)]
        omega
      · rw [if_neg e3]
        by_cases e4 : p = 0 ∧ q = 12
        · rw [if_pos e4, if_pos e4]
        · rw [if_neg e4, if_neg e4]
          by_cases e5 : p = 8 ∧ q < j
          · rw [if_pos e5, if_pos (by omega)]
          · rw [if_neg e5, if_neg (by omega)]
  unfold f_X7_restFor
  have e0 : xs (pm A M) 0 12 0 = pm (reJ A m 0) M := by
    rw [show (0 : Int32) = nI 0 from rfl, pm_w0_12]
    congr 1
    funext p q
    simp only [ua, reJ]
    by_cases e4 : p = 0 ∧ q = 12
    · rw [if_pos e4, if_pos e4]
    · rw [if_neg e4, if_neg e4, if_neg (by omega)]
  rw [na_lt, e0, show (0 : Int32) = nI 0 from rfl, hl]
  rfl
theorem WB_reA (w : WB A) {m : Nat} : WB (reA A m) := by
  obtain ⟨w1, w2, w3, ⟨w4, w5⟩, w6, w7, ⟨w8, w9⟩, w10⟩ := w
  refine ⟨by simpa [reA, reJ] using w1, by simpa [reA, reJ] using w2, by simpa [reA, reJ] using w3, ⟨by simpa [reA, reJ] using w4, by simpa [reA, reJ] using w5⟩, by simp [reA, reJ], by simpa [reA, reJ] using w7, ⟨?_, ?_⟩, fun c hc => ?_⟩
  · simp only [reA, reJ]
    rw [if_neg (by omega)]
    split <;> omega
  · simp only [reA, reJ]
    rw [if_neg (by omega)]
    split <;> omega
  · have := w10 c hc
    simpa [reA, reJ] using this
theorem WF_reA (w : WF A) {m : Nat} : WF (reA A m) := ⟨WB_reA w.1, WO_of w.2 (fun j hj => by
  simp only [reA, reJ]
  rw [if_neg (by omega), if_neg (by omega)]) (fun p j h1 h2 _ => by
  simp only [reA, reJ]
  rw [if_neg (by omega), if_neg (by omega)]) w.1⟩
/-- rooms -/
def roA (A : AM) (v : Nat) : AM := if v = 2 ∧ A 0 10 < 2 then ua (ua A 8 1 (A 8 0)) 0 10 2 else ua A 0 10 v
theorem X_openRooms (w : WB A) {v : Nat} (h1 : 1 ≤ v) (h2 : v ≤ 2) : f_X2_openRooms (px A h) (nI v) = some (px (roA A v) h) := by
  obtain ⟨w4, w5⟩ := w.2.2.2.1
  have e2 : (2 : Int32) = nI 2 := rfl
  unfold f_X2_openRooms roA
  rw [e2]
  simp (disch := omega) only [na_eq, px_0_10, na_le, px_8, px_w8, px_w0_10, na_lt]
  by_cases ev : v = 2
  · subst ev
    by_cases e : 2 ≤ A 0 10
    · have e' : ¬ A 0 10 < 2 := by omega
      simp only [e, e', if_true, and_false, if_false]
    · have e' : A 0 10 < 2 := by omega
      simp only [e, e', if_true, and_self, if_false]
  · simp only [ev, if_false, false_and]
theorem M_roomsBecome (w : WB A) {v : Nat} (h1 : 1 ≤ v) (h2 : v ≤ 2) : ∃ M', f_X7_roomsBecome (pm A M) (nI v) = some (pm (roA A v) M') ∧ ∀ p j, ¬ (p = 9 ∧ j = 1) → M' p j = M p j := by
  obtain ⟨w4, w5⟩ := w.2.2.2.1
  unfold f_X7_roomsBecome
  by_cases e : A 0 10 = 1
  · have hr : ¬ A 0 10 = 2 := by omega
    have c1 : pm A M 0 10 = 1 := by rw [pm_0_10, e]; rfl
    refine ⟨xs M 9 1 (nI (A 8 0)), ?_, fun p j hp => by simp only [xs, if_neg hp]⟩
    rw [if_pos c1, pm_9 (by omega) (by omega), na_lt, pm_hid hr, na_lt]
    by_cases ev : v = 2
    · subst ev
      rw [pm_open hr (x := A 8 0) (by simp [xs])]
      unfold roA
      rw [if_pos ⟨rfl, by omega⟩]
    · rw [pm_w0_10 (by omega)]
      unfold roA
      rw [if_neg (by omega)]
  · have hr : A 0 10 = 2 := by omega
    have c1 : ¬ pm A M 0 10 = 1 := by rw [pm_0_10, hr]; decide
    have e3 : ua A 8 1 (A 8 1) = A := by
      funext p q
      simp only [ua]
      split
      · next z => rw [z.1, z.2]
      · rfl
    rw [if_neg c1, pm_9 (by omega) (by omega), na_lt, pm_w9 (by omega) (by omega), e3, na_lt]
    have e4 : roA A v = ua A 0 10 v := by
      unfold roA
      rw [if_neg (by omega)]
    rw [e4]
    by_cases ev : v = 2
    · exact ⟨M, by rw [pm_w0_10 (by omega)], fun _ _ _ => rfl⟩
    · have ev1 : v = 1 := by omega
      subst ev1
      exact ⟨xs M 9 1 (pm A M 9 1), by rw [pm_shut], fun p j hp => by simp only [xs, if_neg hp]⟩
theorem WF_roA (w : WF A) {v : Nat} (h1 : 1 ≤ v) (h2 : v ≤ 2) : WF (roA A v) := by
  have wb := w.1
  have w8 := wb.2.2.2.2.2.2.1.1
  unfold roA
  split
  · refine ⟨WB_ua (WB_ua wb ?_) ?_, WO_of w.2 (fun j hj => ?_) (fun p j h1 h2 _ => ?_) wb⟩
    · unfold okv; omega
    · unfold okv; omega
    · rw [ua_n (by omega), ua_n (by omega)]
    · rw [ua_n (by omega), ua_n (by omega)]
  · refine ⟨WB_ua wb ?_, WO_of w.2 (fun j hj => ?_) (fun p j h1 h2 _ => ?_) wb⟩
    · unfold okv; omega
    · rw [ua_n (by omega)]
    · rw [ua_n (by omega)]
/-- a wedding leaves the order in order -/
theorem WO_weA (w : WF A) (h1 : 1 ≤ A 0 8) {more : Nat} : WO (weA A more) := by
  obtain ⟨wb, o1, o2, o3, o4, o5, o6⟩ := w
  have w1 := wb.1
  have w2 := wb.2.1
  have w3 := wb.2.2.1
  obtain ⟨f1, f2⟩ := o2 0 (by omega)
  have hc7 : A 7 0 < 7 := by omega
  have v0 : weA A more 0 0 = A 0 0 := by simp [weA, hoA, wsA, offA, ua, shA]
  have v4 : weA A more 0 4 = A 0 4 ||| 2 ^ A 7 0 := by simp [weA, hoA, wsA, offA, ua, shA]
  have v8 : weA A more 0 8 = A 0 8 - 1 := weA_wait
  have v7 : ∀ i, i < A 0 8 - 1 → weA A more 7 i = A 7 (i + 1) := fun i hi => by simp [weA, hoA, wsA, offA, ua, shA, hi]
  have vr : ∀ p c, 4 ≤ p → p ≤ 6 → c ≠ A 7 0 → weA A more p c = A p c := fun p c h1 h2 h3 => by
    unfold weA hoA wsA offA
    rw [ua_n (by omega), ua_n (by omega), ua_n (by omega), ua_n (by omega), ua_n (by omega), ua_n (by omega), ua_n (by omega)]
    simp only [shA]
    rw [if_neg (by omega)]
  refine ⟨?_, fun i hi => ?_, fun i j hij hj => ?_, fun c hc hb => ?_, fun c hc hc7' => ?_, fun c hc7 => ?_⟩
  · rw [v0, v4]
    exact Nat.or_lt_two_pow o1 (Nat.pow_lt_pow_right (by omega) f1)
  · rw [v8] at hi
    obtain ⟨g1, g2⟩ := o2 (i + 1) (by omega)
    have hne := o3 0 (i + 1) (by omega) (by omega)
    rw [v0, v4, v7 i hi, na_orbit _ w2 _ hc7 _ (by omega), if_neg (fun z => hne z.symm)]
    exact ⟨g1, g2⟩
  · rw [v8] at hj
    rw [v7 i (by omega), v7 j hj]
    exact o3 _ _ (by omega) (by omega)
  · rw [v0] at hc
    rw [v4, na_orbit _ w2 _ hc7 _ (by omega)] at hb
    split at hb
    · omega
    · next hne =>
      obtain ⟨i, i1, i2⟩ := o4 c hc hb
      have : i ≠ 0 := fun z => hne (by rw [← i2, z])
      refine ⟨i - 1, by rw [v8]; omega, ?_⟩
      rw [v7 _ (by omega), show i - 1 + 1 = i by omega]
      exact i2
  · rw [v0] at hc
    rw [vr 4 c (by omega) (by omega) (by omega), vr 5 c (by omega) (by omega) (by omega), vr 6 c (by omega) (by omega) (by omega)]
    exact o5 c hc hc7'
  · have v3 : weA A more 3 c = A 3 c := by simp [weA, hoA, wsA, offA, ua, shA]
    rw [v3]
    exact o6 c hc7
theorem WF_weA (w : WF A) (h1 : 1 ≤ A 0 8) {more : Nat} (hm : more ≤ 10) : WF (weA A more) := ⟨WB_weA w.1 h1 hm, WO_weA w h1⟩
theorem WF_weN (w : WF A) : ∀ k, k ≤ A 0 8 → WF (weN A k)
  | 0, _ => w
  | k + 1, hk => WF_weA (WF_weN w k (by omega)) (by rw [weN_wait]; omega) (by omega)
theorem M_wedsN_L : ∀ (k : Nat) (A : AM) (i n f : Nat), WB A → k ≤ A 0 8 → i + k = n → n < 1000 → k < f → f_X7_wedsCome_L28 (nI n) 1 f (nI i) (pm A M) = some (pm (weN A k) M)
  | 0, A, i, n, f, w, hk, hi, hn, hf => by
    obtain ⟨f, rfl⟩ : ∃ g, f = g + 1 := ⟨f - 1, by omega⟩
    rw [f_X7_wedsCome_L28, if_pos (nI_le (by omega) (by omega))]
    rfl
  | k + 1, A, i, n, f, w, hk, hi, hn, hf => by
    obtain ⟨f, rfl⟩ : ∃ g, f = g + 1 := ⟨f - 1, by omega⟩
    rw [f_X7_wedsCome_L28, if_neg (nI_ge (by omega) (by omega)), if_neg (by decide), show (0 : Int32) = nI 0 from rfl, M_wedOne w (by omega) (by omega), Option.bind_some, na_lt, nI_1, M_wedsN_L k (weA A 0) (i + 1) n f (WB_weA w (by omega) (by omega)) (by rw [weA_wait]; omega) (by omega) hn (by omega), weN_first]
theorem M_wedsCome (w : WB A) {n : Nat} (h1 : 1 ≤ n) (h2 : n ≤ A 0 8) : f_X7_wedsCome (pm A M) (nI n) = some (1, pm (weN A n) M) := by
  have w3 := w.2.2.1
  have hi : f_X7_in (nI n).toInt64 1 7 = some 1 := by
    rw [show (1 : Int64) = lN 1 from rfl, show (7 : Int64) = lN 7 from rfl, na_inK _ (by omega) (by omega), if_pos ⟨nI_le h1 (by omega), nI_le (by omega) (by omega)⟩]
  have e2 : ¬ (1 : Int32) = 0 := by decide
  have e3 : ¬ nI (A 0 8) < nI n := by rw [nI_ltI (by omega) (by omega)]; omega
  unfold f_X7_wedsCome
  rw [hi, Option.bind_some, if_neg e2, pm_0_9, if_neg e3, na_lt, show (0 : Int32) = nI 0 from rfl, M_wedsN_L n A 0 n 6000 w h2 (by omega) (by omega) (by omega)]
  rfl
/-- places -/
theorem X_placeOf_at (w : WB A) {c i : Nat} (hi : i < A 0 8) (hc : A 7 i = c) (hf : ∀ k, k < i → A 7 k ≠ c) : f_X2_placeOf (px A h) (nI c) = some (nI i) := by
  have w3 := w.2.2.1
  have hc7 : c < 7 := by
    have := (w.2.2.2.2.2.2.2 i (by omega)).2.2.2.2.2.2
    omega
  have hl : f_X2_placeOf_L2 (nI c) (px A h) 6000 (nI 0) = some (nI i) := by
    refine lp (σ := Unit) (fun f _ i => f_X2_placeOf_L2 (nI c) (px A h) f i) i (fun _ => ()) (fun f => ?_) (fun f j hj => ?_) i 0 6000 (by omega) (by omega)
    · show f_X2_placeOf_L2 _ _ (f + 1) _ = _
      rw [f_X2_placeOf_L2, px_0_8, if_neg (nI_ge hi (by omega)), na_inb (by omega) (by omega), na_ck, na_ix (by omega), px_7 (by omega), hc, if_pos rfl]
    · show f_X2_placeOf_L2 _ _ (f + 1) _ = f_X2_placeOf_L2 _ _ f _
      have h7 := (w.2.2.2.2.2.2.2 j (by omega)).2.2.2.2.2.2
      have hne : ¬ nI (A 7 j) = nI c := by rw [nI_eq (by omega) (by omega)]; exact hf j hj
      rw [f_X2_placeOf_L2, px_0_8, if_neg (nI_ge (by omega) (by omega)), na_inb (by omega) (by omega), na_ck, na_ix (by omega), px_7 (by omega), if_neg hne, na_lt, nI_1]
  unfold f_X2_placeOf
  rw [show (0 : Int32) = nI 0 from rfl, hl]
  rfl
theorem M_placeOf_at (w : WB A) {c i : Nat} (hi : i < A 0 8) (hc : A 7 i = c) (hf : ∀ k, k < A 0 8 → k ≠ i → A 7 k ≠ c) : f_X7_placeOf (pm A M) (nI c) = some (nI i) := by
  have w3 := w.2.2.1
  have hc7 : c < 7 := by
    have := (w.2.2.2.2.2.2.2 i (by omega)).2.2.2.2.2.2
    omega
  have hl := lp (r := some (nI i)) (fun f (s : Int32) i => f_X7_placeOf_L4 (nI c) (pm A M) f s i) (A 0 8) (fun j => if i < j then nI i else -1) (fun f => ?_) (fun f j hj => ?_) (A 0 8) 0 6000 (by omega) (by omega)
  · unfold f_X7_placeOf
    rw [show (0 : Int32) = nI 0 from rfl]
    simp only [Nat.not_lt_zero, if_false] at hl
    rw [hl]
    rfl
  · show f_X7_placeOf_L4 _ _ (f + 1) _ _ = _
    rw [f_X7_placeOf_L4, pm_0_9, if_pos (nI_le (Nat.le_refl _) (by omega)), if_pos hi]
  · show f_X7_placeOf_L4 _ _ (f + 1) _ _ = f_X7_placeOf_L4 _ _ f _ _
    have h7 := (w.2.2.2.2.2.2.2 j (by omega)).2.2.2.2.2.2
    rw [f_X7_placeOf_L4, pm_0_9, if_neg (nI_ge hj (by omega)), na_inb (by omega) (by omega), na_ck, na_ix (by omega), pm_8 (by omega)]
    by_cases e : j = i
    · subst e
      rw [hc, if_pos rfl, na_lt, nI_1, if_pos (by omega)]
    · have hne : ¬ nI (A 7 j) = nI c := by rw [nI_eq (by omega) (by omega)]; exact hf j hj e
      rw [if_neg hne, na_lt, nI_1]
      by_cases e2 : i < j
      · rw [if_pos e2, if_pos (by omega)]
      · rw [if_neg e2, if_neg (by omega)]
/-- c from place i to the front -/
def pfJ (A : AM) (i j : Nat) : AM := fun p q => if p = 7 ∧ j < q ∧ q ≤ i then A 7 (q - 1) else A p q
def pfA (A : AM) (i c : Nat) : AM := ua (pfJ A i 0) 7 0 c
theorem pfJ_i {i : Nat} : pfJ A i i = A := by
  funext p q
  simp only [pfJ]
  rw [if_neg (by omega)]
theorem pfJ_s {i j : Nat} (h : j + 1 ≤ i) : ua (pfJ A i (j + 1)) 7 (j + 1) (A 7 j) = pfJ A i j := by
  funext p q
  simp only [ua, pfJ]
  by_cases e : p = 7 ∧ q = j + 1
  · obtain ⟨rfl, rfl⟩ := e
    rw [if_pos ⟨rfl, rfl⟩, if_pos (by omega)]
    rfl
  · rw [if_neg e]
    by_cases e2 : p = 7 ∧ j + 1 < q ∧ q ≤ i
    · rw [if_pos e2, if_pos (by omega)]
    · rw [if_neg e2, if_neg (by omega)]
theorem X_putFirst (w : WB A) {c i : Nat} (hi : i < A 0 8) (hc : A 7 i = c) (hf : ∀ k, k < i → A 7 k ≠ c) : f_X2_putFirst (px A h) (nI c) = some (px (pfA A i c) h) := by
  have w3 := w.2.2.1
  have hl : f_X2_putFirst_L17 6000 (nI i) (px A h) = some (px (pfJ A i 0) h) := by
    have key : ∀ j f, j ≤ i → j < f → f_X2_putFirst_L17 f (nI j) (px (pfJ A i j) h) = some (px (pfJ A i 0) h) := by
      intro j
      induction j with
      | zero =>
        intro f h1 h2
        obtain ⟨f, rfl⟩ : ∃ g, f = g + 1 := ⟨f - 1, by omega⟩
        rw [f_X2_putFirst_L17, if_pos (by decide)]
      | succ j ih =>
        intro f h1 h2
        obtain ⟨f, rfl⟩ : ∃ g, f = g + 1 := ⟨f - 1, by omega⟩
        have e : pfJ A i (j + 1) 7 j = A 7 j := by
          simp only [pfJ]
          rw [if_neg (by omega)]
        rw [f_X2_putFirst_L17, if_neg (nI_nle (by omega) (by omega)), nI_pred, na_inb (by omega) (by omega), na_ck, na_inb (by omega) (by omega), na_ck, na_ix (by omega), na_ix (by omega), px_7 (by omega), e, px_w7 (by omega), pfJ_s h1, na_lt, na_lt, pk_m1]
        exact ih f (by omega) (by omega)
    have := key i 6000 (Nat.le_refl _) (by omega)
    rw [pfJ_i] at this
    exact this
  unfold f_X2_putFirst
  rw [X_placeOf_at w hi hc hf, Option.bind_some, px_0_8, if_pos (nI_lt hi (by omega)), hl, Option.bind_some, px_w7 (by omega), na_lt]
  rfl
theorem M_putFirst (w : WB A) {c i : Nat} (hi : i < A 0 8) (hc : A 7 i = c) (hf : ∀ k, k < A 0 8 → k ≠ i → A 7 k ≠ c) : f_X7_putFirst (pm A M) (nI c) = some (pm (pfA A i c) M) := by
  have w3 := w.2.2.1
  have hl : f_X7_putFirst_L6 6000 (nI i) (pm A M) = some (pm (pfJ A i 0) M) := by
    have key : ∀ j f, j ≤ i → j < f → f_X7_putFirst_L6 f (nI j) (pm (pfJ A i j) M) = some (pm (pfJ A i 0) M) := by
      intro j
      induction j with
      | zero =>
        intro f h1 h2
        obtain ⟨f, rfl⟩ : ∃ g, f = g + 1 := ⟨f - 1, by omega⟩
        rw [f_X7_putFirst_L6, if_pos (by decide)]
      | succ j ih =>
        intro f h1 h2
        obtain ⟨f, rfl⟩ : ∃ g, f = g + 1 := ⟨f - 1, by omega⟩
        have e : pfJ A i (j + 1) 7 j = A 7 j := by
          simp only [pfJ]
          rw [if_neg (by omega)]
        rw [f_X7_putFirst_L6, if_neg (nI_nle (by omega) (by omega)), nI_pred, na_inb (by omega) (by omega), na_ck, na_inb (by omega) (by omega), na_ck, na_ix (by omega), na_ix (by omega), pm_8 (by omega), e, pm_w8 (by omega), pfJ_s h1, na_lt, na_lt, pk_m1]
        exact ih f (by omega) (by omega)
    have := key i 6000 (Nat.le_refl _) (by omega)
    rw [pfJ_i] at this
    exact this
  unfold f_X7_putFirst
  rw [M_placeOf_at w hi hc hf, Option.bind_some, hl, Option.bind_some, pm_w8 (by omega), na_lt]
  rfl
theorem pfA_at {i c q : Nat} : pfA A i c 7 q = if q = 0 then c else if q ≤ i then A 7 (q - 1) else A 7 q := by
  simp only [pfA, ua, pfJ]
  by_cases e : q = 0
  · subst e; simp
  · rw [if_neg (by omega), if_neg e]
    by_cases e2 : q ≤ i
    · rw [if_pos ⟨trivial, by omega, e2⟩, if_pos e2]
    · rw [if_neg (fun z => e2 z.2.2), if_neg e2]
theorem pfA_off {i c p q : Nat} (hp : p ≠ 7) : pfA A i c p q = A p q := by
  simp only [pfA, ua, pfJ]
  rw [if_neg (by omega), if_neg (by omega)]
theorem WB_pfA (w : WB A) {i c : Nat} (hc : c < 7) : WB (pfA A i c) := by
  obtain ⟨w1, w2, w3, ⟨w4, w5⟩, w6, w7, ⟨w8, w9⟩, w10⟩ := w
  have o : ∀ p q, p ≠ 7 → pfA A i c p q = A p q := fun p q hp => pfA_off hp
  refine ⟨by rw [o _ _ (by omega)]; exact w1, by rw [o _ _ (by omega)]; exact w2, by rw [o _ _ (by omega)]; exact w3, ⟨by rw [o _ _ (by omega)]; exact w4, by rw [o _ _ (by omega)]; exact w5⟩, by rw [o _ _ (by omega)]; exact w6, by rw [o _ _ (by omega)]; exact w7, ⟨by rw [o _ _ (by omega)]; exact w8, by rw [o _ _ (by omega)]; exact w9⟩, fun k hk => ?_⟩
  obtain ⟨c1, c2, c3, c4, c5, c6, c7⟩ := w10 k hk
  refine ⟨by rw [o _ _ (by omega)]; exact c1, by rw [o _ _ (by omega)]; exact c2, by rw [o _ _ (by omega)]; exact c3, by rw [o _ _ (by omega)]; exact c4, by rw [o _ _ (by omega)]; exact c5, by rw [o _ _ (by omega)]; exact c6, ?_⟩
  rw [pfA_at]
  have := (w10 (k - 1) (by omega)).2.2.2.2.2.2
  repeat' split
  · exact hc
  · exact this
  · exact c7
theorem WF_pfA (w : WF A) {i : Nat} (hi : i < A 0 8) : WF (pfA A i (A 7 i)) := by
  obtain ⟨wb, o1, o2, o3, o4, o5, o6⟩ := w
  have w3 := wb.2.2.1
  have w1 := wb.1
  obtain ⟨f1, f2⟩ := o2 i hi
  have of : ∀ p q, p ≠ 7 → pfA A i (A 7 i) p q = A p q := fun p q hp => pfA_off hp
  -- each place shows one of the old places
  have src : ∀ q, q < A 0 8 → ∃ s, s < A 0 8 ∧ pfA A i (A 7 i) 7 q = A 7 s ∧ ((q = 0 ∧ s = i) ∨ (0 < q ∧ q ≤ i ∧ s = q - 1) ∨ (i < q ∧ s = q)) := fun q hq => by
    rw [pfA_at]
    by_cases e : q = 0
    · exact ⟨i, hi, by rw [if_pos e], Or.inl ⟨e, rfl⟩⟩
    · by_cases e2 : q ≤ i
      · exact ⟨q - 1, by omega, by rw [if_neg e, if_pos e2], Or.inr (Or.inl ⟨by omega, e2, rfl⟩)⟩
      · exact ⟨q, hq, by rw [if_neg e, if_neg e2], Or.inr (Or.inr ⟨by omega, rfl⟩)⟩
  have inj : ∀ s t, s < A 0 8 → t < A 0 8 → A 7 s = A 7 t → s = t := fun s t hs ht e => by
    rcases Nat.lt_trichotomy s t with h | h | h
    · exact absurd e (o3 s t h ht)
    · exact h
    · exact absurd e.symm (o3 t s h hs)
  refine ⟨WB_pfA wb (by omega), ?_, fun q hq => ?_, fun q r hqr hr => ?_, fun c hc hb => ?_, fun c hc hc7 => ?_, fun c hc7 => ?_⟩
  · rw [of _ _ (by omega), of _ _ (by omega)]; exact o1
  · rw [of _ _ (by omega)] at hq
    rw [of 0 0 (by omega), of 0 4 (by omega)]
    obtain ⟨s, h1, h2, -⟩ := src q hq
    rw [h2]
    exact o2 s h1
  · rw [of _ _ (by omega)] at hr
    obtain ⟨s, h1, h2, h3⟩ := src q (by omega)
    obtain ⟨t, g1, g2, g3⟩ := src r hr
    rw [h2, g2]
    intro e
    have := inj s t h1 g1 e
    omega
  · rw [of _ _ (by omega)] at hc hb
    obtain ⟨s, h1, h2⟩ := o4 c hc hb
    rw [of _ _ (by omega)]
    by_cases e : s = i
    · exact ⟨0, by omega, by rw [pfA_at, if_pos rfl, ← h2, e]⟩
    · by_cases e2 : s < i
      · exact ⟨s + 1, by omega, by rw [pfA_at, if_neg (by omega), if_pos (by omega)]; exact h2⟩
      · exact ⟨s, h1, by rw [pfA_at, if_neg (by omega), if_neg (by omega)]; exact h2⟩
  · rw [of _ _ (by omega)] at hc
    rw [of _ _ (by omega), of _ _ (by omega), of _ _ (by omega)]
    exact o5 c hc hc7
  · rw [of _ _ (by omega)]
    exact o6 c hc7
end CHG

