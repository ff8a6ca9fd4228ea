/-! what a couple is, by numbers -/
def lasts (k f : Nat) : Nat := if k = 1 then 10 + f / 2 else if k = 2 then 23 + f else if k = 4 then 8 + f / 2 else if k = 5 then 28 + f else 15 + f
def ready (k f a : Nat) : Nat := if k = 1 then a - 5 else if k = 2 then a + f / 2 else if k = 3 then a + f + 7 else if k = 4 then a - 20 else if k = 5 then a + f / 2 else a
def guests (k f : Nat) : Nat := if k = 1 then (f + 4) / 2 else if k = 2 then 2 * (f + 4) else if k = 4 then (f + 4) / 2 else if k = 5 then 2 * (f + 4) - 3 else f + 4
def poses (k f : Nat) : Nat := if k = 2 then 3 + f else if k = 5 then 3 + f else 3
abbrev las (A : AM) (c : Nat) : Nat := lasts (A 1 c) (A 2 c)
abbrev rdy (A : AM) (c : Nat) : Nat := ready (A 1 c) (A 2 c) (A 3 c)
abbrev gue (A : AM) (c : Nat) : Nat := guests (A 1 c) (A 2 c)
abbrev pos (A : AM) (c : Nat) : Nat := poses (A 1 c) (A 2 c)
theorem lasts_le {k f : Nat} (hf : f ≤ 9) : lasts k f ≤ 37 ∧ 8 ≤ lasts k f := by unfold lasts; (repeat' split) <;> omega
theorem ready_le {k f a : Nat} (hf : f ≤ 9) : ready k f a ≤ a + 16 := by unfold ready; (repeat' split) <;> omega
theorem guests_le {k f : Nat} (hf : f ≤ 9) : guests k f ≤ 26 := by unfold guests; (repeat' split) <;> omega
theorem poses_le {k f : Nat} (hf : f ≤ 9) : poses k f ≤ 12 ∧ 3 ≤ poses k f := by unfold poses; (repeat' split) <;> omega
theorem X_lasts {k f : Nat} (hk : k ≤ 5) (hf : f ≤ 9) : f_X3_lasts (nI k) (nI f) = some (nI (lasts k f)) := by
  have e : ∀ k, k ≤ 5 → ∀ f, f ≤ 9 → f_X3_lasts (nI k) (nI f) = some (nI (lasts k f)) := by decide +kernel
  exact e k hk f hf
theorem M_lasts {k f : Nat} (hk : k ≤ 5) (hf : f ≤ 9) : f_X7_lastsBy (nI k) (nI f) = some (nI (lasts k f)) := by
  have e : ∀ k, k ≤ 5 → ∀ f, f ≤ 9 → f_X7_lastsBy (nI k) (nI f) = some (nI (lasts k f)) := by decide +kernel
  exact e k hk f hf
theorem X_guests {k f : Nat} (hk : k ≤ 5) (hf : f ≤ 9) : f_X3_guests (nI k) (nI f) = some (nI (guests k f)) := by
  have e : ∀ k, k ≤ 5 → ∀ f, f ≤ 9 → f_X3_guests (nI k) (nI f) = some (nI (guests k f)) := by decide +kernel
  exact e k hk f hf
theorem X_poses {k f : Nat} (hk : k ≤ 5) (hf : f ≤ 9) : f_X3_poses (nI k) (nI f) = some (nI (poses k f)) := by
  have e : ∀ k, k ≤ 5 → ∀ f, f ≤ 9 → f_X3_poses (nI k) (nI f) = some (nI (poses k f)) := by decide +kernel
  exact e k hk f hf
theorem X_ready {k f a : Nat} (hk : k ≤ 5) (hf : f ≤ 9) (ha : a ≤ 1000) : f_X3_ready (nI k) (nI f) (nI a) = some (nI (ready k f a)) := by
  have e1 : (if nI a ≤ (5 : Int32) then some (0 : Int32) else some (nI a - 5)) = some (nI (a - 5)) := by
    simp (disch := omega) only [na_lit, na_le]
    split
    · rw [Nat.sub_eq_zero_of_le (by assumption)]
    · rw [pk_sub (by omega)]
  have e2 : (if nI a ≤ (20 : Int32) then some (0 : Int32) else some (nI a - 20)) = some (nI (a - 20)) := by
    simp (disch := omega) only [na_lit, na_le]
    split
    · rw [Nat.sub_eq_zero_of_le (by assumption)]
    · rw [pk_sub (by omega)]
  unfold f_X3_ready ready
  rw [e1, e2]
  simp (disch := omega) only [na_lit, na_eq, nI_add, pk_div]
  repeat' split
  all_goals first | rfl | omega
/-- the bounds -/
def WB (A : AM) : Prop := A 0 0 ≤ 7 ∧ A 0 4 < 128 ∧ A 0 8 ≤ 7 ∧ (1 ≤ A 0 10 ∧ A 0 10 ≤ 2) ∧ A 0 12 ≤ 99 ∧ A 0 13 ≤ 9 ∧ (A 8 0 ≤ 999 ∧ A 8 1 ≤ 999) ∧ ∀ c, c < 7 → A 1 c ≤ 5 ∧ A 2 c ≤ 9 ∧ A 3 c ≤ 500 ∧ A 4 c ≤ 2000 ∧ A 5 c ≤ 999 ∧ A 6 c ≤ 1 ∧ A 7 c < 7
theorem X_lastsOf {A : AM} {h : Mem} (w : WB A) {c : Nat} (hc : c < 7) : f_X2_lastsOf (px A h) (nI c) = some (nI (las A c)) := by
  obtain ⟨b1, b2, b3, -⟩ := w.2.2.2.2.2.2.2 c hc
  unfold f_X2_lastsOf
  simp (disch := omega) only [na_inb, na_ck, na_ix, px_1, px_2, X_lasts, Option.bind_some]
theorem X_readyOf {A : AM} {h : Mem} (w : WB A) {c : Nat} (hc : c < 7) : f_X2_readyOf (px A h) (nI c) = some (nI (rdy A c)) := by
  obtain ⟨b1, b2, b3, -⟩ := w.2.2.2.2.2.2.2 c hc
  unfold f_X2_readyOf
  simp (disch := omega) only [na_inb, na_ck, na_ix, px_1, px_2, px_3, X_ready, Option.bind_some]
theorem X_guestsOf {A : AM} {h : Mem} (w : WB A) {c : Nat} (hc : c < 7) : f_X2_guestsOf (px A h) (nI c) = some (nI (gue A c)) := by
  obtain ⟨b1, b2, b3, -⟩ := w.2.2.2.2.2.2.2 c hc
  unfold f_X2_guestsOf
  simp (disch := omega) only [na_inb, na_ck, na_ix, px_1, px_2, X_guests, Option.bind_some]
theorem M_readyOf {A : AM} {M : Mem} (w : WB A) {c : Nat} (hc : c < 7) : f_X7_readyOf (pm A M) (nI c) = some (nI (rdy A c)) := by
  obtain ⟨b1, b2, b3, -⟩ := w.2.2.2.2.2.2.2 c hc
  unfold f_X7_readyOf f_X7_readyOf_J79 rdy ready
  simp (disch := omega) only [na_inb, na_ck, na_ix, na_lt, pm_1, pm_2, pm_3, na_lit, na_eq, na_most0, nI_add, pk_div, Option.bind_some]
  repeat' split
  all_goals first | rfl | omega
theorem M_guestsOf {A : AM} {M : Mem} (w : WB A) {c : Nat} (hc : c < 7) : f_X7_guestsOf (pm A M) (nI c) = some (nI (gue A c)) := by
  obtain ⟨b1, b2, b3, -⟩ := w.2.2.2.2.2.2.2 c hc
  unfold f_X7_guestsOf gue guests
  simp (disch := omega) only [na_inb, na_ck, na_ix, na_lt, pm_1, pm_2, na_lit, na_eq, nI_add, pk_mul, pk_sub, pk_div, Option.bind_some]
  repeat' split
  all_goals first | rfl | omega
theorem M_posesOf {A : AM} {M : Mem} (w : WB A) {c : Nat} (hc : c < 7) : f_X7_posesOf (pm A M) (nI c) = some (nI (pos A c)) := by
  obtain ⟨b1, b2, b3, -⟩ := w.2.2.2.2.2.2.2 c hc
  unfold f_X7_posesOf f_X7_posesOf_J20 pos poses
  simp (disch := omega) only [na_inb, na_ck, na_ix, na_lt, pm_1, pm_2, na_lit, na_eq, nI_add, Option.bind_some]
  repeat' split
  all_goals first | rfl | omega
/-! one wedding -/
def rmA (A : AM) : Nat := if A 0 10 = 2 then (if A 8 1 < A 8 0 then 1 else 0) else 0
def beA (A : AM) (c : Nat) : Nat := if A 1 c = 4 then max (A 8 (rmA A)) (rdy A c) else max (max (A 8 (rmA A)) (rdy A c)) (A 3 c)
def tkA (A : AM) (c more : Nat) : Nat := las A c + more + (if A 0 12 < 30 then 0 else 2)
def enA (A : AM) (c more : Nat) : Nat := min (beA A c + tkA A c more) 999
def hoA (A : AM) (c more : Nat) : AM := ua (ua (ua (ua (ua A 4 c (beA A c)) 5 c (enA A c more)) 6 c (rmA A)) 8 (rmA A) (min (enA A c more + A 0 13) 999)) 0 12 (min (A 0 12 + tkA A c more / 4) 99)
theorem rmA_lt (A : AM) : rmA A < 2 := by unfold rmA; (repeat' split) <;> omega
theorem free_le {A : AM} (w : WB A) {r : Nat} (hr : r < 2) : A 8 r ≤ 999 := by
  rcases (show r = 0 ∨ r = 1 by omega) with rfl | rfl
  · exact w.2.2.2.2.2.2.1.1
  · exact w.2.2.2.2.2.2.1.2
theorem X_hold {A : AM} {h : Mem} (w : WB A) {c more : Nat} (hc : c < 7) (hm : more ≤ 10) : f_X2_hold (px A h) (nI c) (nI more) = some (px (hoA A c more) h) := by
  obtain ⟨b1, b2, b3, b4, b5, b6, b7⟩ := w.2.2.2.2.2.2.2 c hc
  obtain ⟨w1, w2, w3, ⟨w4, w5⟩, w6, w7, ⟨w8, w9⟩, -⟩ := id w
  have hr := rmA_lt A
  have hfr := free_le w hr
  have hl : las A c ≤ 37 ∧ 8 ≤ las A c := lasts_le b2
  have hy : rdy A c ≤ A 3 c + 16 := ready_le b2
  have e1 : (if px A h 0 10 ≤ 1 then (0 : Int32) else if px A h 8 0 ≤ px A h 8 1 then 0 else 1) = nI (rmA A) := by
    simp (disch := omega) only [px_0_10, px_8, na_lit, na_le]
    unfold rmA
    repeat' split
    all_goals first | rfl | omega
  have e2 : (if px A h 0 12 < 30 then (0 : Int32) else 2) = nI (if A 0 12 < 30 then 0 else 2) := by
    simp (disch := omega) only [px_0_12, na_lit, na_ltI]
    split <;> rfl
  have hx1 : f_X3_ready (nI (A 1 c)) (nI (A 2 c)) (nI (A 3 c)) = some (nI (rdy A c)) := X_ready b1 b2 (by omega)
  have hx2 : f_X3_lasts (nI (A 1 c)) (nI (A 2 c)) = some (nI (las A c)) := X_lasts b1 b2
  unfold f_X2_hold
  rw [e1, e2]
  simp (disch := omega) only [na_lt, na_inb, na_ck, na_ix, px_8, px_1, px_2, px_3, hx1, hx2, Option.bind_some, na_max]
  have e3 : (if nI (A 1 c) = 4 then some (nI (max (A 8 (rmA A)) (rdy A c))) else some (nI (max (max (A 8 (rmA A)) (rdy A c)) (A 3 c)))) = some (nI (beA A c)) := by
    simp (disch := omega) only [na_lit, na_eq]
    unfold beA
    split <;> rfl
  have hb : beA A c ≤ 1000 := by unfold beA; split <;> omega
  have ht : tkA A c more ≤ 60 := by unfold tkA; split <;> omega
  have e4 : nI (las A c) + nI more + nI (if A 0 12 < 30 then 0 else 2) = nI (tkA A c more) := by
    rw [nI_add, nI_add]; rfl
  have e5 : enA A c more ≤ 999 := Nat.min_le_right _ _
  rw [e3, e4]
  simp (disch := omega) only [Option.bind_some, na_lit, nI_add, na_min, px_w4, px_w5, px_w6, px_w8, px_5, px_0_13, px_0_12, pk_div]
  have e6 : ua (ua (ua A 4 c (beA A c)) 5 c (min (beA A c + tkA A c more) 999)) 6 c (rmA A) 5 c = enA A c more := by simp [ua, enA]
  have e7 : ua (ua (ua A 4 c (beA A c)) 5 c (min (beA A c + tkA A c more) 999)) 6 c (rmA A) 0 13 = A 0 13 := by simp [ua]
  rw [e6, e7]
  simp (disch := omega) only [px_w8, na_min, px_0_12]
  have e8 : ∀ z, ua (ua (ua (ua A 4 c (beA A c)) 5 c (min (beA A c + tkA A c more) 999)) 6 c (rmA A)) 8 (rmA A) z 0 12 = A 0 12 := fun z => by simp [ua]
  rw [e8]
  simp (disch := omega) only [px_w0_12, na_min, nI_add]
  rfl

