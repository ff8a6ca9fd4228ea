/-! THE HALL AS NUMBERS: A p j by the class's places; px A h is a hall of the class that shows A, pm A M the model that shows A -/
abbrev AM : Type := Nat → Nat → Nat
def ua (A : AM) (p k v : Nat) : AM := fun q j => if q = p ∧ j = k then v else A q j
def px (A : AM) (h : Mem) : Mem := fun p j =>
  if p = 0 then (if j = 0 ∨ j = 4 ∨ j = 8 ∨ j = 10 ∨ j = 12 ∨ j = 13 then nI (A p j) else h p j)
  else if p ≤ 7 then (if j < 7 then nI (A p j) else h p j)
  else if p = 8 then (if j < 2 then nI (A p j) else h p j)
  else h p j
def pm (A : AM) (M : Mem) : Mem := fun p j =>
  if p = 0 then (if j = 0 then nI (A 0 0) else if j = 9 then nI (A 0 8) else if j = 10 then nI (A 0 10) else if j = 12 then nI (A 0 12) else if j = 13 then nI (A 0 13) else M p j)
  else if p ≤ 3 then (if j < 7 then nI (A p j) else M p j)
  else if p = 4 then (if j < 7 then nI (A 0 4 / 2 ^ j % 2) else M p j)
  else if p ≤ 8 then (if j < 7 then nI (A (p - 1) j) else M p j)
  else if p = 9 then (if j < 2 then nI (A 8 j) else M p j)
  else M p j
theorem px_0_0 {A : AM} {h : Mem} : px A h 0 0 = nI (A 0 0) := rfl
theorem px_0_4 {A : AM} {h : Mem} : px A h 0 4 = nI (A 0 4) := rfl
theorem px_0_8 {A : AM} {h : Mem} : px A h 0 8 = nI (A 0 8) := rfl
theorem px_0_10 {A : AM} {h : Mem} : px A h 0 10 = nI (A 0 10) := rfl
theorem px_0_12 {A : AM} {h : Mem} : px A h 0 12 = nI (A 0 12) := rfl
theorem px_0_13 {A : AM} {h : Mem} : px A h 0 13 = nI (A 0 13) := rfl
theorem px_1 {A : AM} {h : Mem} {j : Nat} (hj : j < 7) : px A h 1 j = nI (A 1 j) := by simp [px, hj]
theorem px_2 {A : AM} {h : Mem} {j : Nat} (hj : j < 7) : px A h 2 j = nI (A 2 j) := by simp [px, hj]
theorem px_3 {A : AM} {h : Mem} {j : Nat} (hj : j < 7) : px A h 3 j = nI (A 3 j) := by simp [px, hj]
theorem px_4 {A : AM} {h : Mem} {j : Nat} (hj : j < 7) : px A h 4 j = nI (A 4 j) := by simp [px, hj]
theorem px_5 {A : AM} {h : Mem} {j : Nat} (hj : j < 7) : px A h 5 j = nI (A 5 j) := by simp [px, hj]
theorem px_6 {A : AM} {h : Mem} {j : Nat} (hj : j < 7) : px A h 6 j = nI (A 6 j) := by simp [px, hj]
theorem px_7 {A : AM} {h : Mem} {j : Nat} (hj : j < 7) : px A h 7 j = nI (A 7 j) := by simp [px, hj]
theorem px_8 {A : AM} {h : Mem} {j : Nat} (hj : j < 2) : px A h 8 j = nI (A 8 j) := by simp [px, hj]
theorem pm_0_0 {A : AM} {M : Mem} : pm A M 0 0 = nI (A 0 0) := rfl
theorem pm_0_9 {A : AM} {M : Mem} : pm A M 0 9 = nI (A 0 8) := rfl
theorem pm_0_10 {A : AM} {M : Mem} : pm A M 0 10 = nI (A 0 10) := rfl
theorem pm_0_12 {A : AM} {M : Mem} : pm A M 0 12 = nI (A 0 12) := rfl
theorem pm_0_13 {A : AM} {M : Mem} : pm A M 0 13 = nI (A 0 13) := rfl
theorem pm_1 {A : AM} {M : Mem} {j : Nat} (hj : j < 7) : pm A M 1 j = nI (A 1 j) := by simp [pm, hj]
theorem pm_2 {A : AM} {M : Mem} {j : Nat} (hj : j < 7) : pm A M 2 j = nI (A 2 j) := by simp [pm, hj]
theorem pm_3 {A : AM} {M : Mem} {j : Nat} (hj : j < 7) : pm A M 3 j = nI (A 3 j) := by simp [pm, hj]
theorem pm_4 {A : AM} {M : Mem} {j : Nat} (hj : j < 7) : pm A M 4 j = nI (A 0 4 / 2 ^ j % 2) := by simp [pm, hj]
theorem pm_5 {A : AM} {M : Mem} {j : Nat} (hj : j < 7) : pm A M 5 j = nI (A 4 j) := by simp [pm, hj]
theorem pm_6 {A : AM} {M : Mem} {j : Nat} (hj : j < 7) : pm A M 6 j = nI (A 5 j) := by simp [pm, hj]
theorem pm_7 {A : AM} {M : Mem} {j : Nat} (hj : j < 7) : pm A M 7 j = nI (A 6 j) := by simp [pm, hj]
theorem pm_8 {A : AM} {M : Mem} {j : Nat} (hj : j < 7) : pm A M 8 j = nI (A 7 j) := by simp [pm, hj]
theorem pm_9 {A : AM} {M : Mem} {j : Nat} (hj : j < 2) : pm A M 9 j = nI (A 8 j) := by simp [pm, hj]
theorem pm_0_11 {A : AM} {M : Mem} : pm A M 0 11 = M 0 11 := rfl
theorem pm_0_14 {A : AM} {M : Mem} : pm A M 0 14 = M 0 14 := rfl
theorem pm_0_17 {A : AM} {M : Mem} : pm A M 0 17 = M 0 17 := rfl
theorem pm_0_18 {A : AM} {M : Mem} : pm A M 0 18 = M 0 18 := rfl
theorem pm_0_19 {A : AM} {M : Mem} : pm A M 0 19 = M 0 19 := rfl
theorem pm_0_20 {A : AM} {M : Mem} : pm A M 0 20 = M 0 20 := rfl
theorem pm_0_26 {A : AM} {M : Mem} : pm A M 0 26 = M 0 26 := rfl
theorem pm_0_27 {A : AM} {M : Mem} : pm A M 0 27 = M 0 27 := rfl
theorem pm_0_28 {A : AM} {M : Mem} : pm A M 0 28 = M 0 28 := rfl
theorem pm_0_29 {A : AM} {M : Mem} : pm A M 0 29 = M 0 29 := rfl
theorem pm_0_32 {A : AM} {M : Mem} : pm A M 0 32 = M 0 32 := rfl
theorem pm_0_37 {A : AM} {M : Mem} : pm A M 0 37 = M 0 37 := rfl
theorem pm_0_38 {A : AM} {M : Mem} : pm A M 0 38 = M 0 38 := rfl
theorem pm_10 {A : AM} {M : Mem} {j : Nat} : pm A M 10 j = M 10 j := by simp [pm]
theorem pm_11 {A : AM} {M : Mem} {j : Nat} : pm A M 11 j = M 11 j := by simp [pm]
theorem pm_12 {A : AM} {M : Mem} {j : Nat} : pm A M 12 j = M 12 j := by simp [pm]
theorem pm_13 {A : AM} {M : Mem} {j : Nat} : pm A M 13 j = M 13 j := by simp [pm]
theorem pm_14 {A : AM} {M : Mem} {j : Nat} : pm A M 14 j = M 14 j := by simp [pm]
theorem pm_15 {A : AM} {M : Mem} {j : Nat} : pm A M 15 j = M 15 j := by simp [pm]
theorem pm_16 {A : AM} {M : Mem} {j : Nat} : pm A M 16 j = M 16 j := by simp [pm]
theorem pm_17 {A : AM} {M : Mem} {j : Nat} : pm A M 17 j = M 17 j := by simp [pm]
theorem pm_18 {A : AM} {M : Mem} {j : Nat} : pm A M 18 j = M 18 j := by simp [pm]
theorem pm_19 {A : AM} {M : Mem} {j : Nat} : pm A M 19 j = M 19 j := by simp [pm]
theorem pm_20 {A : AM} {M : Mem} {j : Nat} : pm A M 20 j = M 20 j := by simp [pm]
theorem pm_21 {A : AM} {M : Mem} {j : Nat} : pm A M 21 j = M 21 j := by simp [pm]
theorem pm_22 {A : AM} {M : Mem} {j : Nat} : pm A M 22 j = M 22 j := by simp [pm]
theorem px_w0_0 {A : AM} {h : Mem} {v : Nat} : xs (px A h) 0 0 (nI v) = px (ua A 0 0 v) h := by
  funext q i
  by_cases e : q = 0 ∧ i = 0
  · obtain ⟨rfl, rfl⟩ := e; simp [xs, px, ua]
  · have e2 : ua A 0 0 v q i = A q i := if_neg e
    simp only [xs, if_neg e, px, e2]
theorem px_w0_4 {A : AM} {h : Mem} {v : Nat} : xs (px A h) 0 4 (nI v) = px (ua A 0 4 v) h := by
  funext q i
  by_cases e : q = 0 ∧ i = 4
  · obtain ⟨rfl, rfl⟩ := e; simp [xs, px, ua]
  · have e2 : ua A 0 4 v q i = A q i := if_neg e
    simp only [xs, if_neg e, px, e2]
theorem px_w0_8 {A : AM} {h : Mem} {v : Nat} : xs (px A h) 0 8 (nI v) = px (ua A 0 8 v) h := by
  funext q i
  by_cases e : q = 0 ∧ i = 8
  · obtain ⟨rfl, rfl⟩ := e; simp [xs, px, ua]
  · have e2 : ua A 0 8 v q i = A q i := if_neg e
    simp only [xs, if_neg e, px, e2]
theorem px_w0_10 {A : AM} {h : Mem} {v : Nat} : xs (px A h) 0 10 (nI v) = px (ua A 0 10 v) h := by
  funext q i
  by_cases e : q = 0 ∧ i = 10
  · obtain ⟨rfl, rfl⟩ := e; simp [xs, px, ua]
  · have e2 : ua A 0 10 v q i = A q i := if_neg e
    simp only [xs, if_neg e, px, e2]
theorem px_w0_12 {A : AM} {h : Mem} {v : Nat} : xs (px A h) 0 12 (nI v) = px (ua A 0 12 v) h := by
  funext q i
  by_cases e : q = 0 ∧ i = 12
  · obtain ⟨rfl, rfl⟩ := e; simp [xs, px, ua]
  · have e2 : ua A 0 12 v q i = A q i := if_neg e
    simp only [xs, if_neg e, px, e2]
theorem px_w0_13 {A : AM} {h : Mem} {v : Nat} : xs (px A h) 0 13 (nI v) = px (ua A 0 13 v) h := by
  funext q i
  by_cases e : q = 0 ∧ i = 13
  · obtain ⟨rfl, rfl⟩ := e; simp [xs, px, ua]
  · have e2 : ua A 0 13 v q i = A q i := if_neg e
    simp only [xs, if_neg e, px, e2]
theorem px_w1 {A : AM} {h : Mem} {k v : Nat} (hk : k < 7) : xs (px A h) 1 k (nI v) = px (ua A 1 k v) h := by
  funext q i
  by_cases e : q = 1 ∧ i = k
  · obtain ⟨rfl, rfl⟩ := e; simp [xs, px, ua, hk]
  · have e2 : ua A 1 k v q i = A q i := if_neg e
    simp only [xs, if_neg e, px, e2]
theorem px_w2 {A : AM} {h : Mem} {k v : Nat} (hk : k < 7) : xs (px A h) 2 k (nI v) = px (ua A 2 k v) h := by
  funext q i
  by_cases e : q = 2 ∧ i = k
  · obtain ⟨rfl, rfl⟩ := e; simp [xs, px, ua, hk]
  · have e2 : ua A 2 k v q i = A q i := if_neg e
    simp only [xs, if_neg e, px, e2]
theorem px_w3 {A : AM} {h : Mem} {k v : Nat} (hk : k < 7) : xs (px A h) 3 k (nI v) = px (ua A 3 k v) h := by
  funext q i
  by_cases e : q = 3 ∧ i = k
  · obtain ⟨rfl, rfl⟩ := e; simp [xs, px, ua, hk]
  · have e2 : ua A 3 k v q i = A q i := if_neg e
    simp only [xs, if_neg e, px, e2]
theorem px_w4 {A : AM} {h : Mem} {k v : Nat} (hk : k < 7) : xs (px A h) 4 k (nI v) = px (ua A 4 k v) h := by
  funext q i
  by_cases e : q = 4 ∧ i = k
  · obtain ⟨rfl, rfl⟩ := e; simp [xs, px, ua, hk]
  · have e2 : ua A 4 k v q i = A q i := if_neg e
    simp only [xs, if_neg e, px, e2]
theorem px_w5 {A : AM} {h : Mem} {k v : Nat} (hk : k < 7) : xs (px A h) 5 k (nI v) = px (ua A 5 k v) h := by
  funext q i
  by_cases e : q = 5 ∧ i = k
  · obtain ⟨rfl, rfl⟩ := e; simp [xs, px, ua, hk]
  · have e2 : ua A 5 k v q i = A q i := if_neg e
    simp only [xs, if_neg e, px, e2]
theorem px_w6 {A : AM} {h : Mem} {k v : Nat} (hk : k < 7) : xs (px A h) 6 k (nI v) = px (ua A 6 k v) h := by
  funext q i
  by_cases e : q = 6 ∧ i = k
  · obtain ⟨rfl, rfl⟩ := e; simp [xs, px, ua, hk]
  · have e2 : ua A 6 k v q i = A q i := if_neg e
    simp only [xs, if_neg e, px, e2]
theorem px_w7 {A : AM} {h : Mem} {k v : Nat} (hk : k < 7) : xs (px A h) 7 k (nI v) = px (ua A 7 k v) h := by
  funext q i
  by_cases e : q = 7 ∧ i = k
  · obtain ⟨rfl, rfl⟩ := e; simp [xs, px, ua, hk]
  · have e2 : ua A 7 k v q i = A q i := if_neg e
    simp only [xs, if_neg e, px, e2]
theorem px_w8 {A : AM} {h : Mem} {k v : Nat} (hk : k < 2) : xs (px A h) 8 k (nI v) = px (ua A 8 k v) h := by
  funext q i
  by_cases e : q = 8 ∧ i = k
  · obtain ⟨rfl, rfl⟩ := e; simp [xs, px, ua, hk]
  · have e2 : ua A 8 k v q i = A q i := if_neg e
    simp only [xs, if_neg e, px, e2]
theorem pm_w0_0 {A : AM} {M : Mem} {v : Nat} : xs (pm A M) 0 0 (nI v) = pm (ua A 0 0 v) M := by
  funext q i
  simp only [xs, pm, ua]
  repeat' split
  all_goals first | rfl | (exfalso; omega) | (simp_all; done)
theorem pm_w0_9 {A : AM} {M : Mem} {v : Nat} : xs (pm A M) 0 9 (nI v) = pm (ua A 0 8 v) M := by
  funext q i
  simp only [xs, pm, ua]
  repeat' split
  all_goals first | rfl | (exfalso; omega) | (simp_all; done)
theorem pm_w0_10 {A : AM} {M : Mem} {v : Nat} : xs (pm A M) 0 10 (nI v) = pm (ua A 0 10 v) M := by
  funext q i
  simp only [xs, pm, ua]
  repeat' split
  all_goals first | rfl | (exfalso; omega) | (simp_all; done)
theorem pm_w0_12 {A : AM} {M : Mem} {v : Nat} : xs (pm A M) 0 12 (nI v) = pm (ua A 0 12 v) M := by
  funext q i
  simp only [xs, pm, ua]
  repeat' split
  all_goals first | rfl | (exfalso; omega) | (simp_all; done)
theorem pm_w0_13 {A : AM} {M : Mem} {v : Nat} : xs (pm A M) 0 13 (nI v) = pm (ua A 0 13 v) M := by
  funext q i
  simp only [xs, pm, ua]
  repeat' split
  all_goals first | rfl | (exfalso; omega) | (simp_all; done)
theorem pm_w1 {A : AM} {M : Mem} {k v : Nat} (hk : k < 7) : xs (pm A M) 1 k (nI v) = pm (ua A 1 k v) M := by
  funext q i
  simp only [xs, pm, ua]
  repeat' split
  all_goals first | rfl | (exfalso; omega) | (simp_all; done)
theorem pm_w2 {A : AM} {M : Mem} {k v : Nat} (hk : k < 7) : xs (pm A M) 2 k (nI v) = pm (ua A 2 k v) M := by
  funext q i
  simp only [xs, pm, ua]
  repeat' split
  all_goals first | rfl | (exfalso; omega) | (simp_all; done)
theorem pm_w3 {A : AM} {M : Mem} {k v : Nat} (hk : k < 7) : xs (pm A M) 3 k (nI v) = pm (ua A 3 k v) M := by
  funext q i
  simp only [xs, pm, ua]
  repeat' split
  all_goals first | rfl | (exfalso; omega) | (simp_all; done)
theorem pm_w5 {A : AM} {M : Mem} {k v : Nat} (hk : k < 7) : xs (pm A M) 5 k (nI v) = pm (ua A 4 k v) M := by
  funext q i
  simp only [xs, pm, ua]
  repeat' split
  all_goals first | rfl | (exfalso; omega) | (simp_all; done)
theorem pm_w6 {A : AM} {M : Mem} {k v : Nat} (hk : k < 7) : xs (pm A M) 6 k (nI v) = pm (ua A 5 k v) M := by
  funext q i
  simp only [xs, pm, ua]
  repeat' split
  all_goals first | rfl | (exfalso; omega) | (simp_all; done)
theorem pm_w7 {A : AM} {M : Mem} {k v : Nat} (hk : k < 7) : xs (pm A M) 7 k (nI v) = pm (ua A 6 k v) M := by
  funext q i
  simp only [xs, pm, ua]
  repeat' split
  all_goals first | rfl | (exfalso; omega) | (simp_all; done)
theorem pm_w8 {A : AM} {M : Mem} {k v : Nat} (hk : k < 7) : xs (pm A M) 8 k (nI v) = pm (ua A 7 k v) M := by
  funext q i
  simp only [xs, pm, ua]
  repeat' split
  all_goals first | rfl | (exfalso; omega) | (simp_all; done)
theorem pm_w9 {A : AM} {M : Mem} {k v : Nat} (hk : k < 2) : xs (pm A M) 9 k (nI v) = pm (ua A 8 k v) M := by
  funext q i
  simp only [xs, pm, ua]
  repeat' split
  all_goals first | rfl | (exfalso; omega) | (simp_all; done)
theorem pm_wed {A : AM} {M : Mem} {k : Nat} (hk : k < 7) (hm : A 0 4 < 128) : xs (pm A M) 4 k (nI 1) = pm (ua A 0 4 (A 0 4 ||| 2 ^ k)) M := by
  funext q i
  by_cases h4 : q = 4
  · subst h4
    by_cases hi : i < 7
    · have := na_orbit (A 0 4) hm k hk i hi
      by_cases e : i = k
      · subst e
        simp [xs, pm, ua, hi, this]
      · simp [xs, pm, ua, hi, this, e]
    · have e : ¬ i = k := by omega
      simp [xs, pm, ua, hi, e]
  · simp only [xs, pm, ua]
    repeat' split
    all_goals first | rfl | (exfalso; omega) | (simp_all; done)
theorem pm_unw {A : AM} {M : Mem} {k : Nat} (hk : k < 7) (h : A 0 4 / 2 ^ k % 2 = 0) : xs (pm A M) 4 k (nI 0) = pm A M := by
  funext q i
  by_cases e : q = 4 ∧ i = k
  · obtain ⟨rfl, rfl⟩ := e
    simp [xs, pm, hk, h]
  · simp only [xs, if_neg e]
/-- what the model writes elsewhere stays elsewhere -/
theorem pm_off {A : AM} {M : Mem} {p k : Nat} {v : Int32} (h : 10 ≤ p ∨ (p = 0 ∧ k ≠ 0 ∧ k ≠ 9 ∧ k ≠ 10 ∧ k ≠ 12 ∧ k ≠ 13)) : xs (pm A M) p k v = pm A (xs M p k v) := by
  funext q i
  simp only [xs, pm]
  repeat' split
  all_goals first | rfl | (exfalso; omega) | (simp_all; done)
theorem px_px {A B : AM} {h : Mem} : px A (px B h) = px A h := by
  funext q i
  simp only [px]
  repeat' split
  all_goals rfl
theorem pm_pm {A B : AM} {M : Mem} : pm A (pm B M) = pm A M := by
  funext q i
  simp only [pm]
  repeat' split
  all_goals rfl
/-! what a couple is, by numbers -/
def lasts (k f : Nat) : Nat := if k = 1 then 10 + f / 2 else if k = 2 then 23 + f else if k = 4 then 8 + f / 2 else if k = 5 then 28 + f else 15 + f
def ready (k f a : Nat) : Nat := if k = 1 then a - 5 else if k = 2 then a + f / 2 else if k = 3 then a + f + 7 else if k = 4 then a - 20 else if k = 5 then a + f / 2 else a
def guests (k f : Nat) : Nat := if k = 1 then (f + 4) / 2 else if k = 2 then 2 * (f + 4) else if k = 4 then (f + 4) / 2 else if k = 5 then 2 * (f + 4) - 3 else f + 4
def poses (k f : Nat) : Nat := if k = 2 then 3 + f else if k = 5 then 3 + f else 3
abbrev las (A : AM) (c : Nat) : Nat := lasts (A 1 c) (A 2 c)
abbrev rdy (A : AM) (c : Nat) : Nat := ready (A 1 c) (A 2 c) (A 3 c)
abbrev gue (A : AM) (c : Nat) : Nat := guests (A 1 c) (A 2 c)
abbrev pos (A : AM) (c : Nat) : Nat := poses (A 1 c) (A 2 c)
theorem lasts_le {k f : Nat} (hf : f ≤ 9) : lasts k f ≤ 37 ∧ 8 ≤ lasts k f := by unfold lasts; repeat' split <;> omega
theorem ready_le {k f a : Nat} (hf : f ≤ 9) : ready k f a ≤ a + 16 := by unfold ready; repeat' split <;> omega
theorem guests_le {k f : Nat} (hf : f ≤ 9) : guests k f ≤ 26 := by unfold guests; repeat' split <;> omega
theorem poses_le {k f : Nat} (hf : f ≤ 9) : poses k f ≤ 12 ∧ 3 ≤ poses k f := by unfold poses; repeat' split <;> omega
theorem X_lasts {k f : Nat} (hk : k ≤ 5) (hf : f ≤ 9) : f_X3_lasts (nI k) (nI f) = some (nI (lasts k f)) := by
  have e : ∀ k, k ≤ 5 → ∀ f, f ≤ 9 → f_X3_lasts (nI k) (nI f) = some (nI (lasts k f)) := by decide +kernel
  exact e k hk f hf
theorem M_lasts {k f : Nat} (hk : k ≤ 5) (hf : f ≤ 9) : f_X7_lastsBy (nI k) (nI f) = some (nI (lasts k f)) := by
  have e : ∀ k, k ≤ 5 → ∀ f, f ≤ 9 → f_X7_lastsBy (nI k) (nI f) = some (nI (lasts k f)) := by decide +kernel
  exact e k hk f hf
theorem X_guests {k f : Nat} (hk : k ≤ 5) (hf : f ≤ 9) : f_X3_guests (nI k) (nI f) = some (nI (guests k f)) := by
  have e : ∀ k, k ≤ 5 → ∀ f, f ≤ 9 → f_X3_guests (nI k) (nI f) = some (nI (guests k f)) := by decide +kernel
  exact e k hk f hf
theorem X_poses {k f : Nat} (hk : k ≤ 5) (hf : f ≤ 9) : f_X3_poses (nI k) (nI f) = some (nI (poses k f)) := by
  have e : ∀ k, k ≤ 5 → ∀ f, f ≤ 9 → f_X3_poses (nI k) (nI f) = some (nI (poses k f)) := by decide +kernel
  exact e k hk f hf
theorem X_ready {k f a : Nat} (hk : k ≤ 5) (hf : f ≤ 9) (ha : a ≤ 1000) : f_X3_ready (nI k) (nI f) (nI a) = some (nI (ready k f a)) := by
  unfold f_X3_ready ready
  simp (disch := omega) only [na_lit, na_eq, nI_add, pk_div, na_max0]
  repeat' split
  all_goals first | rfl | omega
/-- the bounds -/
def WB (A : AM) : Prop := A 0 0 ≤ 7 ∧ A 0 4 < 128 ∧ A 0 8 ≤ 7 ∧ (1 ≤ A 0 10 ∧ A 0 10 ≤ 2) ∧ A 0 12 ≤ 99 ∧ A 0 13 ≤ 9 ∧ (A 8 0 ≤ 999 ∧ A 8 1 ≤ 999) ∧ ∀ c, c < 7 → A 1 c ≤ 5 ∧ A 2 c ≤ 9 ∧ A 3 c ≤ 500 ∧ A 4 c ≤ 2000 ∧ A 5 c ≤ 999 ∧ A 6 c ≤ 1 ∧ A 7 c < 7
theorem X_lastsOf {A : AM} {h : Mem} (w : WB A) {c : Nat} (hc : c < 7) : f_X2_lastsOf (px A h) (nI c) = some (nI (las A c)) := by
  obtain ⟨b1, b2, b3, -⟩ := w.2.2.2.2.2.2.2 c hc
  unfold f_X2_lastsOf
  simp (disch := omega) only [na_inb, na_ck, na_ix, px_1, px_2, X_lasts, Option.bind_some]
theorem X_readyOf {A : AM} {h : Mem} (w : WB A) {c : Nat} (hc : c < 7) : f_X2_readyOf (px A h) (nI c) = some (nI (rdy A c)) := by
  obtain ⟨b1, b2, b3, -⟩ := w.2.2.2.2.2.2.2 c hc
  unfold f_X2_readyOf
  simp (disch := omega) only [na_inb, na_ck, na_ix, px_1, px_2, px_3, X_ready, Option.bind_some]
theorem X_guestsOf {A : AM} {h : Mem} (w : WB A) {c : Nat} (hc : c < 7) : f_X2_guestsOf (px A h) (nI c) = some (nI (gue A c)) := by
  obtain ⟨b1, b2, b3, -⟩ := w.2.2.2.2.2.2.2 c hc
  unfold f_X2_guestsOf
  simp (disch := omega) only [na_inb, na_ck, na_ix, px_1, px_2, X_guests, Option.bind_some]
theorem M_readyOf {A : AM} {M : Mem} (w : WB A) {c : Nat} (hc : c < 7) : f_X7_readyOf (pm A M) (nI c) = some (nI (rdy A c)) := by
  obtain ⟨b1, b2, b3, -⟩ := w.2.2.2.2.2.2.2 c hc
  unfold f_X7_readyOf f_X7_readyOf_J79 rdy ready
  simp (disch := omega) only [na_inb, na_ck, na_ix, na_lt, pm_1, pm_2, pm_3, na_lit, na_eq, na_most0, nI_add, pk_div, Option.bind_some]
  repeat' split
  all_goals first | rfl | omega
theorem M_guestsOf {A : AM} {M : Mem} (w : WB A) {c : Nat} (hc : c < 7) : f_X7_guestsOf (pm A M) (nI c) = some (nI (gue A c)) := by
  obtain ⟨b1, b2, b3, -⟩ := w.2.2.2.2.2.2.2 c hc
  unfold f_X7_guestsOf gue guests
  simp (disch := omega) only [na_inb, na_ck, na_ix, na_lt, pm_1, pm_2, na_lit, na_eq, nI_add, pk_mul, pk_sub, pk_div, Option.bind_some]
  repeat' split
  all_goals first | rfl | omega
theorem M_posesOf {A : AM} {M : Mem} (w : WB A) {c : Nat} (hc : c < 7) : f_X7_posesOf (pm A M) (nI c) = some (nI (pos A c)) := by
  obtain ⟨b1, b2, b3, -⟩ := w.2.2.2.2.2.2.2 c hc
  unfold f_X7_posesOf f_X7_posesOf_J20 pos poses
  simp (disch := omega) only [na_inb, na_ck, na_ix, na_lt, pm_1, pm_2, na_lit, na_eq, nI_add, Option.bind_some]
  repeat' split
  all_goals first | rfl | omega
/-! one wedding -/
def rmA (A : AM) : Nat := if A 0 10 = 2 then (if A 8 1 < A 8 0 then 1 else 0) else 0
def beA (A : AM) (c : Nat) : Nat := if A 1 c = 4 then max (A 8 (rmA A)) (rdy A c) else max (max (A 8 (rmA A)) (rdy A c)) (A 3 c)
def tkA (A : AM) (c more : Nat) : Nat := las A c + more + (if A 0 12 < 30 then 0 else 2)
def enA (A : AM) (c more : Nat) : Nat := min (beA A c + tkA A c more) 999
def hoA (A : AM) (c more : Nat) : AM := ua (ua (ua (ua (ua A 4 c (beA A c)) 5 c (enA A c more)) 6 c (rmA A)) 8 (rmA A) (min (enA A c more + A 0 13) 999)) 0 12 (min (A 0 12 + tkA A c more / 4) 99)
theorem rmA_lt (A : AM) : rmA A < 2 := by unfold rmA; repeat' split <;> omega
theorem free_le {A : AM} (w : WB A) {r : Nat} (hr : r < 2) : A 8 r ≤ 999 := by
  rcases (show r = 0 ∨ r = 1 by omega) with rfl | rfl
  · exact w.2.2.2.2.2.2.1.1
  · exact w.2.2.2.2.2.2.1.2
theorem X_hold {A : AM} {h : Mem} (w : WB A) {c more : Nat} (hc : c < 7) (hm : more ≤ 10) : f_X2_hold (px A h) (nI c) (nI more) = some (px (hoA A c more) h) := by
  obtain ⟨b1, b2, b3, b4, b5, b6, b7⟩ := w.2.2.2.2.2.2.2 c hc
  obtain ⟨w1, w2, w3, ⟨w4, w5⟩, w6, w7, ⟨w8, w9⟩, -⟩ := id w
  have hr := rmA_lt A
  have hfr := free_le w hr
  have hl := lasts_le (k := A 1 c) b2
  have hy := ready_le (k := A 1 c) (a := A 3 c) b2
  have e1 : (if px A h 0 10 ≤ 1 then (0 : Int32) else if px A h 8 0 ≤ px A h 8 1 then 0 else 1) = nI (rmA A) := by
    rw [px_0_10, px_8 (by omega), px_8 (by omega), na_lit 1, na_le (by omega) (by omega), na_le (by omega) (by omega)]
    unfold rmA
    repeat' split
    all_goals first | rfl | omega
  have e2 : (if px A h 0 12 < 30 then (0 : Int32) else 2) = nI (if A 0 12 < 30 then 0 else 2) := by
    rw [px_0_12, na_lit 30, na_ltI (by omega) (by omega)]
    split <;> rfl
  unfold f_X2_hold
  rw [e1, e2]
  simp (disch := omega) only [na_lt, na_inb, na_ck, na_ix, X_readyOf w hc, X_lastsOf w hc, Option.bind_some, px_8, px_1, px_3, na_max]
  have e3 : (if nI (A 1 c) = 4 then some (nI (max (A 8 (rmA A)) (rdy A c))) else some (nI (max (max (A 8 (rmA A)) (rdy A c)) (A 3 c)))) = some (nI (beA A c)) := by
    rw [na_lit 4, na_eq (by omega) (by omega)]
    unfold beA
    split <;> rfl
  have hb : beA A c ≤ 1000 := by unfold beA; split <;> omega
  have ht : tkA A c more ≤ 60 := by unfold tkA; split <;> omega
  have e4 : nI (las A c) + nI more + nI (if A 0 12 < 30 then 0 else 2) = nI (tkA A c more) := by
    rw [nI_add, nI_add]; rfl
  have e5 : enA A c more ≤ 999 := Nat.min_le_right _ _
  rw [e3, e4]
  simp (disch := omega) only [Option.bind_some, na_lit, nI_add, na_min, px_w4, px_w5, px_w6, px_w8, px_5, px_0_13, px_0_12, pk_div]
  have e6 : ua (ua (ua A 4 c (beA A c)) 5 c (min (beA A c + tkA A c more) 999)) 6 c (rmA A) 5 c = enA A c more := by simp [ua, enA]
  have e7 : ua (ua (ua A 4 c (beA A c)) 5 c (min (beA A c + tkA A c more) 999)) 6 c (rmA A) 0 13 = A 0 13 := by simp [ua]
  rw [e6, e7]
  simp (disch := omega) only [px_w8, na_min, px_0_12]
  have e8 : ∀ z, ua (ua (ua (ua A 4 c (beA A c)) 5 c (min (beA A c + tkA A c more) 999)) 6 c (rmA A)) 8 (rmA A) z 0 12 = A 0 12 := fun z => by simp [ua]
  rw [e8]
  simp (disch := omega) only [px_w0_12, na_min, nI_add]
  rfl

