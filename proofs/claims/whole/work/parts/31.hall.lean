/-! THE HALL AS NUMBERS: A p j by the class's places; px A h is a hall of the class that shows A, pm A M the model that shows A -/
abbrev AM : Type := Nat → Nat → Nat
def ua (A : AM) (p k v : Nat) : AM := fun q j => if q = p ∧ j = k then v else A q j
def px (A : AM) (h : Mem) : Mem := fun p j =>
  if p = 0 then (if j = 0 ∨ j = 4 ∨ j = 8 ∨ j = 10 ∨ j = 12 ∨ j = 13 then nI (A p j) else h p j)
  else if p ≤ 7 then (if j < 7 then nI (A p j) else h p j)
  else if p = 8 then (if j < 2 then nI (A p j) else h p j)
  else h p j
def pm (A : AM) (M : Mem) : Mem := fun p j =>
  if p = 0 then (if j = 0 then nI (A 0 0) else if j = 9 then nI (A 0 8) else if j = 10 then nI (A 0 10) else if j = 12 then nI (A 0 12) else if j = 13 then nI (A 0 13) else M p j)
  else if p ≤ 3 then (if j < 7 then nI (A p j) else M p j)
  else if p = 4 then (if j < 7 then nI (A 0 4 / 2 ^ j % 2) else M p j)
  else if p ≤ 8 then (if j < 7 then nI (A (p - 1) j) else M p j)
  else if p = 9 then (if j < 2 then nI (A 8 j) else M p j)
  else M p j
theorem px_0_0 {A : AM} {h : Mem} : px A h 0 0 = nI (A 0 0) := rfl
theorem px_0_4 {A : AM} {h : Mem} : px A h 0 4 = nI (A 0 4) := rfl
theorem px_0_8 {A : AM} {h : Mem} : px A h 0 8 = nI (A 0 8) := rfl
theorem px_0_10 {A : AM} {h : Mem} : px A h 0 10 = nI (A 0 10) := rfl
theorem px_0_12 {A : AM} {h : Mem} : px A h 0 12 = nI (A 0 12) := rfl
theorem px_0_13 {A : AM} {h : Mem} : px A h 0 13 = nI (A 0 13) := rfl
theorem px_1 {A : AM} {h : Mem} {j : Nat} (hj : j < 7) : px A h 1 j = nI (A 1 j) := by simp [px, hj]
theorem px_2 {A : AM} {h : Mem} {j : Nat} (hj : j < 7) : px A h 2 j = nI (A 2 j) := by simp [px, hj]
theorem px_3 {A : AM} {h : Mem} {j : Nat} (hj : j < 7) : px A h 3 j = nI (A 3 j) := by simp [px, hj]
theorem px_4 {A : AM} {h : Mem} {j : Nat} (hj : j < 7) : px A h 4 j = nI (A 4 j) := by simp [px, hj]
theorem px_5 {A : AM} {h : Mem} {j : Nat} (hj : j < 7) : px A h 5 j = nI (A 5 j) := by simp [px, hj]
theorem px_6 {A : AM} {h : Mem} {j : Nat} (hj : j < 7) : px A h 6 j = nI (A 6 j) := by simp [px, hj]
theorem px_7 {A : AM} {h : Mem} {j : Nat} (hj : j < 7) : px A h 7 j = nI (A 7 j) := by simp [px, hj]
theorem px_8 {A : AM} {h : Mem} {j : Nat} (hj : j < 2) : px A h 8 j = nI (A 8 j) := by simp [px, hj]
theorem pm_0_0 {A : AM} {M : Mem} : pm A M 0 0 = nI (A 0 0) := rfl
theorem pm_0_9 {A : AM} {M : Mem} : pm A M 0 9 = nI (A 0 8) := rfl
theorem pm_0_10 {A : AM} {M : Mem} : pm A M 0 10 = nI (A 0 10) := rfl
theorem pm_0_12 {A : AM} {M : Mem} : pm A M 0 12 = nI (A 0 12) := rfl
theorem pm_0_13 {A : AM} {M : Mem} : pm A M 0 13 = nI (A 0 13) := rfl
theorem pm_1 {A : AM} {M : Mem} {j : Nat} (hj : j < 7) : pm A M 1 j = nI (A 1 j) := by simp [pm, hj]
theorem pm_2 {A : AM} {M : Mem} {j : Nat} (hj : j < 7) : pm A M 2 j = nI (A 2 j) := by simp [pm, hj]
theorem pm_3 {A : AM} {M : Mem} {j : Nat} (hj : j < 7) : pm A M 3 j = nI (A 3 j) := by simp [pm, hj]
theorem pm_4 {A : AM} {M : Mem} {j : Nat} (hj : j < 7) : pm A M 4 j = nI (A 0 4 / 2 ^ j % 2) := by simp [pm, hj]
theorem pm_5 {A : AM} {M : Mem} {j : Nat} (hj : j < 7) : pm A M 5 j = nI (A 4 j) := by simp [pm, hj]
theorem pm_6 {A : AM} {M : Mem} {j : Nat} (hj : j < 7) : pm A M 6 j = nI (A 5 j) := by simp [pm, hj]
theorem pm_7 {A : AM} {M : Mem} {j : Nat} (hj : j < 7) : pm A M 7 j = nI (A 6 j) := by simp [pm, hj]
theorem pm_8 {A : AM} {M : Mem} {j : Nat} (hj : j < 7) : pm A M 8 j = nI (A 7 j) := by simp [pm, hj]
theorem pm_9 {A : AM} {M : Mem} {j : Nat} (hj : j < 2) : pm A M 9 j = nI (A 8 j) := by simp [pm, hj]
theorem pm_0_11 {A : AM} {M : Mem} : pm A M 0 11 = M 0 11 := rfl
theorem pm_0_14 {A : AM} {M : Mem} : pm A M 0 14 = M 0 14 := rfl
theorem pm_0_17 {A : AM} {M : Mem} : pm A M 0 17 = M 0 17 := rfl
theorem pm_0_18 {A : AM} {M : Mem} : pm A M 0 18 = M 0 18 := rfl
theorem pm_0_19 {A : AM} {M : Mem} : pm A M 0 19 = M 0 19 := rfl
theorem pm_0_20 {A : AM} {M : Mem} : pm A M 0 20 = M 0 20 := rfl
theorem pm_0_26 {A : AM} {M : Mem} : pm A M 0 26 = M 0 26 := rfl
theorem pm_0_27 {A : AM} {M : Mem} : pm A M 0 27 = M 0 27 := rfl
theorem pm_0_28 {A : AM} {M : Mem} : pm A M 0 28 = M 0 28 := rfl
theorem pm_0_29 {A : AM} {M : Mem} : pm A M 0 29 = M 0 29 := rfl
theorem pm_0_32 {A : AM} {M : Mem} : pm A M 0 32 = M 0 32 := rfl
theorem pm_0_37 {A : AM} {M : Mem} : pm A M 0 37 = M 0 37 := rfl
theorem pm_0_38 {A : AM} {M : Mem} : pm A M 0 38 = M 0 38 := rfl
theorem pm_10 {A : AM} {M : Mem} {j : Nat} : pm A M 10 j = M 10 j := by simp [pm]
theorem pm_11 {A : AM} {M : Mem} {j : Nat} : pm A M 11 j = M 11 j := by simp [pm]
theorem pm_12 {A : AM} {M : Mem} {j : Nat} : pm A M 12 j = M 12 j := by simp [pm]
theorem pm_13 {A : AM} {M : Mem} {j : Nat} : pm A M 13 j = M 13 j := by simp [pm]
theorem pm_14 {A : AM} {M : Mem} {j : Nat} : pm A M 14 j = M 14 j := by simp [pm]
theorem pm_15 {A : AM} {M : Mem} {j : Nat} : pm A M 15 j = M 15 j := by simp [pm]
theorem pm_16 {A : AM} {M : Mem} {j : Nat} : pm A M 16 j = M 16 j := by simp [pm]
theorem pm_17 {A : AM} {M : Mem} {j : Nat} : pm A M 17 j = M 17 j := by simp [pm]
theorem pm_18 {A : AM} {M : Mem} {j : Nat} : pm A M 18 j = M 18 j := by simp [pm]
theorem pm_19 {A : AM} {M : Mem} {j : Nat} : pm A M 19 j = M 19 j := by simp [pm]
theorem pm_20 {A : AM} {M : Mem} {j : Nat} : pm A M 20 j = M 20 j := by simp [pm]
theorem pm_21 {A : AM} {M : Mem} {j : Nat} : pm A M 21 j = M 21 j := by simp [pm]
theorem pm_22 {A : AM} {M : Mem} {j : Nat} : pm A M 22 j = M 22 j := by simp [pm]
theorem px_w0_0 {A : AM} {h : Mem} {v : Nat} : xs (px A h) 0 0 (nI v) = px (ua A 0 0 v) h := by
  funext q i
  by_cases e : q = 0 ∧ i = 0
  · obtain ⟨rfl, rfl⟩ := e; simp [xs, px, ua]
  · have e2 : ua A 0 0 v q i = A q i := if_neg e
    simp only [xs, if_neg e, px, e2]
theorem px_w0_4 {A : AM} {h : Mem} {v : Nat} : xs (px A h) 0 4 (nI v) = px (ua A 0 4 v) h := by
  funext q i
  by_cases e : q = 0 ∧ i = 4
  · obtain ⟨rfl, rfl⟩ := e; simp [xs, px, ua]
  · have e2 : ua A 0 4 v q i = A q i := if_neg e
    simp only [xs, if_neg e, px, e2]
theorem px_w0_8 {A : AM} {h : Mem} {v : Nat} : xs (px A h) 0 8 (nI v) = px (ua A 0 8 v) h := by
  funext q i
  by_cases e : q = 0 ∧ i = 8
  · obtain ⟨rfl, rfl⟩ := e; simp [xs, px, ua]
  · have e2 : ua A 0 8 v q i = A q i := if_neg e
    simp only [xs, if_neg e, px, e2]
theorem px_w0_10 {A : AM} {h : Mem} {v : Nat} : xs (px A h) 0 10 (nI v) = px (ua A 0 10 v) h := by
  funext q i
  by_cases e : q = 0 ∧ i = 10
  · obtain ⟨rfl, rfl⟩ := e; simp [xs, px, ua]
  · have e2 : ua A 0 10 v q i = A q i := if_neg e
    simp only [xs, if_neg e, px, e2]
theorem px_w0_12 {A : AM} {h : Mem} {v : Nat} : xs (px A h) 0 12 (nI v) = px (ua A 0 12 v) h := by
  funext q i
  by_cases e : q = 0 ∧ i = 12
  · obtain ⟨rfl, rfl⟩ := e; simp [xs, px, ua]
  · have e2 : ua A 0 12 v q i = A q i := if_neg e
    simp only [xs, if_neg e, px, e2]
theorem px_w0_13 {A : AM} {h : Mem} {v : Nat} : xs (px A h) 0 13 (nI v) = px (ua A 0 13 v) h := by
  funext q i
  by_cases e : q = 0 ∧ i = 13
  · obtain ⟨rfl, rfl⟩ := e; simp [xs, px, ua]
  · have e2 : ua A 0 13 v q i = A q i := if_neg e
    simp only [xs, if_neg e, px, e2]
theorem px_w1 {A : AM} {h : Mem} {k v : Nat} (hk : k < 7) : xs (px A h) 1 k (nI v) = px (ua A 1 k v) h := by
  funext q i
  by_cases e : q = 1 ∧ i = k
  · obtain ⟨rfl, rfl⟩ := e; simp [xs, px, ua, hk]
  · have e2 : ua A 1 k v q i = A q i := if_neg e
    simp only [xs, if_neg e, px, e2]
theorem px_w2 {A : AM} {h : Mem} {k v : Nat} (hk : k < 7) : xs (px A h) 2 k (nI v) = px (ua A 2 k v) h := by
  funext q i
  by_cases e : q = 2 ∧ i = k
  · obtain ⟨rfl, rfl⟩ := e; simp [xs, px, ua, hk]
  · have e2 : ua A 2 k v q i = A q i := if_neg e
    simp only [xs, if_neg e, px, e2]
theorem px_w3 {A : AM} {h : Mem} {k v : Nat} (hk : k < 7) : xs (px A h) 3 k (nI v) = px (ua A 3 k v) h := by
  funext q i
  by_cases e : q = 3 ∧ i = k
  · obtain ⟨rfl, rfl⟩ := e; simp [xs, px, ua, hk]
  · have e2 : ua A 3 k v q i = A q i := if_neg e
    simp only [xs, if_neg e, px, e2]
theorem px_w4 {A : AM} {h : Mem} {k v : Nat} (hk : k < 7) : xs (px A h) 4 k (nI v) = px (ua A 4 k v) h := by
  funext q i
  by_cases e : q = 4 ∧ i = k
  · obtain ⟨rfl, rfl⟩ := e; simp [xs, px, ua, hk]
  · have e2 : ua A 4 k v q i = A q i := if_neg e
    simp only [xs, if_neg e, px, e2]
theorem px_w5 {A : AM} {h : Mem} {k v : Nat} (hk : k < 7) : xs (px A h) 5 k (nI v) = px (ua A 5 k v) h := by
  funext q i
  by_cases e : q = 5 ∧ i = k
  · obtain ⟨rfl, rfl⟩ := e; simp [xs, px, ua, hk]
  · have e2 : ua A 5 k v q i = A q i := if_neg e
    simp only [xs, if_neg e, px, e2]
theorem px_w6 {A : AM} {h : Mem} {k v : Nat} (hk : k < 7) : xs (px A h) 6 k (nI v) = px (ua A 6 k v) h := by
  funext q i
  by_cases e : q = 6 ∧ i = k
  · obtain ⟨rfl, rfl⟩ := e; simp [xs, px, ua, hk]
  · have e2 : ua A 6 k v q i = A q i := if_neg e
    simp only [xs, if_neg e, px, e2]
theorem px_w7 {A : AM} {h : Mem} {k v : Nat} (hk : k < 7) : xs (px A h) 7 k (nI v) = px (ua A 7 k v) h := by
  funext q i
  by_cases e : q = 7 ∧ i = k
  · obtain ⟨rfl, rfl⟩ := e; simp [xs, px, ua, hk]
  · have e2 : ua A 7 k v q i = A q i := if_neg e
    simp only [xs, if_neg e, px, e2]
theorem px_w8 {A : AM} {h : Mem} {k v : Nat} (hk : k < 2) : xs (px A h) 8 k (nI v) = px (ua A 8 k v) h := by
  funext q i
  by_cases e : q = 8 ∧ i = k
  · obtain ⟨rfl, rfl⟩ := e; simp [xs, px, ua, hk]
  · have e2 : ua A 8 k v q i = A q i := if_neg e
    simp only [xs, if_neg e, px, e2]
theorem pm_w0_0 {A : AM} {M : Mem} {v : Nat} : xs (pm A M) 0 0 (nI v) = pm (ua A 0 0 v) M := by
  funext q i
  simp only [xs, pm, ua]
  repeat' split
  all_goals first | rfl | (exfalso; omega) | (simp_all; done)
theorem pm_w0_9 {A : AM} {M : Mem} {v : Nat} : xs (pm A M) 0 9 (nI v) = pm (ua A 0 8 v) M := by
  funext q i
  simp only [xs, pm, ua]
  repeat' split
  all_goals first | rfl | (exfalso; omega) | (simp_all; done)
theorem pm_w0_10 {A : AM} {M : Mem} {v : Nat} : xs (pm A M) 0 10 (nI v) = pm (ua A 0 10 v) M := by
  funext q i
  simp only [xs, pm, ua]
  repeat' split
  all_goals first | rfl | (exfalso; omega) | (simp_all; done)
theorem pm_w0_12 {A : AM} {M : Mem} {v : Nat} : xs (pm A M) 0 12 (nI v) = pm (ua A 0 12 v) M := by
  funext q i
  simp only [xs, pm, ua]
  repeat' split
  all_goals first | rfl | (exfalso; omega) | (simp_all; done)
theorem pm_w0_13 {A : AM} {M : Mem} {v : Nat} : xs (pm A M) 0 13 (nI v) = pm (ua A 0 13 v) M := by
  funext q i
  simp only [xs, pm, ua]
  repeat' split
  all_goals first | rfl | (exfalso; omega) | (simp_all; done)
theorem pm_w1 {A : AM} {M : Mem} {k v : Nat} (hk : k < 7) : xs (pm A M) 1 k (nI v) = pm (ua A 1 k v) M := by
  funext q i
  simp only [xs, pm, ua]
  repeat' split
  all_goals first | rfl | (exfalso; omega) | (simp_all; done)
theorem pm_w2 {A : AM} {M : Mem} {k v : Nat} (hk : k < 7) : xs (pm A M) 2 k (nI v) = pm (ua A 2 k v) M := by
  funext q i
  simp only [xs, pm, ua]
  repeat' split
  all_goals first | rfl | (exfalso; omega) | (simp_all; done)
theorem pm_w3 {A : AM} {M : Mem} {k v : Nat} (hk : k < 7) : xs (pm A M) 3 k (nI v) = pm (ua A 3 k v) M := by
  funext q i
  simp only [xs, pm, ua]
  repeat' split
  all_goals first | rfl | (exfalso; omega) | (simp_all; done)
theorem pm_w5 {A : AM} {M : Mem} {k v : Nat} (hk : k < 7) : xs (pm A M) 5 k (nI v) = pm (ua A 4 k v) M := by
  funext q i
  simp only [xs, pm, ua]
  repeat' split
  all_goals first | rfl | (exfalso; omega) | (simp_all; done)
theorem pm_w6 {A : AM} {M : Mem} {k v : Nat} (hk : k < 7) : xs (pm A M) 6 k (nI v) = pm (ua A 5 k v) M := by
  funext q i
  simp only [xs, pm, ua]
  repeat' split
  all_goals first | rfl | (exfalso; omega) | (simp_all; done)
theorem pm_w7 {A : AM} {M : Mem} {k v : Nat} (hk : k < 7) : xs (pm A M) 7 k (nI v) = pm (ua A 6 k v) M := by
  funext q i
  simp only [xs, pm, ua]
  repeat' split
  all_goals first | rfl | (exfalso; omega) | (simp_all; done)
theorem pm_w8 {A : AM} {M : Mem} {k v : Nat} (hk : k < 7) : xs (pm A M) 8 k (nI v) = pm (ua A 7 k v) M := by
  funext q i
  simp only [xs, pm, ua]
  repeat' split
  all_goals first | rfl | (exfalso; omega) | (simp_all; done)
theorem pm_w9 {A : AM} {M : Mem} {k v : Nat} (hk : k < 2) : xs (pm A M) 9 k (nI v) = pm (ua A 8 k v) M := by
  funext q i
  simp only [xs, pm, ua]
  repeat' split
  all_goals first | rfl | (exfalso; omega) | (simp_all; done)
theorem pm_wed {A : AM} {M : Mem} {k : Nat} (hk : k < 7) (hm : A 0 4 < 128) : xs (pm A M) 4 k (nI 1) = pm (ua A 0 4 (A 0 4 ||| 2 ^ k)) M := by
  funext q i
  by_cases h4 : q = 4
  · subst h4
    by_cases hi : i < 7
    · have := na_orbit (A 0 4) hm k hk i hi
      by_cases e : i = k
      · subst e
        simp [xs, pm, ua, hi, this]
      · simp [xs, pm, ua, hi, this, e]
    · have e : ¬ i = k := by omega
      simp [xs, pm, ua, hi, e]
  · simp only [xs, pm, ua]
    repeat' split
    all_goals first | rfl | (exfalso; omega) | (simp_all; done)
theorem pm_unw {A : AM} {M : Mem} {k : Nat} (hk : k < 7) (h : A 0 4 / 2 ^ k % 2 = 0) : xs (pm A M) 4 k (nI 0) = pm A M := by
  funext q i
  by_cases e : q = 4 ∧ i = k
  · obtain ⟨rfl, rfl⟩ := e
    simp [xs, pm, hk, h]
  · simp only [xs, if_neg e]
/-- what the model writes elsewhere stays elsewhere -/
theorem pm_off {A : AM} {M : Mem} {p k : Nat} {v : Int32} (h : 10 ≤ p ∨ (p = 0 ∧ k ≠ 0 ∧ k ≠ 9 ∧ k ≠ 10 ∧ k ≠ 12 ∧ k ≠ 13)) : xs (pm A M) p k v = pm A (xs M p k v) := by
  funext q i
  simp only [xs, pm]
  repeat' split
  all_goals first | rfl | (exfalso; omega) | (simp_all; done)
theorem px_px {A B : AM} {h : Mem} : px A (px B h) = px A h := by
  funext q i
  simp only [px]
  repeat' split
  all_goals rfl

