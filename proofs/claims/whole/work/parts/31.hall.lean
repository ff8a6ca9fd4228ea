/-! THE HALL AS NUMBERS: A p j by the class's places; px A h is a hall of the class that shows A, pm A M the model that shows A -/
abbrev AM : Type := Nat → Nat → Nat
def ua (A : AM) (p k v : Nat) : AM := fun q j => if q = p ∧ j = k then v else A q j
def px (A : AM) (h : Mem) : Mem := fun p j =>
  if p = 0 then (if j = 0 ∨ j = 4 ∨ j = 8 ∨ j = 10 ∨ j = 12 ∨ j = 13 then nI (A p j) else h p j)
  else if p ≤ 7 then (if j < 7 then nI (A p j) else h p j)
  else if p = 8 then (if j < 2 then nI (A p j) else h p j)
  else h p j
def pm (A : AM) (M : Mem) : Mem := fun p j =>
  if p = 0 then (if j = 0 then nI (A 0 0) else if j = 9 then nI (A 0 8) else if j = 10 then nI (A 0 10) else if j = 12 then nI (A 0 12) else if j = 13 then nI (A 0 13) else M p j)
  else if p ≤ 3 then (if j < 7 then nI (A p j) else M p j)
  else if p = 4 then (if j < 7 then nI (A 0 4 / 2 ^ j % 2) else M p j)
  else if p ≤ 8 then (if j < 7 then nI (A (p - 1) j) else M p j)
  else if p = 9 then (if j = 0 then nI (A 8 0) else if j = 1 then (if A 0 10 = 2 then nI (A 8 1) else M p j) else M p j)
  else M p j
def rd (q i p j : Nat) : Prop := (q = 0 ∧ p = 0 ∧ ((i = 0 ∧ j = 0) ∨ (i = 9 ∧ j = 8) ∨ (i = 10 ∧ j = 10) ∨ (i = 12 ∧ j = 12) ∨ (i = 13 ∧ j = 13))) ∨ (1 ≤ q ∧ q ≤ 3 ∧ p = q ∧ j = i) ∨ (q = 4 ∧ p = 0 ∧ j = 4) ∨ (5 ≤ q ∧ q ≤ 8 ∧ p = q - 1 ∧ j = i) ∨ (q = 9 ∧ ((p = 8 ∧ j = i) ∨ (p = 0 ∧ j = 10)))
theorem pm_eq {A B : AM} {M : Mem} {q i : Nat} (h : ∀ p j, rd q i p j → A p j = B p j) : pm A M q i = pm B M q i := by
  by_cases h9 : q = 9
  · subst h9
    have e10 := h 0 10 (by unfold rd; omega)
    simp only [pm, e10]
    repeat' split
    all_goals first | rfl | (exfalso; omega) | (rw [h _ _ (by unfold rd; omega)])
  · simp only [pm, if_neg h9]
    repeat' split
    all_goals first | rfl | (rw [h _ _ (by unfold rd; omega)])
theorem ua_s {A : AM} {p k v : Nat} : ua A p k v p k = v := by simp [ua]
theorem ua_n {A : AM} {p k v q j : Nat} (h : ¬ (q = p ∧ j = k)) : ua A p k v q j = A q j := if_neg h
theorem px_0_0 {A : AM} {h : Mem} : px A h 0 0 = nI (A 0 0) := rfl
theorem px_0_4 {A : AM} {h : Mem} : px A h 0 4 = nI (A 0 4) := rfl
theorem px_0_8 {A : AM} {h : Mem} : px A h 0 8 = nI (A 0 8) := rfl
theorem px_0_10 {A : AM} {h : Mem} : px A h 0 10 = nI (A 0 10) := rfl
theorem px_0_12 {A : AM} {h : Mem} : px A h 0 12 = nI (A 0 12) := rfl
theorem px_0_13 {A : AM} {h : Mem} : px A h 0 13 = nI (A 0 13) := rfl
theorem px_1 {A : AM} {h : Mem} {j : Nat} (hj : j < 7) : px A h 1 j = nI (A 1 j) := by simp [px, hj]
theorem px_2 {A : AM} {h : Mem} {j : Nat} (hj : j < 7) : px A h 2 j = nI (A 2 j) := by simp [px, hj]
theorem px_3 {A : AM} {h : Mem} {j : Nat} (hj : j < 7) : px A h 3 j = nI (A 3 j) := by simp [px, hj]
theorem px_4 {A : AM} {h : Mem} {j : Nat} (hj : j < 7) : px A h 4 j = nI (A 4 j) := by simp [px, hj]
theorem px_5 {A : AM} {h : Mem} {j : Nat} (hj : j < 7) : px A h 5 j = nI (A 5 j) := by simp [px, hj]
theorem px_6 {A : AM} {h : Mem} {j : Nat} (hj : j < 7) : px A h 6 j = nI (A 6 j) := by simp [px, hj]
theorem px_7 {A : AM} {h : Mem} {j : Nat} (hj : j < 7) : px A h 7 j = nI (A 7 j) := by simp [px, hj]
theorem px_8 {A : AM} {h : Mem} {j : Nat} (hj : j < 2) : px A h 8 j = nI (A 8 j) := by simp [px, hj]
theorem pm_0_0 {A : AM} {M : Mem} : pm A M 0 0 = nI (A 0 0) := rfl
theorem pm_0_9 {A : AM} {M : Mem} : pm A M 0 9 = nI (A 0 8) := rfl
theorem pm_0_10 {A : AM} {M : Mem} : pm A M 0 10 = nI (A 0 10) := rfl
theorem pm_0_12 {A : AM} {M : Mem} : pm A M 0 12 = nI (A 0 12) := rfl
theorem pm_0_13 {A : AM} {M : Mem} : pm A M 0 13 = nI (A 0 13) := rfl
theorem pm_1 {A : AM} {M : Mem} {j : Nat} (hj : j < 7) : pm A M 1 j = nI (A 1 j) := by simp [pm, hj]
theorem pm_2 {A : AM} {M : Mem} {j : Nat} (hj : j < 7) : pm A M 2 j = nI (A 2 j) := by simp [pm, hj]
theorem pm_3 {A : AM} {M : Mem} {j : Nat} (hj : j < 7) : pm A M 3 j = nI (A 3 j) := by simp [pm, hj]
theorem pm_4 {A : AM} {M : Mem} {j : Nat} (hj : j < 7) : pm A M 4 j = nI (A 0 4 / 2 ^ j % 2) := by simp [pm, hj]
theorem pm_5 {A : AM} {M : Mem} {j : Nat} (hj : j < 7) : pm A M 5 j = nI (A 4 j) := by simp [pm, hj]
theorem pm_6 {A : AM} {M : Mem} {j : Nat} (hj : j < 7) : pm A M 6 j = nI (A 5 j) := by simp [pm, hj]
theorem pm_7 {A : AM} {M : Mem} {j : Nat} (hj : j < 7) : pm A M 7 j = nI (A 6 j) := by simp [pm, hj]
theorem pm_8 {A : AM} {M : Mem} {j : Nat} (hj : j < 7) : pm A M 8 j = nI (A 7 j) := by simp [pm, hj]
theorem pm_9 {A : AM} {M : Mem} {j : Nat} (hj : j < 2) (h1 : j = 1 → A 0 10 = 2) : pm A M 9 j = nI (A 8 j) := by
  rcases (show j = 0 ∨ j = 1 by omega) with rfl | rfl
  · simp [pm]
  · simp [pm, h1 rfl]
theorem pm_0_11 {A : AM} {M : Mem} : pm A M 0 11 = M 0 11 := rfl
theorem pm_0_14 {A : AM} {M : Mem} : pm A M 0 14 = M 0 14 := rfl
theorem pm_0_17 {A : AM} {M : Mem} : pm A M 0 17 = M 0 17 := rfl
theorem pm_0_18 {A : AM} {M : Mem} : pm A M 0 18 = M 0 18 := rfl
theorem pm_0_19 {A : AM} {M : Mem} : pm A M 0 19 = M 0 19 := rfl
theorem pm_0_20 {A : AM} {M : Mem} : pm A M 0 20 = M 0 20 := rfl
theorem pm_0_26 {A : AM} {M : Mem} : pm A M 0 26 = M 0 26 := rfl
theorem pm_0_27 {A : AM} {M : Mem} : pm A M 0 27 = M 0 27 := rfl
theorem pm_0_28 {A : AM} {M : Mem} : pm A M 0 28 = M 0 28 := rfl
theorem pm_0_29 {A : AM} {M : Mem} : pm A M 0 29 = M 0 29 := rfl
theorem pm_0_32 {A : AM} {M : Mem} : pm A M 0 32 = M 0 32 := rfl
theorem pm_0_37 {A : AM} {M : Mem} : pm A M 0 37 = M 0 37 := rfl
theorem pm_0_38 {A : AM} {M : Mem} : pm A M 0 38 = M 0 38 := rfl
theorem pm_10 {A : AM} {M : Mem} {j : Nat} : pm A M 10 j = M 10 j := by simp [pm]
theorem pm_11 {A : AM} {M : Mem} {j : Nat} : pm A M 11 j = M 11 j := by simp [pm]
theorem pm_12 {A : AM} {M : Mem} {j : Nat} : pm A M 12 j = M 12 j := by simp [pm]
theorem pm_13 {A : AM} {M : Mem} {j : Nat} : pm A M 13 j = M 13 j := by simp [pm]
theorem pm_14 {A : AM} {M : Mem} {j : Nat} : pm A M 14 j = M 14 j := by simp [pm]
theorem pm_15 {A : AM} {M : Mem} {j : Nat} : pm A M 15 j = M 15 j := by simp [pm]
theorem pm_16 {A : AM} {M : Mem} {j : Nat} : pm A M 16 j = M 16 j := by simp [pm]
theorem pm_17 {A : AM} {M : Mem} {j : Nat} : pm A M 17 j = M 17 j := by simp [pm]
theorem pm_18 {A : AM} {M : Mem} {j : Nat} : pm A M 18 j = M 18 j := by simp [pm]
theorem pm_19 {A : AM} {M : Mem} {j : Nat} : pm A M 19 j = M 19 j := by simp [pm]
theorem pm_20 {A : AM} {M : Mem} {j : Nat} : pm A M 20 j = M 20 j := by simp [pm]
theorem pm_21 {A : AM} {M : Mem} {j : Nat} : pm A M 21 j = M 21 j := by simp [pm]
theorem pm_22 {A : AM} {M : Mem} {j : Nat} : pm A M 22 j = M 22 j := by simp [pm]
theorem px_w0_0 {A : AM} {h : Mem} {v : Nat} : xs (px A h) 0 0 (nI v) = px (ua A 0 0 v) h := by
  funext q i
  by_cases e : q = 0 ∧ i = 0
  · obtain ⟨rfl, rfl⟩ := e; simp [xs, px, ua]
  · have e2 : ua A 0 0 v q i = A q i := if_neg e
    simp only [xs, if_neg e, px, e2]
theorem px_w0_4 {A : AM} {h : Mem} {v : Nat} : xs (px A h) 0 4 (nI v) = px (ua A 0 4 v) h := by
  funext q i
  by_cases e : q = 0 ∧ i = 4
  · obtain ⟨rfl, rfl⟩ := e; simp [xs, px, ua]
  · have e2 : ua A 0 4 v q i = A q i := if_neg e
    simp only [xs, if_neg e, px, e2]
theorem px_w0_8 {A : AM} {h : Mem} {v : Nat} : xs (px A h) 0 8 (nI v) = px (ua A 0 8 v) h := by
  funext q i
  by_cases e : q = 0 ∧ i = 8
  · obtain ⟨rfl, rfl⟩ := e; simp [xs, px, ua]
  · have e2 : ua A 0 8 v q i = A q i := if_neg e
    simp only [xs, if_neg e, px, e2]
theorem px_w0_10 {A : AM} {h : Mem} {v : Nat} : xs (px A h) 0 10 (nI v) = px (ua A 0 10 v) h := by
  funext q i
  by_cases e : q = 0 ∧ i = 10
  · obtain ⟨rfl, rfl⟩ := e; simp [xs, px, ua]
  · have e2 : ua A 0 10 v q i = A q i := if_neg e
    simp only [xs, if_neg e, px, e2]
theorem px_w0_12 {A : AM} {h : Mem} {v : Nat} : xs (px A h) 0 12 (nI v) = px (ua A 0 12 v) h := by
  funext q i
  by_cases e : q = 0 ∧ i = 12
  · obtain ⟨rfl, rfl⟩ := e; simp [xs, px, ua]
  · have e2 : ua A 0 12 v q i = A q i := if_neg e
    simp only [xs, if_neg e, px, e2]
theorem px_w0_13 {A : AM} {h : Mem} {v : Nat} : xs (px A h) 0 13 (nI v) = px (ua A 0 13 v) h := by
  funext q i
  by_cases e : q = 0 ∧ i = 13
  · obtain ⟨rfl, rfl⟩ := e; simp [xs, px, ua]
  · have e2 : ua A 0 13 v q i = A q i := if_neg e
    simp only [xs, if_neg e, px, e2]
theorem px_w1 {A : AM} {h : Mem} {k v : Nat} (hk : k < 7) : xs (px A h) 1 k (nI v) = px (ua A 1 k v) h := by
  funext q i
  by_cases e : q = 1 ∧ i = k
  · obtain ⟨rfl, rfl⟩ := e; simp [xs, px, ua, hk]
  · have e2 : ua A 1 k v q i = A q i := if_neg e
    simp only [xs, if_neg e, px, e2]
theorem px_w2 {A : AM} {h : Mem} {k v : Nat} (hk : k < 7) : xs (px A h) 2 k (nI v) = px (ua A 2 k v) h := by
  funext q i
  by_cases e : q = 2 ∧ i = k
  · obtain ⟨rfl, rfl⟩ := e; simp [xs, px, ua, hk]
  · have e2 : ua A 2 k v q i = A q i := if_neg e
    simp only [xs, if_neg e, px, e2]
theorem px_w3 {A : AM} {h : Mem} {k v : Nat} (hk : k < 7) : xs (px A h) 3 k (nI v) = px (ua A 3 k v) h := by
  funext q i
  by_cases e : q = 3 ∧ i = k
  · obtain ⟨rfl, rfl⟩ := e; simp [xs, px, ua, hk]
  · have e2 : ua A 3 k v q i = A q i := if_neg e
    simp only [xs, if_neg e, px, e2]
theorem px_w4 {A : AM} {h : Mem} {k v : Nat} (hk : k < 7) : xs (px A h) 4 k (nI v) = px (ua A 4 k v) h := by
  funext q i
  by_cases e : q = 4 ∧ i = k
  · obtain ⟨rfl, rfl⟩ := e; simp [xs, px, ua, hk]
  · have e2 : ua A 4 k v q i = A q i := if_neg e
    simp only [xs, if_neg e, px, e2]
theorem px_w5 {A : AM} {h : Mem} {k v : Nat} (hk : k < 7) : xs (px A h) 5 k (nI v) = px (ua A 5 k v) h := by
  funext q i
  by_cases e : q = 5 ∧ i = k
  · obtain ⟨rfl, rfl⟩ := e; simp [xs, px, ua, hk]
  · have e2 : ua A 5 k v q i = A q i := if_neg e
    simp only [xs, if_neg e, px, e2]
theorem px_w6 {A : AM} {h : Mem} {k v : Nat} (hk : k < 7) : xs (px A h) 6 k (nI v) = px (ua A 6 k v) h := by
  funext q i
  by_cases e : q = 6 ∧ i = k
  · obtain ⟨rfl, rfl⟩ := e; simp [xs, px, ua, hk]
  · have e2 : ua A 6 k v q i = A q i := if_neg e
    simp only [xs, if_neg e, px, e2]
theorem px_w7 {A : AM} {h : Mem} {k v : Nat} (hk : k < 7) : xs (px A h) 7 k (nI v) = px (ua A 7 k v) h := by
  funext q i
  by_cases e : q = 7 ∧ i = k
  · obtain ⟨rfl, rfl⟩ := e; simp [xs, px, ua, hk]
  · have e2 : ua A 7 k v q i = A q i := if_neg e
    simp only [xs, if_neg e, px, e2]
theorem px_w8 {A : AM} {h : Mem} {k v : Nat} (hk : k < 2) : xs (px A h) 8 k (nI v) = px (ua A 8 k v) h := by
  funext q i
  by_cases e : q = 8 ∧ i = k
  · obtain ⟨rfl, rfl⟩ := e; simp [xs, px, ua, hk]
  · have e2 : ua A 8 k v q i = A q i := if_neg e
    simp only [xs, if_neg e, px, e2]
theorem pm_w0_0 {A : AM} {M : Mem} {v : Nat} : xs (pm A M) 0 0 (nI v) = pm (ua A 0 0 v) M := by
  funext q i
  by_cases e : q = 0 ∧ i = 0
  · obtain ⟨rfl, rfl⟩ := e
    simp [xs, pm, ua]
  · simp only [xs, if_neg e]
    exact pm_eq (fun p j h => (ua_n (by unfold rd at h; omega)).symm)
theorem pm_w0_9 {A : AM} {M : Mem} {v : Nat} : xs (pm A M) 0 9 (nI v) = pm (ua A 0 8 v) M := by
  funext q i
  by_cases e : q = 0 ∧ i = 9
  · obtain ⟨rfl, rfl⟩ := e
    simp [xs, pm, ua]
  · simp only [xs, if_neg e]
    exact pm_eq (fun p j h => (ua_n (by unfold rd at h; omega)).symm)
theorem pm_w0_12 {A : AM} {M : Mem} {v : Nat} : xs (pm A M) 0 12 (nI v) = pm (ua A 0 12 v) M := by
  funext q i
  by_cases e : q = 0 ∧ i = 12
  · obtain ⟨rfl, rfl⟩ := e
    simp [xs, pm, ua]
  · simp only [xs, if_neg e]
    exact pm_eq (fun p j h => (ua_n (by unfold rd at h; omega)).symm)
theorem pm_w0_13 {A : AM} {M : Mem} {v : Nat} : xs (pm A M) 0 13 (nI v) = pm (ua A 0 13 v) M := by
  funext q i
  by_cases e : q = 0 ∧ i = 13
  · obtain ⟨rfl, rfl⟩ := e
    simp [xs, pm, ua]
  · simp only [xs, if_neg e]
    exact pm_eq (fun p j h => (ua_n (by unfold rd at h; omega)).symm)
theorem pm_w1 {A : AM} {M : Mem} {k v : Nat} (hk : k < 7) : xs (pm A M) 1 k (nI v) = pm (ua A 1 k v) M := by
  funext q i
  by_cases e : q = 1 ∧ i = k
  · obtain ⟨rfl, rfl⟩ := e
    simp [xs, pm, ua, hk]
  · simp only [xs, if_neg e]
    exact pm_eq (fun p j h => (ua_n (by unfold rd at h; omega)).symm)
theorem pm_w2 {A : AM} {M : Mem} {k v : Nat} (hk : k < 7) : xs (pm A M) 2 k (nI v) = pm (ua A 2 k v) M := by
  funext q i
  by_cases e : q = 2 ∧ i = k
  · obtain ⟨rfl, rfl⟩ := e
    simp [xs, pm, ua, hk]
  · simp only [xs, if_neg e]
    exact pm_eq (fun p j h => (ua_n (by unfold rd at h; omega)).symm)
theorem pm_w3 {A : AM} {M : Mem} {k v : Nat} (hk : k < 7) : xs (pm A M) 3 k (nI v) = pm (ua A 3 k v) M := by
  funext q i
  by_cases e : q = 3 ∧ i = k
  · obtain ⟨rfl, rfl⟩ := e
    simp [xs, pm, ua, hk]
  · simp only [xs, if_neg e]
    exact pm_eq (fun p j h => (ua_n (by unfold rd at h; omega)).symm)
theorem pm_w5 {A : AM} {M : Mem} {k v : Nat} (hk : k < 7) : xs (pm A M) 5 k (nI v) = pm (ua A 4 k v) M := by
  funext q i
  by_cases e : q = 5 ∧ i = k
  · obtain ⟨rfl, rfl⟩ := e
    simp [xs, pm, ua, hk]
  · simp only [xs, if_neg e]
    exact pm_eq (fun p j h => (ua_n (by unfold rd at h; omega)).symm)
theorem pm_w6 {A : AM} {M : Mem} {k v : Nat} (hk : k < 7) : xs (pm A M) 6 k (nI v) = pm (ua A 5 k v) M := by
  funext q i
  by_cases e : q = 6 ∧ i = k
  · obtain ⟨rfl, rfl⟩ := e
    simp [xs, pm, ua, hk]
  · simp only [xs, if_neg e]
    exact pm_eq (fun p j h => (ua_n (by unfold rd at h; omega)).symm)
theorem pm_w7 {A : AM} {M : Mem} {k v : Nat} (hk : k < 7) : xs (pm A M) 7 k (nI v) = pm (ua A 6 k v) M := by
  funext q i
  by_cases e : q = 7 ∧ i = k
  · obtain ⟨rfl, rfl⟩ := e
    simp [xs, pm, ua, hk]
  · simp only [xs, if_neg e]
    exact pm_eq (fun p j h => (ua_n (by unfold rd at h; omega)).symm)
theorem pm_w8 {A : AM} {M : Mem} {k v : Nat} (hk : k < 7) : xs (pm A M) 8 k (nI v) = pm (ua A 7 k v) M := by
  funext q i
  by_cases e : q = 8 ∧ i = k
  · obtain ⟨rfl, rfl⟩ := e
    simp [xs, pm, ua, hk]
  · simp only [xs, if_neg e]
    exact pm_eq (fun p j h => (ua_n (by unfold rd at h; omega)).symm)
theorem pm_w9 {A : AM} {M : Mem} {k v : Nat} (hk : k < 2) (h1 : k = 1 → A 0 10 = 2) : xs (pm A M) 9 k (nI v) = pm (ua A 8 k v) M := by
  funext q i
  by_cases e : q = 9 ∧ i = k
  · obtain ⟨rfl, rfl⟩ := e
    rcases (show i = 0 ∨ i = 1 by omega) with rfl | rfl
    · simp [xs, pm, ua]
    · simp [xs, pm, ua, h1 rfl]
  · simp only [xs, if_neg e]
    exact pm_eq (fun p j h => (ua_n (by unfold rd at h; omega)).symm)
/-- rooms: what the second one's time is counts only where there are two -/
theorem pm_w0_10 {A : AM} {M : Mem} {v : Nat} (hv : v = 2 ↔ A 0 10 = 2) : xs (pm A M) 0 10 (nI v) = pm (ua A 0 10 v) M := by
  funext q i
  by_cases e : q = 0 ∧ i = 10
  · obtain ⟨rfl, rfl⟩ := e
    simp [xs, pm, ua]
  · simp only [xs, if_neg e]
    by_cases e9 : q = 9
    · subst e9
      have e1 : ua A 0 10 v 0 10 = v := ua_s
      have e2 : ∀ j, ua A 0 10 v 8 j = A 8 j := fun j => ua_n (by omega)
      have e3 : (v = 2) = (A 0 10 = 2) := propext hv
      have hp : ∀ B : AM, pm B M 9 i = if i = 0 then nI (B 8 0) else if i = 1 then (if B 0 10 = 2 then nI (B 8 1) else M 9 i) else M 9 i := fun B => rfl
      rw [hp, hp]
      simp only [e1, e2, e3]
    · exact pm_eq (fun p j h => (ua_n (by unfold rd at h; omega)).symm)
theorem pm_open {A : AM} {M : Mem} {x : Nat} (hr : ¬ A 0 10 = 2) (hx : M 9 1 = nI x) : xs (pm A M) 0 10 (nI 2) = pm (ua (ua A 8 1 x) 0 10 2) M := by
  funext q i
  by_cases e : q = 0 ∧ i = 10
  · obtain ⟨rfl, rfl⟩ := e
    simp [xs, pm, ua]
  · simp only [xs, if_neg e]
    by_cases e9 : q = 9
    · subst e9
      have e1 : ua (ua A 8 1 x) 0 10 2 0 10 = 2 := ua_s
      have e2 : ua (ua A 8 1 x) 0 10 2 8 0 = A 8 0 := by rw [ua_n (by omega), ua_n (by omega)]
      have e3 : ua (ua A 8 1 x) 0 10 2 8 1 = x := by rw [ua_n (by omega), ua_s]
      simp only [pm, e1, e2, e3, hr, if_false, if_true]
      repeat' split
      all_goals first | rfl | (exfalso; omega) | (simp_all; done)
    · exact pm_eq (fun p j h => by rw [ua_n (by unfold rd at h; omega), ua_n (by unfold rd at h; omega)])
theorem pm_shut {A : AM} {M : Mem} : xs (pm A M) 0 10 (nI 1) = pm (ua A 0 10 1) (xs M 9 1 (pm A M 9 1)) := by
  funext q i
  by_cases e : q = 0 ∧ i = 10
  · obtain ⟨rfl, rfl⟩ := e
    simp [xs, pm, ua]
  · by_cases e9 : q = 9
    · subst e9
      have e1 : ua A 0 10 1 0 10 = 1 := ua_s
      have e2 : ∀ j, ua A 0 10 1 8 j = A 8 j := fun j => ua_n (by omega)
      by_cases i0 : i = 0
      · subst i0; simp [xs, pm, e2]
      · by_cases i1 : i = 1
        · subst i1; simp [xs, pm, e1]
        · simp [xs, pm, i0, i1]
    · have h1 : xs (pm A M) 0 10 (nI 1) q i = pm A M q i := by simp only [xs, if_neg e]
      have h2 : pm (ua A 0 10 1) (xs M 9 1 (pm A M 9 1)) q i = pm (ua A 0 10 1) M q i := by
        simp only [pm, xs, if_neg e9, if_neg (show ¬ (q = 9 ∧ i = 1) from fun z => e9 z.1)]
      rw [h1, h2]
      exact pm_eq (fun p j h => (ua_n (by unfold rd at h; omega)).symm)
theorem pm_hid {A : AM} {M : Mem} {v : Int32} (hr : ¬ A 0 10 = 2) : xs (pm A M) 9 1 v = pm A (xs M 9 1 v) := by
  funext q i
  by_cases e : q = 9 ∧ i = 1
  · obtain ⟨rfl, rfl⟩ := e
    simp [xs, pm, hr]
  · have h2 : pm A (xs M 9 1 v) q i = pm A M q i := by
      simp only [pm, xs, if_neg e]
    rw [h2]
    simp only [xs, if_neg e]

theorem pm_wed {A : AM} {M : Mem} {k : Nat} (hk : k < 7) (hm : A 0 4 < 128) : xs (pm A M) 4 k (nI 1) = pm (ua A 0 4 (A 0 4 ||| 2 ^ k)) M := by
  funext q i
  by_cases h4 : q = 4
  · subst h4
    by_cases hi : i < 7
    · have := na_orbit (A 0 4) hm k hk i hi
      by_cases e : i = k
      · subst e
        simp [xs, pm, ua, hi, this]
      · simp [xs, pm, ua, hi, this, e]
    · have e : ¬ i = k := by omega
      simp [xs, pm, ua, hi, e]
  · have e : ¬ (q = 4 ∧ i = k) := fun z => h4 z.1
    simp only [xs, if_neg e]
    exact pm_eq (fun p j h => (ua_n (by unfold rd at h; omega)).symm)
theorem pm_unw {A : AM} {M : Mem} {k : Nat} (hk : k < 7) (h : A 0 4 / 2 ^ k % 2 = 0) : xs (pm A M) 4 k (nI 0) = pm A M := by
  funext q i
  by_cases e : q = 4 ∧ i = k
  · obtain ⟨rfl, rfl⟩ := e
    simp [xs, pm, hk, h]
  · simp only [xs, if_neg e]
/-- what the model writes elsewhere stays elsewhere -/
theorem pm_off {A : AM} {M : Mem} {p k : Nat} {v : Int32} (h : 10 ≤ p ∨ (p = 0 ∧ k ≠ 0 ∧ k ≠ 9 ∧ k ≠ 10 ∧ k ≠ 12 ∧ k ≠ 13)) : xs (pm A M) p k v = pm A (xs M p k v) := by
  funext q i
  simp only [xs, pm]
  repeat' split
  all_goals first | rfl | (exfalso; omega) | (simp_all; done)
theorem px_px {A B : AM} {h : Mem} : px A (px B h) = px A h := by
  funext q i
  simp only [px]
  repeat' split
  all_goals rfl

