/-! THE LAW ITSELF: each of its cases keeps the relation -/
def INV (m0 m1 m3 m4 m5 m6 m7 m8 m9 m10 m11 m12 m13 m17 : Mem) : Prop := ∃ A, RR A m0 m1 m3 m4 [m5, m6, m7, m8, m9, m10, m11, m12] m13 m17
theorem itE {c : Prop} [Decidable c] {a b : Option Unit} (h1 : c → a = some ()) (h2 : ¬ c → b = some ()) : (if c then a else b) = some () := by
  split
  · next h => exact h1 h
  · next h => exact h2 h
abbrev KK : Type := Int32 → Mem → Mem → Mem → Mem → Mem → Mem → Mem → Mem → Mem → Mem → Mem → Mem → Mem → Mem → Mem → Mem → Mem → Mem → Option Unit
theorem lwc_0 {K : KK} {L : Nat} {sc : Nat → Int32} {v3 : Int32} {m0 m1 m2 m3 m4 m5 m6 m7 m8 m9 m10 m11 m12 m13 m14 m15 m16 m17 : Mem} (b1 : inb (v3 + 1) L = true) (b2 : inb (v3 + 2) L = true) (b3 : inb (v3 + 3) L = true) (b4 : inb (v3 + 4) L = true) (hI : INV m0 m1 m3 m4 m5 m6 m7 m8 m9 m10 m11 m12 m13 m17) (hK : ∀ m0 m1 m2 m3 m4 m5 m6 m7 m8 m9 m10 m11 m12 m13 m14 m15 m16 m17 : Mem, INV m0 m1 m3 m4 m5 m6 m7 m8 m9 m10 m11 m12 m13 m17 → K (v3 + 5) m0 m1 m2 m3 m4 m5 m6 m7 m8 m9 m10 m11 m12 m13 m14 m15 m16 m17 = some ()) : f_law_C0 K L sc v3 m0 m1 m2 m3 m4 m5 m6 m7 m8 m9 m10 m11 m12 m13 m14 m15 m16 m17 = some () := by
  obtain ⟨A, R⟩ := hI
  obtain ⟨h1, rfl⟩ : ∃ h1, m1 = px A h1 := ⟨m1, R.2.1⟩
  obtain ⟨M, rfl⟩ : ∃ M, m17 = pm A M := ⟨m17, R.2.2.1⟩
  obtain ⟨r, m0', m13', M', g1, g2, R2⟩ := op_feed R (sc (ix (v3 + 1)))
  unfold f_law_C0
  rw [b1, na_ck, g1, Option.bind_some, na_ck, g2, Option.bind_some]
  dsimp only
  rw [if_pos rfl, na_lt]
  exact hK _ _ _ _ _ _ _ _ _ _ _ _ _ _ _ _ _ _ ⟨_, R2⟩
theorem lwc_1 {K : KK} {L : Nat} {sc : Nat → Int32} {v3 : Int32} {m0 m1 m2 m3 m4 m5 m6 m7 m8 m9 m10 m11 m12 m13 m14 m15 m16 m17 : Mem} (b1 : inb (v3 + 1) L = true) (b2 : inb (v3 + 2) L = true) (b3 : inb (v3 + 3) L = true) (b4 : inb (v3 + 4) L = true) (hI : INV m0 m1 m3 m4 m5 m6 m7 m8 m9 m10 m11 m12 m13 m17) (hK : ∀ m0 m1 m2 m3 m4 m5 m6 m7 m8 m9 m10 m11 m12 m13 m14 m15 m16 m17 : Mem, INV m0 m1 m3 m4 m5 m6 m7 m8 m9 m10 m11 m12 m13 m17 → K (v3 + 5) m0 m1 m2 m3 m4 m5 m6 m7 m8 m9 m10 m11 m12 m13 m14 m15 m16 m17 = some ()) : f_law_C1 K L sc v3 m0 m1 m2 m3 m4 m5 m6 m7 m8 m9 m10 m11 m12 m13 m14 m15 m16 m17 = some () := by
  obtain ⟨A, R⟩ := hI
  obtain ⟨h1, rfl⟩ : ∃ h1, m1 = px A h1 := ⟨m1, R.2.1⟩
  obtain ⟨M, rfl⟩ : ∃ M, m17 = pm A M := ⟨m17, R.2.2.1⟩
  obtain ⟨r, m1', m2', m4', m13', M', A', g1, g2, R2⟩ := op_hall R m2
  unfold f_law_C1
  rw [g1, Option.bind_some, g2, Option.bind_some]
  dsimp only
  rw [if_pos rfl, na_lt]
  exact hK _ _ _ _ _ _ _ _ _ _ _ _ _ _ _ _ _ _ ⟨_, R2⟩
theorem lwc_2 {K : KK} {L : Nat} {sc : Nat → Int32} {v3 : Int32} {m0 m1 m2 m3 m4 m5 m6 m7 m8 m9 m10 m11 m12 m13 m14 m15 m16 m17 : Mem} (b1 : inb (v3 + 1) L = true) (b2 : inb (v3 + 2) L = true) (b3 : inb (v3 + 3) L = true) (b4 : inb (v3 + 4) L = true) (hI : INV m0 m1 m3 m4 m5 m6 m7 m8 m9 m10 m11 m12 m13 m17) (hK : ∀ m0 m1 m2 m3 m4 m5 m6 m7 m8 m9 m10 m11 m12 m13 m14 m15 m16 m17 : Mem, INV m0 m1 m3 m4 m5 m6 m7 m8 m9 m10 m11 m12 m13 m17 → K (v3 + 5) m0 m1 m2 m3 m4 m5 m6 m7 m8 m9 m10 m11 m12 m13 m14 m15 m16 m17 = some ()) : f_law_C2 K L sc v3 m0 m1 m2 m3 m4 m5 m6 m7 m8 m9 m10 m11 m12 m13 m14 m15 m16 m17 = some () := by
  obtain ⟨A, R⟩ := hI
  obtain ⟨h1, rfl⟩ : ∃ h1, m1 = px A h1 := ⟨m1, R.2.1⟩
  obtain ⟨M, rfl⟩ : ∃ M, m17 = pm A M := ⟨m17, R.2.2.1⟩
  obtain ⟨r, m0', M', g1, g2, R2⟩ := op_coupleOf R (sc (ix (v3 + 1))) (sc (ix (v3 + 2)))
  unfold f_law_C2
  rw [b1, b2, na_ck, na_ck, g1, Option.bind_some, na_ck, na_ck, g2, Option.bind_some]
  dsimp only
  rw [if_pos rfl, na_lt]
  exact hK _ _ _ _ _ _ _ _ _ _ _ _ _ _ _ _ _ _ ⟨_, R2⟩
theorem lwc_3 {K : KK} {L : Nat} {sc : Nat → Int32} {v3 : Int32} {m0 m1 m2 m3 m4 m5 m6 m7 m8 m9 m10 m11 m12 m13 m14 m15 m16 m17 : Mem} (b1 : inb (v3 + 1) L = true) (b2 : inb (v3 + 2) L = true) (b3 : inb (v3 + 3) L = true) (b4 : inb (v3 + 4) L = true) (hI : INV m0 m1 m3 m4 m5 m6 m7 m8 m9 m10 m11 m12 m13 m17) (hK : ∀ m0 m1 m2 m3 m4 m5 m6 m7 m8 m9 m10 m11 m12 m13 m14 m15 m16 m17 : Mem, INV m0 m1 m3 m4 m5 m6 m7 m8 m9 m10 m11 m12 m13 m17 → K (v3 + 5) m0 m1 m2 m3 m4 m5 m6 m7 m8 m9 m10 m11 m12 m13 m14 m15 m16 m17 = some ()) : f_law_C3 K L sc v3 m0 m1 m2 m3 m4 m5 m6 m7 m8 m9 m10 m11 m12 m13 m14 m15 m16 m17 = some () := by
  obtain ⟨A, R⟩ := hI
  obtain ⟨h1, rfl⟩ : ∃ h1, m1 = px A h1 := ⟨m1, R.2.1⟩
  obtain ⟨M, rfl⟩ : ∃ M, m17 = pm A M := ⟨m17, R.2.2.1⟩
  obtain ⟨r, m0', M', g1, g2, R2⟩ := op_order R (sc (ix (v3 + 1)))
  unfold f_law_C3
  rw [b1, na_ck, g1, Option.bind_some, na_ck, g2, Option.bind_some]
  dsimp only
  rw [if_pos rfl, na_lt]
  exact hK _ _ _ _ _ _ _ _ _ _ _ _ _ _ _ _ _ _ ⟨_, R2⟩
theorem lwc_4 {K : KK} {L : Nat} {sc : Nat → Int32} {v3 : Int32} {m0 m1 m2 m3 m4 m5 m6 m7 m8 m9 m10 m11 m12 m13 m14 m15 m16 m17 : Mem} (b1 : inb (v3 + 1) L = true) (b2 : inb (v3 + 2) L = true) (b3 : inb (v3 + 3) L = true) (b4 : inb (v3 + 4) L = true) (hI : INV m0 m1 m3 m4 m5 m6 m7 m8 m9 m10 m11 m12 m13 m17) (hK : ∀ m0 m1 m2 m3 m4 m5 m6 m7 m8 m9 m10 m11 m12 m13 m14 m15 m16 m17 : Mem, INV m0 m1 m3 m4 m5 m6 m7 m8 m9 m10 m11 m12 m13 m17 → K (v3 + 5) m0 m1 m2 m3 m4 m5 m6 m7 m8 m9 m10 m11 m12 m13 m14 m15 m16 m17 = some ()) : f_law_C4 K L sc v3 m0 m1 m2 m3 m4 m5 m6 m7 m8 m9 m10 m11 m12 m13 m14 m15 m16 m17 = some () := by
  obtain ⟨A, R⟩ := hI
  obtain ⟨h1, rfl⟩ : ∃ h1, m1 = px A h1 := ⟨m1, R.2.1⟩
  obtain ⟨M, rfl⟩ : ∃ M, m17 = pm A M := ⟨m17, R.2.2.1⟩
  obtain ⟨r, m0', M', g1, g2, R2⟩ := op_free R (sc (ix (v3 + 1)))
  unfold f_law_C4
  rw [b1, na_ck, g1, Option.bind_some, na_ck, g2, Option.bind_some]
  dsimp only
  rw [if_pos rfl, na_lt]
  exact hK _ _ _ _ _ _ _ _ _ _ _ _ _ _ _ _ _ _ ⟨_, R2⟩
theorem lwc_5 {K : KK} {L : Nat} {sc : Nat → Int32} {v3 : Int32} {m0 m1 m2 m3 m4 m5 m6 m7 m8 m9 m10 m11 m12 m13 m14 m15 m16 m17 : Mem} (b1 : inb (v3 + 1) L = true) (b2 : inb (v3 + 2) L = true) (b3 : inb (v3 + 3) L = true) (b4 : inb (v3 + 4) L = true) (hI : INV m0 m1 m3 m4 m5 m6 m7 m8 m9 m10 m11 m12 m13 m17) (hK : ∀ m0 m1 m2 m3 m4 m5 m6 m7 m8 m9 m10 m11 m12 m13 m14 m15 m16 m17 : Mem, INV m0 m1 m3 m4 m5 m6 m7 m8 m9 m10 m11 m12 m13 m17 → K (v3 + 5) m0 m1 m2 m3 m4 m5 m6 m7 m8 m9 m10 m11 m12 m13 m14 m15 m16 m17 = some ()) : f_law_C5 K L sc v3 m0 m1 m2 m3 m4 m5 m6 m7 m8 m9 m10 m11 m12 m13 m14 m15 m16 m17 = some () := by
  obtain ⟨A, R⟩ := hI
  obtain ⟨h1, rfl⟩ : ∃ h1, m1 = px A h1 := ⟨m1, R.2.1⟩
  obtain ⟨M, rfl⟩ : ∃ M, m17 = pm A M := ⟨m17, R.2.2.1⟩
  obtain ⟨r, m0', m1', m4', M', A', g1, g2, R2⟩ := op_couple R (sc (ix (v3 + 1))) (sc (ix (v3 + 2))) (sc (ix (v3 + 3)))
  unfold f_law_C5
  rw [b1, b2, b3, na_ck, na_ck, na_ck, g1, Option.bind_some, na_ck, na_ck, na_ck, g2, Option.bind_some]
  dsimp only
  rw [if_pos rfl, na_lt]
  exact hK _ _ _ _ _ _ _ _ _ _ _ _ _ _ _ _ _ _ ⟨_, R2⟩
theorem lwc_6 {K : KK} {L : Nat} {sc : Nat → Int32} {v3 : Int32} {m0 m1 m2 m3 m4 m5 m6 m7 m8 m9 m10 m11 m12 m13 m14 m15 m16 m17 : Mem} (b1 : inb (v3 + 1) L = true) (b2 : inb (v3 + 2) L = true) (b3 : inb (v3 + 3) L = true) (b4 : inb (v3 + 4) L = true) (hI : INV m0 m1 m3 m4 m5 m6 m7 m8 m9 m10 m11 m12 m13 m17) (hK : ∀ m0 m1 m2 m3 m4 m5 m6 m7 m8 m9 m10 m11 m12 m13 m14 m15 m16 m17 : Mem, INV m0 m1 m3 m4 m5 m6 m7 m8 m9 m10 m11 m12 m13 m17 → K (v3 + 5) m0 m1 m2 m3 m4 m5 m6 m7 m8 m9 m10 m11 m12 m13 m14 m15 m16 m17 = some ()) : f_law_C6 K L sc v3 m0 m1 m2 m3 m4 m5 m6 m7 m8 m9 m10 m11 m12 m13 m14 m15 m16 m17 = some () := by
  obtain ⟨A, R⟩ := hI
  obtain ⟨h1, rfl⟩ : ∃ h1, m1 = px A h1 := ⟨m1, R.2.1⟩
  obtain ⟨M, rfl⟩ : ∃ M, m17 = pm A M := ⟨m17, R.2.2.1⟩
  obtain ⟨r, m0', m1', m4', M', A', g1, g2, R2⟩ := op_rooms R (sc (ix (v3 + 1)))
  unfold f_law_C6
  rw [b1, na_ck, g1, Option.bind_some, na_ck, g2, Option.bind_some]
  dsimp only
  rw [if_pos rfl, na_lt]
  exact hK _ _ _ _ _ _ _ _ _ _ _ _ _ _ _ _ _ _ ⟨_, R2⟩
theorem lwc_7 {K : KK} {L : Nat} {sc : Nat → Int32} {v3 : Int32} {m0 m1 m2 m3 m4 m5 m6 m7 m8 m9 m10 m11 m12 m13 m14 m15 m16 m17 : Mem} (b1 : inb (v3 + 1) L = true) (b2 : inb (v3 + 2) L = true) (b3 : inb (v3 + 3) L = true) (b4 : inb (v3 + 4) L = true) (hI : INV m0 m1 m3 m4 m5 m6 m7 m8 m9 m10 m11 m12 m13 m17) (hK : ∀ m0 m1 m2 m3 m4 m5 m6 m7 m8 m9 m10 m11 m12 m13 m14 m15 m16 m17 : Mem, INV m0 m1 m3 m4 m5 m6 m7 m8 m9 m10 m11 m12 m13 m17 → K (v3 + 5) m0 m1 m2 m3 m4 m5 m6 m7 m8 m9 m10 m11 m12 m13 m14 m15 m16 m17 = some ()) : f_law_C7 K L sc v3 m0 m1 m2 m3 m4 m5 m6 m7 m8 m9 m10 m11 m12 m13 m14 m15 m16 m17 = some () := by
  obtain ⟨A, R⟩ := hI
  obtain ⟨h1, rfl⟩ : ∃ h1, m1 = px A h1 := ⟨m1, R.2.1⟩
  obtain ⟨M, rfl⟩ : ∃ M, m17 = pm A M := ⟨m17, R.2.2.1⟩
  obtain ⟨r, m0', m1', m4', j0, j1, j2, j3, j4, j5, j6, j7, M', A', g1, g2, R2⟩ := op_weds R (sc (ix (v3 + 1)))
  unfold f_law_C7
  rw [b1, na_ck, g1, Option.bind_some, na_ck, g2, Option.bind_some]
  dsimp only
  rw [if_pos rfl, na_lt]
  exact hK _ _ _ _ _ _ _ _ _ _ _ _ _ _ _ _ _ _ ⟨_, R2⟩
theorem lwc_8 {K : KK} {L : Nat} {sc : Nat → Int32} {v3 : Int32} {m0 m1 m2 m3 m4 m5 m6 m7 m8 m9 m10 m11 m12 m13 m14 m15 m16 m17 : Mem} (b1 : inb (v3 + 1) L = true) (b2 : inb (v3 + 2) L = true) (b3 : inb (v3 + 3) L = true) (b4 : inb (v3 + 4) L = true) (hI : INV m0 m1 m3 m4 m5 m6 m7 m8 m9 m10 m11 m12 m13 m17) (hK : ∀ m0 m1 m2 m3 m4 m5 m6 m7 m8 m9 m10 m11 m12 m13 m14 m15 m16 m17 : Mem, INV m0 m1 m3 m4 m5 m6 m7 m8 m9 m10 m11 m12 m13 m17 → K (v3 + 5) m0 m1 m2 m3 m4 m5 m6 m7 m8 m9 m10 m11 m12 m13 m14 m15 m16 m17 = some ()) : f_law_C8 K L sc v3 m0 m1 m2 m3 m4 m5 m6 m7 m8 m9 m10 m11 m12 m13 m14 m15 m16 m17 = some () := by
  obtain ⟨A, R⟩ := hI
  obtain ⟨h1, rfl⟩ : ∃ h1, m1 = px A h1 := ⟨m1, R.2.1⟩
  obtain ⟨M, rfl⟩ : ∃ M, m17 = pm A M := ⟨m17, R.2.2.1⟩
  obtain ⟨r, m0', m1', m4', j0, j1, j2, j3, j4, j5, j6, j7, M', A', g1, g2, R2⟩ := op_pulls R (sc (ix (v3 + 1)))
  unfold f_law_C8
  rw [b1, na_ck, g1, Option.bind_some, na_ck, g2, Option.bind_some]
  dsimp only
  rw [if_pos rfl, na_lt]
  exact hK _ _ _ _ _ _ _ _ _ _ _ _ _ _ _ _ _ _ ⟨_, R2⟩
theorem lwc_9 {K : KK} {L : Nat} {sc : Nat → Int32} {v3 : Int32} {m0 m1 m2 m3 m4 m5 m6 m7 m8 m9 m10 m11 m12 m13 m14 m15 m16 m17 : Mem} (b1 : inb (v3 + 1) L = true) (b2 : inb (v3 + 2) L = true) (b3 : inb (v3 + 3) L = true) (b4 : inb (v3 + 4) L = true) (hI : INV m0 m1 m3 m4 m5 m6 m7 m8 m9 m10 m11 m12 m13 m17) (hK : ∀ m0 m1 m2 m3 m4 m5 m6 m7 m8 m9 m10 m11 m12 m13 m14 m15 m16 m17 : Mem, INV m0 m1 m3 m4 m5 m6 m7 m8 m9 m10 m11 m12 m13 m17 → K (v3 + 5) m0 m1 m2 m3 m4 m5 m6 m7 m8 m9 m10 m11 m12 m13 m14 m15 m16 m17 = some ()) : f_law_C9 K L sc v3 m0 m1 m2 m3 m4 m5 m6 m7 m8 m9 m10 m11 m12 m13 m14 m15 m16 m17 = some () := by
  obtain ⟨A, R⟩ := hI
  obtain ⟨h1, rfl⟩ : ∃ h1, m1 = px A h1 := ⟨m1, R.2.1⟩
  obtain ⟨M, rfl⟩ : ∃ M, m17 = pm A M := ⟨m17, R.2.2.1⟩
  obtain ⟨r, m0', m1', m4', j0, j1, j2, j3, j4, j5, j6, j7, M', A', g1, g2, R2⟩ := op_slack R (sc (ix (v3 + 1)))
  unfold f_law_C9
  rw [b1, na_ck, g1, Option.bind_some, na_ck, g2, Option.bind_some]
  dsimp only
  rw [if_pos rfl, na_lt]
  exact hK _ _ _ _ _ _ _ _ _ _ _ _ _ _ _ _ _ _ ⟨_, R2⟩
theorem lwc_10 {K : KK} {L : Nat} {sc : Nat → Int32} {v3 : Int32} {m0 m1 m2 m3 m4 m5 m6 m7 m8 m9 m10 m11 m12 m13 m14 m15 m16 m17 : Mem} (b1 : inb (v3 + 1) L = true) (b2 : inb (v3 + 2) L = true) (b3 : inb (v3 + 3) L = true) (b4 : inb (v3 + 4) L = true) (hI : INV m0 m1 m3 m4 m5 m6 m7 m8 m9 m10 m11 m12 m13 m17) (hK : ∀ m0 m1 m2 m3 m4 m5 m6 m7 m8 m9 m10 m11 m12 m13 m14 m15 m16 m17 : Mem, INV m0 m1 m3 m4 m5 m6 m7 m8 m9 m10 m11 m12 m13 m17 → K (v3 + 5) m0 m1 m2 m3 m4 m5 m6 m7 m8 m9 m10 m11 m12 m13 m14 m15 m16 m17 = some ()) : f_law_C10 K L sc v3 m0 m1 m2 m3 m4 m5 m6 m7 m8 m9 m10 m11 m12 m13 m14 m15 m16 m17 = some () := by
  obtain ⟨A, R⟩ := hI
  obtain ⟨h1, rfl⟩ : ∃ h1, m1 = px A h1 := ⟨m1, R.2.1⟩
  obtain ⟨M, rfl⟩ : ∃ M, m17 = pm A M := ⟨m17, R.2.2.1⟩
  obtain ⟨r, m0', m1', m4', j0, j1, j2, j3, j4, j5, j6, j7, M', A', g1, g2, R2⟩ := op_rests R (sc (ix (v3 + 1)))
  unfold f_law_C10
  rw [b1, na_ck, g1, Option.bind_some, na_ck, g2, Option.bind_some]
  dsimp only
  rw [if_pos rfl, na_lt]
  exact hK _ _ _ _ _ _ _ _ _ _ _ _ _ _ _ _ _ _ ⟨_, R2⟩
theorem lwc_11 {K : KK} {L : Nat} {sc : Nat → Int32} {v3 : Int32} {m0 m1 m2 m3 m4 m5 m6 m7 m8 m9 m10 m11 m12 m13 m14 m15 m16 m17 : Mem} (b1 : inb (v3 + 1) L = true) (b2 : inb (v3 + 2) L = true) (b3 : inb (v3 + 3) L = true) (b4 : inb (v3 + 4) L = true) (hI : INV m0 m1 m3 m4 m5 m6 m7 m8 m9 m10 m11 m12 m13 m17) (hK : ∀ m0 m1 m2 m3 m4 m5 m6 m7 m8 m9 m10 m11 m12 m13 m14 m15 m16 m17 : Mem, INV m0 m1 m3 m4 m5 m6 m7 m8 m9 m10 m11 m12 m13 m17 → K (v3 + 5) m0 m1 m2 m3 m4 m5 m6 m7 m8 m9 m10 m11 m12 m13 m14 m15 m16 m17 = some ()) : f_law_C11 K L sc v3 m0 m1 m2 m3 m4 m5 m6 m7 m8 m9 m10 m11 m12 m13 m14 m15 m16 m17 = some () := by
  obtain ⟨A, R⟩ := hI
  obtain ⟨h1, rfl⟩ : ∃ h1, m1 = px A h1 := ⟨m1, R.2.1⟩
  obtain ⟨M, rfl⟩ : ∃ M, m17 = pm A M := ⟨m17, R.2.2.1⟩
  obtain ⟨r, m0', m1', m4', M', A', g1, g2, R2⟩ := op_back R
  unfold f_law_C11
  rw [g1, Option.bind_some, g2, Option.bind_some]
  dsimp only
  rw [if_pos rfl, na_lt]
  exact hK _ _ _ _ _ _ _ _ _ _ _ _ _ _ _ _ _ _ ⟨_, R2⟩
theorem lwc_12 {K : KK} {L : Nat} {sc : Nat → Int32} {v3 : Int32} {m0 m1 m2 m3 m4 m5 m6 m7 m8 m9 m10 m11 m12 m13 m14 m15 m16 m17 : Mem} (b1 : inb (v3 + 1) L = true) (b2 : inb (v3 + 2) L = true) (b3 : inb (v3 + 3) L = true) (b4 : inb (v3 + 4) L = true) (hI : INV m0 m1 m3 m4 m5 m6 m7 m8 m9 m10 m11 m12 m13 m17) (hK : ∀ m0 m1 m2 m3 m4 m5 m6 m7 m8 m9 m10 m11 m12 m13 m14 m15 m16 m17 : Mem, INV m0 m1 m3 m4 m5 m6 m7 m8 m9 m10 m11 m12 m13 m17 → K (v3 + 5) m0 m1 m2 m3 m4 m5 m6 m7 m8 m9 m10 m11 m12 m13 m14 m15 m16 m17 = some ()) : f_law_C12 K L sc v3 m0 m1 m2 m3 m4 m5 m6 m7 m8 m9 m10 m11 m12 m13 m14 m15 m16 m17 = some () := by
  obtain ⟨A, R⟩ := hI
  obtain ⟨h1, rfl⟩ : ∃ h1, m1 = px A h1 := ⟨m1, R.2.1⟩
  obtain ⟨M, rfl⟩ : ∃ M, m17 = pm A M := ⟨m17, R.2.2.1⟩
  obtain ⟨r, m0', m2', M', g1, g2, R2⟩ := op_when R m2 (sc (ix (v3 + 1))) (sc (ix (v3 + 2)))
  unfold f_law_C12
  rw [b1, b2, na_ck, na_ck, g1, Option.bind_some, na_ck, na_ck, g2, Option.bind_some]
  dsimp only
  rw [if_pos rfl, na_lt]
  exact hK _ _ _ _ _ _ _ _ _ _ _ _ _ _ _ _ _ _ ⟨_, R2⟩
theorem lwc_13 {K : KK} {L : Nat} {sc : Nat → Int32} {v3 : Int32} {m0 m1 m2 m3 m4 m5 m6 m7 m8 m9 m10 m11 m12 m13 m14 m15 m16 m17 : Mem} (b1 : inb (v3 + 1) L = true) (b2 : inb (v3 + 2) L = true) (b3 : inb (v3 + 3) L = true) (b4 : inb (v3 + 4) L = true) (hI : INV m0 m1 m3 m4 m5 m6 m7 m8 m9 m10 m11 m12 m13 m17) (hK : ∀ m0 m1 m2 m3 m4 m5 m6 m7 m8 m9 m10 m11 m12 m13 m14 m15 m16 m17 : Mem, INV m0 m1 m3 m4 m5 m6 m7 m8 m9 m10 m11 m12 m13 m17 → K (v3 + 5) m0 m1 m2 m3 m4 m5 m6 m7 m8 m9 m10 m11 m12 m13 m14 m15 m16 m17 = some ()) : f_law_C13 K L sc v3 m0 m1 m2 m3 m4 m5 m6 m7 m8 m9 m10 m11 m12 m13 m14 m15 m16 m17 = some () := by
  obtain ⟨A, R⟩ := hI
  obtain ⟨h1, rfl⟩ : ∃ h1, m1 = px A h1 := ⟨m1, R.2.1⟩
  obtain ⟨M, rfl⟩ : ∃ M, m17 = pm A M := ⟨m17, R.2.2.1⟩
  obtain ⟨r, m0', m2', M', g1, g2, R2⟩ := op_waits R m2 (sc (ix (v3 + 1)))
  unfold f_law_C13
  rw [b1, na_ck, g1, Option.bind_some, na_ck, g2, Option.bind_some]
  dsimp only
  rw [if_pos rfl, na_lt]
  exact hK _ _ _ _ _ _ _ _ _ _ _ _ _ _ _ _ _ _ ⟨_, R2⟩
theorem lwc_14 {K : KK} {L : Nat} {sc : Nat → Int32} {v3 : Int32} {m0 m1 m2 m3 m4 m5 m6 m7 m8 m9 m10 m11 m12 m13 m14 m15 m16 m17 : Mem} (b1 : inb (v3 + 1) L = true) (b2 : inb (v3 + 2) L = true) (b3 : inb (v3 + 3) L = true) (b4 : inb (v3 + 4) L = true) (hI : INV m0 m1 m3 m4 m5 m6 m7 m8 m9 m10 m11 m12 m13 m17) (hK : ∀ m0 m1 m2 m3 m4 m5 m6 m7 m8 m9 m10 m11 m12 m13 m14 m15 m16 m17 : Mem, INV m0 m1 m3 m4 m5 m6 m7 m8 m9 m10 m11 m12 m13 m17 → K (v3 + 5) m0 m1 m2 m3 m4 m5 m6 m7 m8 m9 m10 m11 m12 m13 m14 m15 m16 m17 = some ()) : f_law_C14 K L sc v3 m0 m1 m2 m3 m4 m5 m6 m7 m8 m9 m10 m11 m12 m13 m14 m15 m16 m17 = some () := by
  obtain ⟨A, R⟩ := hI
  obtain ⟨h1, rfl⟩ : ∃ h1, m1 = px A h1 := ⟨m1, R.2.1⟩
  obtain ⟨M, rfl⟩ : ∃ M, m17 = pm A M := ⟨m17, R.2.2.1⟩
  obtain ⟨r, m0', m2', M', g1, g2, R2⟩ := op_all R m2 (sc (ix (v3 + 1)))
  unfold f_law_C14
  rw [b1, na_ck, g1, Option.bind_some, na_ck, g2, Option.bind_some]
  dsimp only
  rw [if_pos rfl, na_lt]
  exact hK _ _ _ _ _ _ _ _ _ _ _ _ _ _ _ _ _ _ ⟨_, R2⟩
theorem lwc_15 {K : KK} {L : Nat} {sc : Nat → Int32} {v3 : Int32} {m0 m1 m2 m3 m4 m5 m6 m7 m8 m9 m10 m11 m12 m13 m14 m15 m16 m17 : Mem} (b1 : inb (v3 + 1) L = true) (b2 : inb (v3 + 2) L = true) (b3 : inb (v3 + 3) L = true) (b4 : inb (v3 + 4) L = true) (hI : INV m0 m1 m3 m4 m5 m6 m7 m8 m9 m10 m11 m12 m13 m17) (hK : ∀ m0 m1 m2 m3 m4 m5 m6 m7 m8 m9 m10 m11 m12 m13 m14 m15 m16 m17 : Mem, INV m0 m1 m3 m4 m5 m6 m7 m8 m9 m10 m11 m12 m13 m17 → K (v3 + 5) m0 m1 m2 m3 m4 m5 m6 m7 m8 m9 m10 m11 m12 m13 m14 m15 m16 m17 = some ()) : f_law_C15 K L sc v3 m0 m1 m2 m3 m4 m5 m6 m7 m8 m9 m10 m11 m12 m13 m14 m15 m16 m17 = some () := by
  obtain ⟨A, R⟩ := hI
  obtain ⟨h1, rfl⟩ : ∃ h1, m1 = px A h1 := ⟨m1, R.2.1⟩
  obtain ⟨M, rfl⟩ : ∃ M, m17 = pm A M := ⟨m17, R.2.2.1⟩
  obtain ⟨r, m0', m2', M', g1, g2, R2⟩ := op_met R m2 (sc (ix (v3 + 1)))
  unfold f_law_C15
  rw [b1, na_ck, g1, Option.bind_some, na_ck, g2, Option.bind_some]
  dsimp only
  rw [if_pos rfl, na_lt]
  exact hK _ _ _ _ _ _ _ _ _ _ _ _ _ _ _ _ _ _ ⟨_, R2⟩
theorem lwc_16 {K : KK} {L : Nat} {sc : Nat → Int32} {v3 : Int32} {m0 m1 m2 m3 m4 m5 m6 m7 m8 m9 m10 m11 m12 m13 m14 m15 m16 m17 : Mem} (b1 : inb (v3 + 1) L = true) (b2 : inb (v3 + 2) L = true) (b3 : inb (v3 + 3) L = true) (b4 : inb (v3 + 4) L = true) (hI : INV m0 m1 m3 m4 m5 m6 m7 m8 m9 m10 m11 m12 m13 m17) (hK : ∀ m0 m1 m2 m3 m4 m5 m6 m7 m8 m9 m10 m11 m12 m13 m14 m15 m16 m17 : Mem, INV m0 m1 m3 m4 m5 m6 m7 m8 m9 m10 m11 m12 m13 m17 → K (v3 + 5) m0 m1 m2 m3 m4 m5 m6 m7 m8 m9 m10 m11 m12 m13 m14 m15 m16 m17 = some ()) : f_law_C16 K L sc v3 m0 m1 m2 m3 m4 m5 m6 m7 m8 m9 m10 m11 m12 m13 m14 m15 m16 m17 = some () := by
  obtain ⟨A, R⟩ := hI
  obtain ⟨h1, rfl⟩ : ∃ h1, m1 = px A h1 := ⟨m1, R.2.1⟩
  obtain ⟨M, rfl⟩ : ∃ M, m17 = pm A M := ⟨m17, R.2.2.1⟩
  obtain ⟨r, m0', m14', m15', M', g1, g2, R2⟩ := op_best R m14 m15 (sc (ix (v3 + 1)))
  unfold f_law_C16
  rw [b1, na_ck, g1, Option.bind_some, na_ck, g2, Option.bind_some]
  dsimp only
  rw [if_pos rfl, na_lt]
  exact hK _ _ _ _ _ _ _ _ _ _ _ _ _ _ _ _ _ _ ⟨_, R2⟩
theorem lwc_17 {K : KK} {L : Nat} {sc : Nat → Int32} {v3 : Int32} {m0 m1 m2 m3 m4 m5 m6 m7 m8 m9 m10 m11 m12 m13 m14 m15 m16 m17 : Mem} (b1 : inb (v3 + 1) L = true) (b2 : inb (v3 + 2) L = true) (b3 : inb (v3 + 3) L = true) (b4 : inb (v3 + 4) L = true) (hI : INV m0 m1 m3 m4 m5 m6 m7 m8 m9 m10 m11 m12 m13 m17) (hK : ∀ m0 m1 m2 m3 m4 m5 m6 m7 m8 m9 m10 m11 m12 m13 m14 m15 m16 m17 : Mem, INV m0 m1 m3 m4 m5 m6 m7 m8 m9 m10 m11 m12 m13 m17 → K (v3 + 5) m0 m1 m2 m3 m4 m5 m6 m7 m8 m9 m10 m11 m12 m13 m14 m15 m16 m17 = some ()) : f_law_C17 K L sc v3 m0 m1 m2 m3 m4 m5 m6 m7 m8 m9 m10 m11 m12 m13 m14 m15 m16 m17 = some () := by
  obtain ⟨A, R⟩ := hI
  obtain ⟨h1, rfl⟩ : ∃ h1, m1 = px A h1 := ⟨m1, R.2.1⟩
  obtain ⟨M, rfl⟩ : ∃ M, m17 = pm A M := ⟨m17, R.2.2.1⟩
  obtain ⟨r, m2', M', g1, g2, R2⟩ := op_pull R m2
  unfold f_law_C17
  rw [g1, Option.bind_some, g2, Option.bind_some]
  dsimp only
  rw [if_pos rfl, na_lt]
  exact hK _ _ _ _ _ _ _ _ _ _ _ _ _ _ _ _ _ _ ⟨_, R2⟩
theorem lwc_18 {K : KK} {L : Nat} {sc : Nat → Int32} {v3 : Int32} {m0 m1 m2 m3 m4 m5 m6 m7 m8 m9 m10 m11 m12 m13 m14 m15 m16 m17 : Mem} (b1 : inb (v3 + 1) L = true) (b2 : inb (v3 + 2) L = true) (b3 : inb (v3 + 3) L = true) (b4 : inb (v3 + 4) L = true) (hI : INV m0 m1 m3 m4 m5 m6 m7 m8 m9 m10 m11 m12 m13 m17) (hK : ∀ m0 m1 m2 m3 m4 m5 m6 m7 m8 m9 m10 m11 m12 m13 m14 m15 m16 m17 : Mem, INV m0 m1 m3 m4 m5 m6 m7 m8 m9 m10 m11 m12 m13 m17 → K (v3 + 5) m0 m1 m2 m3 m4 m5 m6 m7 m8 m9 m10 m11 m12 m13 m14 m15 m16 m17 = some ()) : f_law_C18 K L sc v3 m0 m1 m2 m3 m4 m5 m6 m7 m8 m9 m10 m11 m12 m13 m14 m15 m16 m17 = some () := by
  obtain ⟨A, R⟩ := hI
  obtain ⟨h1, rfl⟩ : ∃ h1, m1 = px A h1 := ⟨m1, R.2.1⟩
  obtain ⟨M, rfl⟩ : ∃ M, m17 = pm A M := ⟨m17, R.2.2.1⟩
  obtain ⟨r, m0', m2', M', g1, g2, R2⟩ := op_bestSlack R m2 (sc (ix (v3 + 1)))
  unfold f_law_C18
  rw [b1, na_ck, g1, Option.bind_some, na_ck, g2, Option.bind_some]
  dsimp only
  rw [if_pos rfl, na_lt]
  exact hK _ _ _ _ _ _ _ _ _ _ _ _ _ _ _ _ _ _ ⟨_, R2⟩
theorem lwc_19 {K : KK} {L : Nat} {sc : Nat → Int32} {v3 : Int32} {m0 m1 m2 m3 m4 m5 m6 m7 m8 m9 m10 m11 m12 m13 m14 m15 m16 m17 : Mem} (b1 : inb (v3 + 1) L = true) (b2 : inb (v3 + 2) L = true) (b3 : inb (v3 + 3) L = true) (b4 : inb (v3 + 4) L = true) (hI : INV m0 m1 m3 m4 m5 m6 m7 m8 m9 m10 m11 m12 m13 m17) (hK : ∀ m0 m1 m2 m3 m4 m5 m6 m7 m8 m9 m10 m11 m12 m13 m14 m15 m16 m17 : Mem, INV m0 m1 m3 m4 m5 m6 m7 m8 m9 m10 m11 m12 m13 m17 → K (v3 + 5) m0 m1 m2 m3 m4 m5 m6 m7 m8 m9 m10 m11 m12 m13 m14 m15 m16 m17 = some ()) : f_law_C19 K L sc v3 m0 m1 m2 m3 m4 m5 m6 m7 m8 m9 m10 m11 m12 m13 m14 m15 m16 m17 = some () := by
  obtain ⟨A, R⟩ := hI
  obtain ⟨h1, rfl⟩ : ∃ h1, m1 = px A h1 := ⟨m1, R.2.1⟩
  obtain ⟨M, rfl⟩ : ∃ M, m17 = pm A M := ⟨m17, R.2.2.1⟩
  obtain ⟨r, m2', M', g1, g2, R2⟩ := op_rest R m2
  unfold f_law_C19
  rw [g1, Option.bind_some, g2, Option.bind_some]
  dsimp only
  rw [if_pos rfl, na_lt]
  exact hK _ _ _ _ _ _ _ _ _ _ _ _ _ _ _ _ _ _ ⟨_, R2⟩
theorem lwc_20 {K : KK} {L : Nat} {sc : Nat → Int32} {v3 : Int32} {m0 m1 m2 m3 m4 m5 m6 m7 m8 m9 m10 m11 m12 m13 m14 m15 m16 m17 : Mem} (b1 : inb (v3 + 1) L = true) (b2 : inb (v3 + 2) L = true) (b3 : inb (v3 + 3) L = true) (b4 : inb (v3 + 4) L = true) (hI : INV m0 m1 m3 m4 m5 m6 m7 m8 m9 m10 m11 m12 m13 m17) (hK : ∀ m0 m1 m2 m3 m4 m5 m6 m7 m8 m9 m10 m11 m12 m13 m14 m15 m16 m17 : Mem, INV m0 m1 m3 m4 m5 m6 m7 m8 m9 m10 m11 m12 m13 m17 → K (v3 + 5) m0 m1 m2 m3 m4 m5 m6 m7 m8 m9 m10 m11 m12 m13 m14 m15 m16 m17 = some ()) : f_law_C20 K L sc v3 m0 m1 m2 m3 m4 m5 m6 m7 m8 m9 m10 m11 m12 m13 m14 m15 m16 m17 = some () := by
  obtain ⟨A, R⟩ := hI
  obtain ⟨h1, rfl⟩ : ∃ h1, m1 = px A h1 := ⟨m1, R.2.1⟩
  obtain ⟨M, rfl⟩ : ∃ M, m17 = pm A M := ⟨m17, R.2.2.1⟩
  obtain ⟨r, m0', m2', M', g1, g2, R2⟩ := op_saved R m2
  unfold f_law_C20
  rw [g1, Option.bind_some, g2, Option.bind_some]
  dsimp only
  rw [if_pos rfl, na_lt]
  exact hK _ _ _ _ _ _ _ _ _ _ _ _ _ _ _ _ _ _ ⟨_, R2⟩
theorem lwc_21 {K : KK} {L : Nat} {sc : Nat → Int32} {v3 : Int32} {m0 m1 m2 m3 m4 m5 m6 m7 m8 m9 m10 m11 m12 m13 m14 m15 m16 m17 : Mem} (b1 : inb (v3 + 1) L = true) (b2 : inb (v3 + 2) L = true) (b3 : inb (v3 + 3) L = true) (b4 : inb (v3 + 4) L = true) (hI : INV m0 m1 m3 m4 m5 m6 m7 m8 m9 m10 m11 m12 m13 m17) (hK : ∀ m0 m1 m2 m3 m4 m5 m6 m7 m8 m9 m10 m11 m12 m13 m14 m15 m16 m17 : Mem, INV m0 m1 m3 m4 m5 m6 m7 m8 m9 m10 m11 m12 m13 m17 → K (v3 + 5) m0 m1 m2 m3 m4 m5 m6 m7 m8 m9 m10 m11 m12 m13 m14 m15 m16 m17 = some ()) : f_law_C21 K L sc v3 m0 m1 m2 m3 m4 m5 m6 m7 m8 m9 m10 m11 m12 m13 m14 m15 m16 m17 = some () := by
  obtain ⟨A, R⟩ := hI
  obtain ⟨h1, rfl⟩ : ∃ h1, m1 = px A h1 := ⟨m1, R.2.1⟩
  obtain ⟨M, rfl⟩ : ∃ M, m17 = pm A M := ⟨m17, R.2.2.1⟩
  obtain ⟨r, m0', m2', M', g1, g2, R2⟩ := op_can R m2 (sc (ix (v3 + 1))) (sc (ix (v3 + 2))) (sc (ix (v3 + 3)))
  unfold f_law_C21
  rw [b1, b2, b3, na_ck, na_ck, na_ck, g1, Option.bind_some, na_ck, na_ck, na_ck, g2, Option.bind_some]
  dsimp only
  rw [if_pos rfl, na_lt]
  exact hK _ _ _ _ _ _ _ _ _ _ _ _ _ _ _ _ _ _ ⟨_, R2⟩
theorem lwc_22 {K : KK} {L : Nat} {sc : Nat → Int32} {v3 : Int32} {m0 m1 m2 m3 m4 m5 m6 m7 m8 m9 m10 m11 m12 m13 m14 m15 m16 m17 : Mem} (b1 : inb (v3 + 1) L = true) (b2 : inb (v3 + 2) L = true) (b3 : inb (v3 + 3) L = true) (b4 : inb (v3 + 4) L = true) (hI : INV m0 m1 m3 m4 m5 m6 m7 m8 m9 m10 m11 m12 m13 m17) (hK : ∀ m0 m1 m2 m3 m4 m5 m6 m7 m8 m9 m10 m11 m12 m13 m14 m15 m16 m17 : Mem, INV m0 m1 m3 m4 m5 m6 m7 m8 m9 m10 m11 m12 m13 m17 → K (v3 + 5) m0 m1 m2 m3 m4 m5 m6 m7 m8 m9 m10 m11 m12 m13 m14 m15 m16 m17 = some ()) : f_law_C22 K L sc v3 m0 m1 m2 m3 m4 m5 m6 m7 m8 m9 m10 m11 m12 m13 m14 m15 m16 m17 = some () := by
  obtain ⟨A, R⟩ := hI
  obtain ⟨h1, rfl⟩ : ∃ h1, m1 = px A h1 := ⟨m1, R.2.1⟩
  obtain ⟨M, rfl⟩ : ∃ M, m17 = pm A M := ⟨m17, R.2.2.1⟩
  obtain ⟨r, m0', m2', m16', M', g1, g2, R2⟩ := op_fountain R m2 m16 (sc (ix (v3 + 1)))
  unfold f_law_C22
  rw [b1, na_ck, g1, Option.bind_some, na_ck, g2, Option.bind_some]
  dsimp only
  rw [if_pos rfl, na_lt]
  exact hK _ _ _ _ _ _ _ _ _ _ _ _ _ _ _ _ _ _ ⟨_, R2⟩
theorem lwc_23 {K : KK} {L : Nat} {sc : Nat → Int32} {v3 : Int32} {m0 m1 m2 m3 m4 m5 m6 m7 m8 m9 m10 m11 m12 m13 m14 m15 m16 m17 : Mem} (b1 : inb (v3 + 1) L = true) (b2 : inb (v3 + 2) L = true) (b3 : inb (v3 + 3) L = true) (b4 : inb (v3 + 4) L = true) (hI : INV m0 m1 m3 m4 m5 m6 m7 m8 m9 m10 m11 m12 m13 m17) (hK : ∀ m0 m1 m2 m3 m4 m5 m6 m7 m8 m9 m10 m11 m12 m13 m14 m15 m16 m17 : Mem, INV m0 m1 m3 m4 m5 m6 m7 m8 m9 m10 m11 m12 m13 m17 → K (v3 + 5) m0 m1 m2 m3 m4 m5 m6 m7 m8 m9 m10 m11 m12 m13 m14 m15 m16 m17 = some ()) : f_law_C23 K L sc v3 m0 m1 m2 m3 m4 m5 m6 m7 m8 m9 m10 m11 m12 m13 m14 m15 m16 m17 = some () := by
  obtain ⟨A, R⟩ := hI
  obtain ⟨h1, rfl⟩ : ∃ h1, m1 = px A h1 := ⟨m1, R.2.1⟩
  obtain ⟨M, rfl⟩ : ∃ M, m17 = pm A M := ⟨m17, R.2.2.1⟩
  obtain ⟨r, m0', m2', m16', M', g1, g2, R2⟩ := op_fountains R m2 m16 (sc (ix (v3 + 1)))
  unfold f_law_C23
  rw [b1, na_ck, g1, Option.bind_some, na_ck, g2, Option.bind_some]
  dsimp only
  rw [if_pos rfl, na_lt]
  exact hK _ _ _ _ _ _ _ _ _ _ _ _ _ _ _ _ _ _ ⟨_, R2⟩
theorem lwc_24 {K : KK} {L : Nat} {sc : Nat → Int32} {v3 : Int32} {m0 m1 m2 m3 m4 m5 m6 m7 m8 m9 m10 m11 m12 m13 m14 m15 m16 m17 : Mem} (b1 : inb (v3 + 1) L = true) (b2 : inb (v3 + 2) L = true) (b3 : inb (v3 + 3) L = true) (b4 : inb (v3 + 4) L = true) (hI : INV m0 m1 m3 m4 m5 m6 m7 m8 m9 m10 m11 m12 m13 m17) (hK : ∀ m0 m1 m2 m3 m4 m5 m6 m7 m8 m9 m10 m11 m12 m13 m14 m15 m16 m17 : Mem, INV m0 m1 m3 m4 m5 m6 m7 m8 m9 m10 m11 m12 m13 m17 → K (v3 + 5) m0 m1 m2 m3 m4 m5 m6 m7 m8 m9 m10 m11 m12 m13 m14 m15 m16 m17 = some ()) : f_law_C24 K L sc v3 m0 m1 m2 m3 m4 m5 m6 m7 m8 m9 m10 m11 m12 m13 m14 m15 m16 m17 = some () := by
  obtain ⟨A, R⟩ := hI
  obtain ⟨h1, rfl⟩ : ∃ h1, m1 = px A h1 := ⟨m1, R.2.1⟩
  obtain ⟨M, rfl⟩ : ∃ M, m17 = pm A M := ⟨m17, R.2.2.1⟩
  obtain ⟨r, m0', m2', M', g1, g2, R2⟩ := op_inside R m2 (sc (ix (v3 + 1)))
  unfold f_law_C24
  rw [b1, na_ck, g1, Option.bind_some, na_ck, g2, Option.bind_some]
  dsimp only
  rw [if_pos rfl, na_lt]
  exact hK _ _ _ _ _ _ _ _ _ _ _ _ _ _ _ _ _ _ ⟨_, R2⟩
theorem lwc_25 {K : KK} {L : Nat} {sc : Nat → Int32} {v3 : Int32} {m0 m1 m2 m3 m4 m5 m6 m7 m8 m9 m10 m11 m12 m13 m14 m15 m16 m17 : Mem} (b1 : inb (v3 + 1) L = true) (b2 : inb (v3 + 2) L = true) (b3 : inb (v3 + 3) L = true) (b4 : inb (v3 + 4) L = true) (hI : INV m0 m1 m3 m4 m5 m6 m7 m8 m9 m10 m11 m12 m13 m17) (hK : ∀ m0 m1 m2 m3 m4 m5 m6 m7 m8 m9 m10 m11 m12 m13 m14 m15 m16 m17 : Mem, INV m0 m1 m3 m4 m5 m6 m7 m8 m9 m10 m11 m12 m13 m17 → K (v3 + 5) m0 m1 m2 m3 m4 m5 m6 m7 m8 m9 m10 m11 m12 m13 m14 m15 m16 m17 = some ()) : f_law_C25 K L sc v3 m0 m1 m2 m3 m4 m5 m6 m7 m8 m9 m10 m11 m12 m13 m14 m15 m16 m17 = some () := by
  obtain ⟨A, R⟩ := hI
  obtain ⟨h1, rfl⟩ : ∃ h1, m1 = px A h1 := ⟨m1, R.2.1⟩
  obtain ⟨M, rfl⟩ : ∃ M, m17 = pm A M := ⟨m17, R.2.2.1⟩
  obtain ⟨r, m2', M', g1, g2, R2⟩ := op_crowded R m2
  unfold f_law_C25
  rw [g1, Option.bind_some, g2, Option.bind_some]
  dsimp only
  rw [if_pos rfl, na_lt]
  exact hK _ _ _ _ _ _ _ _ _ _ _ _ _ _ _ _ _ _ ⟨_, R2⟩
theorem lwc_26 {K : KK} {L : Nat} {sc : Nat → Int32} {v3 : Int32} {m0 m1 m2 m3 m4 m5 m6 m7 m8 m9 m10 m11 m12 m13 m14 m15 m16 m17 : Mem} (b1 : inb (v3 + 1) L = true) (b2 : inb (v3 + 2) L = true) (b3 : inb (v3 + 3) L = true) (b4 : inb (v3 + 4) L = true) (hI : INV m0 m1 m3 m4 m5 m6 m7 m8 m9 m10 m11 m12 m13 m17) (hK : ∀ m0 m1 m2 m3 m4 m5 m6 m7 m8 m9 m10 m11 m12 m13 m14 m15 m16 m17 : Mem, INV m0 m1 m3 m4 m5 m6 m7 m8 m9 m10 m11 m12 m13 m17 → K (v3 + 5) m0 m1 m2 m3 m4 m5 m6 m7 m8 m9 m10 m11 m12 m13 m14 m15 m16 m17 = some ()) : f_law_C26 K L sc v3 m0 m1 m2 m3 m4 m5 m6 m7 m8 m9 m10 m11 m12 m13 m14 m15 m16 m17 = some () := by
  obtain ⟨A, R⟩ := hI
  obtain ⟨h1, rfl⟩ : ∃ h1, m1 = px A h1 := ⟨m1, R.2.1⟩
  obtain ⟨M, rfl⟩ : ∃ M, m17 = pm A M := ⟨m17, R.2.2.1⟩
  obtain ⟨r, m0', M', g1, g2, R2⟩ := op_price R (sc (ix (v3 + 1)))
  unfold f_law_C26
  rw [b1, na_ck, g1, Option.bind_some, na_ck, g2, Option.bind_some]
  dsimp only
  rw [if_pos rfl, na_lt]
  exact hK _ _ _ _ _ _ _ _ _ _ _ _ _ _ _ _ _ _ ⟨_, R2⟩
theorem lwc_27 {K : KK} {L : Nat} {sc : Nat → Int32} {v3 : Int32} {m0 m1 m2 m3 m4 m5 m6 m7 m8 m9 m10 m11 m12 m13 m14 m15 m16 m17 : Mem} (b1 : inb (v3 + 1) L = true) (b2 : inb (v3 + 2) L = true) (b3 : inb (v3 + 3) L = true) (b4 : inb (v3 + 4) L = true) (hI : INV m0 m1 m3 m4 m5 m6 m7 m8 m9 m10 m11 m12 m13 m17) (hK : ∀ m0 m1 m2 m3 m4 m5 m6 m7 m8 m9 m10 m11 m12 m13 m14 m15 m16 m17 : Mem, INV m0 m1 m3 m4 m5 m6 m7 m8 m9 m10 m11 m12 m13 m17 → K (v3 + 5) m0 m1 m2 m3 m4 m5 m6 m7 m8 m9 m10 m11 m12 m13 m14 m15 m16 m17 = some ()) : f_law_C27 K L sc v3 m0 m1 m2 m3 m4 m5 m6 m7 m8 m9 m10 m11 m12 m13 m14 m15 m16 m17 = some () := by
  obtain ⟨A, R⟩ := hI
  obtain ⟨h1, rfl⟩ : ∃ h1, m1 = px A h1 := ⟨m1, R.2.1⟩
  obtain ⟨M, rfl⟩ : ∃ M, m17 = pm A M := ⟨m17, R.2.2.1⟩
  obtain ⟨r, m0', m2', M', g1, g2, R2⟩ := op_odds R m2 (sc (ix (v3 + 1))) (sc (ix (v3 + 2))) (sc (ix (v3 + 3))) (sc (ix (v3 + 4)))
  unfold f_law_C27
  rw [b1, b2, b3, b4, na_ck, na_ck, na_ck, na_ck, g1, Option.bind_some, na_ck, na_ck, na_ck, na_ck, g2, Option.bind_some]
  dsimp only
  have z : lg_cmp r r = 0 := by rw [(na_lc r r).2.2]
  rw [if_pos z, na_lt]
  exact hK _ _ _ _ _ _ _ _ _ _ _ _ _ _ _ _ _ _ ⟨_, R2⟩
theorem lwc_28 {K : KK} {L : Nat} {sc : Nat → Int32} {v3 : Int32} {m0 m1 m2 m3 m4 m5 m6 m7 m8 m9 m10 m11 m12 m13 m14 m15 m16 m17 : Mem} (b1 : inb (v3 + 1) L = true) (b2 : inb (v3 + 2) L = true) (b3 : inb (v3 + 3) L = true) (b4 : inb (v3 + 4) L = true) (hI : INV m0 m1 m3 m4 m5 m6 m7 m8 m9 m10 m11 m12 m13 m17) (hK : ∀ m0 m1 m2 m3 m4 m5 m6 m7 m8 m9 m10 m11 m12 m13 m14 m15 m16 m17 : Mem, INV m0 m1 m3 m4 m5 m6 m7 m8 m9 m10 m11 m12 m13 m17 → K (v3 + 5) m0 m1 m2 m3 m4 m5 m6 m7 m8 m9 m10 m11 m12 m13 m14 m15 m16 m17 = some ()) : f_law_C28 K L sc v3 m0 m1 m2 m3 m4 m5 m6 m7 m8 m9 m10 m11 m12 m13 m14 m15 m16 m17 = some () := by
  obtain ⟨A, R⟩ := hI
  obtain ⟨h1, rfl⟩ : ∃ h1, m1 = px A h1 := ⟨m1, R.2.1⟩
  obtain ⟨M, rfl⟩ : ∃ M, m17 = pm A M := ⟨m17, R.2.2.1⟩
  obtain ⟨r, m0', m2', M', g1, g2, R2⟩ := op_two R m2 (sc (ix (v3 + 1))) (sc (ix (v3 + 2)))
  unfold f_law_C28
  rw [b1, b2, na_ck, na_ck, g1, Option.bind_some, na_ck, na_ck, g2, Option.bind_some]
  dsimp only
  rw [if_pos rfl, na_lt]
  exact hK _ _ _ _ _ _ _ _ _ _ _ _ _ _ _ _ _ _ ⟨_, R2⟩
theorem lwc_29 {K : KK} {L : Nat} {sc : Nat → Int32} {v3 : Int32} {m0 m1 m2 m3 m4 m5 m6 m7 m8 m9 m10 m11 m12 m13 m14 m15 m16 m17 : Mem} (b1 : inb (v3 + 1) L = true) (b2 : inb (v3 + 2) L = true) (b3 : inb (v3 + 3) L = true) (b4 : inb (v3 + 4) L = true) (hI : INV m0 m1 m3 m4 m5 m6 m7 m8 m9 m10 m11 m12 m13 m17) (hK : ∀ m0 m1 m2 m3 m4 m5 m6 m7 m8 m9 m10 m11 m12 m13 m14 m15 m16 m17 : Mem, INV m0 m1 m3 m4 m5 m6 m7 m8 m9 m10 m11 m12 m13 m17 → K (v3 + 5) m0 m1 m2 m3 m4 m5 m6 m7 m8 m9 m10 m11 m12 m13 m14 m15 m16 m17 = some ()) : f_law_C29 K L sc v3 m0 m1 m2 m3 m4 m5 m6 m7 m8 m9 m10 m11 m12 m13 m14 m15 m16 m17 = some () := by
  obtain ⟨A, R⟩ := hI
  obtain ⟨h1, rfl⟩ : ∃ h1, m1 = px A h1 := ⟨m1, R.2.1⟩
  obtain ⟨M, rfl⟩ : ∃ M, m17 = pm A M := ⟨m17, R.2.2.1⟩
  obtain ⟨r, m0', m2', M', g1, g2, R2⟩ := op_whatWas R m2 (sc (ix (v3 + 1))) (sc (ix (v3 + 2)))
  unfold f_law_C29
  rw [b1, b2, na_ck, na_ck, g1, Option.bind_some, na_ck, na_ck, g2, Option.bind_some]
  dsimp only
  rw [if_pos rfl, na_lt]
  exact hK _ _ _ _ _ _ _ _ _ _ _ _ _ _ _ _ _ _ ⟨_, R2⟩
theorem lwc_30 {K : KK} {L : Nat} {sc : Nat → Int32} {v3 : Int32} {m0 m1 m2 m3 m4 m5 m6 m7 m8 m9 m10 m11 m12 m13 m14 m15 m16 m17 : Mem} (b1 : inb (v3 + 1) L = true) (b2 : inb (v3 + 2) L = true) (b3 : inb (v3 + 3) L = true) (b4 : inb (v3 + 4) L = true) (hI : INV m0 m1 m3 m4 m5 m6 m7 m8 m9 m10 m11 m12 m13 m17) (hK : ∀ m0 m1 m2 m3 m4 m5 m6 m7 m8 m9 m10 m11 m12 m13 m14 m15 m16 m17 : Mem, INV m0 m1 m3 m4 m5 m6 m7 m8 m9 m10 m11 m12 m13 m17 → K (v3 + 5) m0 m1 m2 m3 m4 m5 m6 m7 m8 m9 m10 m11 m12 m13 m14 m15 m16 m17 = some ()) : f_law_C30 K L sc v3 m0 m1 m2 m3 m4 m5 m6 m7 m8 m9 m10 m11 m12 m13 m14 m15 m16 m17 = some () := by
  obtain ⟨A, R⟩ := hI
  obtain ⟨h1, rfl⟩ : ∃ h1, m1 = px A h1 := ⟨m1, R.2.1⟩
  obtain ⟨M, rfl⟩ : ∃ M, m17 = pm A M := ⟨m17, R.2.2.1⟩
  obtain ⟨r, m0', M', g1, g2, R2⟩ := op_longest R (sc (ix (v3 + 1)))
  unfold f_law_C30
  rw [b1, na_ck, g1, Option.bind_some, na_ck, g2, Option.bind_some]
  dsimp only
  rw [if_pos rfl, na_lt]
  exact hK _ _ _ _ _ _ _ _ _ _ _ _ _ _ _ _ _ _ ⟨_, R2⟩
theorem lwc_31 {K : KK} {L : Nat} {sc : Nat → Int32} {v3 : Int32} {m0 m1 m2 m3 m4 m5 m6 m7 m8 m9 m10 m11 m12 m13 m14 m15 m16 m17 : Mem} (b1 : inb (v3 + 1) L = true) (b2 : inb (v3 + 2) L = true) (b3 : inb (v3 + 3) L = true) (b4 : inb (v3 + 4) L = true) (hI : INV m0 m1 m3 m4 m5 m6 m7 m8 m9 m10 m11 m12 m13 m17) (hK : ∀ m0 m1 m2 m3 m4 m5 m6 m7 m8 m9 m10 m11 m12 m13 m14 m15 m16 m17 : Mem, INV m0 m1 m3 m4 m5 m6 m7 m8 m9 m10 m11 m12 m13 m17 → K (v3 + 5) m0 m1 m2 m3 m4 m5 m6 m7 m8 m9 m10 m11 m12 m13 m14 m15 m16 m17 = some ()) : f_law_C31 K L sc v3 m0 m1 m2 m3 m4 m5 m6 m7 m8 m9 m10 m11 m12 m13 m14 m15 m16 m17 = some () := by
  obtain ⟨A, R⟩ := hI
  obtain ⟨h1, rfl⟩ : ∃ h1, m1 = px A h1 := ⟨m1, R.2.1⟩
  obtain ⟨M, rfl⟩ : ∃ M, m17 = pm A M := ⟨m17, R.2.2.1⟩
  obtain ⟨r, m0', m2', M', g1, g2, R2⟩ := op_mean R m2 (sc (ix (v3 + 1)))
  unfold f_law_C31
  rw [b1, na_ck, g1, Option.bind_some, na_ck, g2, Option.bind_some]
  dsimp only
  have z : lg_cmp r r = 0 := by rw [(na_lc r r).2.2]
  rw [if_pos z, na_lt]
  exact hK _ _ _ _ _ _ _ _ _ _ _ _ _ _ _ _ _ _ ⟨_, R2⟩
theorem lwc_32 {K : KK} {L : Nat} {sc : Nat → Int32} {v3 : Int32} {m0 m1 m2 m3 m4 m5 m6 m7 m8 m9 m10 m11 m12 m13 m14 m15 m16 m17 : Mem} (b1 : inb (v3 + 1) L = true) (b2 : inb (v3 + 2) L = true) (b3 : inb (v3 + 3) L = true) (b4 : inb (v3 + 4) L = true) (hI : INV m0 m1 m3 m4 m5 m6 m7 m8 m9 m10 m11 m12 m13 m17) (hK : ∀ m0 m1 m2 m3 m4 m5 m6 m7 m8 m9 m10 m11 m12 m13 m14 m15 m16 m17 : Mem, INV m0 m1 m3 m4 m5 m6 m7 m8 m9 m10 m11 m12 m13 m17 → K (v3 + 5) m0 m1 m2 m3 m4 m5 m6 m7 m8 m9 m10 m11 m12 m13 m14 m15 m16 m17 = some ()) : f_law_C32 K L sc v3 m0 m1 m2 m3 m4 m5 m6 m7 m8 m9 m10 m11 m12 m13 m14 m15 m16 m17 = some () := by
  obtain ⟨A, R⟩ := hI
  obtain ⟨h1, rfl⟩ : ∃ h1, m1 = px A h1 := ⟨m1, R.2.1⟩
  obtain ⟨M, rfl⟩ : ∃ M, m17 = pm A M := ⟨m17, R.2.2.1⟩
  obtain ⟨r, m2', M', g1, g2, R2⟩ := op_early R m2
  unfold f_law_C32
  rw [g1, Option.bind_some, g2, Option.bind_some]
  dsimp only
  rw [if_pos rfl, na_lt]
  exact hK _ _ _ _ _ _ _ _ _ _ _ _ _ _ _ _ _ _ ⟨_, R2⟩
theorem lwc_33 {K : KK} {L : Nat} {sc : Nat → Int32} {v3 : Int32} {m0 m1 m2 m3 m4 m5 m6 m7 m8 m9 m10 m11 m12 m13 m14 m15 m16 m17 : Mem} (b1 : inb (v3 + 1) L = true) (b2 : inb (v3 + 2) L = true) (b3 : inb (v3 + 3) L = true) (b4 : inb (v3 + 4) L = true) (hI : INV m0 m1 m3 m4 m5 m6 m7 m8 m9 m10 m11 m12 m13 m17) (hK : ∀ m0 m1 m2 m3 m4 m5 m6 m7 m8 m9 m10 m11 m12 m13 m14 m15 m16 m17 : Mem, INV m0 m1 m3 m4 m5 m6 m7 m8 m9 m10 m11 m12 m13 m17 → K (v3 + 5) m0 m1 m2 m3 m4 m5 m6 m7 m8 m9 m10 m11 m12 m13 m14 m15 m16 m17 = some ()) : f_law_C33 K L sc v3 m0 m1 m2 m3 m4 m5 m6 m7 m8 m9 m10 m11 m12 m13 m14 m15 m16 m17 = some () := by
  obtain ⟨A, R⟩ := hI
  obtain ⟨h1, rfl⟩ : ∃ h1, m1 = px A h1 := ⟨m1, R.2.1⟩
  obtain ⟨M, rfl⟩ : ∃ M, m17 = pm A M := ⟨m17, R.2.2.1⟩
  obtain ⟨r, m2', M', g1, g2, R2⟩ := op_worst R m2
  unfold f_law_C33
  rw [g1, Option.bind_some, g2, Option.bind_some]
  dsimp only
  rw [if_pos rfl, na_lt]
  exact hK _ _ _ _ _ _ _ _ _ _ _ _ _ _ _ _ _ _ ⟨_, R2⟩
theorem lwc_34 {K : KK} {L : Nat} {sc : Nat → Int32} {v3 : Int32} {m0 m1 m2 m3 m4 m5 m6 m7 m8 m9 m10 m11 m12 m13 m14 m15 m16 m17 : Mem} (b1 : inb (v3 + 1) L = true) (b2 : inb (v3 + 2) L = true) (b3 : inb (v3 + 3) L = true) (b4 : inb (v3 + 4) L = true) (hI : INV m0 m1 m3 m4 m5 m6 m7 m8 m9 m10 m11 m12 m13 m17) (hK : ∀ m0 m1 m2 m3 m4 m5 m6 m7 m8 m9 m10 m11 m12 m13 m14 m15 m16 m17 : Mem, INV m0 m1 m3 m4 m5 m6 m7 m8 m9 m10 m11 m12 m13 m17 → K (v3 + 5) m0 m1 m2 m3 m4 m5 m6 m7 m8 m9 m10 m11 m12 m13 m14 m15 m16 m17 = some ()) : f_law_C34 K L sc v3 m0 m1 m2 m3 m4 m5 m6 m7 m8 m9 m10 m11 m12 m13 m14 m15 m16 m17 = some () := by
  obtain ⟨A, R⟩ := hI
  obtain ⟨h1, rfl⟩ : ∃ h1, m1 = px A h1 := ⟨m1, R.2.1⟩
  obtain ⟨M, rfl⟩ : ∃ M, m17 = pm A M := ⟨m17, R.2.2.1⟩
  obtain ⟨r, m2', M', g1, g2, R2⟩ := op_idle R m2
  unfold f_law_C34
  rw [g1, Option.bind_some, g2, Option.bind_some]
  dsimp only
  rw [if_pos rfl, na_lt]
  exact hK _ _ _ _ _ _ _ _ _ _ _ _ _ _ _ _ _ _ ⟨_, R2⟩
theorem lwc_35 {K : KK} {L : Nat} {sc : Nat → Int32} {v3 : Int32} {m0 m1 m2 m3 m4 m5 m6 m7 m8 m9 m10 m11 m12 m13 m14 m15 m16 m17 : Mem} (b1 : inb (v3 + 1) L = true) (b2 : inb (v3 + 2) L = true) (b3 : inb (v3 + 3) L = true) (b4 : inb (v3 + 4) L = true) (hI : INV m0 m1 m3 m4 m5 m6 m7 m8 m9 m10 m11 m12 m13 m17) (hK : ∀ m0 m1 m2 m3 m4 m5 m6 m7 m8 m9 m10 m11 m12 m13 m14 m15 m16 m17 : Mem, INV m0 m1 m3 m4 m5 m6 m7 m8 m9 m10 m11 m12 m13 m17 → K (v3 + 5) m0 m1 m2 m3 m4 m5 m6 m7 m8 m9 m10 m11 m12 m13 m14 m15 m16 m17 = some ()) : f_law_C35 K L sc v3 m0 m1 m2 m3 m4 m5 m6 m7 m8 m9 m10 m11 m12 m13 m14 m15 m16 m17 = some () := by
  obtain ⟨A, R⟩ := hI
  obtain ⟨h1, rfl⟩ : ∃ h1, m1 = px A h1 := ⟨m1, R.2.1⟩
  obtain ⟨M, rfl⟩ : ∃ M, m17 = pm A M := ⟨m17, R.2.2.1⟩
  obtain ⟨r, m2', M', g1, g2, R2⟩ := op_span R m2
  unfold f_law_C35
  rw [g1, Option.bind_some, g2, Option.bind_some]
  dsimp only
  rw [if_pos rfl, na_lt]
  exact hK _ _ _ _ _ _ _ _ _ _ _ _ _ _ _ _ _ _ ⟨_, R2⟩
theorem lwc_36 {K : KK} {L : Nat} {sc : Nat → Int32} {v3 : Int32} {m0 m1 m2 m3 m4 m5 m6 m7 m8 m9 m10 m11 m12 m13 m14 m15 m16 m17 : Mem} (b1 : inb (v3 + 1) L = true) (b2 : inb (v3 + 2) L = true) (b3 : inb (v3 + 3) L = true) (b4 : inb (v3 + 4) L = true) (hI : INV m0 m1 m3 m4 m5 m6 m7 m8 m9 m10 m11 m12 m13 m17) (hK : ∀ m0 m1 m2 m3 m4 m5 m6 m7 m8 m9 m10 m11 m12 m13 m14 m15 m16 m17 : Mem, INV m0 m1 m3 m4 m5 m6 m7 m8 m9 m10 m11 m12 m13 m17 → K (v3 + 5) m0 m1 m2 m3 m4 m5 m6 m7 m8 m9 m10 m11 m12 m13 m14 m15 m16 m17 = some ()) : f_law_C36 K L sc v3 m0 m1 m2 m3 m4 m5 m6 m7 m8 m9 m10 m11 m12 m13 m14 m15 m16 m17 = some () := by
  obtain ⟨A, R⟩ := hI
  obtain ⟨h1, rfl⟩ : ∃ h1, m1 = px A h1 := ⟨m1, R.2.1⟩
  obtain ⟨M, rfl⟩ : ∃ M, m17 = pm A M := ⟨m17, R.2.2.1⟩
  obtain ⟨r, m2', M', g1, g2, R2⟩ := op_swap R m2
  unfold f_law_C36
  rw [g1, Option.bind_some, g2, Option.bind_some]
  dsimp only
  rw [if_pos rfl, na_lt]
  exact hK _ _ _ _ _ _ _ _ _ _ _ _ _ _ _ _ _ _ ⟨_, R2⟩
theorem lwc_37 {K : KK} {L : Nat} {sc : Nat → Int32} {v3 : Int32} {m0 m1 m2 m3 m4 m5 m6 m7 m8 m9 m10 m11 m12 m13 m14 m15 m16 m17 : Mem} (b1 : inb (v3 + 1) L = true) (b2 : inb (v3 + 2) L = true) (b3 : inb (v3 + 3) L = true) (b4 : inb (v3 + 4) L = true) (hI : INV m0 m1 m3 m4 m5 m6 m7 m8 m9 m10 m11 m12 m13 m17) (hK : ∀ m0 m1 m2 m3 m4 m5 m6 m7 m8 m9 m10 m11 m12 m13 m14 m15 m16 m17 : Mem, INV m0 m1 m3 m4 m5 m6 m7 m8 m9 m10 m11 m12 m13 m17 → K (v3 + 5) m0 m1 m2 m3 m4 m5 m6 m7 m8 m9 m10 m11 m12 m13 m14 m15 m16 m17 = some ()) : f_law_C37 K L sc v3 m0 m1 m2 m3 m4 m5 m6 m7 m8 m9 m10 m11 m12 m13 m14 m15 m16 m17 = some () := by
  obtain ⟨A, R⟩ := hI
  obtain ⟨h1, rfl⟩ : ∃ h1, m1 = px A h1 := ⟨m1, R.2.1⟩
  obtain ⟨M, rfl⟩ : ∃ M, m17 = pm A M := ⟨m17, R.2.2.1⟩
  obtain ⟨r, m2', M', g1, g2, R2⟩ := op_turned R m2
  unfold f_law_C37
  rw [g1, Option.bind_some, g2, Option.bind_some]
  dsimp only
  rw [if_pos rfl, na_lt]
  exact hK _ _ _ _ _ _ _ _ _ _ _ _ _ _ _ _ _ _ ⟨_, R2⟩
theorem lwc_38 {K : KK} {L : Nat} {sc : Nat → Int32} {v3 : Int32} {m0 m1 m2 m3 m4 m5 m6 m7 m8 m9 m10 m11 m12 m13 m14 m15 m16 m17 : Mem} (b1 : inb (v3 + 1) L = true) (b2 : inb (v3 + 2) L = true) (b3 : inb (v3 + 3) L = true) (b4 : inb (v3 + 4) L = true) (hI : INV m0 m1 m3 m4 m5 m6 m7 m8 m9 m10 m11 m12 m13 m17) (hK : ∀ m0 m1 m2 m3 m4 m5 m6 m7 m8 m9 m10 m11 m12 m13 m14 m15 m16 m17 : Mem, INV m0 m1 m3 m4 m5 m6 m7 m8 m9 m10 m11 m12 m13 m17 → K (v3 + 5) m0 m1 m2 m3 m4 m5 m6 m7 m8 m9 m10 m11 m12 m13 m14 m15 m16 m17 = some ()) : f_law_C38 K L sc v3 m0 m1 m2 m3 m4 m5 m6 m7 m8 m9 m10 m11 m12 m13 m14 m15 m16 m17 = some () := by
  obtain ⟨A, R⟩ := hI
  obtain ⟨h1, rfl⟩ : ∃ h1, m1 = px A h1 := ⟨m1, R.2.1⟩
  obtain ⟨M, rfl⟩ : ∃ M, m17 = pm A M := ⟨m17, R.2.2.1⟩
  obtain ⟨r, m2', M', g1, g2, R2⟩ := op_shift R m2
  unfold f_law_C38
  rw [g1, Option.bind_some, g2, Option.bind_some]
  dsimp only
  rw [if_pos rfl, na_lt]
  exact hK _ _ _ _ _ _ _ _ _ _ _ _ _ _ _ _ _ _ ⟨_, R2⟩
theorem lwc_39 {K : KK} {L : Nat} {sc : Nat → Int32} {v3 : Int32} {m0 m1 m2 m3 m4 m5 m6 m7 m8 m9 m10 m11 m12 m13 m14 m15 m16 m17 : Mem} (b1 : inb (v3 + 1) L = true) (b2 : inb (v3 + 2) L = true) (b3 : inb (v3 + 3) L = true) (b4 : inb (v3 + 4) L = true) (hI : INV m0 m1 m3 m4 m5 m6 m7 m8 m9 m10 m11 m12 m13 m17) (hK : ∀ m0 m1 m2 m3 m4 m5 m6 m7 m8 m9 m10 m11 m12 m13 m14 m15 m16 m17 : Mem, INV m0 m1 m3 m4 m5 m6 m7 m8 m9 m10 m11 m12 m13 m17 → K (v3 + 5) m0 m1 m2 m3 m4 m5 m6 m7 m8 m9 m10 m11 m12 m13 m14 m15 m16 m17 = some ()) : f_law_C39 K L sc v3 m0 m1 m2 m3 m4 m5 m6 m7 m8 m9 m10 m11 m12 m13 m14 m15 m16 m17 = some () := by
  obtain ⟨A, R⟩ := hI
  obtain ⟨h1, rfl⟩ : ∃ h1, m1 = px A h1 := ⟨m1, R.2.1⟩
  obtain ⟨M, rfl⟩ : ∃ M, m17 = pm A M := ⟨m17, R.2.2.1⟩
  obtain ⟨r, m0', M', g1, g2, R2⟩ := op_row R (sc (ix (v3 + 1)))
  unfold f_law_C39
  rw [b1, na_ck, g1, Option.bind_some, na_ck, g2, Option.bind_some]
  dsimp only
  rw [if_pos rfl, na_lt]
  exact hK _ _ _ _ _ _ _ _ _ _ _ _ _ _ _ _ _ _ ⟨_, R2⟩
theorem lwc_40 {K : KK} {L : Nat} {sc : Nat → Int32} {v3 : Int32} {m0 m1 m2 m3 m4 m5 m6 m7 m8 m9 m10 m11 m12 m13 m14 m15 m16 m17 : Mem} (b1 : inb (v3 + 1) L = true) (b2 : inb (v3 + 2) L = true) (b3 : inb (v3 + 3) L = true) (b4 : inb (v3 + 4) L = true) (hI : INV m0 m1 m3 m4 m5 m6 m7 m8 m9 m10 m11 m12 m13 m17) (hK : ∀ m0 m1 m2 m3 m4 m5 m6 m7 m8 m9 m10 m11 m12 m13 m14 m15 m16 m17 : Mem, INV m0 m1 m3 m4 m5 m6 m7 m8 m9 m10 m11 m12 m13 m17 → K (v3 + 5) m0 m1 m2 m3 m4 m5 m6 m7 m8 m9 m10 m11 m12 m13 m14 m15 m16 m17 = some ()) : f_law_C40 K L sc v3 m0 m1 m2 m3 m4 m5 m6 m7 m8 m9 m10 m11 m12 m13 m14 m15 m16 m17 = some () := by
  obtain ⟨A, R⟩ := hI
  obtain ⟨h1, rfl⟩ : ∃ h1, m1 = px A h1 := ⟨m1, R.2.1⟩
  obtain ⟨M, rfl⟩ : ∃ M, m17 = pm A M := ⟨m17, R.2.2.1⟩
  obtain ⟨r, m0', m2', M', g1, g2, R2⟩ := op_judge R m2
  unfold f_law_C40
  rw [g1, Option.bind_some, g2, Option.bind_some]
  dsimp only
  rw [if_pos rfl, na_lt]
  exact hK _ _ _ _ _ _ _ _ _ _ _ _ _ _ _ _ _ _ ⟨_, R2⟩
theorem lwc_41 {K : KK} {L : Nat} {sc : Nat → Int32} {v3 : Int32} {m0 m1 m2 m3 m4 m5 m6 m7 m8 m9 m10 m11 m12 m13 m14 m15 m16 m17 : Mem} (b1 : inb (v3 + 1) L = true) (b2 : inb (v3 + 2) L = true) (b3 : inb (v3 + 3) L = true) (b4 : inb (v3 + 4) L = true) (hI : INV m0 m1 m3 m4 m5 m6 m7 m8 m9 m10 m11 m12 m13 m17) (hK : ∀ m0 m1 m2 m3 m4 m5 m6 m7 m8 m9 m10 m11 m12 m13 m14 m15 m16 m17 : Mem, INV m0 m1 m3 m4 m5 m6 m7 m8 m9 m10 m11 m12 m13 m17 → K (v3 + 5) m0 m1 m2 m3 m4 m5 m6 m7 m8 m9 m10 m11 m12 m13 m14 m15 m16 m17 = some ()) : f_law_C41 K L sc v3 m0 m1 m2 m3 m4 m5 m6 m7 m8 m9 m10 m11 m12 m13 m14 m15 m16 m17 = some () := by
  obtain ⟨A, R⟩ := hI
  obtain ⟨h1, rfl⟩ : ∃ h1, m1 = px A h1 := ⟨m1, R.2.1⟩
  obtain ⟨M, rfl⟩ : ∃ M, m17 = pm A M := ⟨m17, R.2.2.1⟩
  obtain ⟨r, m0', M', g1, g2, R2⟩ := op_clear R
  unfold f_law_C41
  rw [g1, Option.bind_some, g2, Option.bind_some]
  dsimp only
  rw [if_pos rfl, na_lt]
  exact hK _ _ _ _ _ _ _ _ _ _ _ _ _ _ _ _ _ _ ⟨_, R2⟩
theorem lwc_42 {K : KK} {L : Nat} {sc : Nat → Int32} {v3 : Int32} {m0 m1 m2 m3 m4 m5 m6 m7 m8 m9 m10 m11 m12 m13 m14 m15 m16 m17 : Mem} (b1 : inb (v3 + 1) L = true) (b2 : inb (v3 + 2) L = true) (b3 : inb (v3 + 3) L = true) (b4 : inb (v3 + 4) L = true) (hI : INV m0 m1 m3 m4 m5 m6 m7 m8 m9 m10 m11 m12 m13 m17) (hK : ∀ m0 m1 m2 m3 m4 m5 m6 m7 m8 m9 m10 m11 m12 m13 m14 m15 m16 m17 : Mem, INV m0 m1 m3 m4 m5 m6 m7 m8 m9 m10 m11 m12 m13 m17 → K (v3 + 5) m0 m1 m2 m3 m4 m5 m6 m7 m8 m9 m10 m11 m12 m13 m14 m15 m16 m17 = some ()) : f_law_C42 K L sc v3 m0 m1 m2 m3 m4 m5 m6 m7 m8 m9 m10 m11 m12 m13 m14 m15 m16 m17 = some () := by
  obtain ⟨A, R⟩ := hI
  obtain ⟨h1, rfl⟩ : ∃ h1, m1 = px A h1 := ⟨m1, R.2.1⟩
  obtain ⟨M, rfl⟩ : ∃ M, m17 = pm A M := ⟨m17, R.2.2.1⟩
  obtain ⟨r, m0', m2', M', g1, g2, R2⟩ := op_lots R m2 (sc (ix (v3 + 1))) (sc (ix (v3 + 2))) (sc (ix (v3 + 3)))
  unfold f_law_C42
  rw [b1, b2, b3, na_ck, na_ck, na_ck, g1, Option.bind_some, na_ck, na_ck, na_ck, g2, Option.bind_some]
  dsimp only
  rw [if_pos rfl, na_lt]
  exact hK _ _ _ _ _ _ _ _ _ _ _ _ _ _ _ _ _ _ ⟨_, R2⟩
theorem lwc_43 {K : KK} {L : Nat} {sc : Nat → Int32} {v3 : Int32} {m0 m1 m2 m3 m4 m5 m6 m7 m8 m9 m10 m11 m12 m13 m14 m15 m16 m17 : Mem} (b1 : inb (v3 + 1) L = true) (b2 : inb (v3 + 2) L = true) (b3 : inb (v3 + 3) L = true) (b4 : inb (v3 + 4) L = true) (hI : INV m0 m1 m3 m4 m5 m6 m7 m8 m9 m10 m11 m12 m13 m17) (hK : ∀ m0 m1 m2 m3 m4 m5 m6 m7 m8 m9 m10 m11 m12 m13 m14 m15 m16 m17 : Mem, INV m0 m1 m3 m4 m5 m6 m7 m8 m9 m10 m11 m12 m13 m17 → K (v3 + 5) m0 m1 m2 m3 m4 m5 m6 m7 m8 m9 m10 m11 m12 m13 m14 m15 m16 m17 = some ()) : f_law_C43 K L sc v3 m0 m1 m2 m3 m4 m5 m6 m7 m8 m9 m10 m11 m12 m13 m14 m15 m16 m17 = some () := by
  obtain ⟨A, R⟩ := hI
  obtain ⟨h1, rfl⟩ : ∃ h1, m1 = px A h1 := ⟨m1, R.2.1⟩
  obtain ⟨M, rfl⟩ : ∃ M, m17 = pm A M := ⟨m17, R.2.2.1⟩
  obtain ⟨r, m0', m3', M', g1, g2, R2⟩ := op_image R
  unfold f_law_C43
  rw [g1, Option.bind_some, g2, Option.bind_some]
  dsimp only
  rw [if_pos rfl, na_lt]
  exact hK _ _ _ _ _ _ _ _ _ _ _ _ _ _ _ _ _ _ ⟨_, R2⟩
theorem lwc_44 {K : KK} {L : Nat} {sc : Nat → Int32} {v3 : Int32} {m0 m1 m2 m3 m4 m5 m6 m7 m8 m9 m10 m11 m12 m13 m14 m15 m16 m17 : Mem} (b1 : inb (v3 + 1) L = true) (b2 : inb (v3 + 2) L = true) (b3 : inb (v3 + 3) L = true) (b4 : inb (v3 + 4) L = true) (hI : INV m0 m1 m3 m4 m5 m6 m7 m8 m9 m10 m11 m12 m13 m17) (hK : ∀ m0 m1 m2 m3 m4 m5 m6 m7 m8 m9 m10 m11 m12 m13 m14 m15 m16 m17 : Mem, INV m0 m1 m3 m4 m5 m6 m7 m8 m9 m10 m11 m12 m13 m17 → K (v3 + 5) m0 m1 m2 m3 m4 m5 m6 m7 m8 m9 m10 m11 m12 m13 m14 m15 m16 m17 = some ()) : f_law_C44 K L sc v3 m0 m1 m2 m3 m4 m5 m6 m7 m8 m9 m10 m11 m12 m13 m14 m15 m16 m17 = some () := by
  obtain ⟨A, R⟩ := hI
  obtain ⟨h1, rfl⟩ : ∃ h1, m1 = px A h1 := ⟨m1, R.2.1⟩
  obtain ⟨M, rfl⟩ : ∃ M, m17 = pm A M := ⟨m17, R.2.2.1⟩
  obtain ⟨r, m0', m1', m4', M', A', g1, g2, R2⟩ := op_restore R
  unfold f_law_C44
  rw [g1, Option.bind_some, g2, Option.bind_some]
  dsimp only
  rw [if_pos rfl, na_lt]
  exact hK _ _ _ _ _ _ _ _ _ _ _ _ _ _ _ _ _ _ ⟨_, R2⟩
theorem lwc_45 {K : KK} {L : Nat} {sc : Nat → Int32} {v3 : Int32} {m0 m1 m2 m3 m4 m5 m6 m7 m8 m9 m10 m11 m12 m13 m14 m15 m16 m17 : Mem} (b1 : inb (v3 + 1) L = true) (b2 : inb (v3 + 2) L = true) (b3 : inb (v3 + 3) L = true) (b4 : inb (v3 + 4) L = true) (hI : INV m0 m1 m3 m4 m5 m6 m7 m8 m9 m10 m11 m12 m13 m17) (hK : ∀ m0 m1 m2 m3 m4 m5 m6 m7 m8 m9 m10 m11 m12 m13 m14 m15 m16 m17 : Mem, INV m0 m1 m3 m4 m5 m6 m7 m8 m9 m10 m11 m12 m13 m17 → K (v3 + 5) m0 m1 m2 m3 m4 m5 m6 m7 m8 m9 m10 m11 m12 m13 m14 m15 m16 m17 = some ()) : f_law_C45 K L sc v3 m0 m1 m2 m3 m4 m5 m6 m7 m8 m9 m10 m11 m12 m13 m14 m15 m16 m17 = some () := by
  obtain ⟨A, R⟩ := hI
  obtain ⟨h1, rfl⟩ : ∃ h1, m1 = px A h1 := ⟨m1, R.2.1⟩
  obtain ⟨M, rfl⟩ : ∃ M, m17 = pm A M := ⟨m17, R.2.2.1⟩
  obtain ⟨r, M', g1, g2, R2⟩ := op_count R (sc (ix (v3 + 1)))
  unfold f_law_C45
  rw [b1, na_ck, g1, Option.bind_some, na_ck, g2, Option.bind_some]
  dsimp only
  rw [if_pos rfl, na_lt]
  exact hK _ _ _ _ _ _ _ _ _ _ _ _ _ _ _ _ _ _ ⟨_, R2⟩
/-- the start -/
def A0 : AM := fun p j => if p = 0 ∧ j = 10 then 1 else 0
theorem A0_n {p j : Nat} (h : ¬ (p = 0 ∧ j = 10)) : A0 p j = 0 := if_neg h
theorem WF_A0 : WF A0 := by
  refine ⟨⟨by decide, by decide, by decide, by decide, by decide, by decide, by decide, fun c hc => ?_⟩, by decide, fun i hi => ?_, fun i j hi hj => ?_, fun c hc => ?_, fun c _ hc => ?_, fun c hc => ?_⟩
  · rw [A0_n (by omega), A0_n (by omega), A0_n (by omega), A0_n (by omega), A0_n (by omega), A0_n (by omega), A0_n (by omega)]
    omega
  · exact absurd hi (Nat.not_lt_zero _)
  · exact absurd hj (Nat.not_lt_zero _)
  · exact absurd hc (Nat.not_lt_zero _)
  · exact ⟨A0_n (by omega), A0_n (by omega), A0_n (by omega)⟩
  · rw [A0_n (by omega)]
    omega
theorem x2_is (p j : Nat) : MI_X2_0 p j = nI (A0 p j) := by
  by_cases h : p = 0 ∧ j = 10
  · obtain ⟨rfl, rfl⟩ := h
    rfl
  · rw [A0_n h]
    show MI_X2_0 p j = 0
    simp only [xs, z_, h, if_false]
    repeat' split
    all_goals rfl
theorem x7_is (p j : Nat) : MI_X7_0 p j = nI (A0 p j) := by
  by_cases h : p = 0 ∧ j = 10
  · obtain ⟨rfl, rfl⟩ := h
    rfl
  · rw [A0_n h]
    show MI_X7_0 p j = 0
    simp only [xs, z_, h, if_false]
    repeat' split
    all_goals rfl
theorem INV_0 : INV MI_X6_0 MI_X6_1 MI_X6_3 MI_X6_4 MI_X6_5 MI_X6_6 MI_X6_7 MI_X6_8 MI_X6_9 MI_X6_10 MI_X6_11 MI_X6_12 MI_X6_13 MI_X7_0 := by
  refine ⟨A0, WF_A0, ?_, ?_, fun j hj => ?_, ⟨0, by omega, rfl, rfl, fun j hj => absurd hj (Nat.not_lt_zero j)⟩, ⟨0, by omega, rfl, rfl, fun h => absurd h (by omega)⟩, ⟨0, by omega, rfl, rfl, fun j hj => absurd hj (Nat.not_lt_zero j)⟩, ⟨0, 0, by omega, by omega, rfl, rfl, rfl, rfl, fun i hi => absurd hi (Nat.not_lt_zero i)⟩⟩
  · funext p j
    show MI_X2_0 p j = px A0 MI_X2_0 p j
    unfold px
    repeat' split
    all_goals first | exact x2_is p j | rfl
  · funext p j
    rw [x7_is]
    by_cases h : hcell A0 p j
    · unfold hcell at h
      rcases h with ⟨rfl, h⟩ | ⟨h, h2, h3⟩ | ⟨rfl, rfl | ⟨rfl, h⟩⟩
      · rcases h with rfl | rfl | rfl | rfl | rfl
        · rfl
        · rfl
        · rfl
        · rfl
        · rfl
      · rcases (by omega : p = 1 ∨ p = 2 ∨ p = 3 ∨ p = 4 ∨ p = 5 ∨ p = 6 ∨ p = 7 ∨ p = 8) with rfl | rfl | rfl | rfl | rfl | rfl | rfl | rfl
        · rw [pm_1 h3]
        · rw [pm_2 h3]
        · rw [pm_3 h3]
        · rw [pm_4 h3, A0_n (by omega), A0_n (by omega), Nat.zero_div]
        · rw [pm_5 h3, A0_n (by omega), A0_n (by omega)]
        · rw [pm_6 h3, A0_n (by omega), A0_n (by omega)]
        · rw [pm_7 h3, A0_n (by omega), A0_n (by omega)]
        · rw [pm_8 h3, A0_n (by omega), A0_n (by omega)]
      · rw [pm_9 (by omega) (by omega), A0_n (by omega), A0_n (by omega)]
      · exact absurd h (by decide)
    · rw [pm_out h, x7_is]
  · show MI_X6_0 2 j = MI_X7_0 10 j
    rw [x7_is, A0_n (by omega)]
    show MI_X6_0 2 j = 0
    simp [xs, z_]
theorem law_go (L : Nat) (sc : Nat → Int32) (hL : L ≤ 2560) : ∀ (f p : Nat) (m0 m1 m2 m3 m4 m5 m6 m7 m8 m9 m10 m11 m12 m13 m14 m15 m16 m17 : Mem), p ≤ L → L < p + 5 * f → INV m0 m1 m3 m4 m5 m6 m7 m8 m9 m10 m11 m12 m13 m17 → f_law_L L sc f (nI p) m0 m1 m2 m3 m4 m5 m6 m7 m8 m9 m10 m11 m12 m13 m14 m15 m16 m17 = some ()
  | 0, p, _, _, _, _, _, _, _, _, _, _, _, _, _, _, _, _, _, _, h1, h2, hI => absurd h1 (by omega)
  | f + 1, p, m0, m1, m2, m3, m4, m5, m6, m7, m8, m9, m10, m11, m12, m13, m14, m15, m16, m17, h1, h2, hI => by
    have e : (Int32.ofNat L - 5 < nI p) = (L < p + 5) := by
      show (nI L - nI 5 < nI p) = _
      apply propext
      rw [fa_lt, na_sI (by omega) (by omega), nI_toInt (by omega)]
      omega
    rw [f_law_L]
    by_cases z : L < p + 5
    · rw [if_pos (e ▸ z)]
    · rw [if_neg (fun y => z (e ▸ y)), na_inb (by omega) (by omega), na_ck, na_lt]
      have b0 : ∀ i, i < 5 → inb (nI p + nI i) L = true := fun i hi => by
        rw [nI_add]
        exact na_inb (by omega) (by omega)
      have b1 : inb (nI p + 1) L = true := b0 1 (by omega)
      have b2 : inb (nI p + 2) L = true := b0 2 (by omega)
      have b3 : inb (nI p + 3) L = true := b0 3 (by omega)
      have b4 : inb (nI p + 4) L = true := b0 4 (by omega)
      have hK : ∀ m0 m1 m2 m3 m4 m5 m6 m7 m8 m9 m10 m11 m12 m13 m14 m15 m16 m17 : Mem, INV m0 m1 m3 m4 m5 m6 m7 m8 m9 m10 m11 m12 m13 m17 → f_law_L L sc f (nI p + 5) m0 m1 m2 m3 m4 m5 m6 m7 m8 m9 m10 m11 m12 m13 m14 m15 m16 m17 = some () := fun m0 m1 m2 m3 m4 m5 m6 m7 m8 m9 m10 m11 m12 m13 m14 m15 m16 m17 hJ => by
        rw [show nI p + 5 = nI (p + 5) from nI_add p 5]
        exact law_go L sc hL f (p + 5) m0 m1 m2 m3 m4 m5 m6 m7 m8 m9 m10 m11 m12 m13 m14 m15 m16 m17 (by omega) (by omega) hJ
      generalize sc (ix (nI p)) &&& 63 = c
      refine itE (fun _ => lwc_0 b1 b2 b3 b4 hI hK) (fun _ => ?_)
      refine itE (fun _ => lwc_1 b1 b2 b3 b4 hI hK) (fun _ => ?_)
      refine itE (fun _ => lwc_2 b1 b2 b3 b4 hI hK) (fun _ => ?_)
      refine itE (fun _ => lwc_3 b1 b2 b3 b4 hI hK) (fun _ => ?_)
      refine itE (fun _ => lwc_4 b1 b2 b3 b4 hI hK) (fun _ => ?_)
      refine itE (fun _ => lwc_5 b1 b2 b3 b4 hI hK) (fun _ => ?_)
      refine itE (fun _ => lwc_6 b1 b2 b3 b4 hI hK) (fun _ => ?_)
      refine itE (fun _ => lwc_7 b1 b2 b3 b4 hI hK) (fun _ => ?_)
      refine itE (fun _ => lwc_8 b1 b2 b3 b4 hI hK) (fun _ => ?_)
      refine itE (fun _ => lwc_9 b1 b2 b3 b4 hI hK) (fun _ => ?_)
      refine itE (fun _ => lwc_10 b1 b2 b3 b4 hI hK) (fun _ => ?_)
      refine itE (fun _ => lwc_11 b1 b2 b3 b4 hI hK) (fun _ => ?_)
      refine itE (fun _ => lwc_12 b1 b2 b3 b4 hI hK) (fun _ => ?_)
      refine itE (fun _ => lwc_13 b1 b2 b3 b4 hI hK) (fun _ => ?_)
      refine itE (fun _ => lwc_14 b1 b2 b3 b4 hI hK) (fun _ => ?_)
      refine itE (fun _ => lwc_15 b1 b2 b3 b4 hI hK) (fun _ => ?_)
      refine itE (fun _ => lwc_16 b1 b2 b3 b4 hI hK) (fun _ => ?_)
      refine itE (fun _ => lwc_17 b1 b2 b3 b4 hI hK) (fun _ => ?_)
      refine itE (fun _ => lwc_18 b1 b2 b3 b4 hI hK) (fun _ => ?_)
      refine itE (fun _ => lwc_19 b1 b2 b3 b4 hI hK) (fun _ => ?_)
      refine itE (fun _ => lwc_20 b1 b2 b3 b4 hI hK) (fun _ => ?_)
      refine itE (fun _ => lwc_21 b1 b2 b3 b4 hI hK) (fun _ => ?_)
      refine itE (fun _ => lwc_22 b1 b2 b3 b4 hI hK) (fun _ => ?_)
      refine itE (fun _ => lwc_23 b1 b2 b3 b4 hI hK) (fun _ => ?_)
      refine itE (fun _ => lwc_24 b1 b2 b3 b4 hI hK) (fun _ => ?_)
      refine itE (fun _ => lwc_25 b1 b2 b3 b4 hI hK) (fun _ => ?_)
      refine itE (fun _ => lwc_26 b1 b2 b3 b4 hI hK) (fun _ => ?_)
      refine itE (fun _ => lwc_27 b1 b2 b3 b4 hI hK) (fun _ => ?_)
      refine itE (fun _ => lwc_28 b1 b2 b3 b4 hI hK) (fun _ => ?_)
      refine itE (fun _ => lwc_29 b1 b2 b3 b4 hI hK) (fun _ => ?_)
      refine itE (fun _ => lwc_30 b1 b2 b3 b4 hI hK) (fun _ => ?_)
      refine itE (fun _ => lwc_31 b1 b2 b3 b4 hI hK) (fun _ => ?_)
      refine itE (fun _ => lwc_32 b1 b2 b3 b4 hI hK) (fun _ => ?_)
      refine itE (fun _ => lwc_33 b1 b2 b3 b4 hI hK) (fun _ => ?_)
      refine itE (fun _ => lwc_34 b1 b2 b3 b4 hI hK) (fun _ => ?_)
      refine itE (fun _ => lwc_35 b1 b2 b3 b4 hI hK) (fun _ => ?_)
      refine itE (fun _ => lwc_36 b1 b2 b3 b4 hI hK) (fun _ => ?_)
      refine itE (fun _ => lwc_37 b1 b2 b3 b4 hI hK) (fun _ => ?_)
      refine itE (fun _ => lwc_38 b1 b2 b3 b4 hI hK) (fun _ => ?_)
      refine itE (fun _ => lwc_39 b1 b2 b3 b4 hI hK) (fun _ => ?_)
      refine itE (fun _ => lwc_40 b1 b2 b3 b4 hI hK) (fun _ => ?_)
      refine itE (fun _ => lwc_41 b1 b2 b3 b4 hI hK) (fun _ => ?_)
      refine itE (fun _ => lwc_42 b1 b2 b3 b4 hI hK) (fun _ => ?_)
      refine itE (fun _ => lwc_43 b1 b2 b3 b4 hI hK) (fun _ => ?_)
      refine itE (fun _ => lwc_44 b1 b2 b3 b4 hI hK) (fun _ => ?_)
      refine itE (fun _ => lwc_45 b1 b2 b3 b4 hI hK) (fun _ => ?_)
      rw [na_lt]
      exact hK m0 m1 m2 m3 m4 m5 m6 m7 m8 m9 m10 m11 m12 m13 m14 m15 m16 m17 hI
