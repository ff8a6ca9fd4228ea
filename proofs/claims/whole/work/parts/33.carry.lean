/-! KEEPING: 63 numbers of the model's hall into a row and back -/
def cp (k : Nat) : Nat := if k < 5 then 0 else if k < 7 then 9 else (k - 7) % 8 + 1
def cj (k : Nat) : Nat := if k = 0 then 0 else if k = 1 then 9 else if k = 2 then 10 else if k = 3 then 12 else if k = 4 then 13 else if k = 5 then 0 else if k = 6 then 1 else (k - 7) / 8
def ci (p j : Nat) : Nat := if p = 0 then (if j = 0 then 0 else if j = 9 then 1 else if j = 10 then 2 else if j = 12 then 3 else if j = 13 then 4 else 100) else if p ≤ 8 then (if j < 7 then 7 + 8 * j + (p - 1) else 100) else if p = 9 then (if j = 0 then 5 else if j = 1 then 6 else 100) else 100
theorem ci_c : ∀ k, k < 63 → ci (cp k) (cj k) = k := by decide +kernel
theorem ci_lt {p j : Nat} (h : ci p j < 63) : p < 10 ∧ j < 14 := by
  unfold ci at h
  (repeat' split at h) <;> omega
theorem ci_inv {p j : Nat} (h : ci p j < 63) : cp (ci p j) = p ∧ cj (ci p j) = j := by
  have e : ∀ p, p < 10 → ∀ j, j < 14 → ci p j < 63 → cp (ci p j) = p ∧ cj (ci p j) = j := by decide +kernel
  exact e p (ci_lt h).1 j (ci_lt h).2 h
theorem ci_big {p j : Nat} (h : 10 ≤ p) : ci p j = 100 := by
  unfold ci
  rw [if_neg (by omega), if_neg (by omega), if_neg (by omega)]
theorem ci_27 : ci 0 27 = 100 ∧ ci 0 28 = 100 ∧ ci 0 29 = 100 := by decide
theorem cp_lt : ∀ k, k < 63 → cp k < 10 ∧ ¬ (cp k = 0 ∧ cj k = 27) ∧ ¬ (cp k = 0 ∧ cj k = 28) ∧ ¬ (cp k = 0 ∧ cj k = 29) := by decide +kernel
def okR (R : Nat) : Prop := R = 15 ∨ R = 16 ∨ R = 18
theorem carry_s {R k : Nat} (hR : okR R) {W : Mem} (h28 : W 0 28 = nI 1) (h29 : W 0 29 = nI R) (h27 : W 0 27 = nI k) (hk : k < 63) (v : Int32) : f_X7_carry W v = some (v, xs (xs W R k v) 0 27 (nI (k + 1))) := by
  have e1 : (nI (k + 1) : Int32) - 1 = nI k := nI_pred k
  have e2 : nI k + 1 = nI (k + 1) := nI_1 k
  have e3 : ¬ (nI 1 : Int32) = 0 := by decide
  have e4 : (nI 15 : Int32) = 15 ∧ ¬ (nI 16 : Int32) = 15 ∧ (nI 16 : Int32) = 16 ∧ ¬ (nI 18 : Int32) = 15 ∧ ¬ (nI 18 : Int32) = 16 ∧ (nI 18 : Int32) = 18 := by decide
  obtain ⟨q1, q2, q3, q4, q5, q6⟩ := e4
  unfold f_X7_carry
  rcases hR with rfl | rfl | rfl <;> simp [xs, h28, h29, h27, e1, e2, e3, q1, q2, q3, q4, q5, q6, na_inb hk (by omega : (63 : Nat) < 2147483648), na_ix (by omega : k < 2147483648), na_ck, na_lt]
theorem carry_l {R k : Nat} (hR : okR R) {W : Mem} (h28 : W 0 28 = nI 0) (h29 : W 0 29 = nI R) (h27 : W 0 27 = nI k) (hk : k < 63) (v : Int32) : f_X7_carry W v = some (W R k, xs W 0 27 (nI (k + 1))) := by
  have e1 : (nI (k + 1) : Int32) - 1 = nI k := nI_pred k
  have e2 : nI k + 1 = nI (k + 1) := nI_1 k
  have e3 : (nI 0 : Int32) = 0 := by decide
  have e4 : (nI 15 : Int32) = 15 ∧ ¬ (nI 16 : Int32) = 15 ∧ (nI 16 : Int32) = 16 ∧ ¬ (nI 18 : Int32) = 15 ∧ ¬ (nI 18 : Int32) = 16 ∧ (nI 18 : Int32) = 18 := by decide
  obtain ⟨q1, q2, q3, q4, q5, q6⟩ := e4
  unfold f_X7_carry
  rcases hR with rfl | rfl | rfl <;> simp [xs, h28, h29, h27, e1, e2, e3, q1, q2, q3, q4, q5, q6, na_inb hk (by omega : (63 : Nat) < 2147483648), na_ix (by omega : k < 2147483648), na_ck, na_lt]
/-- k numbers are carried: t = 1 into row R, t = 0 out of it; V is what the hall's cells are told behind it, W what was there -/
def stt (R t : Nat) (V W : Mem) (k : Nat) : Mem := fun p j =>
  if p = 0 ∧ j = 27 then nI k else if p = 0 ∧ j = 28 then nI t else if p = 0 ∧ j = 29 then nI R
  else if ci p j < k then V p j else if t = 1 ∧ p = R ∧ j < k then V (cp j) (cj j) else W p j
theorem cstep {τ : Type} {R t k : Nat} {V W : Mem} (hR : okR R) (ht : (t = 1 ∧ W (cp k) (cj k) = V (cp k) (cj k)) ∨ (t = 0 ∧ W R k = V (cp k) (cj k))) (hk : k < 63) {p j : Nat} (hp : cp k = p) (hj : cj k = j) (g : Mem → Option τ) : ((f_X7_carry (stt R t V W k) (stt R t V W k p j)).bind fun u => lt (xs u.2 p j u.1) g) = g (stt R t V W (k + 1)) := by
  subst hp
  subst hj
  have h27 : stt R t V W k 0 27 = nI k := by simp [stt]
  have h28 : stt R t V W k 0 28 = nI t := by simp [stt]
  have h29 : stt R t V W k 0 29 = nI R := by simp [stt]
  have hc := ci_c k hk
  obtain ⟨c1, c2, c3, c4⟩ := cp_lt k hk
  have hR2 : 15 ≤ R := by rcases hR with h | h | h <;> omega
  have hcR : ∀ i, ci R i = 100 := fun i => ci_big (by omega)
  have key : ∀ m : Mem, (∀ p j, ¬ (p = cp k ∧ j = cj k) → m p j = stt R t V W (k + 1) p j) → xs m (cp k) (cj k) (V (cp k) (cj k)) = stt R t V W (k + 1) := fun m hm => by
    funext p j
    by_cases e : p = cp k ∧ j = cj k
    · simp only [xs, if_pos e]
      obtain ⟨rfl, rfl⟩ := e
      simp only [stt, if_neg c2, if_neg c3, if_neg c4, hc]
      rw [if_pos (by omega)]
    · simp only [xs, if_neg e]
      exact hm p j e
  have cix : ∀ p j, ¬ (p = cp k ∧ j = cj k) → (ci p j < k ↔ ci p j < k + 1) := fun p j e => by
    constructor
    · intro h; omega
    · intro h
      rcases Nat.lt_or_ge (ci p j) k with h2 | h2
      · exact h2
      · have h3 : ci p j = k := by omega
        have h4 := ci_inv (p := p) (j := j) (by omega)
        rw [h3] at h4
        exact absurd ⟨h4.1.symm, h4.2.symm⟩ e
  rcases ht with ⟨rfl, hW⟩ | ⟨rfl, hW⟩
  · have hv : stt R 1 V W k (cp k) (cj k) = V (cp k) (cj k) := by
      simp only [stt, if_neg c2, if_neg c3, if_neg c4, hc]
      rw [if_neg (by omega), if_neg (by omega)]
      exact hW
    rw [hv, carry_s hR h28 h29 h27 hk, Option.bind_some]
    show g (xs _ _ _ _) = _
    congr 1
    refine key _ (fun p j e => ?_)
    have h0 := cix p j e
    simp only [xs, stt]
    by_cases a1 : p = 0 ∧ j = 27
    · simp only [if_pos a1]
    · simp only [if_neg a1]
      by_cases a2 : p = 0 ∧ j = 28
      · have : ¬ (p = R ∧ j = k) := by omega
        simp only [if_pos a2, if_neg this]
      · simp only [if_neg a2]
        by_cases a3 : p = 0 ∧ j = 29
        · have : ¬ (p = R ∧ j = k) := by omega
          simp only [if_pos a3, if_neg this]
        · simp only [if_neg a3]
          by_cases a4 : p = R ∧ j = k
          · obtain ⟨rfl, rfl⟩ := a4
            rw [if_pos ⟨rfl, rfl⟩, hcR, if_neg (by omega), if_pos ⟨trivial, rfl, by omega⟩]
          · rw [if_neg a4]
            by_cases a5 : ci p j < k
            · rw [if_pos a5, if_pos (h0.mp a5)]
            · rw [if_neg a5, if_neg (fun z => a5 (h0.mpr z))]
              by_cases a6 : p = R ∧ j < k
              · rw [if_pos ⟨trivial, a6.1, a6.2⟩, if_pos ⟨trivial, a6.1, by omega⟩]
              · rw [if_neg (fun z => a6 z.2), if_neg (fun z => a6 ⟨z.2.1, by omega⟩)]
  · have hv : stt R 0 V W k R k = V (cp k) (cj k) := by
      have b1 : ¬ (R = 0 ∧ k = 27) := by omega
      have b2 : ¬ (R = 0 ∧ k = 28) := by omega
      have b3 : ¬ (R = 0 ∧ k = 29) := by omega
      simp only [stt, if_neg b1, if_neg b2, if_neg b3, hcR]
      rw [if_neg (by omega), if_neg (by omega)]
      exact hW
    rw [carry_l hR h28 h29 h27 hk, Option.bind_some, hv]
    show g (xs _ _ _ _) = _
    congr 1
    refine key _ (fun p j e => ?_)
    have h0 := cix p j e
    simp only [xs, stt]
    by_cases a1 : p = 0 ∧ j = 27
    · simp only [if_pos a1]
    · simp only [if_neg a1]
      by_cases a2 : p = 0 ∧ j = 28
      · simp only [if_pos a2]
      · simp only [if_neg a2]
        by_cases a3 : p = 0 ∧ j = 29
        · simp only [if_pos a3]
        · simp only [if_neg a3]
          by_cases a5 : ci p j < k
          · rw [if_pos a5, if_pos (h0.mp a5)]
          · rw [if_neg a5, if_neg (fun z => a5 (h0.mpr z)), if_neg (by omega), if_neg (by omega)]

theorem carryAll_L {t : Nat} {V W : Mem} (ht : (t = 1 ∧ ∀ k, k < 63 → W (cp k) (cj k) = V (cp k) (cj k)) ∨ (t = 0 ∧ ∀ k, k < 63 → W 15 k = V (cp k) (cj k))) : f_X7_carryAll_L109 6000 (nI 0) (stt 15 t V W (7 + 8 * 0)) = some (stt 15 t V W 63) := by
  have hk : ∀ k, k < 63 → (t = 1 ∧ W (cp k) (cj k) = V (cp k) (cj k)) ∨ (t = 0 ∧ W 15 k = V (cp k) (cj k)) := fun k hk => ht.imp (fun h => ⟨h.1, h.2 k hk⟩) (fun h => ⟨h.1, h.2 k hk⟩)
  have hR : okR 15 := by unfold okR; omega
  have hcp : ∀ c, c < 7 → ∀ r, r < 8 → cp (7 + 8 * c + r) = r + 1 ∧ cj (7 + 8 * c + r) = c := by decide +kernel
  refine lp (fun f s i => f_X7_carryAll_L109 f i s) 7 (fun j => stt 15 t V W (7 + 8 * j)) (fun f => ?_) (fun f j hj => ?_) 7 0 6000 (by omega) (by omega)
  · show f_X7_carryAll_L109 (f + 1) _ _ = _
    rw [f_X7_carryAll_L109, if_pos (by decide)]
  · show f_X7_carryAll_L109 (f + 1) _ _ = f_X7_carryAll_L109 f _ _
    rw [f_X7_carryAll_L109, if_neg (show ¬ (7 : Int32) ≤ nI j from nI_ge (b := 7) hj (by omega))]
    simp only [na_inb hj (by omega : (7 : Nat) < 2147483648), na_ix (by omega : j < 2147483648), na_ck]
    rw [show stt 15 t V W (7 + 8 * j) = stt 15 t V W (7 + 8 * j + 0) from rfl, cstep hR (hk (7 + 8 * j + 0) (by omega)) (by omega) (hcp j hj 0 (by omega)).1 (hcp j hj 0 (by omega)).2]
    rw [cstep hR (hk (7 + 8 * j + 1) (by omega)) (by omega) (hcp j hj 1 (by omega)).1 (hcp j hj 1 (by omega)).2]
    rw [cstep hR (hk (7 + 8 * j + 2) (by omega)) (by omega) (hcp j hj 2 (by omega)).1 (hcp j hj 2 (by omega)).2]
    rw [cstep hR (hk (7 + 8 * j + 3) (by omega)) (by omega) (hcp j hj 3 (by omega)).1 (hcp j hj 3 (by omega)).2]
    rw [cstep hR (hk (7 + 8 * j + 4) (by omega)) (by omega) (hcp j hj 4 (by omega)).1 (hcp j hj 4 (by omega)).2]
    rw [cstep hR (hk (7 + 8 * j + 5) (by omega)) (by omega) (hcp j hj 5 (by omega)).1 (hcp j hj 5 (by omega)).2]
    rw [cstep hR (hk (7 + 8 * j + 6) (by omega)) (by omega) (hcp j hj 6 (by omega)).1 (hcp j hj 6 (by omega)).2]
    rw [cstep hR (hk (7 + 8 * j + 7) (by omega)) (by omega) (hcp j hj 7 (by omega)).1 (hcp j hj 7 (by omega)).2]
    show f_X7_carryAll_L109 f (nI j + 1) _ = f_X7_carryAll_L109 f _ _
    rw [nI_1, show 7 + 8 * (j + 1) = 7 + 8 * j + 7 + 1 by omega]
theorem carryAll_is {t : Nat} {V W m : Mem} (ht : (t = 1 ∧ ∀ k, k < 63 → W (cp k) (cj k) = V (cp k) (cj k)) ∨ (t = 0 ∧ ∀ k, k < 63 → W 15 k = V (cp k) (cj k))) (hm : ∀ p j, ¬ (p = 0 ∧ j = 27) → ¬ (p = 0 ∧ j = 28) → ¬ (p = 0 ∧ j = 29) → m p j = W p j) : f_X7_carryAll m (nI t) = some (stt 15 t V W 63) := by
  have hk : ∀ k, k < 63 → (t = 1 ∧ W (cp k) (cj k) = V (cp k) (cj k)) ∨ (t = 0 ∧ W 15 k = V (cp k) (cj k)) := fun k hk => ht.imp (fun h => ⟨h.1, h.2 k hk⟩) (fun h => ⟨h.1, h.2 k hk⟩)
  have hR : okR 15 := by unfold okR; omega
  have hb : isb (nI t) = true := by rcases ht with h | h <;> rw [h.1] <;> decide
  unfold f_X7_carryAll
  rw [na_lt, hb, na_ck, na_lt, na_lt]
  have e0 : xs (xs (xs m 0 29 15) 0 28 (nI t)) 0 27 0 = stt 15 t V W 0 := by
    funext p j
    simp only [xs, stt]
    by_cases a1 : p = 0 ∧ j = 27
    · simp only [if_pos a1]; rfl
    · simp only [if_neg a1]
      by_cases a2 : p = 0 ∧ j = 28
      · simp only [if_pos a2]
      · simp only [if_neg a2]
        by_cases a3 : p = 0 ∧ j = 29
        · simp only [if_pos a3]; rfl
        · simp only [if_neg a3]
          rw [if_neg (by omega), if_neg (by omega)]
          exact hm p j a1 a2 a3
  rw [e0]
  have s0 := cstep (τ := Mem) (k := 0) hR (hk 0 (by omega)) (by omega) (p := 0) (j := 0) rfl rfl
  have s1 := cstep (τ := Mem) (k := 1) hR (hk 1 (by omega)) (by omega) (p := 0) (j := 9) rfl rfl
  have s2 := cstep (τ := Mem) (k := 2) hR (hk 2 (by omega)) (by omega) (p := 0) (j := 10) rfl rfl
  have s3 := cstep (τ := Mem) (k := 3) hR (hk 3 (by omega)) (by omega) (p := 0) (j := 12) rfl rfl
  have s4 := cstep (τ := Mem) (k := 4) hR (hk 4 (by omega)) (by omega) (p := 0) (j := 13) rfl rfl
  have s5 := cstep (τ := Mem) (k := 5) hR (hk 5 (by omega)) (by omega) (p := 9) (j := 0) rfl rfl
  have s6 := cstep (τ := Mem) (k := 6) hR (hk 6 (by omega)) (by omega) (p := 9) (j := 1) rfl rfl
  rw [s0]
  rw [s1]
  rw [s2]
  rw [s3]
  rw [s4]
  rw [s5]
  rw [s6]
  have := carryAll_L (t := t) (V := V) (W := W) ht
  rw [show (0 : Int32) = nI 0 from rfl, show (6 + 1 : Nat) = 7 + 8 * 0 from rfl, this]
  rfl
theorem carryAll_16_L {t : Nat} {V W : Mem} (ht : (t = 1 ∧ ∀ k, k < 63 → W (cp k) (cj k) = V (cp k) (cj k)) ∨ (t = 0 ∧ ∀ k, k < 63 → W 16 k = V (cp k) (cj k))) : f_X7_carryAll_16_L109 6000 (nI 0) (stt 16 t V W (7 + 8 * 0)) = some (stt 16 t V W 63) := by
  have hk : ∀ k, k < 63 → (t = 1 ∧ W (cp k) (cj k) = V (cp k) (cj k)) ∨ (t = 0 ∧ W 16 k = V (cp k) (cj k)) := fun k hk => ht.imp (fun h => ⟨h.1, h.2 k hk⟩) (fun h => ⟨h.1, h.2 k hk⟩)
  have hR : okR 16 := by unfold okR; omega
  have hcp : ∀ c, c < 7 → ∀ r, r < 8 → cp (7 + 8 * c + r) = r + 1 ∧ cj (7 + 8 * c + r) = c := by decide +kernel
  refine lp (fun f s i => f_X7_carryAll_16_L109 f i s) 7 (fun j => stt 16 t V W (7 + 8 * j)) (fun f => ?_) (fun f j hj => ?_) 7 0 6000 (by omega) (by omega)
  · show f_X7_carryAll_16_L109 (f + 1) _ _ = _
    rw [f_X7_carryAll_16_L109, if_pos (by decide)]
  · show f_X7_carryAll_16_L109 (f + 1) _ _ = f_X7_carryAll_16_L109 f _ _
    rw [f_X7_carryAll_16_L109, if_neg (show ¬ (7 : Int32) ≤ nI j from nI_ge (b := 7) hj (by omega))]
    simp only [na_inb hj (by omega : (7 : Nat) < 2147483648), na_ix (by omega : j < 2147483648), na_ck]
    rw [show stt 16 t V W (7 + 8 * j) = stt 16 t V W (7 + 8 * j + 0) from rfl, cstep hR (hk (7 + 8 * j + 0) (by omega)) (by omega) (hcp j hj 0 (by omega)).1 (hcp j hj 0 (by omega)).2]
    rw [cstep hR (hk (7 + 8 * j + 1) (by omega)) (by omega) (hcp j hj 1 (by omega)).1 (hcp j hj 1 (by omega)).2]
    rw [cstep hR (hk (7 + 8 * j + 2) (by omega)) (by omega) (hcp j hj 2 (by omega)).1 (hcp j hj 2 (by omega)).2]
    rw [cstep hR (hk (7 + 8 * j + 3) (by omega)) (by omega) (hcp j hj 3 (by omega)).1 (hcp j hj 3 (by omega)).2]
    rw [cstep hR (hk (7 + 8 * j + 4) (by omega)) (by omega) (hcp j hj 4 (by omega)).1 (hcp j hj 4 (by omega)).2]
    rw [cstep hR (hk (7 + 8 * j + 5) (by omega)) (by omega) (hcp j hj 5 (by omega)).1 (hcp j hj 5 (by omega)).2]
    rw [cstep hR (hk (7 + 8 * j + 6) (by omega)) (by omega) (hcp j hj 6 (by omega)).1 (hcp j hj 6 (by omega)).2]
    rw [cstep hR (hk (7 + 8 * j + 7) (by omega)) (by omega) (hcp j hj 7 (by omega)).1 (hcp j hj 7 (by omega)).2]
    show f_X7_carryAll_16_L109 f (nI j + 1) _ = f_X7_carryAll_16_L109 f _ _
    rw [nI_1, show 7 + 8 * (j + 1) = 7 + 8 * j + 7 + 1 by omega]
theorem carryAll_16_is {t : Nat} {V W m : Mem} (ht : (t = 1 ∧ ∀ k, k < 63 → W (cp k) (cj k) = V (cp k) (cj k)) ∨ (t = 0 ∧ ∀ k, k < 63 → W 16 k = V (cp k) (cj k))) (hm : ∀ p j, ¬ (p = 0 ∧ j = 27) → ¬ (p = 0 ∧ j = 28) → ¬ (p = 0 ∧ j = 29) → m p j = W p j) : f_X7_carryAll_16 m (nI t) = some (stt 16 t V W 63) := by
  have hk : ∀ k, k < 63 → (t = 1 ∧ W (cp k) (cj k) = V (cp k) (cj k)) ∨ (t = 0 ∧ W 16 k = V (cp k) (cj k)) := fun k hk => ht.imp (fun h => ⟨h.1, h.2 k hk⟩) (fun h => ⟨h.1, h.2 k hk⟩)
  have hR : okR 16 := by unfold okR; omega
  have hb : isb (nI t) = true := by rcases ht with h | h <;> rw [h.1] <;> decide
  unfold f_X7_carryAll_16
  rw [na_lt, hb, na_ck, na_lt, na_lt]
  have e0 : xs (xs (xs m 0 29 16) 0 28 (nI t)) 0 27 0 = stt 16 t V W 0 := by
    funext p j
    simp only [xs, stt]
    by_cases a1 : p = 0 ∧ j = 27
    · simp only [if_pos a1]; rfl
    · simp only [if_neg a1]
      by_cases a2 : p = 0 ∧ j = 28
      · simp only [if_pos a2]
      · simp only [if_neg a2]
        by_cases a3 : p = 0 ∧ j = 29
        · simp only [if_pos a3]; rfl
        · simp only [if_neg a3]
          rw [if_neg (by omega), if_neg (by omega)]
          exact hm p j a1 a2 a3
  rw [e0]
  have s0 := cstep (τ := Mem) (k := 0) hR (hk 0 (by omega)) (by omega) (p := 0) (j := 0) rfl rfl
  have s1 := cstep (τ := Mem) (k := 1) hR (hk 1 (by omega)) (by omega) (p := 0) (j := 9) rfl rfl
  have s2 := cstep (τ := Mem) (k := 2) hR (hk 2 (by omega)) (by omega) (p := 0) (j := 10) rfl rfl
  have s3 := cstep (τ := Mem) (k := 3) hR (hk 3 (by omega)) (by omega) (p := 0) (j := 12) rfl rfl
  have s4 := cstep (τ := Mem) (k := 4) hR (hk 4 (by omega)) (by omega) (p := 0) (j := 13) rfl rfl
  have s5 := cstep (τ := Mem) (k := 5) hR (hk 5 (by omega)) (by omega) (p := 9) (j := 0) rfl rfl
  have s6 := cstep (τ := Mem) (k := 6) hR (hk 6 (by omega)) (by omega) (p := 9) (j := 1) rfl rfl
  rw [s0]
  rw [s1]
  rw [s2]
  rw [s3]
  rw [s4]
  rw [s5]
  rw [s6]
  have := carryAll_16_L (t := t) (V := V) (W := W) ht
  rw [show (0 : Int32) = nI 0 from rfl, show (6 + 1 : Nat) = 7 + 8 * 0 from rfl, this]
  rfl
theorem carryAll_18_L {t : Nat} {V W : Mem} (ht : (t = 1 ∧ ∀ k, k < 63 → W (cp k) (cj k) = V (cp k) (cj k)) ∨ (t = 0 ∧ ∀ k, k < 63 → W 18 k = V (cp k) (cj k))) : f_X7_carryAll_18_L109 6000 (nI 0) (stt 18 t V W (7 + 8 * 0)) = some (stt 18 t V W 63) := by
  have hk : ∀ k, k < 63 → (t = 1 ∧ W (cp k) (cj k) = V (cp k) (cj k)) ∨ (t = 0 ∧ W 18 k = V (cp k) (cj k)) := fun k hk => ht.imp (fun h => ⟨h.1, h.2 k hk⟩) (fun h => ⟨h.1, h.2 k hk⟩)
  have hR : okR 18 := by unfold okR; omega
  have hcp : ∀ c, c < 7 → ∀ r, r < 8 → cp (7 + 8 * c + r) = r + 1 ∧ cj (7 + 8 * c + r) = c := by decide +kernel
  refine lp (fun f s i => f_X7_carryAll_18_L109 f i s) 7 (fun j => stt 18 t V W (7 + 8 * j)) (fun f => ?_) (fun f j hj => ?_) 7 0 6000 (by omega) (by omega)
  · show f_X7_carryAll_18_L109 (f + 1) _ _ = _
    rw [f_X7_carryAll_18_L109, if_pos (by decide)]
  · show f_X7_carryAll_18_L109 (f + 1) _ _ = f_X7_carryAll_18_L109 f _ _
    rw [f_X7_carryAll_18_L109, if_neg (show ¬ (7 : Int32) ≤ nI j from nI_ge (b := 7) hj (by omega))]
    simp only [na_inb hj (by omega : (7 : Nat) < 2147483648), na_ix (by omega : j < 2147483648), na_ck]
    rw [show stt 18 t V W (7 + 8 * j) = stt 18 t V W (7 + 8 * j + 0) from rfl, cstep hR (hk (7 + 8 * j + 0) (by omega)) (by omega) (hcp j hj 0 (by omega)).1 (hcp j hj 0 (by omega)).2]
    rw [cstep hR (hk (7 + 8 * j + 1) (by omega)) (by omega) (hcp j hj 1 (by omega)).1 (hcp j hj 1 (by omega)).2]
    rw [cstep hR (hk (7 + 8 * j + 2) (by omega)) (by omega) (hcp j hj 2 (by omega)).1 (hcp j hj 2 (by omega)).2]
    rw [cstep hR (hk (7 + 8 * j + 3) (by omega)) (by omega) (hcp j hj 3 (by omega)).1 (hcp j hj 3 (by omega)).2]
    rw [cstep hR (hk (7 + 8 * j + 4) (by omega)) (by omega) (hcp j hj 4 (by omega)).1 (hcp j hj 4 (by omega)).2]
    rw [cstep hR (hk (7 + 8 * j + 5) (by omega)) (by omega) (hcp j hj 5 (by omega)).1 (hcp j hj 5 (by omega)).2]
    rw [cstep hR (hk (7 + 8 * j + 6) (by omega)) (by omega) (hcp j hj 6 (by omega)).1 (hcp j hj 6 (by omega)).2]
    rw [cstep hR (hk (7 + 8 * j + 7) (by omega)) (by omega) (hcp j hj 7 (by omega)).1 (hcp j hj 7 (by omega)).2]
    show f_X7_carryAll_18_L109 f (nI j + 1) _ = f_X7_carryAll_18_L109 f _ _
    rw [nI_1, show 7 + 8 * (j + 1) = 7 + 8 * j + 7 + 1 by omega]
theorem carryAll_18_is {t : Nat} {V W m : Mem} (ht : (t = 1 ∧ ∀ k, k < 63 → W (cp k) (cj k) = V (cp k) (cj k)) ∨ (t = 0 ∧ ∀ k, k < 63 → W 18 k = V (cp k) (cj k))) (hm : ∀ p j, ¬ (p = 0 ∧ j = 27) → ¬ (p = 0 ∧ j = 28) → ¬ (p = 0 ∧ j = 29) → m p j = W p j) : f_X7_carryAll_18 m (nI t) = some (stt 18 t V W 63) := by
  have hk : ∀ k, k < 63 → (t = 1 ∧ W (cp k) (cj k) = V (cp k) (cj k)) ∨ (t = 0 ∧ W 18 k = V (cp k) (cj k)) := fun k hk => ht.imp (fun h => ⟨h.1, h.2 k hk⟩) (fun h => ⟨h.1, h.2 k hk⟩)
  have hR : okR 18 := by unfold okR; omega
  have hb : isb (nI t) = true := by rcases ht with h | h <;> rw [h.1] <;> decide
  unfold f_X7_carryAll_18
  rw [na_lt, hb, na_ck, na_lt, na_lt]
  have e0 : xs (xs (xs m 0 29 18) 0 28 (nI t)) 0 27 0 = stt 18 t V W 0 := by
    funext p j
    simp only [xs, stt]
    by_cases a1 : p = 0 ∧ j = 27
    · simp only [if_pos a1]; rfl
    · simp only [if_neg a1]
      by_cases a2 : p = 0 ∧ j = 28
      · simp only [if_pos a2]
      · simp only [if_neg a2]
        by_cases a3 : p = 0 ∧ j = 29
        · simp only [if_pos a3]; rfl
        · simp only [if_neg a3]
          rw [if_neg (by omega), if_neg (by omega)]
          exact hm p j a1 a2 a3
  rw [e0]
  have s0 := cstep (τ := Mem) (k := 0) hR (hk 0 (by omega)) (by omega) (p := 0) (j := 0) rfl rfl
  have s1 := cstep (τ := Mem) (k := 1) hR (hk 1 (by omega)) (by omega) (p := 0) (j := 9) rfl rfl
  have s2 := cstep (τ := Mem) (k := 2) hR (hk 2 (by omega)) (by omega) (p := 0) (j := 10) rfl rfl
  have s3 := cstep (τ := Mem) (k := 3) hR (hk 3 (by omega)) (by omega) (p := 0) (j := 12) rfl rfl
  have s4 := cstep (τ := Mem) (k := 4) hR (hk 4 (by omega)) (by omega) (p := 0) (j := 13) rfl rfl
  have s5 := cstep (τ := Mem) (k := 5) hR (hk 5 (by omega)) (by omega) (p := 9) (j := 0) rfl rfl
  have s6 := cstep (τ := Mem) (k := 6) hR (hk 6 (by omega)) (by omega) (p := 9) (j := 1) rfl rfl
  rw [s0]
  rw [s1]
  rw [s2]
  rw [s3]
  rw [s4]
  rw [s5]
  rw [s6]
  have := carryAll_18_L (t := t) (V := V) (W := W) ht
  rw [show (0 : Int32) = nI 0 from rfl, show (6 + 1 : Nat) = 7 + 8 * 0 from rfl, this]
  rfl
