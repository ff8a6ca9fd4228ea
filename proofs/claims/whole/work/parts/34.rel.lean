/-! THE RELATION: class and model show one state -/
def hcell (A : AM) (p j : Nat) : Prop := (p = 0 ∧ (j = 0 ∨ j = 9 ∨ j = 10 ∨ j = 12 ∨ j = 13)) ∨ (1 ≤ p ∧ p ≤ 8 ∧ j < 7) ∨ (p = 9 ∧ (j = 0 ∨ (j = 1 ∧ A 0 10 = 2)))
theorem pm_out {A : AM} {M : Mem} {p j : Nat} (h : ¬ hcell A p j) : pm A M p j = M p j := by
  unfold hcell at h
  simp only [pm]
  repeat' split
  all_goals first | rfl | (exfalso; omega)
theorem pm_in {A : AM} {M M' : Mem} {p j : Nat} (h : hcell A p j) : pm A M p j = pm A M' p j := by
  unfold hcell at h
  simp only [pm]
  repeat' split
  all_goals first | rfl | (exfalso; omega)
theorem pm_pm {A : AM} {M : Mem} : pm A (pm A M) = pm A M := by
  funext p j
  by_cases h : hcell A p j
  · exact pm_in h
  · rw [pm_out h]
def hc0 (p j : Nat) : Prop := (p = 0 ∧ (j = 0 ∨ j = 9 ∨ j = 10 ∨ j = 12 ∨ j = 13)) ∨ (1 ≤ p ∧ p ≤ 8 ∧ j < 7) ∨ (p = 9 ∧ j < 2)
theorem hc0_of {A : AM} {p j : Nat} (h : hcell A p j) : hc0 p j := by
  unfold hcell at h
  unfold hc0
  omega
theorem ci_hc {p j : Nat} : ci p j < 63 ↔ hc0 p j := by
  unfold ci hc0
  (repeat' split) <;> omega
theorem ci_6 {p j : Nat} (h : ci p j < 63) (h2 : ¬ (p = 9 ∧ j = 1)) (A : AM) : hcell A p j := by
  have := ci_hc.mp h
  unfold hc0 at this
  unfold hcell
  omega
/-- what of the model's memory counts from call to call, beside its hall -/
def KE (M M' : Mem) : Prop := (M' 0 17 = M 0 17 ∧ M' 0 26 = M 0 26 ∧ M' 0 32 = M 0 32 ∧ M' 0 37 = M 0 37) ∧ ∀ j, M' 10 j = M 10 j ∧ M' 11 j = M 11 j ∧ M' 16 j = M 16 j ∧ M' 17 j = M 17 j ∧ M' 22 j = M 22 j
theorem KE.rf {M : Mem} : KE M M := ⟨⟨rfl, rfl, rfl, rfl⟩, fun _ => ⟨rfl, rfl, rfl, rfl, rfl⟩⟩
theorem KE.trans {M M1 M2 : Mem} (h : KE M M1) (h2 : KE M1 M2) : KE M M2 := by
  obtain ⟨⟨a1, a2, a3, a4⟩, a5⟩ := h
  obtain ⟨⟨b1, b2, b3, b4⟩, b5⟩ := h2
  refine ⟨⟨b1.trans a1, b2.trans a2, b3.trans a3, b4.trans a4⟩, fun j => ?_⟩
  obtain ⟨c1, c2, c3, c4, c5⟩ := a5 j
  obtain ⟨d1, d2, d3, d4, d5⟩ := b5 j
  exact ⟨d1.trans c1, d2.trans c2, d3.trans c3, d4.trans c4, d5.trans c5⟩
def scr (p k : Nat) : Prop := (p = 0 ∧ k ≠ 17 ∧ k ≠ 26 ∧ k ≠ 32 ∧ k ≠ 37) ∨ (p ≠ 0 ∧ p ≠ 10 ∧ p ≠ 11 ∧ p ≠ 16 ∧ p ≠ 17 ∧ p ≠ 22)
theorem KE.of {M M' : Mem} (h : ∀ p j, ¬ scr p j → M' p j = M p j) : KE M M' :=
  ⟨⟨h _ _ (by unfold scr; omega), h _ _ (by unfold scr; omega), h _ _ (by unfold scr; omega), h _ _ (by unfold scr; omega)⟩, fun j => ⟨h _ _ (by unfold scr; omega), h _ _ (by unfold scr; omega), h _ _ (by unfold scr; omega), h _ _ (by unfold scr; omega), h _ _ (by unfold scr; omega)⟩⟩
theorem ke_xs {M : Mem} {p k : Nat} {v : Int32} (h : scr p k) : KE M (xs M p k v) := KE.of (fun q j hs => by
  by_cases e : q = p ∧ j = k
  · obtain ⟨rfl, rfl⟩ := e
    exact absurd h hs
  · simp only [xs, if_neg e])
theorem ke_pm {A : AM} {M : Mem} : KE M (pm A M) := KE.of (fun q j hs => pm_out (by unfold scr at hs; unfold hcell; omega))
/-- order: who waits, each once, all who are not wed -/
def WO (A : AM) : Prop := A 0 4 < 2 ^ A 0 0 ∧ (∀ i, i < A 0 8 → A 7 i < A 0 0 ∧ A 0 4 / 2 ^ A 7 i % 2 = 0) ∧ (∀ i j, i < j → j < A 0 8 → A 7 i ≠ A 7 j) ∧ (∀ c, c < A 0 0 → A 0 4 / 2 ^ c % 2 = 0 → ∃ i, i < A 0 8 ∧ A 7 i = c) ∧ (∀ c, A 0 0 ≤ c → c < 7 → (A 4 c = 0 ∧ A 5 c = 0 ∧ A 6 c = 0)) ∧ ∀ c, c < 7 → A 3 c ≤ 240
def WF (A : AM) : Prop := WB A ∧ WO A
def enc (B : AM) (k : Nat) : Int32 := pm B (fun _ _ => 0) (cp k) (cj k)
theorem enc_pm {B : AM} {M : Mem} {k : Nat} (hk : k < 63) (h6 : k = 6 → B 0 10 = 2) : pm B M (cp k) (cj k) = enc B k := by
  refine pm_in ?_
  by_cases e : k = 6
  · subst e
    have := h6 rfl
    unfold hcell
    simp [cp, cj, this]
  · have e9 : ∀ k, k < 63 → k ≠ 6 → ¬ (cp k = 9 ∧ cj k = 1) := by decide +kernel
    exact ci_6 (by rw [ci_c k hk]; exact hk) (e9 k hk e) B
/-- a row of numbers tells a hall -/
def encs (B : AM) (f : Nat → Int32) : Prop := ∀ k, k < 63 → (k = 6 → B 0 10 = 2) → f k = enc B k
def RRf (m0 M : Mem) : Prop := ∀ j, j < 7 → m0 2 j = M 10 j
def RRt (m0 M : Mem) : Prop := ∃ n, n ≤ 12 ∧ m0 0 9 = nI n ∧ M 0 37 = nI n ∧ ∀ j, j < n → ∃ v, v ≤ 999 ∧ m0 1 j = nI v ∧ M 22 j = nI v
def RRi (m0 m3 M : Mem) : Prop := ∃ hi, hi ≤ 1 ∧ m0 0 3 = nI hi ∧ M 0 26 = nI hi ∧ (hi = 1 → ∃ B, WF B ∧ m3 = px B m3 ∧ encs B (M 16))
def RRl (m13 M : Mem) : Prop := ∃ n, n ≤ 96 ∧ m13 0 1 = nI n ∧ M 0 17 = nI n ∧ ∀ j, j < n → ∃ v, v < 256 ∧ m13 1 j = nI v ∧ M 11 j = nI v
def RRp (m4 : Mem) (ks : List Mem) (M : Mem) : Prop := ∃ ol np, ol < 8 ∧ np ≤ 8 ∧ m4 0 1 = nI ol ∧ m4 0 2 = nI np ∧ M 0 32 = nI np ∧ ks.length = 8 ∧ ∀ i, i < np → ∃ B h, WF B ∧ ks[(ol + i) % 8]? = some (px B h) ∧ encs B (fun k => M 17 (63 * i + k))
def RR (A : AM) (m0 m1 m3 m4 : Mem) (ks : List Mem) (m13 M : Mem) : Prop := WF A ∧ m1 = px A m1 ∧ M = pm A M ∧ RRf m0 M ∧ RRt m0 M ∧ RRi m0 m3 M ∧ RRl m13 M ∧ RRp m4 ks M
theorem RRf.ke {m0 M M' : Mem} (h : RRf m0 M) (k : KE M M') : RRf m0 M' := fun j hj => by rw [(k.2 j).1]; exact h j hj
theorem RRt.ke {m0 M M' : Mem} (h : RRt m0 M) (k : KE M M') : RRt m0 M' := by
  obtain ⟨n, h1, h2, h3, h4⟩ := h
  refine ⟨n, h1, h2, k.1.2.2.2.trans h3, fun j hj => ?_⟩
  obtain ⟨v, a, b, c⟩ := h4 j hj
  exact ⟨v, a, b, (k.2 j).2.2.2.2.trans c⟩
theorem RRi.ke {m0 m3 M M' : Mem} (h : RRi m0 m3 M) (k : KE M M') : RRi m0 m3 M' := by
  obtain ⟨n, h1, h2, h3, h4⟩ := h
  refine ⟨n, h1, h2, k.1.2.1.trans h3, fun j => ?_⟩
  obtain ⟨B, a, b, c⟩ := h4 j
  exact ⟨B, a, b, fun q hq h6 => (k.2 q).2.2.1.trans (c q hq h6)⟩
theorem RRl.ke {m13 M M' : Mem} (h : RRl m13 M) (k : KE M M') : RRl m13 M' := by
  obtain ⟨n, h1, h2, h3, h4⟩ := h
  refine ⟨n, h1, h2, k.1.1.trans h3, fun j hj => ?_⟩
  obtain ⟨v, a, b, c⟩ := h4 j hj
  exact ⟨v, a, b, (k.2 j).2.1.trans c⟩
theorem RRp.ke {m4 M M' : Mem} {ks : List Mem} (h : RRp m4 ks M) (k : KE M M') : RRp m4 ks M' := by
  obtain ⟨ol, np, h1, h2, h3, h4, h5, h6, h7⟩ := h
  refine ⟨ol, np, h1, h2, h3, h4, k.1.2.2.1.trans h5, h6, fun i hi => ?_⟩
  obtain ⟨B, h, a, b, c⟩ := h7 i hi
  exact ⟨B, h, a, b, fun q hq h6 => (k.2 _).2.2.2.1.trans (c q hq h6)⟩
/-- the model's memory in its picture, whatever lies beside -/
theorem RR.keep {A : AM} {m0 m1 m3 m4 m13 M M' : Mem} {ks : List Mem} (R : RR A m0 m1 m3 m4 ks m13 M) (k : KE M M') : RR A m0 m1 m3 m4 ks m13 (pm A M') := by
  obtain ⟨h1, h2, h3, h4, h5, h6, h7, h8⟩ := R
  have k2 := k.trans (ke_pm (A := A))
  exact ⟨h1, h2, pm_pm.symm, h4.ke k2, h5.ke k2, h6.ke k2, h7.ke k2, h8.ke k2⟩
/-- a refusal is counted on both sides -/
def rf (m : Mem) (p k : Nat) : Mem := xs m p k (m p k + 1)
theorem RR.ref {A : AM} {m0 m1 m3 m4 m13 M M' : Mem} {ks : List Mem} (R : RR A m0 m1 m3 m4 ks m13 M) (k : KE M M') {q : Nat} (hq : q < 7) : RR A (rf m0 2 q) m1 m3 m4 ks m13 (pm A (rf M' 10 q)) := by
  have R2 := R.keep k
  obtain ⟨h1, h2, h3, h4, h5, h6, h7, h8⟩ := R2
  have e : ∀ p j, ¬ (p = 10 ∧ j = q) → pm A (rf M' 10 q) p j = pm A M' p j := fun p j hp => by
    unfold rf
    rw [← pm_off (by omega)]
    simp only [xs, if_neg hp]
  have e2 : pm A (rf M' 10 q) 10 q = pm A M' 10 q + 1 := by
    rw [pm_10, pm_10]
    simp [rf, xs]
  have x0 : ∀ p j, ¬ (p = 2 ∧ j = q) → rf m0 2 q p j = m0 p j := fun p j hp => by simp only [rf, xs, if_neg hp]
  have x1 : rf m0 2 q 2 q = m0 2 q + 1 := by simp [rf, xs]
  refine ⟨h1, h2, ?_, fun j hj => ?_, ?_, ?_, ?_, ?_⟩
  · exact pm_pm.symm
  · by_cases hjq : j = q
    · subst hjq
      rw [x1, e2, h4 j hj]
    · rw [x0 2 j (by omega), e 10 j (by omega), h4 j hj]
  · obtain ⟨n, a1, a2, a3, a4⟩ := h5
    refine ⟨n, a1, by rw [x0 0 9 (by omega)]; exact a2, by rw [e 0 37 (by omega)]; exact a3, fun j hj => ?_⟩
    obtain ⟨v, b1, b2, b3⟩ := a4 j hj
    exact ⟨v, b1, by rw [x0 1 j (by omega)]; exact b2, by rw [e 22 j (by omega)]; exact b3⟩
  · obtain ⟨n, a1, a2, a3, a4⟩ := h6
    refine ⟨n, a1, by rw [x0 0 3 (by omega)]; exact a2, by rw [e 0 26 (by omega)]; exact a3, fun j => ?_⟩
    obtain ⟨B, b1, b2, b3⟩ := a4 j
    exact ⟨B, b1, b2, fun k hk h6 => by rw [e 16 k (by omega)]; exact b3 k hk h6⟩
  · obtain ⟨n, a1, a2, a3, a4⟩ := h7
    refine ⟨n, a1, a2, by rw [e 0 17 (by omega)]; exact a3, fun j hj => ?_⟩
    obtain ⟨v, b1, b2, b3⟩ := a4 j hj
    exact ⟨v, b1, b2, by rw [e 11 j (by omega)]; exact b3⟩
  · obtain ⟨ol, np, a1, a2, a3, a4, a5, a6, a7⟩ := h8
    refine ⟨ol, np, a1, a2, a3, a4, by rw [e 0 32 (by omega)]; exact a5, a6, fun i hi => ?_⟩
    obtain ⟨B, h, b1, b2, b3⟩ := a7 i hi
    exact ⟨B, h, b1, b2, fun k hk h6 => by show pm A (rf M' 10 q) 17 _ = _; rw [e 17 _ (by omega)]; exact b3 k hk h6⟩

theorem X_ref1 {m0 : Mem} : f_X6_refused m0 (-1) = some (-1, rf m0 2 1) := by
  unfold f_X6_refused rf
  rw [na_lt, show -(-1 : Int32) = 1 by decide, if_neg (by decide), if_neg (by decide), show inb (1 : Int32) 7 = true by decide, show ix (1 : Int32) = 1 by decide]
  rfl
theorem M_ref1 {A : AM} {M : Mem} : f_X7_refuse (pm A M) (-1) = some (-1, pm A (rf M 10 1)) := by
  unfold f_X7_refuse rf
  rw [show -(-1 : Int32) = 1 by decide, show inb (1 : Int32) 7 = true by decide, show ix (1 : Int32) = 1 by decide, na_ck, na_ck, na_lt, pm_10, pm_off (by omega)]
theorem X_ref2 {m0 : Mem} : f_X6_refused m0 (-2) = some (-2, rf m0 2 2) := by
  unfold f_X6_refused rf
  rw [na_lt, show -(-2 : Int32) = 2 by decide, if_neg (by decide), if_neg (by decide), show inb (2 : Int32) 7 = true by decide, show ix (2 : Int32) = 2 by decide]
  rfl
theorem M_ref2 {A : AM} {M : Mem} : f_X7_refuse (pm A M) (-2) = some (-2, pm A (rf M 10 2)) := by
  unfold f_X7_refuse rf
  rw [show -(-2 : Int32) = 2 by decide, show inb (2 : Int32) 7 = true by decide, show ix (2 : Int32) = 2 by decide, na_ck, na_ck, na_lt, pm_10, pm_off (by omega)]
theorem X_ref3 {m0 : Mem} : f_X6_refused m0 (-3) = some (-3, rf m0 2 3) := by
  unfold f_X6_refused rf
  rw [na_lt, show -(-3 : Int32) = 3 by decide, if_neg (by decide), if_neg (by decide), show inb (3 : Int32) 7 = true by decide, show ix (3 : Int32) = 3 by decide]
  rfl
theorem M_ref3 {A : AM} {M : Mem} : f_X7_refuse (pm A M) (-3) = some (-3, pm A (rf M 10 3)) := by
  unfold f_X7_refuse rf
  rw [show -(-3 : Int32) = 3 by decide, show inb (3 : Int32) 7 = true by decide, show ix (3 : Int32) = 3 by decide, na_ck, na_ck, na_lt, pm_10, pm_off (by omega)]
theorem X_ref4 {m0 : Mem} : f_X6_refused m0 (-4) = some (-4, rf m0 2 4) := by
  unfold f_X6_refused rf
  rw [na_lt, show -(-4 : Int32) = 4 by decide, if_neg (by decide), if_neg (by decide), show inb (4 : Int32) 7 = true by decide, show ix (4 : Int32) = 4 by decide]
  rfl
theorem M_ref4 {A : AM} {M : Mem} : f_X7_refuse (pm A M) (-4) = some (-4, pm A (rf M 10 4)) := by
  unfold f_X7_refuse rf
  rw [show -(-4 : Int32) = 4 by decide, show inb (4 : Int32) 7 = true by decide, show ix (4 : Int32) = 4 by decide, na_ck, na_ck, na_lt, pm_10, pm_off (by omega)]
theorem X_ref6 {m0 : Mem} : f_X6_refused m0 (-6) = some (-6, rf m0 2 6) := by
  unfold f_X6_refused rf
  rw [na_lt, show -(-6 : Int32) = 6 by decide, if_neg (by decide), if_neg (by decide), show inb (6 : Int32) 7 = true by decide, show ix (6 : Int32) = 6 by decide]
  rfl
theorem M_ref6 {A : AM} {M : Mem} : f_X7_refuse (pm A M) (-6) = some (-6, pm A (rf M 10 6)) := by
  unfold f_X7_refuse rf
  rw [show -(-6 : Int32) = 6 by decide, show inb (6 : Int32) 7 = true by decide, show ix (6 : Int32) = 6 by decide, na_ck, na_ck, na_lt, pm_10, pm_off (by omega)]
/-- thinking: the model keeps its hall in row 15, and lays it back -/
def tk (A : AM) (M : Mem) : Mem := stt 15 1 (pm A M) M 63
def ag (A : AM) (M : Mem) : Mem := stt 15 0 (pm A (xs M 9 1 (M 15 6))) M 63
def KP (A : AM) (M : Mem) : Prop := encs A (M 15)
theorem pm_stt {t : Nat} {A : AM} {M W X : Mem} {R : Nat} (hW : ∀ p j, ¬ ci p j < 63 → W p j = M p j) : stt R t (pm A X) W 63 = pm A (stt R t (pm A X) M 63) := by
  funext p j
  by_cases h : ci p j < 63
  · have hc3 := ci_hc.mp h
    unfold hc0 at hc3
    have e1 : ¬ (p = 0 ∧ j = 27) := by omega
    have e2 : ¬ (p = 0 ∧ j = 28) := by omega
    have e3 : ¬ (p = 0 ∧ j = 29) := by omega
    have e4 : ∀ W : Mem, stt R t (pm A X) W 63 p j = pm A X p j := fun W => by simp only [stt, if_neg e1, if_neg e2, if_neg e3, if_pos h]
    rw [e4]
    by_cases hc : hcell A p j
    · exact pm_in hc
    · rw [pm_out (M := stt R t (pm A X) M 63) hc, e4]
  · rw [pm_out (fun z => h (ci_hc.mpr (hc0_of z)))]
    simp only [stt, if_neg h, hW p j h]
theorem M_think {A : AM} {M : Mem} : f_X7_think (pm A M) = some (pm A (tk A M)) := by
  unfold f_X7_think
  rw [show (1 : Int32) = nI 1 from rfl, carryAll_is (t := 1) (V := pm A M) (W := pm A M) (Or.inl ⟨rfl, fun _ _ => rfl⟩) (fun _ _ _ _ _ => rfl), pm_stt (M := M) (W := pm A M) (fun p j h => pm_out (fun z => h (ci_hc.mpr (hc0_of z))))]
  rfl
theorem back_V {A : AM} {M X : Mem} {R : Nat} (h : encs A (M R)) (hX : X = xs M 9 1 (M R 6)) : ∀ k, k < 63 → M R k = pm A X (cp k) (cj k) := fun k hk => by
  by_cases e : k = 6 ∧ ¬ A 0 10 = 2
  · obtain ⟨rfl, e⟩ := e
    have h9 : ¬ hcell A (cp 6) (cj 6) := by
      unfold hcell
      simp [cp, cj, e]
    rw [pm_out h9, hX]
    simp [cp, cj, xs]
  · rw [enc_pm hk (by omega)]
    exact h k hk (by omega)
theorem M_again {A A' : AM} {M : Mem} (h : KP A M) : f_X7_again (pm A' M) = some (pm A (ag A M)) := by
  unfold f_X7_again
  rw [show (0 : Int32) = nI 0 from rfl, carryAll_is (t := 0) (V := pm A (xs M 9 1 (M 15 6))) (W := pm A' M) (Or.inr ⟨rfl, fun k hk => by rw [pm_15]; exact back_V h rfl k hk⟩) (fun _ _ _ _ _ => rfl), pm_stt (M := M) (W := pm A' M) (fun p j h => pm_out (fun z => h (ci_hc.mpr (hc0_of z))))]
  rfl
theorem stt_off {R t : Nat} {V W : Mem} {p j : Nat} (h1 : ¬ (p = 0 ∧ (j = 27 ∨ j = 28 ∨ j = 29))) (h2 : ¬ ci p j < 63) (h3 : ¬ (t = 1 ∧ p = R ∧ j < 63)) : stt R t V W 63 p j = W p j := by
  simp only [stt]
  rw [if_neg (by omega), if_neg (by omega), if_neg (by omega), if_neg h2, if_neg h3]
theorem ke_tk {A : AM} {M : Mem} : KE M (tk A M) := KE.of (fun p j hs => by
  unfold scr at hs
  have hc : ¬ ci p j < 63 := fun z => by
    have := ci_hc.mp z
    unfold hc0 at this
    omega
  exact stt_off (by omega) hc (by omega))
theorem ke_ag {A : AM} {M : Mem} : KE M (ag A M) := KE.of (fun p j hs => by
  unfold scr at hs
  have hc : ¬ ci p j < 63 := fun z => by
    have := ci_hc.mp z
    unfold hc0 at this
    omega
  exact stt_off (by omega) hc (by omega))
theorem kp_tk {A : AM} {M : Mem} : KP A (tk A M) := fun k hk h6 => by
  unfold tk
  simp only [stt]
  rw [if_neg (by omega), if_neg (by omega), if_neg (by omega), ci_big (by omega), if_neg (by omega), if_pos ⟨trivial, trivial, hk⟩, enc_pm hk h6]
theorem kp_ag {A B : AM} {M : Mem} (h : KP A M) : KP A (ag B M) := fun k hk h6 => by
  rw [← h k hk h6]
  exact stt_off (by omega) (by rw [ci_big (by omega)]; omega) (by omega)
theorem kp_xs {A : AM} {M : Mem} {p k : Nat} {v : Int32} (h : KP A M) (hp : p ≠ 15) : KP A (xs M p k v) := fun q hq h6 => by
  rw [← h q hq h6]
  simp only [xs]
  rw [if_neg (by omega)]
/-- the trial hall as it is now -/
theorem X_become {A : AM} {h h2 : Mem} : f_X2_become h (px A h2) = some (px A h) := by
  unfold f_X2_become
  simp only [na_lt]
  congr 1
  funext p j
  rcases (show p = 0 ∨ p = 1 ∨ p = 2 ∨ p = 3 ∨ p = 4 ∨ p = 5 ∨ p = 6 ∨ p = 7 ∨ p = 8 ∨ 9 ≤ p by omega) with rfl | rfl | rfl | rfl | rfl | rfl | rfl | rfl | rfl | hp
  · by_cases h0 : j = 0
    · subst h0; simp [xs, xcp, px]
    by_cases h4 : j = 4
    · subst h4; simp [xs, xcp, px]
    by_cases h8 : j = 8
    · subst h8; simp [xs, xcp, px]
    by_cases h10 : j = 10
    · subst h10; simp [xs, xcp, px]
    by_cases h12 : j = 12
    · subst h12; simp [xs, xcp, px]
    by_cases h13 : j = 13
    · subst h13; simp [xs, xcp, px]
    simp [xs, xcp, px, h0, h4, h8, h10, h12, h13]
  all_goals first
    | (by_cases hj : j < 7 <;> simp [xs, xcp, va_cpy, px, hj]; done)
    | (by_cases hj : j < 2 <;> simp [xs, xcp, va_cpy, px, hj]; done)
    | (have h0 : ¬ p = 0 := by omega
       have h1 : ¬ p = 1 := by omega
       have h2 : ¬ p = 2 := by omega
       have h3 : ¬ p = 3 := by omega
       have h4 : ¬ p = 4 := by omega
       have h5 : ¬ p = 5 := by omega
       have h6 : ¬ p = 6 := by omega
       have h7 : ¬ p = 7 := by omega
       have h8 : ¬ p = 8 := by omega
       have h9 : ¬ p ≤ 7 := by omega
       simp [xs, xcp, px, h0, h1, h2, h3, h4, h5, h6, h7, h8, h9])
theorem X_asNow {A : AM} {m0 h h2 : Mem} : f_X6_asNow m0 (px A h) h2 = some (px A h2) := by
  unfold f_X6_asNow
  rw [X_become]
  rfl
theorem X_inMind {A : AM} {m0 h h2 : Mem} (w : WB A) : f_X6_inMind m0 (px A h) h2 = some (px (wal A) h2) := by
  unfold f_X6_inMind
  rw [X_asNow]
  simp only [Option.bind_some]
  rw [X_wedAll w]
  rfl

