/-! HALLS told in letters: statements -/
section HALL3
variable {A B C : AM} {m0 h1 h m2 m3 m4 m13 M : Mem} {ks : List Mem} {L : Nat → Nat} {n : Nat} {W : Mem}
def SF (v : Nat) (W W' : Mem) : Prop := ∀ p j, ¬ (p = 0 ∧ (j = 18 ∨ j = 19 ∨ j = 20)) → ¬ (p = 12 ∧ j = v) → ¬ (p = 13 ∧ j = v) → ¬ (p = 14 ∧ 3 * v ≤ j ∧ j < 3 * v + 3) → W' p j = W p j
theorem SF.tr {v : Nat} {W1 W2 : Mem} (a : SF v W W1) (b : SF v W1 W2) : SF v W W2 := fun p j h g i k => by rw [b p j h g i k, a p j h g i k]
theorem S14.sf {v : Nat} {W' : Mem} (a : S14 v W W') : SF v W W' := fun p j h _ _ k => a p j (by omega) k
theorem LM.sf {v : Nat} {W' : Mem} (l : LM L n W) (s : SF v W W') : LM L n W' := ⟨l.1, by rw [s 0 17 (by omega) (by omega) (by omega) (by omega)]; exact l.2.1, fun j hj => by rw [s 11 j (by omega) (by omega) (by omega) (by omega)]; exact l.2.2 j hj⟩
def S20 (W W' : Mem) : Prop := ∀ p j, ¬ (p = 0 ∧ (j = 18 ∨ j = 19 ∨ j = 20)) → W' p j = W p j
theorem S20.sf {v : Nat} {W' : Mem} (a : S20 W W') : SF v W W' := fun p j h _ _ _ => a p j h
def enO (L : Nat → Nat) (n s : Nat) : Option Nat := if s < n ∧ L s = 59 then none else some s
theorem stF_is {p : Nat} (hd : dbN (L p) ≠ 0) : stF L n p = oth (fdg L n (dbN (L p)) (p + 1)) (enO L n (p + 1 + dbN (L p))) := by
  unfold stF enO
  rw [if_neg hd]
  cases fdg L n (dbN (L p)) (p + 1) with
  | none => rfl
  | some q => rfl
theorem M_tail (l : LM L n W) {o : Option Nat} {s v : Nat} (hs : s ≤ 200) (hv : v ≤ 33) (hst : stt2 W o s) (h20 : W 0 20 = nI v) : ∃ W', ((if (pm A W 0 19) = 0 then
     (f_X7_here (pm A W)).bind fun t50 =>
     if t50 = 59 then
       some ((0 : Int32))
     else
       some ((1 : Int32))
   else
     some ((1 : Int32))).bind fun t53 =>
  ck (isb t53) <|
  lt (xs (pm A W) 0 19 t53) fun w54 =>
  lt (if (w54 0 19) = 0 then
      ((1 : Int32))
    else
      ((0 : Int32))) fun t58 =>
  lt (xs w54 0 18 ((w54 0 18) + t58)) fun w59 =>
  lt (xs w59 0 20 ((w59 0 20) + 1)) fun w60 =>
  some w60) = some (pm A W') ∧ S20 W W' ∧ stt2 W' (oth o (enO L n s)) (s + 1) ∧ W' 0 20 = nI (v + 1) := by
  have z1 : ¬ (1 : Int32) = 0 := by decide
  have ib0 : isb (0 : Int32) = true := by decide
  have ib1 : isb (1 : Int32) = true := by decide
  have l1 := l.1
  have gen : ∀ (t u : Int32), (W 0 18 + (if t = 0 then 1 else 0) = u) → (lt (xs (pm A W) 0 19 t) fun w54 => lt (if (w54 0 19) = 0 then ((1 : Int32)) else ((0 : Int32))) fun t58 => lt (xs w54 0 18 ((w54 0 18) + t58)) fun w59 => lt (xs w59 0 20 ((w59 0 20) + 1)) fun w60 => some w60) = some (pm A (xs (xs (xs W 0 19 t) 0 18 u) 0 20 (nI (v + 1)))) := fun t u hu => by
    have w1 : xs (pm A W) 0 19 t = pm A (xs W 0 19 t) := pm_off (by omega)
    have r1 : xs W 0 19 t 0 19 = t := by simp [xs]
    have r2 : xs W 0 19 t 0 18 = W 0 18 := by simp [xs]
    have w2 : xs (pm A (xs W 0 19 t)) 0 18 u = pm A (xs (xs W 0 19 t) 0 18 u) := pm_off (by omega)
    have r3 : xs (xs W 0 19 t) 0 18 u 0 20 = nI v := by
      rw [← h20]
      simp [xs]
    have w3 : xs (pm A (xs (xs W 0 19 t) 0 18 u)) 0 20 (nI (v + 1)) = pm A (xs (xs (xs W 0 19 t) 0 18 u) 0 20 (nI (v + 1))) := pm_off (by omega)
    rw [w1, na_lt, pm_0_19, r1, na_lt, pm_0_18, r2, hu, w2, na_lt, pm_0_20, r3, nI_1, w3, na_lt]
  have fr : ∀ (t u : Int32), S20 W (xs (xs (xs W 0 19 t) 0 18 u) 0 20 (nI (v + 1))) := fun t u p j y1 => by
    simp only [xs]
    rw [if_neg (by omega), if_neg (by omega), if_neg (by omega)]
  have a18 : ∀ (t u : Int32), xs (xs (xs W 0 19 t) 0 18 u) 0 20 (nI (v + 1)) 0 18 = u := fun t u => by simp [xs]
  have a19 : ∀ (t u : Int32), xs (xs (xs W 0 19 t) 0 18 u) 0 20 (nI (v + 1)) 0 19 = t := fun t u => by simp [xs]
  have a20 : ∀ (t u : Int32), xs (xs (xs W 0 19 t) 0 18 u) 0 20 (nI (v + 1)) 0 20 = nI (v + 1) := fun t u => by simp [xs]
  cases o with
  | some q =>
    obtain ⟨h18, h19⟩ := hst
    refine ⟨_, ?_, fr 1 (nI q), ⟨a18 _ _, a19 _ _⟩, a20 _ _⟩
    rw [pm_0_19, h19, if_neg z1, Option.bind_some, ib1, na_ck]
    exact gen 1 (nI q) (by rw [h18, if_neg z1, Int32.add_zero])
  | none =>
    obtain ⟨h18, h19⟩ := hst
    rw [pm_0_19, h19, if_pos rfl, M_here l (by omega) h18, Option.bind_some, oth_none]
    unfold enO
    by_cases e : s < n ∧ L s = 59
    · refine ⟨_, ?_, fr 0 (nI (s + 1)), ?_, a20 _ _⟩
      · rw [if_pos e.1, e.2, if_pos (show nI 59 = (59 : Int32) from rfl), Option.bind_some, ib0, na_ck]
        exact gen 0 (nI (s + 1)) (by rw [h18, if_pos rfl, nI_1])
      · rw [if_pos e]
        exact ⟨a18 _ _, a19 _ _⟩
    · refine ⟨_, ?_, fr 1 (nI s), ?_, a20 _ _⟩
      · have n59 : ¬ (if s < n then nI (L s) else -1) = (59 : Int32) := by
          by_cases y : s < n
          · have y2 := (l.2.2 s y).2
            have e59 : (nI (L s) = (59 : Int32)) = (L s = 59) := na_eq (b := 59) (by omega) (by omega)
            rw [if_pos y, e59]
            exact fun z => e ⟨y, z⟩
          · rw [if_neg y]
            decide
        rw [if_neg n59, Option.bind_some, ib1, na_ck]
        exact gen 1 (nI s) (by rw [h18, if_neg z1, Int32.add_zero])
      · rw [if_neg e]
        exact ⟨a18 _ _, a19 _ _⟩
/-- what the model keeps of a statement -/
def ST (L : Nat → Nat) (v p : Nat) (W : Mem) : Prop := W 12 v = nI p ∧ W 13 v = nI (L p) ∧ W 14 (3 * v) = nI (N1 L p) ∧ (L p = 99 → W 14 (3 * v + 1) = nI (nv L (p + 2) 1) ∧ W 14 (3 * v + 2) = nI (nv L (p + 3) 3))
theorem M_stmt (l : LM L n W) {p v : Nat} (hp : p < n ∨ (n = 0 ∧ p = 0)) (hv : v ≤ 33) (h18 : W 0 18 = nI p) (h19 : W 0 19 = 0) (h20 : W 0 20 = nI v) : ∃ W', f_X7_readStatement (pm A W) = some (pm A W') ∧ SF v W W' ∧ W' 0 20 = nI (v + 1) ∧ ((∃ q, (p < n → stF L n p = some q) ∧ (¬ p < n → q = p) ∧ W' 0 18 = nI q ∧ W' 0 19 = 1) ∨ (p < n ∧ stF L n p = none ∧ W' 0 18 = nI (p + dbN (L p) + 2) ∧ W' 0 19 = 0 ∧ ST L v p W')) := by
  have z1 : ¬ (1 : Int32) = 0 := by decide
  have ib0 : isb (0 : Int32) = true := by decide
  have ib1 : isb (1 : Int32) = true := by decide
  have l1 := l.1
  have i49 : inb (nI v) 49 = true := na_inb (by omega) (by omega)
  have xv : ix (nI v) = v := na_ix (by omega)
  have hh := M_here (A := A) l (p := p) (by omega) h18
  generalize ht2 : (if p < n then nI (L p) else -1) = t2 at hh
  have w1 : xs (pm A W) 12 v (nI p) = pm A (xs W 12 v (nI p)) := pm_off (by omega)
  have w2 : xs (pm A (xs W 12 v (nI p))) 13 v t2 = pm A (xs (xs W 12 v (nI p)) 13 v t2) := pm_off (by omega)
  obtain ⟨W4, hW4⟩ : ∃ W4, W4 = xs (xs W 12 v (nI p)) 13 v t2 := ⟨_, rfl⟩
  have f4 : SF v W W4 := fun a j y1 y2 y3 y4 => by
    rw [hW4]
    simp only [xs]
    rw [if_neg y3, if_neg y2]
  have d12 : W4 12 v = nI p := by
    rw [hW4]
    simp only [xs]
    rw [if_neg (by omega), if_pos ⟨trivial, trivial⟩]
  have d13 : W4 13 v = t2 := by
    rw [hW4]
    simp only [xs]
    rw [if_pos ⟨trivial, trivial⟩]
  have e18 : W4 0 18 = nI p := by rw [hW4, ← h18]; simp [xs]
  have e19 : W4 0 19 = 0 := by rw [hW4, ← h19]; simp [xs]
  have e20 : W4 0 20 = nI v := by rw [hW4, ← h20]; simp [xs]
  have lw4 : LM L n W4 := l.sf f4
  have u19 : ∀ t : Int32, xs (pm A W4) 0 19 t = pm A (xs W4 0 19 t) := fun t => pm_off (by omega)
  have r19 : ∀ t : Int32, xs W4 0 19 t 0 19 = t := fun t => by simp [xs]
  have r18 : ∀ t : Int32, xs W4 0 19 t 0 18 = nI p := fun t => by rw [← e18]; simp [xs]
  have u18 : ∀ t x : Int32, xs (pm A (xs W4 0 19 t)) 0 18 x = pm A (xs (xs W4 0 19 t) 0 18 x) := fun t x => pm_off (by omega)
  have v19 : ∀ t x : Int32, xs (xs W4 0 19 t) 0 18 x 0 19 = t := fun t x => by simp [xs]
  have v18 : ∀ t x : Int32, xs (xs W4 0 19 t) 0 18 x 0 18 = x := fun t x => by simp [xs]
  have v20 : ∀ t x : Int32, xs (xs W4 0 19 t) 0 18 x 0 20 = nI v := fun t x => by rw [← e20]; simp [xs]
  have vf : ∀ t x : Int32, SM W4 (xs (xs W4 0 19 t) 0 18 x) := fun t x a j y => by
    simp only [xs]
    rw [if_neg (by omega), if_neg (by omega)]
  by_cases hlet : p < n ∧ dbN (L p) ≠ 0
  · obtain ⟨hpn, hd⟩ := hlet
    have y := (l.2.2 p hpn).2
    rw [if_pos hpn] at ht2
    subst ht2
    have lt1 : f_X7_isLetter (nI (L p)) = some 1 := by rw [M_letter _ y, if_neg hd]
    obtain ⟨W5, m1, m2, m3, m4⟩ := M_mid (A := A) (lw4.sm (vf 0 (nI (p + 1)))) (p := p) (v := v) hpn hv hd ⟨v18 _ _, v19 _ _⟩
    have q20 : W5 0 20 = nI v := by rw [m2 0 20 (by omega) (by omega)]; exact v20 _ _
    have d5 := dbN_le (L p)
    obtain ⟨W6, t1, t2, t3, t4⟩ := M_tail (A := A) ((lw4.sm (vf 0 (nI (p + 1)))).s14 m2) (by omega) hv m3 q20
    refine ⟨W6, ?_, f4.tr (((vf _ _).s14.sf).tr (m2.sf.tr t2.sf)), t4, ?_⟩
    · unfold f_X7_readStatement
      rw [na_lt, pm_0_20, h20, hh, Option.bind_some, i49, na_ck, xv, pm_0_18, h18, w1, na_lt, na_ck, w2, na_lt, ← hW4, pm_0_19, e19, if_pos rfl, lt1, Option.bind_some, if_neg z1, Option.bind_some, ib0, na_ck, u19, na_lt, pm_0_19, r19, if_pos rfl, na_lt, pm_0_18, r18, nI_1, u18, na_lt, pm_0_19, v19, if_pos rfl, m1, Option.bind_some]
      exact t1
    · rw [← stF_is hd] at t3
      cases q : stF L n p with
      | some k =>
        rw [q] at t3
        exact Or.inl ⟨k, fun _ => rfl, fun z => absurd hpn z, t3⟩
      | none =>
        rw [q] at t3
        obtain ⟨s1, s2, s3, s4⟩ := stF_db q
        obtain ⟨m5, m6⟩ := m4 s2
        have g12 : W6 12 v = nI p := by rw [t2 12 v (by omega), m2 12 v (by omega) (by omega), vf _ _ 12 v (by omega)]; exact d12
        have g13 : W6 13 v = nI (L p) := by rw [t2 13 v (by omega), m2 13 v (by omega) (by omega), vf _ _ 13 v (by omega)]; exact d13
        have g14 : ∀ j, j < 200 → W6 14 j = W5 14 j := fun j hj => t2 14 j (by omega)
        refine Or.inr ⟨hpn, rfl, ?_, t3.2, g12, g13, by rw [g14 _ (by omega)]; exact m5, fun z => ⟨by rw [g14 _ (by omega)]; exact (m6 z).1, by rw [g14 _ (by omega)]; exact (m6 z).2⟩⟩
        rw [t3.1, show p + 1 + dbN (L p) + 1 = p + dbN (L p) + 2 by omega]
  · have lt0 : f_X7_isLetter t2 = some 0 := by
      rw [← ht2]
      by_cases hpn : p < n
      · have y := (l.2.2 p hpn).2
        have : dbN (L p) = 0 := by
          rcases Nat.eq_zero_or_pos (dbN (L p)) with z | z
          · exact z
          · exact absurd ⟨hpn, by omega⟩ hlet
        rw [if_pos hpn, M_letter _ y, if_pos this]
      · rw [if_neg hpn]
        decide
    obtain ⟨W6, t1, t2', t3, t4⟩ := M_tail (A := A) (lw4.sm (vf 1 (nI p))) (o := some p) (s := p) (by omega) hv ⟨v18 _ _, v19 _ _⟩ (v20 _ _)
    refine ⟨W6, ?_, f4.tr (((vf _ _).s14.sf).tr t2'.sf), t4, Or.inl ⟨p, fun hpn => ?_, fun _ => rfl, t3⟩⟩
    · unfold f_X7_readStatement
      rw [na_lt, pm_0_20, h20, hh, Option.bind_some, i49, na_ck, xv, pm_0_18, h18, w1, na_lt, na_ck, w2, na_lt, ← hW4, pm_0_19, e19, if_pos rfl, lt0, Option.bind_some, if_pos rfl, Option.bind_some, ib1, na_ck, u19, na_lt, pm_0_19, r19, if_neg z1, na_lt, pm_0_18, r18, Int32.add_zero, u18, na_lt, pm_0_19, v19, if_neg z1, Option.bind_some]
      exact t1
    · unfold stF
      rw [if_pos]
      rcases Nat.eq_zero_or_pos (dbN (L p)) with z | z
      · exact z
      · exact absurd ⟨hpn, by omega⟩ hlet
end HALL3
