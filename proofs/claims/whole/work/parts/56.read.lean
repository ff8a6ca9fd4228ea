/-! HALLS told in letters: the model reads -/
section HALL2
variable {A B C : AM} {m0 h1 h m2 m3 m4 m13 M : Mem} {ks : List Mem} {L : Nat → Nat} {n : Nat} {W : Mem}
def LM (L : Nat → Nat) (n : Nat) (W : Mem) : Prop := n ≤ 96 ∧ W 0 17 = nI n ∧ ∀ j, j < n → W 11 j = nI (L j) ∧ L j < 256
def SM (W W' : Mem) : Prop := ∀ p j, ¬ (p = 0 ∧ (j = 18 ∨ j = 19)) → W' p j = W p j
theorem SM.rf : SM W W := fun _ _ _ => rfl
theorem SM.tr {W1 W2 : Mem} (a : SM W W1) (b : SM W1 W2) : SM W W2 := fun p j h => by rw [b p j h, a p j h]
theorem LM.sm {W' : Mem} (l : LM L n W) (s : SM W W') : LM L n W' := ⟨l.1, by rw [s 0 17 (by omega)]; exact l.2.1, fun j hj => by rw [s 11 j (by omega)]; exact l.2.2 j hj⟩
def oth (o o2 : Option Nat) : Option Nat := match o with | some q => some q | none => o2
theorem fdg_oth {a b s : Nat} : fdg L n (a + b) s = oth (fdg L n a s) (fdg L n b (s + a)) := fdg_add a b s
theorem oth_none {o : Option Nat} : oth none o = o := rfl
theorem oth_as {a b c : Option Nat} : oth (oth a b) c = oth a (oth b c) := by cases a <;> rfl
def stt2 (W : Mem) (o : Option Nat) (s : Nat) : Prop := match o with | none => W 0 18 = nI s ∧ W 0 19 = 0 | some q => W 0 18 = nI q ∧ W 0 19 = 1
theorem M_here (l : LM L n W) {p : Nat} (hp : p < 1000) (h18 : W 0 18 = nI p) : f_X7_here (pm A W) = some (if p < n then nI (L p) else -1) := by
  obtain ⟨l1, l2, l3⟩ := l
  unfold f_X7_here
  rw [pm_0_17, pm_0_18, l2, h18]
  by_cases e : p < n
  · rw [if_neg (nI_ge e (by omega)), if_pos e, na_inb (by omega) (by omega), na_ck, na_ix (by omega), pm_11, (l3 p e).1]
  · rw [if_pos (nI_le (by omega) (by omega)), if_neg e]
theorem M_dgt (l : LM L n W) {p : Nat} (hp : p < 1000) (h18 : W 0 18 = nI p) : ((f_X7_here (pm A W)).bind fun t10 => (f_X7_in ((t10 : Int32).toInt64) 48 57).bind fun t11 => if t11 = 0 then some (1 : Int32) else some (0 : Int32)) = some (if dg L n p then 0 else 1) := by
  have z1 : ¬ (1 : Int32) = 0 := by decide
  rw [M_here l hp h18, Option.bind_some]
  unfold dg
  by_cases e : p < n
  · have y := (l.2.2 p e).2
    have hi : f_X7_in (nI (L p)).toInt64 48 57 = some (if nI 48 ≤ nI (L p) ∧ nI (L p) ≤ nI 57 then 1 else 0) := na_inK _ (k := 48) (m := 57) (by omega) (by omega)
    have e1 : (nI 48 ≤ nI (L p)) = (48 ≤ L p) := na_le (by omega) (by omega)
    have e2 : (nI (L p) ≤ nI 57) = (L p ≤ 57) := na_le (by omega) (by omega)
    rw [if_pos e, hi, Option.bind_some]
    simp only [e1, e2]
    by_cases z : 48 ≤ L p ∧ L p ≤ 57
    · rw [if_pos z, if_neg z1, decide_eq_true ⟨e, z⟩]
      rfl
    · rw [if_neg z, if_pos rfl, decide_eq_false (fun y => z y.2)]
      rfl
  · have hi : f_X7_in ((-1 : Int32)).toInt64 48 57 = some 0 := by decide
    rw [if_neg e, hi, Option.bind_some, if_pos rfl, decide_eq_false (fun y => e y.1)]
    rfl
theorem M_rdL {d s0 : Nat} (hd : d ≤ 3) (hs0 : s0 ≤ 200) (hL : ∀ k, k ≤ 3 → True) : ∀ r k f W o v, LM L n W → k + r = d → r < f → stt2 W o (s0 + k) → (o = none → v = nI (nv L s0 k)) → ∃ v' W', f_X7_readDigits_L4 (nI d) f v (nI k) (pm A W) = some (v', pm A W') ∧ SM W W' ∧ stt2 W' (oth o (fdg L n r (s0 + k))) (s0 + d) ∧ (oth o (fdg L n r (s0 + k)) = none → v' = nI (nv L s0 d))
  | 0, k, f, W, o, v, l, hk, hf, hst, hv => by
    obtain ⟨g, rfl⟩ : ∃ g, f = g + 1 := ⟨f - 1, by omega⟩
    have : k = d := by omega
    subst this
    refine ⟨v, W, ?_, SM.rf, ?_, ?_⟩
    · rw [f_X7_readDigits_L4, if_pos (nI_le (Nat.le_refl _) (by omega))]
    · cases o with
      | none => exact hst
      | some q => exact hst
    · cases o with
      | none => exact fun _ => hv rfl
      | some q => exact fun e => by cases e
  | r + 1, k, f, W, o, v, l, hk, hf, hst, hv => by
    obtain ⟨g, rfl⟩ : ∃ g, f = g + 1 := ⟨f - 1, by omega⟩
    have z1 : ¬ (1 : Int32) = 0 := by decide
    have w19 : ∀ t : Int32, xs (pm A W) 0 19 t = pm A (xs W 0 19 t) := fun t => pm_off (by omega)
    have r19 : ∀ t : Int32, xs W 0 19 t 0 19 = t := fun t => by simp [xs]
    have r18 : ∀ t : Int32, xs W 0 19 t 0 18 = W 0 18 := fun t => by simp [xs]
    have w18 : ∀ (t u : Int32), xs (pm A (xs W 0 19 t)) 0 18 u = pm A (xs (xs W 0 19 t) 0 18 u) := fun t u => pm_off (by omega)
    have s1 : ∀ t u : Int32, SM W (xs (xs W 0 19 t) 0 18 u) := fun t u p j hpj => by
      simp only [xs]
      rw [if_neg (by omega), if_neg (by omega)]
    have q18 : ∀ t u : Int32, xs (xs W 0 19 t) 0 18 u 0 18 = u := fun t u => by simp [xs]
    have q19 : ∀ t u : Int32, xs (xs W 0 19 t) 0 18 u 0 19 = t := fun t u => by simp [xs]
    have ib0 : isb (0 : Int32) = true := by decide
    have ib1 : isb (1 : Int32) = true := by decide
    rw [f_X7_readDigits_L4, if_neg (nI_ge (by omega) (by omega))]
    cases o with
    | none =>
      obtain ⟨h18, h19⟩ := hst
      rw [pm_0_19, h19, if_pos rfl, M_dgt l (by omega) h18, Option.bind_some, oth_none, fdg]
      by_cases e : dg L n (s0 + k) = true
      · have di := dg_is e
        have l' := l
        obtain ⟨l1, l2, l3⟩ := l'
        have rd : xs W 0 19 0 11 (s0 + k) = nI (L (s0 + k)) := by
          have : xs W 0 19 0 11 (s0 + k) = W 11 (s0 + k) := by simp [xs]
          rw [this]
          exact (l3 _ di.1).1
        obtain ⟨v', W', g1, g2, g3, g4⟩ := M_rdL hd hs0 hL r (k + 1) g (xs (xs W 0 19 0) 0 18 (nI (s0 + k + 1))) none (nI (nv L s0 (k + 1))) (l.sm (s1 _ _)) (by omega) (by omega) ⟨by rw [q18]; rfl, q19 _ _⟩ (fun _ => rfl)
        have nve : (10 : Int32) * v + nI (L (s0 + k)) - 48 = nI (nv L s0 (k + 1)) := by
          rw [hv rfl, show (10 : Int32) = nI 10 from rfl, pk_mul, nI_add, show (48 : Int32) = nI 48 from rfl, pk_sub (by omega), nv]
          congr 1
          omega
        refine ⟨v', W', ?_, (s1 _ _).tr g2, ?_, ?_⟩
        · rw [if_pos e, ib0, na_ck, w19, na_lt, pm_0_19, r19, if_pos rfl, pm_0_18, r18, h18, na_inb (by omega) (by omega), na_ck, na_ix (by omega), pm_11, rd, nve, Option.bind_some, if_pos rfl, nI_1, w18, na_lt, na_lt, nI_1]
          exact g1
        · rw [if_pos e]
          exact g3
        · rw [if_pos e]
          exact g4
      · obtain ⟨v', W', g1, g2, g3, g4⟩ := M_rdL hd hs0 hL r (k + 1) g (xs (xs W 0 19 1) 0 18 (nI (s0 + k))) (some (s0 + k)) 0 (l.sm (s1 _ _)) (by omega) (by omega) ⟨q18 _ _, q19 _ _⟩ (fun z => by cases z)
        refine ⟨v', W', ?_, (s1 _ _).tr g2, ?_, ?_⟩
        · rw [if_neg e, ib1, na_ck, w19, na_lt, pm_0_19, r19, if_neg z1, Option.bind_some, if_neg z1, pm_0_18, r18, h18, Int32.add_zero, w18, na_lt, na_lt, nI_1]
          exact g1
        · rw [if_neg e]
          exact g3
        · rw [if_neg e]
          exact g4
    | some q =>
      obtain ⟨h18, h19⟩ := hst
      obtain ⟨v', W', g1, g2, g3, g4⟩ := M_rdL hd hs0 hL r (k + 1) g (xs (xs W 0 19 1) 0 18 (nI q)) (some q) 0 (l.sm (s1 _ _)) (by omega) (by omega) ⟨q18 _ _, q19 _ _⟩ (fun z => by cases z)
      refine ⟨v', W', ?_, (s1 _ _).tr g2, g3, g4⟩
      rw [pm_0_19, h19, if_neg z1, Option.bind_some, ib1, na_ck, w19, na_lt, pm_0_19, r19, if_neg z1, Option.bind_some, if_neg z1, pm_0_18, r18, h18, Int32.add_zero, w18, na_lt, na_lt, nI_1]
      exact g1
theorem M_rd (l : LM L n W) {d s : Nat} {o : Option Nat} (hd : d ≤ 3) (hs : s ≤ 200) (hst : stt2 W o s) : ∃ v' W', f_X7_readDigits (pm A W) (nI d) = some (v', pm A W') ∧ SM W W' ∧ stt2 W' (oth o (fdg L n d s)) (s + d) ∧ (oth o (fdg L n d s) = none → v' = nI (nv L s d)) := by
  obtain ⟨v', W', g1, g2, g3, g4⟩ := M_rdL (A := A) (L := L) (n := n) hd hs (fun _ _ => trivial) d 0 6000 W o 0 l (by omega) (by omega) hst (fun _ => rfl)
  refine ⟨v', W', ?_, g2, g3, g4⟩
  have g1' : f_X7_readDigits_L4 (nI d) 6000 0 0 (pm A W) = some (v', pm A W') := g1
  unfold f_X7_readDigits
  rw [g1', Option.bind_some]
/-- one statement's digits -/
def S14 (v : Nat) (W W' : Mem) : Prop := ∀ p j, ¬ (p = 0 ∧ (j = 18 ∨ j = 19)) → ¬ (p = 14 ∧ 3 * v ≤ j ∧ j < 3 * v + 3) → W' p j = W p j
theorem S14.tr {v : Nat} {W1 W2 : Mem} (a : S14 v W W1) (b : S14 v W1 W2) : S14 v W W2 := fun p j h g => by rw [b p j h g, a p j h g]
theorem SM.s14 {v : Nat} {W' : Mem} (a : SM W W') : S14 v W W' := fun p j h _ => a p j h
theorem s14_xs {v k : Nat} {x : Int32} (hk : k < 3) : S14 v W (xs W 14 (3 * v + k) x) := fun p j h g => by
  simp only [xs]
  rw [if_neg (by omega)]
theorem LM.s14 {v : Nat} {W' : Mem} (l : LM L n W) (s : S14 v W W') : LM L n W' := ⟨l.1, by rw [s 0 17 (by omega) (by omega)]; exact l.2.1, fun j hj => by rw [s 11 j (by omega) (by omega)]; exact l.2.2 j hj⟩
theorem stt2_xs {o : Option Nat} {s p j : Nat} {x : Int32} (hp : p ≠ 0) (h : stt2 W o s) : stt2 (xs W p j x) o s := by
  have e : ∀ k, xs W p j x 0 k = W 0 k := fun k => by
    simp only [xs]
    rw [if_neg (by omega)]
  cases o with
  | none => exact ⟨by rw [e]; exact h.1, by rw [e]; exact h.2⟩
  | some q => exact ⟨by rw [e]; exact h.1, by rw [e]; exact h.2⟩
def N1 (L : Nat → Nat) (p : Nat) : Nat := nv L (p + 1) (if L p = 98 then 2 else 1)
theorem M_mid (l : LM L n W) {p v : Nat} (hp : p < n) (hv : v ≤ 33) (hd : dbN (L p) ≠ 0) (hst : stt2 W none (p + 1)) : ∃ W', (lt (if nI (L p) = 98 then ((2 : Int32)) else ((1 : Int32))) fun t35 =>
     (f_X7_readDigits (pm A W) t35).bind fun t36 =>
     ck (inb (3 * nI v) 147) <|
     lt (xs t36.2 14 (ix (3 * nI v)) t36.1) fun w37 =>
     if nI (L p) = 99 then
       (f_X7_readDigits w37 1).bind fun t38 =>
       ck (inb ((3 * nI v) + 1) 147) <|
       lt (xs t38.2 14 (ix ((3 * nI v) + 1)) t38.1) fun w39 =>
       (f_X7_readDigits w39 3).bind fun t40 =>
       ck (inb ((3 * nI v) + 2) 147) <|
       lt (xs t40.2 14 (ix ((3 * nI v) + 2)) t40.1) fun w41 =>
       some (w41)
     else
       some (w37)) = some (pm A W') ∧ S14 v W W' ∧ stt2 W' (fdg L n (dbN (L p)) (p + 1)) (p + 1 + dbN (L p)) ∧ (fdg L n (dbN (L p)) (p + 1) = none → W' 14 (3 * v) = nI (N1 L p) ∧ (L p = 99 → W' 14 (3 * v + 1) = nI (nv L (p + 2) 1) ∧ W' 14 (3 * v + 2) = nI (nv L (p + 3) 3))) := by
  have l1 := l.1
  have y := (l.2.2 p hp).2
  have e98 : (nI (L p) = (98 : Int32)) = (L p = 98) := na_eq (b := 98) (by omega) (by omega)
  have e99 : (nI (L p) = (99 : Int32)) = (L p = 99) := na_eq (b := 99) (by omega) (by omega)
  have m3 : (3 : Int32) * nI v = nI (3 * v) := pk_mul 3 v
  have i0 : inb (nI (3 * v)) 147 = true := na_inb (by omega) (by omega)
  have i1 : inb (nI (3 * v) + 1) 147 = true := by rw [nI_1]; exact na_inb (by omega) (by omega)
  have i2 : inb (nI (3 * v) + 2) 147 = true := by rw [show nI (3 * v) + 2 = nI (3 * v + 2) from nI_add _ 2]; exact na_inb (by omega) (by omega)
  have x0 : ix (nI (3 * v)) = 3 * v := na_ix (by omega)
  have x1 : ix (nI (3 * v) + 1) = 3 * v + 1 := by rw [nI_1]; exact na_ix (by omega)
  have x2 : ix (nI (3 * v) + 2) = 3 * v + 2 := by rw [show nI (3 * v) + 2 = nI (3 * v + 2) from nI_add _ 2]; exact na_ix (by omega)
  have off : ∀ (X : Mem) (k : Nat) (t : Int32), xs (pm A X) 14 k t = pm A (xs X 14 k t) := fun X k t => pm_off (by omega)
  have self : ∀ (X : Mem) (k : Nat) (t : Int32), xs X 14 k t 14 k = t := fun X k t => by simp [xs]
  by_cases c99 : L p = 99
  · have d5 : dbN (L p) = 1 + (1 + 3) := by rw [c99]; rfl
    have n98 : ¬ L p = 98 := by omega
    obtain ⟨v1, W1, a1, a2, a3, a4⟩ := M_rd (A := A) l (d := 1) (s := p + 1) (o := none) (by omega) (by omega) hst
    rw [oth_none] at a3 a4
    have b3 := stt2_xs (p := 14) (j := 3 * v) (x := v1) (by omega) a3
    have lw1 : LM L n (xs W1 14 (3 * v) v1) := (l.sm a2).s14 (s14_xs (v := v) (k := 0) (by omega))
    obtain ⟨v2, W2, c1, c2, c3, c4⟩ := M_rd (A := A) lw1 (d := 1) (by omega) (by omega) b3
    have d3 := stt2_xs (p := 14) (j := 3 * v + 1) (x := v2) (by omega) c3
    have lw2 : LM L n (xs W2 14 (3 * v + 1) v2) := (lw1.sm c2).s14 (s14_xs (v := v) (k := 1) (by omega))
    obtain ⟨v3, W3, f1, f2, f3, f4⟩ := M_rd (A := A) lw2 (d := 3) (by omega) (by omega) d3
    have g3 := stt2_xs (p := 14) (j := 3 * v + 2) (x := v3) (by omega) f3
    have oe : fdg L n (dbN (L p)) (p + 1) = oth (oth (fdg L n 1 (p + 1)) (fdg L n 1 (p + 1 + 1))) (fdg L n 3 (p + 1 + 1 + 1)) := by
      rw [d5, fdg_oth, fdg_oth, oth_as]
    refine ⟨xs W3 14 (3 * v + 2) v3, ?_, ?_, ?_, fun hn => ?_⟩
    · rw [if_neg (fun z => n98 (e98 ▸ z)), na_lt, show (1 : Int32) = nI 1 from rfl, a1, Option.bind_some, m3, i0, na_ck, x0, off, na_lt, if_pos (e99 ▸ c99), c1, Option.bind_some, show nI (3 * v) + nI 1 = nI (3 * v) + 1 from rfl, i1, na_ck, x1, off, na_lt, show (3 : Int32) = nI 3 from rfl, f1, Option.bind_some, i2, na_ck, x2, off, na_lt]
    · exact (a2.s14.tr (s14_xs (k := 0) (by omega))).tr ((c2.s14.tr (s14_xs (k := 1) (by omega))).tr (f2.s14.tr (s14_xs (k := 2) (by omega))))
    · rw [oe, show p + 1 + dbN (L p) = p + 1 + 1 + 1 + 3 by rw [d5]]
      exact g3
    · rw [oe] at hn
      have hn1 : oth (fdg L n 1 (p + 1)) (fdg L n 1 (p + 1 + 1)) = none := by
        cases q : oth (fdg L n 1 (p + 1)) (fdg L n 1 (p + 1 + 1)) with
        | none => rfl
        | some k => rw [q] at hn; cases hn
      have hn0 : fdg L n 1 (p + 1) = none := by
        cases q : fdg L n 1 (p + 1) with
        | none => rfl
        | some k => rw [q] at hn1; cases hn1
      have k1 : W3 14 (3 * v) = nI (N1 L p) := by
        rw [f2 14 (3 * v) (by omega)]
        simp only [xs]
        rw [if_neg (by omega), c2 14 (3 * v) (by omega)]
        simp only [xs]
        rw [if_pos ⟨trivial, trivial⟩, a4 hn0]
        unfold N1
        rw [if_neg n98]
      have k2 : W3 14 (3 * v + 1) = nI (nv L (p + 2) 1) := by
        rw [f2 14 (3 * v + 1) (by omega)]
        simp only [xs]
        rw [if_pos ⟨trivial, trivial⟩, c4 hn1]
      refine ⟨?_, fun _ => ⟨?_, ?_⟩⟩
      · simp only [xs]
        rw [if_neg (by omega)]
        exact k1
      · simp only [xs]
        rw [if_neg (by omega)]
        exact k2
      · rw [self, f4 hn]
  · have n99 : ¬ nI (L p) = (99 : Int32) := fun z => c99 (e99 ▸ z)
    have dd : dbN (L p) = if L p = 98 then 2 else 1 := by
      unfold dbN at hd ⊢
      by_cases z : L p = 98
      · rw [if_pos z, if_pos z]
      · rw [if_neg z, if_neg c99, if_neg z]
        rw [if_neg z, if_neg c99] at hd
        repeat' split
        all_goals first | rfl | (exfalso; revert hd; simp [*])
    have d2 : dbN (L p) ≤ 3 := by rw [dd]; split <;> omega
    obtain ⟨v1, W1, a1, a2, a3, a4⟩ := M_rd (A := A) l (d := dbN (L p)) (s := p + 1) (o := none) d2 (by omega) hst
    rw [oth_none] at a3 a4
    have t35 : (if nI (L p) = 98 then (2 : Int32) else 1) = nI (dbN (L p)) := by
      rw [dd]
      by_cases z : L p = 98
      · rw [if_pos (e98 ▸ z), if_pos z]
        rfl
      · rw [if_neg (fun y => z (e98 ▸ y)), if_neg z]
        rfl
    refine ⟨xs W1 14 (3 * v) v1, ?_, a2.s14.tr (s14_xs (k := 0) (by omega)), stt2_xs (by omega) a3, fun hn => ⟨?_, fun z => absurd z c99⟩⟩
    · rw [t35, na_lt, a1, Option.bind_some, m3, i0, na_ck, x0, off, na_lt, if_neg n99]
    · rw [self, a4 hn]
      unfold N1
      rw [dd]
end HALL2
