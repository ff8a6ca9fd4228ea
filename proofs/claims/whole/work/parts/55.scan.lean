/-! HALLS told in letters: the letters are looked through -/
section HALL1
variable {A B C : AM} {m0 h1 h m2 m3 m4 m13 M : Mem} {ks : List Mem} {L : Nat → Nat} {n : Nat}
def dbN (c : Nat) : Nat := if c = 98 then 2 else if c = 99 then 5 else if c = 102 then 1 else if c = 114 then 1 else if c = 115 then 1 else if c = 119 then 1 else 0
theorem X_db : ∀ c, c < 256 → f_X4_digitsBehind (nI c) = some (nI (dbN c)) := by decide +kernel
theorem M_letter : ∀ c, c < 256 → f_X7_isLetter (nI c) = some (if dbN c = 0 then 0 else 1) := by decide +kernel
theorem dbN_le (c : Nat) : dbN c ≤ 5 := by
  unfold dbN
  repeat' split
  all_goals omega
def dg (L : Nat → Nat) (n p : Nat) : Bool := decide (p < n ∧ 48 ≤ L p ∧ L p ≤ 57)
def fdg (L : Nat → Nat) (n : Nat) : Nat → Nat → Option Nat
  | 0, _ => none
  | r + 1, s => if dg L n s then fdg L n r (s + 1) else some s
def stF (L : Nat → Nat) (n p : Nat) : Option Nat :=
  if dbN (L p) = 0 then some p else
    match fdg L n (dbN (L p)) (p + 1) with
    | some q => some q
    | none => if p + 1 + dbN (L p) < n ∧ L (p + 1 + dbN (L p)) = 59 then none else some (p + 1 + dbN (L p))
theorem fdg_add : ∀ a b s, fdg L n (a + b) s = match fdg L n a s with | some q => some q | none => fdg L n b (s + a)
  | 0, b, s => by rw [Nat.zero_add]; rfl
  | a + 1, b, s => by
    rw [show a + 1 + b = (a + b) + 1 by omega, fdg, fdg]
    split
    · rw [fdg_add a b (s + 1), show s + 1 + a = s + (a + 1) by omega]
    · rfl
theorem fdg_ge : ∀ r s q, fdg L n r s = some q → s ≤ q ∧ q < s + r
  | 0, s, q, h => by cases h
  | r + 1, s, q, h => by
    rw [fdg] at h
    split at h
    · have := fdg_ge r (s + 1) q h
      omega
    · cases h
      omega
def LX (L : Nat → Nat) (n : Nat) (m13 : Mem) : Prop := n ≤ 96 ∧ m13 0 1 = nI n ∧ ∀ j, j < n → m13 1 j = nI (L j) ∧ L j < 256
theorem X_digit (x : LX L n m13) {p : Nat} (hp : p < 1000) : f_X4_isDigit m13 (nI p) = some (if dg L n p then 1 else 0) := by
  obtain ⟨x1, x2, x3⟩ := x
  unfold f_X4_isDigit dg
  rw [x2]
  by_cases e : p < n
  · obtain ⟨y1, y2⟩ := x3 p e
    have e1 : (nI (L p) < (48 : Int32)) = (L p < 48) := na_ltI (b := 48) (by omega) (by omega)
    have e2 : ((57 : Int32) < nI (L p)) = (57 < L p) := na_ltI (a := 57) (by omega) (by omega)
    rw [if_neg (nI_ge e (by omega)), na_inb (by omega) (by omega), na_ck, na_ck, na_ix (by omega), y1]
    by_cases z1 : L p < 48
    · rw [if_pos (e1 ▸ z1), decide_eq_false (by omega)]
      rfl
    · rw [if_neg (fun y => z1 (e1 ▸ y))]
      by_cases z2 : 57 < L p
      · rw [if_pos (e2 ▸ z2), decide_eq_false (by omega)]
        rfl
      · rw [if_neg (fun y => z2 (e2 ▸ y)), decide_eq_true (by omega)]
        rfl
  · rw [if_pos (nI_le (by omega) (by omega)), decide_eq_false (by omega)]
    rfl
theorem X_L40 (x : LX L n m13) {K : Int32 → Option Int32} {d : Nat} (hd : d ≤ 5) : ∀ r s k f, k + r = d → s + r < 500 → r < f → f_X4_faultyPlace_L40 K m13 (nI d) f (nI s) (nI k) = match fdg L n r s with | some q => some (nI q) | none => if s + r < n ∧ L (s + r) = 59 then K (nI (s + r + 1)) else some (nI (s + r))
  | 0, s, k, f, hk, hs, hf => by
    obtain ⟨g, rfl⟩ : ∃ g, f = g + 1 := ⟨f - 1, by omega⟩
    obtain ⟨x1, x2, x3⟩ := x
    rw [f_X4_faultyPlace_L40, if_pos (nI_le (by omega) (by omega)), x2]
    show _ = if s + 0 < n ∧ L (s + 0) = 59 then K (nI (s + 0 + 1)) else some (nI (s + 0))
    rw [Nat.add_zero]
    by_cases e : s < n
    · obtain ⟨y1, y2⟩ := x3 s e
      have e1 : (nI (L s) = (59 : Int32)) = (L s = 59) := na_eq (b := 59) (by omega) (by omega)
      rw [if_neg (nI_ge e (by omega)), na_inb (by omega) (by omega), na_ck, na_ix (by omega), y1]
      by_cases z : L s = 59
      · rw [if_pos (e1 ▸ z), if_pos ⟨e, z⟩, na_lt, nI_1]
      · rw [if_neg (fun y => z (e1 ▸ y)), if_neg (fun y => z y.2)]
    · rw [if_pos (nI_le (by omega) (by omega)), if_neg (fun y => e y.1)]
  | r + 1, s, k, f, hk, hs, hf => by
    obtain ⟨g, rfl⟩ : ∃ g, f = g + 1 := ⟨f - 1, by omega⟩
    have z1 : ¬ (1 : Int32) = 0 := by decide
    rw [f_X4_faultyPlace_L40, if_neg (nI_ge (by omega) (by omega)), X_digit x (by omega), Option.bind_some, fdg]
    by_cases e : dg L n s = true
    · rw [if_pos e, if_neg z1, na_lt, na_lt, nI_1, nI_1, X_L40 x hd r (s + 1) (k + 1) g (by omega) (by omega) (by omega), if_pos e, show s + 1 + r = s + (r + 1) by omega]
    · rw [if_neg e, if_pos rfl, if_neg e]
theorem X_L11 (x : LX L n m13) {p f : Nat} (hp : p < n) : f_X4_faultyPlace_L11 m13 (f + 1) (nI p) = match stF L n p with | some q => some (nI q) | none => f_X4_faultyPlace_L11 m13 f (nI (p + dbN (L p) + 2)) := by
  have x' := x
  obtain ⟨x1, x2, x3⟩ := x
  obtain ⟨y1, y2⟩ := x3 p hp
  have d5 := dbN_le (L p)
  have e0 : (nI (dbN (L p)) = (0 : Int32)) = (dbN (L p) = 0) := na_eq (b := 0) (by omega) (by omega)
  rw [f_X4_faultyPlace_L11, x2, if_neg (nI_ge hp (by omega)), na_inb (by omega) (by omega), na_ck, na_ix (by omega), y1, X_db _ y2, Option.bind_some]
  unfold stF
  by_cases z : dbN (L p) = 0
  · rw [if_pos (e0 ▸ z), if_pos z]
  · rw [if_neg (fun y => z (e0 ▸ y)), if_neg z, na_lt, nI_1, show (0 : Int32) = nI 0 from rfl, X_L40 x' d5 (dbN (L p)) (p + 1) 0 6000 (by omega) (by omega) (by omega)]
    cases q : fdg L n (dbN (L p)) (p + 1) with
    | some q => rfl
    | none =>
      dsimp only
      by_cases y : p + 1 + dbN (L p) < n ∧ L (p + 1 + dbN (L p)) = 59
      · rw [if_pos y, if_pos y]
        dsimp only
        rw [show p + 1 + dbN (L p) + 1 = p + dbN (L p) + 2 by omega]
      · rw [if_neg y, if_neg y]
/-- where the statements begin -/
def sp (L : Nat → Nat) : Nat → Nat
  | 0 => 0
  | v + 1 => sp L v + dbN (L (sp L v)) + 2
def okS (L : Nat → Nat) (n v : Nat) : Prop := ∀ u, u < v → sp L u < n ∧ stF L n (sp L u) = none
theorem stF_db {p : Nat} (h : stF L n p = none) : dbN (L p) ≠ 0 ∧ fdg L n (dbN (L p)) (p + 1) = none ∧ p + 1 + dbN (L p) < n ∧ L (p + 1 + dbN (L p)) = 59 := by
  unfold stF at h
  by_cases z : dbN (L p) = 0
  · rw [if_pos z] at h
    cases h
  · rw [if_neg z] at h
    cases q : fdg L n (dbN (L p)) (p + 1) with
    | some q => rw [q] at h; cases h
    | none =>
      rw [q] at h
      dsimp only at h
      by_cases y : p + 1 + dbN (L p) < n ∧ L (p + 1 + dbN (L p)) = 59
      · exact ⟨z, rfl, y⟩
      · rw [if_neg y] at h
        cases h
theorem okS_sp (h0 : 0 < n) : ∀ v, okS L n v → 3 * v ≤ sp L v ∧ sp L v ≤ n
  | 0, _ => ⟨Nat.le_refl _, Nat.zero_le _⟩
  | v + 1, h => by
    have ih := okS_sp h0 v (fun u hu => h u (by omega))
    obtain ⟨a1, a2⟩ := h v (by omega)
    obtain ⟨b1, b2, b3, b4⟩ := stF_db a2
    show 3 * (v + 1) ≤ sp L v + dbN (L (sp L v)) + 2 ∧ sp L v + dbN (L (sp L v)) + 2 ≤ n
    omega
theorem okS_or (h0 : 0 < n) (hn : n ≤ 96) : ∀ r v, v + r = 40 → okS L n v → (∃ c, okS L n c ∧ sp L c = n) ∨ ∃ c q, okS L n c ∧ sp L c < n ∧ stF L n (sp L c) = some q
  | 0, v, hv, h => by
    have := okS_sp h0 v h
    omega
  | r + 1, v, hv, h => by
    have := okS_sp h0 v h
    rcases (by omega : sp L v = n ∨ sp L v < n) with e | e
    · exact Or.inl ⟨v, h, e⟩
    · cases q : stF L n (sp L v) with
      | some q1 => exact Or.inr ⟨v, q1, h, e, q⟩
      | none => exact okS_or h0 hn r (v + 1) (by omega) (fun u hu => by
          rcases (by omega : u < v ∨ u = v) with y | rfl
          · exact h u y
          · exact ⟨e, q⟩)
theorem X_scan (x : LX L n m13) (h0 : 0 < n) : ∀ v f, okS L n v → f_X4_faultyPlace_L11 m13 (f + v) (nI 0) = f_X4_faultyPlace_L11 m13 f (nI (sp L v))
  | 0, f, _ => rfl
  | v + 1, f, h => by
    rw [show f + (v + 1) = (f + 1) + v by omega, X_scan x h0 v (f + 1) (fun u hu => h u (by omega))]
    obtain ⟨a1, a2⟩ := h v (by omega)
    rw [X_L11 x a1, a2]
    rfl
theorem X_faulty_ok (x : LX L n m13) (h0 : 0 < n) {c : Nat} (h : okS L n c) (hc : sp L c = n) : f_X4_faultyPlace m13 = some (-1) := by
  have := okS_sp h0 c h
  have x1 := x.1
  have q0 : ¬ nI n = (0 : Int32) := by
    rw [show (0 : Int32) = nI 0 from rfl, nI_eq (by omega) (by omega)]
    omega
  unfold f_X4_faultyPlace
  have s := X_scan x h0 c (6000 - c) h
  rw [show 6000 - c + c = 6000 by omega] at s
  rw [x.2.1, if_neg q0, show (0 : Int32) = nI 0 from rfl, s, hc, show 6000 - c = (5999 - c) + 1 by omega, f_X4_faultyPlace_L11, x.2.1, if_pos (nI_le (Nat.le_refl _) (by omega))]
theorem X_faulty_no (x : LX L n m13) (h0 : 0 < n) {c q : Nat} (h : okS L n c) (hc : sp L c < n) (hq : stF L n (sp L c) = some q) : f_X4_faultyPlace m13 = some (nI q) := by
  have := okS_sp h0 c h
  have x1 := x.1
  have q0 : ¬ nI n = (0 : Int32) := by
    rw [show (0 : Int32) = nI 0 from rfl, nI_eq (by omega) (by omega)]
    omega
  unfold f_X4_faultyPlace
  have s := X_scan x h0 c (6000 - c) h
  rw [show 6000 - c + c = 6000 by omega] at s
  rw [x.2.1, if_neg q0, show (0 : Int32) = nI 0 from rfl, s, show 6000 - c = (5999 - c) + 1 by omega, X_L11 x hc, hq]
/-- numbers -/
def nv (L : Nat → Nat) (s : Nat) : Nat → Nat
  | 0 => 0
  | k + 1 => 10 * nv L s k + (L (s + k) - 48)
theorem fdg_dg : ∀ r s, fdg L n r s = none → ∀ j, j < r → dg L n (s + j) = true
  | 0, s, _, j, hj => by omega
  | r + 1, s, h, j, hj => by
    rw [fdg] at h
    by_cases e : dg L n s = true
    · rw [if_pos e] at h
      rcases (by omega : j = 0 ∨ 0 < j) with rfl | y
      · exact e
      · have := fdg_dg r (s + 1) h (j - 1) (by omega)
        rw [show s + 1 + (j - 1) = s + j by omega] at this
        exact this
    · rw [if_neg e] at h
      cases h
theorem dg_is {p : Nat} (h : dg L n p = true) : p < n ∧ 48 ≤ L p ∧ L p ≤ 57 := of_decide_eq_true h
theorem nv_lt {s r : Nat} (h : fdg L n r s = none) : ∀ k, k ≤ r → nv L s k < 10 ^ k
  | 0, _ => by show 0 < 1; omega
  | k + 1, hk => by
    have ih := nv_lt h k (by omega)
    have := dg_is (fdg_dg r s h k (by omega))
    rw [nv, Nat.pow_succ]
    omega
theorem X_number (x : LX L n m13) {s r : Nat} (hr : r ≤ 5) (hs : s < 200) (h : fdg L n r s = none) : f_X4_number m13 (nI s) (nI r) = some (nI (nv L s r)) := by
  have z1 : ¬ (1 : Int32) = 0 := by decide
  have x1 := x.1
  have bnd : ∀ k, k ≤ r → nv L s k < 100000 := fun k hk => Nat.lt_of_lt_of_le (nv_lt h k hk) (show 10 ^ k ≤ 10 ^ 5 from Nat.pow_le_pow_right (by omega) (by omega))
  have hl := lp (r := some (nI (nv L s r))) (fun f (v : Int32) i => f_X4_number_L5 (nI s) (nI r) m13 f v (nI s + i)) r (fun j => nI (nv L s j)) (fun f => ?_) (fun f j hj => ?_) r 0 6000 (by omega) (by omega)
  · unfold f_X4_number
    have e : nI s + nI 0 = nI s := nI_add s 0
    rw [e] at hl
    have hl' : f_X4_number_L5 (nI s) (nI r) m13 6000 0 (nI s) = some (nI (nv L s r)) := hl
    rw [hl', Option.bind_some]
  · show f_X4_number_L5 _ _ _ (f + 1) _ _ = _
    rw [f_X4_number_L5, nI_add, if_pos (nI_le (Nat.le_refl _) (by omega))]
  · show f_X4_number_L5 _ _ _ (f + 1) _ (nI s + nI j) = f_X4_number_L5 _ _ _ f _ (nI s + nI (j + 1))
    have dj := fdg_dg r s h j hj
    have di := dg_is dj
    obtain ⟨y1, y2⟩ := x.2.2 (s + j) di.1
    have b := bnd j (by omega)
    rw [f_X4_number_L5, nI_add, nI_add, if_neg (nI_ge (by omega) (by omega)), X_digit x (by omega), Option.bind_some, if_pos dj, if_neg z1, na_inb (by omega) (by omega), na_ck, na_ix (by omega), y1, show (10 : Int32) = nI 10 from rfl, pk_mul, nI_add, show (48 : Int32) = nI 48 from rfl, pk_sub (by omega), na_lt, na_lt, nI_1, nI_add, nv, show nv L s j * 10 + L (s + j) - 48 = 10 * nv L s j + (L (s + j) - 48) by omega, show s + j + 1 = s + (j + 1) by omega]
end HALL1
