/-! TURNS at the fountain -/
section OPS15
variable {A B C : AM} {m0 h1 h m2 m3 m4 m13 m16 M : Mem} {ks : List Mem}
abbrev bt (m c : Nat) : Bool := decide (m / 2 ^ c % 2 = 1)
theorem bt_0 (c : Nat) : bt 0 c = false := by simp [bt]
theorem bt_or {m i c : Nat} (hm : m < 128) (hi : i < 7) (hc : c < 7) : bt (m ||| 2 ^ i) c = if c = i then true else bt m c := by
  unfold bt
  rw [na_orbit m hm i hi c hc]
  by_cases e : c = i
  · rw [if_pos e, if_pos e]
    rfl
  · rw [if_neg e, if_neg e]
theorem bt_f {m c : Nat} (h : bt m c = false) : m / 2 ^ c % 2 = 0 := by
  have := of_decide_eq_false h
  have hb : m / 2 ^ c % 2 < 2 := Nat.mod_lt _ (by omega)
  omega
/-- who is next -/
def nxA (B : AM) (m : Nat) : Nat → Option Nat
  | 0 => none
  | j + 1 => if bt m j then nxA B m j else
    match nxA B m j with
    | none => some j
    | some i => if B 5 i ≤ B 5 j then some i else some j
theorem nxA_in {m : Nat} : ∀ j i, nxA B m j = some i → i < j ∧ bt m i = false
  | 0, i, h => by cases h
  | j + 1, i, h => by
    rw [nxA] at h
    by_cases e : bt m j = true
    · rw [if_pos e] at h
      have := nxA_in j i h
      exact ⟨by omega, this.2⟩
    · have e' : bt m j = false := by simpa using e
      rw [if_neg e] at h
      cases q : nxA B m j with
      | none =>
        rw [q] at h
        cases h
        exact ⟨by omega, e'⟩
      | some k =>
        have hk := nxA_in j k q
        rw [q] at h
        dsimp only at h
        split at h
        · cases h
          exact ⟨by omega, hk.2⟩
        · cases h
          exact ⟨by omega, e'⟩
theorem nxA_none {m : Nat} : ∀ j, nxA B m j = none → ∀ i, i < j → bt m i = true
  | 0, _, i, hi => by omega
  | j + 1, h, i, hi => by
    rw [nxA] at h
    by_cases e : bt m j = true
    · rw [if_pos e] at h
      rcases (by omega : i < j ∨ i = j) with z | rfl
      · exact nxA_none j h i z
      · exact e
    · rw [if_neg e] at h
      cases q : nxA B m j with
      | none => rw [q] at h; cases h
      | some k =>
        rw [q] at h
        dsimp only at h
        split at h <;> cases h
def nxe : Option Nat → Int32
  | none => -1
  | some i => nI i
theorem bit0 {m c : Nat} (hm : m < 128) (hc : c < 7) {α : Type} {x y : α} : (if ((nI m >>> (nI c &&& 31)) &&& 1) = 0 then x else y) = if bt m c then y else x := by
  rw [na_bit m hm c hc]
  have hb : m / 2 ^ c % 2 < 2 := Nat.mod_lt _ (by omega)
  unfold bt
  rcases (by omega : m / 2 ^ c % 2 = 0 ∨ m / 2 ^ c % 2 = 1) with e | e
  · rw [e]
    rfl
  · rw [e]
    rfl
theorem X_next (w : WB B) {m : Nat} (hm : m < 128) : f_X1_next (px B h) (nI m) = some (nxe (nxA B m (B 0 0))) := by
  have w1 := w.1
  have hl := lp (r := some (nxe (nxA B m (B 0 0)))) (fun f (s : Int32) i => f_X1_next_L4 (nI m) (px B h) f s i) (B 0 0) (fun j => nxe (nxA B m j)) (fun f => ?_) (fun f j hj => ?_) (B 0 0) 0 6000 (by omega) (by omega)
  · unfold f_X1_next
    have : f_X1_next_L4 (nI m) (px B h) 6000 (-1) 0 = some (nxe (nxA B m (B 0 0))) := hl
    rw [this]
    rfl
  · show f_X1_next_L4 _ _ (f + 1) _ _ = _
    rw [f_X1_next_L4, px_0_0, if_pos (nI_le (Nat.le_refl _) (by omega))]
  · show f_X1_next_L4 _ _ (f + 1) _ _ = f_X1_next_L4 _ _ f _ _
    rw [f_X1_next_L4, px_0_0, if_neg (nI_ge hj (by omega)), bit0 hm (by omega), nxA]
    by_cases e : bt m j = true
    · rw [if_pos e, if_pos e, na_lt, nI_1]
    · rw [if_neg e, if_neg e]
      cases q : nxA B m j with
      | none =>
        rw [if_pos (show nxe none < 0 by decide), na_lt, nI_1]
        rfl
      | some i =>
        have hi := (nxA_in j i q).1
        have b1 := (w.2.2.2.2.2.2.2 i (by omega)).2.2.2.2.1
        have b2 := (w.2.2.2.2.2.2.2 j (by omega)).2.2.2.2.1
        have ee : (nI (B 5 i) ≤ nI (B 5 j)) = (B 5 i ≤ B 5 j) := na_le (by omega) (by omega)
        show (if nI i < 0 then _ else ck (inb (nI j) 7) (ck (inb (nI i) 7) (if px B h 5 (ix (nI i)) ≤ px B h 5 (ix (nI j)) then _ else _))) = _
        rw [if_neg (nn_0 (by omega)), na_inb (by omega) (by omega), na_ck, na_inb (by omega) (by omega), na_ck, na_ix (by omega), na_ix (by omega), px_5 (by omega), px_5 (by omega)]
        dsimp only
        by_cases z : B 5 i ≤ B 5 j
        · rw [if_pos (ee ▸ z), if_pos z, na_lt, nI_1]
        · rw [if_neg (fun y => z (ee ▸ y)), if_neg z, na_lt, nI_1]
          rfl
theorem M_next (w : WB B) {m : Nat} (hm : m < 128) : f_X7_nextPosing (pm B M) (nI m) = some (nxe (nxA B m (B 0 0))) := by
  have w1 := w.1
  have hl := lp (r := some (nxe (nxA B m (B 0 0)))) (fun f (s : Int32) i => f_X7_nextPosing_L4 (nI m) (pm B M) f s i) (B 0 0) (fun j => nxe (nxA B m j)) (fun f => ?_) (fun f j hj => ?_) (B 0 0) 0 6000 (by omega) (by omega)
  · unfold f_X7_nextPosing
    have : f_X7_nextPosing_L4 (nI m) (pm B M) 6000 (-1) 0 = some (nxe (nxA B m (B 0 0))) := hl
    rw [this]
    rfl
  · show f_X7_nextPosing_L4 _ _ (f + 1) _ _ = _
    rw [f_X7_nextPosing_L4, pm_0_0, if_pos (nI_le (Nat.le_refl _) (by omega))]
  · show f_X7_nextPosing_L4 _ _ (f + 1) _ _ = f_X7_nextPosing_L4 _ _ f _ _
    have z1 : ¬ (1 : Int32) = 0 := by decide
    have hb : f_X7_hasBit (nI m) (nI j) = some (if bt m j then 1 else 0) := by
      unfold f_X7_hasBit
      rw [bit1 hm (by omega)]
      unfold bt
      by_cases e : m / 2 ^ j % 2 = 1
      · rw [if_pos e, if_pos (decide_eq_true e)]
      · rw [if_neg e, if_neg (by simpa using e)]
    rw [f_X7_nextPosing_L4, pm_0_0, if_neg (nI_ge hj (by omega)), nxA, hb]
    cases q : nxA B m j with
    | none =>
      rw [if_pos (show nxe none < 0 by decide), Option.bind_some, Option.bind_some]
      by_cases e : bt m j = true
      · rw [if_pos e, if_neg z1, na_lt, nI_1, if_pos e]
      · rw [if_neg e, if_pos rfl, if_neg z1, na_lt, nI_1, if_neg e]
        rfl
    | some i =>
      have hi := (nxA_in j i q).1
      have b1 := (w.2.2.2.2.2.2.2 i (by omega)).2.2.2.2.1
      have b2 := (w.2.2.2.2.2.2.2 j (by omega)).2.2.2.2.1
      have ee : (nI (B 5 i) ≤ nI (B 5 j)) = (B 5 i ≤ B 5 j) := na_le (by omega) (by omega)
      have q0 : (0 : Int32) ≤ nI i := show nI 0 ≤ nI i from nI_le (by omega) (by omega)
      have t1 : (if nxe (some i) < 0 then some (1 : Int32) else ck (inb (nI j) 7) <| lt (if 0 ≤ nxe (some i) then nxe (some i) else 0) fun t12 => ck (inb t12 7) <| if (pm B M 6 (ix t12)) ≤ (pm B M 6 (ix (nI j))) then some 0 else some 1) = some (if B 5 i ≤ B 5 j then 0 else 1) := by
        show (if nI i < 0 then some (1 : Int32) else ck (inb (nI j) 7) <| lt (if 0 ≤ nI i then nI i else 0) fun t12 => ck (inb t12 7) <| if (pm B M 6 (ix t12)) ≤ (pm B M 6 (ix (nI j))) then some 0 else some 1) = _
        rw [if_neg (nn_0 (by omega)), na_inb (by omega) (by omega), na_ck, if_pos q0, na_lt, na_inb (by omega) (by omega), na_ck, na_ix (by omega), na_ix (by omega), pm_6 (by omega), pm_6 (by omega)]
        by_cases z : B 5 i ≤ B 5 j
        · rw [if_pos (ee ▸ z), if_pos z]
        · rw [if_neg (fun y => z (ee ▸ y)), if_neg z]
      rw [t1, Option.bind_some, Option.bind_some]
      by_cases e : bt m j = true
      · rw [if_pos e, if_neg z1, na_lt, nI_1, if_pos e]
      · rw [if_neg e, if_pos rfl, if_neg e]
        dsimp only
        by_cases z : B 5 i ≤ B 5 j
        · rw [if_pos z, if_pos rfl, na_lt, nI_1, if_pos z]
        · rw [if_neg z, if_neg z1, na_lt, nI_1, if_neg z]
          rfl
/-- mask, times and the hour at which the fountain is free -/
def nxi (B : AM) (m : Nat) : Nat := (nxA B m (B 0 0)).getD 0
def fmk (B : AM) : Nat → Nat × (Nat → Nat) × Nat
  | 0 => (0, fun _ => 0, 0)
  | k + 1 => ((fmk B k).1 ||| 2 ^ nxi B (fmk B k).1, (fun c => if c = nxi B (fmk B k).1 then max (B 5 (nxi B (fmk B k).1) + 2) (fmk B k).2.2 else (fmk B k).2.1 c), max (B 5 (nxi B (fmk B k).1) + 2) (fmk B k).2.2 + pos B (nxi B (fmk B k).1))
theorem fmk_s (k : Nat) : (fmk B (k + 1)).1 = (fmk B k).1 ||| 2 ^ nxi B (fmk B k).1 ∧ (∀ c, (fmk B (k + 1)).2.1 c = if c = nxi B (fmk B k).1 then max (B 5 (nxi B (fmk B k).1) + 2) (fmk B k).2.2 else (fmk B k).2.1 c) ∧ (fmk B (k + 1)).2.2 = max (B 5 (nxi B (fmk B k).1) + 2) (fmk B k).2.2 + pos B (nxi B (fmk B k).1) := ⟨rfl, fun _ => rfl, rfl⟩
def fmI (B : AM) (k : Nat) : Prop := (fmk B k).1 < 128 ∧ fb_ct (bt (fmk B k).1) (B 0 0) = k ∧ (fmk B k).2.2 ≤ 1001 + 12 * k ∧ ∀ c, c < B 0 0 → bt (fmk B k).1 c = true → B 5 c + 2 ≤ (fmk B k).2.1 c ∧ (fmk B k).2.1 c ≤ 1001 + 12 * k
theorem fmI_nx {k : Nat} (hI : fmI B k) (hk : k < B 0 0) : nxA B (fmk B k).1 (B 0 0) = some (nxi B (fmk B k).1) ∧ nxi B (fmk B k).1 < B 0 0 ∧ bt (fmk B k).1 (nxi B (fmk B k).1) = false := by
  cases q : nxA B (fmk B k).1 (B 0 0) with
  | none =>
    have := fb_ct_all.mpr (nxA_none _ q)
    have := hI.2.1
    omega
  | some i =>
    have := nxA_in _ i q
    have e : nxi B (fmk B k).1 = i := by unfold nxi; rw [q]; rfl
    rw [e]
    exact ⟨rfl, this⟩
theorem pos_le (w : WB B) {c : Nat} (hc : c < 7) : pos B c ≤ 12 := (poses_le (k := B 1 c) (w.2.2.2.2.2.2.2 c hc).2.1).1
theorem fmI_all (w : WB B) : ∀ k, k ≤ B 0 0 → fmI B k
  | 0, _ => ⟨by show 0 < 128; omega, fb_ct_zero.mpr (fun c hc => bt_0 c), by show 0 ≤ _; omega, fun c hc hb => by
    have : bt 0 c = true := hb
    rw [bt_0] at this
    cases this⟩
  | k + 1, hk => by
    have hI := fmI_all w k (by omega)
    obtain ⟨n1, n2, n3⟩ := fmI_nx hI (by omega)
    obtain ⟨i1, i2, i3, i4⟩ := hI
    obtain ⟨s1, s2, s3⟩ := fmk_s (B := B) k
    have w1 := w.1
    have b5 := (w.2.2.2.2.2.2.2 (nxi B (fmk B k).1) (by omega)).2.2.2.2.1
    have bp := pos_le w (c := nxi B (fmk B k).1) (by omega)
    have bo : ∀ c, c < 7 → bt (fmk B (k + 1)).1 c = if c = nxi B (fmk B k).1 then true else bt (fmk B k).1 c := fun c hc => by rw [s1]; exact bt_or i1 (by omega) hc
    refine ⟨by rw [s1]; exact na_orlt _ i1 _ (by omega), ?_, by rw [s3]; omega, fun c hc hb => ?_⟩
    · rw [fb_ct_cong (q := fun c => if c = nxi B (fmk B k).1 then true else bt (fmk B k).1 c) (fun c hc => bo c (by omega))]
      have := fb_ct_upd (bt (fmk B k).1) true n2
      rw [n3, i2] at this
      simpa using this
    · rw [s2]
      rw [bo c (by omega)] at hb
      by_cases e : c = nxi B (fmk B k).1
      · rw [if_pos e, e]
        omega
      · rw [if_neg e] at hb ⊢
        have := i4 c hc hb
        omega
theorem fmk_all (w : WB B) {c : Nat} (hc : c < B 0 0) : bt (fmk B (B 0 0)).1 c = true := by
  have := (fmI_all w (B 0 0) (Nat.le_refl _)).2.1
  exact fb_ct_all.mp this c hc
/-- what one waits -/
def wts (B : AM) (k c : Nat) : Nat := (fmk B k).2.1 c - (B 5 c + 2)
/-- the longest wait so far -/
def lwo (B : AM) (k : Nat) (v o : Int32) : Prop := (k = 0 ∧ v = -1 ∧ o = -9) ∨ ∃ b, b < B 0 0 ∧ bt (fmk B k).1 b = true ∧ v = nI (wts B k b) ∧ o = nI b ∧ ∀ c, c < B 0 0 → bt (fmk B k).1 c = true → wts B k c ≤ wts B k b ∧ (wts B k c = wts B k b → b ≤ c)
theorem X_take (w : WB B) : ∃ t, f_X1_take m16 (px B h) = some t ∧ (∀ c, c < B 0 0 → t 1 c = nI ((fmk B (B 0 0)).2.1 c)) ∧ t 0 2 = nI (fmk B (B 0 0)).2.2 ∧ ∃ v, lwo B (B 0 0) v (t 0 1) := by
  have w1 := w.1
  have := lpi (fun f (s : Int32 × Int32 × Mem) i => f_X1_take_L18 (px B h) f s.1 s.2.1 i s.2.2) (B 0 0) (fun k s => ∃ v X, s = (nI (fmk B k).1, v, X) ∧ lwo B k v (X 0 1) ∧ X 0 2 = nI (fmk B k).2.2 ∧ ∀ c, c < B 0 0 → bt (fmk B k).1 c = true → X 1 c = nI ((fmk B k).2.1 c)) (fun t => (∀ c, c < B 0 0 → t 1 c = nI ((fmk B (B 0 0)).2.1 c)) ∧ t 0 2 = nI (fmk B (B 0 0)).2.2 ∧ ∃ v, lwo B (B 0 0) v (t 0 1)) (fun f s hs => ?_) (fun f k s hk hs => ?_) (B 0 0) 0 6000 (0, -1, xs (xs m16 0 1 (-9)) 0 2 0) (by omega) (by omega) ⟨-1, _, rfl, Or.inl ⟨rfl, rfl, by simp [xs]⟩, by simp [xs]; rfl, fun c hc hb => by
    have : bt 0 c = true := hb
    rw [bt_0] at this
    cases this⟩
  · obtain ⟨t, g1, g2, g3, g4⟩ := this
    refine ⟨t, ?_, g2, g3, g4⟩
    unfold f_X1_take
    rw [na_lt, na_lt]
    exact g1
  · obtain ⟨v, X, rfl, x1, x2, x3⟩ := hs
    refine ⟨X, ?_, fun c hc => x3 c hc (fmk_all w hc), x2, v, x1⟩
    show f_X1_take_L18 _ (f + 1) _ _ _ _ = _
    dsimp only
    rw [f_X1_take_L18, px_0_0, if_pos (nI_le (Nat.le_refl _) (by omega))]
  · obtain ⟨v, X, rfl, x1, x2, x3⟩ := hs
    have hI := fmI_all w k (by omega)
    have hI2 := fmI_all w (k + 1) (by omega)
    obtain ⟨n1, n2, n3⟩ := fmI_nx hI hk
    obtain ⟨s1, s2, s3⟩ := fmk_s (B := B) k
    generalize hi : nxi B (fmk B k).1 = i at *
    have bi := w.2.2.2.2.2.2.2 i (by omega)
    have bo : ∀ c, c < 7 → bt (fmk B (k + 1)).1 c = if c = i then true else bt (fmk B k).1 c := fun c hc => by rw [s1]; exact bt_or hI.1 (by omega) hc
    have wo : ∀ c, c ≠ i → wts B (k + 1) c = wts B k c := fun c hc => by unfold wts; rw [s2, if_neg hc]
    have ti : (fmk B (k + 1)).2.1 i = max (B 5 i + 2) (fmk B k).2.2 := by rw [s2, if_pos rfl]
    have hfr := hI.2.2.1
    have i7 : inb (nI i) 7 = true := na_inb (by omega) (by omega)
    have x7 : ix (nI i) = i := na_ix (by omega)
    have q0 : (0 : Int32) ≤ nxe (some i) := show nI 0 ≤ nI i from nI_le (by omega) (by omega)
    have ne : nxe (some i) = nI i := rfl
    have e2 : nI (B 5 i) + 2 = nI (B 5 i + 2) := nI_add _ 2
    have mx : imax (nI (B 5 i + 2)) (nI (fmk B k).2.2) = nI ((fmk B (k + 1)).2.1 i) := by rw [na_max (by omega) (by omega), ti]
    have pp : f_X3_poses (px B h 1 i) (px B h 2 i) = some (nI (pos B i)) := by rw [px_1 (by omega), px_2 (by omega)]; exact X_poses bi.1 bi.2.1
    let X1 : Mem := xs X 1 i (nI ((fmk B (k + 1)).2.1 i))
    let X2 : Mem := xs X1 0 2 (nI (fmk B (k + 1)).2.2)
    have x1i : X1 1 i = nI ((fmk B (k + 1)).2.1 i) := by simp [X1, xs]
    have x2i : X2 1 i = nI ((fmk B (k + 1)).2.1 i) := by simp [X2, X1, xs]
    have x21 : X2 0 1 = X 0 1 := by simp [X2, X1, xs]
    have x22 : X2 0 2 = nI (fmk B (k + 1)).2.2 := by simp [X2, xs]
    have x23 : ∀ c, c < B 0 0 → bt (fmk B (k + 1)).1 c = true → X2 1 c = nI ((fmk B (k + 1)).2.1 c) := fun c hc hb => by
      rw [bo c (by omega)] at hb
      by_cases e : c = i
      · rw [e]; exact x2i
      · rw [if_neg e] at hb
        have : X2 1 c = X 1 c := by simp [X2, X1, xs, e]
        rw [this, x3 c hc hb, s2, if_neg e]
    have nfr : nI ((fmk B (k + 1)).2.1 i) + nI (pos B i) = nI (fmk B (k + 1)).2.2 := by rw [nI_add, ti, s3]
    have wi : nI ((fmk B (k + 1)).2.1 i) - nI (B 5 i + 2) = nI (wts B (k + 1) i) := pk_sub (by rw [ti]; omega)
    have wil : wts B (k + 1) i ≤ 2000 := by unfold wts; rw [ti]; omega
    have head : f_X1_take_L18 (px B h) (f + 1) (nI (fmk B k).1) v (nI k) X = if v < nI (wts B (k + 1) i) then lt (xs X2 0 1 (nI i)) fun w14 => lt (nI k + 1) fun v15 => f_X1_take_L18 (px B h) f (nI (fmk B (k + 1)).1) (nI (wts B (k + 1) i)) v15 w14 else if nI (wts B (k + 1) i) = v then if X2 0 1 ≤ nI i then lt (nI k + 1) fun v17 => f_X1_take_L18 (px B h) f (nI (fmk B (k + 1)).1) v v17 X2 else lt (xs X2 0 1 (nI i)) fun w18 => lt (nI k + 1) fun v19 => f_X1_take_L18 (px B h) f (nI (fmk B (k + 1)).1) (nI (wts B (k + 1) i)) v19 w18 else lt (nI k + 1) fun v16 => f_X1_take_L18 (px B h) f (nI (fmk B (k + 1)).1) v v16 X2 := by
      rw [f_X1_take_L18, px_0_0, if_neg (nI_ge hk (by omega)), X_next w hI.1, Option.bind_some, n1, if_pos q0, ne, na_or _ hI.1 _ (by omega), ← s1, na_lt, i7, na_ck, x7, px_5 (by omega), e2, na_lt, na_ck, x2, mx, na_lt]
      show ck true (ck true (ck true ((f_X3_poses (px B h 1 i) (px B h 2 i)).bind fun t11 => lt (xs X1 0 2 (X1 1 i + t11)) fun w12 => ck true _))) = _
      rw [na_ck, na_ck, na_ck, pp, Option.bind_some, x1i, nfr, na_lt, na_ck]
      show lt (X2 1 i - nI (B 5 i + 2)) _ = _
      rw [x2i, wi, na_lt]
    have fin : ∀ (V : Int32) (X' : Mem), X' 0 2 = X2 0 2 → (∀ c, X' 1 c = X2 1 c) → lwo B (k + 1) V (X' 0 1) → ∃ (v : Int32) (X_1 : Mem), (nI (fmk B (k + 1)).1, V, X') = (nI (fmk B (k + 1)).1, v, X_1) ∧ lwo B (k + 1) v (X_1 0 1) ∧ X_1 0 2 = nI (fmk B (k + 1)).2.2 ∧ ∀ c, c < B 0 0 → bt (fmk B (k + 1)).1 c = true → X_1 1 c = nI ((fmk B (k + 1)).2.1 c) := fun V X' y1 y2 y3 => ⟨V, X', rfl, y3, by rw [y1, x22], fun c hc hb => by rw [y2]; exact x23 c hc hb⟩
    have bi2 : bt (fmk B (k + 1)).1 i = true := by rw [bo i (by omega), if_pos rfl]
    have y01 : (xs X2 0 1 (nI i)) 0 1 = nI i := by simp [xs]
    have y02 : (xs X2 0 1 (nI i)) 0 2 = X2 0 2 := by simp [xs]
    have y1c : ∀ c, (xs X2 0 1 (nI i)) 1 c = X2 1 c := fun c => by simp [xs]
    rcases x1 with ⟨rfl, rfl, xo⟩ | ⟨b, b1, b2, rfl, xo, b4⟩
    · have l : (-1 : Int32) < nI (wts B (0 + 1) i) := by
        rw [fa_lt, nI_toInt (by omega)]
        have : (-1 : Int32).toInt = -1 := by decide
        omega
      refine ⟨(nI (fmk B (0 + 1)).1, nI (wts B (0 + 1) i), xs X2 0 1 (nI i)), fin _ _ y02 y1c (Or.inr ⟨i, n2, bi2, rfl, y01, fun c hc hb => ?_⟩), ?_⟩
      · rw [bo c (by omega)] at hb
        by_cases e : c = i
        · subst e
          exact ⟨Nat.le_refl _, fun _ => Nat.le_refl _⟩
        · rw [if_neg e] at hb
          have : bt 0 c = true := hb
          rw [bt_0] at this
          cases this
      · show f_X1_take_L18 _ (f + 1) _ _ _ _ = f_X1_take_L18 _ f _ _ _ _
        dsimp only
        rw [head, if_pos l, na_lt, na_lt, nI_1]
    · have hbi : b ≠ i := fun e => by
        rw [e, n3] at b2
        cases b2
      have wb : wts B (k + 1) b = wts B k b := wo b hbi
      have wbl : wts B k b ≤ 2000 := by
        have := (hI.2.2.2 b b1 b2).2
        unfold wts
        omega
      have e1 : (nI (wts B k b) < nI (wts B (k + 1) i)) = (wts B k b < wts B (k + 1) i) := na_ltI (by omega) (by omega)
      have e2 : (nI (wts B (k + 1) i) = nI (wts B k b)) = (wts B (k + 1) i = wts B k b) := na_eq (by omega) (by omega)
      have e3 : (nI b ≤ nI i) = (b ≤ i) := na_le (by omega) (by omega)
      have bb2 : bt (fmk B (k + 1)).1 b = true := by rw [bo b (by omega), if_neg hbi]; exact b2
      by_cases z1 : wts B k b < wts B (k + 1) i
      · refine ⟨(nI (fmk B (k + 1)).1, nI (wts B (k + 1) i), xs X2 0 1 (nI i)), fin _ _ y02 y1c (Or.inr ⟨i, n2, bi2, rfl, y01, fun c hc hb => ?_⟩), ?_⟩
        · rw [bo c (by omega)] at hb
          by_cases e : c = i
          · subst e
            exact ⟨Nat.le_refl _, fun _ => Nat.le_refl _⟩
          · rw [if_neg e] at hb
            have := b4 c hc hb
            rw [wo c e]
            omega
        · show f_X1_take_L18 _ (f + 1) _ _ _ _ = f_X1_take_L18 _ f _ _ _ _
          dsimp only
          rw [head, if_pos (e1 ▸ z1), na_lt, na_lt, nI_1]
      · by_cases z2 : wts B (k + 1) i = wts B k b
        · by_cases z3 : b ≤ i
          · refine ⟨(nI (fmk B (k + 1)).1, nI (wts B k b), X2), fin _ _ rfl (fun _ => rfl) (Or.inr ⟨b, b1, bb2, by rw [wb], by rw [x21]; exact xo, fun c hc hb => ?_⟩), ?_⟩
            · rw [bo c (by omega)] at hb
              by_cases e : c = i
              · rw [e, wb, z2]
                exact ⟨Nat.le_refl _, fun _ => z3⟩
              · rw [if_neg e] at hb
                rw [wo c e, wb]
                exact b4 c hc hb
            · show f_X1_take_L18 _ (f + 1) _ _ _ _ = f_X1_take_L18 _ f _ _ _ _
              dsimp only
              rw [head, if_neg (fun y => z1 (e1 ▸ y)), if_pos (e2 ▸ z2), x21, xo, if_pos (e3 ▸ z3), na_lt, nI_1]
          · refine ⟨(nI (fmk B (k + 1)).1, nI (wts B (k + 1) i), xs X2 0 1 (nI i)), fin _ _ y02 y1c (Or.inr ⟨i, n2, bi2, rfl, y01, fun c hc hb => ?_⟩), ?_⟩
            · rw [bo c (by omega)] at hb
              by_cases e : c = i
              · subst e
                exact ⟨Nat.le_refl _, fun _ => Nat.le_refl _⟩
              · rw [if_neg e] at hb
                have := b4 c hc hb
                rw [wo c e, z2]
                exact ⟨this.1, fun y => by have := this.2 y; omega⟩
            · show f_X1_take_L18 _ (f + 1) _ _ _ _ = f_X1_take_L18 _ f _ _ _ _
              dsimp only
              rw [head, if_neg (fun y => z1 (e1 ▸ y)), if_pos (e2 ▸ z2), x21, xo, if_neg (fun y => z3 (e3 ▸ y)), na_lt, na_lt, nI_1]
        · refine ⟨(nI (fmk B (k + 1)).1, nI (wts B k b), X2), fin _ _ rfl (fun _ => rfl) (Or.inr ⟨b, b1, bb2, by rw [wb], by rw [x21]; exact xo, fun c hc hb => ?_⟩), ?_⟩
          · rw [bo c (by omega)] at hb
            by_cases e : c = i
            · rw [e, wb]
              exact ⟨by omega, fun y => absurd y z2⟩
            · rw [if_neg e] at hb
              rw [wo c e, wb]
              exact b4 c hc hb
          · show f_X1_take_L18 _ (f + 1) _ _ _ _ = f_X1_take_L18 _ f _ _ _ _
            dsimp only
            rw [head, if_neg (fun y => z1 (e1 ▸ y)), if_neg (fun y => z2 (e2 ▸ y)), na_lt, nI_1]
theorem M_pose (w : WB B) {W : Mem} : ∃ W', f_X7_pose (pm B W) = some (nI (fmk B (B 0 0)).2.2, pm B W') ∧ KE W W' ∧ (∀ p j, p ≠ 20 → W' p j = W p j) ∧ ∀ c, c < B 0 0 → W' 20 c = nI ((fmk B (B 0 0)).2.1 c) := by
  have w1 := w.1
  have := lpi (fun f (s : Int32 × Int32 × Mem) i => f_X7_pose_L6 f s.1 s.2.1 i s.2.2) (B 0 0) (fun k s => ∃ X, s = (nI (fmk B k).2.2, nI (fmk B k).1, pm B X) ∧ KE W X ∧ (∀ p j, p ≠ 20 → X p j = W p j) ∧ ∀ c, c < B 0 0 → bt (fmk B k).1 c = true → X 20 c = nI ((fmk B k).2.1 c)) (fun t => ∃ W', t = (nI (fmk B (B 0 0)).2.2, pm B W') ∧ KE W W' ∧ (∀ p j, p ≠ 20 → W' p j = W p j) ∧ ∀ c, c < B 0 0 → W' 20 c = nI ((fmk B (B 0 0)).2.1 c)) (fun f s hs => ?_) (fun f k s hk hs => ?_) (B 0 0) 0 6000 (0, 0, pm B W) (by omega) (by omega) ⟨W, rfl, KE.rf, fun _ _ _ => rfl, fun c hc hb => by
    have : bt 0 c = true := hb
    rw [bt_0] at this
    cases this⟩
  · obtain ⟨t, g1, W', rfl, g2, g3, g4⟩ := this
    refine ⟨W', ?_, g2, g3, g4⟩
    have g1' : f_X7_pose_L6 6000 0 0 0 (pm B W) = some (nI (fmk B (B 0 0)).2.2, pm B W') := g1
    unfold f_X7_pose
    rw [g1', Option.bind_some]
  · obtain ⟨X, rfl, x1, x2, x3⟩ := hs
    refine ⟨_, ?_, X, rfl, x1, x2, fun c hc => x3 c hc (fmk_all w hc)⟩
    show f_X7_pose_L6 (f + 1) _ _ _ _ = _
    dsimp only
    rw [f_X7_pose_L6, pm_0_0, if_pos (nI_le (Nat.le_refl _) (by omega))]
  · obtain ⟨X, rfl, x1, x2, x3⟩ := hs
    have hI := fmI_all w k (by omega)
    obtain ⟨n1, n2, n3⟩ := fmI_nx hI hk
    obtain ⟨s1, s2, s3⟩ := fmk_s (B := B) k
    generalize hi : nxi B (fmk B k).1 = i at *
    have bi := w.2.2.2.2.2.2.2 i (by omega)
    have hfr := hI.2.2.1
    have i7 : inb (nI i) 7 = true := na_inb (by omega) (by omega)
    have x7 : ix (nI i) = i := na_ix (by omega)
    have ne : nxe (some i) = nI i := rfl
    have e2 : nI (B 5 i) + 2 = nI (B 5 i + 2) := nI_add _ 2
    have ti : (fmk B (k + 1)).2.1 i = max (B 5 i + 2) (fmk B k).2.2 := by rw [s2, if_pos rfl]
    have mx : f_X7_most (nI (fmk B k).2.2) (nI (B 5 i + 2)) = some (nI ((fmk B (k + 1)).2.1 i)) := by rw [na_most (by omega) (by omega), ti, Nat.max_comm]
    have xw : xs (pm B X) 20 i (nI ((fmk B (k + 1)).2.1 i)) = pm B (xs X 20 i (nI ((fmk B (k + 1)).2.1 i))) := pm_off (by omega)
    have xr : xs X 20 i (nI ((fmk B (k + 1)).2.1 i)) 20 i = nI ((fmk B (k + 1)).2.1 i) := by simp [xs]
    have nfr : nI ((fmk B (k + 1)).2.1 i) + nI (pos B i) = nI (fmk B (k + 1)).2.2 := by rw [nI_add, ti, s3]
    refine ⟨(nI (fmk B (k + 1)).2.2, nI (fmk B (k + 1)).1, pm B (xs X 20 i (nI ((fmk B (k + 1)).2.1 i)))), ⟨_, rfl, x1.trans (ke_xs (by unfold scr; omega)), fun p j hp => by simp only [xs]; rw [if_neg (fun z => hp z.1)]; exact x2 p j hp, fun c hc hb => ?_⟩, ?_⟩
    · rw [s1, bt_or hI.1 (by omega) (by omega)] at hb
      by_cases e : c = i
      · subst e
        exact xr
      · rw [if_neg e] at hb
        have : xs X 20 i (nI ((fmk B (k + 1)).2.1 i)) 20 c = X 20 c := by simp [xs, e]
        rw [this, x3 c hc hb, s2, if_neg e]
    · show f_X7_pose_L6 (f + 1) _ _ _ _ = f_X7_pose_L6 f _ _ _ _
      dsimp only
      rw [f_X7_pose_L6, pm_0_0, if_neg (nI_ge hk (by omega)), M_next w hI.1, Option.bind_some, n1, ne, na_or _ hI.1 _ (by omega), ← s1, na_lt, i7, na_ck, x7, pm_6 (by omega), e2, mx, Option.bind_some, na_ck, xw, na_lt, na_ck, M_posesOf w (by omega), Option.bind_some, pm_20, xr, nfr, na_lt, na_lt, nI_1]
/-- the first of those who wait longest -/
def fwo (W : Nat → Nat) (j : Nat) (o v : Int32) : Prop := (j = 0 ∧ o = -9 ∧ v = -1) ∨ ∃ b, b < j ∧ o = nI b ∧ v = nI (W b) ∧ ∀ c, c < j → W c ≤ W b ∧ (W c = W b → b ≤ c)
theorem M_fount44 {r : Int32} {t : Mem} {n : Nat} {E T : Nat → Nat} (hn : n ≤ 7) (t0 : t 0 0 = nI n) (h20 : ∀ c, c < n → t 20 c = nI (T c)) (h6 : ∀ c, c < n → t 6 c = nI (E c)) (hE : ∀ c, c < n → E c + 2 ≤ T c ∧ T c ≤ 2000) : ∃ o, f_X7_fountains_L44 (r, t) 6000 (-9) (-1) 0 = some o ∧ ∃ v, fwo (fun c => T c - (E c + 2)) n o v := by
  have := lpi (fun f (s : Int32 × Int32) i => f_X7_fountains_L44 (r, t) f s.1 s.2 i) n (fun j s => fwo (fun c => T c - (E c + 2)) j s.1 s.2) (fun o => ∃ v, fwo (fun c => T c - (E c + 2)) n o v) (fun f s hs => ?_) (fun f j s hj hs => ?_) n 0 6000 (-9, -1) (by omega) (by omega) (Or.inl ⟨rfl, rfl, rfl⟩)
  · exact this
  · refine ⟨s.1, ?_, s.2, hs⟩
    show f_X7_fountains_L44 _ (f + 1) _ _ _ = _
    rw [f_X7_fountains_L44]
    show (if t 0 0 ≤ nI n then _ else _) = _
    rw [t0, if_pos (nI_le (Nat.le_refl _) (by omega))]
  · obtain ⟨o, v⟩ := s
    obtain ⟨l1, l2⟩ := hE j hj
    have q1 : nI (T j) - nI (E j) - 2 = nI (T j - (E j + 2)) := by
      rw [show (2 : Int32) = nI 2 from rfl, pk_sub (by omega), pk_sub (by omega), Nat.sub_sub]
    have head : f_X7_fountains_L44 (r, t) (f + 1) o v (nI j) = f_X7_fountains_L44 (r, t) f (if nI (T j - (E j + 2)) ≤ v then o else nI j) (imax v (nI (T j - (E j + 2)))) (nI (j + 1)) := by
      rw [f_X7_fountains_L44]
      show (if t 0 0 ≤ nI j then _ else ck (inb (nI j) 7) <| ck (inb (nI j) 7) <| lt (t 20 (ix (nI j)) - t 6 (ix (nI j)) - 2) _) = _
      rw [t0, if_neg (nI_ge hj (by omega)), na_inb (by omega) (by omega), na_ck, na_ck, na_ix (by omega), h20 j hj, h6 j hj, q1, na_lt, na_lt, na_mostI, Option.bind_some, na_lt, nI_1]
    have hs' : fwo (fun c => T c - (E c + 2)) j o v := hs
    rcases hs' with ⟨rfl, rfl, rfl⟩ | ⟨b, b1, rfl, rfl, b4⟩
    · have l : (-1 : Int32) < nI (T 0 - (E 0 + 2)) := by
        rw [fa_lt, nI_toInt (by omega)]
        have : (-1 : Int32).toInt = -1 := by decide
        omega
      have l' : ¬ nI (T 0 - (E 0 + 2)) ≤ (-1 : Int32) := by
        rw [fa_le]
        rw [fa_lt] at l
        omega
      refine ⟨(nI 0, nI (T 0 - (E 0 + 2))), Or.inr ⟨0, by omega, rfl, rfl, fun c hc => ?_⟩, ?_⟩
      · have : c = 0 := by omega
        subst this
        exact ⟨Nat.le_refl _, fun _ => Nat.le_refl _⟩
      · show f_X7_fountains_L44 _ (f + 1) _ _ _ = f_X7_fountains_L44 _ f _ _ _
        rw [head, if_neg l']
        unfold imax
        rw [if_pos l]
    · obtain ⟨m1, m2⟩ := hE b (by omega)
      have e1 : (nI (T j - (E j + 2)) ≤ nI (T b - (E b + 2))) = (T j - (E j + 2) ≤ T b - (E b + 2)) := na_le (by omega) (by omega)
      have e2 : imax (nI (T b - (E b + 2))) (nI (T j - (E j + 2))) = nI (max (T b - (E b + 2)) (T j - (E j + 2))) := na_max (by omega) (by omega)
      by_cases z : T j - (E j + 2) ≤ T b - (E b + 2)
      · refine ⟨(nI b, nI (T b - (E b + 2))), Or.inr ⟨b, by omega, rfl, rfl, fun c hc => ?_⟩, ?_⟩
        · rcases (by omega : c < j ∨ c = j) with y | rfl
          · exact b4 c y
          · exact ⟨z, fun _ => by omega⟩
        · show f_X7_fountains_L44 _ (f + 1) _ _ _ = f_X7_fountains_L44 _ f _ _ _
          rw [head, if_pos (e1 ▸ z), e2, Nat.max_eq_left z]
      · refine ⟨(nI j, nI (T j - (E j + 2))), Or.inr ⟨j, by omega, rfl, rfl, fun c hc => ?_⟩, ?_⟩
        · rcases (by omega : c < j ∨ c = j) with y | rfl
          · have := (b4 c y).1
            dsimp only at this ⊢
            omega
          · exact ⟨Nat.le_refl _, fun _ => Nat.le_refl _⟩
        · show f_X7_fountains_L44 _ (f + 1) _ _ _ = f_X7_fountains_L44 _ f _ _ _
          rw [head, if_neg (fun y => z (e1 ▸ y)), e2, Nat.max_eq_right (by omega)]
theorem wo_one (w : WB B) {v o v' o' : Int32} (h1 : lwo B (B 0 0) v o) (h2 : fwo (wts B (B 0 0)) (B 0 0) o' v') : o = o' := by
  rcases h1 with ⟨n, -, rfl⟩ | ⟨b, b1, b2, -, rfl, b4⟩
  · rcases h2 with ⟨-, rfl, -⟩ | ⟨b, b1, -⟩
    · rfl
    · omega
  · rcases h2 with ⟨n, -⟩ | ⟨d, d1, rfl, -, d4⟩
    · omega
    · have p1 := b4 d d1 (fmk_all w d1)
      have p2 := d4 b b1
      have e : wts B (B 0 0) d = wts B (B 0 0) b := by omega
      have q1 := p1.2 e
      have q2 := p2.2 e.symm
      rw [show b = d by omega]
theorem ag_20 {W : Mem} {j : Nat} : ag A W 20 j = W 20 j := stt_off (by omega) (by simp [ci]) (by omega)
theorem M_poseAll (w : WB A) (hK : KP A M) : ∃ W, f_X7_pose (pm (wal A) M) = some (nI (fmk (wal A) (A 0 0)).2.2, pm (wal A) W) ∧ KP A W ∧ KE M W ∧ ∀ c, c < A 0 0 → W 20 c = nI ((fmk (wal A) (A 0 0)).2.1 c) := by
  obtain ⟨W, g1, g2, g3, g4⟩ := M_pose (W := M) (WB_wal w)
  rw [wal_00] at g1 g4
  exact ⟨W, g1, fun k hk h6 => by rw [g3 15 k (by omega)]; exact hK k hk h6, g2, g4⟩
theorem op_fountain (R : RR A m0 (px A h1) m3 m4 ks m13 (pm A M)) (m2 m16 : Mem) (a : Int32) : ∃ r m0' m2' m16' M', f_X6_fountain m0 (px A h1) m2 m16 a = some (r, m0', m2', m16') ∧ f_X7_fountain (pm A M) a = some (r, M') ∧ RR A m0' (px A h1) m3 m4 ks m13 M' := by
  have wf := R.1
  have wb := wf.1
  have w1 := wb.1
  have z1 : ¬ (1 : Int32) = 0 := by decide
  rcases na_cs a (n := A 0 0) (by omega) with ho | ⟨c, hc, rfl⟩
  · exact ⟨-1, rf m0 2 1, m2, m16, pm A (rf (M14 M) 10 1), by simp only [f_X6_fountain, X_has_out ho, Option.bind_some, if_true, X_ref1], by simp only [f_X7_fountain, na_lt, M_t14, M_has_out wb ho, Option.bind_some, if_true, M_ref1], R.rk ke14 (by omega)⟩
  · obtain ⟨t, t1, t2, -, -⟩ := X_take (m16 := m16) (h := m2) (WB_wal wb)
    obtain ⟨W, g1, g2, g3, g4⟩ := M_poseAll wb (kp_tk (A := A) (M := M14 M))
    rw [wal_00] at t2
    refine ⟨nI ((fmk (wal A) (A 0 0)).2.1 c), m0, px (wal A) m2, t, pm A (ag A W), ?_, ?_, R.kp (ke14.trans (ke_tk.trans (g3.trans ke_ag)))⟩
    · unfold f_X6_fountain
      rw [X_has_in wb hc, Option.bind_some, if_neg z1, X_inMind wb, Option.bind_some, t1, Option.bind_some, na_inb (by omega) (by omega), na_ck, na_ix (by omega), t2 c hc]
    · unfold f_X7_fountain
      rw [na_lt, M_t14, M_has_in wb hc, Option.bind_some, if_neg z1, M_think, Option.bind_some, M_wedAll wb, Option.bind_some, g1, Option.bind_some, M_again g2, Option.bind_some, na_inb (by omega) (by omega), na_ck, na_ix (by omega), pm_20, ag_20, g4 c hc]
theorem op_fountains (R : RR A m0 (px A h1) m3 m4 ks m13 (pm A M)) (m2 m16 : Mem) (a : Int32) : ∃ r m0' m2' m16' M', f_X6_fountains m0 (px A h1) m2 m16 a = some (r, m0', m2', m16') ∧ f_X7_fountains (pm A M) a = some (r, M') ∧ RR A m0' (px A h1) m3 m4 ks m13 M' := by
  have wf := R.1
  have wb := wf.1
  have w1 := wb.1
  have z1 : ¬ (1 : Int32) = 0 := by decide
  rcases na_cs a (n := 2) (by omega) with ho | ⟨k, hk, rfl⟩
  · have d0 : ¬ a = 0 := out_ne ho (j := 0) (by omega) (by omega)
    have d1 : ¬ a = 1 := out_ne ho (j := 1) (by omega) (by omega)
    have hi : f_X7_in a.toInt64 0 1 = some 0 := out_iK (k := 1) ho rfl (by omega)
    exact ⟨-2, rf m0 2 2, m2, m16, pm A (rf (M14 M) 10 2), by simp only [f_X6_fountains, d0, d1, if_false, X_ref2, Option.bind_some], by simp only [f_X7_fountains, na_lt, M_t14, hi, Option.bind_some, if_true, M_ref2], R.rk ke14 (by omega)⟩
  · have hi : f_X7_in (nI k).toInt64 0 1 = some 1 := in_iK (k := 1) (by omega) (by omega)
    have wbl := WB_wal wb
    have fI := fmI_all wbl (A 0 0) (by rw [wal_00]; exact Nat.le_refl _)
    obtain ⟨t, t1, t2, t3, v, t4⟩ := X_take (m16 := m16) (h := m2) wbl
    obtain ⟨W, g1, g2, g3, g4⟩ := M_poseAll wb (kp_tk (A := A) (M := M14 M))
    obtain ⟨o, o1, v', o2⟩ := M_fount44 (r := nI (fmk (wal A) (A 0 0)).2.2) (t := pm (wal A) W) (n := A 0 0) (T := (fmk (wal A) (A 0 0)).2.1) (E := fun c => wal A 5 c) w1 (by rw [pm_0_0, wal_00]) (fun c hc => by rw [pm_20]; exact g4 c hc) (fun c hc => pm_6 (by omega)) (fun c hc => by
      have al := fmk_all wbl (c := c) (by rw [wal_00]; exact hc)
      rw [wal_00] at al
      have := fI.2.2.2 c (by rw [wal_00]; exact hc) al
      omega)
    have eo : t 0 1 = o := by
      refine wo_one wbl (v := v) (v' := v') t4 ?_
      rw [wal_00]
      exact o2
    rw [wal_00] at t3
    have xj : f_X6_fountains_J16 m0 (px A h1) m2 m16 (nI k) = some (if nI k = 0 then o else nI (fmk (wal A) (A 0 0)).2.2, m0, px (wal A) m2, t) := by
      unfold f_X6_fountains_J16
      rw [X_inMind wb, Option.bind_some, t1, Option.bind_some, eo, t3]
      split <;> rfl
    refine ⟨if nI k = 0 then o else nI (fmk (wal A) (A 0 0)).2.2, m0, px (wal A) m2, t, pm A (ag A W), ?_, ?_, R.kp (ke14.trans (ke_tk.trans (g3.trans ke_ag)))⟩
    · unfold f_X6_fountains
      rw [xj]
      rcases (by omega : k = 0 ∨ k = 1) with rfl | rfl
      · rw [if_pos (show nI 0 = (0 : Int32) from rfl)]
      · rw [if_neg (show ¬ nI 1 = (0 : Int32) by decide), if_pos (show nI 1 = (1 : Int32) from rfl)]
    · unfold f_X7_fountains
      rw [na_lt, M_t14, hi, Option.bind_some, if_neg z1, M_think, Option.bind_some, M_wedAll wb, Option.bind_some, g1, Option.bind_some, na_lt, o1, Option.bind_some, M_again g2, Option.bind_some]
      split <;> rfl
end OPS15
