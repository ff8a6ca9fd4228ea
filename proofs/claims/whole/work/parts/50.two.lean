/-! TWO who ask to go first -/
section OPS12
variable {A B C : AM} {m0 h1 h m2 m3 m4 m13 M : Mem} {ks : List Mem}
theorem plc_lt (w : WF A) {c : Nat} (hc : c < A 0 0) (hb : uw A c) : plc A c < A 0 8 := (plc_in w hc hb).1
/-- first those who ask -/
def pff (A : AM) (c : Nat) : AM := pfA A (plc A c) c
theorem pff_WF (w : WF A) {c : Nat} (hc : c < A 0 0) (hb : uw A c) : WF (pff A c) := by
  obtain ⟨p1, p2, p3, p4⟩ := plc_in w hc hb
  have := WF_pfA w p1
  rw [p2] at this
  exact this
theorem pff_0 {c k : Nat} : pff A c 0 k = A 0 k := pfA_off (by omega)
theorem X_pff (w : WF A) {c : Nat} (hc : c < A 0 0) (hb : uw A c) : f_X2_putFirst (px A h) (nI c) = some (px (pff A c) h) := by
  obtain ⟨p1, p2, p3, p4⟩ := plc_in w hc hb
  exact X_putFirst w.1 p1 p2 p4
theorem M_pff (w : WF A) {c : Nat} (hc : c < A 0 0) (hb : uw A c) : f_X7_putFirst (pm A M) (nI c) = some (pm (pff A c) M) := by
  obtain ⟨p1, p2, p3, p4⟩ := plc_in w hc hb
  exact M_putFirst w.1 p1 p2 p3
def aq2 (A : AM) (d q : Nat) : AM := if q = 1 then pff A d else A
def ask (A : AM) (c d p q : Nat) : AM := if p = 1 then pff (aq2 A d q) c else aq2 A d q
theorem aq2_WF (w : WF A) {d q : Nat} (hd : d < A 0 0) (hd2 : uw A d) : WF (aq2 A d q) := by
  unfold aq2
  split
  · exact pff_WF w hd hd2
  · exact w
theorem aq2_0 {d q k : Nat} : aq2 A d q 0 k = A 0 k := by
  unfold aq2
  split
  · exact pff_0
  · rfl
theorem ask_WF (w : WF A) {c d p q : Nat} (hc : c < A 0 0) (hc2 : uw A c) (hd : d < A 0 0) (hd2 : uw A d) : WF (ask A c d p q) := by
  have w2 := aq2_WF (q := q) w hd hd2
  unfold ask
  split
  · exact pff_WF w2 (by rw [aq2_0]; exact hc) (by show aq2 A d q 0 4 / _ % _ = 0; rw [aq2_0]; exact hc2)
  · exact w2
theorem X_asked (w : WF A) {c d p q : Nat} (hc : c < A 0 0) (hc2 : uw A c) (hd : d < A 0 0) (hd2 : uw A d) (hp : p ≤ 1) (hq : q ≤ 1) : f_X6_askedBy m0 (px A h1) h (nI c) (nI d) (nI p) (nI q) = some (px (wal (ask A c d p q)) h) := by
  have w2 := aq2_WF (q := q) w hd hd2
  have e1 : ∀ {α : Type} {x y : α} {n : Nat}, n ≤ 1 → (if nI n = 1 then x else y) = if n = 1 then x else y := fun {α x y n} hn => by
    rcases (by omega : n = 0 ∨ n = 1) with rfl | rfl
    · rfl
    · rfl
  have a1 : (if nI q = 1 then (f_X2_putFirst (px A h) (nI d)).bind fun t6 => some t6 else some (px A h)) = some (px (aq2 A d q) h) := by
    rw [e1 hq]
    unfold aq2
    split
    · rw [X_pff w hd hd2]; rfl
    · rfl
  have a2 : (if nI p = 1 then (f_X2_putFirst (px (aq2 A d q) h) (nI c)).bind fun t6 => some t6 else some (px (aq2 A d q) h)) = some (px (ask A c d p q) h) := by
    rw [e1 hp]
    unfold ask
    split
    · rw [X_pff w2 (by rw [aq2_0]; exact hc) (by show aq2 A d q 0 4 / _ % _ = 0; rw [aq2_0]; exact hc2)]; rfl
    · rfl
  unfold f_X6_askedBy
  rw [X_asNow, Option.bind_some, a1, Option.bind_some, a2, Option.bind_some, X_wedAll (ask_WF w hc hc2 hd hd2).1, Option.bind_some]
/-- what it costs the one and the other -/
def cs1 (A : AM) (c d p q : Nat) : Nat := lat (wal (ask A c d p q)) c + 4 * p
def cs2 (A : AM) (c d p q : Nat) : Nat := lat (wal (ask A c d p q)) d + 4 * q
abbrev oneC (A : AM) (c d p q : Nat) : Prop := ¬ cs1 A c d (1 - p) q < cs1 A c d p q
abbrev othC (A : AM) (c d p q : Nat) : Prop := ¬ cs2 A c d p (1 - q) < cs2 A c d p q
theorem m1 {p : Nat} (hp : p ≤ 1) : (1 : Int32) - nI p = nI (1 - p) := pk_sub (a := 1) hp
theorem e4 {l p : Nat} : nI l + (4 * nI p) = nI (l + 4 * p) := by
  rw [show (4 : Int32) = nI 4 from rfl, pk_mul, nI_add]
theorem cs_le (w : WF A) {c d p q e : Nat} (hc : c < A 0 0) (hc2 : uw A c) (hd : d < A 0 0) (hd2 : uw A d) (he : e < 7) : lat (wal (ask A c d p q)) e ≤ 2000 := lat_le (WB_wal (ask_WF w hc hc2 hd hd2).1) he
theorem X_one (w : WF A) {c d p q : Nat} (hc : c < A 0 0) (hc2 : uw A c) (hd : d < A 0 0) (hd2 : uw A d) (hp : p ≤ 1) (hq : q ≤ 1) {m : Mem} : ∃ C', f_X6_oneIsContent m0 (px A h1) m (nI c) (nI d) (nI p) (nI q) = some (if oneC A c d p q then 1 else 0, C') := by
  have w1 := w.1.1
  have l1 := cs_le w (p := p) (q := q) hc hc2 hd hd2 (e := c) (by omega)
  have l2 := cs_le w (p := 1 - p) (q := q) hc hc2 hd hd2 (e := c) (by omega)
  refine ⟨px (wal (ask A c d (1 - p) q)) (px (wal (ask A c d p q)) m), ?_⟩
  unfold f_X6_oneIsContent
  rw [X_asked w hc hc2 hd hd2 hp hq, Option.bind_some, X_lateOf (WB_wal (ask_WF w hc hc2 hd hd2).1) (by omega), Option.bind_some, e4, na_lt, m1 hp, X_asked w hc hc2 hd hd2 (by omega) hq, Option.bind_some, X_lateOf (WB_wal (ask_WF w hc hc2 hd hd2).1) (by omega), Option.bind_some, e4, na_lt]
  have e : (nI (lat (wal (ask A c d (1 - p) q)) c + 4 * (1 - p)) < nI (lat (wal (ask A c d p q)) c + 4 * p)) = (cs1 A c d (1 - p) q < cs1 A c d p q) := na_ltI (by omega) (by omega)
  by_cases e2 : cs1 A c d (1 - p) q < cs1 A c d p q
  · rw [if_pos (e ▸ e2), if_neg (fun z => z e2)]
  · rw [if_neg (fun z => e2 (e ▸ z)), if_pos e2]
theorem X_oth (w : WF A) {c d p q : Nat} (hc : c < A 0 0) (hc2 : uw A c) (hd : d < A 0 0) (hd2 : uw A d) (hp : p ≤ 1) (hq : q ≤ 1) {m : Mem} : ∃ C', f_X6_otherIsContent m0 (px A h1) m (nI c) (nI d) (nI p) (nI q) = some (if othC A c d p q then 1 else 0, C') := by
  have w1 := w.1.1
  have l1 := cs_le w (p := p) (q := q) hc hc2 hd hd2 (e := d) (by omega)
  have l2 := cs_le w (p := p) (q := 1 - q) hc hc2 hd hd2 (e := d) (by omega)
  refine ⟨px (wal (ask A c d p (1 - q))) (px (wal (ask A c d p q)) m), ?_⟩
  unfold f_X6_otherIsContent
  rw [X_asked w hc hc2 hd hd2 hp hq, Option.bind_some, X_lateOf (WB_wal (ask_WF w hc hc2 hd hd2).1) (by omega), Option.bind_some, e4, na_lt, m1 hq, X_asked w hc hc2 hd hd2 hp (by omega), Option.bind_some, X_lateOf (WB_wal (ask_WF w hc hc2 hd hd2).1) (by omega), Option.bind_some, e4, na_lt]
  have e : (nI (lat (wal (ask A c d p (1 - q))) d + 4 * (1 - q)) < nI (lat (wal (ask A c d p q)) d + 4 * q)) = (cs2 A c d p (1 - q) < cs2 A c d p q) := na_ltI (by omega) (by omega)
  by_cases e2 : cs2 A c d p (1 - q) < cs2 A c d p q
  · rw [if_pos (e ▸ e2), if_neg (fun z => z e2)]
  · rw [if_neg (fun z => e2 (e ▸ z)), if_pos e2]
abbrev twoP (A : AM) (c d v : Nat) : Prop := oneC A c d (v / 2) (v % 2) ∧ othC A c d (v / 2) (v % 2)
theorem X_twoS (w : WF A) {c d p q f : Nat} (hc : c < A 0 0) (hc2 : uw A c) (hd : d < A 0 0) (hd2 : uw A d) (hp : p ≤ 1) (hq : q ≤ 1) {K : Int32 → Mem → Option (Int32 × Mem × Mem)} {m : Mem} : ∃ C', f_X6_two_L72 K (nI c) (nI d) m0 (px A h1) (nI p) (f + 1) (nI q) m = if twoP A c d (2 * p + q) then some (nI (10 * p + q), m0, C') else f_X6_two_L72 K (nI c) (nI d) m0 (px A h1) (nI p) f (nI (q + 1)) C' := by
  obtain ⟨C1, g1⟩ := X_one (m0 := m0) (h1 := h1) (m := m) w hc hc2 hd hd2 hp hq
  obtain ⟨C2, g2⟩ := X_oth (m0 := m0) (h1 := h1) (m := C1) w hc hc2 hd hd2 hp hq
  have q1 : (2 * p + q) / 2 = p := by omega
  have q2 : (2 * p + q) % 2 = q := by omega
  have n1 : ¬ (1 : Int32) < nI q := show ¬ nI 1 < nI q from nI_nlt hq (by omega)
  have z1 : ¬ (1 : Int32) = 0 := by decide
  unfold twoP
  rw [q1, q2]
  by_cases a1 : oneC A c d p q
  · by_cases a2 : othC A c d p q
    · refine ⟨C2, ?_⟩
      rw [if_pos a1] at g1
      rw [if_pos a2] at g2
      rw [f_X6_two_L72, if_neg n1, g1, Option.bind_some, if_neg z1, g2, Option.bind_some, if_neg z1, if_pos ⟨a1, a2⟩, e10]
    · refine ⟨C2, ?_⟩
      rw [if_pos a1] at g1
      rw [if_neg a2] at g2
      rw [f_X6_two_L72, if_neg n1, g1, Option.bind_some, if_neg z1, g2, Option.bind_some, if_pos rfl, if_neg (fun z => a2 z.2), na_lt, nI_1]
  · refine ⟨C1, ?_⟩
    rw [if_neg a1] at g1
    rw [f_X6_two_L72, if_neg n1, g1, Option.bind_some, if_pos rfl, if_neg (fun z => a1 z.1), na_lt, nI_1]
theorem X_twoE {c d p f : Nat} {K : Int32 → Mem → Option (Int32 × Mem × Mem)} {m : Mem} : f_X6_two_L72 K (nI c) (nI d) m0 (px A h1) (nI p) (f + 1) (nI 2) m = K (nI (p + 1)) m := by
  have n2 : (1 : Int32) < nI 2 := by decide
  rw [f_X6_two_L72, if_pos n2, na_lt, nI_1]
abbrev twoV (A : AM) (c d : Nat) : Int32 := if twoP A c d 0 then 0 else if twoP A c d 1 then 1 else if twoP A c d 2 then 10 else if twoP A c d 3 then 11 else -9
theorem X_two (w : WF A) {c d : Nat} (hc : c < A 0 0) (hc2 : uw A c) (hd : d < A 0 0) (hd2 : uw A d) {m : Mem} : ∃ C', f_X6_two_L64 (nI c) (nI d) m0 (px A h1) 6000 0 m = some (twoV A c d, m0, C') := by
  obtain ⟨C1, g1⟩ := X_twoS (m0 := m0) (h1 := h1) (p := 0) (q := 0) (f := 5999) (K := f_X6_two_L64 (nI c) (nI d) m0 (px A h1) 5999) (m := m) w hc hc2 hd hd2 (by omega) (by omega)
  obtain ⟨C2, g2⟩ := X_twoS (m0 := m0) (h1 := h1) (p := 0) (q := 1) (f := 5998) (K := f_X6_two_L64 (nI c) (nI d) m0 (px A h1) 5999) (m := C1) w hc hc2 hd hd2 (by omega) (by omega)
  obtain ⟨C3, g3⟩ := X_twoS (m0 := m0) (h1 := h1) (p := 1) (q := 0) (f := 5999) (K := f_X6_two_L64 (nI c) (nI d) m0 (px A h1) 5998) (m := C2) w hc hc2 hd hd2 (by omega) (by omega)
  obtain ⟨C4, g4⟩ := X_twoS (m0 := m0) (h1 := h1) (p := 1) (q := 1) (f := 5998) (K := f_X6_two_L64 (nI c) (nI d) m0 (px A h1) 5998) (m := C3) w hc hc2 hd hd2 (by omega) (by omega)
  have n0 : ¬ (1 : Int32) < 0 := by decide
  have n1 : ¬ (1 : Int32) < nI 1 := by decide
  have n2 : (1 : Int32) < nI 2 := by decide
  have s0 : f_X6_two_L64 (nI c) (nI d) m0 (px A h1) 6000 0 m = f_X6_two_L72 (f_X6_two_L64 (nI c) (nI d) m0 (px A h1) 5999) (nI c) (nI d) m0 (px A h1) (nI 0) 6000 (nI 0) m := by
    show f_X6_two_L64 _ _ _ _ (5999 + 1) _ _ = _
    rw [f_X6_two_L64, if_neg n0]
    rfl
  have s1 : ∀ m, f_X6_two_L64 (nI c) (nI d) m0 (px A h1) 5999 (nI 1) m = f_X6_two_L72 (f_X6_two_L64 (nI c) (nI d) m0 (px A h1) 5998) (nI c) (nI d) m0 (px A h1) (nI 1) 6000 (nI 0) m := fun m => by
    show f_X6_two_L64 _ _ _ _ (5998 + 1) _ _ = _
    rw [f_X6_two_L64, if_neg n1]
    rfl
  have s2 : ∀ m, f_X6_two_L64 (nI c) (nI d) m0 (px A h1) 5998 (nI 2) m = some (-9, m0, m) := fun m => by
    show f_X6_two_L64 _ _ _ _ (5997 + 1) _ _ = _
    rw [f_X6_two_L64, if_pos n2]
  have t1 : ∀ m, f_X6_two_L72 (f_X6_two_L64 (nI c) (nI d) m0 (px A h1) 5999) (nI c) (nI d) m0 (px A h1) (nI 0) 5998 (nI 2) m = f_X6_two_L64 (nI c) (nI d) m0 (px A h1) 5999 (nI 1) m := fun m => X_twoE (f := 5997)
  have t2 : ∀ m, f_X6_two_L72 (f_X6_two_L64 (nI c) (nI d) m0 (px A h1) 5998) (nI c) (nI d) m0 (px A h1) (nI 1) 5998 (nI 2) m = f_X6_two_L64 (nI c) (nI d) m0 (px A h1) 5998 (nI 2) m := fun m => X_twoE (f := 5997)
  rw [s0, show (6000 : Nat) = 5999 + 1 from rfl, g1]
  by_cases b0 : twoP A c d 0
  · exact ⟨C1, by rw [if_pos b0]; unfold twoV; rw [if_pos b0]; rfl⟩
  rw [if_neg (show ¬ twoP A c d (2 * 0 + 0) from b0), show (5999 : Nat) = 5998 + 1 from rfl, show nI (0 + 1) = nI 1 from rfl, g2]
  by_cases b1 : twoP A c d 1
  · exact ⟨C2, by rw [if_pos (show twoP A c d (2 * 0 + 1) from b1)]; unfold twoV; rw [if_neg b0, if_pos b1]; rfl⟩
  rw [if_neg (show ¬ twoP A c d (2 * 0 + 1) from b1), show nI (1 + 1) = nI 2 from rfl, t1, s1, show (6000 : Nat) = 5999 + 1 from rfl, g3]
  by_cases b2 : twoP A c d 2
  · exact ⟨C3, by rw [if_pos (show twoP A c d (2 * 1 + 0) from b2)]; unfold twoV; rw [if_neg b0, if_neg b1, if_pos b2]; rfl⟩
  rw [if_neg (show ¬ twoP A c d (2 * 1 + 0) from b2), show (5999 : Nat) = 5998 + 1 from rfl, show nI (0 + 1) = nI 1 from rfl, g4]
  by_cases b3 : twoP A c d 3
  · exact ⟨C4, by rw [if_pos (show twoP A c d (2 * 1 + 1) from b3)]; unfold twoV; rw [if_neg b0, if_neg b1, if_neg b2, if_pos b3]; rfl⟩
  rw [if_neg (show ¬ twoP A c d (2 * 1 + 1) from b3), show nI (1 + 1) = nI 2 from rfl, t2, s2]
  exact ⟨C4, by unfold twoV; rw [if_neg b0, if_neg b1, if_neg b2, if_neg b3]⟩
theorem ag_21 {W : Mem} {j : Nat} : ag A W 21 j = W 21 j := stt_off (by omega) (by simp [ci]) (by omega)
theorem M_two80 (w : WF A) {c d : Nat} (hc : c < A 0 0) (hc2 : uw A c) (hd : d < A 0 0) (hd2 : uw A d) {W : Mem} (hK : KP A W) : ∃ W', f_X7_two_L80 (nI c) (nI d) 6000 0 (pm A W) = some (pm A W') ∧ KE W W' ∧ ∀ v, v < 4 → W' 21 (2 * v) = nI (cs1 A c d (v / 2) (v % 2)) ∧ W' 21 (2 * v + 1) = nI (cs2 A c d (v / 2) (v % 2)) := by
  have w1 := w.1.1
  have := lpi (fun f (s : Mem) i => f_X7_two_L80 (nI c) (nI d) f i s) 4 (fun j t => ∃ W', t = pm A W' ∧ KP A W' ∧ KE W W' ∧ ∀ v, v < j → W' 21 (2 * v) = nI (cs1 A c d (v / 2) (v % 2)) ∧ W' 21 (2 * v + 1) = nI (cs2 A c d (v / 2) (v % 2))) (fun t => ∃ W', t = pm A W' ∧ KE W W' ∧ ∀ v, v < 4 → W' 21 (2 * v) = nI (cs1 A c d (v / 2) (v % 2)) ∧ W' 21 (2 * v + 1) = nI (cs2 A c d (v / 2) (v % 2))) (fun f t ht => ?_) (fun f j t hj ht => ?_) 4 0 6000 (pm A W) (by omega) (by omega) ⟨W, rfl, hK, KE.rf, fun v hv => by omega⟩
  · obtain ⟨t, g1, C', rfl, g2, g3⟩ := this
    exact ⟨C', g1, g2, g3⟩
  · obtain ⟨C, rfl, hk, he, hv⟩ := ht
    refine ⟨_, ?_, C, rfl, he, hv⟩
    show f_X7_two_L80 _ _ (f + 1) _ _ = _
    rw [f_X7_two_L80, if_pos (by decide)]
  · obtain ⟨C, rfl, hk, he, hv⟩ := ht
    have wf2 := ask_WF (p := j / 2) (q := j % 2) w hc hc2 hd hd2
    have wb2 := WB_wal wf2.1
    have w2 := aq2_WF (q := j % 2) w hd hd2
    have d2 : nI j / 2 = nI (j / 2) := pk_div (d := 2) (by omega) (by omega) (by omega)
    have r2 : nI j - nI (j / 2) * 2 = nI (j % 2) := by rw [← d2]; exact pk_rem (d := 2) (by omega) (by omega) (by omega)
    have e1 : ∀ {α : Type} {x y : α} {n : Nat}, n ≤ 1 → (if nI n = 1 then x else y) = if n = 1 then x else y := fun {α x y n} hn => by
      rcases (by omega : n = 0 ∨ n = 1) with rfl | rfl
      · rfl
      · rfl
    have a1 : (if nI (j % 2) = 1 then (f_X7_putFirst (pm A C) (nI d)).bind fun t6 => some t6 else some (pm A C)) = some (pm (aq2 A d (j % 2)) C) := by
      rw [e1 (by omega)]
      unfold aq2
      split
      · rw [M_pff w hd hd2]; rfl
      · rfl
    have a2 : (if nI (j / 2) = 1 then (f_X7_putFirst (pm (aq2 A d (j % 2)) C) (nI c)).bind fun t6 => some t6 else some (pm (aq2 A d (j % 2)) C)) = some (pm (ask A c d (j / 2) (j % 2)) C) := by
      rw [e1 (by omega)]
      unfold ask
      split
      · rw [M_pff w2 (by rw [aq2_0]; exact hc) (by show aq2 A d _ 0 4 / _ % _ = 0; rw [aq2_0]; exact hc2)]; rfl
      · rfl
    let W1 : Mem := xs C 21 (2 * j) (nI (cs1 A c d (j / 2) (j % 2)))
    let W2 : Mem := xs W1 21 (2 * j + 1) (nI (cs2 A c d (j / 2) (j % 2)))
    have k2 : KP A W2 := kp_xs (kp_xs hk (by omega)) (by omega)
    refine ⟨pm A (ag A W2), ⟨ag A W2, rfl, kp_ag k2, he.trans ((ke_xs (by unfold scr; omega)).trans ((ke_xs (by unfold scr; omega)).trans ke_ag)), fun v hv2 => ?_⟩, ?_⟩
    · rw [ag_21, ag_21]
      rcases (by omega : v < j ∨ v = j) with hlt | rfl
      · have := hv v hlt
        simp only [W2, W1, xs]
        rw [if_neg (by omega), if_neg (by omega), if_neg (by omega), if_neg (by omega)]
        exact this
      · constructor
        · show (if 21 = 21 ∧ 2 * v = 2 * v + 1 then _ else if 21 = 21 ∧ 2 * v = 2 * v then _ else _) = _
          rw [if_neg (by omega), if_pos ⟨rfl, rfl⟩]
        · show (if 21 = 21 ∧ 2 * v + 1 = 2 * v + 1 then _ else _) = _
          rw [if_pos ⟨rfl, rfl⟩]
    · show f_X7_two_L80 _ _ (f + 1) _ _ = f_X7_two_L80 _ _ f _ _
      have m2 : (2 : Int32) * nI j = nI (2 * j) := pk_mul 2 j
      have x1 : xs (pm (wal (ask A c d (j / 2) (j % 2))) C) 21 (2 * j) (nI (lat (wal (ask A c d (j / 2) (j % 2))) c + 4 * (j / 2))) = pm (wal (ask A c d (j / 2) (j % 2))) W1 := pm_off (by omega)
      have x2 : xs (pm (wal (ask A c d (j / 2) (j % 2))) W1) 21 (2 * j + 1) (nI (lat (wal (ask A c d (j / 2) (j % 2))) d + 4 * (j % 2))) = pm (wal (ask A c d (j / 2) (j % 2))) W2 := pm_off (by omega)
      rw [f_X7_two_L80, if_neg (show ¬ (4 : Int32) ≤ nI j from nI_ge (b := 4) hj (by omega)), d2, r2, a1, Option.bind_some, a2, Option.bind_some, M_wedAll wf2.1, Option.bind_some, M_lateOf wb2 (by omega), Option.bind_some, m2, na_inb (by omega) (by omega), na_ck, na_ix (by omega), e4, x1, na_lt, M_lateOf wb2 (by omega), Option.bind_some, nI_1, na_inb (by omega) (by omega), na_ck, na_ix (by omega), e4, x2, na_lt, M_again k2, Option.bind_some, na_lt, nI_1]
theorem M_two173 {c d : Nat} {t : Mem} (ht : ∀ v, v < 4 → t 21 (2 * v) = nI (cs1 A c d (v / 2) (v % 2)) ∧ t 21 (2 * v + 1) = nI (cs2 A c d (v / 2) (v % 2))) (hb : ∀ p q, p ≤ 1 → q ≤ 1 → cs1 A c d p q < 3000 ∧ cs2 A c d p q < 3000) : f_X7_two_L173 t 6000 0 = some (twoV A c d, t) := by
  have := lpf (σ := Unit) (fun f _ i => f_X7_two_L173 t f i) 4 (fun _ => ()) (twoP A c d) (fun v => (nI (10 * (v / 2) + v % 2), t)) (e := (-9, t)) (fun f => ?_) (fun f j hj => ?_) 4 0 6000 (by omega) (by omega)
  · have e : fr (twoP A c d) (fun v => (nI (10 * (v / 2) + v % 2), t)) (-9, t) 4 0 = (twoV A c d, t) := by
      unfold twoV
      simp only [fr]
      by_cases b0 : twoP A c d 0
      · rw [if_pos b0, if_pos b0]
        rfl
      rw [if_neg b0, if_neg b0]
      by_cases b1 : twoP A c d 1
      · rw [if_pos (show twoP A c d (0 + 1) from b1), if_pos b1]
        rfl
      rw [if_neg (show ¬ twoP A c d (0 + 1) from b1), if_neg b1]
      by_cases b2 : twoP A c d 2
      · rw [if_pos (show twoP A c d (0 + 1 + 1) from b2), if_pos b2]
        rfl
      rw [if_neg (show ¬ twoP A c d (0 + 1 + 1) from b2), if_neg b2]
      by_cases b3 : twoP A c d 3
      · rw [if_pos (show twoP A c d (0 + 1 + 1 + 1) from b3), if_pos b3]
        rfl
      rw [if_neg (show ¬ twoP A c d (0 + 1 + 1 + 1) from b3), if_neg b3]
    rw [e] at this
    exact this
  · show f_X7_two_L173 _ (f + 1) _ = _
    rw [f_X7_two_L173, if_pos (by decide)]
  · show f_X7_two_L173 _ (f + 1) _ = if _ then _ else f_X7_two_L173 _ f _
    have d2 : nI j / 2 = nI (j / 2) := pk_div (d := 2) (by omega) (by omega) (by omega)
    have r2 : nI j - nI (j / 2) * 2 = nI (j % 2) := by rw [← d2]; exact pk_rem (d := 2) (by omega) (by omega) (by omega)
    have m2 : ∀ k : Nat, (2 : Int32) * nI k = nI (2 * k) := fun k => pk_mul 2 k
    have v50 : nI (2 * (1 - j / 2)) + nI (j % 2) = nI (2 * (1 - j / 2) + j % 2) := nI_add _ _
    have v51 : nI (2 * (j / 2)) + 1 - nI (j % 2) = nI (2 * (j / 2) + 1 - j % 2) := by rw [nI_1, pk_sub (by omega)]
    obtain ⟨c1, c2⟩ := ht j hj
    obtain ⟨c3, -⟩ := ht (2 * (1 - j / 2) + j % 2) (by omega)
    obtain ⟨-, c4⟩ := ht (2 * (j / 2) + 1 - j % 2) (by omega)
    rw [show (2 * (1 - j / 2) + j % 2) / 2 = 1 - j / 2 by omega, show (2 * (1 - j / 2) + j % 2) % 2 = j % 2 by omega] at c3
    rw [show (2 * (j / 2) + 1 - j % 2) / 2 = j / 2 by omega, show (2 * (j / 2) + 1 - j % 2) % 2 = 1 - j % 2 by omega] at c4
    have b1 := hb (j / 2) (j % 2) (by omega) (by omega)
    have b2 := hb (1 - j / 2) (j % 2) (by omega) (by omega)
    have b3 := hb (j / 2) (1 - j % 2) (by omega) (by omega)
    have q1 : (nI (cs1 A c d (1 - j / 2) (j % 2)) < nI (cs1 A c d (j / 2) (j % 2))) = (cs1 A c d (1 - j / 2) (j % 2) < cs1 A c d (j / 2) (j % 2)) := na_ltI (by omega) (by omega)
    have q2 : (nI (cs2 A c d (j / 2) (1 - j % 2)) < nI (cs2 A c d (j / 2) (j % 2))) = (cs2 A c d (j / 2) (1 - j % 2) < cs2 A c d (j / 2) (j % 2)) := na_ltI (by omega) (by omega)
    rw [f_X7_two_L173, if_neg (show ¬ (4 : Int32) ≤ nI j from nI_ge (b := 4) hj (by omega)), d2, r2, m1 (by omega), m2, m2, m2, v50, v51, na_lt, na_lt, m2, na_inb (by omega) (by omega), na_ck, na_inb (by omega) (by omega), na_ck, na_ix (by omega), na_ix (by omega), c1, c3]
    by_cases z1 : cs1 A c d (1 - j / 2) (j % 2) < cs1 A c d (j / 2) (j % 2)
    · rw [if_pos (q1 ▸ z1), na_lt, nI_1, if_neg (fun z => z.1 z1)]
    · rw [if_neg (fun z => z1 (q1 ▸ z)), nI_1, na_inb (by omega) (by omega), na_ck, m2, nI_1, na_inb (by omega) (by omega), na_ck, na_ix (by omega), na_ix (by omega), c2, c4]
      by_cases z2 : cs2 A c d (j / 2) (1 - j % 2) < cs2 A c d (j / 2) (j % 2)
      · rw [if_pos (q2 ▸ z2), na_lt, nI_1, if_neg (fun z => z.2 z2)]
      · rw [if_neg (fun z => z2 (q2 ▸ z)), if_pos ⟨z1, z2⟩, e10]
theorem op_two (R : RR A m0 (px A h1) m3 m4 ks m13 (pm A M)) (m2 : Mem) (a b : Int32) : ∃ r m0' m2' M', f_X6_two m0 (px A h1) m2 a b = some (r, m0', m2') ∧ f_X7_two (pm A M) a b = some (r, M') ∧ RR A m0' (px A h1) m3 m4 ks m13 M' := by
  have wf := R.1
  have wb := wf.1
  have w1 := wb.1
  have n1 : ¬ (0 : Int32) ≤ -1 := by decide
  have n3 : ¬ (0 : Int32) ≤ -3 := by decide
  have z1 : ¬ (1 : Int32) = 0 := by decide
  have y1 : ¬ (-1 : Int32) = 0 := by decide
  have z01 : ¬ (0 : Int32) = 1 := by decide
  have e0 : (0 : Int32) ≤ 0 := by decide
  have r1 : ∃ r m0' m2' M', some ((-1 : Int32), rf m0 2 1, m2) = some (r, m0', m2') ∧ some ((-1 : Int32), pm A (rf (M14 M) 10 1)) = some (r, M') ∧ RR A m0' (px A h1) m3 m4 ks m13 M' := ⟨_, _, _, _, rfl, rfl, R.rk ke14 (by omega)⟩
  have r3 : ∃ r m0' m2' M', some ((-3 : Int32), rf m0 2 3, m2) = some (r, m0', m2') ∧ some ((-3 : Int32), pm A (rf (M14 M) 10 3)) = some (r, M') ∧ RR A m0' (px A h1) m3 m4 ks m13 M' := ⟨_, _, _, _, rfl, rfl, R.rk ke14 (by omega)⟩
  rcases na_cs a (n := A 0 0) (by omega) with ho | ⟨c, hc, rfl⟩
  · simp only [f_X6_two, f_X6_two_J27, X_has_out ho, Option.bind_some, if_true, X_ref1, f_X7_two, na_lt, M_t14, M_has_out wb ho, y1, if_false, n1, M_ref1]
    exact r1
  rcases na_cs b (n := A 0 0) (by omega) with ho | ⟨d, hd, rfl⟩
  · simp only [f_X6_two, f_X6_two_J27, X_has_in wb hc, z1, X_has_out ho, Option.bind_some, if_true, X_ref1, f_X7_two, na_lt, M_t14, M_has_in wb hc, M_has_out wb ho, y1, if_false, n1, M_ref1]
    exact r1
  have i1 : inb (nI c) 7 = true := na_inb (by omega) (by omega)
  have i2 : inb (nI d) 7 = true := na_inb (by omega) (by omega)
  have x1 : ix (nI c) = c := na_ix (by omega)
  have x2 : ix (nI d) = d := na_ix (by omega)
  by_cases e : nI c = nI d
  · simp only [f_X6_two, f_X6_two_J27, X_has_in wb hc, X_has_in wb hd, z1, e, Option.bind_some, if_true, X_ref1, f_X7_two, na_lt, M_t14, M_has_in wb hc, M_has_in wb hd, y1, if_false, n1, M_ref1]
    exact r1
  have p4 : ∀ k, k < 7 → pm A (M14 M) 4 k = nI (A 0 4 / 2 ^ k % 2) := fun k hk => pm_4 hk
  have bt : ∀ k, ¬ uw A k → (nI (A 0 4 / 2 ^ k % 2) : Int32) = 1 := fun k hu => by
    have hb : A 0 4 / 2 ^ k % 2 < 2 := Nat.mod_lt _ (by omega)
    unfold uw at hu
    rw [show A 0 4 / 2 ^ k % 2 = 1 by omega]
    rfl
  have bf : ∀ k, uw A k → ¬ (nI (A 0 4 / 2 ^ k % 2) : Int32) = 1 := fun k hu => by
    unfold uw at hu
    rw [hu]
    decide
  by_cases u1 : uw A c
  · by_cases u2 : uw A d
    · obtain ⟨C', c1⟩ := X_two (m0 := m0) (h1 := h1) (m := m2) wf hc u1 hd u2
      obtain ⟨W', d1, d2, d3⟩ := M_two80 wf hc u1 hd u2 (kp_tk (A := A) (M := M14 M))
      have d4 : f_X7_two_L173 (pm A W') 6000 0 = some (twoV A c d, pm A W') := M_two173 (fun v hv => by
        rw [pm_21, pm_21]
        exact d3 v hv) (fun p q hp hq => by
        have l1 := cs_le wf (p := p) (q := q) hc u1 hd u2 (e := c) (by omega)
        have l2 := cs_le wf (p := p) (q := q) hc u1 hd u2 (e := d) (by omega)
        unfold cs1 cs2
        omega)
      refine ⟨twoV A c d, m0, C', pm A W', ?_, ?_, R.kp (ke14.trans (ke_tk.trans d2))⟩
      · simp only [f_X6_two, X_has_in wb hc, X_has_in wb hd, z1, e, Option.bind_some, if_true, if_false, X_isWed wb (by omega : c < 7), X_isWed wb (by omega : d < 7), uw_0 u1, uw_0 u2, c1]
      · simp only [f_X7_two, na_lt, M_t14, M_has_in wb hc, M_has_in wb hd, z1, e, Option.bind_some, if_true, if_false, i1, i2, x1, x2, na_ck, p4 c (by omega), p4 d (by omega), bf c u1, bf d u2, e0, M_think, d1, d4]
    · simp only [f_X6_two, f_X6_two_J55, X_has_in wb hc, X_has_in wb hd, z1, e, Option.bind_some, if_true, if_false, X_isWed wb (by omega : c < 7), X_isWed wb (by omega : d < 7), uw_0 u1, uw_1 u2, X_ref3, f_X7_two, na_lt, M_t14, M_has_in wb hc, M_has_in wb hd, i1, i2, x1, x2, na_ck, p4 c (by omega), p4 d (by omega), bf c u1, bt d u2, z01, n3, M_ref3]
      exact r3
  · simp only [f_X6_two, f_X6_two_J55, X_has_in wb hc, X_has_in wb hd, z1, e, Option.bind_some, if_true, if_false, X_isWed wb (by omega : c < 7), uw_1 u1, X_ref3, f_X7_two, na_lt, M_t14, M_has_in wb hc, M_has_in wb hd, i1, i2, x1, x2, na_ck, p4 c (by omega), bt c u1, n3, M_ref3]
    exact r3
end OPS12
