/-! TWO who ask to go first -/
section OPS12
variable {A B C : AM} {m0 h1 h m2 m3 m4 m13 M : Mem} {ks : List Mem}
theorem plc_lt (w : WF A) {c : Nat} (hc : c < A 0 0) (hb : uw A c) : plc A c < A 0 8 := (plc_in w hc hb).1
/-- first those who ask -/
def pff (A : AM) (c : Nat) : AM := pfA A (plc A c) c
theorem pff_WF (w : WF A) {c : Nat} (hc : c < A 0 0) (hb : uw A c) : WF (pff A c) := by
  obtain ⟨p1, p2, p3, p4⟩ := plc_in w hc hb
  have := WF_pfA w p1
  rw [p2] at this
  exact this
theorem pff_0 {c k : Nat} : pff A c 0 k = A 0 k := pfA_off (by omega)
theorem X_pff (w : WF A) {c : Nat} (hc : c < A 0 0) (hb : uw A c) : f_X2_putFirst (px A h) (nI c) = some (px (pff A c) h) := by
  obtain ⟨p1, p2, p3, p4⟩ := plc_in w hc hb
  exact X_putFirst w.1 p1 p2 p4
theorem M_pff (w : WF A) {c : Nat} (hc : c < A 0 0) (hb : uw A c) : f_X7_putFirst (pm A M) (nI c) = some (pm (pff A c) M) := by
  obtain ⟨p1, p2, p3, p4⟩ := plc_in w hc hb
  exact M_putFirst w.1 p1 p2 p3
def aq2 (A : AM) (d q : Nat) : AM := if q = 1 then pff A d else A
def ask (A : AM) (c d p q : Nat) : AM := if p = 1 then pff (aq2 A d q) c else aq2 A d q
theorem aq2_WF (w : WF A) {d q : Nat} (hd : d < A 0 0) (hd2 : uw A d) : WF (aq2 A d q) := by
  unfold aq2
  split
  · exact pff_WF w hd hd2
  · exact w
theorem aq2_0 {d q k : Nat} : aq2 A d q 0 k = A 0 k := by
  unfold aq2
  split
  · exact pff_0
  · rfl
theorem ask_WF (w : WF A) {c d p q : Nat} (hc : c < A 0 0) (hc2 : uw A c) (hd : d < A 0 0) (hd2 : uw A d) : WF (ask A c d p q) := by
  have w2 := aq2_WF (q := q) w hd hd2
  unfold ask
  split
  · exact pff_WF w2 (by rw [aq2_0]; exact hc) (by show aq2 A d q 0 4 / _ % _ = 0; rw [aq2_0]; exact hc2)
  · exact w2
theorem X_asked (w : WF A) {c d p q : Nat} (hc : c < A 0 0) (hc2 : uw A c) (hd : d < A 0 0) (hd2 : uw A d) (hp : p ≤ 1) (hq : q ≤ 1) : f_X6_askedBy m0 (px A h1) h (nI c) (nI d) (nI p) (nI q) = some (px (wal (ask A c d p q)) h) := by
  have w2 := aq2_WF (q := q) w hd hd2
  have e1 : ∀ {α : Type} {x y : α} {n : Nat}, n ≤ 1 → (if nI n = 1 then x else y) = if n = 1 then x else y := fun {α x y n} hn => by
    rcases (by omega : n = 0 ∨ n = 1) with rfl | rfl
    · rfl
    · rfl
  have a1 : (if nI q = 1 then (f_X2_putFirst (px A h) (nI d)).bind fun t6 => some t6 else some (px A h)) = some (px (aq2 A d q) h) := by
    rw [e1 hq]
    unfold aq2
    split
    · rw [X_pff w hd hd2]; rfl
    · rfl
  have a2 : (if nI p = 1 then (f_X2_putFirst (px (aq2 A d q) h) (nI c)).bind fun t6 => some t6 else some (px (aq2 A d q) h)) = some (px (ask A c d p q) h) := by
    rw [e1 hp]
    unfold ask
    split
    · rw [X_pff w2 (by rw [aq2_0]; exact hc) (by show aq2 A d q 0 4 / _ % _ = 0; rw [aq2_0]; exact hc2)]; rfl
    · rfl
  unfold f_X6_askedBy
  rw [X_asNow, Option.bind_some, a1, Option.bind_some, a2, Option.bind_some, X_wedAll (ask_WF w hc hc2 hd hd2).1, Option.bind_some]
/-- what it costs the one and the other -/
def cs1 (A : AM) (c d p q : Nat) : Nat := lat (wal (ask A c d p q)) c + 4 * p
def cs2 (A : AM) (c d p q : Nat) : Nat := lat (wal (ask A c d p q)) d + 4 * q
def oneC (A : AM) (c d p q : Nat) : Prop := ¬ cs1 A c d (1 - p) q < cs1 A c d p q
def othC (A : AM) (c d p q : Nat) : Prop := ¬ cs2 A c d p (1 - q) < cs2 A c d p q
theorem m1 {p : Nat} (hp : p ≤ 1) : (1 : Int32) - nI p = nI (1 - p) := pk_sub (a := 1) hp
theorem e4 {l p : Nat} : nI l + (4 * nI p) = nI (l + 4 * p) := by
  rw [show (4 : Int32) = nI 4 from rfl, pk_mul, nI_add]
theorem cs_le (w : WF A) {c d p q e : Nat} (hc : c < A 0 0) (hc2 : uw A c) (hd : d < A 0 0) (hd2 : uw A d) (he : e < 7) : lat (wal (ask A c d p q)) e ≤ 2000 := lat_le (WB_wal (ask_WF w hc hc2 hd hd2).1) he
theorem X_one (w : WF A) {c d p q : Nat} (hc : c < A 0 0) (hc2 : uw A c) (hd : d < A 0 0) (hd2 : uw A d) (hp : p ≤ 1) (hq : q ≤ 1) : ∃ r C', f_X6_oneIsContent m0 (px A h1) h (nI c) (nI d) (nI p) (nI q) = some (r, C') ∧ (r = 0 ↔ ¬ oneC A c d p q) := by
  have w1 := w.1.1
  have l1 := cs_le w (p := p) (q := q) hc hc2 hd hd2 (e := c) (by omega)
  have l2 := cs_le w (p := 1 - p) (q := q) hc hc2 hd hd2 (e := c) (by omega)
  unfold f_X6_oneIsContent
  rw [X_asked w hc hc2 hd hd2 hp hq, Option.bind_some, X_lateOf (WB_wal (ask_WF w hc hc2 hd hd2).1) (by omega), Option.bind_some, e4, na_lt, m1 hp, X_now2, X_asked w hc hc2 hd hd2 (by omega) hq, Option.bind_some, X_lateOf (WB_wal (ask_WF w hc hc2 hd hd2).1) (by omega), Option.bind_some, e4, na_lt]
  sorry
end OPS12
