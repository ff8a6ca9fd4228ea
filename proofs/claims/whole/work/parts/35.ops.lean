/-! CALLS, one lemma each: both sides answer, alike, and show one state again -/
theorem KE.symm {M M' : Mem} (h : KE M M') : KE M' M := by
  obtain ⟨⟨a1, a2, a3, a4⟩, a5⟩ := h
  exact ⟨⟨a1.symm, a2.symm, a3.symm, a4.symm⟩, fun j => ⟨(a5 j).1.symm, (a5 j).2.1.symm, (a5 j).2.2.1.symm, (a5 j).2.2.2.1.symm, (a5 j).2.2.2.2.symm⟩⟩
section OPS
variable {A : AM} {m0 h1 m3 m4 m13 M : Mem} {ks : List Mem}
theorem RR.kp {M' : Mem} (R : RR A m0 (px A h1) m3 m4 ks m13 (pm A M)) (k : KE M M') : RR A m0 (px A h1) m3 m4 ks m13 (pm A M') := R.keep (ke_pm.symm.trans k)
theorem RR.rk {M' : Mem} (R : RR A m0 (px A h1) m3 m4 ks m13 (pm A M)) (k : KE M M') {q : Nat} (hq : q < 7) : RR A (rf m0 2 q) (px A h1) m3 m4 ks m13 (pm A (rf M' 10 q)) := R.ref (ke_pm.symm.trans k) hq
abbrev M14 (M : Mem) : Mem := xs M 0 14 0
theorem M_t14 : xs (pm A M) 0 14 0 = pm A (M14 M) := pm_off (by omega)
theorem ke14 : KE M (M14 M) := ke_xs (by unfold scr; omega)
abbrev Mat (A : AM) (M : Mem) : Mem := ag A (tk A (M14 M))
theorem ke_at : KE M (Mat A M) := ke14.trans (ke_tk.trans ke_ag)
theorem M_ag {A' : AM} : f_X7_again (pm A' (tk A M)) = some (pm A (ag A (tk A M))) := M_again kp_tk
def out (x : Int32) (n : Nat) : Prop := x < nI 0 ∨ nI n ≤ x
theorem na_cs (x : Int32) {n : Nat} (hn : n < 2147483648) : out x n ∨ ∃ j : Nat, j < n ∧ x = nI j := by
  rcases na_at x hn with h | h | h
  · exact Or.inl (Or.inl h)
  · exact Or.inl (Or.inr h)
  · exact Or.inr h
theorem out_ne {x : Int32} {n j : Nat} (h : out x n) (hj : j < n) (hn : n < 2147483648) : ¬ x = nI j := by
  intro e
  subst e
  rcases h with h | h
  · rw [nI_ltI (by omega) (by omega)] at h; omega
  · rw [nI_leI (by omega) (by omega)] at h; omega
theorem out_in {x : Int32} {n : Nat} (h : out x n) : ¬ (nI 0 ≤ x ∧ x < nI n) := by
  rintro ⟨a, b⟩
  unfold out at h
  rw [fa_lt, fa_le] at *
  omega
theorem out_iK {x : Int32} {n k : Nat} (h : out x n) (hn : n = k + 1) (hk : k < 2147483647) : f_X7_in x.toInt64 0 (lN k) = some 0 := by
  subst hn
  rw [show (0 : Int64) = lN 0 from rfl, na_inK x (by omega) (by omega), if_neg]
  rintro ⟨a, b⟩
  unfold out at h
  have q0 := nI_toInt (n := 0) (by omega)
  have q1 := nI_toInt (n := k) (by omega)
  have q2 := nI_toInt (n := k + 1) (by omega)
  rw [fa_lt, fa_le] at *
  omega
theorem in_iK {j k : Nat} (h : j ≤ k) (hk : k < 2147483647) : f_X7_in (nI j).toInt64 0 (lN k) = some 1 := by
  rw [show (0 : Int64) = lN 0 from rfl, na_inK (nI j) (by omega) (by omega), if_pos ⟨nI_le (by omega) (by omega), nI_le h (by omega)⟩]
theorem X_has_in {c : Nat} (w : WB A) {h : Mem} (hc : c < A 0 0) : f_X2_has (px A h) (nI c) = some 1 := by
  have w1 := w.1
  unfold f_X2_has
  rw [if_neg (nI_pos (by omega)), px_0_0, if_neg (nI_ge hc (by omega))]
theorem X_has_out {x : Int32} {h : Mem} (ho : out x (A 0 0)) : f_X2_has (px A h) x = some 0 := by
  unfold f_X2_has
  rw [px_0_0]
  rcases ho with ho | ho
  · rw [if_pos (by rw [← nI_0]; exact ho)]
  · rw [if_pos ho]; split <;> rfl
theorem M_has_in {c : Nat} (w : WB A) (hc : c < A 0 0) : f_X7_isCouple (pm A M) (nI c) = some 1 := by
  have w1 := w.1
  unfold f_X7_isCouple
  rw [pm_0_0, show (1 : Int32) = nI 1 from rfl, na_inI _ (by omega), if_pos ⟨nI_le (by omega) (by omega), nI_lt hc (by omega)⟩]
  rfl
theorem M_has_out {x : Int32} (w : WB A) (ho : out x (A 0 0)) : f_X7_isCouple (pm A M) x = some 0 := by
  have w1 := w.1
  unfold f_X7_isCouple
  rw [pm_0_0, show (1 : Int32) = nI 1 from rfl, na_inI _ (by omega), if_neg (out_in ho)]
  rfl
theorem M_wb_in {j k : Nat} (h : j ≤ k) (hk : k < 2147483647) : f_X7_wrongBit 0 (nI j) (nI k) = some 0 := by
  unfold f_X7_wrongBit
  rw [if_pos rfl, show (nI k).toInt64 = lN k from nI_l (by omega), in_iK h hk]
  rfl
theorem M_wb_out {x : Int32} {n k : Nat} (h : out x n) (hn : n = k + 1) (hk : k < 2147483647) : f_X7_wrongBit 0 x (nI k) = some (-2) := by
  unfold f_X7_wrongBit
  rw [if_pos rfl, nI_l (by omega), out_iK h hn hk]
  rfl
theorem M_wb_no {x y z : Int32} (h : ¬ z = 0) : f_X7_wrongBit z x y = some z := by
  unfold f_X7_wrongBit
  rw [if_neg h]
theorem op_order (R : RR A m0 (px A h1) m3 m4 ks m13 (pm A M)) (a : Int32) : ∃ r m0' M', f_X6_order m0 (px A h1) a = some (r, m0') ∧ f_X7_order (pm A M) a = some (r, M') ∧ RR A m0' (px A h1) m3 m4 ks m13 M' := by
  have wb := R.1.1
  have w3 := wb.2.2.1
  rcases na_cs a (n := A 0 8) (by omega) with ho | ⟨j, hj, rfl⟩
  · by_cases h0 : (0 : Int32) ≤ a
    · have h8 : nI (A 0 8) ≤ a := by
        rcases ho with h | h
        · rw [nI_0, fa_lt] at h; rw [fa_le] at h0; omega
        · exact h
      exact ⟨-9, m0, pm A (M14 M), by simp only [f_X6_order, h0, if_true, px_0_8, h8, if_true], by simp only [f_X7_order, na_lt, M_t14, h0, if_true, pm_0_9, h8, if_true], R.kp ke14⟩
    · exact ⟨-4, rf m0 2 4, pm A (rf (M14 M) 10 4), by simp only [f_X6_order, h0, if_false, X_ref4, Option.bind_some], by simp only [f_X7_order, na_lt, M_t14, h0, if_false, M_ref4, Option.bind_some], R.rk ke14 (by omega)⟩
  · have h0 : (0 : Int32) ≤ nI j := nI_pos' (by omega)
    have h8 : ¬ nI (A 0 8) ≤ nI j := nI_ge hj (by omega)
    exact ⟨nI (A 7 j), m0, pm A (M14 M), by simp (disch := omega) only [f_X6_order, h0, if_true, px_0_8, h8, if_false, na_inb, na_ck, na_ix, px_7], by simp (disch := omega) only [f_X7_order, na_lt, M_t14, h0, if_true, pm_0_9, h8, if_false, na_inb, na_ck, na_ix, pm_8], R.kp ke14⟩
theorem op_free (R : RR A m0 (px A h1) m3 m4 ks m13 (pm A M)) (a : Int32) : ∃ r m0' M', f_X6_free m0 (px A h1) a = some (r, m0') ∧ f_X7_free (pm A M) a = some (r, M') ∧ RR A m0' (px A h1) m3 m4 ks m13 M' := by
  have wb := R.1.1
  obtain ⟨w4, w5⟩ := wb.2.2.2.1
  have e1 : (1 : Int32) = nI 1 := rfl
  rcases na_cs a (n := A 0 10) (by omega) with ho | ⟨j, hj, rfl⟩
  · have hin : f_X7_in a.toInt64 0 (nI (A 0 10) - nI 1).toInt64 = some 0 := by rw [na_inI _ (by omega), if_neg (out_in ho)]
    have hx : f_X6_free m0 (px A h1) a = some (-2, rf m0 2 2) := by
      simp only [f_X6_free, f_X6_free_J15, px_0_10, X_ref2, Option.bind_some]
      split
      · rfl
      · split
        · next h2 h3 =>
          exfalso
          refine out_in ho ⟨?_, h3⟩
          rw [nI_0]; rw [fa_lt] at h2; rw [fa_le]; omega
        · rfl
    exact ⟨-2, rf m0 2 2, pm A (rf (M14 M) 10 2), hx, by simp only [f_X7_free, na_lt, M_t14, pm_0_10, e1, hin, Option.bind_some, if_true, M_ref2], R.rk ke14 (by omega)⟩
  · have hin : f_X7_in (nI j).toInt64 0 (nI (A 0 10) - nI 1).toInt64 = some 1 := by rw [na_inI _ (by omega), if_pos ⟨nI_le (by omega) (by omega), nI_lt hj (by omega)⟩]
    have h0 : ¬ nI j < 0 := nI_pos (by omega)
    have h8 : nI j < nI (A 0 10) := nI_lt hj (by omega)
    have e2 : ¬ (1 : Int32) = 0 := by decide
    exact ⟨nI (A 8 j), m0, pm A (M14 M), by simp (disch := omega) only [f_X6_free, h0, if_false, px_0_10, h8, if_true, na_inb, na_ck, na_ix, px_8], by
      unfold f_X7_free
      rw [na_lt, M_t14, pm_0_10, e1, hin]
      simp (disch := omega) only [Option.bind_some, e2, if_false, na_inb, na_ck, na_ix, pm_9], R.kp ke14⟩
theorem op_waits (R : RR A m0 (px A h1) m3 m4 ks m13 (pm A M)) (m2 : Mem) (a : Int32) : ∃ r m0' m2' M', f_X6_waits m0 (px A h1) m2 a = some (r, m0', m2') ∧ f_X7_waits (pm A M) a = some (r, M') ∧ RR A m0' (px A h1) m3 m4 ks m13 M' := by
  have wb := R.1.1
  have w1 := wb.1
  have e2 : ¬ (1 : Int32) = 0 := by decide
  rcases na_cs a (n := A 0 0) (by omega) with ho | ⟨c, hc, rfl⟩
  · exact ⟨1000000000 - -1, rf m0 2 1, m2, pm A (rf (M14 M) 10 1), by simp only [f_X6_waits, X_has_out ho, Option.bind_some, if_true, X_ref1], by simp only [f_X7_waits, na_lt, M_t14, M_has_out wb ho, Option.bind_some, if_true, M_ref1], R.rk ke14 (by omega)⟩
  · have wb2 := WB_wal wb
    have hc7 : c < 7 := by omega
    exact ⟨nI (wal A 4 c) - nI (rdy (wal A) c), m0, px (wal A) m2, pm A (Mat A M), by simp (disch := omega) only [f_X6_waits, X_has_in wb hc, Option.bind_some, e2, if_false, X_inMind wb, f_X2_waitOf, na_inb, na_ck, na_ix, X_readyOf wb2 hc7, px_4], by simp (disch := omega) only [f_X7_waits, na_lt, M_t14, M_has_in wb hc, Option.bind_some, e2, if_false, M_think, M_wedAll wb, na_inb, na_ck, na_ix, M_readyOf wb2 hc7, pm_5, M_ag], R.kp ke_at⟩
end OPS

