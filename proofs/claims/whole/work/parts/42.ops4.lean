/-! CALLS that change the hall -/
section OPS4
variable {A B : AM} {m0 h1 h m3 m4 m13 M : Mem} {ks : List Mem}
/-- another hall, all else as it was -/
theorem RR.nw {M' h2 : Mem} (R : RR A m0 (px A h1) m3 m4 ks m13 (pm A M)) (k : KE M M') (wf : WF B) : RR B m0 (px B h2) m3 m4 ks m13 (pm B M') := by
  obtain ⟨a1, a2, a3, a4, a5, a6, a7, a8⟩ := R
  have k2 : KE (pm A M) (pm B M') := (ke_pm (A := A)).symm.trans (k.trans (ke_pm (A := B)))
  exact ⟨wf, px_px.symm, pm_pm.symm, a4.ke k2, a5.ke k2, a6.ke k2, a7.ke k2, a8.ke k2⟩
/-- nothing can be taken back any more -/
theorem RR.fg {M' h2 m4' : Mem} (R : RR A m0 (px A h1) m3 m4 ks m13 (pm A M)) (k : KE M M') (wf : WF B) (h4 : m4' 0 1 = m4 0 1 ∧ m4' 0 2 = 0) : RR B m0 (px B h2) m3 m4' ks m13 (pm B (xs M' 0 32 0)) := by
  obtain ⟨a1, a2, a3, a4, a5, a6, a7, a8⟩ := R.nw (h2 := h2) k wf
  have e : ∀ p j, ¬ (p = 0 ∧ j = 32) → ¬ hcell B p j → pm B (xs M' 0 32 0) p j = pm B M' p j := fun p j hp hc => by
    rw [pm_out hc, pm_out hc]
    simp only [xs, if_neg hp]
  refine ⟨a1, a2, pm_pm.symm, fun j hj => ?_, ?_, ?_, ?_, ?_⟩
  · rw [e 10 j (by omega) (by unfold hcell; omega)]; exact a4 j hj
  · obtain ⟨n, b1, b2, b3, b4⟩ := a5
    refine ⟨n, b1, b2, by rw [e 0 37 (by omega) (by unfold hcell; omega)]; exact b3, fun j hj => ?_⟩
    obtain ⟨v, c1, c2, c3⟩ := b4 j hj
    exact ⟨v, c1, c2, by rw [e 22 j (by omega) (by unfold hcell; omega)]; exact c3⟩
  · obtain ⟨n, b1, b2, b3, b4⟩ := a6
    refine ⟨n, b1, b2, by rw [e 0 26 (by omega) (by unfold hcell; omega)]; exact b3, fun j => ?_⟩
    obtain ⟨C, c1, c2, c3⟩ := b4 j
    exact ⟨C, c1, c2, fun k hk h6 => by rw [e 16 k (by omega) (by unfold hcell; omega)]; exact c3 k hk h6⟩
  · obtain ⟨n, b1, b2, b3, b4⟩ := a7
    refine ⟨n, b1, b2, by rw [e 0 17 (by omega) (by unfold hcell; omega)]; exact b3, fun j hj => ?_⟩
    obtain ⟨v, c1, c2, c3⟩ := b4 j hj
    exact ⟨v, c1, c2, by rw [e 11 j (by omega) (by unfold hcell; omega)]; exact c3⟩
  · obtain ⟨ol, np, b1, b2, b3, b4, b5, b6, b7⟩ := a8
    refine ⟨ol, 0, b1, by omega, h4.1.trans b3, h4.2, ?_, b6, fun i hi => by omega⟩
    rw [pm_0_32]
    simp [xs]
    rfl
theorem X_forget {m4 : Mem} : f_X5_forget m4 = some (xs m4 0 2 0) := rfl
theorem fg4 {m4 : Mem} : xs m4 0 2 0 0 1 = m4 0 1 ∧ xs m4 0 2 0 0 2 = 0 := ⟨by simp [xs], by simp [xs]⟩
theorem M_fg {M : Mem} {v : Int32} : xs (pm A M) 0 32 v = pm A (xs M 0 32 v) := pm_off (by omega)
theorem ke_9 {M M' : Mem} (h : ∀ p j, ¬ (p = 9 ∧ j = 1) → M' p j = M p j) : KE M M' := KE.of (fun p j hs => h p j (by unfold scr at hs; omega))
theorem op_rooms (R : RR A m0 (px A h1) m3 m4 ks m13 (pm A M)) (a : Int32) : ∃ r m0' m1' m4' M' A', f_X6_rooms m0 (px A h1) m4 a = some (r, m0', m1', m4') ∧ f_X7_rooms (pm A M) a = some (r, M') ∧ RR A' m0' m1' m3 m4' ks m13 M' := by
  have wf := R.1
  have wb := wf.1
  have e4 : ¬ (0 : Int32) ≤ -4 := by decide
  have e6 : ¬ (0 : Int32) ≤ -6 := by decide
  have e0 : (0 : Int32) ≤ 0 := by decide
  by_cases h0 : (1 : Int32) ≤ a
  · by_cases h9 : a ≤ 2
    · obtain ⟨t, ht, rfl⟩ := nI_of2 (n := 2) (M := 2) rfl (fun z => by rw [fa_lt] at z; rw [fa_le] at h0; have : (1 : Int32).toInt = 1 := rfl; have : (0 : Int32).toInt = 0 := rfl; omega) h9
      have ht1 : 1 ≤ t := (nI_leI (a := 1) (by omega) (by omega)).mp h0
      obtain ⟨M', c1, c2⟩ := M_roomsBecome (M := M14 M) wb ht1 ht
      refine ⟨nI (A 0 10), m0, px (roA A t) h1, xs m4 0 2 0, pm (roA A t) (xs M' 0 32 0), roA A t, ?_, ?_, R.fg (ke14.trans (ke_9 c2)) (WF_roA wf ht1 ht) fg4⟩
      · simp only [f_X6_rooms, h0, h9, if_true, na_lt, X_openRooms wb ht1 ht, X_forget, Option.bind_some, px_0_10]
      · simp only [f_X7_rooms, f_X7_wrongNumber, na_lt, M_t14, h0, h9, e0, if_true, Option.bind_some, pm_0_10, c1, M_fg]
    · exact ⟨-6, rf m0 2 6, px A h1, m4, pm A (rf (M14 M) 10 6), A, by simp only [f_X6_rooms, h0, h9, if_true, if_false, X_ref6, Option.bind_some], by simp only [f_X7_rooms, f_X7_wrongNumber, na_lt, M_t14, h0, h9, if_true, if_false, e6, Option.bind_some, M_ref6], R.rk ke14 (by omega)⟩
  · exact ⟨-4, rf m0 2 4, px A h1, m4, pm A (rf (M14 M) 10 4), A, by simp only [f_X6_rooms, h0, if_false, X_ref4, Option.bind_some], by simp only [f_X7_rooms, f_X7_wrongNumber, na_lt, M_t14, h0, if_false, e4, Option.bind_some, M_ref4], R.rk ke14 (by omega)⟩
/-- a change behind a kept turn -/
theorem op_turn {k0 k1 k2 k3 k4 k5 k6 k7 : Mem} (R : RR A m0 (px A h1) m3 m4 [k0, k1, k2, k3, k4, k5, k6, k7] m13 (pm A M)) : ∃ m4' j0 j1 j2 j3 j4 j5 j6 j7 M', f_X5_keep m4 k0 k1 k2 k3 k4 k5 k6 k7 (px A h1) = some (m4', j0, j1, j2, j3, j4, j5, j6, j7) ∧ f_X7_keepTurn (pm A (M14 M)) = some (pm A M') ∧ ∀ B h2, WF B → RR B m0 (px B h2) m3 m4' [j0, j1, j2, j3, j4, j5, j6, j7] m13 (pm B M') := by
  obtain ⟨a1, a2, a3, a4, a5, a6, a7, ol, np, b1, b2, b3, b4, b5, b6, b7⟩ := R
  obtain ⟨m4', j0, j1, j2, j3, j4, j5, j6, j7, q, c1, ⟨kq, c2⟩, c3, c4, c5⟩ := X_keep (A := A) (h := h1) (k0 := k0) (k1 := k1) (k2 := k2) (k3 := k3) (k4 := k4) (k5 := k5) (k6 := k6) (k7 := k7) b1 b2 b3 b4
  have h32 : M14 M 0 32 = nI np := by
    rw [pm_0_32] at b5
    rw [← b5]; simp [xs]
  obtain ⟨M', d1, d2, d3, d4, ⟨d5, d6, d7⟩, d8⟩ := M_keep (A := A) (M := M14 M) b2 h32
  have x14 : ∀ p j, p ≠ 0 → M14 M p j = M p j := fun p j hp => by simp only [xs]; rw [if_neg (by omega)]
  refine ⟨m4', j0, j1, j2, j3, j4, j5, j6, j7, M', c1, d1, fun B h2 wf => ⟨wf, px_px.symm, pm_pm.symm, fun j hj => ?_, ?_, ?_, ?_, ?_⟩⟩
  · have := a4 j hj
    rw [pm_10] at this ⊢
    rw [(d8 j).1, x14 10 j (by omega)]
    exact this
  · obtain ⟨n, b1, b2, b3, b4⟩ := a5
    refine ⟨n, b1, b2, ?_, fun j hj => ?_⟩
    · rw [pm_0_37] at b3 ⊢
      rw [d7, ← b3]; simp [xs]
    · obtain ⟨v, c1, c2, c3⟩ := b4 j hj
      refine ⟨v, c1, c2, ?_⟩
      rw [pm_22] at c3 ⊢
      rw [(d8 j).2.2.2, x14 22 j (by omega)]
      exact c3
  · obtain ⟨n, b1, b2, b3, b4⟩ := a6
    refine ⟨n, b1, b2, ?_, fun j => ?_⟩
    · rw [pm_0_26] at b3 ⊢
      rw [d6, ← b3]; simp [xs]
    · obtain ⟨C, c1, c2, c3⟩ := b4 j
      refine ⟨C, c1, c2, fun k hk h6 => ?_⟩
      have := c3 k hk h6
      rw [pm_16] at this ⊢
      rw [(d8 k).2.2.1, x14 16 k (by omega)]
      exact this
  · obtain ⟨n, b1, b2, b3, b4⟩ := a7
    refine ⟨n, b1, b2, ?_, fun j hj => ?_⟩
    · rw [pm_0_17] at b3 ⊢
      rw [d5, ← b3]; simp [xs]
    · obtain ⟨v, c1, c2, c3⟩ := b4 j hj
      refine ⟨v, c1, c2, ?_⟩
      rw [pm_11] at c3 ⊢
      rw [(d8 j).2.1, x14 11 j (by omega)]
      exact c3
  · have hq : q < 8 := by omega
    have ne : (if np = 8 then 8 else np + 1) ≤ 8 := by split <;> omega
    refine ⟨if np = 8 then (ol + 1) % 8 else ol, if np = 8 then 8 else np + 1, by split <;> omega, ne, c3, c4, by rw [pm_0_32]; exact d2, rfl, fun i hi => ?_⟩
    rw [c2]
    by_cases hl : i + 1 < (if np = 8 then 8 else np + 1)
    · obtain ⟨C, hh, g1, g2, g3⟩ := b7 (if np = 8 then i + 1 else i) (by split at hl <;> split <;> omega)
      refine ⟨C, hh, g1, ?_, fun k hk h6 => ?_⟩
      · have e1 : ((if np = 8 then (ol + 1) % 8 else ol) + i) % 8 = (ol + (if np = 8 then i + 1 else i)) % 8 := by split <;> omega
        have e2 : ((if np = 8 then (ol + 1) % 8 else ol) + i) % 8 ≠ q := by split at hl <;> split <;> omega
        rw [List.getElem?_set_ne (fun z => e2 z.symm), e1]
        exact g2
      · show pm B M' 17 (63 * i + k) = enc C k
        rw [pm_17, d3 i k hl hk, x14 17 _ (by omega)]
        have : pm A M 17 ((63 * if np = 8 then i + 1 else i) + k) = enc C k := g3 k hk h6
        rw [pm_17] at this
        exact this
    · have e0 : i = (if np = 8 then 8 else np + 1) - 1 := by split at hl <;> split at hi <;> split <;> omega
      have e1 : ((if np = 8 then (ol + 1) % 8 else ol) + i) % 8 = q := by
        rw [e0]
        split <;> omega
      refine ⟨A, kq, a1, ?_, fun k hk h6 => ?_⟩
      · rw [e1, List.getElem?_set_self (by show q < 8; exact hq)]
      · show pm B M' 17 (63 * i + k) = enc A k
        rw [pm_17, e0]
        exact d4 k hk h6

theorem op_slack {k0 k1 k2 k3 k4 k5 k6 k7 : Mem} (R : RR A m0 (px A h1) m3 m4 [k0, k1, k2, k3, k4, k5, k6, k7] m13 (pm A M)) (a : Int32) : ∃ r m0' m1' m4' j0 j1 j2 j3 j4 j5 j6 j7 M' A', f_X6_slack m0 (px A h1) m4 k0 k1 k2 k3 k4 k5 k6 k7 a = some (r, m0', m1', m4', j0, j1, j2, j3, j4, j5, j6, j7) ∧ f_X7_slack (pm A M) a = some (r, M') ∧ RR A' m0' m1' m3 m4' [j0, j1, j2, j3, j4, j5, j6, j7] m13 M' := by
  have wf := R.1
  have wb := wf.1
  have e4 : ¬ (0 : Int32) ≤ -4 := by decide
  have e6 : ¬ (0 : Int32) ≤ -6 := by decide
  have e0 : (0 : Int32) ≤ 0 := by decide
  by_cases h0 : (0 : Int32) ≤ a
  · by_cases h9 : a ≤ 9
    · obtain ⟨t, ht, rfl⟩ := nI_of2 (n := 9) (M := 9) rfl (fun z => by rw [fa_lt] at z; rw [fa_le] at h0; omega) h9
      obtain ⟨m4', j0, j1, j2, j3, j4, j5, j6, j7, M', c1, c2, c3⟩ := op_turn R
      have wf2 : WF (ua A 0 13 t) := ⟨WB_ua wb (by unfold okv; omega), WO_of wf.2 (fun j hj => ua_n (by omega)) (fun p j g1 g2 _ => ua_n (by omega)) wb⟩
      refine ⟨nI (A 0 13), m0, px (ua A 0 13 t) h1, m4', j0, j1, j2, j3, j4, j5, j6, j7, pm (ua A 0 13 t) M', ua A 0 13 t, ?_, ?_, c3 _ _ wf2⟩
      · simp only [f_X6_slack, h0, h9, if_true, c1, Option.bind_some, na_lt, px_0_13, px_w0_13]
      · simp only [f_X7_slack, f_X7_wrongNumber, na_lt, M_t14, h0, h9, e0, if_true, Option.bind_some, c2, pm_0_13, pm_w0_13]
    · exact ⟨-6, rf m0 2 6, px A h1, m4, k0, k1, k2, k3, k4, k5, k6, k7, pm A (rf (M14 M) 10 6), A, by simp only [f_X6_slack, h0, h9, if_true, if_false, X_ref6, Option.bind_some], by simp only [f_X7_slack, f_X7_wrongNumber, na_lt, M_t14, h0, h9, if_true, if_false, e6, Option.bind_some, M_ref6], R.rk ke14 (by omega)⟩
  · exact ⟨-4, rf m0 2 4, px A h1, m4, k0, k1, k2, k3, k4, k5, k6, k7, pm A (rf (M14 M) 10 4), A, by simp only [f_X6_slack, h0, if_false, X_ref4, Option.bind_some], by simp only [f_X7_slack, f_X7_wrongNumber, na_lt, M_t14, h0, if_false, e4, Option.bind_some, M_ref4], R.rk ke14 (by omega)⟩
theorem op_rests {k0 k1 k2 k3 k4 k5 k6 k7 : Mem} (R : RR A m0 (px A h1) m3 m4 [k0, k1, k2, k3, k4, k5, k6, k7] m13 (pm A M)) (a : Int32) : ∃ r m0' m1' m4' j0 j1 j2 j3 j4 j5 j6 j7 M' A', f_X6_rests m0 (px A h1) m4 k0 k1 k2 k3 k4 k5 k6 k7 a = some (r, m0', m1', m4', j0, j1, j2, j3, j4, j5, j6, j7) ∧ f_X7_rests (pm A M) a = some (r, M') ∧ RR A' m0' m1' m3 m4' [j0, j1, j2, j3, j4, j5, j6, j7] m13 M' := by
  have wf := R.1
  have wb := wf.1
  have e4 : ¬ (0 : Int32) ≤ -4 := by decide
  have e6 : ¬ (0 : Int32) ≤ -6 := by decide
  have e0 : (0 : Int32) ≤ 0 := by decide
  by_cases h0 : (1 : Int32) ≤ a
  · by_cases h9 : a ≤ 30
    · obtain ⟨t, ht, rfl⟩ := nI_of2 (n := 30) (M := 30) rfl (fun z => by rw [fa_lt] at z; rw [fa_le] at h0; have : (1 : Int32).toInt = 1 := rfl; have : (0 : Int32).toInt = 0 := rfl; omega) h9
      obtain ⟨m4', j0, j1, j2, j3, j4, j5, j6, j7, M', c1, c2, c3⟩ := op_turn R
      refine ⟨nI (A 0 12), m0, px (reA A t) h1, m4', j0, j1, j2, j3, j4, j5, j6, j7, pm (reA A t) M', reA A t, ?_, ?_, c3 _ _ (WF_reA wf)⟩
      · simp only [f_X6_rests, h0, h9, if_true, c1, Option.bind_some, na_lt, px_0_12, X_restClerk wb (by omega : t ≤ 1000)]
      · simp only [f_X7_rests, f_X7_wrongNumber, na_lt, M_t14, h0, h9, e0, if_true, Option.bind_some, c2, pm_0_12, M_restFor wb (by omega : t ≤ 1000)]
    · exact ⟨-6, rf m0 2 6, px A h1, m4, k0, k1, k2, k3, k4, k5, k6, k7, pm A (rf (M14 M) 10 6), A, by simp only [f_X6_rests, h0, h9, if_true, if_false, X_ref6, Option.bind_some], by simp only [f_X7_rests, f_X7_wrongNumber, na_lt, M_t14, h0, h9, if_true, if_false, e6, Option.bind_some, M_ref6], R.rk ke14 (by omega)⟩
  · exact ⟨-4, rf m0 2 4, px A h1, m4, k0, k1, k2, k3, k4, k5, k6, k7, pm A (rf (M14 M) 10 4), A, by simp only [f_X6_rests, h0, if_false, X_ref4, Option.bind_some], by simp only [f_X7_rests, f_X7_wrongNumber, na_lt, M_t14, h0, if_false, e4, Option.bind_some, M_ref4], R.rk ke14 (by omega)⟩
theorem op_weds {k0 k1 k2 k3 k4 k5 k6 k7 : Mem} (R : RR A m0 (px A h1) m3 m4 [k0, k1, k2, k3, k4, k5, k6, k7] m13 (pm A M)) (a : Int32) : ∃ r m0' m1' m4' j0 j1 j2 j3 j4 j5 j6 j7 M' A', f_X6_weds m0 (px A h1) m4 k0 k1 k2 k3 k4 k5 k6 k7 a = some (r, m0', m1', m4', j0, j1, j2, j3, j4, j5, j6, j7) ∧ f_X7_weds (pm A M) a = some (r, M') ∧ RR A' m0' m1' m3 m4' [j0, j1, j2, j3, j4, j5, j6, j7] m13 M' := by
  have wf := R.1
  have wb := wf.1
  have w3 := wb.2.2.1
  have e3 : ¬ (0 : Int32) ≤ -3 := by decide
  have e4 : ¬ (0 : Int32) ≤ -4 := by decide
  have e6 : ¬ (0 : Int32) ≤ -6 := by decide
  have e40 : ¬ (-4 : Int32) = 0 := by decide
  have e60 : ¬ (-6 : Int32) = 0 := by decide
  have e0 : (0 : Int32) ≤ 0 := by decide
  by_cases h0 : (1 : Int32) ≤ a
  · by_cases h9 : a ≤ 7
    · obtain ⟨t, ht, rfl⟩ := nI_of2 (n := 7) (M := 7) rfl (fun z => by rw [fa_lt] at z; rw [fa_le] at h0; have : (1 : Int32).toInt = 1 := rfl; have : (0 : Int32).toInt = 0 := rfl; omega) h9
      have ht1 : 1 ≤ t := (nI_leI (a := 1) (by omega) (by omega)).mp h0
      by_cases hw : t ≤ A 0 8
      · have hw' : nI t ≤ nI (A 0 8) := nI_le hw (by omega)
        obtain ⟨m4', j0, j1, j2, j3, j4, j5, j6, j7, M', c1, c2, c3⟩ := op_turn R
        have f7 := (wb.2.2.2.2.2.2.2 (t - 1) (by omega)).2.2.2.2.2.2
        have s1 : nI t - 1 = nI (t - 1) := pk_sub (b := 1) ht1
        have i1 := na_inb (c := t - 1) (n := 7) (by omega) (by omega)
        have x1 := na_ix (n := t - 1) (by omega)
        have i2 := na_inb f7 (by omega : (7 : Nat) < 2147483648)
        have x2 := na_ix (n := A 7 (t - 1)) (by omega)
        refine ⟨nI (weN A t 5 (A 7 (t - 1))), m0, px (weN A t) h1, m4', j0, j1, j2, j3, j4, j5, j6, j7, pm (weN A t) M', weN A t, ?_, ?_, c3 _ _ (WF_weN wf t hw)⟩
        · simp only [f_X6_weds, h0, h9, if_true, px_0_8, hw', c1, Option.bind_some, na_lt, s1, i1, na_ck, x1, px_7 (by omega : t - 1 < 7), X_wedSome wb hw, i2, x2, px_5 f7]
        · simp only [f_X7_weds, f_X7_wrongNumber, na_lt, M_t14, h0, h9, e0, if_true, Option.bind_some, pm_0_9, hw', c2, s1, i1, na_ck, x1, pm_8 (by omega : t - 1 < 7), M_wedsCome wb ht1 hw, i2, x2, pm_6 f7]
      · have hw' : ¬ nI t ≤ nI (A 0 8) := nI_ge (by omega) (by omega)
        exact ⟨-3, rf m0 2 3, px A h1, m4, k0, k1, k2, k3, k4, k5, k6, k7, pm A (rf (M14 M) 10 3), A, by simp only [f_X6_weds, h0, h9, if_true, px_0_8, hw', if_false, X_ref3, Option.bind_some], by simp only [f_X7_weds, f_X7_wrongNumber, na_lt, M_t14, h0, h9, if_true, Option.bind_some, pm_0_9, hw', if_false, e3, M_ref3], R.rk ke14 (by omega)⟩
    · exact ⟨-6, rf m0 2 6, px A h1, m4, k0, k1, k2, k3, k4, k5, k6, k7, pm A (rf (M14 M) 10 6), A, by simp only [f_X6_weds, h0, h9, if_true, if_false, X_ref6, Option.bind_some], by simp only [f_X7_weds, f_X7_wrongNumber, na_lt, M_t14, h0, h9, if_true, if_false, e60, e6, Option.bind_some, M_ref6], R.rk ke14 (by omega)⟩
  · exact ⟨-4, rf m0 2 4, px A h1, m4, k0, k1, k2, k3, k4, k5, k6, k7, pm A (rf (M14 M) 10 4), A, by simp only [f_X6_weds, h0, if_false, X_ref4, Option.bind_some], by simp only [f_X7_weds, f_X7_wrongNumber, na_lt, M_t14, h0, if_false, e40, e4, Option.bind_some, M_ref4], R.rk ke14 (by omega)⟩
theorem op_pulls {k0 k1 k2 k3 k4 k5 k6 k7 : Mem} (R : RR A m0 (px A h1) m3 m4 [k0, k1, k2, k3, k4, k5, k6, k7] m13 (pm A M)) (a : Int32) : ∃ r m0' m1' m4' j0 j1 j2 j3 j4 j5 j6 j7 M' A', f_X6_pulls m0 (px A h1) m4 k0 k1 k2 k3 k4 k5 k6 k7 a = some (r, m0', m1', m4', j0, j1, j2, j3, j4, j5, j6, j7) ∧ f_X7_pulls (pm A M) a = some (r, M') ∧ RR A' m0' m1' m3 m4' [j0, j1, j2, j3, j4, j5, j6, j7] m13 M' := by
  have wf := R.1
  have wb := wf.1
  have w1 := wb.1
  have e1 : ¬ (0 : Int32) ≤ -1 := by decide
  have e3 : ¬ (0 : Int32) ≤ -3 := by decide
  have e0 : (0 : Int32) ≤ 0 := by decide
  have e2 : ¬ (1 : Int32) = 0 := by decide
  rcases na_cs a (n := A 0 0) (by omega) with ho | ⟨c, hc, rfl⟩
  · exact ⟨-1, rf m0 2 1, px A h1, m4, k0, k1, k2, k3, k4, k5, k6, k7, pm A (rf (M14 M) 10 1), A, by simp only [f_X6_pulls, X_has_out ho, Option.bind_some, if_true, X_ref1], by simp only [f_X7_pulls, na_lt, M_t14, M_has_out wb ho, Option.bind_some, if_true, e1, if_false, M_ref1], R.rk ke14 (by omega)⟩
  · have hc7 : c < 7 := by omega
    have i7 := na_inb hc7 (by omega : (7 : Nat) < 2147483648)
    have x7 := na_ix (by omega : c < 2147483648)
    have hb : A 0 4 / 2 ^ c % 2 < 2 := Nat.mod_lt _ (by omega)
    by_cases hwd : A 0 4 / 2 ^ c % 2 = 0
    · obtain ⟨i, g1, g2⟩ := wf.2.2.2.2.1 c hc hwd
      have hf : ∀ k, k < A 0 8 → k ≠ i → A 7 k ≠ c := fun k hk hne e => by
        rcases Nat.lt_or_ge k i with h | h
        · exact wf.2.2.2.1 k i h g1 (by rw [e, g2])
        · exact wf.2.2.2.1 i k (by omega) hk (by rw [e, g2])
      have hf2 : ∀ k, k < i → A 7 k ≠ c := fun k hk => hf k (by omega) (by omega)
      obtain ⟨m4', j0, j1, j2, j3, j4, j5, j6, j7, M', c1, c2, c3⟩ := op_turn R
      have q0 : (nI (A 0 4 / 2 ^ c % 2) : Int32) = 0 := by rw [hwd]; rfl
      have q1 : ¬ (nI (A 0 4 / 2 ^ c % 2) : Int32) = 1 := by rw [hwd]; decide
      have wf2 := WF_pfA wf g1
      rw [g2] at wf2
      refine ⟨nI i, m0, px (pfA A i c) h1, m4', j0, j1, j2, j3, j4, j5, j6, j7, pm (pfA A i c) M', pfA A i c, ?_, ?_, c3 _ _ wf2⟩
      · simp only [f_X6_pulls, X_has_in wb hc, Option.bind_some, e2, if_false, X_isWed wb hc7, q0, if_true, c1, X_placeOf_at wb g1 g2 hf2, X_putFirst wb g1 g2 hf2]
      · simp only [f_X7_pulls, na_lt, M_t14, M_has_in wb hc, Option.bind_some, e2, if_false, i7, na_ck, x7, pm_4 hc7, q1, e0, if_true, c2, M_placeOf_at wb g1 g2 hf, M_putFirst wb g1 g2 hf]
    · have hwd1 : A 0 4 / 2 ^ c % 2 = 1 := by omega
      have q0 : ¬ (nI (A 0 4 / 2 ^ c % 2) : Int32) = 0 := by rw [hwd1]; decide
      have q1 : (nI (A 0 4 / 2 ^ c % 2) : Int32) = 1 := by rw [hwd1]; rfl
      exact ⟨-3, rf m0 2 3, px A h1, m4, k0, k1, k2, k3, k4, k5, k6, k7, pm A (rf (M14 M) 10 3), A, by simp only [f_X6_pulls, X_has_in wb hc, Option.bind_some, e2, if_false, X_isWed wb hc7, q0, X_ref3], by simp only [f_X7_pulls, na_lt, M_t14, M_has_in wb hc, Option.bind_some, e2, if_false, i7, na_ck, x7, pm_4 hc7, q1, if_true, e3, M_ref3], R.rk ke14 (by omega)⟩
end OPS4

