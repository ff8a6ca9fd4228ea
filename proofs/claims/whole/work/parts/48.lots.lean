/-! CALLS that try, on: lots -/
section OPS10
variable {A B C : AM} {m0 h1 h m2 m3 m4 m13 M : Mem} {ks : List Mem}
theorem nI_bv (s : Int32) : nI s.toBitVec.toNat = s := by
  apply Int32.toBitVec_inj.mp
  show BitVec.ofNat 32 s.toBitVec.toNat = s.toBitVec
  simp
def drw (s : Int32) : Nat := s.toBitVec.toNat % 2 ^ 31 / 65536 % 10
theorem drw_lt (s : Int32) : drw s < 10 := Nat.mod_lt _ (by omega)
theorem drw_is (s : Int32) : ((s &&& 2147483647) / 65536) - ((s &&& 2147483647) / 65536) / 10 * 10 = nI (drw s) := by
  have e : s &&& 2147483647 = nI (s.toBitVec.toNat % 2 ^ 31) := by
    have := fa_mask s.toBitVec.toNat 31
    rw [nI_bv] at this
    exact this
  have l : s.toBitVec.toNat % 2 ^ 31 < 2 ^ 31 := Nat.mod_lt _ (by omega)
  rw [e, show (65536 : Int32) = nI 65536 from rfl, pk_div l (by omega) (by omega), show (10 : Int32) = nI 10 from rfl, pk_rem (by omega) (by omega) (by omega)]
  rfl
def nxs (s : Int32) : Int32 := s * 1103515245 + 12345
def sds (A : AM) (s : Int32) : Nat → Int32
  | 0 => s
  | j + 1 => if uw A j then nxs (sds A s j) else sds A s j
def lzJ (A : AM) (s : Int32) (j : Nat) : AM := fun p q => if p = 2 ∧ q < j ∧ uw A q then drw (sds A s (q + 1)) else A p q
theorem lzJ_n {s : Int32} {j p q : Nat} (h : p ≠ 2) : lzJ A s j p q = A p q := if_neg (fun z => h z.1)
theorem lzJ_s {s : Int32} {j : Nat} : ua (lzJ A s j) 2 j (if uw A j then drw (sds A s (j + 1)) else A 2 j) = lzJ A s (j + 1) := by
  funext p q
  simp only [ua, lzJ]
  by_cases e : p = 2 ∧ q = j
  · obtain ⟨rfl, rfl⟩ := e
    rw [if_pos ⟨rfl, rfl⟩]
    by_cases e2 : uw A q
    · rw [if_pos e2, if_pos ⟨rfl, by omega, e2⟩]
    · rw [if_neg e2, if_neg (fun z => e2 z.2.2)]
  · rw [if_neg e]
    by_cases e2 : p = 2 ∧ q < j ∧ uw A q
    · rw [if_pos e2, if_pos ⟨e2.1, by omega, e2.2.2⟩]
    · rw [if_neg e2, if_neg (fun z => e2 ⟨z.1, by
        have : q ≠ j := fun w => e ⟨z.1, w⟩
        omega, z.2.2⟩)]
theorem lzJ_at {s : Int32} {j : Nat} : lzJ A s j 2 j = A 2 j := if_neg (by omega)
theorem lzJ_0 {s : Int32} : lzJ A s 0 = A := by
  funext p q
  simp only [lzJ]
  rw [if_neg (by omega)]
theorem lzJ_wed {s : Int32} {j : Nat} (e : ¬ uw A j) : lzJ A s (j + 1) = lzJ A s j := by
  rw [← lzJ_s, if_neg e]
  funext p q
  simp only [ua]
  split
  · next z => obtain ⟨rfl, rfl⟩ := z; exact lzJ_at.symm
  · rfl
theorem WB_lz (w : WB A) {s : Int32} {j : Nat} : WB (lzJ A s j) := by
  obtain ⟨w1, w2, w3, ⟨w4, w5⟩, w6, w7, ⟨w8, w9⟩, w10⟩ := w
  refine ⟨by rw [lzJ_n (by omega)]; exact w1, by rw [lzJ_n (by omega)]; exact w2, by rw [lzJ_n (by omega)]; exact w3, ⟨by rw [lzJ_n (by omega)]; exact w4, by rw [lzJ_n (by omega)]; exact w5⟩, by rw [lzJ_n (by omega)]; exact w6, by rw [lzJ_n (by omega)]; exact w7, ⟨by rw [lzJ_n (by omega)]; exact w8, by rw [lzJ_n (by omega)]; exact w9⟩, fun q hq => ?_⟩
  obtain ⟨c1, c2, c3, c4, c5, c6, c7⟩ := w10 q hq
  refine ⟨by rw [lzJ_n (by omega)]; exact c1, ?_, by rw [lzJ_n (by omega)]; exact c3, by rw [lzJ_n (by omega)]; exact c4, by rw [lzJ_n (by omega)]; exact c5, by rw [lzJ_n (by omega)]; exact c6, by rw [lzJ_n (by omega)]; exact c7⟩
  have q3 : lzJ A s j 2 q = if q < j ∧ uw A q then drw (sds A s (q + 1)) else A 2 q := by simp [lzJ]
  have := drw_lt (sds A s (q + 1))
  rw [q3]
  split <;> omega
theorem X_lots65 (w : WB A) {s : Int32} {t : Mem} : f_X6_lots_L65 (px A h1) 6000 s 0 (px A t) = some (sds A s (A 0 0), px (lzJ A s (A 0 0)) t) := by
  have w1 := w.1
  have := lp (r := some (sds A s (A 0 0), px (lzJ A s (A 0 0)) t)) (fun f (z : Int32 × Mem) i => f_X6_lots_L65 (px A h1) f z.1 i z.2) (A 0 0) (fun j => (sds A s j, px (lzJ A s j) t)) (fun f => ?_) (fun f j hj => ?_) (A 0 0) 0 6000 (by omega) (by omega)
  · rw [lzJ_0] at this
    exact this
  · show f_X6_lots_L65 _ (f + 1) _ _ _ = _
    rw [f_X6_lots_L65, px_0_0, if_pos (nI_le (Nat.le_refl _) (by omega))]
  · show f_X6_lots_L65 _ (f + 1) _ _ _ = f_X6_lots_L65 _ f _ _ _
    dsimp only
    rw [f_X6_lots_L65, px_0_0, if_neg (nI_ge hj (by omega)), X_isWed w (by omega), Option.bind_some]
    have z := lzJ_s (A := A) (s := s) (j := j)
    by_cases e : uw A j
    · rw [if_pos e] at z
      have n : sds A s (j + 1) = (sds A s j * 1103515245) + 12345 := by rw [sds, if_pos e]; rfl
      rw [if_pos (uw_0 e), na_lt, ← n, na_inb (by omega) (by omega), na_ck, na_ix (by omega), drw_is, px_w2 (by omega), na_lt, na_lt, nI_1, z]
    · rw [if_neg (uw_1 e), na_lt, nI_1, lzJ_wed e, sds, if_neg e]
theorem M_lots55 (w : WB A) {s : Int32} : ∀ r j f W, j + r = A 0 0 → r < f → W 0 38 = sds A s j → KP A W → ∃ W', f_X7_lots_L55 f (nI j) (pm (lzJ A s j) W) = some (pm (lzJ A s (A 0 0)) W') ∧ KP A W' ∧ KE W W' ∧ W' 0 38 = sds A s (A 0 0)
  | 0, j, f, W, hj, hf, hW, hK => by
    have w1 := w.1
    obtain ⟨g, rfl⟩ : ∃ g, f = g + 1 := ⟨f - 1, by omega⟩
    have : j = A 0 0 := by omega
    subst this
    refine ⟨W, ?_, hK, KE.rf, hW⟩
    rw [f_X7_lots_L55, pm_0_0, lzJ_n (by omega), if_pos (nI_le (Nat.le_refl _) (by omega))]
  | r + 1, j, f, W, hj, hf, hW, hK => by
    have w1 := w.1
    obtain ⟨g, rfl⟩ : ∃ g, f = g + 1 := ⟨f - 1, by omega⟩
    have z := lzJ_s (A := A) (s := s) (j := j)
    have p4 : pm (lzJ A s j) W 4 j = nI (A 0 4 / 2 ^ j % 2) := by rw [pm_4 (by omega), lzJ_n (by omega)]
    rw [f_X7_lots_L55, pm_0_0, lzJ_n (by omega), if_neg (nI_ge (by omega) (by omega)), na_inb (by omega) (by omega), na_ck, na_ix (by omega), p4]
    by_cases e : uw A j
    · rw [if_pos e] at z
      have n : sds A s (j + 1) = (sds A s j * 1103515245) + 12345 := by rw [sds, if_pos e]; rfl
      obtain ⟨W', g1, g2, g3, g4⟩ := M_lots55 w (s := s) r (j + 1) g (xs W 0 38 (sds A s (j + 1))) (by omega) (by omega) (by simp [xs]) (kp_xs hK (by omega))
      refine ⟨W', ?_, g2, (ke_xs (by unfold scr; omega)).trans g3, g4⟩
      have d : f_X7_drawBelow (pm (lzJ A s j) W) 10 = some (nI (drw (sds A s (j + 1))), pm (lzJ A s j) (xs W 0 38 (sds A s (j + 1)))) := by
        have c10 : (!decide ((10 : Int32) = 0)) = true := by decide
        unfold f_X7_drawBelow
        rw [na_lt, pm_0_38, hW, ← n, pm_off (by omega), pm_0_38, c10, na_ck, show xs W 0 38 (sds A s (j + 1)) 0 38 = sds A s (j + 1) by simp [xs], drw_is]
      rw [if_pos (uw_0 e), d, Option.bind_some, na_ck, na_lt, pm_w2 (by omega), na_lt, nI_1, z]
      exact g1
    · rw [if_neg e] at z
      obtain ⟨W', g1, g2, g3, g4⟩ := M_lots55 w (s := s) r (j + 1) g W (by omega) (by omega) (by rw [sds, if_neg e]; exact hW) hK
      refine ⟨W', ?_, g2, g3, g4⟩
      rw [if_neg (uw_1 e), na_ck, na_ck, pm_2 (by omega), lzJ_at, pm_w2 (by omega), na_lt, na_lt, nI_1, z]
      exact g1
theorem tk_38 {W : Mem} : tk A W 0 38 = W 0 38 := stt_off (by omega) (by simp [ci]) (by omega)
theorem ag_38 {W : Mem} : ag A W 0 38 = W 0 38 := stt_off (by omega) (by simp [ci]) (by omega)
/-- the Saturdays by lot: sum and seed -/
def lsC (A : AM) (b : Bool) (s : Int32) : Nat := if b then mtS (wal (lzJ A s (A 0 0))) else allL (wal (lzJ A s (A 0 0)))
def lsT (A : AM) (b : Bool) (s : Int32) : Nat → Int32 × Int32
  | 0 => (0, s)
  | i + 1 => ((lsT A b s i).1 + nI (lsC A b (lsT A b s i).2), sds A (lsT A b s i).2 (A 0 0))
theorem X_lots50 (w : WB A) {b : Bool} {s : Int32} {n : Nat} (hn : n ≤ 20) {m : Mem} : ∃ C', f_X6_lots_L50 m0 (px A h1) (nI n) (if b then 1 else 0) 6000 0 s 0 m = some ((lsT A b s n).1, C') := by
  have := lpi (fun f (z : Int32 × Int32 × Mem) i => f_X6_lots_L50 m0 (px A h1) (nI n) (if b then 1 else 0) f z.1 z.2.1 i z.2.2) n (fun j t => ∃ C, t = ((lsT A b s j).1, (lsT A b s j).2, C)) (fun t => ∃ C', t = ((lsT A b s n).1, C')) (fun f t ht => ?_) (fun f j t hj ht => ?_) n 0 6000 (0, s, m) (by omega) (by omega) ⟨m, rfl⟩
  · obtain ⟨t, g1, C', rfl⟩ := this
    exact ⟨C', g1⟩
  · obtain ⟨C, rfl⟩ := ht
    refine ⟨_, ?_, C, rfl⟩
    show f_X6_lots_L50 _ _ _ _ (f + 1) _ _ _ _ = _
    dsimp only
    rw [f_X6_lots_L50, if_pos (nI_le (Nat.le_refl _) (by omega))]
  · obtain ⟨C, rfl⟩ := ht
    have wb := WB_lz w (s := (lsT A b s j).2) (j := A 0 0)
    refine ⟨((lsT A b s (j + 1)).1, (lsT A b s (j + 1)).2, px (wal (lzJ A (lsT A b s j).2 (A 0 0))) C), ⟨_, rfl⟩, ?_⟩
    show f_X6_lots_L50 _ _ _ _ (f + 1) _ _ _ _ = f_X6_lots_L50 _ _ _ _ f _ _ _ _
    dsimp only
    rw [f_X6_lots_L50, if_neg (nI_ge hj (by omega)), X_asNow, Option.bind_some, X_lots65 w, Option.bind_some, X_wedAll wb, Option.bind_some]
    cases b
    · have n0 : ((if false = true then 1 else 0 : Int32) = 0) := by decide
      rw [if_pos n0, X_allLate (WB_wal wb), Option.bind_some, na_lt, na_lt, nI_1]
      rfl
    · have n0 : ¬ ((if true = true then 1 else 0 : Int32) = 0) := by decide
      rw [if_neg n0, X_meetings (WB_wal wb), Option.bind_some, na_lt, na_lt, nI_1]
      rfl
theorem M_lots46 (w : WB A) {b : Bool} {s : Int32} {n : Nat} (hn : n ≤ 20) {W : Mem} (hK : KP A W) (hs : W 0 38 = s) : ∃ W', f_X7_lots_L46 (nI n) (if b then 1 else 0) 6000 0 0 (pm A W) = some ((lsT A b s n).1, pm A W') ∧ KE W W' := by
  have w1 := w.1
  have := lpi (fun f (z : Int32 × Mem) i => f_X7_lots_L46 (nI n) (if b then 1 else 0) f z.1 i z.2) n (fun j t => ∃ W', t = ((lsT A b s j).1, pm A W') ∧ KP A W' ∧ KE W W' ∧ W' 0 38 = (lsT A b s j).2) (fun t => ∃ W', t = ((lsT A b s n).1, pm A W') ∧ KE W W') (fun f t ht => ?_) (fun f j t hj ht => ?_) n 0 6000 (0, pm A W) (by omega) (by omega) ⟨W, rfl, hK, KE.rf, hs⟩
  · obtain ⟨t, g1, C', rfl, g2⟩ := this
    exact ⟨C', g1, g2⟩
  · obtain ⟨C, rfl, hk, he, -⟩ := ht
    refine ⟨_, ?_, C, rfl, he⟩
    show f_X7_lots_L46 _ _ (f + 1) _ _ _ = _
    dsimp only
    rw [f_X7_lots_L46, if_pos (nI_le (Nat.le_refl _) (by omega))]
  · obtain ⟨C, rfl, hk, he, h38⟩ := ht
    have wb := WB_lz w (s := (lsT A b s j).2) (j := A 0 0)
    obtain ⟨W1, g1, g2, g3, g4⟩ := M_lots55 w (s := (lsT A b s j).2) (A 0 0) 0 6000 C (by omega) (by omega) h38 hk
    rw [lzJ_0] at g1
    refine ⟨((lsT A b s (j + 1)).1, pm A (ag A W1)), ⟨_, rfl, kp_ag g2, (he.trans g3).trans ke_ag, by rw [ag_38, g4]; rfl⟩, ?_⟩
    show f_X7_lots_L46 _ _ (f + 1) _ _ _ = f_X7_lots_L46 _ _ f _ _ _
    dsimp only
    rw [f_X7_lots_L46, if_neg (nI_ge hj (by omega)), show (0 : Int32) = nI 0 from rfl, g1, Option.bind_some, M_lateNow wb, Option.bind_some, na_lt]
    cases b
    · have n0 : ((if false = true then 1 else nI 0 : Int32) = nI 0) := by decide
      rw [if_pos n0, Option.bind_some, na_lt, M_again g2, Option.bind_some, na_lt, nI_1]
      rfl
    · have n0 : ¬ ((if true = true then 1 else nI 0 : Int32) = nI 0) := by decide
      rw [if_neg n0, M_meetings (WB_wal wb), Option.bind_some, Option.bind_some, na_lt, M_again g2, Option.bind_some, na_lt, nI_1]
      rfl
theorem op_lots (R : RR A m0 (px A h1) m3 m4 ks m13 (pm A M)) (m2 : Mem) (a b c : Int32) : ∃ r m0' m2' M', f_X6_lots m0 (px A h1) m2 a b c = some (r, m0', m2') ∧ f_X7_lots (pm A M) a b c = some (r, M') ∧ RR A m0' (px A h1) m3 m4 ks m13 M' := by
  have wf := R.1
  have wb := wf.1
  have e0 : (0 : Int32) ≤ 0 := by decide
  by_cases h1' : 1 ≤ a
  · by_cases h20 : a ≤ 20
    · have ha : ¬ a < 0 := fun z => by
        rw [fa_le] at h1'
        rw [fa_lt] at z
        have q1 : (1 : Int32).toInt = 1 := by decide
        have q0 : (0 : Int32).toInt = 0 := by decide
        omega
      obtain ⟨n, hn, rfl⟩ := nI_of2 (n := 20) (M := 20) rfl ha h20
      have key : ∀ d : Bool, c = (if d then 1 else 0) → ∃ r m0' m2' M', f_X6_lots m0 (px A h1) m2 (nI n) b c = some (r, m0', m2') ∧ f_X7_lots (pm A M) (nI n) b c = some (r, M') ∧ RR A m0' (px A h1) m3 m4 ks m13 M' := by
        intro d hd
        obtain ⟨C', c1⟩ := X_lots50 (m0 := m0) (h1 := h1) (b := d) (s := b) (m := m2) wb hn
        obtain ⟨W', d1, d2⟩ := M_lots46 (b := d) (s := b) wb hn (kp_tk (A := A) (M := xs (M14 M) 0 38 b)) (by rw [tk_38]; simp [xs])
        rw [← hd] at c1 d1
        refine ⟨(lsT A d b n).1, m0, C', pm A W', ?_, ?_, R.kp (ke14.trans ((ke_xs (by unfold scr; omega)).trans (ke_tk.trans d2)))⟩
        · have : f_X6_lots_J41 m0 (px A h1) m2 (nI n) b c = some ((lsT A d b n).1, m0, C') := by
            unfold f_X6_lots_J41 f_X6_lots_J50
            rw [c1, Option.bind_some]
          unfold f_X6_lots
          rw [if_pos h1', if_pos h20, this]
          cases d
          · have n0 : c = 0 := hd
            rw [if_pos n0]
          · have n0 : ¬ c = 0 := by rw [hd]; decide
            have n1 : c = 1 := hd
            rw [if_neg n0, if_pos n1]
        · have hw : f_X7_wrongBit 0 c 1 = some 0 := by
            cases d
            · rw [hd]; exact M_wb_in (j := 0) (k := 1) (by omega) (by omega)
            · rw [hd]; exact M_wb_in (j := 1) (k := 1) (by omega) (by omega)
          have hn' : f_X7_wrongNumber (nI n) 1 20 = some 0 := by
            unfold f_X7_wrongNumber
            rw [if_pos h1', if_pos h20]
          have e1 : xs (pm A (M14 M)) 0 38 b = pm A (xs (M14 M) 0 38 b) := pm_off (by omega)
          unfold f_X7_lots
          rw [na_lt, M_t14, hn', Option.bind_some, hw, Option.bind_some, if_pos e0, na_lt, e1, M_think, Option.bind_some, d1, Option.bind_some]
      rcases na_cs c (n := 2) (by omega) with ho | ⟨j, hj, rfl⟩
      · have n0 : ¬ c = 0 := out_ne ho (j := 0) (by omega) (by omega)
        have n1 : ¬ c = 1 := out_ne ho (j := 1) (by omega) (by omega)
        have hw : f_X7_wrongBit 0 c 1 = some (-2) := M_wb_out (k := 1) ho rfl (by omega)
        have e2 : ¬ (0 : Int32) ≤ -2 := by decide
        exact ⟨-2, rf m0 2 2, m2, pm A (rf (M14 M) 10 2), by simp only [f_X6_lots, h1', h20, n0, n1, if_true, if_false, X_ref2, Option.bind_some], by simp only [f_X7_lots, f_X7_wrongNumber, na_lt, M_t14, h1', h20, if_true, Option.bind_some, hw, e2, if_false, M_ref2], R.rk ke14 (by omega)⟩
      · rcases (by omega : j = 0 ∨ j = 1) with rfl | rfl
        · exact key false rfl
        · exact key true rfl
    · have hw : f_X7_wrongBit (-6) c 1 = some (-6) := M_wb_no (by decide)
      have e6 : ¬ (0 : Int32) ≤ -6 := by decide
      exact ⟨-6, rf m0 2 6, m2, pm A (rf (M14 M) 10 6), by simp only [f_X6_lots, h1', h20, if_true, if_false, X_ref6, Option.bind_some], by simp only [f_X7_lots, f_X7_wrongNumber, na_lt, M_t14, h1', h20, if_true, if_false, Option.bind_some, hw, e6, M_ref6], R.rk ke14 (by omega)⟩
  · have hw : f_X7_wrongBit (-4) c 1 = some (-4) := M_wb_no (by decide)
    have e4 : ¬ (0 : Int32) ≤ -4 := by decide
    exact ⟨-4, rf m0 2 4, m2, pm A (rf (M14 M) 10 4), by simp only [f_X6_lots, h1', if_false, X_ref4, Option.bind_some], by simp only [f_X7_lots, f_X7_wrongNumber, na_lt, M_t14, h1', if_false, Option.bind_some, hw, e4, M_ref4], R.rk ke14 (by omega)⟩
end OPS10
