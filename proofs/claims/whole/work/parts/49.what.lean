/-! WHAT WAS it, by the register -/
section OPS11
variable {A B C : AM} {m0 h1 h m2 m3 m4 m13 M : Mem} {ks : List Mem} {T : Nat → Int32}
def etR (T : Nat → Int32) (B : AM) : Nat → Nat → Bool
  | 0, _ => true
  | r + 1, j => decide (j < B 0 0 ∧ nI (wal B 5 j) = T j) && etR T B r (j + 1)
theorem etR_no : ∀ r j, j ≤ B 0 0 → B 0 0 < j + r → etR T B r j = false
  | 0, j, h1, h2 => by omega
  | r + 1, j, h1, h2 => by
    rw [etR]
    by_cases e : j = B 0 0
    · rw [decide_eq_false (by omega), Bool.false_and]
    · rw [etR_no r (j + 1) (by omega) (by omega), Bool.and_false]
theorem X_ends {np : Nat} (hn : np ≤ 12) (h9 : m0 0 9 = nI np) (w : WB B) : f_X6_endsAsTold m0 (px B m2) = some (if etR (m0 1) B np 0 then 1 else 0, px (wal B) m2) := by
  have w1 := w.1
  have wb := WB_wal w
  have n1 : ¬ (1 : Int32) = 0 := by decide
  have key : ∀ r j f, j + r = np → r < f → f_X6_endsAsTold_L6 m0 (px (wal B) m2) f (nI j) = some (if etR (m0 1) B r j then 1 else 0, px (wal B) m2) := by
    intro r
    induction r with
    | zero =>
      intro j f hj hf
      obtain ⟨g, rfl⟩ : ∃ g, f = g + 1 := ⟨f - 1, by omega⟩
      rw [f_X6_endsAsTold_L6, h9, if_pos (nI_le (by omega) (by omega))]
      rfl
    | succ r ih =>
      intro j f hj hf
      obtain ⟨g, rfl⟩ : ∃ g, f = g + 1 := ⟨f - 1, by omega⟩
      rw [f_X6_endsAsTold_L6, h9, if_neg (nI_ge (by omega) (by omega)), etR]
      by_cases hc : j < B 0 0
      · rw [X_has_in wb (by rw [wal_00]; exact hc), Option.bind_some, if_neg n1, na_inb (by omega) (by omega), na_ck, na_inb (by omega) (by omega), na_ck, na_ix (by omega), px_5 (by omega)]
        by_cases e : nI (wal B 5 j) = m0 1 j
        · rw [if_pos e, na_lt, nI_1, ih (j + 1) g (by omega) (by omega), decide_eq_true ⟨hc, e⟩, Bool.true_and]
        · rw [if_neg e, decide_eq_false (fun z => e z.2), Bool.false_and]
          rfl
      · rw [X_has_out (Or.inr (nI_le (by rw [wal_00]; omega) (by omega))), Option.bind_some, if_pos rfl, decide_eq_false (fun z => hc z.1), Bool.false_and]
        rfl
  unfold f_X6_endsAsTold
  rw [X_wedAll w, Option.bind_some]
  exact key np 0 6000 (by omega) (by omega)
/-- the told minutes as the model has them -/
def TD (T : Nat → Int32) (np : Nat) (W : Mem) : Prop := W 0 37 = nI np ∧ ∀ j, j < np → W 22 j = T j
theorem TD.ke {W W' : Mem} {np : Nat} (t : TD T np W) (k : KE W W') : TD T np W' := ⟨by rw [k.1.2.2.2]; exact t.1, fun j hj => by rw [(k.2 j).2.2.2.2]; exact t.2 j hj⟩
theorem M_isRow {W : Mem} {np : Nat} (hn : np ≤ 12) (t : TD T np W) (hK : KP A W) (w : WB B) : ∃ W', f_X7_isRow (pm B W) = some (if etR T B np 0 then 1 else 0, pm A W') ∧ KP A W' ∧ KE W W' := by
  have w1 := w.1
  have wb := WB_wal w
  have n1 : ¬ (1 : Int32) = 0 := by decide
  obtain ⟨W', g1, g2, g3⟩ := ag_any (A' := wal B) hK
  have key : np ≤ B 0 0 → ∀ r j f, j + r = np → r + 1 < f → f_X7_isRow_L23 (pm (wal B) W) f 1 (nI j) = some (if etR T B r j then 1 else 0) := by
    intro hle r
    induction r with
    | zero =>
      intro j f hj hf
      obtain ⟨g, rfl⟩ : ∃ g, f = g + 1 := ⟨f - 1, by omega⟩
      rw [f_X7_isRow_L23, pm_0_37, t.1, if_pos (nI_le (by omega) (by omega))]
      rfl
    | succ r ih =>
      intro j f hj hf
      obtain ⟨g, rfl⟩ : ∃ g, f = g + 2 := ⟨f - 2, by omega⟩
      rw [f_X7_isRow_L23, pm_0_37, t.1, if_neg (nI_ge (by omega) (by omega)), if_neg n1, na_inb (by omega) (by omega), na_ck, na_inb (by omega) (by omega), na_ck, na_ix (by omega), pm_22, pm_6 (by omega), t.2 j (by omega), etR]
      by_cases e : T j = nI (wal B 5 j)
      · rw [if_pos e, na_lt, nI_1, ih (j + 1) (g + 1) (by omega) (by omega), decide_eq_true ⟨by omega, e.symm⟩, Bool.true_and]
      · rw [if_neg e, na_lt, nI_1, decide_eq_false (fun z => e z.2.symm), Bool.false_and, f_X7_isRow_L23, pm_0_37, t.1]
        split
        · rfl
        · rw [if_pos rfl]
          rfl
  have all : f_X7_isRow_L23 (pm (wal B) W) 6000 (if nI (B 0 0) < nI np then 0 else 1) (nI 0) = some (if etR T B np 0 then 1 else 0) := by
    have e : (nI (B 0 0) < nI np) = (B 0 0 < np) := na_ltI (by omega) (by omega)
    by_cases e2 : B 0 0 < np
    · rw [if_pos (e ▸ e2), etR_no np 0 (by omega) (by omega)]
      show f_X7_isRow_L23 _ (5999 + 1) _ _ = _
      rw [f_X7_isRow_L23, pm_0_37, t.1]
      split
      · rfl
      · rw [if_pos rfl]
        rfl
    · rw [if_neg (fun z => e2 (e ▸ z))]
      exact key (by omega) np 0 6000 (by omega) (by omega)
  refine ⟨W', ?_, g2, g3⟩
  unfold f_X7_isRow
  rw [M_wedAll w, Option.bind_some, pm_0_0, wal_00, pm_0_37, t.1, na_lt, show (0 : Int32) = nI 0 from rfl] 
  have all' : f_X7_isRow_L23 (pm (wal B) W) 6000 (if nI (B 0 0) < nI np then nI 0 else 1) (nI 0) = some (if etR T B np 0 then 1 else 0) := all
  rw [all', Option.bind_some, g1, Option.bind_some, na_isb01, na_ck]
  rfl
/-- the mask of those that agree -/
def kmN (p : Nat → Bool) : Nat → Int32
  | 0 => 0
  | j + 1 => if p j then kmN p j ||| (1 <<< (nI j &&& 31)) else kmN p j
theorem X_kinds {np : Nat} (hn : np ≤ 12) (h9 : m0 0 9 = nI np) (w : WB A) {c : Nat} (hc : c < 7) : ∃ C', f_X6_kindsTold m0 (px A h1) m2 (nI c) = some (kmN (fun j => etR (m0 1) (ua A 1 c j) np 0) 6, C') := by
  have := lpi (fun f (s : Int32 × Mem) i => f_X6_kindsTold_L4 (nI c) m0 (px A h1) f s.1 i s.2) 6 (fun j t => ∃ C, t = (kmN (fun j => etR (m0 1) (ua A 1 c j) np 0) j, C)) (fun t => ∃ C', t = (kmN (fun j => etR (m0 1) (ua A 1 c j) np 0) 6, C')) (fun f t ht => ?_) (fun f j t hj ht => ?_) 6 0 6000 (0, m2) (by omega) (by omega) ⟨m2, rfl⟩
  · obtain ⟨t, g1, C', rfl⟩ := this
    refine ⟨C', ?_⟩
    unfold f_X6_kindsTold
    rw [show f_X6_kindsTold_L4 (nI c) m0 (px A h1) 6000 0 0 m2 = _ from g1]
    rfl
  · obtain ⟨C, rfl⟩ := ht
    refine ⟨_, ?_, C, rfl⟩
    show f_X6_kindsTold_L4 _ _ _ (f + 1) _ _ _ = _
    dsimp only
    rw [f_X6_kindsTold_L4, if_pos (show (6 : Int32) ≤ nI 6 from nI_le (Nat.le_refl _) (by omega))]
  · obtain ⟨C, rfl⟩ := ht
    have wb : WB (ua A 1 c j) := WB_ua w (by unfold okv; omega)
    refine ⟨(kmN (fun j => etR (m0 1) (ua A 1 c j) np 0) (j + 1), px (wal (ua A 1 c j)) C), ⟨_, rfl⟩, ?_⟩
    show f_X6_kindsTold_L4 _ _ _ (f + 1) _ _ _ = f_X6_kindsTold_L4 _ _ _ f _ _ _
    dsimp only
    have n1 : ¬ (1 : Int32) = 0 := by decide
    rw [f_X6_kindsTold_L4, if_neg (show ¬ (6 : Int32) ≤ nI j from nI_ge (b := 6) hj (by omega)), X_asNow, Option.bind_some, na_inb hc (by omega), na_ck, na_ix (by omega), px_w1 hc, na_lt, X_ends hn h9 wb, Option.bind_some, kmN]
    by_cases e : etR (m0 1) (ua A 1 c j) np 0 = true
    · simp only [e, if_true, n1, if_false, na_lt, nI_1]
    · simp only [e, if_false, if_true, na_lt, nI_1, Bool.false_eq_true]
theorem M_kinds {np : Nat} (hn : np ≤ 12) (w : WB A) {c : Nat} (hc : c < 7) {W : Mem} (t0 : TD T np W) (hK : KP A W) : ∃ W', f_X7_whatWas_L56 (nI c) 0 6000 0 0 (pm A W) = some (kmN (fun j => etR T (ua A 1 c j) np 0) 6, pm A W') ∧ KE W W' := by
  have := lpi (fun f (s : Int32 × Mem) i => f_X7_whatWas_L56 (nI c) 0 f s.1 i s.2) 6 (fun j t => ∃ W', t = (kmN (fun j => etR T (ua A 1 c j) np 0) j, pm A W') ∧ KP A W' ∧ KE W W') (fun t => ∃ W', t = (kmN (fun j => etR T (ua A 1 c j) np 0) 6, pm A W') ∧ KE W W') (fun f t ht => ?_) (fun f j t hj ht => ?_) 6 0 6000 (0, pm A W) (by omega) (by omega) ⟨W, rfl, hK, KE.rf⟩
  · obtain ⟨t, g1, C', rfl, g2⟩ := this
    exact ⟨C', g1, g2⟩
  · obtain ⟨C, rfl, hk, he⟩ := ht
    refine ⟨_, ?_, C, rfl, he⟩
    show f_X7_whatWas_L56 _ _ (f + 1) _ _ _ = _
    dsimp only
    rw [f_X7_whatWas_L56, na_lt, if_pos (by decide)]
  · obtain ⟨C, rfl, hk, he⟩ := ht
    have wb : WB (ua A 1 c j) := WB_ua w (by unfold okv; omega)
    obtain ⟨W', g1, g2, g3⟩ := M_isRow hn (t0.ke he) hk wb
    refine ⟨(kmN (fun j => etR T (ua A 1 c j) np 0) (j + 1), pm A W'), ⟨_, rfl, g2, he.trans g3⟩, ?_⟩
    show f_X7_whatWas_L56 _ _ (f + 1) _ _ _ = f_X7_whatWas_L56 _ _ f _ _ _
    dsimp only
    have n1 : ¬ (1 : Int32) = 0 := by decide
    have n2 : ¬ (0 : Int32) = 1 := by decide
    have nN : ¬ (6 : Int32) ≤ nI j := nI_ge (b := 6) hj (by omega)
    have i7 : inb (nI c) 7 = true := na_inb hc (by omega)
    have x7 : ix (nI c) = c := na_ix (by omega)
    have u1 : ua A 1 c (A 1 c) = A := by
      funext p q
      simp only [ua]
      split
      · next z => obtain ⟨rfl, rfl⟩ := z; rfl
      · rfl
    have v1 : xs (pm A C) 1 c (nI (A 1 c)) = pm A C := by rw [pm_w1 hc, u1]
    have v2 : ∀ B : AM, B 2 c = A 2 c → ua B 2 c (A 2 c) = B := fun B hB => by
      funext p q
      simp only [ua]
      split
      · next z => obtain ⟨rfl, rfl⟩ := z; exact hB.symm
      · rfl
    have v3 : (ua A 1 c j) 2 c = A 2 c := ua_n (by omega)
    rw [f_X7_whatWas_L56, na_lt, if_pos rfl, if_neg nN, if_pos rfl, Option.bind_some, i7, na_ck, x7, pm_w1 hc, na_lt, if_neg n2, na_ck, pm_2 hc, v3, Option.bind_some, na_ck, pm_w2 hc, v2 _ v3, na_lt, g1, Option.bind_some, kmN]
    by_cases e : etR T (ua A 1 c j) np 0 = true
    · simp only [e, if_true, n1, if_false, na_lt, nI_1]
    · simp only [e, if_false, if_true, na_lt, nI_1, Bool.false_eq_true, Int32.or_zero]
theorem X_figures {np : Nat} (hn : np ≤ 12) (h9 : m0 0 9 = nI np) (w : WB A) {c : Nat} (hc : c < 7) : ∃ C', f_X6_figuresTold m0 (px A h1) m2 (nI c) = some (kmN (fun j => etR (m0 1) (ua A 2 c j) np 0) 10, C') := by
  have := lpi (fun f (s : Int32 × Mem) i => f_X6_figuresTold_L4 (nI c) m0 (px A h1) f s.1 i s.2) 10 (fun j t => ∃ C, t = (kmN (fun j => etR (m0 1) (ua A 2 c j) np 0) j, C)) (fun t => ∃ C', t = (kmN (fun j => etR (m0 1) (ua A 2 c j) np 0) 10, C')) (fun f t ht => ?_) (fun f j t hj ht => ?_) 10 0 6000 (0, m2) (by omega) (by omega) ⟨m2, rfl⟩
  · obtain ⟨t, g1, C', rfl⟩ := this
    refine ⟨C', ?_⟩
    unfold f_X6_figuresTold
    rw [show f_X6_figuresTold_L4 (nI c) m0 (px A h1) 6000 0 0 m2 = _ from g1]
    rfl
  · obtain ⟨C, rfl⟩ := ht
    refine ⟨_, ?_, C, rfl⟩
    show f_X6_figuresTold_L4 _ _ _ (f + 1) _ _ _ = _
    dsimp only
    rw [f_X6_figuresTold_L4, if_pos (show (9 : Int32) < nI 10 from by decide)]
  · obtain ⟨C, rfl⟩ := ht
    have wb : WB (ua A 2 c j) := WB_ua w (by unfold okv; omega)
    refine ⟨(kmN (fun j => etR (m0 1) (ua A 2 c j) np 0) (j + 1), px (wal (ua A 2 c j)) C), ⟨_, rfl⟩, ?_⟩
    show f_X6_figuresTold_L4 _ _ _ (f + 1) _ _ _ = f_X6_figuresTold_L4 _ _ _ f _ _ _
    dsimp only
    have n1 : ¬ (1 : Int32) = 0 := by decide
    rw [f_X6_figuresTold_L4, if_neg (show ¬ (9 : Int32) < nI j from nI_nlt (a := 9) (by omega) (by omega)), X_asNow, Option.bind_some, na_inb hc (by omega), na_ck, na_ix (by omega), px_w2 hc, na_lt, X_ends hn h9 wb, Option.bind_some, kmN]
    by_cases e : etR (m0 1) (ua A 2 c j) np 0 = true
    · simp only [e, if_true, n1, if_false, na_lt, nI_1]
    · simp only [e, if_false, if_true, na_lt, nI_1, Bool.false_eq_true]
theorem M_figures {np : Nat} (hn : np ≤ 12) (w : WB A) {c : Nat} (hc : c < 7) {W : Mem} (t0 : TD T np W) (hK : KP A W) : ∃ W', f_X7_whatWas_L56 (nI c) 1 6000 0 0 (pm A W) = some (kmN (fun j => etR T (ua A 2 c j) np 0) 10, pm A W') ∧ KE W W' := by
  have := lpi (fun f (s : Int32 × Mem) i => f_X7_whatWas_L56 (nI c) 1 f s.1 i s.2) 10 (fun j t => ∃ W', t = (kmN (fun j => etR T (ua A 2 c j) np 0) j, pm A W') ∧ KP A W' ∧ KE W W') (fun t => ∃ W', t = (kmN (fun j => etR T (ua A 2 c j) np 0) 10, pm A W') ∧ KE W W') (fun f t ht => ?_) (fun f j t hj ht => ?_) 10 0 6000 (0, pm A W) (by omega) (by omega) ⟨W, rfl, hK, KE.rf⟩
  · obtain ⟨t, g1, C', rfl, g2⟩ := this
    exact ⟨C', g1, g2⟩
  · obtain ⟨C, rfl, hk, he⟩ := ht
    refine ⟨_, ?_, C, rfl, he⟩
    show f_X7_whatWas_L56 _ _ (f + 1) _ _ _ = _
    dsimp only
    rw [f_X7_whatWas_L56, na_lt, if_pos (by decide)]
  · obtain ⟨C, rfl, hk, he⟩ := ht
    have wb : WB (ua A 2 c j) := WB_ua w (by unfold okv; omega)
    obtain ⟨W', g1, g2, g3⟩ := M_isRow hn (t0.ke he) hk wb
    refine ⟨(kmN (fun j => etR T (ua A 2 c j) np 0) (j + 1), pm A W'), ⟨_, rfl, g2, he.trans g3⟩, ?_⟩
    show f_X7_whatWas_L56 _ _ (f + 1) _ _ _ = f_X7_whatWas_L56 _ _ f _ _ _
    dsimp only
    have n1 : ¬ (1 : Int32) = 0 := by decide
    have n2 : ¬ (0 : Int32) = 1 := by decide
    have nN : ¬ (10 : Int32) ≤ nI j := nI_ge (b := 10) hj (by omega)
    have i7 : inb (nI c) 7 = true := na_inb hc (by omega)
    have x7 : ix (nI c) = c := na_ix (by omega)
    have u1 : ua A 1 c (A 1 c) = A := by
      funext p q
      simp only [ua]
      split
      · next z => obtain ⟨rfl, rfl⟩ := z; rfl
      · rfl
    have v1 : xs (pm A C) 1 c (nI (A 1 c)) = pm A C := by rw [pm_w1 hc, u1]
    have v2 : ∀ B : AM, B 2 c = A 2 c → ua B 2 c (A 2 c) = B := fun B hB => by
      funext p q
      simp only [ua]
      split
      · next z => obtain ⟨rfl, rfl⟩ := z; exact hB.symm
      · rfl
    have v3 : (ua A 1 c j) 2 c = A 2 c := ua_n (by omega)
    rw [f_X7_whatWas_L56, na_lt, if_neg n1, if_neg nN, if_neg n1, i7, na_ck, x7, pm_1 hc, Option.bind_some, na_ck, v1, na_lt, if_pos rfl, Option.bind_some, na_ck, pm_w2 hc, na_lt, g1, Option.bind_some, kmN]
    by_cases e : etR T (ua A 2 c j) np 0 = true
    · simp only [e, if_true, n1, if_false, na_lt, nI_1]
    · simp only [e, if_false, if_true, na_lt, nI_1, Bool.false_eq_true, Int32.or_zero]
/-- the minutes that agree -/
def ctM (p : Nat → Bool) : Nat → Int32
  | 0 => 0
  | j + 1 => if p j then ctM p j + 1 else ctM p j
def fsM (p : Nat → Bool) : Nat → Int32
  | 0 => -9
  | j + 1 => if p j then (if 0 ≤ fsM p j then fsM p j else nI j) else fsM p j
theorem fsM_9 {p : Nat → Bool} : ∀ j, j ≤ 1000 → ¬ (0 : Int32) ≤ fsM p j → fsM p j = -9
  | 0, _, _ => rfl
  | j + 1, hj, h => by
    rw [fsM] at h ⊢
    have q : (0 : Int32) ≤ nI j := show nI 0 ≤ nI j from nI_le (by omega) (by omega)
    by_cases e : p j = true
    · rw [if_pos e] at h ⊢
      by_cases e2 : (0 : Int32) ≤ fsM p j
      · rw [if_pos e2] at h; exact absurd e2 h
      · rw [if_neg e2] at h; exact absurd q h
    · rw [if_neg e] at h ⊢
      exact fsM_9 j (by omega) h
theorem fsM_fr {p : Nat → Bool} : ∀ k j, j + k ≤ 1000 → fsM p (j + k) = if 0 ≤ fsM p j then fsM p j else fr (fun i => p i = true) nI (-9) k j
  | 0, j, h => by
    show fsM p j = _
    split
    · rfl
    · next z => exact fsM_9 j (by omega) z
  | k + 1, j, h => by
    have q : (0 : Int32) ≤ nI j := show nI 0 ≤ nI j from nI_le (by omega) (by omega)
    rw [show j + (k + 1) = (j + 1) + k by omega, fsM_fr k (j + 1) (by omega), fr_up, fsM]
    by_cases e : p j = true
    · by_cases e2 : (0 : Int32) ≤ fsM p j
      · simp only [e, e2, if_true]
      · simp only [e, e2, if_true, if_false, q]
    · by_cases e2 : (0 : Int32) ≤ fsM p j
      · simp only [e, e2, if_true, if_false, Bool.false_eq_true]
      · simp only [e, e2, if_false, Bool.false_eq_true]
theorem c240p : (240 : Int32) < nI 241 := by decide
theorem c240n {k : Nat} (h : k < 241) : ¬ (240 : Int32) < nI k := show ¬ nI 240 < nI k from nI_nlt (by omega) (by omega)
theorem X_minutes0 {np : Nat} (hn : np ≤ 12) (h9 : m0 0 9 = nI np) (w : WB A) {c : Nat} (hc : c < 7) : ∃ C', f_X6_minutesTold m0 (px A h1) m2 (nI c) 0 = some (ctM (fun j => etR (m0 1) (ua A 3 c j) np 0) 241, C') := by
  have := lpi (fun f (s : Int32 × Mem) i => f_X6_minutesTold_L5 (nI c) 0 m0 (px A h1) f s.1 i s.2) 241 (fun j t => ∃ C, t = (ctM (fun j => etR (m0 1) (ua A 3 c j) np 0) j, C)) (fun t => ∃ C', t = (ctM (fun j => etR (m0 1) (ua A 3 c j) np 0) 241, C')) (fun f t ht => ?_) (fun f j t hj ht => ?_) 241 0 6000 (0, m2) (by omega) (by omega) ⟨m2, rfl⟩
  · obtain ⟨t, g1, C', rfl⟩ := this
    exact ⟨C', g1⟩
  · obtain ⟨C, rfl⟩ := ht
    refine ⟨_, ?_, C, rfl⟩
    show f_X6_minutesTold_L5 _ _ _ _ (f + 1) _ _ _ = _
    dsimp only
    rw [f_X6_minutesTold_L5, if_pos c240p, if_pos rfl]
  · obtain ⟨C, rfl⟩ := ht
    have wb : WB (ua A 3 c j) := WB_ua w (by unfold okv; omega)
    refine ⟨(ctM (fun j => etR (m0 1) (ua A 3 c j) np 0) (j + 1), px (wal (ua A 3 c j)) C), ⟨_, rfl⟩, ?_⟩
    show f_X6_minutesTold_L5 _ _ _ _ (f + 1) _ _ _ = f_X6_minutesTold_L5 _ _ _ _ f _ _ _
    dsimp only
    have n1 : ¬ (1 : Int32) = 0 := by decide
    rw [f_X6_minutesTold_L5, if_neg (c240n hj), X_asNow, Option.bind_some, na_inb hc (by omega), na_ck, na_ix (by omega), px_w3 hc, na_lt, X_ends hn h9 wb, Option.bind_some, ctM]
    by_cases e : etR (m0 1) (ua A 3 c j) np 0 = true
    · simp only [e, if_true, n1, if_false, na_lt, nI_1]
    · simp only [e, if_false, if_true, na_lt, nI_1, Bool.false_eq_true]
theorem X_minutes1 {np : Nat} (hn : np ≤ 12) (h9 : m0 0 9 = nI np) (w : WB A) {c : Nat} (hc : c < 7) : ∀ r k f m, k + r = 241 → r < f → ∃ C', f_X6_minutesTold_L5 (nI c) 1 m0 (px A h1) f 0 (nI k) m = some (fr (fun j => etR (m0 1) (ua A 3 c j) np 0 = true) nI (-9) r k, C')
  | 0, k, f, m, hk, hf => by
    obtain ⟨g, rfl⟩ : ∃ g, f = g + 1 := ⟨f - 1, by omega⟩
    have : k = 241 := by omega
    subst this
    refine ⟨m, ?_⟩
    have n1 : ¬ (1 : Int32) = 0 := by decide
    rw [f_X6_minutesTold_L5, if_pos c240p, if_neg n1]
    rfl
  | r + 1, k, f, m, hk, hf => by
    obtain ⟨g, rfl⟩ : ∃ g, f = g + 1 := ⟨f - 1, by omega⟩
    obtain ⟨C', ih⟩ := X_minutes1 hn h9 w hc r (k + 1) g (px (wal (ua A 3 c k)) m) (by omega) (by omega)
    have wb : WB (ua A 3 c k) := WB_ua w (by unfold okv; omega)
    have n1 : ¬ (1 : Int32) = 0 := by decide
    rw [f_X6_minutesTold_L5, if_neg (c240n (by omega)), X_asNow, Option.bind_some, na_inb hc (by omega), na_ck, na_ix (by omega), px_w3 hc, na_lt, X_ends hn h9 wb, Option.bind_some, fr_up]
    by_cases e : etR (m0 1) (ua A 3 c k) np 0 = true
    · exact ⟨_, by simp only [e, if_true, n1, if_false]; rfl⟩
    · exact ⟨C', by simp only [e, if_false, if_true, na_lt, nI_1, Bool.false_eq_true]; exact ih⟩
theorem M_minutes {np : Nat} (hn : np ≤ 12) (w : WB A) {c : Nat} (hc : c < 7) {W : Mem} (t0 : TD T np W) (hK : KP A W) : ∃ W', f_X7_whenBy_L9 (nI c) 6000 0 (-9) 0 (pm A W) = some (ctM (fun j => etR T (ua A 3 c j) np 0) 241, fsM (fun j => etR T (ua A 3 c j) np 0) 241, pm A W') ∧ KE W W' := by
  have := lpi (fun f (s : Int32 × Int32 × Mem) i => f_X7_whenBy_L9 (nI c) f s.1 s.2.1 i s.2.2) 241 (fun j t => ∃ W', t = (ctM (fun j => etR T (ua A 3 c j) np 0) j, fsM (fun j => etR T (ua A 3 c j) np 0) j, pm A W') ∧ KP A W' ∧ KE W W') (fun t => ∃ W', t = (ctM (fun j => etR T (ua A 3 c j) np 0) 241, fsM (fun j => etR T (ua A 3 c j) np 0) 241, pm A W') ∧ KE W W') (fun f t ht => ?_) (fun f j t hj ht => ?_) 241 0 6000 (0, -9, pm A W) (by omega) (by omega) ⟨W, rfl, hK, KE.rf⟩
  · obtain ⟨t, g1, C', rfl, g2⟩ := this
    exact ⟨C', g1, g2⟩
  · obtain ⟨C, rfl, hk, he⟩ := ht
    refine ⟨_, ?_, C, rfl, he⟩
    show f_X7_whenBy_L9 _ (f + 1) _ _ _ _ = _
    dsimp only
    rw [f_X7_whenBy_L9, if_pos c240p]
  · obtain ⟨C, rfl, hk, he⟩ := ht
    have wb : WB (ua A 3 c j) := WB_ua w (by unfold okv; omega)
    obtain ⟨W', g1, g2, g3⟩ := M_isRow hn (t0.ke he) hk wb
    refine ⟨(ctM (fun j => etR T (ua A 3 c j) np 0) (j + 1), fsM (fun j => etR T (ua A 3 c j) np 0) (j + 1), pm A W'), ⟨_, rfl, g2, he.trans g3⟩, ?_⟩
    show f_X7_whenBy_L9 _ (f + 1) _ _ _ _ = f_X7_whenBy_L9 _ f _ _ _ _
    dsimp only
    have n1 : ¬ (1 : Int32) = 0 := by decide
    rw [f_X7_whenBy_L9, if_neg (c240n hj), na_inb hc (by omega), na_ck, na_ix (by omega), pm_w3 hc, na_lt, g1, Option.bind_some, na_lt, na_lt, na_lt, ctM, fsM]
    by_cases e : etR T (ua A 3 c j) np 0 = true
    · simp only [e, if_true, n1, if_false, na_lt, nI_1]
      split <;> rfl
    · simp only [e, if_false, if_true, na_lt, nI_1, Bool.false_eq_true, Int32.add_zero]
theorem op_whatWas (R : RR A m0 (px A h1) m3 m4 ks m13 (pm A M)) (m2 : Mem) (a b : Int32) : ∃ r m0' m2' M', f_X6_whatWas m0 (px A h1) m2 a b = some (r, m0', m2') ∧ f_X7_whatWas (pm A M) a b = some (r, M') ∧ RR A m0' (px A h1) m3 m4 ks m13 M' := by
  have wf := R.1
  have wb := wf.1
  have w1 := wb.1
  obtain ⟨np, hn, n1, n2, n3⟩ := R.2.2.2.2.1
  have t0 : TD (m0 1) np (tk A (M14 M)) := by
    refine TD.ke (W := M) ⟨by rw [← n2, pm_0_37], fun j hj => ?_⟩ (ke14.trans ke_tk)
    obtain ⟨v, -, v1, v2⟩ := n3 j hj
    rw [v1, ← v2, pm_22]
  have z1 : ¬ (1 : Int32) = 0 := by decide
  have z2 : ¬ (2 : Int32) = 0 := by decide
  have z3 : ¬ (2 : Int32) = 1 := by decide
  have z4 : ¬ (3 : Int32) = 0 := by decide
  have z5 : ¬ (3 : Int32) = 1 := by decide
  have z6 : ¬ (3 : Int32) = 2 := by decide
  have e0 : (0 : Int32) ≤ 0 := by decide
  rcases na_cs a (n := A 0 0) (by omega) with ho | ⟨c, hc, rfl⟩
  · have hw : f_X7_wrongBit (-1) b 3 = some (-1) := M_wb_no (by decide)
    have e1 : ¬ (0 : Int32) ≤ -1 := by decide
    exact ⟨-1, rf m0 2 1, m2, pm A (rf (M14 M) 10 1), by simp only [f_X6_whatWas, X_has_out ho, Option.bind_some, if_true, X_ref1], by simp only [f_X7_whatWas, na_lt, M_t14, M_has_out wb ho, Option.bind_some, if_true, hw, e1, if_false, M_ref1], R.rk ke14 (by omega)⟩
  · have hc7 : c < 7 := by omega
    rcases na_cs b (n := 4) (by omega) with ho | ⟨d, hd, rfl⟩
    · have hw : f_X7_wrongBit 0 b 3 = some (-2) := M_wb_out (k := 3) ho rfl (by omega)
      have e2 : ¬ (0 : Int32) ≤ -2 := by decide
      have d0 : ¬ b = 0 := out_ne ho (j := 0) (by omega) (by omega)
      have d1 : ¬ b = 1 := out_ne ho (j := 1) (by omega) (by omega)
      have d2 : ¬ b = 2 := out_ne ho (j := 2) (by omega) (by omega)
      have d3 : ¬ b = 3 := out_ne ho (j := 3) (by omega) (by omega)
      exact ⟨-2, rf m0 2 2, m2, pm A (rf (M14 M) 10 2), by simp only [f_X6_whatWas, X_has_in wb hc, Option.bind_some, z1, if_false, d0, d1, d2, d3, X_ref2], by simp only [f_X7_whatWas, na_lt, M_t14, M_has_in wb hc, Option.bind_some, z1, if_false, hw, e2, M_ref2], R.rk ke14 (by omega)⟩
    · have hw : f_X7_wrongBit 0 (nI d) 3 = some 0 := M_wb_in (k := 3) (by omega) (by omega)
      rcases (by omega : d = 0 ∨ d = 1 ∨ d = 2 ∨ d = 3) with rfl | rfl | rfl | rfl
      · obtain ⟨C', c1⟩ := X_kinds (m0 := m0) (h1 := h1) (m2 := m2) hn n1 wb hc7
        obtain ⟨W', d1, d2⟩ := M_kinds hn wb hc7 t0 kp_tk
        have q : nI 0 ≤ (1 : Int32) := by decide
        have q0 : nI 0 = (0 : Int32) := rfl
        rw [q0] at hw q ⊢
        exact ⟨kmN (fun j => etR (m0 1) (ua A 1 c j) np 0) 6, m0, C', pm A W', by simp only [f_X6_whatWas, X_has_in wb hc, Option.bind_some, z1, if_false, if_true, c1], by simp only [f_X7_whatWas, na_lt, M_t14, M_has_in wb hc, Option.bind_some, z1, if_false, hw, e0, if_true, M_think, q, d1], R.kp (ke14.trans (ke_tk.trans d2))⟩
      · obtain ⟨C', c1⟩ := X_figures (m0 := m0) (h1 := h1) (m2 := m2) hn n1 wb hc7
        obtain ⟨W', d1, d2⟩ := M_figures hn wb hc7 t0 kp_tk
        have q : nI 1 ≤ (1 : Int32) := by decide
        have q0 : nI 1 = (1 : Int32) := rfl
        rw [q0] at hw q ⊢
        exact ⟨kmN (fun j => etR (m0 1) (ua A 2 c j) np 0) 10, m0, C', pm A W', by simp only [f_X6_whatWas, X_has_in wb hc, Option.bind_some, z1, if_false, if_true, c1], by simp only [f_X7_whatWas, na_lt, M_t14, M_has_in wb hc, Option.bind_some, z1, if_false, hw, e0, if_true, M_think, q, d1], R.kp (ke14.trans (ke_tk.trans d2))⟩
      · obtain ⟨C', c1⟩ := X_minutes0 (m0 := m0) (h1 := h1) (m2 := m2) hn n1 wb hc7
        obtain ⟨W', d1, d2⟩ := M_minutes hn wb hc7 t0 kp_tk
        have q : ¬ nI 2 ≤ (1 : Int32) := by decide
        have q0 : nI 2 = (2 : Int32) := rfl
        rw [q0] at hw q ⊢
        have g : f_X7_whenBy (pm A (tk A (M14 M))) (nI c) 2 = some (ctM (fun j => etR (m0 1) (ua A 3 c j) np 0) 241, pm A W') := by
          unfold f_X7_whenBy
          rw [d1, Option.bind_some, if_pos rfl]
        exact ⟨ctM (fun j => etR (m0 1) (ua A 3 c j) np 0) 241, m0, C', pm A W', by simp only [f_X6_whatWas, X_has_in wb hc, Option.bind_some, z1, z2, z3, if_false, if_true, c1], by simp only [f_X7_whatWas, na_lt, M_t14, M_has_in wb hc, Option.bind_some, z1, if_false, hw, e0, if_true, M_think, q, g], R.kp (ke14.trans (ke_tk.trans d2))⟩
      · obtain ⟨C', c1⟩ := X_minutes1 (m0 := m0) (h1 := h1) hn n1 wb hc7 241 0 6000 m2 (by omega) (by omega)
        obtain ⟨W', d1, d2⟩ := M_minutes hn wb hc7 t0 kp_tk
        have q : ¬ nI 3 ≤ (1 : Int32) := by decide
        have q0 : nI 3 = (3 : Int32) := rfl
        rw [q0] at hw q ⊢
        have f1 := fsM_fr (p := fun j => etR (m0 1) (ua A 3 c j) np 0) 241 0 (by omega)
        have n9 : ¬ (0 : Int32) ≤ fsM (fun j => etR (m0 1) (ua A 3 c j) np 0) 0 := by show ¬ (0 : Int32) ≤ -9; decide
        rw [if_neg n9, Nat.zero_add] at f1
        have g : f_X7_whenBy (pm A (tk A (M14 M))) (nI c) 3 = some (fr (fun j => etR (m0 1) (ua A 3 c j) np 0 = true) nI (-9) 241 0, pm A W') := by
          unfold f_X7_whenBy
          rw [d1, Option.bind_some, if_neg z6, f1]
        have c1' : f_X6_minutesTold m0 (px A h1) m2 (nI c) 1 = some (fr (fun j => etR (m0 1) (ua A 3 c j) np 0 = true) nI (-9) 241 0, C') := c1
        exact ⟨fr (fun j => etR (m0 1) (ua A 3 c j) np 0 = true) nI (-9) 241 0, m0, C', pm A W', by simp only [f_X6_whatWas, X_has_in wb hc, Option.bind_some, z1, z4, z5, z6, if_false, if_true, c1'], by simp only [f_X7_whatWas, na_lt, M_t14, M_has_in wb hc, Option.bind_some, z1, if_false, hw, e0, if_true, M_think, q, g], R.kp (ke14.trans (ke_tk.trans d2))⟩
end OPS11
