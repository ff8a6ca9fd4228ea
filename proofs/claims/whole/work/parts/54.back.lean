/-! A TURN is taken back -/
section OPS16
variable {A B C : AM} {m0 h1 h m2 m3 m4 m13 M : Mem}
theorem M_load18 {A' : AM} (hr : encs B (M 18)) : ∃ M', f_X7_carryAll_18 (pm A' M) 0 = some (pm B M') ∧ KE M M' := by
  refine ⟨stt 18 0 (pm B (xs M 9 1 (M 18 6))) M 63, ?_, ?_⟩
  · rw [show (0 : Int32) = nI 0 from rfl, carryAll_18_is (t := 0) (V := pm B (xs M 9 1 (M 18 6))) (W := pm A' M) (Or.inr ⟨rfl, fun k hk => by rw [pm_18]; exact back_V hr rfl k hk⟩) (fun _ _ _ _ _ => rfl), pm_stt (M := M) (W := pm A' M) (fun p j h => pm_out (fun z => h (ci_hc.mpr (hc0_of z))))]
  · refine KE.of (fun p j hs => ?_)
    unfold scr at hs
    have hc : ¬ ci p j < 63 := fun z => by
      have := ci_hc.mp z
      unfold hc0 at this
      omega
    exact stt_off (by omega) hc (by omega)
def bkM (W : Mem) (b n : Nat) : Mem := fun p j => if p = 18 ∧ j < n then W 17 (63 * b + j) else W p j
theorem M_back31 {W : Mem} {b : Nat} (hb : b < 8) (h32 : W 0 32 = nI b) : f_X7_back_L31 6000 0 (pm A W) = some (pm A (bkM W b 63)) := by
  have := lp (r := some (pm A (bkM W b 63))) (fun f (s : Mem) i => f_X7_back_L31 f i s) 63 (fun j => pm A (bkM W b j)) (fun f => ?_) (fun f j hj => ?_) 63 0 6000 (by omega) (by omega)
  · have e : bkM W b 0 = W := by
      funext p j
      simp only [bkM]
      rw [if_neg (by omega)]
    rw [e] at this
    exact this
  · show f_X7_back_L31 (f + 1) _ _ = _
    rw [f_X7_back_L31, if_pos (by decide)]
  · show f_X7_back_L31 (f + 1) _ _ = f_X7_back_L31 f _ _
    have e32 : bkM W b j 0 32 = nI b := by
      simp only [bkM]
      rw [if_neg (by omega)]
      exact h32
    have e63 : (63 : Int32) * nI b + nI j = nI (63 * b + j) := by
      rw [show (63 : Int32) = nI 63 from rfl, pk_mul, nI_add]
    have e17 : bkM W b j 17 (63 * b + j) = W 17 (63 * b + j) := by
      simp only [bkM]
      rw [if_neg (by omega)]
    rw [f_X7_back_L31, if_neg (show ¬ (63 : Int32) ≤ nI j from nI_ge (b := 63) hj (by omega)), pm_0_32, e32, e63, na_inb (by omega) (by omega), na_ck, na_inb (by omega) (by omega), na_ck, na_ix (by omega), na_ix (by omega), pm_17, e17, pm_off (by omega), na_lt, na_lt, nI_1]
    congr 2
    funext p q
    simp only [xs, bkM]
    by_cases z : p = 18 ∧ q = j
    · obtain ⟨rfl, rfl⟩ := z
      rw [if_pos ⟨rfl, rfl⟩, if_pos ⟨rfl, by omega⟩]
    · rw [if_neg z]
      by_cases z2 : p = 18 ∧ q < j
      · rw [if_pos z2, if_pos ⟨z2.1, by omega⟩]
      · rw [if_neg z2, if_neg (by omega)]
theorem op_back {k0 k1 k2 k3 k4 k5 k6 k7 : Mem} (R : RR A m0 (px A h1) m3 m4 [k0, k1, k2, k3, k4, k5, k6, k7] m13 (pm A M)) : ∃ r m0' m1' m4' M' A', f_X6_back m0 (px A h1) m4 k0 k1 k2 k3 k4 k5 k6 k7 = some (r, m0', m1', m4') ∧ f_X7_back (pm A M) = some (r, M') ∧ RR A' m0' m1' m3 m4' [k0, k1, k2, k3, k4, k5, k6, k7] m13 M' := by
  obtain ⟨a1, a2, a3, a4, a5, a6, a7, ol, np, b1, b2, b3, b4, b5, b6, b7⟩ := id R
  have b5' : M14 M 0 32 = nI np := by
    have : M14 M 0 32 = M 0 32 := by simp [xs]
    rw [this]; exact b5
  by_cases hn : np = 0
  · subst hn
    have q0 : (nI 0 : Int32) = 0 := rfl
    have x : f_X5_giveBack m4 k0 k1 k2 k3 k4 k5 k6 k7 (px A h1) = some (0, m4, px A h1) := by
      unfold f_X5_giveBack
      rw [b4, if_pos q0]
    exact ⟨-3, rf m0 2 3, px A h1, m4, pm A (rf (M14 M) 10 3), A, by simp only [f_X6_back, x, Option.bind_some, if_true, X_ref3], by simp only [f_X7_back, na_lt, M_t14, pm_0_32, b5', q0, if_true, M_ref3, Option.bind_some], R.rk ke14 (by omega)⟩
  · obtain ⟨B, hB, c1, c2, c3⟩ := b7 (np - 1) (by omega)
    have q0 : ¬ nI np = (0 : Int32) := by
      rw [show (0 : Int32) = nI 0 from rfl, nI_eq (by omega) (by omega)]
      exact hn
    have q1 : nI np - 1 = nI (np - 1) := by rw [show (1 : Int32) = nI 1 from rfl, pk_sub (by omega)]
    have z1 : ¬ (1 : Int32) = 0 := by decide
    have w01 : xs m4 0 2 (nI (np - 1)) 0 1 = nI ol := by rw [← b3]; simp [xs]
    have w02 : xs m4 0 2 (nI (np - 1)) 0 2 = nI (np - 1) := by simp [xs]
    have x : f_X5_giveBack m4 k0 k1 k2 k3 k4 k5 k6 k7 (px A h1) = some (1, xs m4 0 2 (nI (np - 1)), px B (px A h1)) := by
      unfold f_X5_giveBack
      rw [b4, if_neg q0, q1, na_lt, w01, w02, nI_add, na_rem8 (by omega)]
      have hl : (ol + (np - 1)) % 8 < 8 := Nat.mod_lt _ (by omega)
      have ne : ∀ i j : Nat, i < 8 → j < 8 → i ≠ j → ¬ (nI i = nI j) := fun i j hi hj hij => by
        rw [nI_eq (by omega) (by omega)]
        exact hij
      rcases (by omega : (ol + (np - 1)) % 8 = 0 ∨ (ol + (np - 1)) % 8 = 1 ∨ (ol + (np - 1)) % 8 = 2 ∨ (ol + (np - 1)) % 8 = 3 ∨ (ol + (np - 1)) % 8 = 4 ∨ (ol + (np - 1)) % 8 = 5 ∨ (ol + (np - 1)) % 8 = 6 ∨ (ol + (np - 1)) % 8 = 7) with e | e | e | e | e | e | e | e <;> rw [e] at c2 ⊢ <;> simp only [List.getElem?_cons_zero, List.getElem?_cons_succ, Option.some.injEq] at c2 <;> subst c2
      · rw [if_pos (show nI 0 = (0 : Int32) from rfl), X_become, Option.bind_some]
      · rw [if_neg (show ¬ nI 1 = (0 : Int32) by decide), if_pos (show nI 1 = (1 : Int32) from rfl), X_become, Option.bind_some]
      · rw [if_neg (show ¬ nI 2 = (0 : Int32) by decide), if_neg (show ¬ nI 2 = (1 : Int32) by decide), if_pos (show nI 2 = (2 : Int32) from rfl), X_become, Option.bind_some]
      · rw [if_neg (show ¬ nI 3 = (0 : Int32) by decide), if_neg (show ¬ nI 3 = (1 : Int32) by decide), if_neg (show ¬ nI 3 = (2 : Int32) by decide), if_pos (show nI 3 = (3 : Int32) from rfl), X_become, Option.bind_some]
      · rw [if_neg (show ¬ nI 4 = (0 : Int32) by decide), if_neg (show ¬ nI 4 = (1 : Int32) by decide), if_neg (show ¬ nI 4 = (2 : Int32) by decide), if_neg (show ¬ nI 4 = (3 : Int32) by decide), if_pos (show nI 4 = (4 : Int32) from rfl), X_become, Option.bind_some]
      · rw [if_neg (show ¬ nI 5 = (0 : Int32) by decide), if_neg (show ¬ nI 5 = (1 : Int32) by decide), if_neg (show ¬ nI 5 = (2 : Int32) by decide), if_neg (show ¬ nI 5 = (3 : Int32) by decide), if_neg (show ¬ nI 5 = (4 : Int32) by decide), if_pos (show nI 5 = (5 : Int32) from rfl), X_become, Option.bind_some]
      · rw [if_neg (show ¬ nI 6 = (0 : Int32) by decide), if_neg (show ¬ nI 6 = (1 : Int32) by decide), if_neg (show ¬ nI 6 = (2 : Int32) by decide), if_neg (show ¬ nI 6 = (3 : Int32) by decide), if_neg (show ¬ nI 6 = (4 : Int32) by decide), if_neg (show ¬ nI 6 = (5 : Int32) by decide), if_pos (show nI 6 = (6 : Int32) from rfl), X_become, Option.bind_some]
      · rw [if_neg (show ¬ nI 7 = (0 : Int32) by decide), if_neg (show ¬ nI 7 = (1 : Int32) by decide), if_neg (show ¬ nI 7 = (2 : Int32) by decide), if_neg (show ¬ nI 7 = (3 : Int32) by decide), if_neg (show ¬ nI 7 = (4 : Int32) by decide), if_neg (show ¬ nI 7 = (5 : Int32) by decide), if_neg (show ¬ nI 7 = (6 : Int32) by decide), if_pos (show nI 7 = (7 : Int32) from rfl), X_become, Option.bind_some]
    obtain ⟨W, hW⟩ : ∃ W, W = xs (M14 M) 0 32 (nI (np - 1)) := ⟨_, rfl⟩
    obtain ⟨W2, hW2⟩ : ∃ W2, W2 = bkM W (np - 1) 63 := ⟨_, rfl⟩
    have o2 : ∀ p j, ¬ (p = 0 ∧ (j = 14 ∨ j = 32)) → p ≠ 18 → W2 p j = M p j := fun p j y1 y2 => by
      rw [hW2, hW]
      simp only [bkM, xs]
      rw [if_neg (by omega), if_neg (by omega), if_neg (by omega)]
    have o32 : W2 0 32 = nI (np - 1) := by
      rw [hW2, hW]
      simp only [bkM, xs]
      rw [if_neg (by omega), if_pos ⟨trivial, trivial⟩]
    have o18 : encs B (W2 18) := fun k hk h6 => by
      have := c3 k hk h6
      dsimp only at this
      rw [pm_17] at this
      rw [← this, hW2, hW]
      simp only [bkM, xs]
      rw [if_pos ⟨trivial, hk⟩, if_neg (by omega), if_neg (by omega)]
    have oo : ∀ p j, ¬ (p = 0 ∧ (j = 14 ∨ j = 32)) → p ≠ 18 → ¬ hc0 p j → pm A W2 p j = pm A M p j := fun p j y1 y2 y3 => by
      rw [pm_out (fun z => y3 (hc0_of z)), pm_out (fun z => y3 (hc0_of z)), o2 p j y1 y2]
    obtain ⟨M', d1, d2⟩ := M_load18 (A' := A) o18
    have R1 : RR A m0 (px A h1) m3 (xs m4 0 2 (nI (np - 1))) [k0, k1, k2, k3, k4, k5, k6, k7] m13 (pm A W2) := by
      refine ⟨a1, a2, pm_pm.symm, fun j hj => ?_, ?_, ?_, ?_, ?_⟩
      · rw [oo 10 j (by omega) (by omega) (by unfold hc0; omega)]; exact a4 j hj
      · obtain ⟨n, f1, f2, f3, f4⟩ := a5
        refine ⟨n, f1, f2, by rw [oo 0 37 (by omega) (by omega) (by unfold hc0; omega)]; exact f3, fun j hj => ?_⟩
        obtain ⟨v, g1, g2, g3⟩ := f4 j hj
        exact ⟨v, g1, g2, by rw [oo 22 j (by omega) (by omega) (by unfold hc0; omega)]; exact g3⟩
      · obtain ⟨n, f1, f2, f3, f4⟩ := a6
        refine ⟨n, f1, f2, by rw [oo 0 26 (by omega) (by omega) (by unfold hc0; omega)]; exact f3, fun j => ?_⟩
        obtain ⟨D, g1, g2, g3⟩ := f4 j
        exact ⟨D, g1, g2, fun k hk h6 => by rw [oo 16 k (by omega) (by omega) (by unfold hc0; omega)]; exact g3 k hk h6⟩
      · obtain ⟨n, f1, f2, f3, f4⟩ := a7
        refine ⟨n, f1, f2, by rw [oo 0 17 (by omega) (by omega) (by unfold hc0; omega)]; exact f3, fun j hj => ?_⟩
        obtain ⟨v, g1, g2, g3⟩ := f4 j hj
        exact ⟨v, g1, g2, by rw [oo 11 j (by omega) (by omega) (by unfold hc0; omega)]; exact g3⟩
      · refine ⟨ol, np - 1, b1, by omega, w01, w02, by rw [pm_0_32]; exact o32, b6, fun i hi => ?_⟩
        obtain ⟨D, hD, g1, g2, g3⟩ := b7 i (by omega)
        exact ⟨D, hD, g1, g2, fun k hk h6 => by
          show pm A W2 17 (63 * i + k) = _
          rw [oo 17 (63 * i + k) (by omega) (by omega) (by unfold hc0; omega)]
          exact g3 k hk h6⟩
    have kk : ∀ {X : Mem}, KE W2 X → X 0 32 = nI (np - 1) := fun k => by rw [k.1.2.2.1]; exact o32
    refine ⟨nI (np - 1), m0, px B (px A h1), xs m4 0 2 (nI (np - 1)), pm B M', B, ?_, ?_, R1.nw d2 c1⟩
    · unfold f_X6_back
      rw [x, Option.bind_some, if_neg z1]
      show some (xs m4 0 2 (nI (np - 1)) 0 2, _, _, _) = _
      rw [w02]
    · unfold f_X7_back
      rw [na_lt, M_t14, pm_0_32, b5', if_neg q0, q1, M_fg, na_lt, ← hW, M_back31 (b := np - 1) (by omega) (by rw [hW]; simp [xs]), Option.bind_some, ← hW2, d1, Option.bind_some, pm_0_32, kk d2]
end OPS16
