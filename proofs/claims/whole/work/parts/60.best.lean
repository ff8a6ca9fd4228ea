/-! THE BEST ORDER: the class looks for it depth first, the model through all orders by number -/
section OPS25
variable {A B C D : AM} {m0 h1 h m2 m3 m4 m13 M : Mem} {ks : List Mem}
/-- who does not stand in a mask -/
def cl (m : Nat) (c : Nat) : Bool := decide (m / 2 ^ c % 2 = 0)
theorem cl_y {c : Nat} (h : uw A c) : cl (A 0 4) c = true := decide_eq_true h
theorem cl_n {c : Nat} (h : ¬ uw A c) : cl (A 0 4) c = false := decide_eq_false h
theorem cl_u {c : Nat} (h : cl (A 0 4) c = true) : uw A c := of_decide_eq_true h
theorem cl_or {m k c : Nat} (hm : m < 128) (hk : k < 7) (hc : c < 7) : cl (m ||| 2 ^ k) c = if c = k then false else cl m c := by
  have e := na_orbit m hm k hk c hc
  by_cases z : c = k
  · rw [if_pos z] at e ⊢
    exact decide_eq_false (by omega)
  · rw [if_neg z] at e ⊢
    unfold cl
    rw [e]
theorem ct_or {m k n : Nat} (hm : m < 128) (hn : n ≤ 7) (hk : k < n) (hc : cl m k = true) : fb_ct (cl (m ||| 2 ^ k)) n + 1 = fb_ct (cl m) n := by
  have e : fb_ct (cl (m ||| 2 ^ k)) n = fb_ct (fun c => if c = k then false else cl m c) n := fb_ct_cong (fun c hc => cl_or hm (by omega) (by omega))
  have := fb_ct_upd (cl m) false hk
  rw [hc] at this
  simp only [if_true, Bool.false_eq_true, if_false, Nat.add_zero] at this
  omega
theorem ct_lt {p : Nat → Bool} {c n : Nat} (h : c < n) (hc : p c = true) : fb_ct p c < fb_ct p n := by
  have := fb_ct_mono p (show c + 1 ≤ n from h)
  rw [fb_ct_succ, hc] at this
  simp only [if_true] at this
  omega
/-- the place of number d -/
def kth (p : Nat → Bool) (d n : Nat) : Nat := fa_first (fun c => p c && decide (fb_ct p c = d)) n
theorem kth_is {p : Nat → Bool} {d n c : Nat} (h : c < n) (hc : p c = true) (hd : fb_ct p c = d) : kth p d n = c := by
  have no := fa_first_no (fun c => p c && decide (fb_ct p c = d)) n
  have hlt : kth p d n < n := by
    rcases Nat.lt_or_ge (kth p d n) n with z | z
    · exact z
    · have := no c (Nat.lt_of_lt_of_le h z)
      simp [hc, hd] at this
  have hy := fa_first_yes (fun c => p c && decide (fb_ct p c = d)) n hlt
  simp only [Bool.and_eq_true, decide_eq_true_eq] at hy
  exact fb_ct_kth_one hy.1 hc (hy.2.trans hd.symm)
theorem kth_ok {p : Nat → Bool} {d n : Nat} (h : d < fb_ct p n) : kth p d n < n ∧ p (kth p d n) = true ∧ fb_ct p (kth p d n) = d := by
  obtain ⟨i, g1, g2, g3⟩ := fb_ct_kth h
  rw [kth_is g1 g2 g3]
  exact ⟨g1, g2, g3⟩
def fct : Nat → Nat
  | 0 => 1
  | k + 1 => (k + 1) * fct k
theorem fct_pos : ∀ k, 0 < fct k
  | 0 => by show 0 < 1; omega
  | k + 1 => Nat.mul_pos (by omega) (fct_pos k)
theorem fct_7 : ∀ k, k ≤ 7 → fct k ≤ 5040 := by decide +kernel
/-- one is wedded, wherever it stands -/
def hw (D : AM) (c : Nat) : AM := hoA (ua D 0 4 (D 0 4 ||| 2 ^ c)) c 0
def nx (D : AM) (q : Nat) : Nat := kth (cl (D 0 4)) q (D 0 0)
def stp (A : AM) (code : Nat) : Nat → Nat × AM
  | 0 => (code, A)
  | j + 1 => ((stp A code j).1 % fct (A 0 8 - 1 - j), hw (stp A code j).2 (nx (stp A code j).2 ((stp A code j).1 / fct (A 0 8 - 1 - j))))
def odr (A : AM) (code j : Nat) : Nat := nx (stp A code j).2 ((stp A code j).1 / fct (A 0 8 - 1 - j))
theorem stp_s (A : AM) (code j : Nat) : stp A code (j + 1) = ((stp A code j).1 % fct (A 0 8 - 1 - j), hw (stp A code j).2 (odr A code j)) := rfl
def cst (A : AM) (code : Nat) : Nat := lwd (stp A code (A 0 8)).2
/-- what holding reads and leaves -/
def EX (B D : AM) : Prop := (B 0 0 = D 0 0 ∧ B 0 10 = D 0 10 ∧ B 0 12 = D 0 12 ∧ B 0 13 = D 0 13 ∧ B 8 0 = D 8 0 ∧ B 8 1 = D 8 1) ∧ ∀ k, B 1 k = D 1 k ∧ B 2 k = D 2 k ∧ B 3 k = D 3 k
theorem EX.rf : EX A A := ⟨⟨rfl, rfl, rfl, rfl, rfl, rfl⟩, fun _ => ⟨rfl, rfl, rfl⟩⟩
theorem EX.trans (h : EX A B) (h2 : EX B C) : EX A C := by
  obtain ⟨⟨a1, a2, a3, a4, a5, a6⟩, a7⟩ := h
  obtain ⟨⟨b1, b2, b3, b4, b5, b6⟩, b7⟩ := h2
  exact ⟨⟨a1.trans b1, a2.trans b2, a3.trans b3, a4.trans b4, a5.trans b5, a6.trans b6⟩, fun k => ⟨(a7 k).1.trans (b7 k).1, (a7 k).2.1.trans (b7 k).2.1, (a7 k).2.2.trans (b7 k).2.2⟩⟩
theorem EX.symm (h : EX A B) : EX B A := by
  obtain ⟨⟨a1, a2, a3, a4, a5, a6⟩, a7⟩ := h
  exact ⟨⟨a1.symm, a2.symm, a3.symm, a4.symm, a5.symm, a6.symm⟩, fun k => ⟨(a7 k).1.symm, (a7 k).2.1.symm, (a7 k).2.2.symm⟩⟩
theorem EX.u4 {v : Nat} : EX (ua D 0 4 v) D := ⟨⟨ua_n (by omega), ua_n (by omega), ua_n (by omega), ua_n (by omega), ua_n (by omega), ua_n (by omega)⟩, fun k => ⟨ua_n (by omega), ua_n (by omega), ua_n (by omega)⟩⟩
theorem EX.rm (h : EX B D) : rmA B = rmA D := by
  obtain ⟨⟨a1, a2, a3, a4, a5, a6⟩, a7⟩ := h
  unfold rmA
  rw [a2, a5, a6]
theorem EX.fr8 (h : EX B D) {r : Nat} (hr : r < 2) : B 8 r = D 8 r := by
  rcases (by omega : r = 0 ∨ r = 1) with rfl | rfl
  · exact h.1.2.2.2.2.1
  · exact h.1.2.2.2.2.2
theorem EX.be (h : EX B D) {c : Nat} : beA B c = beA D c := by
  have e := h.rm
  have e8 := h.fr8 (rmA_lt D)
  obtain ⟨-, a7⟩ := h
  unfold beA rdy
  rw [e, e8, (a7 c).1, (a7 c).2.1, (a7 c).2.2]
theorem EX.tk (h : EX B D) {c m : Nat} : tkA B c m = tkA D c m := by
  obtain ⟨⟨a1, a2, a3, a4, a5, a6⟩, a7⟩ := h
  unfold tkA las
  rw [(a7 c).1, (a7 c).2.1, a3]
theorem EX.en (h : EX B D) {c m : Nat} : enA B c m = enA D c m := by
  unfold enA
  rw [h.be, h.tk]
theorem ho_0 {c m k : Nat} (hk : k ≠ 12) : hoA A c m 0 k = A 0 k := by
  unfold hoA
  rw [ua_n (by omega), ua_n (by omega), ua_n (by omega), ua_n (by omega), ua_n (by omega)]
theorem ho_12 {c m : Nat} : hoA A c m 0 12 = min (A 0 12 + tkA A c m / 4) 99 := ua_s
theorem ho_r {c m p k : Nat} (hp : p = 1 ∨ p = 2 ∨ p = 3 ∨ p = 7) : hoA A c m p k = A p k := by
  unfold hoA
  rw [ua_n (by omega), ua_n (by omega), ua_n (by omega), ua_n (by omega), ua_n (by omega)]
theorem ho_8 {c m k : Nat} : hoA A c m 8 k = if k = rmA A then min (enA A c m + A 0 13) 999 else A 8 k := by
  unfold hoA
  rw [ua_n (by omega)]
  by_cases e : k = rmA A
  · rw [if_pos e, e, ua_s]
  · rw [if_neg e, ua_n (by omega), ua_n (by omega), ua_n (by omega), ua_n (by omega)]
theorem ho_4 {c m k : Nat} : hoA A c m 4 k = if k = c then beA A c else A 4 k := by
  unfold hoA
  rw [ua_n (by omega), ua_n (by omega), ua_n (by omega), ua_n (by omega)]
  by_cases e : k = c
  · rw [if_pos e, e, ua_s]
  · rw [if_neg e, ua_n (by omega)]
theorem EX.ho (h : EX B D) {c m : Nat} : EX (hoA B c m) (hoA D c m) := by
  have e1 := h.rm
  have e2 : enA B c m = enA D c m := h.en
  have e3 : tkA B c m = tkA D c m := h.tk
  obtain ⟨⟨a1, a2, a3, a4, a5, a6⟩, a7⟩ := h
  refine ⟨⟨?_, ?_, ?_, ?_, ?_, ?_⟩, fun k => ⟨?_, ?_, ?_⟩⟩
  · rw [ho_0 (by omega), ho_0 (by omega), a1]
  · rw [ho_0 (by omega), ho_0 (by omega), a2]
  · rw [ho_12, ho_12, a3, e3]
  · rw [ho_0 (by omega), ho_0 (by omega), a4]
  · rw [ho_8, ho_8, e1, e2, a4, a5]
  · rw [ho_8, ho_8, e1, e2, a4, a6]
  · rw [ho_r (by omega), ho_r (by omega)]; exact (a7 k).1
  · rw [ho_r (by omega), ho_r (by omega)]; exact (a7 k).2.1
  · rw [ho_r (by omega), ho_r (by omega)]; exact (a7 k).2.2
theorem hw_00 {c : Nat} : hw D c 0 0 = D 0 0 := by
  unfold hw
  rw [ho_0 (by omega), ua_n (by omega)]
theorem hw_04 {c : Nat} : hw D c 0 4 = D 0 4 ||| 2 ^ c := by
  unfold hw
  rw [ho_0 (by omega), ua_s]
theorem hw_3 {c k : Nat} : hw D c 3 k = D 3 k := by
  unfold hw
  rw [ho_r (by omega), ua_n (by omega)]
theorem hw_4 {c k : Nat} : hw D c 4 k = if k = c then beA D c else D 4 k := by
  unfold hw
  rw [ho_4, EX.u4.be, ua_n (by omega)]
theorem WB_hw (w : WB D) {c : Nat} (hc : c < 7) : WB (hw D c) := by
  have := na_orlt (D 0 4) w.2.1 c hc
  exact WB_hoA (WB_ua w (by unfold okv; omega)) hc (by omega)
theorem lwd_hw (w : WB D) {c : Nat} (hc : c < D 0 0) (hu : uw D c) : lwd (hw D c) = lwd D + (beA D c - D 3 c) := by
  have w1 := w.1
  have e : lwd (hw D c) = fb_sm (fun x => if x = c then beA D c - D 3 c else (fun x => if uw D x then 0 else lat D x) x) (D 0 0) := by
    unfold lwd
    rw [hw_00]
    refine fb_sm_cong (fun x hx => ?_)
    have b := na_orbit (D 0 4) w.2.1 c (by omega) x (by omega)
    have eu : uw (hw D c) x = (((D 0 4 ||| 2 ^ c) / 2 ^ x % 2) = 0) := by unfold uw; rw [hw_04]
    have el : lat (hw D c) x = (if x = c then beA D c else D 4 x) - D 3 x := by unfold lat; rw [hw_4, hw_3]
    by_cases z : x = c
    · subst z
      rw [if_pos rfl] at b el
      rw [if_neg (by rw [eu, b]; omega), el, if_pos rfl]
    · rw [if_neg z] at b el
      rw [if_neg z, el]
      have : uw (hw D c) x = uw D x := by rw [eu, b]
      simp only [this]
  have := fb_sm_upd (fun x => if uw D x then 0 else lat D x) (beA D c - D 3 c) hc
  have h0 : (if uw D c then 0 else lat D c) = 0 := if_pos hu
  rw [e]
  refine Eq.trans ?_ this
  show _ = _ + (if uw D c then 0 else lat D c)
  rw [h0]
  (try rfl)
/-- as many as wait are not wed -/
theorem ct_wait (w : WF A) : fb_ct (cl (A 0 4)) (A 0 0) = A 0 8 := by
  refine Nat.le_antisymm ?_ ?_
  · refine fb_holes (A 0 8) _ (fun k => plc A (kth (cl (A 0 4)) k (A 0 0))) (fun i hi => ?_) (fun i j hij hj e => ?_)
    · obtain ⟨g1, g2, g3⟩ := kth_ok hi
      exact (plc_in w g1 (cl_u g2)).1
    · obtain ⟨g1, g2, g3⟩ := kth_ok (Nat.lt_trans hij hj)
      obtain ⟨k1, k2, k3⟩ := kth_ok hj
      have p1 := (plc_in w g1 (cl_u g2)).2.1
      have p2 := (plc_in w k1 (cl_u k2)).2.1
      have e2 : plc A (kth (cl (A 0 4)) i (A 0 0)) = plc A (kth (cl (A 0 4)) j (A 0 0)) := e
      rw [e2, p2] at p1
      rw [p1, g3] at k3
      omega
  · refine fb_holes (fb_ct (cl (A 0 4)) (A 0 0)) (A 0 8) (fun i => fb_ct (cl (A 0 4)) (A 7 i)) (fun i hi => ?_) (fun i j hij hj e => ?_)
    · obtain ⟨g1, g2⟩ := w.2.2.1 i hi
      exact ct_lt g1 (cl_y g2)
    · obtain ⟨g1, g2⟩ := w.2.2.1 i (Nat.lt_trans hij hj)
      obtain ⟨k1, k2⟩ := w.2.2.1 j hj
      exact w.2.2.2.1 i j hij hj (fb_ct_kth_one (cl_y g2) (cl_y k2) e)
/-- what holds along the way of an order -/
def OK1 (A : AM) (j : Nat) (s : Nat × AM) : Prop := WB s.2 ∧ s.2 0 0 = A 0 0 ∧ s.1 < fct (A 0 8 - j) ∧ fb_ct (cl (s.2 0 4)) (A 0 0) = A 0 8 - j ∧ ∀ c, c < A 0 0 → ¬ uw A c → ¬ uw s.2 c
theorem nx_ok {j : Nat} {s : Nat × AM} (h : OK1 A j s) (hj : j < A 0 8) : nx s.2 (s.1 / fct (A 0 8 - 1 - j)) < A 0 0 ∧ uw s.2 (nx s.2 (s.1 / fct (A 0 8 - 1 - j))) ∧ fb_ct (cl (s.2 0 4)) (nx s.2 (s.1 / fct (A 0 8 - 1 - j))) = s.1 / fct (A 0 8 - 1 - j) := by
  obtain ⟨a1, a2, a3, a4, a5⟩ := h
  have hq : s.1 / fct (A 0 8 - 1 - j) < fb_ct (cl (s.2 0 4)) (s.2 0 0) := by
    rw [a2, a4]
    refine Nat.div_lt_of_lt_mul ?_
    rw [show A 0 8 - j = (A 0 8 - 1 - j) + 1 by omega] at a3 ⊢
    rw [fct, Nat.mul_comm] at a3
    exact a3
  obtain ⟨g1, g2, g3⟩ := kth_ok hq
  rw [a2] at g1
  exact ⟨by unfold nx; rw [a2]; exact g1, cl_u g2, g3⟩
theorem stp_ok (w : WF A) {code : Nat} (hc : code < fct (A 0 8)) : ∀ j, j ≤ A 0 8 → OK1 A j (stp A code j)
  | 0, _ => ⟨w.1, rfl, hc, ct_wait w, fun _ _ h => h⟩
  | j + 1, hj => by
    have ih := stp_ok w hc j (by omega)
    obtain ⟨n1, n2, n3⟩ := nx_ok ih (by omega)
    have n1' : odr A code j < A 0 0 := n1
    have n2' : uw (stp A code j).2 (odr A code j) := n2
    obtain ⟨a1, a2, a3, a4, a5⟩ := ih
    have w1 := w.1.1
    refine ⟨WB_hw a1 (by omega), ?_, ?_, ?_, fun c hc hu z => ?_⟩
    · show hw (stp A code j).2 (odr A code j) 0 0 = A 0 0
      rw [hw_00, a2]
    · rw [stp_s]
      show _ % fct (A 0 8 - 1 - j) < _
      rw [show A 0 8 - (j + 1) = A 0 8 - 1 - j by omega]
      exact Nat.mod_lt _ (fct_pos _)
    · show fb_ct (cl (hw (stp A code j).2 (odr A code j) 0 4)) (A 0 0) = A 0 8 - (j + 1)
      rw [hw_04]
      have := ct_or a1.2.1 w1 n1' (cl_y n2')
      omega
    · have b := na_orbit _ a1.2.1 (odr A code j) (by omega) c (by omega)
      have z2 : ((stp A code j).2 0 4 ||| 2 ^ odr A code j) / 2 ^ c % 2 = 0 := by
        have : uw (hw (stp A code j).2 (odr A code j)) c := z
        unfold uw at this
        rw [hw_04] at this
        exact this
      rw [b] at z2
      split at z2
      · omega
      · exact a5 c hc hu z2
theorem odr_ok (w : WF A) {code j : Nat} (hc : code < fct (A 0 8)) (hj : j < A 0 8) : odr A code j < A 0 0 ∧ uw (stp A code j).2 (odr A code j) ∧ fb_ct (cl ((stp A code j).2 0 4)) (odr A code j) = (stp A code j).1 / fct (A 0 8 - 1 - j) := nx_ok (stp_ok w hc j (by omega)) hj
theorem odr_uw (w : WF A) {code j : Nat} (hc : code < fct (A 0 8)) (hj : j < A 0 8) : uw A (odr A code j) := by
  obtain ⟨g1, g2, g3⟩ := odr_ok w hc hj
  have := (stp_ok w hc j (by omega)).2.2.2.2 _ g1
  exact Classical.byContradiction fun z => this z g2
theorem lwd_1 (w : WF A) {code j : Nat} (hc : code < fct (A 0 8)) (hj : j < A 0 8) : lwd (stp A code j).2 ≤ lwd (stp A code (j + 1)).2 := by
  obtain ⟨g1, g2, g3⟩ := odr_ok w hc hj
  obtain ⟨a1, a2, -⟩ := stp_ok w hc j (by omega)
  rw [stp_s]
  show _ ≤ lwd (hw (stp A code j).2 (odr A code j))
  rw [lwd_hw a1 (by rw [a2]; exact g1) g2]
  omega
theorem lwd_up (w : WF A) {code j : Nat} (hc : code < fct (A 0 8)) : ∀ k, j + k ≤ A 0 8 → lwd (stp A code j).2 ≤ lwd (stp A code (j + k)).2
  | 0, _ => Nat.le_refl _
  | k + 1, h => Nat.le_trans (lwd_up w hc k (by omega)) (lwd_1 w hc (by omega))
theorem lwd_14 (w : WB D) : lwd D ≤ 14000 := by
  have w1 := w.1
  have := lwd_le w _ (Nat.le_refl _)
  unfold lwd
  omega
theorem cst_14 (w : WF A) {code : Nat} (hc : code < fct (A 0 8)) : cst A code ≤ 14000 := lwd_14 (stp_ok w hc _ (Nat.le_refl _)).1
/-- the first of the least -/
def bsT (A : AM) : Nat → Nat × Nat
  | 0 => (1000000000, 0)
  | c + 1 => if (bsT A c).1 ≤ cst A c then bsT A c else (cst A c, c)
theorem bsT_le (w : WF A) : ∀ c, c ≤ fct (A 0 8) → (bsT A c).1 ≤ 1000000000 ∧ (0 < c → (bsT A c).1 ≤ 14000 ∧ (bsT A c).2 < c)
  | 0, _ => ⟨Nat.le_refl _, fun h => absurd h (Nat.lt_irrefl _)⟩
  | c + 1, hc => by
    have ih := bsT_le w c (by omega)
    have l := cst_14 w (code := c) (by omega)
    rw [bsT]
    split
    · next z =>
      refine ⟨ih.1, fun _ => ?_⟩
      have : 0 < c := by
        rcases Nat.eq_zero_or_pos c with q | q
        · subst q
          have : (1000000000 : Nat) ≤ cst A 0 := z
          omega
        · exact q
      have := ih.2 this
      exact ⟨this.1, by omega⟩
    · exact ⟨by show cst A c ≤ _; omega, fun _ => ⟨l, by show c < c + 1; omega⟩⟩
theorem bsT_keep {c : Nat} : ∀ m, (∀ e, e < m → (bsT A c).1 ≤ cst A (c + e)) → bsT A (c + m) = bsT A c
  | 0, _ => rfl
  | m + 1, h => by
    have ih := bsT_keep m (fun e he => h e (by omega))
    show bsT A (c + m + 1) = _
    rw [bsT, ih, if_pos (h m (by omega))]
/-- the seeker's own memory: the best of the first c orders -/
def SK (A : AM) (g : Mem) (c : Nat) : Prop := g 0 3 = nI (A 0 8) ∧ g 0 4 = nI (bsT A c).1 ∧ (0 < c → ∀ i, i < A 0 8 → g 2 i = nI (odr A (bsT A c).2 i))
/-- the orders that begin alike: from c on, r places free -/
def BL (A D : AM) (j c r : Nat) : Prop := ∀ e, e < fct r → stp A (c + e) j = (e, D) ∧ ∀ i, i < j → odr A (c + e) i = odr A c i
theorem BL_s (w : WF A) {j c r v : Nat} (hj : j + (r + 1) = A 0 8) (hb : BL A D j c (r + 1)) (h0 : D 0 0 = A 0 0) (hv : v < A 0 0) (hu : uw D v) (hq : fb_ct (cl (D 0 4)) v < r + 1) : BL A (hw D v) (j + 1) (c + fb_ct (cl (D 0 4)) v * fct r) r ∧ odr A (c + fb_ct (cl (D 0 4)) v * fct r) j = v ∧ ∀ i, i < j → odr A (c + fb_ct (cl (D 0 4)) v * fct r) i = odr A c i := by
  have fp := fct_pos r
  have key : ∀ e, e < fct r → fb_ct (cl (D 0 4)) v * fct r + e < fct (r + 1) := fun e he => by
    have : (fb_ct (cl (D 0 4)) v + 1) * fct r ≤ (r + 1) * fct r := Nat.mul_le_mul_right _ hq
    rw [Nat.add_mul, Nat.one_mul] at this
    show _ < (r + 1) * fct r
    omega
  have hr : A 0 8 - 1 - j = r := by omega
  have od : ∀ e, e < fct r → odr A (c + fb_ct (cl (D 0 4)) v * fct r + e) j = v := fun e he => by
    have := (hb _ (key e he)).1
    unfold odr
    rw [Nat.add_assoc, this, hr]
    show nx D ((fb_ct (cl (D 0 4)) v * fct r + e) / fct r) = v
    rw [Nat.add_comm, Nat.add_mul_div_right _ _ fp, Nat.div_eq_of_lt he, Nat.zero_add]
    unfold nx
    rw [h0]
    exact kth_is hv (cl_y hu) rfl
  have od2 : ∀ e, e < fct r → ∀ i, i < j → odr A (c + fb_ct (cl (D 0 4)) v * fct r + e) i = odr A c i := fun e he i hi => by
    rw [Nat.add_assoc]
    exact (hb _ (key e he)).2 i hi
  refine ⟨fun e he => ⟨?_, fun i hi => ?_⟩, od 0 fp, od2 0 fp⟩
  · rw [stp_s, od e he, Nat.add_assoc, (hb _ (key e he)).1, hr]
    show ((fb_ct (cl (D 0 4)) v * fct r + e) % fct r, hw D v) = _
    rw [Nat.add_comm, Nat.add_mul_mod_self_right, Nat.mod_eq_of_lt he]
  · rcases Nat.lt_or_ge i j with z | z
    · rw [od2 e he i z]
      exact (od2 0 fp i z).symm
    · have : i = j := by omega
      subst this
      rw [od e he]
      exact (od 0 fp).symm
theorem c7 {j : Nat} (h : j ≤ 7) : nI j ≤ (7 : Int32) := show nI j ≤ nI 7 from nI_le h (by omega)
theorem X_seek (w : WF A) : ∀ (r f j c : Nat) (D B : AM) (g h : Mem), r < f → j + r = A 0 8 → c + fct r ≤ fct (A 0 8) → BL A D j c r → WB B → EX B D → SK A g c → (∀ i, i < j → g 1 i = nI (odr A c i)) → ∃ g' B', f_X0_seek f g (px B h) (nI j) (nI (D 0 4)) (nI (lwd D)) = some (g', px B' h) ∧ SK A g' (c + fct r) ∧ (∀ i, i < j → g' 1 i = nI (odr A c i)) ∧ WB B' ∧ EX B' B := by
  intro r
  have w1 := w.1.1
  have w3 := w.1.2.2.1
  induction r with
  | zero =>
    intro f j c D B g h hf hj hc hb wB hE hS hg
    obtain ⟨f, rfl⟩ : ∃ z, f = z + 1 := ⟨f - 1, by omega⟩
    have fp := fct_pos 0
    have hc' : c < fct (A 0 8) := by omega
    have st := (hb 0 fp).1
    rw [Nat.add_zero] at st
    have ok := stp_ok w hc' j (by omega)
    rw [st] at ok
    have l14 : lwd D ≤ 14000 := lwd_14 ok.1
    have lb := (bsT_le w c (by omega)).1
    obtain ⟨s3, s4, s2⟩ := hS
    have ec : cst A c = lwd D := by
      unfold cst
      rw [show A 0 8 = j by omega, st]
    have bs : bsT A (c + fct 0) = if (bsT A c).1 ≤ lwd D then bsT A c else (lwd D, c) := by
      show bsT A (c + 1) = _
      rw [bsT, ec]
    show ∃ g' B', f_X0_seekB (f_X0_seek f) g (px B h) (nI j) (nI (D 0 4)) (nI (lwd D)) = some (g', px B' h) ∧ _
    unfold f_X0_seekB
    have e : (nI (bsT A c).1 ≤ nI (lwd D)) = ((bsT A c).1 ≤ lwd D) := na_le (by omega) (by omega)
    rw [s4]
    by_cases z : (bsT A c).1 ≤ lwd D
    · rw [if_pos (e ▸ z)]
      rw [if_pos z] at bs
      refine ⟨g, B, rfl, ⟨s3, by rw [bs, s4], fun _ => ?_⟩, hg, wB, EX.rf⟩
      rw [bs]
      have : 0 < c := by
        rcases Nat.eq_zero_or_pos c with q | q
        · subst q
          have : (1000000000 : Nat) ≤ lwd D := z
          omega
        · exact q
      exact s2 this
    · rw [if_neg (fun y => z (e ▸ y))]
      rw [if_neg z] at bs
      have hok : cpok 0 0 (nI (A 0 8)) 7 7 = true := by
        have : ∀ n, n ≤ 7 → cpok 0 0 (nI n) 7 7 = true := by decide +kernel
        exact this _ w3
      have x3 : xs g 0 4 (nI (lwd D)) 0 3 = nI (A 0 8) := by
        rw [← s3]
        simp [xs]
      rw [if_pos (c7 (by omega)), s3, show A 0 8 = j by omega, if_neg (nI_nlt (Nat.le_refl _) (by omega)), na_lt, x3, hok, na_ck, na_lt, na_ix (by omega)]
      refine ⟨_, B, rfl, ⟨?_, ?_, fun _ i hi => ?_⟩, fun i hi => ?_, wB, EX.rf⟩
      · rw [← x3]
        simp [xcp]
      · rw [bs]
        simp [xcp, xs]
      · rw [bs]
        show _ = nI (odr A c i)
        rw [← hg i (by omega)]
        simp [xcp, xs, va_cpy, show (ix 0 : Nat) = 0 from rfl, hi]
      · rw [← hg i hi]
        simp [xcp, xs]
  | succ r ih =>
    intro f j c D B g h hf hj hc hb wB hE hS hg
    obtain ⟨f, rfl⟩ : ∃ z, f = z + 1 := ⟨f - 1, by omega⟩
    have fp := fct_pos (r + 1)
    have fpr := fct_pos r
    have hc' : c < fct (A 0 8) := by omega
    have st := (hb 0 fp).1
    rw [Nat.add_zero] at st
    have ok := stp_ok w hc' j (by omega)
    rw [st] at ok
    obtain ⟨ok1, ok2, ok3, ok4, ok5⟩ := ok
    have ok2' : D 0 0 = A 0 0 := ok2
    have ok4' : fb_ct (cl (D 0 4)) (A 0 0) = r + 1 := by
      have : fb_ct (cl (D 0 4)) (A 0 0) = A 0 8 - j := ok4
      omega
    have wD : WB D := ok1
    have l14 : lwd D ≤ 14000 := lwd_14 wD
    have lb := (bsT_le w c (by omega)).1
    have s4 := hS.2.1
    have s3 := hS.1
    show ∃ g' B', f_X0_seekB (f_X0_seek f) g (px B h) (nI j) (nI (D 0 4)) (nI (lwd D)) = some (g', px B' h) ∧ _
    unfold f_X0_seekB
    have e : (nI (bsT A c).1 ≤ nI (lwd D)) = ((bsT A c).1 ≤ lwd D) := na_le (by omega) (by omega)
    rw [s4]
    by_cases z : (bsT A c).1 ≤ lwd D
    · rw [if_pos (e ▸ z)]
      have bs : bsT A (c + fct (r + 1)) = bsT A c := bsT_keep _ (fun e he => by
        have := lwd_up w (code := c + e) (j := j) (by omega) (r + 1) (by omega)
        rw [(hb e he).1] at this
        have q : lwd D ≤ cst A (c + e) := by
          unfold cst
          rw [show A 0 8 = j + (r + 1) by omega]
          exact this
        omega)
      have : 0 < c := by
        rcases Nat.eq_zero_or_pos c with q | q
        · subst q
          have : (1000000000 : Nat) ≤ lwd D := z
          omega
        · exact q
      refine ⟨g, B, rfl, ⟨s3, by rw [bs, s4], fun _ => ?_⟩, hg, wB, EX.rf⟩
      rw [bs]
      exact hS.2.2 this
    · rw [if_neg (fun y => z (e ▸ y)), if_pos (c7 (by omega)), s3, if_pos (nI_lt (by omega) (by omega)), na_lt, na_lt, na_lt, px_8 (by omega), px_8 (by omega), px_0_12]
      have hl := lpi (fun f' (s : Mem × Mem) i => f_X0_seek_L80 (f_X0_seek f) (nI j) (nI (D 0 4)) (nI (lwd D)) (nI (B 8 0)) (nI (B 8 1)) (nI (B 0 12)) f' i s.1 s.2) (A 0 0) (fun v s => ∃ g' B', s = (g', px B' h) ∧ SK A g' (c + fb_ct (cl (D 0 4)) v * fct r) ∧ (∀ i, i < j → g' 1 i = nI (odr A c i)) ∧ WB B' ∧ EX B' B) (fun t => ∃ g' B', t = (g', px B' h) ∧ SK A g' (c + fct (r + 1)) ∧ (∀ i, i < j → g' 1 i = nI (odr A c i)) ∧ WB B' ∧ EX B' B) (fun f' s hs => ?_) (fun f' v s hv hs => ?_) (A 0 0) 0 6000 (g, px B h) (by omega) (by omega) ⟨g, B, rfl, by
        show SK A g (c + 0 * fct r)
        rw [Nat.zero_mul]
        exact hS, hg, wB, EX.rf⟩
      · obtain ⟨t, g1, g', B', rfl, g2, g3, g4, g5⟩ := hl
        have g1' : f_X0_seek_L80 (f_X0_seek f) (nI j) (nI (D 0 4)) (nI (lwd D)) (nI (B 8 0)) (nI (B 8 1)) (nI (B 0 12)) 6000 0 g (px B h) = some (g', px B' h) := g1
        rw [g1']
        exact ⟨g', B', rfl, g2, g3, g4, g5⟩
      · obtain ⟨g', B', rfl, g2, g3, g4, g5⟩ := hs
        refine ⟨(g', px B' h), ?_, g', B', rfl, ?_, g3, g4, g5⟩
        · show f_X0_seek_L80 _ _ _ _ _ _ _ (f' + 1) _ _ _ = _
          dsimp only
          have : B' 0 0 = A 0 0 := (g5.1.1.trans hE.1.1).trans ok2'
          rw [f_X0_seek_L80, px_0_0, this, if_pos (nI_le (Nat.le_refl _) (by omega))]
        · rw [ok4'] at g2
          exact g2
      · obtain ⟨g', B', rfl, g2, g3, g4, g5⟩ := hs
        have b00 : B' 0 0 = A 0 0 := (g5.1.1.trans hE.1.1).trans ok2'
        have hbit : D 0 4 / 2 ^ v % 2 < 2 := Nat.mod_lt _ (by omega)
        have nb := na_bit (D 0 4) wD.2.1 v (by omega)
        by_cases hu : uw D v
        · have hcl := cl_y hu
          have hq : fb_ct (cl (D 0 4)) v < r + 1 := by
            have := ct_lt hv hcl
            omega
          obtain ⟨b1, b2, b3⟩ := BL_s w hj hb ok2' hv hu hq
          have hm : (fb_ct (cl (D 0 4)) v + 1) * fct r ≤ (r + 1) * fct r := Nat.mul_le_mul_right _ hq
          rw [Nat.add_mul, Nat.one_mul] at hm
          have hfr : fct (r + 1) = (r + 1) * fct r := rfl
          have ex1 : EX B' D := g5.trans hE
          have ex2 : EX (hoA B' v 0) (hw D v) := (ex1.trans EX.u4.symm).ho
          have wh : WB (hoA B' v 0) := WB_hoA g4 (by omega) (by omega)
          obtain ⟨g4', B3, h1', h2', h3', h4', h5'⟩ := ih f (j + 1) (c + fb_ct (cl (D 0 4)) v * fct r) (hw D v) (hoA B' v 0) (xs g' 1 j (nI v)) h (by omega) (by omega) (by omega) b1 wh ex2 ⟨by rw [← g2.1]; simp [xs], by rw [← g2.2.1]; simp [xs], fun hp i hi => by rw [← g2.2.2 hp i hi]; simp [xs]⟩ (fun i hi => by
            by_cases y : i = j
            · subst y
              rw [b2]
              simp [xs]
            · rw [b3 i (by omega), ← g3 i (by omega)]
              simp [xs, y])
          have wb8 : B 8 0 ≤ 999 ∧ B 8 1 ≤ 999 := wB.2.2.2.2.2.2.1
          have wb12 : B 0 12 ≤ 99 := wB.2.2.2.2.1
          refine ⟨(g4', px (ua (ua (ua B3 8 0 (B 8 0)) 8 1 (B 8 1)) 0 12 (B 0 12)) h), ⟨g4', _, rfl, ?_, fun i hi => ?_, ?_, ?_⟩, ?_⟩
          · rw [fb_ct_succ, hcl, if_pos rfl, Nat.add_mul, Nat.one_mul, ← Nat.add_assoc]
            exact h2'
          · rw [h3' i (by omega), b3 i hi]
          · exact WB_ua (WB_ua (WB_ua h4' (by unfold okv; omega)) (by unfold okv; omega)) (by unfold okv; omega)
          · obtain ⟨⟨q1, q2, q3, q4, q5, q6⟩, q7⟩ := h5'
            obtain ⟨⟨p1, p2, p3, p4, p5, p6⟩, p7⟩ := g5
            refine ⟨⟨?_, ?_, ?_, ?_, ?_, ?_⟩, fun k => ⟨?_, ?_, ?_⟩⟩
            · rw [ua_n (by omega), ua_n (by omega), ua_n (by omega), q1, ho_0 (by omega), p1]
            · rw [ua_n (by omega), ua_n (by omega), ua_n (by omega), q2, ho_0 (by omega), p2]
            · exact ua_s
            · rw [ua_n (by omega), ua_n (by omega), ua_n (by omega), q4, ho_0 (by omega), p4]
            · rw [ua_n (by omega), ua_n (by omega), ua_s]
            · rw [ua_n (by omega), ua_s]
            · rw [ua_n (by omega), ua_n (by omega), ua_n (by omega), (q7 k).1, ho_r (by omega), (p7 k).1]
            · rw [ua_n (by omega), ua_n (by omega), ua_n (by omega), (q7 k).2.1, ho_r (by omega), (p7 k).2.1]
            · rw [ua_n (by omega), ua_n (by omega), ua_n (by omega), (q7 k).2.2, ho_r (by omega), (p7 k).2.2]
          · show f_X0_seek_L80 _ _ _ _ _ _ _ (f' + 1) _ _ _ = f_X0_seek_L80 _ _ _ _ _ _ _ f' _ _ _
            dsimp only
            have q0 : ((nI (D 0 4) >>> (nI v &&& 31)) &&& 1) = 0 := by rw [nb, hu]; rfl
            have el : nI (lwd D) + nI (lat (hoA B' v 0) v) = nI (lwd (hw D v)) := by
              rw [nI_add, lwd_hw wD (by rw [ok2']; exact hv) hu]
              unfold lat
              rw [ho_4, if_pos rfl, ho_r (by omega), ex1.be, (ex1.2 v).2.2]
            have em : nI (D 0 4) ||| (1 <<< (nI v &&& 31)) = nI (hw D v 0 4) := by
              rw [na_or _ wD.2.1 v (by omega), hw_04]
            rw [f_X0_seek_L80, px_0_0, b00, if_neg (nI_ge hv (by omega)), if_pos q0, na_inb (by omega) (by omega), na_ck, na_lt, na_ix (by omega), show (0 : Int32) = nI 0 from rfl, X_hold g4 (by omega) (by omega), Option.bind_some, X_lateOf wh (by omega), Option.bind_some, el, em, nI_1, h1', Option.bind_some]
            dsimp only
            rw [px_w8 (by omega), na_lt, px_w8 (by omega), na_lt, px_w0_12, na_lt, nI_1, na_lt]
        · have hcl := cl_n hu
          refine ⟨(g', px B' h), ⟨g', B', rfl, ?_, g3, g4, g5⟩, ?_⟩
          · rw [fb_ct_succ, hcl]
            exact g2
          · show f_X0_seek_L80 _ _ _ _ _ _ _ (f' + 1) _ _ _ = f_X0_seek_L80 _ _ _ _ _ _ _ f' _ _ _
            dsimp only
            have q0 : ¬ ((nI (D 0 4) >>> (nI v &&& 31)) &&& 1) = 0 := by
              unfold uw at hu
              rw [nb, show D 0 4 / 2 ^ v % 2 = 1 by omega]
              decide
            rw [f_X0_seek_L80, px_0_0, b00, if_neg (nI_ge hv (by omega)), if_neg q0, na_lt, nI_1]
/-! the model's side -/
theorem M_fct : ∀ k, k ≤ 7 → f_X7_ordersOf (nI k) = some (nI (fct k)) := fun k hk => by
  have key : ∀ r s f, s + r = k + 1 → 1 ≤ s → r < f → f_X7_ordersOf_L4 (nI k) f (nI (fct (s - 1))) (nI s) = some (nI (fct k)) := by
    intro r
    induction r with
    | zero =>
      intro s f h1 h2 h3
      obtain ⟨f, rfl⟩ : ∃ z, f = z + 1 := ⟨f - 1, by omega⟩
      rw [f_X7_ordersOf_L4, if_pos (nI_lt (by omega) (by omega)), show s - 1 = k by omega]
    | succ r ih =>
      intro s f h1 h2 h3
      obtain ⟨f, rfl⟩ : ∃ z, f = z + 1 := ⟨f - 1, by omega⟩
      rw [f_X7_ordersOf_L4, if_neg (nI_nlt (by omega) (by omega)), pk_mul, na_lt, nI_1, na_lt]
      have := ih (s + 1) f (by omega) (by omega) (by omega)
      rw [← this]
      obtain ⟨t, rfl⟩ : ∃ t, s = t + 1 := ⟨s - 1, by omega⟩
      show _ = f_X7_ordersOf_L4 (nI k) f (nI ((t + 1) * fct t)) _
      rw [Nat.mul_comm]
      rfl
  unfold f_X7_ordersOf
  rcases Nat.eq_zero_or_pos k with e | e
  · subst e
    have : f_X7_ordersOf_L4 (nI 0) 6000 1 2 = some (nI (fct 0)) := by
      rw [show (6000 : Nat) = 5999 + 1 from rfl, f_X7_ordersOf_L4, if_pos (by decide)]
      rfl
    rw [this]
    rfl
  · have : f_X7_ordersOf_L4 (nI k) 6000 1 2 = some (nI (fct k)) := key (k - 1) 2 6000 (by omega) (by omega) (by omega)
    rw [this]
    rfl
theorem M_pick {mv T : Nat} (hm : mv < 128) (hT : T < 7) (hcl : cl mv T = true) : ∀ (k t d f : Nat), t + k = T → d + fb_ct (cl mv) t = fb_ct (cl mv) T → k < f → f_X7_layOrder_L44 (nI mv) f (nI d) (nI t) = some (nI T) := by
  have hb : ∀ t, t < 7 → f_X7_hasBit (nI mv) (nI t) = some (if cl mv t = true then 0 else 1) := fun t ht => by
    have hbit : mv / 2 ^ t % 2 < 2 := Nat.mod_lt _ (by omega)
    unfold f_X7_hasBit
    rw [na_bit mv hm t ht]
    rcases (by omega : mv / 2 ^ t % 2 = 0 ∨ mv / 2 ^ t % 2 = 1) with e | e
    · rw [if_pos (show cl mv t = true from decide_eq_true e), e]
      rfl
    · rw [if_neg (show ¬ cl mv t = true from fun z => by have := of_decide_eq_true z; omega), e]
      rfl
  have n1 : ¬ (1 : Int32) = 0 := by decide
  intro k
  induction k with
  | zero =>
    intro t d f h1 h2 h3
    obtain ⟨f, rfl⟩ : ∃ z, f = z + 1 := ⟨f - 1, by omega⟩
    have : t = T := by omega
    subst this
    have : d = 0 := by omega
    subst this
    rw [f_X7_layOrder_L44, hb t hT, if_pos hcl, Option.bind_some, if_pos rfl, if_pos (by decide)]
  | succ k ih =>
    intro t d f h1 h2 h3
    obtain ⟨f, rfl⟩ : ∃ z, f = z + 1 := ⟨f - 1, by omega⟩
    have hle := ct_lt (show t < T by omega) (p := cl mv)
    have hmo := fb_ct_mono (cl mv) (show t + 1 ≤ T by omega)
    rw [fb_ct_succ] at hmo
    by_cases e : cl mv t = true
    · rw [if_pos e] at hmo
      have hd : ¬ nI d ≤ (0 : Int32) := show ¬ nI d ≤ nI 0 from nI_ge (by omega) (by
        have := fb_ct_le (cl mv) T
        omega)
      rw [f_X7_layOrder_L44, hb t (by omega), if_pos e, Option.bind_some, if_pos rfl, if_neg hd, Option.bind_some, if_pos rfl, show (1 : Int32) = nI 1 from rfl, pk_sub (by omega), na_lt, nI_add, na_lt]
      exact ih (t + 1) (d - 1) f (by omega) (by rw [fb_ct_succ, if_pos e]; omega) (by omega)
    · rw [f_X7_layOrder_L44, hb t (by omega), if_neg e, Option.bind_some, if_neg n1, Option.bind_some, if_neg n1, show nI d - 0 = nI d from Int32.sub_zero _, na_lt, nI_1, na_lt]
      exact ih (t + 1) d f (by omega) (by rw [fb_ct_succ, if_neg e]; omega) (by omega)
/-- those who wait, told by number -/
def S19 (A : AM) (W : Mem) : Prop := ∀ c, c < A 0 0 → uw A c → W 19 (fb_ct (cl (A 0 4)) c) = nI c
theorem ag_19 {W : Mem} {j : Nat} : ag A W 19 j = W 19 j := stt_off (by omega) (by simp [ci]) (by omega)
theorem tk_19 {W : Mem} {j : Nat} : tk A W 19 j = W 19 j := stt_off (by omega) (by simp [ci]) (by omega)
theorem M_laySorted (w : WB A) {W : Mem} : ∃ W', f_X7_laySorted (pm A W) = some (pm A W') ∧ KE W W' ∧ S19 A W' := by
  have w1 := w.1
  have hl := lpi (fun f (s : Int32 × Mem) i => f_X7_laySorted_L4 f s.1 i s.2) (A 0 0) (fun j s => ∃ W', s = (nI (fb_ct (cl (A 0 4)) j), pm A W') ∧ KE W W' ∧ ∀ c, c < j → uw A c → W' 19 (fb_ct (cl (A 0 4)) c) = nI c) (fun t => ∃ W', t = pm A W' ∧ KE W W' ∧ S19 A W') (fun f s hs => ?_) (fun f j s hj hs => ?_) (A 0 0) 0 6000 (nI 0, pm A W) (by omega) (by omega) ⟨W, rfl, KE.rf, fun c hc => absurd hc (Nat.not_lt_zero c)⟩
  · obtain ⟨t, g1, W', rfl, g2, g3⟩ := hl
    refine ⟨W', ?_, g2, g3⟩
    unfold f_X7_laySorted
    have : f_X7_laySorted_L4 6000 0 0 (pm A W) = some (pm A W') := g1
    rw [this]
    rfl
  · obtain ⟨W', rfl, g2, g3⟩ := hs
    refine ⟨_, ?_, W', rfl, g2, g3⟩
    show f_X7_laySorted_L4 (f + 1) _ _ _ = _
    dsimp only
    rw [f_X7_laySorted_L4, pm_0_0, if_pos (nI_le (Nat.le_refl _) (by omega))]
  · obtain ⟨W', rfl, g2, g3⟩ := hs
    have hle := fb_ct_le (cl (A 0 4)) j
    by_cases e : uw A j
    · refine ⟨(nI (fb_ct (cl (A 0 4)) (j + 1)), pm A (xs W' 19 (fb_ct (cl (A 0 4)) j) (nI j))), ⟨_, rfl, g2.trans (ke_xs (by unfold scr; omega)), fun c hc hu => ?_⟩, ?_⟩
      · by_cases z : c = j
        · subst z
          simp [xs]
        · have := ct_lt (show c < j by omega) (cl_y hu)
          rw [← g3 c (by omega) hu]
          simp only [xs]
          rw [if_neg (by omega)]
      · show f_X7_laySorted_L4 (f + 1) _ _ _ = f_X7_laySorted_L4 f _ _ _
        dsimp only
        rw [f_X7_laySorted_L4, pm_0_0, if_neg (nI_ge hj (by omega)), na_inb (by omega) (by omega), na_ck, na_ix (by omega), pm_4 (by omega), if_pos (uw_0 e), na_inb (by omega) (by omega), na_ck, na_ix (by omega), pm_off (by omega), na_lt, nI_1, nI_1, na_lt, na_lt, fb_ct_succ, if_pos (cl_y e)]
    · refine ⟨(nI (fb_ct (cl (A 0 4)) (j + 1)), pm A W'), ⟨_, rfl, g2, fun c hc hu => ?_⟩, ?_⟩
      · by_cases z : c = j
        · subst z
          exact absurd hu e
        · exact g3 c (by omega) hu
      · show f_X7_laySorted_L4 (f + 1) _ _ _ = f_X7_laySorted_L4 f _ _ _
        dsimp only
        have : fb_ct (cl (A 0 4)) (j + 1) = fb_ct (cl (A 0 4)) j := by
          rw [fb_ct_succ, cl_n e]
          rfl
        rw [f_X7_laySorted_L4, pm_0_0, if_neg (nI_ge hj (by omega)), na_inb (by omega) (by omega), na_ck, na_ix (by omega), pm_4 (by omega), if_neg (uw_1 e), na_lt, nI_1, this]
/-- the hall with the first j places laid by number -/
def oJ (A : AM) (code j : Nat) : AM := fun p q => if p = 7 ∧ q < j then odr A code q else A p q
theorem oJ_n {code j p q : Nat} (h : p ≠ 7) : oJ A code j p q = A p q := if_neg (fun z => h z.1)
theorem oJ_y {code j q : Nat} (h : q < j) : oJ A code j 7 q = odr A code q := if_pos ⟨rfl, h⟩
theorem oJ_0 {code : Nat} : oJ A code 0 = A := by
  funext p q
  exact if_neg (by omega)
theorem oJ_s {code j : Nat} : ua (oJ A code j) 7 j (odr A code j) = oJ A code (j + 1) := by
  funext p q
  simp only [ua, oJ]
  by_cases e : p = 7 ∧ q = j
  · obtain ⟨rfl, rfl⟩ := e
    rw [if_pos ⟨rfl, rfl⟩, if_pos ⟨rfl, by omega⟩]
  · rw [if_neg e]
    by_cases e2 : p = 7 ∧ q < j
    · rw [if_pos e2, if_pos ⟨e2.1, by omega⟩]
    · rw [if_neg e2, if_neg (by omega)]
theorem WB_oJ (w : WF A) {code j : Nat} (hc : code < fct (A 0 8)) (hj : j ≤ A 0 8) : WB (oJ A code j) := by
  have od := fun q (hq : q < A 0 8) => (odr_ok w hc hq).1
  obtain ⟨⟨w1, w2, w3, ⟨w4, w5⟩, w6, w7, ⟨w8, w9⟩, w10⟩, o⟩ := w
  refine ⟨by rw [oJ_n (by omega)]; exact w1, by rw [oJ_n (by omega)]; exact w2, by rw [oJ_n (by omega)]; exact w3, ⟨by rw [oJ_n (by omega)]; exact w4, by rw [oJ_n (by omega)]; exact w5⟩, by rw [oJ_n (by omega)]; exact w6, by rw [oJ_n (by omega)]; exact w7, ⟨by rw [oJ_n (by omega)]; exact w8, by rw [oJ_n (by omega)]; exact w9⟩, fun q hq => ?_⟩
  obtain ⟨c1, c2, c3, c4, c5, c6, c7⟩ := w10 q hq
  refine ⟨by rw [oJ_n (by omega)]; exact c1, by rw [oJ_n (by omega)]; exact c2, by rw [oJ_n (by omega)]; exact c3, by rw [oJ_n (by omega)]; exact c4, by rw [oJ_n (by omega)]; exact c5, by rw [oJ_n (by omega)]; exact c6, ?_⟩
  show (if (7 : Nat) = 7 ∧ q < j then odr A code q else A 7 q) < 7
  split
  · next z =>
    have := od q (by omega)
    omega
  · exact c7
/-- places among those who wait, and among all -/
theorem ct_rel {mv m : Nat} {s : AM} (hs : s 0 4 = m) (h1 : ∀ c, c < A 0 0 → uw A c → cl mv (fb_ct (cl (A 0 4)) c) = cl m c) (h2 : ∀ c, c < A 0 0 → ¬ uw A c → ¬ uw s c) : ∀ c, c ≤ A 0 0 → fb_ct (cl mv) (fb_ct (cl (A 0 4)) c) = fb_ct (cl m) c
  | 0, _ => rfl
  | c + 1, hc => by
    have ih := ct_rel hs h1 h2 c (by omega)
    by_cases e : uw A c
    · rw [fb_ct_succ, cl_y e, if_pos rfl, fb_ct_succ, fb_ct_succ, ih, h1 c (by omega) e]
    · have e2 := cl_n (h2 c (by omega) e)
      rw [hs] at e2
      rw [fb_ct_succ, cl_n e, fb_ct_succ, e2]
      exact ih
theorem M_layOrder (w : WF A) {code : Nat} (hc : code < fct (A 0 8)) {W : Mem} (hS : S19 A W) : f_X7_layOrder (pm A W) (nI code) = some (pm (oJ A code (A 0 8)) W) := by
  have w1 := w.1.1
  have w3 := w.1.2.2.1
  have hl := lpi (fun f (s : Int32 × Int32 × Mem) i => f_X7_layOrder_L7 f s.1 s.2.1 i s.2.2) (A 0 8) (fun j s => ∃ mv, mv < 128 ∧ (∀ c, c < A 0 0 → uw A c → cl mv (fb_ct (cl (A 0 4)) c) = cl ((stp A code j).2 0 4) c) ∧ s = (nI (stp A code j).1, nI mv, pm (oJ A code j) W)) (fun t => t = pm (oJ A code (A 0 8)) W) (fun f s hs => ?_) (fun f j s hj hs => ?_) (A 0 8) 0 6000 (nI code, nI 0, pm A W) (by omega) (by omega) ⟨0, by omega, fun c hc hu => ?_, by rw [oJ_0]; rfl⟩
  · obtain ⟨t, g1, rfl⟩ := hl
    unfold f_X7_layOrder
    have : f_X7_layOrder_L7 6000 (nI code) 0 0 (pm A W) = some (pm (oJ A code (A 0 8)) W) := g1
    rw [this]
    rfl
  · obtain ⟨mv, m1, m2, rfl⟩ := hs
    refine ⟨_, ?_, rfl⟩
    show f_X7_layOrder_L7 (f + 1) _ _ _ _ = _
    dsimp only
    rw [f_X7_layOrder_L7, pm_0_9, oJ_n (by omega), if_pos (nI_le (Nat.le_refl _) (by omega))]
  · obtain ⟨mv, m1, m2, rfl⟩ := hs
    have ok := stp_ok w hc j (by omega)
    obtain ⟨o1, o2, o3⟩ := odr_ok w hc hj
    have ou := odr_uw w hc hj
    obtain ⟨k1, k2, k3, k4, k5⟩ := ok
    have rel := ct_rel (A := A) rfl m2 k5
    have f7 := fct_7 (A 0 8 - j) (by omega)
    have f6 := fct_7 (A 0 8 - 1 - j) (by omega)
    have fp := fct_pos (A 0 8 - 1 - j)
    obtain ⟨T, hT⟩ : ∃ T, T = fb_ct (cl (A 0 4)) (odr A code j) := ⟨_, rfl⟩
    have T7 : T < 7 := by
      have := fb_ct_le (cl (A 0 4)) (odr A code j)
      omega
    have Tc : cl mv T = true := by
      rw [hT, m2 _ o1 ou]
      exact cl_y o2
    have Tn : (stp A code j).1 / fct (A 0 8 - 1 - j) + fb_ct (cl mv) 0 = fb_ct (cl mv) T := by
      rw [hT, rel _ (by omega), o3]
      rfl
    have pk := M_pick m1 T7 Tc T 0 _ 6000 (by omega) Tn (by omega)
    have r19 : W 19 T = nI (odr A code j) := by
      rw [hT]
      exact hS _ o1 ou
    refine ⟨(nI (stp A code (j + 1)).1, nI (mv ||| 2 ^ T), pm (oJ A code (j + 1)) W), ⟨mv ||| 2 ^ T, na_orlt mv m1 T T7, fun c hc hu => ?_, rfl⟩, ?_⟩
    · have := fb_ct_le (cl (A 0 4)) c
      have e4 : (stp A code (j + 1)).2 0 4 = (stp A code j).2 0 4 ||| 2 ^ odr A code j := hw_04
      rw [cl_or m1 T7 (by omega), e4, cl_or k1.2.1 (by omega) (by omega)]
      by_cases z : c = odr A code j
      · rw [if_pos z, if_pos (by rw [z, hT])]
      · rw [if_neg z, if_neg (fun y => z (fb_ct_kth_one (cl_y hu) (cl_y ou) (y.trans hT)))]
        exact m2 c hc hu
    · show f_X7_layOrder_L7 (f + 1) _ _ _ _ = f_X7_layOrder_L7 f _ _ _ _
      dsimp only
      have nz : (!decide (nI (fct (A 0 8 - 1 - j)) = 0)) = true := by
        have : ¬ nI (fct (A 0 8 - 1 - j)) = (0 : Int32) := by
          rw [show (0 : Int32) = nI 0 from rfl, nI_eq (by omega) (by omega)]
          omega
        simp [this]
      have pk' : f_X7_layOrder_L44 (nI mv) 6000 (nI ((stp A code j).1 / fct (A 0 8 - 1 - j))) 0 = some (nI T) := pk
      have e1 : nI (A 0 8) - 1 - nI j = nI (A 0 8 - 1 - j) := by
        rw [show (1 : Int32) = nI 1 from rfl, pk_sub (by omega), pk_sub (by omega)]
      rw [f_X7_layOrder_L7, pm_0_9, oJ_n (by omega), if_neg (nI_ge hj (by omega)), e1, M_fct _ (by omega), Option.bind_some, nz, na_ck, pk_rem (by omega) (by omega) (by omega), pk_div (by omega) (by omega) (by omega), na_lt, na_ck, na_lt, pk', Option.bind_some, na_inb (by omega) (by omega), na_ck, na_inb (by omega) (by omega), na_ck, na_ix (by omega), na_ix (by omega), pm_19, r19, pm_w8 (by omega), oJ_s, na_lt, na_or mv m1 T T7, na_lt, nI_1, na_lt]
      rfl
  · have : fb_ct (cl (A 0 4)) c < 7 := by
      have := fb_ct_le (cl (A 0 4)) c
      omega
    rw [show cl 0 (fb_ct (cl (A 0 4)) c) = true from decide_eq_true (by rw [Nat.zero_div])]
    exact (cl_y hu).symm
/-- what an order costs -/
theorem ws_n {p k : Nat} (h : p ≠ 7) (h2 : ¬ (p = 0 ∧ (k = 4 ∨ k = 8))) : wsA A p k = A p k := by
  unfold wsA offA
  rw [ua_n (by omega), ua_n (by omega)]
  exact if_neg (fun z => h z.1)
theorem ws_04 : wsA A 0 4 = A 0 4 ||| 2 ^ A 7 0 := ua_s
theorem EX.ws : EX (wsA A) A := ⟨⟨ws_n (by omega) (by omega), ws_n (by omega) (by omega), ws_n (by omega) (by omega), ws_n (by omega) (by omega), ws_n (by omega) (by omega), ws_n (by omega) (by omega)⟩, fun k => ⟨ws_n (by omega) (by omega), ws_n (by omega) (by omega), ws_n (by omega) (by omega)⟩⟩
theorem weN_stp {code : Nat} : ∀ j, j ≤ A 0 8 → EX (weN (oJ A code (A 0 8)) j) (stp A code j).2 ∧ weN (oJ A code (A 0 8)) j 0 4 = (stp A code j).2 0 4 ∧ ∀ k, weN (oJ A code (A 0 8)) j 4 k = (stp A code j).2 4 k
  | 0, _ => ⟨⟨⟨oJ_n (by omega), oJ_n (by omega), oJ_n (by omega), oJ_n (by omega), oJ_n (by omega), oJ_n (by omega)⟩, fun k => ⟨oJ_n (by omega), oJ_n (by omega), oJ_n (by omega)⟩⟩, oJ_n (by omega), fun k => oJ_n (by omega)⟩
  | j + 1, hj => by
    obtain ⟨g1, g2, g3⟩ := weN_stp (code := code) j (by omega)
    have c7 : weN (oJ A code (A 0 8)) j 7 0 = odr A code j := by
      rw [weN_7 j 0 (by rw [oJ_n (by omega)]; omega), Nat.zero_add, oJ_y (by omega)]
    obtain ⟨X, hX⟩ : ∃ X, X = weN (oJ A code (A 0 8)) j := ⟨_, rfl⟩
    rw [← hX] at g1 g2 g3 c7
    obtain ⟨S, hS⟩ : ∃ S, S = (stp A code j).2 := ⟨_, rfl⟩
    rw [← hS] at g1 g2 g3
    have e1 : weN (oJ A code (A 0 8)) (j + 1) = hoA (wsA X) (odr A code j) 0 := by
      rw [weN, ← hX, weA, c7]
    have e2 : (stp A code (j + 1)).2 = hw S (odr A code j) := by rw [stp_s, hS]
    have ex : EX (wsA X) S := EX.ws.trans g1
    rw [e1, e2]
    refine ⟨(ex.trans EX.u4.symm).ho, ?_, fun k => ?_⟩
    · rw [hw_04, ho_0 (by omega), ws_04, c7, g2]
    · rw [hw_4, ho_4, ex.be, ws_n (by omega) (by omega), g3 k]
theorem cst_is (w : WF A) {code : Nat} (hc : code < fct (A 0 8)) : allL (wal (oJ A code (A 0 8))) = cst A code := by
  have e8 : oJ A code (A 0 8) 0 8 = A 0 8 := oJ_n (by omega)
  obtain ⟨g1, g2, g3⟩ := weN_stp (A := A) (code := code) (A 0 8) (Nat.le_refl _)
  obtain ⟨k1, k2, k3, k4, k5⟩ := stp_ok w hc (A 0 8) (Nat.le_refl _)
  unfold wal
  rw [e8, allL_cg g1.1.1 (fun c => ⟨(g1.2 c).2.2, g3 c⟩)]
  unfold cst allL lwd
  refine fb_sm_cong (fun c hc => ?_)
  rw [k2] at hc
  rw [Nat.sub_self, fb_ct_zero] at k4
  have := of_decide_eq_false (k4 c hc)
  rw [if_neg this]
theorem M_best (w : WF A) {W : Mem} (hK : KP A W) (hS : S19 A W) : ∃ W', f_X7_best_L47 (nI (fct (A 0 8))) 6000 0 (-1) 0 (pm A W) = some (nI (bsT A (fct (A 0 8))).2, nI (bsT A (fct (A 0 8))).1, pm A W') ∧ KP A W' ∧ KE W W' ∧ S19 A W' := by
  have w3 := w.1.2.2.1
  have f7 := fct_7 (A 0 8) w3
  have fp := fct_pos (A 0 8)
  obtain ⟨N, hN⟩ : ∃ N, N = fct (A 0 8) := ⟨_, rfl⟩
  rw [← hN] at f7 fp
  have hl := lpi (fun f (s : Int32 × Int32 × Mem) i => f_X7_best_L47 (nI (fct (A 0 8))) f s.1 s.2.1 i s.2.2) N (fun k s => ∃ W', s = (nI (bsT A k).2, (if k = 0 then -1 else nI (bsT A k).1), pm A W') ∧ KP A W' ∧ KE W W' ∧ S19 A W') (fun t => ∃ W', t = (nI (bsT A N).2, nI (bsT A N).1, pm A W') ∧ KP A W' ∧ KE W W' ∧ S19 A W') (fun f s hs => ?_) (fun f k s hk hs => ?_) N 0 6000 (nI 0, -1, pm A W) (by omega) (by omega) ⟨W, rfl, hK, KE.rf, hS⟩
  · obtain ⟨t, g1, W', rfl, g2, g3, g4⟩ := hl
    rw [hN] at g1
    exact ⟨W', by rw [hN] at *; exact g1, g2, g3, g4⟩
  · obtain ⟨W', rfl, g2, g3, g4⟩ := hs
    refine ⟨_, ?_, W', rfl, g2, g3, g4⟩
    show f_X7_best_L47 _ (f + 1) _ _ _ _ = _
    dsimp only
    rw [f_X7_best_L47, ← hN, if_pos (nI_le (Nat.le_refl _) (by omega)), if_neg (by omega)]
  · obtain ⟨W', rfl, g2, g3, g4⟩ := hs
    have hk' : k < fct (A 0 8) := by omega
    have wo := WB_oJ w hk' (Nat.le_refl _)
    have l1 := cst_14 w hk'
    have l2 := bsT_le w k (by omega)
    refine ⟨(nI (bsT A (k + 1)).2, (if k + 1 = 0 then -1 else nI (bsT A (k + 1)).1), pm A (ag A W')), ⟨_, rfl, kp_ag g2, g3.trans ke_ag, fun c hc hu => by rw [ag_19]; exact g4 c hc hu⟩, ?_⟩
    show f_X7_best_L47 _ (f + 1) _ _ _ _ = f_X7_best_L47 _ f _ _ _ _
    dsimp only
    rw [f_X7_best_L47, ← hN, if_neg (nI_ge hk (by omega)), M_layOrder w hk' g4, Option.bind_some, M_lateNow wo, Option.bind_some, cst_is w hk']
    dsimp only
    rw [na_lt, M_again g2, Option.bind_some, if_neg (by omega : ¬ k + 1 = 0)]
    by_cases e0 : k = 0
    · subst e0
      rw [if_pos rfl, if_pos (by decide), na_lt, if_pos (by decide), na_lt, bsT, if_neg (show ¬ (bsT A 0).1 ≤ cst A 0 from by show ¬ 1000000000 ≤ _; omega)]
      rfl
    · rw [if_neg e0]
      have l3 := l2.2 (by omega)
      have e1 : ¬ nI (bsT A k).1 < 0 := nI_pos (by omega)
      have e : (nI (bsT A k).1 ≤ nI (cst A k)) = ((bsT A k).1 ≤ cst A k) := na_le (by omega) (by omega)
      rw [if_neg e1, na_lt, if_neg e1, bsT]
      simp only [e, na_lt, nI_1]
      by_cases e2 : (bsT A k).1 ≤ cst A k
      · simp only [e2, if_true]
      · simp only [e2, if_false]
theorem X_find (w : WF A) {g t : Mem} : ∃ g' C', f_X0_find g t (px A h1) = some (g', px C' t) ∧ SK A g' (fct (A 0 8)) := by
  have w3 := w.1.2.2.1
  obtain ⟨g', B', k1, k2, -, -, -⟩ := X_seek w (A 0 8) 10 0 0 A A (xs (xs g 0 3 (nI (A 0 8))) 0 4 (nI 1000000000)) t (by omega) (by omega) (by omega) (fun e _ => by
    rw [Nat.zero_add]
    exact ⟨rfl, fun i hi => absurd hi (Nat.not_lt_zero i)⟩) w.1 EX.rf ⟨by simp [xs], by simp [xs, bsT], fun z => absurd z (Nat.lt_irrefl _)⟩ (fun i hi => absurd hi (Nat.not_lt_zero i))
  refine ⟨g', B', ?_, by rw [Nat.zero_add] at k2; exact k2⟩
  unfold f_X0_find
  have k1' : f_X0_seek 10 (xs (xs g 0 3 (nI (A 0 8))) 0 4 1000000000) (px A t) 0 (nI (A 0 4)) (nI (lwd A)) = some (g', px B' t) := k1
  rw [X_become, Option.bind_some, px_0_8, na_lt, na_lt, X_lateOfWed w.1, Option.bind_some, px_0_4, k1']
  rfl
theorem op_best (R : RR A m0 (px A h1) m3 m4 ks m13 (pm A M)) (m14 m15 : Mem) (a : Int32) : ∃ r m0' m14' m15' M', f_X6_best m0 (px A h1) m14 m15 a = some (r, m0', m14', m15') ∧ f_X7_best (pm A M) a = some (r, M') ∧ RR A m0' (px A h1) m3 m4 ks m13 M' := by
  have wf := R.1
  have wb := wf.1
  have w3 := wb.2.2.1
  have f7 := fct_7 (A 0 8) w3
  have fp := fct_pos (A 0 8)
  by_cases h1' : -1 ≤ a
  · obtain ⟨g', C', x1, x2, x3, x4⟩ := X_find (h1 := h1) (g := m14) (t := m15) wf
    obtain ⟨W1, y1, y2, y3⟩ := M_laySorted wb (W := M14 M)
    have s1 : S19 A (tk A W1) := fun c hc hu => by rw [tk_19]; exact y3 c hc hu
    obtain ⟨W2, z1, z2, z3, z4⟩ := M_best wf (kp_tk (A := A) (M := W1)) s1
    have lb := bsT_le wf (fct (A 0 8)) (Nat.le_refl _)
    have lo := M_layOrder wf (code := (bsT A (fct (A 0 8))).2) (lb.2 fp).2 z4
    have ke : KE M (ag A W2) := ke14.trans (y2.trans (ke_tk.trans (z3.trans ke_ag)))
    have hag := M_again (A' := oJ A (bsT A (fct (A 0 8))).2 (A 0 8)) z2
    have M0 : ∀ r, (if 0 ≤ a then (if nI (A 0 8) ≤ a then some (-9) else ck (inb a 7) (some (pm (oJ A (bsT A (fct (A 0 8))).2 (A 0 8)) W2 8 (ix a)))) else some (nI (bsT A (fct (A 0 8))).1)) = some r → f_X7_best (pm A M) a = some (r, pm A (ag A W2)) := fun r hr => by
      unfold f_X7_best
      rw [na_lt, M_t14, if_pos h1', y1, Option.bind_some, pm_0_9, M_fct _ w3, Option.bind_some, na_lt, M_think, Option.bind_some, z1, Option.bind_some]
      dsimp only
      rw [lo, Option.bind_some, hr, Option.bind_some, hag]
      rfl
    by_cases ha : a = -1
    · subst ha
      refine ⟨nI (bsT A (fct (A 0 8))).1, m0, g', px C' m15, pm A (ag A W2), ?_, M0 _ (by rw [if_neg (by decide)]), R.kp ke⟩
      unfold f_X6_best
      rw [if_pos h1', x1, Option.bind_some, if_pos rfl]
      show some (g' 0 4, _, _, _) = _
      rw [x3]
    · have h0 : (0 : Int32) ≤ a := by
        rw [fa_le] at h1' ⊢
        have q1 : (-1 : Int32).toInt = -1 := by decide
        have q0 : (0 : Int32).toInt = 0 := by decide
        have : a.toInt ≠ (-1 : Int32).toInt := fun e => ha (Int32.toInt_inj.mp e)
        omega
      rcases na_cs a (n := A 0 8) (by omega) with ho | ⟨j, hj, rfl⟩
      · have h8 : nI (A 0 8) ≤ a := by
          rcases ho with z | z
          · rw [nI_0, fa_lt] at z
            rw [fa_le] at h0
            omega
          · exact z
        refine ⟨-9, m0, g', px C' m15, pm A (ag A W2), ?_, M0 _ (by rw [if_pos h0, if_pos h8]), R.kp ke⟩
        unfold f_X6_best
        rw [if_pos h1', x1, Option.bind_some, if_neg ha]
        show (if g' 0 3 ≤ a then _ else _) = _
        rw [x2, if_pos h8]
      · have h8 : ¬ nI (A 0 8) ≤ nI j := nI_ge hj (by omega)
        refine ⟨nI (odr A (bsT A (fct (A 0 8))).2 j), m0, g', px C' m15, pm A (ag A W2), ?_, M0 _ (by rw [if_pos h0, if_neg h8, na_inb (by omega) (by omega), na_ck, na_ix (by omega), pm_8 (by omega), oJ_y hj]), R.kp ke⟩
        unfold f_X6_best
        rw [if_pos h1', x1, Option.bind_some, if_neg ha]
        show (if g' 0 3 ≤ nI j then _ else ck (inb (nI j) 7) (some (g' 2 (ix (nI j)), _, _, _))) = _
        rw [x2, if_neg h8, na_inb (by omega) (by omega), na_ck, na_ix (by omega), x4 fp j hj]
  · exact ⟨-4, rf m0 2 4, m14, m15, pm A (rf (M14 M) 10 4), by simp only [f_X6_best, h1', if_false, X_ref4, Option.bind_some], by simp only [f_X7_best, na_lt, M_t14, h1', if_false, M_ref4, Option.bind_some], R.rk ke14 (by omega)⟩
end OPS25
