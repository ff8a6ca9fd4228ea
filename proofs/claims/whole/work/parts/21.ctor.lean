/-! MAKING: in a constructor the shapes grow; what a key means is said anew for the new key alone -/
def x_ext (ad : Nat → Nat) (key q : Nat) : Nat → Nat := fun k => if k = key then q else ad k
/-- a shape that doesn't name this key, and has no place that changes -/
def x_nor (key : Nat) (sh : XSh) : Bool := match sh with
  | .inl _ => true
  | .inr (.inl ks) => ks.all (fun κ => κ != key + 1)
  | .inr (.inr o) => o.2.all (fun κ => κ != 2 && κ != key + 3)
/-- a key that is free: no shape has it or names it, its group is the given one's or behind all -/
def x_fresh (key : Nat) (shs : XSs) : Bool := shs.all (fun q => q.1 != key && x_nor key q.2) && key != 4095
def x_nov (key : Nat) (v : Value) : Bool := match v with
  | .ref k => k != key
  | _ => true
def x_frl (key : Nat) (ls : XLs) (st : List Value) : Bool := ls.all (fun q => match q.2 with
  | some v => x_nov key v
  | none => true) && st.all (x_nov key)
theorem x_cv_nov {ad : Nat → Nat} {key q : Nat} {v : Value} (h : x_nov key v = true) : x_cv (x_ext ad key q) v = x_cv ad v := by
  cases v with
  | ref k =>
    have : k ≠ key := by simpa [x_nov] using h
    simp [x_cv, x_ext, this]
  | _ => rfl
theorem x_fs_nor {ad : Nat → Nat} {key q g : Nat} : ∀ {κs : List Nat} {row : Nat → Int32} {i : Nat}, κs.all (fun κ => κ != 2 && κ != key + 3) = true → x_fs (x_ext ad key q) g κs row i = x_fs ad g κs row i
  | [], _, _, _ => rfl
  | κ :: r, row, i, h => by
    simp only [List.all_cons, Bool.and_eq_true, bne_iff_ne] at h
    show x_fv _ g κ (row i) :: x_fs _ g r row (i + 1) = x_fv _ g κ (row i) :: x_fs _ g r row (i + 1)
    rw [x_fs_nor (κs := r) (by simpa using h.2)]
    congr 1
    match κ, h.1 with
    | 0, _ => rfl
    | 1, _ => rfl
    | 2, h2 => exact absurd rfl h2.1
    | k + 3, h2 =>
      have : k ≠ key := fun e => h2.2 (by rw [e])
      simp [x_fv, x_ext, this]
theorem x_cell_nor {cc : ClassId × ClassId} {ad : Nat → Nat} {key q k : Nat} {sh : XSh} {row : Nat → Int32} (h : x_nor key sh = true) : x_cell cc (x_ext ad key q) k sh row = x_cell cc ad k sh row := by
  match sh, h with
  | .inl n, _ => rfl
  | .inr (.inl ks), h =>
    show Sum.inl (cc.2, (ks.length, Sum.inr (Sum.inr (Sum.inr (Sum.inr _))))) = Sum.inl (cc.2, (ks.length, Sum.inr (Sum.inr (Sum.inr (Sum.inr _)))))
    have : x_rf (x_ext ad key q) ks = x_rf ad ks := by
      funext i
      unfold x_rf
      cases e : ks[i]? with
      | none => simp [List.getD, e]
      | some j =>
        have hj := List.all_eq_true.mp h j (List.mem_of_getElem? e)
        simp only [List.getD, e, Option.getD_some]
        cases j with
        | zero => rfl
        | succ j =>
          have : j ≠ key := by
            intro z
            simp [z] at hj
          simp [x_ext, this]
    rw [this]
  | .inr (.inr o), h =>
    show Sum.inr (o.1, x_fs _ _ o.2 row 0) = Sum.inr (o.1, x_fs _ _ o.2 row 0)
    rw [x_fs_nor h]
theorem x_lk_app {shs : XSs} {key k : Nat} {sh : XSh} : x_lk (shs ++ [(key, sh)]) k = match x_lk shs k with
  | some s => some s
  | none => if key = k then some sh else none := by
  induction shs with
  | nil => simp [x_lk]
  | cons q r ih =>
    show (if q.1 = k then some q.2 else x_lk (r ++ [(key, sh)]) k) = _
    by_cases e : q.1 = k
    · simp [x_lk, e]
    · rw [if_neg e, ih]
      simp [x_lk, e]
theorem x_lk_none {shs : XSs} {key : Nat} (h : shs.all (fun q => q.1 != key && x_nor key q.2) = true) : x_lk shs key = none := by
  induction shs with
  | nil => rfl
  | cons q r ih =>
    simp only [List.all_cons, Bool.and_eq_true, bne_iff_ne] at h
    unfold x_lk
    rw [if_neg h.1.1]
    exact ih (by simpa using h.2)
/-- one cell more -/
theorem x_more {cc : ClassId × ClassId} {ad : Nat → Nat} {shs : XSs} {hs hs2 : List Mem} {key q : Nat} {sh : XSh} {e : va_E} (hf : x_fresh key shs = true) (hsame : ∀ k s, (k, s) ∈ shs → x_hs hs2 k = x_hs hs k) (he : x_cell cc (x_ext ad key q) key sh (x_hs hs2 key) = e) : x_w cc (x_ext ad key q) (shs ++ [(key, sh)]) hs2 = x_w cc ad shs hs ++ [(q, e)] := by
  unfold x_w
  rw [List.map_append]
  simp only [x_fresh, Bool.and_eq_true] at hf
  congr 1
  · refine List.map_congr_left (fun p hp => ?_)
    have h1 := List.all_eq_true.mp hf.1 p hp
    simp only [Bool.and_eq_true, bne_iff_ne] at h1
    rw [hsame p.1 p.2 hp, x_cell_nor h1.2]
    simp [x_ext, h1.1]
  · simp only [List.map_cons, List.map_nil, he]
    simp [x_ext]
theorem x_ls_nov {ad : Nat → Nat} {lsA : Array Slot} {nL : Nat} {ls : XLs} {key q : Nat} (h : ls.all (fun q => match q.2 with
  | some v => x_nov key v
  | none => true) = true) (hL : x_ls ad lsA nL ls) : x_ls (x_ext ad key q) lsA nL ls := by
  obtain ⟨l, h1, h2⟩ := hL
  refine ⟨l, h1, fun i v hi => ?_⟩
  have hv : x_nov key v = true := by
    clear h2 h1
    induction ls with
    | nil => cases hi
    | cons a r ih =>
      simp only [List.all_cons, Bool.and_eq_true] at h
      unfold xlk at hi
      by_cases e : a.1 = i
      · rw [if_pos e] at hi
        have := h.1
        rw [hi] at this
        exact this
      · rw [if_neg e] at hi
        exact ih (by simpa using h.2) hi
  rw [x_cv_nov hv]
  exact h2 i v hi
theorem x_st_nov {ad : Nat → Nat} {key q : Nat} {st : List Value} (h : st.all (x_nov key) = true) : st.map (x_cv (x_ext ad key q)) = st.map (x_cv ad) := List.map_congr_left (fun v hv => x_cv_nov (List.all_eq_true.mp h v hv))
theorem x_A_more {shs0 shs : XSs} {ad ad0 : Nat → Nat} {key q : Nat} {sh : XSh} (hf : x_fresh key shs = true) (h : (∀ k, x_lk shs0 k ≠ none → x_lk shs k ≠ none) ∧ ∀ k, (x_lk shs0 k ≠ none ∨ x_lk shs k = none) → ad k = ad0 k) : (∀ k, x_lk shs0 k ≠ none → x_lk (shs ++ [(key, sh)]) k ≠ none) ∧ ∀ k, (x_lk shs0 k ≠ none ∨ x_lk (shs ++ [(key, sh)]) k = none) → x_ext ad key q k = ad0 k := by
  simp only [x_fresh, Bool.and_eq_true] at hf
  have hn := x_lk_none hf.1
  refine ⟨fun k hk => ?_, fun k hk => ?_⟩
  · rw [x_lk_app]
    cases e : x_lk shs k with
    | none => exact absurd e (h.1 k hk)
    | some s => exact fun z => by cases z
  · rw [x_lk_app] at hk
    by_cases hkk : k = key
    · subst hkk
      rw [hn] at hk
      rcases hk with hk | hk
      · exact absurd hn (h.1 k hk)
      · simp at hk
    · simp only [x_ext, hkk, if_false]
      refine h.2 k ?_
      rcases hk with hk | hk
      · exact Or.inl hk
      · refine Or.inr ?_
        cases e : x_lk shs k with
        | none => rfl
        | some s => rw [e] at hk; cases hk
/-- what new needs of a class: its entry, how many fields, what they begin with -/
def XN (own : String) (idx ci N : Nat) (κs : List Nat) : Prop := ∃ (C : String) (T : u_T) (ty0 : Nat → FieldType), vwCl[ci]? = some (C, T, N) ∧ Cond.classLink own idx C ∈ xT ∧ Cond.instantiable C N ∈ xT ∧ Cond.initialized C ∈ xT ∧ (∀ w ∈ u_ws C T N, w ∈ xT) ∧ (∀ k, k < N → parseFieldDescriptor (T k).2.2.1 = some (ty0 k)) ∧ ∀ (ad : Nat → Nat) (g : Nat), ∀ j, j < N → defaultValue (ty0 j) = vp_V (x_fs ad g κs (fun _ => 0) 0) j

theorem x_fs_low {ad ad2 : Nat → Nat} {g : Nat} : ∀ {κs : List Nat} {i : Nat}, κs.all (fun κ => decide (κ < 3)) = true → x_fs ad g κs (fun _ => 0) i = x_fs ad2 g κs (fun _ => 0) i
  | [], _, _ => rfl
  | κ :: r, i, h => by
    simp only [List.all_cons, Bool.and_eq_true, decide_eq_true_eq] at h
    show x_fv _ g κ 0 :: x_fs _ g r _ (i + 1) = x_fv _ g κ 0 :: x_fs _ g r _ (i + 1)
    rw [x_fs_low (κs := r) (ad2 := ad2) (by simpa using h.2)]
    congr 1
    match κ, h.1 with
    | 0, _ => rfl
    | 1, _ => rfl
    | 2, _ => rfl
    | k + 3, h2 => omega
theorem XE_new {α R : Type} {B : XB} {M : XM} {Q : R → State → Prop} {pc n : Nat} {ls : XLs} {st : List Value} {c0 s0 : Nat} {shs : XSs} {hs : List Mem} {k : α → Option R} {o : Option α} {key ci N idx : Nat} {κs : List Nat} {shs2 : XSs} {hs2 : List Mem} (hx : XN M.1 idx ci N κs) (hf : x_fresh key shs = true) (hl : x_frl key ls st = true) (hc : c0 + 1 ≤ x_mc M ∧ s0 + N ≤ x_ms M) (hs1 : shs ++ [(key, .inr (.inr (ci, κs)))] = shs2) (hs3 : hs ++ [fun _ _ => 0] = hs2) (hkey : key = 64 * hs.length) (hgr : shs.all (fun q => decide (q.1 / 64 < hs.length)) = true) (hκ : κs.all (fun κ => decide (κ < 3)) = true) (hd : decode M.2.1 pc = .ok (.new idx, 3)) (hn : pc + 3 = n) (kk : XE B M Q n ls (.ref key :: st) (c0 + 1, s0 + N) shs2 hs2 k o) : XE B M Q pc ls (st) (c0, s0) shs hs k o := by
  subst hn
  subst hs1
  subst hs3
  obtain ⟨p, l, e, Rm, s, m, args, below, meth, c, D, cc, A, H0, ad0, shs0⟩ := B
  intro hO ad H locs lsA hP hD hS hA hL r hr
  obtain ⟨C, T, ty0, h1, h2, h3, h4, h5, h6, h7⟩ := hx
  have hc1 : c0 + 1 ≤ Rm.cells := Nat.le_trans hc.1 hO.2.2.2.2.2.2.2.2.2.2.2.2.2.1
  have hc2 : s0 + N ≤ Rm.slots := Nat.le_trans hc.2 hO.2.2.2.2.2.2.2.2.2.2.2.2.2.2
  refine va_new (fs := x_fs ad (key / 64) κs (fun _ => 0) 0) (ci := ci) hO.1 hO.2.1 hO.2.2.2.2.1 h5 ty0 h6 hO.2.2.2.1 (hO.2.2.2.2.1 _ h2) (hO.2.2.2.2.1 _ h3) (hO.2.2.2.2.1 _ h4) hO.2.2.2.2.2.1 hP hD hS hO.2.2.2.2.2.2.1 h1 (h7 _ _) hc1 hc2 hd (fun q H1 g1 g2 g3 => ?_)
  have hfs : x_fs (x_ext ad key q) (key / 64) κs (fun _ => 0) 0 = x_fs ad (key / 64) κs (fun _ => 0) 0 := x_fs_low hκ
  have hz : x_hs (hs ++ [fun _ _ => 0]) key = fun _ => 0 := by
    unfold x_hs
    rw [hkey, show 64 * hs.length / 64 = hs.length by omega]
    simp [List.getD]
  have hnor : x_cell cc (x_ext ad key q) key (.inr (.inr (ci, κs))) (x_hs (hs ++ [fun _ _ => 0]) key) = .inr (ci, x_fs ad (key / 64) κs (fun _ => 0) 0) := by
    rw [hz]
    show Sum.inr (ci, x_fs (x_ext ad key q) (key / 64) κs (fun _ => 0) 0) = _
    rw [hfs]
  have hw := x_more (cc := cc) (ad := ad) (hs := hs) (hs2 := hs ++ [fun _ _ => 0]) (q := q) hf (fun k s hk => by
    unfold x_hs
    have h9 := of_decide_eq_true (List.all_eq_true.mp hgr _ hk)
    have h10 : k / 64 < hs.length := h9
    congr 1
    simp [List.getD, List.getElem?_append_left h10]) hnor
  simp only [x_frl, Bool.and_eq_true] at hl
  have := kk hO (x_ext ad key q) H1 locs lsA (by rw [hw]; exact g1) (by rw [hw]; exact g2) g3 (x_A_more hf hA) (x_ls_nov hl.1 hL) r hr
  rw [show (Value.ref key :: st).map (x_cv (x_ext ad key q)) = .ref q :: st.map (x_cv ad) from by
    show x_cv _ (Value.ref key) :: st.map _ = _
    rw [x_st_nov hl.2]
    simp [x_cv, x_ext]] at this
  exact this
theorem XE_newa {α R : Type} {B : XB} {M : XM} {Q : R → State → Prop} {pc n : Nat} {ls : XLs} {st : List Value} {c0 s0 : Nat} {shs : XSs} {hs : List Mem} {k : α → Option R} {o : Option α} {key N : Nat} {z : Int32} {shs2 : XSs} (hac : Cond.arrayClass .int ∈ xT) (hrow : x_hs hs key = fun _ => 0) (hf : x_fresh key shs = true) (hl : x_frl key ls st = true) (hz : ¬ z < 0) (hN : z.toNatClampNeg = N) (hc : c0 + 1 ≤ x_mc M ∧ s0 + N ≤ x_ms M) (hb : N ≤ 1000) (hs1 : shs ++ [(key, .inl N)] = shs2) (hd : decode M.2.1 pc = .ok (.newarray .int, 2)) (hn : pc + 2 = n) (kk : XE B M Q n ls (.ref key :: st) (c0 + 1, s0 + N) shs2 hs k o) : XE B M Q pc ls (.int z :: st) (c0, s0) shs hs k o := by
  subst hn
  subst hs1
  obtain ⟨p, l, e, Rm, s, m, args, below, meth, c, D, cc, A, H0, ad0, shs0⟩ := B
  intro hO ad H locs lsA hP hD hS hA hL r hr
  have hc1 : c0 + 1 ≤ Rm.cells := Nat.le_trans hc.1 hO.2.2.2.2.2.2.2.2.2.2.2.2.2.1
  have hc2 : s0 + N ≤ Rm.slots := Nat.le_trans hc.2 hO.2.2.2.2.2.2.2.2.2.2.2.2.2.2
  refine va_newa (atype := .int) (ty := .int) (a0 := (N, .inl (fun _ => 0))) hO.1 hO.2.1 (hO.2.2.2.2.1 _ hac) rfl hO.2.2.2.2.2.1 hP hD hS hO.2.2.2.2.2.2.1 (fun _ => rfl) hz hN (by show N * 4 ≤ 536870912; omega) hc1 hc2 hd (fun q cA H1 g0 g1 g2 g3 => ?_)
  have hcA : cA = cc.1 := by
    have e1 := (g0.2 2 (cA, .int) rfl).2
    have e2 := (g0.2 0 (cc.1, .int) rfl).2
    exact Option.some.inj (e1.symm.trans e2)
  subst hcA
  have hw := x_more (cc := cc) (ad := ad) (hs := hs) (hs2 := hs) (q := q) (sh := .inl N) hf (fun _ _ _ => rfl) (e := .inl (cc.1, N, .inl (fun _ => 0))) (by rw [hrow]; rfl)
  simp only [x_frl, Bool.and_eq_true] at hl
  have := kk hO (x_ext ad key q) H1 locs lsA (by rw [hw]; exact g1) (by rw [hw]; exact g2) g3 (x_A_more hf hA) (x_ls_nov hl.1 hL) r hr
  rw [show (Value.ref key :: st).map (x_cv (x_ext ad key q)) = .ref q :: st.map (x_cv ad) from by
    show x_cv _ (Value.ref key) :: st.map _ = _
    rw [x_st_nov hl.2]
    simp [x_cv, x_ext]] at this
  exact this
theorem XE_anewa {α R : Type} {B : XB} {M : XM} {Q : R → State → Prop} {pc n : Nat} {ls : XLs} {st : List Value} {c0 s0 : Nat} {shs : XSs} {hs : List Mem} {k : α → Option R} {o : Option α} {key N idx : Nat} {z : Int32} {shs2 : XSs} (hcl : Cond.classLink M.1 idx RX2 ∈ xT) (hov : Cond.arrayOver (.object RX2) ∈ xT) (hf : x_fresh key shs = true) (hl : x_frl key ls st = true) (hz : ¬ z < 0) (hN : z.toNatClampNeg = N) (hc : c0 + 1 ≤ x_mc M ∧ s0 + N ≤ x_ms M) (hb : N ≤ 1000) (hs1 : shs ++ [(key, .inr (.inl (List.replicate N 0)))] = shs2) (hd : decode M.2.1 pc = .ok (.anewarray idx, 3)) (hn : pc + 3 = n) (kk : XE B M Q n ls (.ref key :: st) (c0 + 1, s0 + N) shs2 hs k o) : XE B M Q pc ls (.int z :: st) (c0, s0) shs hs k o := by
  subst hn
  subst hs1
  obtain ⟨p, l, e, Rm, s, m, args, below, meth, c, D, cc, A, H0, ad0, shs0⟩ := B
  intro hO ad H locs lsA hP hD hS hA hL r hr
  have hc1 : c0 + 1 ≤ Rm.cells := Nat.le_trans hc.1 hO.2.2.2.2.2.2.2.2.2.2.2.2.2.1
  have hc2 : s0 + N ≤ Rm.slots := Nat.le_trans hc.2 hO.2.2.2.2.2.2.2.2.2.2.2.2.2.2
  refine va_newq (C := RX2) hO.1 hO.2.1 hO.2.2.2.1 (hO.2.2.2.2.1 _ hcl) (va_AO.of (hO.2.2.2.2.1 _ hov)) hO.2.2.2.2.2.1 hP hD hS hO.2.2.2.2.2.2.1 hz hN (by omega) hc1 hc2 hd (fun q cA H1 g0 g1 g2 g3 => ?_)
  have hcA : cA = cc.2 := by
    obtain ⟨_, _, _, _, _, e1⟩ := (g0.2 2 (cA, .object RX2) rfl).2
    obtain ⟨_, _, _, _, _, e2⟩ := (g0.2 1 (cc.2, .object RX2) rfl).2
    exact Option.some.inj (e1.symm.trans e2)
  subst hcA
  have hw := x_more (cc := cc) (ad := ad) (hs := hs) (hs2 := hs) (q := q) (sh := .inr (.inl (List.replicate N 0))) hf (fun _ _ _ => rfl) (e := .inl (cc.2, N, .inr (.inr (.inr (.inr (fun _ => none)))))) (by
    show Sum.inl (cc.2, ((List.replicate N 0).length, Sum.inr (Sum.inr (Sum.inr (Sum.inr (x_rf _ (List.replicate N 0))))))) = _
    rw [List.length_replicate]
    have : x_rf (x_ext ad key q) (List.replicate N 0) = fun _ => none := by
      funext i
      unfold x_rf
      have : (List.replicate N 0).getD i 0 = 0 := by
        simp only [List.getD, List.getElem?_replicate]
        split <;> rfl
      rw [this]
    rw [this])
  simp only [x_frl, Bool.and_eq_true] at hl
  have := kk hO (x_ext ad key q) H1 locs lsA (by rw [hw]; exact g1) (by rw [hw]; exact g2) g3 (x_A_more hf hA) (x_ls_nov hl.1 hL) r hr
  rw [show (Value.ref key :: st).map (x_cv (x_ext ad key q)) = .ref q :: st.map (x_cv ad) from by
    show x_cv _ (Value.ref key) :: st.map _ = _
    rw [x_st_nov hl.2]
    simp [x_cv, x_ext]] at this
  exact this
theorem XE_objInit {α R : Type} {B : XB} {M : XM} {Q : R → State → Prop} {pc n : Nat} {ls : XLs} {st : List Value} {c0 s0 : Nat} {shs : XSs} {hs : List Mem} {k : α → Option R} {o : Option α} {idx a : Nat} (hx1 : Cond.methodLink M.1 idx Lib.objectInit ∈ xT) (hx2 : Cond.instanceMethod Lib.objectInit ∈ xT) (hx3 : Cond.code Lib.objectInit ⟨#[0xb1]⟩ 1 none ∈ xT) (h1 : 1 ≤ x_dp M) (hst : (st.map fun v => v.category).sum ≤ 20) (hd : decode M.2.1 pc = .ok (.invokespecial idx, 3)) (hn : pc + 3 = n) (kk : XE B M Q n ls (st) (c0, s0) shs hs k o) : XE B M Q pc ls (.ref a :: st) (c0, s0) shs hs k o := by
  subst hn
  obtain ⟨p, l, e, Rm, s, m, args, below, meth, c, D, cc, A, H0, ad0, shs0⟩ := B
  intro hO ad H locs lsA hP hD hS hA hL r hr
  have hfr : x_dp M ≤ Rm.frames := hO.2.2.2.2.2.2.2.2.2.2.1
  have hlo : 40 * x_dp M ≤ Rm.locals := hO.2.2.2.2.2.2.2.2.2.2.2.1
  exact W.objInit hO.1 hO.2.1 hO.2.2.2.1 (hO.2.2.2.2.1 _ hx1) (hO.2.2.2.2.1 _ hx2) (hO.2.2.2.2.1 _ hx3) rfl (hL.size.trans hO.2.2.1.symm) rfl hd (by omega) (by
    show 2 * 0 + ((st.map (x_cv ad)).map fun v => v.category).sum + 12 ≤ Rm.locals
    rw [x_cat_map]; omega) (kk hO ad H locs lsA hP hD hS hA hL r hr)
theorem XE_cputf {α R : Type} {B : XB} {M : XM} {Q : R → State → Prop} {pc n : Nat} {ls : XLs} {st : List Value} {c0 s0 : Nat} {shs : XSs} {hs : List Mem} {k : α → Option R} {o : Option α} {a j ci idx p : Nat} {κs : List Nat} {dec : Bool} {v : Int32} {m : Mem} {hs2 : List Mem} (hx : XF M.1 idx ci j .int false dec) (hsh : x_lk shs a = some (.inr (.inr (ci, κs)))) (hκ : κs[j]? = some 0) (hm : hs.getD (a / 64) (fun _ _ => 0) = m) (hp : a % 64 = p) (hg : a / 64 < hs.length) (hh : hs.set (a / 64) (xs m p j v) = hs2) (hd : decode M.2.1 pc = .ok (.putfield idx, 3)) (hn : pc + 3 = n) (kk : XE B M Q n ls (st) (c0, s0) shs hs2 k o) : XE B M Q pc ls (.int v :: .ref a :: st) (c0, s0) shs hs k o := by
  subst hn
  subst hp
  subst hm
  subst hh
  obtain ⟨p, l, e, Rm, s, m, args, below, meth, c, D, cc, A, H0, ad0, shs0⟩ := B
  intro hO ad H locs lsA hP hD hS hA hL r hr
  obtain ⟨C, T, N, ty0, h1, h2, h3, h4, h5, h6, h7, h8, h9⟩ := hx
  obtain ⟨i, hi⟩ := x_lk_at hsh
  have hcell : x_cell cc ad a (.inr (.inr (ci, κs))) (xs (hs.getD (a / 64) (fun _ _ => 0)) (a % 64) j v (a % 64)) = .inr (ci, (x_fs ad (a / 64) κs (x_hs hs a) 0).set j (x_cv ad (.int v))) := by
    show Sum.inr (ci, x_fs ad (a / 64) κs _ 0) = _
    rw [x_fs_upd hκ (x_hs hs a) (xs (hs.getD (a / 64) (fun _ _ => 0)) (a % 64) j v (a % 64)) (fun q hq => xs_ne _ _ _ _ q hq), xs_at]
    rfl
  refine va_put (ty := .int) (v := x_cv ad (.int v)) hO.1 hO.2.1 hO.2.2.2.2.1 h4 ty0 h5 h7 hO.2.2.2.1 hO.2.2.2.2.2.1 hP hD hS i (x_w_at hi) h1 j h2 (hO.2.2.2.2.1 _ h3) (fun _ z => z) h8 (by rw [h5 j h2, h6]) rfl rfl (by rw [x_fs_len]; exact (List.getElem?_eq_some_iff.mp hκ).1) hd (fun H1 locs1 g1 g2 g3 => ?_)
  have g4 := x_P_set hi hD hg (fun q hq => xs_off _ _ _ _ q hq) hcell g1
  exact kk hO ad H1 locs1 lsA g4 (x_D_any hD) g3 hA hL r hr
theorem XE_cputz {α R : Type} {B : XB} {M : XM} {Q : R → State → Prop} {pc n : Nat} {ls : XLs} {st : List Value} {c0 s0 : Nat} {shs : XSs} {hs : List Mem} {k : α → Option R} {o : Option α} {a j ci idx p : Nat} {κs : List Nat} {dec : Bool} {v : Int32} {m : Mem} {hs2 : List Mem} (hx : XF M.1 idx ci j .boolean false dec) (hsh : x_lk shs a = some (.inr (.inr (ci, κs)))) (hκ : κs[j]? = some 0) (hm : hs.getD (a / 64) (fun _ _ => 0) = m) (hp : a % 64 = p) (hg : a / 64 < hs.length) (hh : hs.set (a / 64) (xs m p j v) = hs2) (hz : isb v = true) (hd : decode M.2.1 pc = .ok (.putfield idx, 3)) (hn : pc + 3 = n) (kk : XE B M Q n ls (st) (c0, s0) shs hs2 k o) : XE B M Q pc ls (.int v :: .ref a :: st) (c0, s0) shs hs k o := by
  subst hn
  subst hp
  subst hm
  subst hh
  obtain ⟨p, l, e, Rm, s, m, args, below, meth, c, D, cc, A, H0, ad0, shs0⟩ := B
  intro hO ad H locs lsA hP hD hS hA hL r hr
  obtain ⟨C, T, N, ty0, h1, h2, h3, h4, h5, h6, h7, h8, h9⟩ := hx
  obtain ⟨i, hi⟩ := x_lk_at hsh
  have hcell : x_cell cc ad a (.inr (.inr (ci, κs))) (xs (hs.getD (a / 64) (fun _ _ => 0)) (a % 64) j v (a % 64)) = .inr (ci, (x_fs ad (a / 64) κs (x_hs hs a) 0).set j (x_cv ad (.int v))) := by
    show Sum.inr (ci, x_fs ad (a / 64) κs _ 0) = _
    rw [x_fs_upd hκ (x_hs hs a) (xs (hs.getD (a / 64) (fun _ _ => 0)) (a % 64) j v (a % 64)) (fun q hq => xs_ne _ _ _ _ q hq), xs_at]
    rfl
  refine va_put (ty := .boolean) (v := x_cv ad (.int v)) hO.1 hO.2.1 hO.2.2.2.2.1 h4 ty0 h5 h7 hO.2.2.2.1 hO.2.2.2.2.2.1 hP hD hS i (x_w_at hi) h1 j h2 (hO.2.2.2.2.1 _ h3) (fun _ z => z) h8 (by rw [h5 j h2, h6]) (narrow_isb hz) (fits_isb hz) (by rw [x_fs_len]; exact (List.getElem?_eq_some_iff.mp hκ).1) hd (fun H1 locs1 g1 g2 g3 => ?_)
  have g4 := x_P_set hi hD hg (fun q hq => xs_off _ _ _ _ q hq) hcell g1
  exact kk hO ad H1 locs1 lsA g4 (x_D_any hD) g3 hA hL r hr
theorem x_w_set {cc : ClassId × ClassId} {ad : Nat → Nat} {shs : XSs} {hs : List Mem} {i a : Nat} {sh : XSh} : x_w cc ad (shs.set i (a, sh)) hs = (x_w cc ad shs hs).set i (ad a, x_cell cc ad a sh (x_hs hs a)) := by
  unfold x_w
  rw [List.map_set]
theorem x_fs_put {ad : Nat → Nat} {g : Nat} {κs : List Nat} {row : Nat → Int32} {j b : Nat} (hj : j < κs.length) : x_fs ad g (κs.set j (b + 3)) row 0 = (x_fs ad g κs row 0).set j (.ref (ad b)) := by
  apply List.ext_getElem?
  intro n
  rw [x_fs_at, Nat.zero_add]
  have hl : j < (x_fs ad g κs row 0).length := by rw [x_fs_len]; exact hj
  by_cases e : n = j
  · subst e
    rw [List.getElem?_set_self hl, List.getElem?_set_self hj]; rfl
  · rw [List.getElem?_set_ne (fun z => e z.symm), List.getElem?_set_ne (fun z => e z.symm), x_fs_at, Nat.zero_add]
theorem x_lk_set {shs : XSs} {i a : Nat} {sh sh2 : XSh} (h : shs[i]? = some (a, sh)) (k : Nat) : (x_lk (shs.set i (a, sh2)) k = none) ↔ (x_lk shs k = none) := by
  induction shs generalizing i with
  | nil => simp at h
  | cons q r ih =>
    cases i with
    | zero =>
      cases h
      show ((if a = k then some sh2 else x_lk r k) = none) ↔ ((if a = k then some sh else x_lk r k) = none)
      by_cases e : a = k <;> simp [e]
    | succ i =>
      show ((if q.1 = k then some q.2 else x_lk (r.set i (a, sh2)) k) = none) ↔ ((if q.1 = k then some q.2 else x_lk r k) = none)
      by_cases e : q.1 = k
      · simp [e]
      · simp only [if_neg e]; exact ih h
theorem x_A_set {shs0 shs : XSs} {ad ad0 : Nat → Nat} {i a : Nat} {sh sh2 : XSh} (hi : shs[i]? = some (a, sh)) (h : (∀ k, x_lk shs0 k ≠ none → x_lk shs k ≠ none) ∧ ∀ k, (x_lk shs0 k ≠ none ∨ x_lk shs k = none) → ad k = ad0 k) : (∀ k, x_lk shs0 k ≠ none → x_lk (shs.set i (a, sh2)) k ≠ none) ∧ ∀ k, (x_lk shs0 k ≠ none ∨ x_lk (shs.set i (a, sh2)) k = none) → ad k = ad0 k :=
  ⟨fun k hk z => h.1 k hk ((x_lk_set hi k).mp z), fun k hk => h.2 k (hk.imp id (x_lk_set hi k).mp)⟩
theorem x_D_set {cc : ClassId × ClassId} {ad : Nat → Nat} {shs : XSs} {hs : List Mem} {A : Nat → Prop} {i a : Nat} {sh sh2 : XSh} (hi : shs[i]? = some (a, sh)) (hD : va_D A (x_w cc ad shs hs)) : va_D A (x_w cc ad (shs.set i (a, sh2)) hs) := by
  rw [x_w_set]
  exact hD.set (x_w_at hi)
theorem XE_cputr {α R : Type} {B : XB} {M : XM} {Q : R → State → Prop} {pc n : Nat} {ls : XLs} {st : List Value} {c0 s0 : Nat} {shs : XSs} {hs : List Mem} {k : α → Option R} {o : Option α} {i a j ci idx b : Nat} {κs : List Nat} {ty : FieldType} {shs2 : XSs} (hx : XF M.1 idx ci j ty true true) (ht : (∃ t, ty = .array t) ∨ ∃ t, ty = .object t) (hsh : shs[i]? = some (a, .inr (.inr (ci, κs)))) (hj : j < κs.length) (hin : M.2.2.2.2.1 = "<init>") (hs1 : shs.set i (a, .inr (.inr (ci, κs.set j (b + 3)))) = shs2) (hd : decode M.2.1 pc = .ok (.putfield idx, 3)) (hn : pc + 3 = n) (kk : XE B M Q n ls (st) (c0, s0) shs2 hs k o) : XE B M Q pc ls (.ref b :: .ref a :: st) (c0, s0) shs hs k o := by
  subst hn
  subst hs1
  obtain ⟨p, l, e, Rm, s, m, args, below, meth, c, D, cc, A, H0, ad0, shs0⟩ := B
  intro hO ad H locs lsA hP hD hS hA hL r hr
  obtain ⟨C, T, N, ty0, h1, h2, h3, h4, h5, h6, h7, h8, h9⟩ := hx
  refine va_putF (ty := ty) (v := .ref (ad b)) hO.1 hO.2.1 hO.2.2.2.2.1 h4 ty0 h5 h7 hO.2.2.2.1 hO.2.2.2.2.2.1 hP hD hS i (x_w_at hsh) h1 j h2 (hO.2.2.2.2.1 _ h3) (fun _ z => z) h8 (hO.2.2.2.2.2.2.2.2.1.trans hin) (h9 rfl) (by rw [h5 j h2, h6]) (by cases ht with | inl h => obtain ⟨t, rfl⟩ := h; rfl | inr h => obtain ⟨t, rfl⟩ := h; rfl) (by cases ht with | inl h => obtain ⟨t, rfl⟩ := h; rfl | inr h => obtain ⟨t, rfl⟩ := h; rfl) (by rw [x_fs_len]; exact hj) hd (fun H1 locs1 g1 g2 g3 => ?_)
  refine kk hO ad H1 locs1 lsA ?_ (x_D_set hsh hD) g3 (x_A_set hsh hA) hL r hr
  rw [x_w_set]
  have e : x_cell cc ad a (.inr (.inr (ci, κs.set j (b + 3)))) (x_hs hs a) = .inr (ci, (x_fs ad (a / 64) κs (x_hs hs a) 0).set j (.ref (ad b))) := by
    show Sum.inr (ci, x_fs ad (a / 64) (κs.set j (b + 3)) (x_hs hs a) 0) = _
    rw [x_fs_put hj]
  rw [e]
  exact g1
theorem XE_aast {α R : Type} {B : XB} {M : XM} {Q : R → State → Prop} {pc n : Nat} {ls : XLs} {st : List Value} {c0 s0 : Nat} {shs : XSs} {hs : List Mem} {k : α → Option R} {o : Option α} {i j0 a b jn ci : Nat} {z : Int32} {ks κs : List Nat} {shs2 : XSs} (hsh : shs[i]? = some (a, .inr (.inl ks))) (hb : shs[j0]? = some (b, .inr (.inr (ci, κs)))) (hci : ci = 2) (hin : inb z ks.length = true) (hz : ix z = jn) (hs1 : shs.set i (a, .inr (.inl (ks.set jn (b + 1)))) = shs2) (hd : decode M.2.1 pc = .ok (.aastore, 1)) (hn : pc + 1 = n) (kk : XE B M Q n ls (st) (c0, s0) shs2 hs k o) : XE B M Q pc ls (.ref b :: .int z :: .ref a :: st) (c0, s0) shs hs k o := by
  subst hn
  subst hs1
  subst hci
  subst hz
  obtain ⟨p, l, e, Rm, s, m, args, below, meth, c, D, cc, A, H0, ad0, shs0⟩ := B
  intro hO ad H locs lsA hP hD hS hA hL r hr
  refine va_astq (r := (RX2, TX2, 14)) hO.1 hO.2.1 hO.2.2.2.2.2.1 hP hD hS i 1 j0 2 (x_w_at hsh) rfl (x_w_at hb) rfl (inb_in hin) hd (fun H1 locs1 g1 g2 g3 => ?_)
  refine kk hO ad H1 locs1 lsA ?_ (x_D_set hsh hD) g3 (x_A_set hsh hA) hL r hr
  rw [x_w_set]
  have hlt : ix z < ks.length := by
    have := inb_in hin
    exact Nat.not_le.mp fun q => this (Or.inr q)
  have e : x_cell cc ad a (.inr (.inl (ks.set (ix z) (b + 1)))) (x_hs hs a) = .inl (cc.2, (ks.length, .inr (.inr (.inr (.inr (va_up (x_rf ad ks) (ix z) (some (ad b)))))))) := by
    show Sum.inl (cc.2, ((ks.set (ix z) (b + 1)).length, Sum.inr (Sum.inr (Sum.inr (Sum.inr (x_rf ad (ks.set (ix z) (b + 1)))))))) = _
    rw [List.length_set]
    have : x_rf ad (ks.set (ix z) (b + 1)) = va_up (x_rf ad ks) (ix z) (some (ad b)) := by
      funext q
      unfold x_rf va_up
      by_cases e : q = ix z
      · subst e
        simp [List.getD, List.getElem?_set_self hlt]
      · rw [if_neg e]
        simp only [List.getD, List.getElem?_set_ne (fun z => e z.symm)]
    rw [this]
  rw [e]
  exact g1
