/-! CONTRACTS: XMet says of a method, from its own small world on, what it answers; a call puts the small world into the caller's by places of groups -/
def XQ (D : va_G) (cc : ClassId × ClassId) (A : Nat → Prop) (ad0 : Nat → Nat) (shs0 shsF : XSs) (r : XR) : Array Value → State → Outcome → State → Prop := fun _ st oc t => (∃ ad' : Nat → Nat, (∀ k, (x_lk shs0 k ≠ none ∨ x_lk shsF k = none) → ad' k = ad0 k) ∧ oc = .returned (r.1.map (x_cv ad')) ∧ va_P D vwCl (x_w cc ad' shsF r.2) t.heap ∧ va_K D vwCl (x_tys cc) t ∧ va_D A (x_w cc ad' shsF r.2)) ∧ va_F A st t
def XMet (l : Launch) (y : MethodName) (bytes : ByteArray) (maxL : Nat) (ret : Option FieldType) (d mc ms : Nat) (av : List Value) (shs : XSs) (hs : List Mem) (shsF : XSs) (r : XR) : Prop := ∀ (D : va_G) (cc : ClassId × ClassId) (ad : Nat → Nat) (sz : Nat), Met l y (Cond.code y bytes maxL ret :: xT) ({ frames := d, cells := mc, slots := ms, locals := 40 * d }) (va_Pc (av.map (x_cv ad)) (fun U => U.heap.size = sz ∧ va_P D vwCl (x_w cc ad shs hs) U.heap ∧ va_K D vwCl (x_tys cc) U ∧ va_D (fun _ => True) (x_w cc ad shs hs))) (XQ D cc (va_A (x_w cc ad shs hs) sz) ad shs shsF r) mc ms (va_A (x_w cc ad shs hs) sz)
def XQm (B : XB) (mc ms : Nat) (shsF : XSs) (r : XR) : State → Prop := match B with
  | (_, _, _, _, s, _, args, below, _, _, D, cc, A, _, ad0, shs0) => MQ below (XQ D cc A ad0 shs0 shsF r) args s mc ms A
def x_args : Nat → List Value → XLs
  | _, [] => []
  | i, v :: vs => (i, some v) :: x_args (if v.category = 2 then i + 2 else i + 1) vs
theorem x_args_in (ad : Nat → Nat) : ∀ (vs : List Value) (i j : Nat) (v : Value), xlk (x_args i vs) j = some v → (j, x_cv ad v) ∈ lv_args i (vs.map (x_cv ad))
  | [], _, _, _, h => by cases h
  | u :: us, i, j, v, h => by
    unfold x_args xlk at h
    by_cases e : i = j
    · rw [if_pos e] at h
      cases h
      subst e
      exact List.mem_cons_self
    · rw [if_neg e] at h
      refine List.mem_cons_of_mem _ ?_
      rw [x_cv_cat]
      exact x_args_in ad us _ j v h
theorem XMet.of {τ : Type} {l : Launch} {y : MethodName} {bytes : ByteArray} {maxL : Nat} {ret : Option FieldType} {d mc ms : Nat} {av : List Value} {shs : XSs} {hs : List Mem} {shsF : XSs} {k : τ → Option XR} {o : Option τ} (hy : plainName y.cls = true) (hlen : ∀ ad, (lg_sl (av.map (x_cv ad))).length ≤ maxL)
    (h : ∀ B : XB, XE B (y.cls, bytes, maxL, ret, y.name, d, mc, ms) (XQm B mc ms shsF) 0 (x_args 0 av) [] (0, 0) shs hs k o) {r : XR} (hr : o.bind k = some r) : XMet l y bytes maxL ret d mc ms av shs hs shsF r := by
  intro D cc ad sz
  refine Met.ofW (cc := bytes) (maxL := maxL) (ret := ret) hy rfl ?_
  intro p e s m args below meth c s₁ B hml hv
  obtain ⟨rfl, hsz, hP, hK, hD0⟩ := hv
  subst hsz
  have hts := atoms_spec (ws := Cond.code y bytes maxL ret :: xT) B.pre
  have hown : s.vm.findClass y.cls = some m.cls := findClass_of_methodNamed B.named
  have hD := hD0.self (sz := s.heap.size)
  generalize hAe : va_A (x_w cc ad shs hs) s.heap.size = A at hD ⊢
  have hA : ∀ q : Nat, s.heap.size ≤ q → A q := fun q h => by rw [← hAe]; exact Or.inr h
  have hl := lv_entry (av.map (x_cv ad)) (n := maxL) (hlen ad)
  rw [lg_entry_eq]
  refine h (p, l, e, (headSpec (Cond.code y bytes maxL ret :: xT) { frames := d, cells := mc, slots := ms, locals := 40 * d }).room, s, m, _, below, meth, c, D, cc, A, s.heap, ad, shs) ⟨B.exec, B.bytes, hml, hown, fun w hw => hts w (List.mem_cons_of_mem _ hw), hK, hA, B.returns, (name_of_methodNamed B.named B.method).1, B.notSynchronized, Nat.le_refl _, Nat.le_refl _, rfl, Nat.le_refl _, Nat.le_refl _⟩ ad s.heap [] _ hP hD va_S.rf ⟨fun _ h => h, fun _ _ => rfl⟩ ⟨_, hl, fun i v hi => ?_⟩ r hr
  exact x_args_in ad av 0 i v hi
/-! renaming of places -/
def x_rk (π : List Nat) (k : Nat) : Nat := 64 * π.getD (k / 64) (k / 64) + k % 64
def x_rv (π : List Nat) (v : Value) : Value := match v with
  | .ref k => .ref (x_rk π k)
  | w => w
def x_rκ (π : List Nat) (κ : Nat) : Nat := match κ with
  | 0 => 0
  | 1 => 1
  | 2 => 2
  | k + 3 => x_rk π k + 3
def x_rj (π : List Nat) (j : Nat) : Nat := match j with
  | 0 => 0
  | k + 1 => x_rk π k + 1
def x_rs (π : List Nat) (sh : XSh) : XSh := match sh with
  | .inl n => .inl n
  | .inr (.inl ks) => .inr (.inl (ks.map (x_rj π)))
  | .inr (.inr o) => .inr (.inr (o.1, o.2.map (x_rκ π)))
theorem x_rk_div (π : List Nat) (k : Nat) : x_rk π k / 64 = π.getD (k / 64) (k / 64) := by unfold x_rk; omega
theorem x_rk_mod (π : List Nat) (k : Nat) : x_rk π k % 64 = k % 64 := by unfold x_rk; omega
theorem x_rk_put (π : List Nat) (g q : Nat) (h : q < 64) : x_rk π (64 * g + q) = 64 * π.getD g g + q := by
  unfold x_rk
  rw [show (64 * g + q) / 64 = g by omega, show (64 * g + q) % 64 = q by omega]
theorem x_cv_rv (ad : Nat → Nat) (π : List Nat) (v : Value) : x_cv ad (x_rv π v) = x_cv (fun k => ad (x_rk π k)) v := by cases v <;> rfl
theorem x_fs_rn (ad : Nat → Nat) (π : List Nat) (k : Nat) : ∀ (κs : List Nat) (row : Nat → Int32) (i : Nat), x_fs ad (x_rk π k / 64) (κs.map (x_rκ π)) row i = x_fs (fun k => ad (x_rk π k)) (k / 64) κs row i
  | [], _, _ => rfl
  | κ :: r, row, i => by
    show x_fv ad (x_rk π k / 64) (x_rκ π κ) (row i) :: x_fs ad (x_rk π k / 64) (r.map (x_rκ π)) row (i + 1) = x_fv _ (k / 64) κ (row i) :: _
    rw [x_fs_rn ad π k r row (i + 1)]
    congr 1
    match κ with
    | 0 => rfl
    | 1 => rfl
    | 2 =>
      show (if row i = 0 then Value.null else .ref (ad (64 * (x_rk π k / 64) + (row i).toNatClampNeg % 64))) = if row i = 0 then Value.null else .ref (ad (x_rk π (64 * (k / 64) + (row i).toNatClampNeg % 64)))
      rw [x_rk_div, x_rk_put _ _ _ (Nat.mod_lt _ (by decide))]
    | j + 3 => rfl
theorem x_rf_rn (ad : Nat → Nat) (π : List Nat) (ks : List Nat) : x_rf ad (ks.map (x_rj π)) = x_rf (fun k => ad (x_rk π k)) ks := by
  funext i
  have h : (ks.map (x_rj π)).getD i 0 = x_rj π (ks.getD i 0) := by
    simp only [List.getD, List.getElem?_map]
    cases ks[i]? <;> rfl
  unfold x_rf
  rw [h]
  cases ks.getD i 0 <;> rfl
theorem x_cell_rn (cc : ClassId × ClassId) (ad : Nat → Nat) (π : List Nat) (k : Nat) (sh : XSh) (row : Nat → Int32) : x_cell cc ad (x_rk π k) (x_rs π sh) row = x_cell cc (fun k => ad (x_rk π k)) k sh row := by
  match sh with
  | .inl n => rfl
  | .inr (.inl ks) =>
    show Sum.inl (cc.2, ((ks.map (x_rj π)).length, _)) = Sum.inl (cc.2, (ks.length, _))
    rw [List.length_map, x_rf_rn]
  | .inr (.inr o) =>
    show Sum.inr (o.1, x_fs ad (x_rk π k / 64) (o.2.map (x_rκ π)) row 0) = _
    rw [x_fs_rn]; rfl
def x_okc (π : List Nat) (shsL shs : XSs) : Bool := shsL.all (fun q => decide (x_lk shs (x_rk π q.1) = some (x_rs π q.2)) && decide (q.1 / 64 < π.length)) && (va_nd (shsL.map (fun q => x_rk π q.1)) && (shs.all (fun q => !(π.contains (q.1 / 64)) || (shsL.map (fun q => x_rk π q.1)).contains q.1) && va_nd π))
def x_cvr (π co : List Nat) (n : Nat) : Bool := (List.range n).all (fun g => π.contains g || co.contains g) && π.all (fun g => decide (g < n))
theorem x_cvr_out {π co : List Nat} {n : Nat} {hs hs2 : List Mem} (h : x_cvr π co n = true) (h1 : hs.length = n) (h2 : hs2.length = n) (hco : co.map (fun g => hs2.getD g (fun _ _ => 0)) = co.map (fun g => hs.getD g (fun _ _ => 0))) {g : Nat} (hg : g ∉ π) : hs2.getD g (fun _ _ => 0) = hs.getD g (fun _ _ => 0) := by
  by_cases hn : g < n
  · simp only [x_cvr, Bool.and_eq_true, List.all_eq_true] at h
    have h3 := h.1 g (List.mem_range.mpr hn)
    rcases Bool.or_eq_true_iff.mp h3 with h4 | h4
    · exact absurd (List.mem_of_elem_eq_true h4) hg
    · exact List.map_inj_left.mp hco g (List.mem_of_elem_eq_true h4)
  · have e1 : hs2[g]? = none := by rw [List.getElem?_eq_none_iff]; omega
    have e2 : hs[g]? = none := by rw [List.getElem?_eq_none_iff]; omega
    simp [List.getD, e1, e2]
theorem x_cvr_in {π : List Nat} {hs2 ms : List Mem} (h : π.map (fun g => hs2.getD g (fun _ _ => 0)) = ms) {j g : Nat} (hj : π[j]? = some g) : hs2.getD g (fun _ _ => 0) = ms.getD j (fun _ _ => 0) := by
  subst h
  simp only [List.getD, List.getElem?_map, hj, Option.map_some, Option.getD_some]
theorem x_hs_sel {π : List Nat} {hs : List Mem} {k : Nat} (h : k / 64 < π.length) : x_hs (π.map (fun g => hs.getD g (fun _ _ => 0))) k = x_hs hs (x_rk π k) := by
  unfold x_hs
  rw [x_rk_div, x_rk_mod]
  congr 1
  simp only [List.getD, List.getElem?_map, List.getElem?_eq_getElem h, Option.map_some, Option.getD_some]
/-- the callee's world, cut out of the caller's -/
theorem x_cut {D : va_G} {cc : ClassId × ClassId} {A : Nat → Prop} {ad : Nat → Nat} {π : List Nat} {shsL shs : XSs} {hsL hs : List Mem} {H : Heap} (hok : x_okc π shsL shs = true) (hsel : π.map (fun g => hs.getD g (fun _ _ => 0)) = hsL) (hP : va_P D vwCl (x_w cc ad shs hs) H) (hD : va_D A (x_w cc ad shs hs)) :
    va_P D vwCl (x_w cc (fun k => ad (x_rk π k)) shsL hsL) H ∧ va_D A (x_w cc (fun k => ad (x_rk π k)) shsL hsL) ∧ ∀ q, q < H.size → va_A (x_w cc (fun k => ad (x_rk π k)) shsL hsL) H.size q → A q := by
  simp only [x_okc, Bool.and_eq_true, List.all_eq_true, decide_eq_true_eq] at hok
  obtain ⟨h1, h2, h3, h4⟩ := hok
  have at1 : ∀ (j k : Nat) (sh : XSh), shsL[j]? = some (k, sh) → ∃ i : Nat, shs[i]? = some (x_rk π k, x_rs π sh) ∧ k / 64 < π.length := fun j k sh hj => by
    obtain ⟨e1, e2⟩ := h1 _ (List.mem_of_getElem? hj)
    obtain ⟨i, hi⟩ := x_lk_at e1
    exact ⟨i, hi, e2⟩
  subst hsel
  refine ⟨fun j q hq => ?_, ⟨fun i j p q hi hj hpq => ?_, fun j q hq => ?_⟩, fun q hq hA => ?_⟩
  · obtain ⟨k, sh, hj, rfl⟩ := x_w_of hq
    obtain ⟨i, hi, hb⟩ := at1 j k sh hj
    have := hP i _ (x_w_at hi)
    rw [x_cell_rn, ← x_hs_sel hb] at this
    exact this
  · obtain ⟨k, sh, h5, rfl⟩ := x_w_of hi
    obtain ⟨k2, sh2, h6, rfl⟩ := x_w_of hj
    obtain ⟨i1, g1, -⟩ := at1 _ _ _ h5
    obtain ⟨i2, g2, -⟩ := at1 _ _ _ h6
    have hii := x_uniq hD g1 g2 hpq
    subst hii
    have hkk : x_rk π k = x_rk π k2 := by rw [g1] at g2; exact congrArg (fun z => (z.getD (0, .inl 0)).1) g2
    exact va_nd_inj _ h2 i j (x_rk π k) (by rw [List.getElem?_map, h5]; rfl) (by rw [List.getElem?_map, h6, hkk]; rfl)
  · obtain ⟨k, sh, hj, rfl⟩ := x_w_of hq
    obtain ⟨i, hi, -⟩ := at1 j k sh hj
    have h9 := hD.2 i _ (x_w_at (cc := cc) (ad := ad) (hs := hs) hi)
    exact h9
  · rcases hA with ⟨j, e, hj⟩ | hA
    · obtain ⟨k, sh, hj2, he⟩ := x_w_of hj
      obtain ⟨i, hi, -⟩ := at1 j k sh hj2
      have h9 := hD.2 i _ (x_w_at (cc := cc) (ad := ad) (hs := hs) hi)
      have e1 : q = ad (x_rk π k) := congrArg Prod.fst he
      rw [e1]; exact h9
    · omega
/-- and put back -/
theorem x_back {D : va_G} {cc : ClassId × ClassId} {A : Nat → Prop} {ad : Nat → Nat} {π : List Nat} {shsL shs : XSs} {hsL hs hs2 ms : List Mem} {co : List Nat} {nn : Nat} {H H1 : Heap} (hok : x_okc π shsL shs = true) (hcv : x_cvr π co nn = true) (hln : hs.length = nn) (hln2 : hs2.length = nn) (hmg : π.map (fun g => hs2.getD g (fun _ _ => 0)) = ms) (hco : co.map (fun g => hs2.getD g (fun _ _ => 0)) = co.map (fun g => hs.getD g (fun _ _ => 0))) (hP : va_P D vwCl (x_w cc ad shs hs) H) (hD : va_D A (x_w cc ad shs hs))
    (hk : ∀ q : Nat, q < H.size → ¬ va_A (x_w cc (fun k => ad (x_rk π k)) shsL hsL) H.size q → H1[q]? = H[q]?) (hP1 : va_P D vwCl (x_w cc (fun k => ad (x_rk π k)) shsL ms) H1) : va_P D vwCl (x_w cc ad shs hs2) H1 := by
  simp only [x_okc, Bool.and_eq_true, List.all_eq_true, decide_eq_true_eq] at hok
  obtain ⟨h1, h2, h3, h4⟩ := hok
  intro i q hq
  obtain ⟨k, sh, hi, rfl⟩ := x_w_of hq
  by_cases hin : k ∈ shsL.map (fun q => x_rk π q.1)
  · obtain ⟨⟨kL, shL⟩, hm, rfl⟩ := List.mem_map.mp hin
    obtain ⟨j, hj⟩ := List.getElem?_of_mem hm
    obtain ⟨e1, e2⟩ := h1 _ hm
    obtain ⟨i2, hi2⟩ := x_lk_at e1
    have hii := x_uniq hD hi hi2 rfl
    subst hii
    have hsh : sh = x_rs π shL := by rw [hi] at hi2; exact congrArg (fun z => (z.getD (0, .inl 0)).2) hi2
    subst hsh
    have h5 := hP1 j _ (x_w_at (cc := cc) (ad := fun k => ad (x_rk π k)) (hs := ms) hj)
    have e3 : x_hs hs2 (x_rk π kL) = x_hs ms kL := by
      unfold x_hs
      rw [x_rk_div, x_rk_mod]
      have hg : π[kL / 64]? = some (π.getD (kL / 64) (kL / 64)) := by simp [List.getD, List.getElem?_eq_getElem e2]
      exact congrFun (x_cvr_in hmg hg) _
    rw [x_cell_rn, e3]
    exact h5
  · have hg : k / 64 ∉ π := fun hg => by
      have := h3 _ (List.mem_of_getElem? hi)
      have c1 : π.contains (k / 64) = true := List.elem_eq_true_of_mem hg
      simp only [c1, Bool.not_true, Bool.false_or] at this
      exact hin (List.mem_of_elem_eq_true this)
    have h5 := hP i _ (x_w_at hi)
    have hlt := h5.lt
    have hA : ¬ va_A (x_w cc (fun k => ad (x_rk π k)) shsL hsL) H.size (ad k) := by
      intro z
      rcases z with ⟨j, e, hj⟩ | z
      · obtain ⟨kL, shL, hj2, he⟩ := x_w_of hj
        obtain ⟨e1, e2⟩ := h1 _ (List.mem_of_getElem? hj2)
        obtain ⟨i2, hi2⟩ := x_lk_at e1
        have e3 : ad k = ad (x_rk π kL) := congrArg Prod.fst he
        have hii := x_uniq hD hi hi2 e3
        subst hii
        have hkk : k = x_rk π kL := by rw [hi] at hi2; exact congrArg (fun z => (z.getD (0, .inl 0)).1) hi2
        exact hin (List.mem_map.mpr ⟨(kL, shL), List.mem_of_getElem? hj2, hkk.symm⟩)
      · exact absurd hlt (Nat.not_lt.mpr z)
    have e3 : x_hs hs2 k = x_hs hs k := by
      unfold x_hs
      rw [x_cvr_out hcv hln hln2 hco hg]
    rw [e3]
    exact h5.kept (hk _ hlt hA)
section XCALL
variable {p : Program} {l : Launch} {e : Env} {R : Room} {s : State} {m : MethodId} {args : Array Value} {below : List Frame} {meth : Method} {c : Code} {H : Heap} {locs : List Loc} {cells slots : Nat} {Q : State → Prop} {pc : Nat} {ls : Array Slot} {rest st0 : List Value} {a : Array Value} {A0 : Nat → Prop} {H0 : Heap} {D : va_G} {cc : ClassId × ClassId}
/-- behind a call that makes no cell -/
theorem x_after {ad : Nat → Nat} {π : List Nat} {shsL shs : XSs} {hsL hs : List Mem} {rr : XR} (hr : va_Run p l e R s m args below meth c H locs cells slots 0 0 (F0 m pc ls st0) rest (XQ D cc (va_A (x_w cc (fun k => ad (x_rk π k)) shsL hsL) H.size) (fun k => ad (x_rk π k)) shsL shsL rr a) (va_A (x_w cc (fun k => ad (x_rk π k)) shsL hsL) H.size))
    (hok : x_okc π shsL shs = true) (hsel : π.map (fun g => hs.getD g (fun _ _ => 0)) = hsL) {hs2 : List Mem} {co : List Nat} {nn : Nat} (hcv : x_cvr π co nn = true) (hln : hs.length = nn) (hln2 : hs2.length = nn) (hmg : π.map (fun g => hs2.getD g (fun _ _ => 0)) = rr.2) (hco : co.map (fun g => hs2.getD g (fun _ _ => 0)) = co.map (fun g => hs.getD g (fun _ _ => 0))) (hP : va_P D vwCl (x_w cc ad shs hs) H) (hD : va_D A0 (x_w cc ad shs hs)) (hS : va_S A0 H0 H locs) (hA : ∀ q, H0.size ≤ q → A0 q)
    (kk : ∀ (H1 : Heap) (locs1 : List Loc), va_P D vwCl (x_w cc ad shs hs2) H1 → va_S A0 H0 H1 locs1 → W p l e R s m args below meth c H1 locs1 cells slots Q (F0 m (pc + 3) ls (((rr.1.map (x_rv π)).toList ).map (x_cv ad) ++ rest))) : W p l e R s m args below meth c H locs cells slots Q (F0 m pc ls st0) := by
  have hcut := x_cut hok hsel hP hD
  have hAA : ∀ q, va_A (x_w cc (fun k => ad (x_rk π k)) shsL hsL) H.size q → A0 q := fun q hq => by
    by_cases hz : q < H.size
    · exact hcut.2.2 q hz hq
    · exact hA q (Nat.le_trans hS.1 (Nat.not_lt.mp hz))
  intro T hT X
  obtain ⟨v, st₀, t, T', L, h0, X', hL, e1, e2, ⟨⟨ad', q1, hv, q2, q3, q4⟩, hz, hk⟩, st⟩ := hr T hT X
  have had : ad' = fun k => ad (x_rk π k) := funext fun k => q1 k (by by_cases z : x_lk shsL k = none; exact Or.inr z; exact Or.inl z)
  subst had
  have hv2 : v = rr.1.map (x_cv (fun k => ad (x_rk π k))) := by cases hv; rfl
  rw [h0] at hz hk
  have hP2 := x_back (hsL := hsL) hok hcv hln hln2 hmg hco hP hD hk q2
  have hvv : v.toList = ((rr.1.map (x_rv π)).toList).map (x_cv ad) := by
    rw [hv2]
    cases rr.1 with
    | none => rfl
    | some u => show [_] = [_]; rw [x_cv_rv]
  obtain ⟨t2, a1, b1⟩ := kk T'.heap (locs ++ L) (by rw [e1]; exact hP2)
    ⟨Nat.le_trans hS.1 (by rw [e1]; exact hz), fun q h1 h2 => by rw [e1, hk q (Nat.lt_of_lt_of_le h1 hS.1) (fun z => h2 (hAA q z))]; exact hS.2.1 q h1 h2, fun q hq => by
      rcases List.mem_append.mp hq with h | h
      · exact hS.2.2 q h
      · exact hAA _ (hL q h)⟩ T' rfl (by have := X'; rwa [Nat.add_zero, Nat.add_zero] at this)
  rw [← hvv] at a1
  exact ⟨t2, st t2 a1, b1⟩
/-- the callee's world is the caller's -/
theorem x_afteri {ad : Nat → Nat} {shs : XSs} {hs : List Mem} {rr : XR} (hr : va_Run p l e R s m args below meth c H locs cells slots 0 0 (F0 m pc ls st0) rest (XQ D cc (va_A (x_w cc ad shs hs) H.size) ad shs shs rr a) (va_A (x_w cc ad shs hs) H.size))
    (hP : va_P D vwCl (x_w cc ad shs hs) H) (hD : va_D A0 (x_w cc ad shs hs)) (hS : va_S A0 H0 H locs) (hA : ∀ q, H0.size ≤ q → A0 q)
    (kk : ∀ (H1 : Heap) (locs1 : List Loc), va_P D vwCl (x_w cc ad shs rr.2) H1 → va_S A0 H0 H1 locs1 → W p l e R s m args below meth c H1 locs1 cells slots Q (F0 m (pc + 3) ls (rr.1.toList.map (x_cv ad) ++ rest))) : W p l e R s m args below meth c H locs cells slots Q (F0 m pc ls st0) := by
  have hAA : ∀ q, va_A (x_w cc ad shs hs) H.size q → A0 q := fun q hq => by
    rcases hq with ⟨k, e, hk⟩ | hq
    · exact hD.2 k (q, e) hk
    · exact hA q (Nat.le_trans hS.1 hq)
  intro T hT X
  obtain ⟨v, st₀, t, T', L, h0, X', hL, e1, e2, ⟨⟨ad', q1, hv, q2, q3, q4⟩, hz, hk⟩, st⟩ := hr T hT X
  have had : ad' = ad := funext fun k => q1 k (by by_cases z : x_lk shs k = none; exact Or.inr z; exact Or.inl z)
  subst had
  have hv2 : v = rr.1.map (x_cv ad') := by cases hv; rfl
  rw [h0] at hz hk
  have hvv : v.toList = rr.1.toList.map (x_cv ad') := by
    rw [hv2]
    cases rr.1 <;> rfl
  obtain ⟨t2, a1, b1⟩ := kk T'.heap (locs ++ L) (by rw [e1]; exact q2)
    ⟨Nat.le_trans hS.1 (by rw [e1]; exact hz), fun q h1 h2 => by rw [e1, hk q (Nat.lt_of_lt_of_le h1 hS.1) (fun z => h2 (hAA q z))]; exact hS.2.1 q h1 h2, fun q hq => by
      rcases List.mem_append.mp hq with h | h
      · exact hS.2.2 q h
      · exact hAA _ (hL q h)⟩ T' rfl (by have := X'; rwa [Nat.add_zero, Nat.add_zero] at this)
  rw [← hvv] at a1
  exact ⟨t2, st t2 a1, b1⟩
end XCALL
theorem x_cat_map (ad : Nat → Nat) (st : List Value) : ((st.map (x_cv ad)).map fun v => v.category).sum = (st.map fun v => v.category).sum := by rw [List.map_map, show ((fun v : Value => v.category) ∘ x_cv ad) = (fun v => v.category) from funext fun v => x_cv_cat ad v]
theorem x_blind {D : va_G} {cc : ClassId × ClassId} {av : List Value} {ad : Nat → Nat} {sz : Nat} {shs : XSs} {hs : List Mem} : FrameBlind (va_Pc (av.map (x_cv ad)) (fun U => U.heap.size = sz ∧ va_P D vwCl (x_w cc ad shs hs) U.heap ∧ va_K D vwCl (x_tys cc) U ∧ va_D (fun _ => True) (x_w cc ad shs hs))) := fun a U g mk q => by
  obtain ⟨q0, q1, qP, qK, qD⟩ := q
  exact ⟨q0, q1, qP, va_K.moved (u := U) (U := U.calling g mk a) (Vm.Alike.refl U.vm) qK, qD⟩

theorem XE_callV {α R : Type} {B : XB} {M : XM} {Q : R → State → Prop} {pc n : Nat} {ls : XLs} {st : List Value} {cs : Nat × Nat} {shs : XSs} {hs : List Mem} {k : α → Option R} {τ : Type} {o1 : Option τ} {f : τ → Option α} {idx ni d maxL : Nat} {y : MethodName} {bytes : ByteArray} {ret : Option FieldType} {av As stk : List Value} {π : List Nat} {shsL : XSs} {hsL : List Mem} {rv : τ → Option Value} {hsR hs2 : τ → List Mem} {st2 : τ → List Value} {co : List Nat} {nn : Nat} {cv : List Mem} {C : String} {b ci : Nat} {κs : List Nat} (hx : XCV M.1 idx C y bytes maxL ret ni) (hM : ∀ l t, o1 = some t → XMet l y bytes maxL ret d 0 0 av shsL hsL shsL (rv t, hsR t)) (hav : av.map (x_rv π) = .ref b :: As) (hst : stk = As.reverse ++ .ref b :: st) (hni : As.length = ni) (hrc : x_lk shs b = some (.inr (.inr (ci, κs)))) (hcl : (vwCl[ci]?).map (fun q => q.1) = some C) (hd : decode M.2.1 pc = .ok (.invokevirtual idx, 3)) (hdp : d + 1 ≤ x_dp M) (hcs : cs.1 ≤ x_mc M ∧ cs.2 ≤ x_ms M) (hmL : maxL ≤ 21) (hcat : (st.map fun v => v.category).sum ≤ 8) (hok : x_okc π shsL shs = true) (hsel : π.map (fun g => hs.getD g (fun _ _ => 0)) = hsL) (hcv : x_cvr π co nn = true) (hln : hs.length = nn) (hln2 : ∀ t, (hs2 t).length = nn) (hmg : ∀ t, π.map (fun g => (hs2 t).getD g (fun _ _ => 0)) = hsR t) (hco : ∀ t, co.map (fun g => (hs2 t).getD g (fun _ _ => 0)) = cv) (hco2 : co.map (fun g => hs.getD g (fun _ _ => 0)) = cv) (hs2e : ∀ t, ((rv t).map (x_rv π)).toList ++ st = st2 t) (hn : pc + 3 = n) (kk : ∀ t, XE B M Q n ls (st2 t) cs shs (hs2 t) k (f t)) : XE B M Q pc ls stk cs shs hs k (o1.bind f) := by
  subst hn
  obtain ⟨p, l, e, Rm, s, m, args, below, meth, c, D, cc, A, H0, ad0, shs0⟩ := B
  intro hO ad H locs lsA hP hD hS hA hL r hr
  cases ho1 : o1 with
  | none => rw [ho1] at hr; cases hr
  | some t =>
  rw [ho1] at hr
  have hfr : x_dp M ≤ Rm.frames := hO.2.2.2.2.2.2.2.2.2.2.1
  have hlo : 40 * x_dp M ≤ Rm.locals := hO.2.2.2.2.2.2.2.2.2.2.2.1
  have hcl2 : cs.1 ≤ Rm.cells ∧ cs.2 ≤ Rm.slots := ⟨Nat.le_trans hcs.1 hO.2.2.2.2.2.2.2.2.2.2.2.2.2.1, Nat.le_trans hcs.2 hO.2.2.2.2.2.2.2.2.2.2.2.2.2.2⟩
  have hcut := x_cut hok hsel hP hD
  have hcode := List.mem_filter.mp hx.2.2.2.2.1
  subst hst
  obtain ⟨ib, hib⟩ := x_lk_at hrc
  obtain ⟨qc, hqc, hqC⟩ : ∃ q, vwCl[ci]? = some q ∧ q.1 = C := by
    cases z : vwCl[ci]? with
    | none => rw [z] at hcl; cases hcl
    | some q => rw [z] at hcl; exact ⟨q, rfl, Option.some.inj hcl⟩
  have hrecv : ∃ cell : Cell, H[ad b]? = some cell ∧ cell.vm.isStatics = false ∧ s.vm.findClass C = some cell.cls := by
    rw [← hqC]
    exact va_recv hO.2.2.2.2.2.1 hP (q0 := ib) (ci := ci) hqc (x_w_at hib)
  have hrun : va_Run p l e Rm s m args below meth c H locs cs.1 cs.2 0 0 (F0 m pc lsA ((As.reverse ++ .ref b :: st).map (x_cv ad))) (st.map (x_cv ad)) (XQ D cc (va_A (x_w cc (fun k => ad (x_rk π k)) shsL hsL) H.size) (fun k => ad (x_rk π k)) shsL shsL (rv t, hsR t) (Value.ref (ad b) :: As.map (x_cv ad)).toArray) (va_A (x_w cc (fun k => ad (x_rk π k)) shsL hsL) H.size) := by
    have hav2 : av.map (x_cv (fun k => ad (x_rk π k))) = (Value.ref (ad b) :: As.map (x_cv ad)) := by
      rw [show av.map (x_cv (fun k => ad (x_rk π k))) = (av.map (x_rv π)).map (x_cv ad) from by rw [List.map_map]; exact List.map_congr_left (fun v _ => (x_cv_rv ad π v).symm), hav] <;> rfl
    have hB : ∀ U : State, U.heap = H → s.WarmedH U.vm → va_Pc (av.map (x_cv (fun k => ad (x_rk π k)))) (fun U => U.heap.size = H.size ∧ va_P D vwCl (x_w cc (fun k => ad (x_rk π k)) shsL hsL) U.heap ∧ va_K D vwCl (x_tys cc) U ∧ va_D (fun _ => True) (x_w cc (fun k => ad (x_rk π k)) shsL hsL)) (Value.ref (ad b) :: As.map (x_cv ad)).toArray U := fun U hU hW => ⟨by rw [hav2], by rw [hU], by rw [hU]; exact hcut.1, va_K.moved hW.alike hO.2.2.2.2.2.1, hcut.2.1.weaken (fun _ _ _ _ => trivial)⟩
    have hzero : cs.1 + 0 ≤ Rm.cells ∧ cs.2 + 0 ≤ Rm.slots := ⟨hcl2.1, hcl2.2⟩
    exact va_runV (C := C) (b := ad b) (As := As.map (x_cv ad)) (n := ni) ⟨hO.1, hO.2.1, hO.2.2.1, hO.2.2.2.1, hO.2.2.2.2.1⟩ (hM l t ho1 D cc (fun k => ad (x_rk π k)) H.size) (cwV ni hO.2.2.2.2.1 (goodIn_tbl (fun w hw => by
        unfold wsV at hw
        simp only [List.cons_append, List.nil_append, List.mem_cons] at hw
        rcases hw with rfl | rfl | rfl | rfl | rfl | hw
        · exact hx.1
        · exact hx.2.1
        · exact hx.2.2.1
        · exact hx.2.2.2.1
        · exact hx.2.2.2.2.1
        · exact hw)) rfl rfl rfl hx.2.2.2.2.2 ⟨by show d + 1 ≤ Rm.frames; omega, by show 8 + (maxL + 11) + 40 * d ≤ Rm.locals; omega⟩) ⟨x_blind, hrecv, hB⟩ rfl (by rw [List.length_map]; exact hni) hL.size (by
        show ((As.reverse ++ Value.ref b :: st).map (x_cv ad)) = _
        rw [List.map_append, List.map_reverse]; rfl) (lv_room (by rw [x_cat_map]; exact hcat)) hd hzero
  refine x_after hrun hok hsel hcv hln (hln2 t) (hmg t) ((hco t).trans hco2.symm) hP hD hS hO.2.2.2.2.2.2.1 (fun H1 locs1 g1 g3 => ?_)
  have := kk t hO ad H1 locs1 lsA g1 (x_D_any hD) g3 hA hL r hr
  rw [← hs2e t, List.map_append] at this
  exact this
theorem XE_callS {α R : Type} {B : XB} {M : XM} {Q : R → State → Prop} {pc n : Nat} {ls : XLs} {st : List Value} {cs : Nat × Nat} {shs : XSs} {hs : List Mem} {k : α → Option R} {τ : Type} {o1 : Option τ} {f : τ → Option α} {idx ni d maxL : Nat} {y : MethodName} {bytes : ByteArray} {ret : Option FieldType} {av As stk : List Value} {π : List Nat} {shsL : XSs} {hsL : List Mem} {rv : τ → Option Value} {hsR hs2 : τ → List Mem} {st2 : τ → List Value} {co : List Nat} {nn : Nat} {cv : List Mem} (hx : XCS M.1 idx y bytes maxL ret ni) (hM : ∀ l t, o1 = some t → XMet l y bytes maxL ret d 0 0 av shsL hsL shsL (rv t, hsR t)) (hav : av.map (x_rv π) = As) (hst : stk = As.reverse ++ st) (hni : As.length = ni) (hd : decode M.2.1 pc = .ok (.invokestatic idx, 3)) (hdp : d + 1 ≤ x_dp M) (hcs : cs.1 ≤ x_mc M ∧ cs.2 ≤ x_ms M) (hmL : maxL ≤ 21) (hcat : (st.map fun v => v.category).sum ≤ 8) (hok : x_okc π shsL shs = true) (hsel : π.map (fun g => hs.getD g (fun _ _ => 0)) = hsL) (hcv : x_cvr π co nn = true) (hln : hs.length = nn) (hln2 : ∀ t, (hs2 t).length = nn) (hmg : ∀ t, π.map (fun g => (hs2 t).getD g (fun _ _ => 0)) = hsR t) (hco : ∀ t, co.map (fun g => (hs2 t).getD g (fun _ _ => 0)) = cv) (hco2 : co.map (fun g => hs.getD g (fun _ _ => 0)) = cv) (hs2e : ∀ t, ((rv t).map (x_rv π)).toList ++ st = st2 t) (hn : pc + 3 = n) (kk : ∀ t, XE B M Q n ls (st2 t) cs shs (hs2 t) k (f t)) : XE B M Q pc ls stk cs shs hs k (o1.bind f) := by
  subst hn
  obtain ⟨p, l, e, Rm, s, m, args, below, meth, c, D, cc, A, H0, ad0, shs0⟩ := B
  intro hO ad H locs lsA hP hD hS hA hL r hr
  cases ho1 : o1 with
  | none => rw [ho1] at hr; cases hr
  | some t =>
  rw [ho1] at hr
  have hfr : x_dp M ≤ Rm.frames := hO.2.2.2.2.2.2.2.2.2.2.1
  have hlo : 40 * x_dp M ≤ Rm.locals := hO.2.2.2.2.2.2.2.2.2.2.2.1
  have hcl2 : cs.1 ≤ Rm.cells ∧ cs.2 ≤ Rm.slots := ⟨Nat.le_trans hcs.1 hO.2.2.2.2.2.2.2.2.2.2.2.2.2.1, Nat.le_trans hcs.2 hO.2.2.2.2.2.2.2.2.2.2.2.2.2.2⟩
  have hcut := x_cut hok hsel hP hD
  have hcode := List.mem_filter.mp hx.2.2.2.1
  subst hst
  have hrun : va_Run p l e Rm s m args below meth c H locs cs.1 cs.2 0 0 (F0 m pc lsA ((As.reverse ++ st).map (x_cv ad))) (st.map (x_cv ad)) (XQ D cc (va_A (x_w cc (fun k => ad (x_rk π k)) shsL hsL) H.size) (fun k => ad (x_rk π k)) shsL shsL (rv t, hsR t) (As.map (x_cv ad)).toArray) (va_A (x_w cc (fun k => ad (x_rk π k)) shsL hsL) H.size) := by
    have hav2 : av.map (x_cv (fun k => ad (x_rk π k))) = (As.map (x_cv ad)) := by
      rw [show av.map (x_cv (fun k => ad (x_rk π k))) = (av.map (x_rv π)).map (x_cv ad) from by rw [List.map_map]; exact List.map_congr_left (fun v _ => (x_cv_rv ad π v).symm), hav] <;> rfl
    have hB : ∀ U : State, U.heap = H → s.WarmedH U.vm → va_Pc (av.map (x_cv (fun k => ad (x_rk π k)))) (fun U => U.heap.size = H.size ∧ va_P D vwCl (x_w cc (fun k => ad (x_rk π k)) shsL hsL) U.heap ∧ va_K D vwCl (x_tys cc) U ∧ va_D (fun _ => True) (x_w cc (fun k => ad (x_rk π k)) shsL hsL)) (As.map (x_cv ad)).toArray U := fun U hU hW => ⟨by rw [hav2], by rw [hU], by rw [hU]; exact hcut.1, va_K.moved hW.alike hO.2.2.2.2.2.1, hcut.2.1.weaken (fun _ _ _ _ => trivial)⟩
    have hzero : cs.1 + 0 ≤ Rm.cells ∧ cs.2 + 0 ≤ Rm.slots := ⟨hcl2.1, hcl2.2⟩
    exact va_runS (As := As.map (x_cv ad)) (n := ni) ⟨hO.1, hO.2.1, hO.2.2.1, hO.2.2.2.1, hO.2.2.2.2.1⟩ (hM l t ho1 D cc (fun k => ad (x_rk π k)) H.size) (va_cwS ni hO.2.2.2.2.1 (goodIn_tbl (fun w hw => by
        unfold va_wsS at hw
        simp only [List.cons_append, List.nil_append, List.mem_cons] at hw
        rcases hw with rfl | rfl | rfl | rfl | hw
        · exact hx.1
        · exact hx.2.1
        · exact hx.2.2.1
        · exact hx.2.2.2.1
        · exact hw)) rfl rfl rfl hx.2.2.2.2 ⟨by show d + 1 ≤ Rm.frames; omega, by show 8 + (maxL + 11) + 40 * d ≤ Rm.locals; omega⟩) ⟨x_blind, hB⟩ rfl (by rw [List.length_map]; exact hni) hL.size (by
        show ((As.reverse ++ st).map (x_cv ad)) = _
        rw [List.map_append, List.map_reverse]) (lv_room (by rw [x_cat_map]; exact hcat)) hd hzero
  refine x_after hrun hok hsel hcv hln (hln2 t) (hmg t) ((hco t).trans hco2.symm) hP hD hS hO.2.2.2.2.2.2.1 (fun H1 locs1 g1 g3 => ?_)
  have := kk t hO ad H1 locs1 lsA g1 (x_D_any hD) g3 hA hL r hr
  rw [← hs2e t, List.map_append] at this
  exact this
theorem XE_callVi {α R : Type} {B : XB} {M : XM} {Q : R → State → Prop} {pc n : Nat} {ls : XLs} {st : List Value} {cs : Nat × Nat} {shs : XSs} {hs : List Mem} {k : α → Option R} {τ : Type} {o1 : Option τ} {f : τ → Option α} {idx ni d maxL : Nat} {y : MethodName} {bytes : ByteArray} {ret : Option FieldType} {As stk : List Value} {rv : τ → Option Value} {hsR : τ → List Mem} {st2 : τ → List Value} {C : String} {b ci : Nat} {κs : List Nat} (hx : XCV M.1 idx C y bytes maxL ret ni) (hM : ∀ l t, o1 = some t → XMet l y bytes maxL ret d 0 0 (.ref b :: As) shs hs shs (rv t, hsR t)) (hst : stk = As.reverse ++ .ref b :: st) (hni : As.length = ni) (hrc : x_lk shs b = some (.inr (.inr (ci, κs)))) (hcl : (vwCl[ci]?).map (fun q => q.1) = some C) (hd : decode M.2.1 pc = .ok (.invokevirtual idx, 3)) (hdp : d + 1 ≤ x_dp M) (hcs : cs.1 ≤ x_mc M ∧ cs.2 ≤ x_ms M) (hmL : maxL ≤ 21) (hcat : (st.map fun v => v.category).sum ≤ 8) (hs2e : ∀ t, (rv t).toList ++ st = st2 t) (hn : pc + 3 = n) (kk : ∀ t, XE B M Q n ls (st2 t) cs shs (hsR t) k (f t)) : XE B M Q pc ls stk cs shs hs k (o1.bind f) := by
  subst hn
  obtain ⟨p, l, e, Rm, s, m, args, below, meth, c, D, cc, A, H0, ad0, shs0⟩ := B
  intro hO ad H locs lsA hP hD hS hA hL r hr
  cases ho1 : o1 with
  | none => rw [ho1] at hr; cases hr
  | some t =>
  rw [ho1] at hr
  have hfr : x_dp M ≤ Rm.frames := hO.2.2.2.2.2.2.2.2.2.2.1
  have hlo : 40 * x_dp M ≤ Rm.locals := hO.2.2.2.2.2.2.2.2.2.2.2.1
  have hcl2 : cs.1 ≤ Rm.cells ∧ cs.2 ≤ Rm.slots := ⟨Nat.le_trans hcs.1 hO.2.2.2.2.2.2.2.2.2.2.2.2.2.1, Nat.le_trans hcs.2 hO.2.2.2.2.2.2.2.2.2.2.2.2.2.2⟩
  have hcode := List.mem_filter.mp hx.2.2.2.2.1
  subst hst
  obtain ⟨ib, hib⟩ := x_lk_at hrc
  obtain ⟨qc, hqc, hqC⟩ : ∃ q, vwCl[ci]? = some q ∧ q.1 = C := by
    cases z : vwCl[ci]? with
    | none => rw [z] at hcl; cases hcl
    | some q => rw [z] at hcl; exact ⟨q, rfl, Option.some.inj hcl⟩
  have hrecv : ∃ cell : Cell, H[ad b]? = some cell ∧ cell.vm.isStatics = false ∧ s.vm.findClass C = some cell.cls := by
    rw [← hqC]
    exact va_recv hO.2.2.2.2.2.1 hP (q0 := ib) (ci := ci) hqc (x_w_at hib)
  have hrun : va_Run p l e Rm s m args below meth c H locs cs.1 cs.2 0 0 (F0 m pc lsA ((As.reverse ++ .ref b :: st).map (x_cv ad))) (st.map (x_cv ad)) (XQ D cc (va_A (x_w cc ad shs hs) H.size) ad shs shs (rv t, hsR t) (Value.ref (ad b) :: As.map (x_cv ad)).toArray) (va_A (x_w cc ad shs hs) H.size) := by
    have hB : ∀ U : State, U.heap = H → s.WarmedH U.vm → va_Pc ((.ref b :: As).map (x_cv ad)) (fun U => U.heap.size = H.size ∧ va_P D vwCl (x_w cc ad shs hs) U.heap ∧ va_K D vwCl (x_tys cc) U ∧ va_D (fun _ => True) (x_w cc ad shs hs)) (Value.ref (ad b) :: As.map (x_cv ad)).toArray U := fun U hU hW => ⟨rfl, by rw [hU], by rw [hU]; exact hP, va_K.moved hW.alike hO.2.2.2.2.2.1, hD.weaken (fun _ _ _ _ => trivial)⟩
    have hzero : cs.1 + 0 ≤ Rm.cells ∧ cs.2 + 0 ≤ Rm.slots := ⟨hcl2.1, hcl2.2⟩
    exact va_runV (C := C) (b := ad b) (As := As.map (x_cv ad)) (n := ni) ⟨hO.1, hO.2.1, hO.2.2.1, hO.2.2.2.1, hO.2.2.2.2.1⟩ (hM l t ho1 D cc ad H.size) (cwV ni hO.2.2.2.2.1 (goodIn_tbl (fun w hw => by
        unfold wsV at hw
        simp only [List.cons_append, List.nil_append, List.mem_cons] at hw
        rcases hw with rfl | rfl | rfl | rfl | rfl | hw
        · exact hx.1
        · exact hx.2.1
        · exact hx.2.2.1
        · exact hx.2.2.2.1
        · exact hx.2.2.2.2.1
        · exact hw)) rfl rfl rfl hx.2.2.2.2.2 ⟨by show d + 1 ≤ Rm.frames; omega, by show 8 + (maxL + 11) + 40 * d ≤ Rm.locals; omega⟩) ⟨x_blind, hrecv, hB⟩ rfl (by rw [List.length_map]; exact hni) hL.size (by
        show ((As.reverse ++ Value.ref b :: st).map (x_cv ad)) = _
        rw [List.map_append, List.map_reverse]; rfl) (lv_room (by rw [x_cat_map]; exact hcat)) hd hzero
  refine x_afteri hrun hP hD hS hO.2.2.2.2.2.2.1 (fun H1 locs1 g1 g3 => ?_)
  have := kk t hO ad H1 locs1 lsA g1 (x_D_any hD) g3 hA hL r hr
  rw [← hs2e t, List.map_append] at this
  exact this
theorem XE_callSi {α R : Type} {B : XB} {M : XM} {Q : R → State → Prop} {pc n : Nat} {ls : XLs} {st : List Value} {cs : Nat × Nat} {shs : XSs} {hs : List Mem} {k : α → Option R} {τ : Type} {o1 : Option τ} {f : τ → Option α} {idx ni d maxL : Nat} {y : MethodName} {bytes : ByteArray} {ret : Option FieldType} {As stk : List Value} {rv : τ → Option Value} {hsR : τ → List Mem} {st2 : τ → List Value} (hx : XCS M.1 idx y bytes maxL ret ni) (hM : ∀ l t, o1 = some t → XMet l y bytes maxL ret d 0 0 (As) shs hs shs (rv t, hsR t)) (hst : stk = As.reverse ++ st) (hni : As.length = ni) (hd : decode M.2.1 pc = .ok (.invokestatic idx, 3)) (hdp : d + 1 ≤ x_dp M) (hcs : cs.1 ≤ x_mc M ∧ cs.2 ≤ x_ms M) (hmL : maxL ≤ 21) (hcat : (st.map fun v => v.category).sum ≤ 8) (hs2e : ∀ t, (rv t).toList ++ st = st2 t) (hn : pc + 3 = n) (kk : ∀ t, XE B M Q n ls (st2 t) cs shs (hsR t) k (f t)) : XE B M Q pc ls stk cs shs hs k (o1.bind f) := by
  subst hn
  obtain ⟨p, l, e, Rm, s, m, args, below, meth, c, D, cc, A, H0, ad0, shs0⟩ := B
  intro hO ad H locs lsA hP hD hS hA hL r hr
  cases ho1 : o1 with
  | none => rw [ho1] at hr; cases hr
  | some t =>
  rw [ho1] at hr
  have hfr : x_dp M ≤ Rm.frames := hO.2.2.2.2.2.2.2.2.2.2.1
  have hlo : 40 * x_dp M ≤ Rm.locals := hO.2.2.2.2.2.2.2.2.2.2.2.1
  have hcl2 : cs.1 ≤ Rm.cells ∧ cs.2 ≤ Rm.slots := ⟨Nat.le_trans hcs.1 hO.2.2.2.2.2.2.2.2.2.2.2.2.2.1, Nat.le_trans hcs.2 hO.2.2.2.2.2.2.2.2.2.2.2.2.2.2⟩
  have hcode := List.mem_filter.mp hx.2.2.2.1
  subst hst
  have hrun : va_Run p l e Rm s m args below meth c H locs cs.1 cs.2 0 0 (F0 m pc lsA ((As.reverse ++ st).map (x_cv ad))) (st.map (x_cv ad)) (XQ D cc (va_A (x_w cc ad shs hs) H.size) ad shs shs (rv t, hsR t) (As.map (x_cv ad)).toArray) (va_A (x_w cc ad shs hs) H.size) := by
    have hB : ∀ U : State, U.heap = H → s.WarmedH U.vm → va_Pc ((As).map (x_cv ad)) (fun U => U.heap.size = H.size ∧ va_P D vwCl (x_w cc ad shs hs) U.heap ∧ va_K D vwCl (x_tys cc) U ∧ va_D (fun _ => True) (x_w cc ad shs hs)) (As.map (x_cv ad)).toArray U := fun U hU hW => ⟨rfl, by rw [hU], by rw [hU]; exact hP, va_K.moved hW.alike hO.2.2.2.2.2.1, hD.weaken (fun _ _ _ _ => trivial)⟩
    have hzero : cs.1 + 0 ≤ Rm.cells ∧ cs.2 + 0 ≤ Rm.slots := ⟨hcl2.1, hcl2.2⟩
    exact va_runS (As := As.map (x_cv ad)) (n := ni) ⟨hO.1, hO.2.1, hO.2.2.1, hO.2.2.2.1, hO.2.2.2.2.1⟩ (hM l t ho1 D cc ad H.size) (va_cwS ni hO.2.2.2.2.1 (goodIn_tbl (fun w hw => by
        unfold va_wsS at hw
        simp only [List.cons_append, List.nil_append, List.mem_cons] at hw
        rcases hw with rfl | rfl | rfl | rfl | hw
        · exact hx.1
        · exact hx.2.1
        · exact hx.2.2.1
        · exact hx.2.2.2.1
        · exact hw)) rfl rfl rfl hx.2.2.2.2 ⟨by show d + 1 ≤ Rm.frames; omega, by show 8 + (maxL + 11) + 40 * d ≤ Rm.locals; omega⟩) ⟨x_blind, hB⟩ rfl (by rw [List.length_map]; exact hni) hL.size (by
        show ((As.reverse ++ st).map (x_cv ad)) = _
        rw [List.map_append, List.map_reverse]) (lv_room (by rw [x_cat_map]; exact hcat)) hd hzero
  refine x_afteri hrun hP hD hS hO.2.2.2.2.2.2.1 (fun H1 locs1 g1 g3 => ?_)
  have := kk t hO ad H1 locs1 lsA g1 (x_D_any hD) g3 hA hL r hr
  rw [← hs2e t, List.map_append] at this
  exact this
theorem XE_ireturn {α : Type} {B : XB} {M : XM} {pc : Nat} {ls : XLs} {mc ms c0 s0 : Nat} {shs : XSs} {hs : List Mem} {k : α → Option XR} {t : α} {v : Int32} (hm : M.2.2.2.1 = some .int) (hd : decode M.2.1 pc = .ok (.ireturn, 1)) (hk : k t = some ((some (.int v)), hs)) (hc : c0 ≤ mc) (hs0 : s0 ≤ ms) : XE B M (XQm B mc ms shs) pc ls [.int v] (c0, s0) shs hs k (some t) := by
  obtain ⟨p, l, e, Rm, s, m, args, below, meth, c, D, cc, A, H0, ad0, shs0⟩ := B
  intro hO ad H locs lsA hP hD hS hA hL r hr
  have hr2 : k t = some r := hr
  rw [hk] at hr2
  cases hr2
  have hH0 : H0 = s.heap := hO.2.2.2.2.2.2.2.2.2.2.2.2.1
  subst hH0
  refine W.widen (k := mc) (n := ms) hc hs0 ?_
  exact W.iret (Qc := XQ D cc A ad0 shs0 shs ((some (.int v)), hs)) hO.1 hO.2.1 (hO.2.2.2.2.2.2.2.1.trans hm) (fun t ht hW => ⟨⟨ad, hA.2, rfl, by rw [ht]; exact hP, va_K.moved hW.alike hO.2.2.2.2.2.1, hD⟩, hS.F ht⟩) hS.2.2 hd hO.2.2.2.2.2.2.2.2.2.1
theorem XE_zreturn {α : Type} {B : XB} {M : XM} {pc : Nat} {ls : XLs} {mc ms c0 s0 : Nat} {shs : XSs} {hs : List Mem} {k : α → Option XR} {t : α} {v : Int32} (hz : isb v = true) (hm : M.2.2.2.1 = some .boolean) (hd : decode M.2.1 pc = .ok (.ireturn, 1)) (hk : k t = some ((some (.int v)), hs)) (hc : c0 ≤ mc) (hs0 : s0 ≤ ms) : XE B M (XQm B mc ms shs) pc ls [.int v] (c0, s0) shs hs k (some t) := by
  obtain ⟨p, l, e, Rm, s, m, args, below, meth, c, D, cc, A, H0, ad0, shs0⟩ := B
  intro hO ad H locs lsA hP hD hS hA hL r hr
  have hr2 : k t = some r := hr
  rw [hk] at hr2
  cases hr2
  have hH0 : H0 = s.heap := hO.2.2.2.2.2.2.2.2.2.2.2.2.1
  subst hH0
  refine W.widen (k := mc) (n := ms) hc hs0 ?_
  exact W.zret (Qc := XQ D cc A ad0 shs0 shs ((some (.int v)), hs)) hO.1 hO.2.1 (hO.2.2.2.2.2.2.2.1.trans hm) (narrow_isb hz) (fun t ht hW => ⟨⟨ad, hA.2, rfl, by rw [ht]; exact hP, va_K.moved hW.alike hO.2.2.2.2.2.1, hD⟩, hS.F ht⟩) hS.2.2 hd hO.2.2.2.2.2.2.2.2.2.1
theorem XE_lreturn {α : Type} {B : XB} {M : XM} {pc : Nat} {ls : XLs} {mc ms c0 s0 : Nat} {shs : XSs} {hs : List Mem} {k : α → Option XR} {t : α} {v : Int64} (hm : M.2.2.2.1 = some .long) (hd : decode M.2.1 pc = .ok (.lreturn, 1)) (hk : k t = some ((some (.long v)), hs)) (hc : c0 ≤ mc) (hs0 : s0 ≤ ms) : XE B M (XQm B mc ms shs) pc ls [.long v] (c0, s0) shs hs k (some t) := by
  obtain ⟨p, l, e, Rm, s, m, args, below, meth, c, D, cc, A, H0, ad0, shs0⟩ := B
  intro hO ad H locs lsA hP hD hS hA hL r hr
  have hr2 : k t = some r := hr
  rw [hk] at hr2
  cases hr2
  have hH0 : H0 = s.heap := hO.2.2.2.2.2.2.2.2.2.2.2.2.1
  subst hH0
  refine W.widen (k := mc) (n := ms) hc hs0 ?_
  exact W.lret (Qc := XQ D cc A ad0 shs0 shs ((some (.long v)), hs)) hO.1 hO.2.1 (hO.2.2.2.2.2.2.2.1.trans hm) (fun t ht hW => ⟨⟨ad, hA.2, rfl, by rw [ht]; exact hP, va_K.moved hW.alike hO.2.2.2.2.2.1, hD⟩, hS.F ht⟩) hS.2.2 hd hO.2.2.2.2.2.2.2.2.2.1
theorem XE_vreturn {α : Type} {B : XB} {M : XM} {pc : Nat} {ls : XLs} {mc ms c0 s0 : Nat} {shs : XSs} {hs : List Mem} {k : α → Option XR} {t : α}  (hm : M.2.2.2.1 = none) (hd : decode M.2.1 pc = .ok (.return_, 1)) (hk : k t = some (none, hs)) (hc : c0 ≤ mc) (hs0 : s0 ≤ ms) : XE B M (XQm B mc ms shs) pc ls [] (c0, s0) shs hs k (some t) := by
  obtain ⟨p, l, e, Rm, s, m, args, below, meth, c, D, cc, A, H0, ad0, shs0⟩ := B
  intro hO ad H locs lsA hP hD hS hA hL r hr
  have hr2 : k t = some r := hr
  rw [hk] at hr2
  cases hr2
  have hH0 : H0 = s.heap := hO.2.2.2.2.2.2.2.2.2.2.2.2.1
  subst hH0
  refine W.widen (k := mc) (n := ms) hc hs0 ?_
  exact W.vret (Qc := XQ D cc A ad0 shs0 shs (none, hs)) hO.1 hO.2.1 (hO.2.2.2.2.2.2.2.1.trans hm) (fun t ht hW => ⟨⟨ad, hA.2, rfl, by rw [ht]; exact hP, va_K.moved hW.alike hO.2.2.2.2.2.1, hD⟩, hS.F ht⟩) hS.2.2 hd hO.2.2.2.2.2.2.2.2.2.1
theorem XE_areturn {α : Type} {B : XB} {M : XM} {pc : Nat} {ls : XLs} {mc ms c0 s0 : Nat} {shs : XSs} {hs : List Mem} {k : α → Option XR} {t : α} {v : Nat} {rt : FieldType} (hrt : (∃ z, rt = .object z) ∨ ∃ t, rt = .array t) (hm : M.2.2.2.1 = some rt) (hd : decode M.2.1 pc = .ok (.areturn, 1)) (hk : k t = some ((some (.ref v)), hs)) (hc : c0 ≤ mc) (hs0 : s0 ≤ ms) : XE B M (XQm B mc ms shs) pc ls [.ref v] (c0, s0) shs hs k (some t) := by
  obtain ⟨p, l, e, Rm, s, m, args, below, meth, c, D, cc, A, H0, ad0, shs0⟩ := B
  intro hO ad H locs lsA hP hD hS hA hL r hr
  have hr2 : k t = some r := hr
  rw [hk] at hr2
  cases hr2
  have hH0 : H0 = s.heap := hO.2.2.2.2.2.2.2.2.2.2.2.2.1
  subst hH0
  refine W.widen (k := mc) (n := ms) hc hs0 ?_
  exact W.aret (Qc := XQ D cc A ad0 shs0 shs ((some (.ref v)), hs)) hO.1 hO.2.1 (hO.2.2.2.2.2.2.2.1.trans hm) hrt (Or.inr ⟨_, rfl⟩) (fun t ht hW => ⟨⟨ad, hA.2, rfl, by rw [ht]; exact hP, va_K.moved hW.alike hO.2.2.2.2.2.1, hD⟩, hS.F ht⟩) hS.2.2 hd hO.2.2.2.2.2.2.2.2.2.1
